/-! THE METHODS AS FUNCTIONS (by gen.py, from their bytecode) -/
def jushr (x y : Int32) : Int32 := (x.toUInt32 >>> (y.toUInt32 &&& Int32.toUInt32 31)).toInt32
def f_J6_bitCount_0f7a4 (σ : GM) (v0 : Int32) : Option Int32 :=
  nm (v0 - ((jushr v0 (1 : Int32)) &&& (1431655765 : Int32))) fun v0_1 =>
  nm ((v0_1 &&& (858993459 : Int32)) + ((jushr v0_1 (2 : Int32)) &&& (858993459 : Int32))) fun v0_2 =>
  nm ((v0_2 + (jushr v0_2 (4 : Int32))) &&& (252645135 : Int32)) fun v0_3 =>
  nm (v0_3 + (jushr v0_3 (8 : Int32))) fun v0_4 =>
  nm (v0_4 + (jushr v0_4 (16 : Int32))) fun v0_5 =>
  some (v0_5 &&& (63 : Int32))
def f_X3_empty_L22 (n : Nat) : Nat → GM → Int32 → Option GM
  | 0, _, _ => none
  | k + 1, σ, v1 =>
    if (144 : Int32) ≤ v1 then
      some σ
    else
      bnd v1 144 <|
      nm (wI σ (n + 2) v1.toNatClampNeg (0 : Int32)) fun σ_7 =>
      nm (v1 + (1 : Int32)) fun v1_8 =>
      f_X3_empty_L22 n k σ_7 v1_8
def f_X3_empty (σ : GM) (n : Nat) : Option GM :=
  nm (wI σ n 2 (0 : Int32)) fun σ_1 =>
  nm (wI σ_1 n 3 (0 : Int32)) fun σ_2 =>
  nm (wI σ_2 n 4 (0 : Int32)) fun σ_3 =>
  nm (wI σ_3 n 5 (0 : Int32)) fun σ_4 =>
  f_X3_empty_L22 n 5000 σ_4 (0 : Int32)
def f_X3_copyFrom_L72 (n : Nat) (o : Nat) : Nat → GM → Int32 → Option GM
  | 0, _, _ => none
  | k + 1, σ, v2 =>
    if (144 : Int32) ≤ v2 then
      some σ
    else
      if (144 : Int32) ≤ v2 then
        some σ
      else
        bnd v2 144 <|
        bnd v2 144 <|
        nm (wI σ (n + 2) v2.toNatClampNeg (σ.1 (o + 2) v2.toNatClampNeg)) fun σ_10 =>
        nm (v2 + (1 : Int32)) fun v2_11 =>
        f_X3_copyFrom_L72 n o k σ_10 v2_11
def f_X3_copyFrom_L34 (n : Nat) (o : Nat) : Nat → GM → Int32 → Option GM
  | 0, _, _ => none
  | k + 1, σ, v2 =>
    if (12 : Int32) ≤ v2 then
      f_X3_copyFrom_L72 n o 5000 σ (0 : Int32)
    else
      if (12 : Int32) ≤ v2 then
        f_X3_copyFrom_L72 n o 5000 σ (0 : Int32)
      else
        bnd v2 12 <|
        bnd v2 12 <|
        nm (wI σ (n + 1) v2.toNatClampNeg (σ.1 (o + 1) v2.toNatClampNeg)) fun σ_15 =>
        nm (v2 + (1 : Int32)) fun v2_16 =>
        f_X3_copyFrom_L34 n o k σ_15 v2_16
def f_X3_copyFrom (σ : GM) (n : Nat) (o : Nat) : Option GM :=
  nm (wI σ n 2 (σ.1 o 2)) fun σ_1 =>
  nm (wI σ_1 n 3 (σ_1.1 o 3)) fun σ_2 =>
  nm (wI σ_2 n 4 (σ_2.1 o 4)) fun σ_3 =>
  nm (wI σ_3 n 5 (σ_3.1 o 5)) fun σ_4 =>
  f_X3_copyFrom_L34 n o 5000 σ_4 (0 : Int32)
def f_X3_holds (σ : GM) (v0 : Int32) (v1 : Int32) : Option Int32 :=
  if v1 < (0 : Int32) then
    some ((0 : Int32) &&& 1)
  else
    if (12 : Int32) ≤ v1 then
      some ((0 : Int32) &&& 1)
    else
      if ((v0 >>> (v1 &&& 31)) &&& (1 : Int32)) = (0 : Int32) then
        some ((0 : Int32) &&& 1)
      else
        some ((1 : Int32) &&& 1)
def f_X3_isThere (σ : GM) (n : Nat) (v1 : Int32) : Option Int32 :=
  ob (f_X3_holds σ (σ.1 n 3) v1) fun r_1 =>
  some (r_1 &&& 1)
def f_X3_areThere (σ : GM) (n : Nat) (v1 : Int32) : Option Int32 :=
  if (v1 &&& ((σ.1 n 3) ^^^ (-1 : Int32))) = (0 : Int32) then
    some ((1 : Int32) &&& 1)
  else
    some ((0 : Int32) &&& 1)
def f_X3_addPoint (σ : GM) (n : Nat) : Option GM :=
  if (σ.1 n 2) < (0 : Int32) then
    some σ
  else
    if (12 : Int32) ≤ (σ.1 n 2) then
      some σ
    else
      bnd (σ.1 n 2) 12 <|
      nm (wI σ (n + 1) (σ.1 n 2).toNatClampNeg (1 : Int32)) fun σ_4 =>
      nm (wI σ_4 n 3 ((σ_4.1 n 3) ||| ((1 : Int32) <<< ((σ_4.1 n 2) &&& 31)))) fun σ_5 =>
      nm (wI σ_5 n 2 ((σ_5.1 n 2) + (1 : Int32))) fun σ_6 =>
      some σ_6
def f_X3_weightOf (σ : GM) (n : Nat) (v1 : Int32) : Option Int32 :=
  if v1 < (0 : Int32) then
    some (0 : Int32)
  else
    if (12 : Int32) ≤ v1 then
      some (0 : Int32)
    else
      bnd v1 12 <|
      some (σ.1 (n + 1) v1.toNatClampNeg)
def f_X3_weightOfSet_L4 (σ : GM) (n : Nat) (v1 : Int32) : Nat → Int32 → Int32 → Option Int32
  | 0, _, _ => none
  | k + 1, v2, v3 =>
    if (12 : Int32) ≤ v3 then
      some v2
    else
      ob (f_X3_holds σ v1 v3) fun r_2 =>
      if r_2 = (0 : Int32) then
        nm (v3 + (1 : Int32)) fun v3_5 =>
        f_X3_weightOfSet_L4 σ n v1 k v2 v3_5
      else
        ob (f_X3_weightOf σ n v3) fun r_6 =>
        nm (v2 + r_6) fun v2_8 =>
        nm (v3 + (1 : Int32)) fun v3_9 =>
        f_X3_weightOfSet_L4 σ n v1 k v2_8 v3_9
def f_X3_weightOfSet (σ : GM) (n : Nat) (v1 : Int32) : Option Int32 :=
  f_X3_weightOfSet_L4 σ n v1 5000 (0 : Int32) (0 : Int32)
def f_X3_linesOf (σ : GM) (n : Nat) (v1 : Int32) (v2 : Int32) : Option Int32 :=
  nm ((v1 * (12 : Int32)) + v2) fun v3_1 =>
  if v1 < (0 : Int32) then
    some (0 : Int32)
  else
    if (12 : Int32) ≤ v1 then
      some (0 : Int32)
    else
      if v2 < (0 : Int32) then
        some (0 : Int32)
      else
        if (12 : Int32) ≤ v2 then
          some (0 : Int32)
        else
          if (144 : Int32) ≤ v3_1 then
            some (0 : Int32)
          else
            bnd v3_1 144 <|
            some (σ.1 (n + 2) v3_1.toNatClampNeg)
def f_X3_setLines (σ : GM) (n : Nat) (v1 : Int32) (v2 : Int32) (v3 : Int32) : Option GM :=
  nm ((v1 * (12 : Int32)) + v2) fun v4_1 =>
  nm ((v2 * (12 : Int32)) + v1) fun v5_2 =>
  ob (f_X3_holds σ (σ.1 n 3) v1) fun r_3 =>
  if r_3 = (0 : Int32) then
    some σ
  else
    ob (f_X3_holds σ (σ.1 n 3) v2) fun r_6 =>
    if r_6 = (0 : Int32) then
      some σ
    else
      if (144 : Int32) ≤ v4_1 then
        some σ
      else
        if (144 : Int32) ≤ v5_2 then
          some σ
        else
          bnd v4_1 144 <|
          nm (wI σ n 5 ((σ.1 n 5) + (v3 - (σ.1 (n + 2) v4_1.toNatClampNeg)))) fun σ_12 =>
          bnd v4_1 144 <|
          nm (wI σ_12 (n + 2) v4_1.toNatClampNeg v3) fun σ_14 =>
          bnd v5_2 144 <|
          nm (wI σ_14 (n + 2) v5_2.toNatClampNeg v3) fun σ_16 =>
          some σ_16
def f_X3_besides_L5 (σ : GM) (n : Nat) (v1 : Int32) (v2 : Int32) : Nat → Int32 → Int32 → Option Int32
  | 0, _, _ => none
  | k + 1, v3, v4 =>
    if (12 : Int32) ≤ v4 then
      some v3
    else
      if v4 = v1 then
        nm (v4 + (1 : Int32)) fun v4_3 =>
        f_X3_besides_L5 σ n v1 v2 k v3 v4_3
      else
        ob (f_X3_linesOf σ n v1 v4) fun r_4 =>
        if r_4 < v2 then
          nm (v4 + (1 : Int32)) fun v4_7 =>
          f_X3_besides_L5 σ n v1 v2 k v3 v4_7
        else
          nm (v3 ||| ((1 : Int32) <<< (v4 &&& 31))) fun v3_8 =>
          nm (v4 + (1 : Int32)) fun v4_9 =>
          f_X3_besides_L5 σ n v1 v2 k v3_8 v4_9
def f_X3_besides (σ : GM) (n : Nat) (v1 : Int32) (v2 : Int32) : Option Int32 :=
  f_X3_besides_L5 σ n v1 v2 5000 (0 : Int32) (0 : Int32)
def f_X3_endsIn_L10 (σ : GM) (n : Nat) (v1 : Int32) (v2 : Int32) : Nat → Int32 → Int32 → Option Int32
  | 0, _, _ => none
  | k + 1, v3, v4 =>
    if (12 : Int32) ≤ v4 then
      some v3
    else
      ob (f_X3_holds σ v2 v4) fun r_4 =>
      if r_4 = (0 : Int32) then
        nm (v4 + (1 : Int32)) fun v4_7 =>
        f_X3_endsIn_L10 σ n v1 v2 k v3 v4_7
      else
        ob (f_X3_linesOf σ n v1 v4) fun r_8 =>
        nm (v3 + r_8) fun v3_10 =>
        nm (v4 + (1 : Int32)) fun v4_11 =>
        f_X3_endsIn_L10 σ n v1 v2 k v3_10 v4_11
def f_X3_endsIn (σ : GM) (n : Nat) (v1 : Int32) (v2 : Int32) : Option Int32 :=
  ob (f_X3_linesOf σ n v1 v1) fun r_1 =>
  f_X3_endsIn_L10 σ n v1 v2 5000 r_1 (0 : Int32)
def f_X3_linesIn_L4 (σ : GM) (n : Nat) (v1 : Int32) : Nat → Int32 → Int32 → Option Int32
  | 0, _, _ => none
  | k + 1, v2, v3 =>
    if (12 : Int32) ≤ v3 then
      nz (2 : Int32) <|
      some (v2 / (2 : Int32))
    else
      ob (f_X3_holds σ v1 v3) fun r_3 =>
      if r_3 = (0 : Int32) then
        nm (v3 + (1 : Int32)) fun v3_6 =>
        f_X3_linesIn_L4 σ n v1 k v2 v3_6
      else
        ob (f_X3_endsIn σ n v3 v1) fun r_7 =>
        nm (v2 + r_7) fun v2_9 =>
        nm (v3 + (1 : Int32)) fun v3_10 =>
        f_X3_linesIn_L4 σ n v1 k v2_9 v3_10
def f_X3_linesIn (σ : GM) (n : Nat) (v1 : Int32) : Option Int32 :=
  f_X3_linesIn_L4 σ n v1 5000 (0 : Int32) (0 : Int32)
def f_X8_lowest (σ : GM) (v0 : Int32) : Option Int32 :=
  if v0 = (0 : Int32) then
    some (-1 : Int32)
  else
    ob (f_J6_bitCount_0f7a4 σ ((v0 &&& (-v0)) - (1 : Int32))) fun r_2 =>
    some r_2
def f_X3_reachedFrom_L46 (σ : GM) (n : Nat) (k10 : Int32 → Int32 → Int32 → Option Int32) (v2 : Int32) (v4 : Int32) (v5 : Int32) (v6 : Int32) : Nat → Int32 → Int32 → Option Int32
  | 0, _, _ => none
  | k + 1, v3, v7 =>
    if (12 : Int32) ≤ v7 then
      nm (v5 + (1 : Int32)) fun v5_8 =>
      k10 v3 v4 v5_8
    else
      ob (f_X3_linesOf σ n v6 v7) fun r_9 =>
      if r_9 ≤ (0 : Int32) then
        nm (v7 + (1 : Int32)) fun v7_12 =>
        f_X3_reachedFrom_L46 σ n k10 v2 v4 v5 v6 k v3 v7_12
      else
        nm (v3 ||| (((1 : Int32) <<< (v7 &&& 31)) &&& v2)) fun v3_13 =>
        nm (v7 + (1 : Int32)) fun v7_14 =>
        f_X3_reachedFrom_L46 σ n k10 v2 v4 v5 v6 k v3_13 v7_14
def f_X3_reachedFrom_L10 (σ : GM) (n : Nat) (v2 : Int32) : Nat → Int32 → Int32 → Int32 → Option Int32
  | 0, _, _, _ => none
  | k + 1, v3, v4, v5 =>
    if (12 : Int32) ≤ v5 then
      some v3
    else
      if v3 = v4 then
        some v3
      else
        ob (f_X8_lowest σ (v3 &&& (v4 ^^^ (-1 : Int32)))) fun r_4 =>
        nm (v4 ||| ((1 : Int32) <<< (r_4 &&& 31))) fun v4_6 =>
        f_X3_reachedFrom_L46 σ n (fun v3' v4' v5' => f_X3_reachedFrom_L10 σ n v2 k v3' v4' v5') v2 v4_6 v5 r_4 5000 v3 (0 : Int32)
def f_X3_reachedFrom (σ : GM) (n : Nat) (v1 : Int32) (v2 : Int32) : Option Int32 :=
  nm ((1 : Int32) <<< (v1 &&& 31)) fun v3_1 =>
  f_X3_reachedFrom_L10 σ n v2 5000 v3_1 (0 : Int32) (0 : Int32)
def f_X3_partsIn_L7 (σ : GM) (n : Nat) : Nat → Int32 → Int32 → Int32 → Option Int32
  | 0, _, _, _ => none
  | k + 1, v2, v3, v4 =>
    if (12 : Int32) ≤ v4 then
      some v3
    else
      ob (f_X3_holds σ v2 v4) fun r_2 =>
      if r_2 = (0 : Int32) then
        nm (v4 + (1 : Int32)) fun v4_5 =>
        f_X3_partsIn_L7 σ n k v2 v3 v4_5
      else
        nm (v3 + (1 : Int32)) fun v3_6 =>
        ob (f_X3_reachedFrom σ n v4 v2) fun r_7 =>
        nm (v2 &&& (r_7 ^^^ (-1 : Int32))) fun v2_9 =>
        nm (v4 + (1 : Int32)) fun v4_10 =>
        f_X3_partsIn_L7 σ n k v2_9 v3_6 v4_10
def f_X3_partsIn (σ : GM) (n : Nat) (v1 : Int32) : Option Int32 :=
  f_X3_partsIn_L7 σ n 5000 v1 (0 : Int32) (0 : Int32)
def f_X3_remove_L31 (n : Nat) (σ : GM) (v1 : Int32) : Option (GM × Int32) :=
  nm (wI σ n 3 ((σ.1 n 3) &&& (((1 : Int32) <<< (v1 &&& 31)) ^^^ (-1 : Int32)))) fun σ_5 =>
  some (σ_5, ((1 : Int32) &&& 1))
def f_X3_remove_L12 (n : Nat) (v1 : Int32) : Nat → GM → Int32 → Option (GM × Int32)
  | 0, _, _ => none
  | k + 1, σ, v2 =>
    if (12 : Int32) ≤ v2 then
      f_X3_remove_L31 n σ v1
    else
      ob (f_X3_setLines σ n v1 v2 (0 : Int32)) fun σ_7 =>
      nm (v2 + (1 : Int32)) fun v2_8 =>
      f_X3_remove_L12 n v1 k σ_7 v2_8
def f_X3_remove (σ : GM) (n : Nat) (v1 : Int32) : Option (GM × Int32) :=
  ob (f_X3_isThere σ n v1) fun r_1 =>
  if r_1 = (0 : Int32) then
    some (σ, ((0 : Int32) &&& 1))
  else
    f_X3_remove_L12 n v1 5000 σ (0 : Int32)
def f_X3_addLine_L37 (n : Nat) (σ : GM) (v1 : Int32) (v2 : Int32) (s0 : Int32) : Option (GM × Int32) :=
  ob (f_X3_endsIn σ n v1 (σ.1 n 3)) fun r_9 =>
  if (6 : Int32) < (r_9 + s0) then
    some (σ, ((0 : Int32) &&& 1))
  else
    ob (f_X3_endsIn σ n v2 (σ.1 n 3)) fun r_12 =>
    if (r_12 + s0) ≤ (6 : Int32) then
      ob (f_X3_linesOf σ n v1 v2) fun r_15 =>
      ob (f_X3_setLines σ n v1 v2 (r_15 + (1 : Int32))) fun σ_18 =>
      some (σ_18, ((1 : Int32) &&& 1))
    else
      some (σ, ((0 : Int32) &&& 1))
def f_X3_addLine (σ : GM) (n : Nat) (v1 : Int32) (v2 : Int32) : Option (GM × Int32) :=
  ob (f_X3_isThere σ n v1) fun r_1 =>
  if r_1 = (0 : Int32) then
    some (σ, ((0 : Int32) &&& 1))
  else
    ob (f_X3_isThere σ n v2) fun r_4 =>
    if r_4 = (0 : Int32) then
      some (σ, ((0 : Int32) &&& 1))
    else
      if (σ.1 n 5) < (20 : Int32) then
        if v1 = v2 then
          f_X3_addLine_L37 n σ v1 v2 (2 : Int32)
        else
          f_X3_addLine_L37 n σ v1 v2 (1 : Int32)
      else
        some (σ, ((0 : Int32) &&& 1))
def f_X3_takeLine (σ : GM) (n : Nat) (v1 : Int32) (v2 : Int32) : Option (GM × Int32) :=
  ob (f_X3_isThere σ n v1) fun r_1 =>
  if r_1 = (0 : Int32) then
    some (σ, ((0 : Int32) &&& 1))
  else
    ob (f_X3_isThere σ n v2) fun r_4 =>
    if r_4 = (0 : Int32) then
      some (σ, ((0 : Int32) &&& 1))
    else
      ob (f_X3_linesOf σ n v1 v2) fun r_7 =>
      if (0 : Int32) < r_7 then
        ob (f_X3_linesOf σ n v1 v2) fun r_10 =>
        ob (f_X3_setLines σ n v1 v2 (r_10 - (1 : Int32))) fun σ_13 =>
        some (σ_13, ((1 : Int32) &&& 1))
      else
        some (σ, ((0 : Int32) &&& 1))
def f_X3_changeWeight (σ : GM) (n : Nat) (v1 : Int32) (v2 : Int32) : Option (GM × Int32) :=
  ob (f_X3_isThere σ n v1) fun r_1 =>
  if r_1 = (0 : Int32) then
    some (σ, ((0 : Int32) &&& 1))
  else
    if (12 : Int32) ≤ v1 then
      some (σ, ((0 : Int32) &&& 1))
    else
      bnd v1 12 <|
      if (σ.1 (n + 1) v1.toNatClampNeg) = v2 then
        some (σ, ((0 : Int32) &&& 1))
      else
        bnd v1 12 <|
        nm (wI σ (n + 1) v1.toNatClampNeg v2) fun σ_8 =>
        some (σ_8, ((1 : Int32) &&& 1))
def f_X0_begin_L29 (σ : GM) : Option GM :=
  nm (wI σ 57 3 (σ.1 8 3)) fun σ_2 =>
  nm (wI σ_2 57 2 (0 : Int32)) fun σ_3 =>
  nm (wL σ_3 57 5 (0 : Int64)) fun σ_4 =>
  nm (wL σ_4 57 6 (1 : Int64)) fun σ_5 =>
  some σ_5
def f_X0_begin_L2  : Nat → GM → Int32 → Option GM
  | 0, _, _ => none
  | k + 1, σ, v2 =>
    if (12 : Int32) ≤ v2 then
      f_X0_begin_L29 σ
    else
      ob (f_X3_weightOf σ 8 v2) fun r_6 =>
      bnd v2 12 <|
      nm (wL σ 58 v2.toNatClampNeg (r_6.toInt64)) fun σ_9 =>
      nm (v2 + (1 : Int32)) fun v2_10 =>
      f_X0_begin_L2  k σ_9 v2_10
def f_X0_begin (σ : GM) : Option GM :=
  f_X0_begin_L2 5000 σ (0 : Int32)
def f_X0_strip_L70 (k2 : GM → Int32 → Option GM) (σ : GM) (v2 : Int32) (v3 : Int32) : Option GM :=
  if (σ.1 57 3) = v3 then
    some σ
  else
    nm (v2 + (1 : Int32)) fun v2_5 =>
    k2 σ v2_5
def f_X0_strip_L16 (k2 : GM → Int32 → Option GM) (v2 : Int32) (v3 : Int32) : Nat → GM → Int32 → Option GM
  | 0, _, _ => none
  | k + 1, σ, v4 =>
    if (12 : Int32) ≤ v4 then
      f_X0_strip_L70 k2 σ v2 v3
    else
      ob (f_X3_holds σ (σ.1 57 3) v4) fun r_6 =>
      if r_6 = (0 : Int32) then
        nm (v4 + (1 : Int32)) fun v4_9 =>
        f_X0_strip_L16 k2 v2 v3 k σ v4_9
      else
        ob (f_X3_endsIn σ 8 v4 (σ.1 57 3)) fun r_10 =>
        if (1 : Int32) < r_10 then
          nm (v4 + (1 : Int32)) fun v4_13 =>
          f_X0_strip_L16 k2 v2 v3 k σ v4_13
        else
          nm (wI σ 57 3 ((σ.1 57 3) &&& (((1 : Int32) <<< (v4 &&& 31)) ^^^ (-1 : Int32)))) fun σ_14 =>
          nm (v4 + (1 : Int32)) fun v4_15 =>
          f_X0_strip_L16 k2 v2 v3 k σ_14 v4_15
def f_X0_strip_L2  : Nat → GM → Int32 → Option GM
  | 0, _, _ => none
  | k + 1, σ, v2 =>
    if (12 : Int32) ≤ v2 then
      some σ
    else
      nm (σ.1 57 3) fun v3_2 =>
      f_X0_strip_L16 (fun σ' v2' => f_X0_strip_L2  k σ' v2') v2 v3_2 5000 σ (0 : Int32)
def f_X0_strip (σ : GM) : Option GM :=
  f_X0_strip_L2 5000 σ (0 : Int32)
def f_X8_ringAt (σ : GM) (v1 : Int32) : Option Int32 :=
  if v1 < (0 : Int32) then
    some (0 : Int32)
  else
    if (924 : Int32) ≤ v1 then
      some (0 : Int32)
    else
      if (σ.1 49 5) ≤ v1 then
        some (0 : Int32)
      else
        bnd v1 924 <|
        some (σ.1 53 v1.toNatClampNeg)
def f_X0_leastOpenRing_L102 (σ : GM) (k57 : Int32 → Int32 → Option Int32) (v3 : Int32) (v4 : Int32) (v5 : Int32) (v6 : Int32) (s0 : Int32) : Option Int32 :=
  if s0 = (0 : Int32) then
    nm (v5 + (1 : Int32)) fun v5_7 =>
    k57 v4 v5_7
  else
    if v4 = (0 : Int32) then
      nm (v5 + (1 : Int32)) fun v5_9 =>
      k57 v6 v5_9
    else
      if v4 ≤ v6 then
        nm (v5 + (1 : Int32)) fun v5_11 =>
        k57 v4 v5_11
      else
        nm (v5 + (1 : Int32)) fun v5_12 =>
        k57 v6 v5_12
def f_X0_leastOpenRing_L101 (σ : GM) (k57 : Int32 → Int32 → Option Int32) (v3 : Int32) (v4 : Int32) (v5 : Int32) (v6 : Int32) : Option Int32 :=
  f_X0_leastOpenRing_L102 σ k57 v3 v4 v5 v6 (0 : Int32)
def f_X0_leastOpenRing_L57 (σ : GM) (v3 : Int32) : Nat → Int32 → Int32 → Option Int32
  | 0, _, _ => none
  | k + 1, v4, v5 =>
    if (σ.1 49 5) ≤ v5 then
      some v4
    else
      ob (f_X8_ringAt σ v5) fun r_3 =>
      if (r_3 &&& ((σ.1 57 3) ^^^ (-1 : Int32))) = (0 : Int32) then
        ob (f_J6_bitCount_0f7a4 σ (r_3 &&& v3)) fun r_13 =>
        if (1 : Int32) < r_13 then
          f_X0_leastOpenRing_L101 σ (fun v4' v5' => f_X0_leastOpenRing_L57 σ v3 k v4' v5') v3 v4 v5 r_3
        else
          f_X0_leastOpenRing_L102 σ (fun v4' v5' => f_X0_leastOpenRing_L57 σ v3 k v4' v5') v3 v4 v5 r_3 (1 : Int32)
      else
        f_X0_leastOpenRing_L101 σ (fun v4' v5' => f_X0_leastOpenRing_L57 σ v3 k v4' v5') v3 v4 v5 r_3
def f_X0_leastOpenRing_L51 (σ : GM) (v3 : Int32) : Option Int32 :=
  f_X0_leastOpenRing_L57 σ v3 5000 (0 : Int32) (0 : Int32)
def f_X0_leastOpenRing_L5 (σ : GM) : Nat → Int32 → Int32 → Option Int32
  | 0, _, _ => none
  | k + 1, v3, v4 =>
    if (12 : Int32) ≤ v4 then
      f_X0_leastOpenRing_L51 σ v3
    else
      ob (f_X3_holds σ (σ.1 57 3) v4) fun r_16 =>
      if r_16 = (0 : Int32) then
        nm (v4 + (1 : Int32)) fun v4_19 =>
        f_X0_leastOpenRing_L5 σ k v3 v4_19
      else
        ob (f_X3_endsIn σ 8 v4 (σ.1 57 3)) fun r_20 =>
        if r_20 ≤ (2 : Int32) then
          nm (v4 + (1 : Int32)) fun v4_23 =>
          f_X0_leastOpenRing_L5 σ k v3 v4_23
        else
          nm (v3 ||| ((1 : Int32) <<< (v4 &&& 31))) fun v3_24 =>
          nm (v4 + (1 : Int32)) fun v4_25 =>
          f_X0_leastOpenRing_L5 σ k v3_24 v4_25
def f_X0_leastOpenRing (σ : GM) : Option Int32 :=
  f_X0_leastOpenRing_L5 σ 5000 (0 : Int32) (0 : Int32)
def f_X0_takeFromRing_L47 (v1 : Int32) (v2 : Int64) : Nat → GM → Int32 → Option GM
  | 0, _, _ => none
  | k + 1, σ, v4 =>
    if (12 : Int32) ≤ v4 then
      nm (wL σ 57 5 ((σ.2 57 5) + v2)) fun σ_3 =>
      some σ_3
    else
      ob (f_X3_holds σ v1 v4) fun r_4 =>
      if r_4 = (0 : Int32) then
        nm (v4 + (1 : Int32)) fun v4_7 =>
        f_X0_takeFromRing_L47 v1 v2 k σ v4_7
      else
        bnd v4 12 <|
        bnd v4 12 <|
        nm (wL σ 58 v4.toNatClampNeg ((σ.2 58 v4.toNatClampNeg) - v2)) fun σ_10 =>
        nm (v4 + (1 : Int32)) fun v4_11 =>
        f_X0_takeFromRing_L47 v1 v2 k σ_10 v4_11
def f_X0_takeFromRing_L7 (v1 : Int32) : Nat → GM → Int64 → Int32 → Option GM
  | 0, _, _, _ => none
  | k + 1, σ, v2, v4 =>
    if (12 : Int32) ≤ v4 then
      f_X0_takeFromRing_L47 v1 v2 5000 σ (0 : Int32)
    else
      ob (f_X3_holds σ v1 v4) fun r_12 =>
      if r_12 = (0 : Int32) then
        nm (v4 + (1 : Int32)) fun v4_15 =>
        f_X0_takeFromRing_L7 v1 k σ v2 v4_15
      else
        bnd v4 12 <|
        nm (if (σ.2 58 v4.toNatClampNeg) < v2 then (σ.2 58 v4.toNatClampNeg) else v2) fun v2_17 =>
        nm (v4 + (1 : Int32)) fun v4_18 =>
        f_X0_takeFromRing_L7 v1 k σ v2_17 v4_18
def f_X0_takeFromRing (σ : GM) (v1 : Int32) : Option GM :=
  f_X0_takeFromRing_L7 v1 5000 σ (9223372036854775807 : Int64) (0 : Int32)
def f_X0_takeFromAll_L180 (σ : GM) (v2 : Int64) : Option GM :=
  ob (f_X3_linesIn σ 8 (σ.1 57 3)) fun r_5 =>
  ob (f_X3_partsIn σ 8 (σ.1 57 3)) fun r_7 =>
  ob (f_J6_bitCount_0f7a4 σ (σ.1 57 3)) fun r_9 =>
  nm (wL σ 57 5 ((σ.2 57 5) + (v2 * ((((r_5 + r_7) - r_9)).toInt64)))) fun σ_11 =>
  some σ_11
def f_X0_takeFromAll_L114 (v2 : Int64) (v4 : Int32) : Nat → GM → Int32 → Option GM
  | 0, _, _ => none
  | k + 1, σ, v5 =>
    if (12 : Int32) ≤ v5 then
      f_X0_takeFromAll_L180 σ v2
    else
      bnd v5 12 <|
      bnd v5 12 <|
      nm (wL σ 58 v5.toNatClampNeg ((σ.2 58 v5.toNatClampNeg) * (v4.toInt64))) fun σ_14 =>
      ob (f_X3_holds σ_14 (σ_14.1 57 3) v5) fun r_15 =>
      if r_15 = (0 : Int32) then
        nm (v5 + (1 : Int32)) fun v5_18 =>
        f_X0_takeFromAll_L114 v2 v4 k σ_14 v5_18
      else
        bnd v5 12 <|
        ob (f_X3_endsIn σ_14 8 v5 (σ_14.1 57 3)) fun r_20 =>
        bnd v5 12 <|
        nm (wL σ_14 58 v5.toNatClampNeg ((σ_14.2 58 v5.toNatClampNeg) - (v2 * (((r_20 - (1 : Int32))).toInt64)))) fun σ_23 =>
        nm (v5 + (1 : Int32)) fun v5_24 =>
        f_X0_takeFromAll_L114 v2 v4 k σ_23 v5_24
def f_X0_takeFromAll_L87 (σ : GM) (v2 : Int64) (v4 : Int32) : Option GM :=
  nm (wL σ 57 6 ((σ.2 57 6) * (v4.toInt64))) fun σ_2 =>
  nm (wL σ_2 57 5 ((σ_2.2 57 5) * (v4.toInt64))) fun σ_3 =>
  f_X0_takeFromAll_L114 v2 v4 5000 σ_3 (0 : Int32)
def f_X0_takeFromAll_L69 (k8 : GM → Int64 → Int32 → Int32 → Option GM) (σ : GM) (v5 : Int32) (v6 : Int32) : Option GM :=
  bnd v5 12 <|
  nm (σ.2 58 v5.toNatClampNeg) fun v2_34 =>
  nm (v5 + (1 : Int32)) fun v5_35 =>
  k8 σ v2_34 v6 v5_35
def f_X0_takeFromAll_L8  : Nat → GM → Int64 → Int32 → Int32 → Option GM
  | 0, _, _, _, _ => none
  | k + 1, σ, v2, v4, v5 =>
    if (12 : Int32) ≤ v5 then
      f_X0_takeFromAll_L87 σ v2 v4
    else
      ob (f_X3_holds σ (σ.1 57 3) v5) fun r_25 =>
      if r_25 = (0 : Int32) then
        nm (v5 + (1 : Int32)) fun v5_28 =>
        f_X0_takeFromAll_L8  k σ v2 v4 v5_28
      else
        ob (f_X3_endsIn σ 8 v5 (σ.1 57 3)) fun r_29 =>
        nm (r_29 - (1 : Int32)) fun v6_31 =>
        if v4 = (0 : Int32) then
          f_X0_takeFromAll_L69 (fun σ' v2' v4' v5' => f_X0_takeFromAll_L8  k σ' v2' v4' v5') σ v5 v6_31
        else
          bnd v5 12 <|
          if (0 : Int32) ≤ (lg_cmp ((σ.2 58 v5.toNatClampNeg) * (v4.toInt64)) (v2 * (v6_31.toInt64))) then
            nm (v5 + (1 : Int32)) fun v5_38 =>
            f_X0_takeFromAll_L8  k σ v2 v4 v5_38
          else
            f_X0_takeFromAll_L69 (fun σ' v2' v4' v5' => f_X0_takeFromAll_L8  k σ' v2' v4' v5') σ v5 v6_31
def f_X0_takeFromAll (σ : GM) : Option GM :=
  f_X0_takeFromAll_L8 5000 σ (0 : Int64) (0 : Int32) (0 : Int32)
def f_X0_pileWeightless_L8  : Nat → GM → Int32 → Option GM
  | 0, _, _ => none
  | k + 1, σ, v1 =>
    if v1 < (0 : Int32) then
      some σ
    else
      ob (f_X3_holds σ (σ.1 57 3) v1) fun r_3 =>
      if r_3 = (0 : Int32) then
        nm (v1 + (-1 : Int32)) fun v1_6 =>
        f_X0_pileWeightless_L8  k σ v1_6
      else
        bnd v1 12 <|
        if (lg_cmp (σ.2 58 v1.toNatClampNeg) (0 : Int64)) = (0 : Int32) then
          if (12 : Int32) ≤ (σ.1 57 2) then
            nm (v1 + (-1 : Int32)) fun v1_11 =>
            f_X0_pileWeightless_L8  k σ v1_11
          else
            nm (wI σ 57 3 ((σ.1 57 3) &&& (((1 : Int32) <<< (v1 &&& 31)) ^^^ (-1 : Int32)))) fun σ_12 =>
            bnd (σ_12.1 57 2) 12 <|
            nm (wI σ_12 59 (σ_12.1 57 2).toNatClampNeg v1) fun σ_14 =>
            nm (wI σ_14 57 2 ((σ_14.1 57 2) + (1 : Int32))) fun σ_15 =>
            nm (v1 + (-1 : Int32)) fun v1_16 =>
            f_X0_pileWeightless_L8  k σ_15 v1_16
        else
          nm (v1 + (-1 : Int32)) fun v1_9 =>
          f_X0_pileWeightless_L8  k σ v1_9
def f_X0_pileWeightless (σ : GM) : Option GM :=
  nm ((12 : Int32) - (1 : Int32)) fun v1_1 =>
  f_X0_pileWeightless_L8 5000 σ v1_1
def f_X8_isFree (σ : GM) (v1 : Int32) : Option Int32 :=
  if v1 < (0 : Int32) then
    some ((0 : Int32) &&& 1)
  else
    if (4096 : Int32) ≤ v1 then
      some ((0 : Int32) &&& 1)
    else
      bnd v1 4096 <|
      if (σ.1 50 v1.toNatClampNeg) = (0 : Int32) then
        some ((0 : Int32) &&& 1)
      else
        some ((1 : Int32) &&& 1)
def f_X0_giveBack_L62 (v1 : Int32) : Nat → GM → Int32 → Option GM
  | 0, _, _ => none
  | k + 1, σ, v3 =>
    if v3 < (0 : Int32) then
      some σ
    else
      bnd v3 12 <|
      nm ((σ.1 57 4) &&& (((1 : Int32) <<< ((σ.1 59 v3.toNatClampNeg) &&& 31)) ^^^ (-1 : Int32))) fun v4_6 =>
      ob (f_X8_isFree σ (v1 &&& (v4_6 ^^^ (-1 : Int32)))) fun r_7 =>
      if r_7 = (0 : Int32) then
        nm (v3 + (-1 : Int32)) fun v3_10 =>
        f_X0_giveBack_L62 v1 k σ v3_10
      else
        nm (wI σ 57 4 v4_6) fun σ_11 =>
        nm (v3 + (-1 : Int32)) fun v3_12 =>
        f_X0_giveBack_L62 v1 k σ_11 v3_12
def f_X0_giveBack_L47 (σ : GM) (v1 : Int32) : Option GM :=
  nm ((if (12 : Int32) < (σ.1 57 2) then (12 : Int32) else (σ.1 57 2)) - (1 : Int32)) fun v3_3 =>
  f_X0_giveBack_L62 v1 5000 σ v3_3
def f_X0_giveBack_L7 (v1 : Int32) : Nat → GM → Int32 → Option GM
  | 0, _, _ => none
  | k + 1, σ, v3 =>
    if (σ.1 57 2) ≤ v3 then
      f_X0_giveBack_L47 σ v1
    else
      if (12 : Int32) ≤ v3 then
        f_X0_giveBack_L47 σ v1
      else
        bnd v3 12 <|
        nm (wI σ 57 4 ((σ.1 57 4) ||| ((1 : Int32) <<< ((σ.1 59 v3.toNatClampNeg) &&& 31)))) fun σ_15 =>
        nm (v3 + (1 : Int32)) fun v3_16 =>
        f_X0_giveBack_L7 v1 k σ_15 v3_16
def f_X0_giveBack (σ : GM) (v1 : Int32) : Option GM :=
  nm (wI σ 57 4 (0 : Int32)) fun σ_1 =>
  f_X0_giveBack_L7 v1 5000 σ_1 (0 : Int32)
def f_X0_run_L69 (σ : GM) : Option GM :=
  ob (f_X0_giveBack σ (σ.1 8 3)) fun σ_5 =>
  some σ_5
def f_X0_run_L7  : Nat → GM → Int32 → Option GM
  | 0, _, _ => none
  | k + 1, σ, v3 =>
    if (12 : Int32) ≤ v3 then
      f_X0_run_L69 σ
    else
      if (σ.1 57 3) = (0 : Int32) then
        f_X0_run_L69 σ
      else
        ob (f_X0_strip σ) fun σ_8 =>
        if (σ_8.1 57 3) = (0 : Int32) then
          nm (v3 + (1 : Int32)) fun v3_10 =>
          f_X0_run_L7  k σ_8 v3_10
        else
          ob (f_X0_leastOpenRing σ_8) fun r_11 =>
          if r_11 = (0 : Int32) then
            ob (f_X0_takeFromAll σ_8) fun σ_15 =>
            ob (f_X0_pileWeightless σ_15) fun σ_17 =>
            nm (v3 + (1 : Int32)) fun v3_18 =>
            f_X0_run_L7  k σ_17 v3_18
          else
            ob (f_X0_takeFromRing σ_8 r_11) fun σ_20 =>
            ob (f_X0_pileWeightless σ_20) fun σ_22 =>
            nm (v3 + (1 : Int32)) fun v3_23 =>
            f_X0_run_L7  k σ_22 v3_23
def f_X0_run (σ : GM) : Option GM :=
  ob (f_X0_begin σ) fun σ_2 =>
  f_X0_run_L7 5000 σ_2 (0 : Int32)
def f_X0_commonDivisor_L13 (σ : GM) : Nat → Int64 → Int64 → Int32 → Option Int64
  | 0, _, _, _ => none
  | k + 1, v1, v3, v5 =>
    if (200 : Int32) ≤ v5 then
      some v1
    else
      if (lg_cmp v3 (0 : Int64)) = (0 : Int32) then
        some v1
      else
        nzl v3 <|
        nm (v1 - v1 / v3 * v3) fun v6_6 =>
        nm (v5 + (1 : Int32)) fun v5_7 =>
        f_X0_commonDivisor_L13 σ k v3 v6_6 v5_7
def f_X0_commonDivisor (σ : GM) : Option Int64 :=
  nm (σ.2 57 6) fun v1_1 =>
  nm (σ.2 57 5) fun v3_2 =>
  f_X0_commonDivisor_L13 σ 5000 v1_1 v3_2 (0 : Int32)
def f_X0_boundAbove (σ : GM) : Option Int64 :=
  ob (f_X0_commonDivisor σ) fun r_1 =>
  if (lg_cmp r_1 (0 : Int64)) = (0 : Int32) then
    some (0 : Int64)
  else
    nzl r_1 <|
    some ((σ.2 57 5) / r_1)
def f_X0_boundBelow (σ : GM) : Option Int64 :=
  ob (f_X0_commonDivisor σ) fun r_1 =>
  if (lg_cmp r_1 (0 : Int64)) = (0 : Int32) then
    some (1 : Int64)
  else
    nzl r_1 <|
    some ((σ.2 57 6) / r_1)
def f_X1_below (σ : GM) (v1 : Int32) : Option (GM × Int32) :=
  nm (wI σ 48 0 (((σ.1 48 0) * (1103515245 : Int32)) + (12345 : Int32))) fun σ_1 =>
  if v1 ≤ (0 : Int32) then
    some (σ_1, (0 : Int32))
  else
    nz v1 <|
    some (σ_1, ((jushr (σ_1.1 48 0) (8 : Int32)) - (jushr (σ_1.1 48 0) (8 : Int32)) / v1 * v1))
def f_X10_hasRoom (σ : GM) : Option Int32 :=
  if (620 : Int32) < (σ.1 1 1) then
    some ((0 : Int32) &&& 1)
  else
    some ((1 : Int32) &&& 1)
def f_X10_append_L3 (v1 : Int32) : Nat → GM → Int32 → Option GM
  | 0, _, _ => none
  | k + 1, σ, v2 =>
    if v2 < (0 : Int32) then
      some σ
    else
      if (σ.1 1 1) < (0 : Int32) then
        nm (v2 + (-8 : Int32)) fun v2_3 =>
        f_X10_append_L3 v1 k σ v2_3
      else
        if (640 : Int32) ≤ (σ.1 1 1) then
          nm (v2 + (-8 : Int32)) fun v2_5 =>
          f_X10_append_L3 v1 k σ v2_5
        else
          bnd (σ.1 1 1) 640 <|
          nm (wI σ 2 (σ.1 1 1).toNatClampNeg ((jushr v1 v2) &&& (255 : Int32))) fun σ_7 =>
          nm (wI σ_7 1 1 ((σ_7.1 1 1) + (1 : Int32))) fun σ_8 =>
          nm (v2 + (-8 : Int32)) fun v2_9 =>
          f_X10_append_L3 v1 k σ_8 v2_9
def f_X10_append (σ : GM) (v1 : Int32) : Option GM :=
  f_X10_append_L3 v1 5000 σ (24 : Int32)
def f_X10_byteAt (σ : GM) (v1 : Int32) : Option Int32 :=
  if v1 < (0 : Int32) then
    some (0 : Int32)
  else
    if (σ.1 1 1) ≤ v1 then
      some (0 : Int32)
    else
      if (640 : Int32) ≤ v1 then
        some (0 : Int32)
      else
        bnd v1 640 <|
        some (σ.1 2 v1.toNatClampNeg)
def f_X11_feed (σ : GM) (v1 : Int32) (v2 : Int32) (v3 : Int32) (v4 : Int32) (v5 : Int32) : Option (GM × Int32) :=
  ob (f_X10_hasRoom σ) fun r_1 =>
  if r_1 = (0 : Int32) then
    some (σ, (-1 : Int32))
  else
    ob (f_X10_append σ v1) fun σ_5 =>
    ob (f_X10_append σ_5 v2) fun σ_7 =>
    ob (f_X10_append σ_7 v3) fun σ_9 =>
    ob (f_X10_append σ_9 v4) fun σ_11 =>
    ob (f_X10_append σ_11 v5) fun σ_13 =>
    some (σ_13, (σ_13.1 1 1))
def f_X11_end (σ : GM) (v1 : Int32) : Option (GM × Int32) :=
  if v1 < (0 : Int32) then
    some (σ, ((0 : Int32) &&& 1))
  else
    if v1 ≤ (σ.1 1 1) then
      nm (wI σ 1 1 v1) fun σ_3 =>
      some (σ_3, ((1 : Int32) &&& 1))
    else
      some (σ, ((0 : Int32) &&& 1))
def f_X6_isLetter (σ : GM) (v0 : Int32) : Option Int32 :=
  if v0 < (97 : Int32) then
    some ((0 : Int32) &&& 1)
  else
    if (122 : Int32) < v0 then
      some ((0 : Int32) &&& 1)
    else
      some ((1 : Int32) &&& 1)
def f_X6_isDigit (σ : GM) (v0 : Int32) : Option Int32 :=
  if v0 < (48 : Int32) then
    some ((0 : Int32) &&& 1)
  else
    if (57 : Int32) < v0 then
      some ((0 : Int32) &&& 1)
    else
      some ((1 : Int32) &&& 1)
def f_X6_readToken_L200 (σ : GM) (v4 : Int32) (v5 : Int32) : Option GM :=
  if v4 = (0 : Int32) then
    some σ
  else
    if (2 : Int32) < v5 then
      some σ
    else
      nm (wI σ 3 6 (2 : Int32)) fun σ_15 =>
      some σ_15
def f_X6_readToken_L170 (σ : GM) (v3 : Int32) (v4 : Int32) (v5 : Int32) : Option GM :=
  nm (wI σ 3 8 ((σ.1 3 3) + v5)) fun σ_11 =>
  if v3 = (0 : Int32) then
    f_X6_readToken_L200 σ_11 v4 v5
  else
    if (7 : Int32) < v5 then
      f_X6_readToken_L200 σ_11 v4 v5
    else
      nm (wI σ_11 3 6 (1 : Int32)) fun σ_17 =>
      some σ_17
def f_X6_readToken_L90 (k58 : GM → Int32 → Int32 → Int32 → Int32 → Option GM) (σ : GM) (v3 : Int32) (v4 : Int32) (v5 : Int32) (v6 : Int32) : Option GM :=
  ob (f_X10_byteAt σ v6) fun r_23 =>
  ob (f_X6_isLetter σ r_23) fun r_25 =>
  nm (v3 &&& r_25) fun v3_27 =>
  ob (f_X6_isDigit σ r_23) fun r_28 =>
  nm (v4 &&& r_28) fun v4_30 =>
  nm (v5 + (1 : Int32)) fun v5_31 =>
  if (7 : Int32) < v5_31 then
    nm (v6 + (1 : Int32)) fun v6_33 =>
    k58 σ v3_27 v4_30 v5_31 v6_33
  else
    if v3_27 = (0 : Int32) then
      nm (wL σ 3 7 (((σ.2 3 7) * (10 : Int64)) + (((r_23 - (48 : Int32))).toInt64))) fun σ_35 =>
      nm (v6 + (1 : Int32)) fun v6_36 =>
      k58 σ_35 v3_27 v4_30 v5_31 v6_36
    else
      nm (wL σ 3 7 (((σ.2 3 7) * (27 : Int64)) + ((((r_23 - (97 : Int32)) + (1 : Int32))).toInt64))) fun σ_37 =>
      nm (v6 + (1 : Int32)) fun v6_38 =>
      k58 σ_37 v3_27 v4_30 v5_31 v6_38
def f_X6_readToken_L58  : Nat → GM → Int32 → Int32 → Int32 → Int32 → Option GM
  | 0, _, _, _, _, _ => none
  | k + 1, σ, v3, v4, v5, v6 =>
    if (640 : Int32) ≤ v6 then
      f_X6_readToken_L170 σ v3 v4 v5
    else
      ob (f_X10_byteAt σ v6) fun r_18 =>
      ob (f_X6_isLetter σ r_18) fun r_20 =>
      if r_20 = (0 : Int32) then
        ob (f_X10_byteAt σ v6) fun r_39 =>
        ob (f_X6_isDigit σ r_39) fun r_41 =>
        if r_41 = (0 : Int32) then
          f_X6_readToken_L170 σ v3 v4 v5
        else
          f_X6_readToken_L90 (fun σ' v3' v4' v5' v6' => f_X6_readToken_L58  k σ' v3' v4' v5' v6') σ v3 v4 v5 v6
      else
        f_X6_readToken_L90 (fun σ' v3' v4' v5' v6' => f_X6_readToken_L58  k σ' v3' v4' v5' v6') σ v3 v4 v5 v6
def f_X6_readToken_L44 (σ : GM) : Option GM :=
  nm (σ.1 3 3) fun v6_9 =>
  f_X6_readToken_L58 5000 σ (1 : Int32) (1 : Int32) (0 : Int32) v6_9
def f_X6_readToken_L21 (σ : GM) (v2 : Int32) (s1 : Int32) : Option GM :=
  nm (wI σ 3 6 s1) fun σ_4 =>
  nm (wL σ_4 3 7 (0 : Int64)) fun σ_5 =>
  ob (f_X6_isLetter σ_5 v2) fun r_6 =>
  if r_6 = (0 : Int32) then
    ob (f_X6_isDigit σ_5 v2) fun r_44 =>
    if r_44 = (0 : Int32) then
      some σ_5
    else
      f_X6_readToken_L44 σ_5
  else
    f_X6_readToken_L44 σ_5
def f_X6_readToken (σ : GM) : Option GM :=
  ob (f_X10_byteAt σ (σ.1 3 3)) fun r_1 =>
  if r_1 = (59 : Int32) then
    f_X6_readToken_L21 σ r_1 (3 : Int32)
  else
    f_X6_readToken_L21 σ r_1 (0 : Int32)
def f_X6_beginRow_L82 (σ : GM) (v1 : Int32) : Option (GM × Int32) :=
  if v1 = (0 : Int32) then
    nm (wI σ 3 4 (4 : Int32)) fun σ_7 =>
    some (σ_7, (0 : Int32))
  else
    nm (wI σ 3 4 (1 : Int32)) fun σ_8 =>
    some (σ_8, (0 : Int32))
def f_X6_beginRow_L48 (σ : GM) (s0 : Int32) : Option (GM × Int32) :=
  if s0 = (0 : Int32) then
    if (σ.1 4 5) < (20 : Int32) then
      f_X6_beginRow_L82 σ s0
    else
      some (σ, (4 : Int32))
  else
    if (σ.1 4 2) < (12 : Int32) then
      f_X6_beginRow_L82 σ s0
    else
      some (σ, (4 : Int32))
def f_X6_beginRow_L32 (σ : GM) : Option (GM × Int32) :=
  if (lg_cmp (σ.2 3 7) (8805260 : Int64)) = (0 : Int32) then
    f_X6_beginRow_L48 σ (1 : Int32)
  else
    f_X6_beginRow_L48 σ (0 : Int32)
def f_X6_beginRow (σ : GM) : Option (GM × Int32) :=
  if (σ.1 3 6) = (1 : Int32) then
    if (lg_cmp (σ.2 3 7) (8805260 : Int64)) = (0 : Int32) then
      f_X6_beginRow_L32 σ
    else
      if (lg_cmp (σ.2 3 7) (243140 : Int64)) = (0 : Int32) then
        f_X6_beginRow_L32 σ
      else
        some (σ, (1 : Int32))
  else
    some (σ, (1 : Int32))
def f_X6_isName (σ : GM) : Option Int32 :=
  if (σ.1 3 6) = (1 : Int32) then
    if (lg_cmp (σ.2 3 7) (8805260 : Int64)) = (0 : Int32) then
      some ((0 : Int32) &&& 1)
    else
      if (lg_cmp (σ.2 3 7) (243140 : Int64)) = (0 : Int32) then
        some ((0 : Int32) &&& 1)
      else
        some ((1 : Int32) &&& 1)
  else
    some ((0 : Int32) &&& 1)
def f_X6_pointNamed_L2 (σ : GM) (v1 : Int64) : Nat → Int32 → Option Int32
  | 0, _ => none
  | k + 1, v3 =>
    if (12 : Int32) ≤ v3 then
      some (-1 : Int32)
    else
      if (σ.1 4 2) ≤ v3 then
        some (-1 : Int32)
      else
        bnd v3 12 <|
        if (lg_cmp (σ.2 7 v3.toNatClampNeg) v1) = (0 : Int32) then
          some v3
        else
          nm (v3 + (1 : Int32)) fun v3_5 =>
          f_X6_pointNamed_L2 σ v1 k v3_5
def f_X6_pointNamed (σ : GM) (v1 : Int64) : Option Int32 :=
  f_X6_pointNamed_L2 σ v1 5000 (0 : Int32)
def f_X6_takeName (σ : GM) : Option (GM × Int32) :=
  ob (f_X6_isName σ) fun r_1 =>
  if r_1 = (0 : Int32) then
    some (σ, (1 : Int32))
  else
    nm (σ.1 4 2) fun v1_4 =>
    ob (f_X6_pointNamed σ (σ.2 3 7)) fun r_5 =>
    if r_5 = (-1 : Int32) then
      if v1_4 < (0 : Int32) then
        some (σ, (4 : Int32))
      else
        if v1_4 < (12 : Int32) then
          bnd v1_4 12 <|
          nm (wL σ 7 v1_4.toNatClampNeg (σ.2 3 7)) fun σ_11 =>
          ob (f_X3_addPoint σ_11 4) fun σ_13 =>
          nm (wI σ_13 3 4 (2 : Int32)) fun σ_14 =>
          some (σ_14, (0 : Int32))
        else
          some (σ, (4 : Int32))
    else
      some (σ, (3 : Int32))
def f_X6_takeWeight (σ : GM) : Option (GM × Int32) :=
  if (lg_cmp (σ.2 3 7) (1 : Int64)) < (0 : Int32) then
    some (σ, (2 : Int32))
  else
    if (lg_cmp (σ.2 3 7) (9 : Int64)) ≤ (0 : Int32) then
      ob2 (f_X3_changeWeight σ 4 ((σ.1 4 2) - (1 : Int32)) (((σ.2 3 7)).toInt32)) fun σ_4 r_3 =>
      nm (wI σ_4 3 4 (3 : Int32)) fun σ_5 =>
      some (σ_5, (0 : Int32))
    else
      some (σ, (2 : Int32))
def f_X6_takeSign (σ : GM) : Option (GM × Int32) :=
  if (σ.1 3 6) = (3 : Int32) then
    nm (wI σ 3 2 ((σ.1 3 2) + (1 : Int32))) fun σ_2 =>
    nm (wI σ_2 3 4 (0 : Int32)) fun σ_3 =>
    some (σ_3, (0 : Int32))
  else
    some (σ, (1 : Int32))
def f_X6_takeFirst (σ : GM) : Option (GM × Int32) :=
  ob (f_X6_isName σ) fun r_1 =>
  if r_1 = (0 : Int32) then
    some (σ, (1 : Int32))
  else
    ob (f_X6_pointNamed σ (σ.2 3 7)) fun r_4 =>
    nm (wI σ 3 5 r_4) fun σ_6 =>
    if (σ_6.1 3 5) = (-1 : Int32) then
      some (σ_6, (3 : Int32))
    else
      ob (f_X3_endsIn σ_6 4 (σ_6.1 3 5) (σ_6.1 4 3)) fun r_8 =>
      if r_8 < (6 : Int32) then
        nm (wI σ_6 3 4 (5 : Int32)) fun σ_11 =>
        some (σ_11, (0 : Int32))
      else
        some (σ_6, (5 : Int32))
def f_X6_takeSecond (σ : GM) : Option (GM × Int32) :=
  ob (f_X6_isName σ) fun r_1 =>
  if r_1 = (0 : Int32) then
    some (σ, (1 : Int32))
  else
    ob (f_X6_pointNamed σ (σ.2 3 7)) fun r_4 =>
    if r_4 = (-1 : Int32) then
      some (σ, (3 : Int32))
    else
      ob2 (f_X3_addLine σ 4 (σ.1 3 5) r_4) fun σ_8 r_7 =>
      if r_7 = (0 : Int32) then
        some (σ_8, (5 : Int32))
      else
        nm (wI σ_8 3 4 (3 : Int32)) fun σ_10 =>
        some (σ_10, (0 : Int32))
def f_X6_takeToken (σ : GM) : Option (GM × Int32) :=
  nm (σ.1 3 4) fun w_1 =>
  if w_1 = (0 : Int32) then
    ob2 (f_X6_beginRow σ) fun σ_3 r_2 =>
    some (σ_3, r_2)
  else
    if w_1 = (1 : Int32) then
      ob2 (f_X6_takeName σ) fun σ_5 r_4 =>
      some (σ_5, r_4)
    else
      if w_1 = (2 : Int32) then
        if (σ.1 3 6) = (2 : Int32) then
          ob2 (f_X6_takeWeight σ) fun σ_10 r_9 =>
          some (σ_10, r_9)
        else
          ob2 (f_X6_takeSign σ) fun σ_8 r_7 =>
          some (σ_8, r_7)
      else
        if w_1 = (3 : Int32) then
          ob2 (f_X6_takeSign σ) fun σ_12 r_11 =>
          some (σ_12, r_11)
        else
          if w_1 = (4 : Int32) then
            ob2 (f_X6_takeFirst σ) fun σ_14 r_13 =>
            some (σ_14, r_13)
          else
            if w_1 = (5 : Int32) then
              ob2 (f_X6_takeSecond σ) fun σ_16 r_15 =>
              some (σ_16, r_15)
            else
              ob2 (f_X6_takeSign σ) fun σ_18 r_17 =>
              some (σ_18, r_17)
def f_X6_readAll_L122 (σ : GM) (v2 : Int32) : Option (GM × Int32) :=
  nm (wI σ 3 3 v2) fun σ_9 =>
  if (600 : Int32) < (σ_9.1 1 1) then
    some (σ_9, (1 : Int32))
  else
    if (σ_9.1 3 4) = (0 : Int32) then
      some (σ_9, (0 : Int32))
    else
      some (σ_9, (1 : Int32))
def f_X6_readAll_L108 (k40 : GM → Int32 → Option (GM × Int32)) (v2 : Int32) (σ : GM) (v3 : Int32) : Option (GM × Int32) :=
  nm (wI σ 3 3 (σ.1 3 8)) fun σ_17 =>
  nm (v3 + (1 : Int32)) fun v3_18 =>
  k40 σ_17 v3_18
def f_X6_readAll_L40 (v2 : Int32) : Nat → GM → Int32 → Option (GM × Int32)
  | 0, _, _ => none
  | k + 1, σ, v3 =>
    if (640 : Int32) ≤ v3 then
      f_X6_readAll_L122 σ v2
    else
      if v2 ≤ (σ.1 3 3) then
        f_X6_readAll_L122 σ v2
      else
        ob (f_X10_byteAt σ (σ.1 3 3)) fun r_13 =>
        nm (wI σ 3 8 ((σ.1 3 3) + (1 : Int32))) fun σ_15 =>
        if r_13 = (32 : Int32) then
          f_X6_readAll_L108 (fun σ' v3' => f_X6_readAll_L40 v2 k σ' v3') v2 σ_15 v3
        else
          if r_13 = (10 : Int32) then
            f_X6_readAll_L108 (fun σ' v3' => f_X6_readAll_L40 v2 k σ' v3') v2 σ_15 v3
          else
            ob (f_X6_readToken σ_15) fun σ_21 =>
            ob2 (f_X6_takeToken σ_21) fun σ_23 r_22 =>
            if r_22 = (0 : Int32) then
              f_X6_readAll_L108 (fun σ' v3' => f_X6_readAll_L40 v2 k σ' v3') v2 σ_23 v3
            else
              some (σ_23, r_22)
def f_X6_readAll (σ : GM) : Option (GM × Int32) :=
  ob (f_X3_empty σ 4) fun σ_2 =>
  nm (wI σ_2 3 2 (0 : Int32)) fun σ_3 =>
  nm (wI σ_3 3 4 (0 : Int32)) fun σ_4 =>
  nm (wI σ_4 3 5 (-1 : Int32)) fun σ_5 =>
  nm (if (600 : Int32) < (σ_5.1 1 1) then (600 : Int32) else (σ_5.1 1 1)) fun v2_6 =>
  nm (wI σ_5 3 3 (0 : Int32)) fun σ_7 =>
  f_X6_readAll_L40 v2_6 5000 σ_7 (0 : Int32)
def f_X5_forget (σ : GM) : Option GM :=
  nm (wI σ 11 1 (0 : Int32)) fun σ_1 =>
  some σ_1
def f_X11_markChanged (σ : GM) : Option GM :=
  nm (wI σ 0 11 (1 : Int32)) fun σ_1 =>
  nm (wI σ_1 0 12 (1 : Int32)) fun σ_2 =>
  nm (wI σ_2 0 13 (1 : Int32)) fun σ_3 =>
  some σ_3
def f_X11_net (σ : GM) : Option (GM × Int32) :=
  ob2 (f_X6_readAll σ) fun σ_2 r_1 =>
  nm (wI σ_2 0 10 r_1) fun σ_3 =>
  nm (wI σ_3 1 1 (0 : Int32)) fun σ_4 =>
  if (σ_4.1 0 10) = (0 : Int32) then
    ob (f_X3_copyFrom σ_4 8 4) fun σ_7 =>
    ob (f_X5_forget σ_7) fun σ_9 =>
    ob (f_X11_markChanged σ_9) fun σ_11 =>
    some (σ_11, (σ_11.1 3 2))
  else
    some (σ_4, ((-1 : Int32) - (σ_4.1 3 3)))
def f_X11_fault (σ : GM) : Option Int32 :=
  some (σ.1 0 10)
def f_X11_now (σ : GM) (v1 : Int32) : Option Int32 :=
  if v1 = (0 : Int32) then
    some (σ.1 8 2)
  else
    if v1 = (1 : Int32) then
      some (σ.1 8 3)
    else
      if v1 = (2 : Int32) then
        some (σ.1 8 5)
      else
        if v1 = (3 : Int32) then
          some (σ.1 8 4)
        else
          if v1 = (4 : Int32) then
            ob (f_X3_partsIn σ 8 (σ.1 8 3)) fun r_1 =>
            some r_1
          else
            if v1 = (5 : Int32) then
              ob (f_X3_weightOfSet σ 8 (σ.1 8 3)) fun r_3 =>
              some r_3
            else
              if v1 = (6 : Int32) then
                some (σ.1 11 1)
              else
                if v1 = (7 : Int32) then
                  some (σ.1 1 1)
                else
                  some (-1 : Int32)
def f_X11_lines (σ : GM) (v1 : Int32) (v2 : Int32) : Option Int32 :=
  ob (f_X3_isThere σ 8 v1) fun r_1 =>
  if r_1 = (0 : Int32) then
    some (-1 : Int32)
  else
    ob (f_X3_isThere σ 8 v2) fun r_4 =>
    if r_4 = (0 : Int32) then
      some (-1 : Int32)
    else
      ob (f_X3_linesOf σ 8 v1 v2) fun r_7 =>
      some r_7
def f_X8_isFreeByTip_L56 (σ : GM) (v1 : Int32) (v2 : Int32) : Option Int32 :=
  ob (f_X8_isFree σ (v1 &&& (((1 : Int32) <<< (v2 &&& 31)) ^^^ (-1 : Int32)))) fun r_14 =>
  some (r_14 &&& 1)
def f_X8_isFreeByTip_L2 (σ : GM) (v1 : Int32) : Nat → Int32 → Option Int32
  | 0, _ => none
  | k + 1, v2 =>
    if (12 : Int32) ≤ v2 then
      some ((0 : Int32) &&& 1)
    else
      if (12 : Int32) ≤ v2 then
        some ((0 : Int32) &&& 1)
      else
        bnd v2 12 <|
        nm ((σ.1 51 v2.toNatClampNeg) &&& v1) fun v3_4 =>
        ob (f_X3_holds σ v1 v2) fun r_5 =>
        if r_5 = (0 : Int32) then
          nm (v2 + (1 : Int32)) fun v2_8 =>
          f_X8_isFreeByTip_L2 σ v1 k v2_8
        else
          bnd v2 12 <|
          if ((σ.1 52 v2.toNatClampNeg) &&& v1) = (0 : Int32) then
            if (v3_4 &&& (v3_4 - (1 : Int32))) = (0 : Int32) then
              f_X8_isFreeByTip_L56 σ v1 v2
            else
              nm (v2 + (1 : Int32)) fun v2_13 =>
              f_X8_isFreeByTip_L2 σ v1 k v2_13
          else
            nm (v2 + (1 : Int32)) fun v2_11 =>
            f_X8_isFreeByTip_L2 σ v1 k v2_11
def f_X8_isFreeByTip (σ : GM) (v1 : Int32) : Option Int32 :=
  f_X8_isFreeByTip_L2 σ v1 5000 (0 : Int32)
def f_X8_isLeastRing_L12 (σ : GM) (v1 : Int32) : Nat → Int32 → Option Int32
  | 0, _ => none
  | k + 1, v2 =>
    if (12 : Int32) ≤ v2 then
      some ((1 : Int32) &&& 1)
    else
      ob (f_X3_holds σ v1 v2) fun r_5 =>
      if r_5 = (0 : Int32) then
        nm (v2 + (1 : Int32)) fun v2_8 =>
        f_X8_isLeastRing_L12 σ v1 k v2_8
      else
        ob (f_X8_isFree σ (v1 &&& (((1 : Int32) <<< (v2 &&& 31)) ^^^ (-1 : Int32)))) fun r_9 =>
        if r_9 = (0 : Int32) then
          some ((0 : Int32) &&& 1)
        else
          nm (v2 + (1 : Int32)) fun v2_12 =>
          f_X8_isLeastRing_L12 σ v1 k v2_12
def f_X8_isLeastRing (σ : GM) (v1 : Int32) : Option Int32 :=
  ob (f_X8_isFree σ v1) fun r_1 =>
  if r_1 = (0 : Int32) then
    f_X8_isLeastRing_L12 σ v1 5000 (0 : Int32)
  else
    some ((0 : Int32) &&& 1)
def f_X8_learnRings_L90 (k7 : GM → Int32 → Option GM) (k33 : GM → Int32 → Option GM) (v1 : Int32) (v2 : Int32) (v3 : Int32) (σ : GM) (v4 : Int32) : Option GM :=
  nm (v4 + ((2 : Int32) * v3)) fun v4_9 =>
  k33 σ v4_9
def f_X8_learnRings_L33 (k7 : GM → Int32 → Option GM) (v1 : Int32) (v2 : Int32) (v3 : Int32) : Nat → GM → Int32 → Option GM
  | 0, _, _ => none
  | k + 1, σ, v4 =>
    if v1 < v4 then
      nm (v2 + (1 : Int32)) fun v2_7 =>
      k7 σ v2_7
    else
      if (v4 &&& (v1 ^^^ (-1 : Int32))) = (0 : Int32) then
        ob (f_X8_isLeastRing σ v4) fun r_10 =>
        if r_10 = (0 : Int32) then
          f_X8_learnRings_L90 k7 (fun σ' v4' => f_X8_learnRings_L33 k7 v1 v2 v3 k σ' v4') v1 v2 v3 σ v4
        else
          if (924 : Int32) ≤ (σ.1 49 5) then
            f_X8_learnRings_L90 k7 (fun σ' v4' => f_X8_learnRings_L33 k7 v1 v2 v3 k σ' v4') v1 v2 v3 σ v4
          else
            bnd (σ.1 49 5) 924 <|
            nm (wI σ 53 (σ.1 49 5).toNatClampNeg v4) fun σ_15 =>
            nm (wI σ_15 49 5 ((σ_15.1 49 5) + (1 : Int32))) fun σ_16 =>
            f_X8_learnRings_L90 k7 (fun σ' v4' => f_X8_learnRings_L33 k7 v1 v2 v3 k σ' v4') v1 v2 v3 σ_16 v4
      else
        f_X8_learnRings_L90 k7 (fun σ' v4' => f_X8_learnRings_L33 k7 v1 v2 v3 k σ' v4') v1 v2 v3 σ v4
def f_X8_learnRings_L7 (v1 : Int32) : Nat → GM → Int32 → Option GM
  | 0, _, _ => none
  | k + 1, σ, v2 =>
    if (12 : Int32) ≤ v2 then
      some σ
    else
      bnd v2 12 <|
      nm (wI σ 54 v2.toNatClampNeg (σ.1 49 5)) fun σ_4 =>
      nm ((1 : Int32) <<< (v2 &&& 31)) fun v3_5 =>
      f_X8_learnRings_L33 (fun σ' v2' => f_X8_learnRings_L7 v1 k σ' v2') v1 v2 v3_5 5000 σ_4 v3_5
def f_X8_learnRings (σ : GM) (v1 : Int32) : Option GM :=
  nm (wI σ 49 5 (0 : Int32)) fun σ_1 =>
  f_X8_learnRings_L7 v1 5000 σ_1 (0 : Int32)
def f_X8_learn_L137 (σ : GM) : Option GM :=
  ob (f_X8_learnRings σ (σ.1 8 3)) fun σ_4 =>
  some σ_4
def f_X8_learn_L71  : Nat → GM → Int32 → Option GM
  | 0, _, _ => none
  | k + 1, σ, v2 =>
    if (σ.1 8 3) < v2 then
      f_X8_learn_L137 σ
    else
      if (4096 : Int32) ≤ v2 then
        f_X8_learn_L137 σ
      else
        ob (f_X3_areThere σ 8 v2) fun r_6 =>
        if r_6 = (0 : Int32) then
          nm (v2 + (1 : Int32)) fun v2_9 =>
          f_X8_learn_L71  k σ v2_9
        else
          if v2 = (0 : Int32) then
            bnd v2 4096 <|
            nm (wI σ 50 v2.toNatClampNeg ((1 : Int32) &&& 1)) fun σ_12 =>
            nm (v2 + (1 : Int32)) fun v2_13 =>
            f_X8_learn_L71  k σ_12 v2_13
          else
            ob (f_X8_isFree σ (v2 &&& (v2 - (1 : Int32)))) fun r_14 =>
            if r_14 = (0 : Int32) then
              bnd v2 4096 <|
              nm (wI σ 50 v2.toNatClampNeg ((0 : Int32) &&& 1)) fun σ_18 =>
              nm (v2 + (1 : Int32)) fun v2_19 =>
              f_X8_learn_L71  k σ_18 v2_19
            else
              ob (f_X8_isFreeByTip σ v2) fun r_20 =>
              if r_20 = (0 : Int32) then
                bnd v2 4096 <|
                nm (wI σ 50 v2.toNatClampNeg ((0 : Int32) &&& 1)) fun σ_24 =>
                nm (v2 + (1 : Int32)) fun v2_25 =>
                f_X8_learn_L71  k σ_24 v2_25
              else
                bnd v2 4096 <|
                nm (wI σ 50 v2.toNatClampNeg ((1 : Int32) &&& 1)) fun σ_27 =>
                nm (v2 + (1 : Int32)) fun v2_28 =>
                f_X8_learn_L71  k σ_27 v2_28
def f_X8_learn_L36 (k2 : GM → Int32 → Option GM) (σ : GM) (v2 : Int32) (s0 : Int32) : Option GM :=
  ob (f_X3_besides σ 8 v2 (1 : Int32)) fun r_33 =>
  bnd v2 12 <|
  nm (wI σ 51 v2.toNatClampNeg r_33) fun σ_36 =>
  ob (f_X3_besides σ_36 8 v2 (2 : Int32)) fun r_37 =>
  bnd v2 12 <|
  nm (wI σ_36 52 v2.toNatClampNeg (r_37 ||| s0)) fun σ_40 =>
  nm (v2 + (1 : Int32)) fun v2_41 =>
  k2 σ_40 v2_41
def f_X8_learn_L2  : Nat → GM → Int32 → Option GM
  | 0, _, _ => none
  | k + 1, σ, v2 =>
    if (12 : Int32) ≤ v2 then
      f_X8_learn_L71 5000 σ (0 : Int32)
    else
      if (12 : Int32) ≤ v2 then
        f_X8_learn_L71 5000 σ (0 : Int32)
      else
        ob (f_X3_linesOf σ 8 v2 v2) fun r_30 =>
        if r_30 ≤ (0 : Int32) then
          f_X8_learn_L36 (fun σ' v2' => f_X8_learn_L2  k σ' v2') σ v2 (0 : Int32)
        else
          f_X8_learn_L36 (fun σ' v2' => f_X8_learn_L2  k σ' v2') σ v2 ((1 : Int32) <<< (v2 &&& 31))
def f_X8_learn (σ : GM) : Option GM :=
  f_X8_learn_L2 5000 σ (0 : Int32)
def f_X11_ringsNow (σ : GM) : Option GM :=
  if (σ.1 0 11) = (0 : Int32) then
    some σ
  else
    ob (f_X8_learn σ) fun σ_3 =>
    nm (wI σ_3 0 11 (0 : Int32)) fun σ_4 =>
    some σ_4
def f_X11_cuts (σ : GM) (v1 : Int32) : Option (GM × Int32) :=
  ob (f_X3_areThere σ 8 v1) fun r_1 =>
  if r_1 = (0 : Int32) then
    some (σ, (-1 : Int32))
  else
    ob (f_X11_ringsNow σ) fun σ_5 =>
    ob (f_X8_isFree σ_5 ((σ_5.1 8 3) &&& (v1 ^^^ (-1 : Int32)))) fun r_6 =>
    if r_6 = (0 : Int32) then
      some (σ_5, (0 : Int32))
    else
      some (σ_5, (1 : Int32))
def f_X8_fewestOf_L9 (σ : GM) (v1 : Int32) (v2 : Int32) : Nat → Int32 → Int32 → Int32 → Option Int32
  | 0, _, _, _ => none
  | k + 1, v3, v4, v5 =>
    if v1 < v5 then
      some v3
    else
      if (v5 &&& (v1 ^^^ (-1 : Int32))) = (0 : Int32) then
        if (v5 &&& v2) = (0 : Int32) then
          ob (f_J6_bitCount_0f7a4 σ v5) fun r_6 =>
          if v4 ≤ r_6 then
            nm (v5 + (1 : Int32)) fun v5_9 =>
            f_X8_fewestOf_L9 σ v1 v2 k v3 v4 v5_9
          else
            ob (f_X8_isFree σ (v1 &&& (v5 ^^^ (-1 : Int32)))) fun r_10 =>
            if r_10 = (0 : Int32) then
              nm (v5 + (1 : Int32)) fun v5_13 =>
              f_X8_fewestOf_L9 σ v1 v2 k v3 v4 v5_13
            else
              ob (f_J6_bitCount_0f7a4 σ v5) fun r_14 =>
              nm (v5 + (1 : Int32)) fun v5_16 =>
              f_X8_fewestOf_L9 σ v1 v2 k v5 r_14 v5_16
        else
          nm (v5 + (1 : Int32)) fun v5_5 =>
          f_X8_fewestOf_L9 σ v1 v2 k v3 v4 v5_5
      else
        nm (v5 + (1 : Int32)) fun v5_3 =>
        f_X8_fewestOf_L9 σ v1 v2 k v3 v4 v5_3
def f_X8_fewestOf (σ : GM) (v1 : Int32) (v2 : Int32) : Option Int32 :=
  f_X8_fewestOf_L9 σ v1 v2 5000 (-1 : Int32) (13 : Int32) (0 : Int32)
def f_X11_tellSet (σ : GM) (v1 : Int32) (v2 : Int32) : Option Int32 :=
  if v2 = (0 : Int32) then
    ob (f_J6_bitCount_0f7a4 σ v1) fun r_5 =>
    some r_5
  else
    if v2 = (1 : Int32) then
      some v1
    else
      ob (f_X3_weightOfSet σ 8 v1) fun r_3 =>
      some r_3
def f_X11_fewest (σ : GM) (v1 : Int32) : Option (GM × Int32) :=
  if v1 < (0 : Int32) then
    some (σ, (-1 : Int32))
  else
    if v1 ≤ (2 : Int32) then
      ob (f_X11_ringsNow σ) fun σ_4 =>
      ob (f_X8_fewestOf σ_4 (σ_4.1 8 3) (0 : Int32)) fun r_5 =>
      ob (f_X11_tellSet σ_4 r_5 v1) fun r_7 =>
      some (σ_4, r_7)
    else
      some (σ, (-1 : Int32))
def f_X11_lightestCut_L25  : Nat → GM → Int32 → Int32 → Int32 → Option (GM × Int32)
  | 0, _, _, _, _ => none
  | k + 1, σ, v2, v3, v4 =>
    if (σ.1 8 3) < v4 then
      some (σ, v2)
    else
      ob (f_X3_areThere σ 8 v4) fun r_7 =>
      if r_7 = (0 : Int32) then
        nm (v4 + (1 : Int32)) fun v4_10 =>
        f_X11_lightestCut_L25  k σ v2 v3 v4_10
      else
        ob (f_X8_isFree σ ((σ.1 8 3) &&& (v4 ^^^ (-1 : Int32)))) fun r_11 =>
        if r_11 = (0 : Int32) then
          nm (v4 + (1 : Int32)) fun v4_14 =>
          f_X11_lightestCut_L25  k σ v2 v3 v4_14
        else
          ob (f_X3_weightOfSet σ 8 v4) fun r_15 =>
          if v3 ≤ r_15 then
            nm (v4 + (1 : Int32)) fun v4_18 =>
            f_X11_lightestCut_L25  k σ v2 v3 v4_18
          else
            nm (v4 + (1 : Int32)) fun v4_19 =>
            f_X11_lightestCut_L25  k σ v4 r_15 v4_19
def f_X11_lightestCut (σ : GM) : Option (GM × Int32) :=
  ob (f_X11_ringsNow σ) fun σ_2 =>
  nm (σ_2.1 8 3) fun v2_3 =>
  ob (f_X3_weightOfSet σ_2 8 v2_3) fun r_4 =>
  f_X11_lightestCut_L25 5000 σ_2 v2_3 r_4 (0 : Int32)
def f_X11_lightest (σ : GM) (v1 : Int32) : Option (GM × Int32) :=
  if v1 < (0 : Int32) then
    some (σ, (-1 : Int32))
  else
    if v1 ≤ (2 : Int32) then
      ob2 (f_X11_lightestCut σ) fun σ_4 r_3 =>
      ob (f_X11_tellSet σ_4 r_3 v1) fun r_5 =>
      some (σ_4, r_5)
    else
      some (σ, (-1 : Int32))
def f_X11_those_L125 (σ : GM) (v1 : Int32) (v4 : Int32) (v5 : Int32) (v6 : Int32) : Option (GM × Int32) :=
  if v1 = (0 : Int32) then
    some (σ, v4)
  else
    if v1 = (1 : Int32) then
      some (σ, v5)
    else
      some (σ, v6)
def f_X11_those_L50 (v1 : Int32) (v3 : Int32) : Nat → GM → Int32 → Int32 → Int32 → Int32 → Option (GM × Int32)
  | 0, _, _, _, _, _ => none
  | k + 1, σ, v4, v5, v6, v7 =>
    if (σ.1 8 3) < v7 then
      f_X11_those_L125 σ v1 v4 v5 v6
    else
      ob (f_X3_areThere σ 8 v7) fun r_13 =>
      if r_13 = (0 : Int32) then
        nm (v7 + (1 : Int32)) fun v7_16 =>
        f_X11_those_L50 v1 v3 k σ v4 v5 v6 v7_16
      else
        ob (f_J6_bitCount_0f7a4 σ v7) fun r_17 =>
        if r_17 = v3 then
          ob (f_X8_isFree σ ((σ.1 8 3) &&& (v7 ^^^ (-1 : Int32)))) fun r_21 =>
          if r_21 = (0 : Int32) then
            nm (v7 + (1 : Int32)) fun v7_24 =>
            f_X11_those_L50 v1 v3 k σ v4 v5 v6 v7_24
          else
            nm (v4 + (1 : Int32)) fun v4_25 =>
            nm (v5 &&& v7) fun v5_26 =>
            nm (v6 ||| v7) fun v6_27 =>
            nm (v7 + (1 : Int32)) fun v7_28 =>
            f_X11_those_L50 v1 v3 k σ v4_25 v5_26 v6_27 v7_28
        else
          nm (v7 + (1 : Int32)) fun v7_20 =>
          f_X11_those_L50 v1 v3 k σ v4 v5 v6 v7_20
def f_X11_those (σ : GM) (v1 : Int32) : Option (GM × Int32) :=
  if v1 < (0 : Int32) then
    some (σ, (-1 : Int32))
  else
    if v1 ≤ (2 : Int32) then
      ob (f_X11_ringsNow σ) fun σ_4 =>
      ob (f_X8_fewestOf σ_4 (σ_4.1 8 3) (0 : Int32)) fun r_5 =>
      ob (f_J6_bitCount_0f7a4 σ_4 r_5) fun r_7 =>
      nm (σ_4.1 8 3) fun v5_9 =>
      f_X11_those_L50 v1 r_7 5000 σ_4 (0 : Int32) v5_9 (0 : Int32) (0 : Int32)
    else
      some (σ, (-1 : Int32))
def f_X11_sparing (σ : GM) (v1 : Int32) : Option (GM × Int32) :=
  ob (f_X3_areThere σ 8 v1) fun r_1 =>
  if r_1 = (0 : Int32) then
    some (σ, (-1 : Int32))
  else
    ob (f_X11_ringsNow σ) fun σ_5 =>
    ob (f_X8_fewestOf σ_5 (σ_5.1 8 3) v1) fun r_6 =>
    some (σ_5, r_6)
def f_X11_upTo (σ : GM) (v1 : Int32) : Option (GM × Int32) :=
  if v1 < (0 : Int32) then
    some (σ, (-1 : Int32))
  else
    if (σ.1 8 2) ≤ v1 then
      some (σ, (-1 : Int32))
    else
      if v1 < (12 : Int32) then
        nm ((σ.1 8 3) &&& (((2 : Int32) <<< (v1 &&& 31)) - (1 : Int32))) fun v2_4 =>
        ob (f_X11_ringsNow σ) fun σ_6 =>
        ob (f_X8_fewestOf σ_6 v2_4 (0 : Int32)) fun r_7 =>
        ob (f_J6_bitCount_0f7a4 σ_6 r_7) fun r_9 =>
        some (σ_6, r_9)
      else
        some (σ, (-1 : Int32))
def f_X7_waysBack_L33 (σ : GM) (kr : Int32 → Int32 → Int32 → Int32 → Option Int64) (v1 : Int32) (v2 : Int32) (v3 : Int32) (v4 : Int32) : Nat → Int64 → Int32 → Option Int64
  | 0, _, _ => none
  | k + 1, v5, v7 =>
    if (12 : Int32) ≤ v7 then
      some v5
    else
      ob (f_X3_linesOf σ 8 v2 v7) fun r_5 =>
      if r_5 ≤ (0 : Int32) then
        nm (v7 + (1 : Int32)) fun v7_8 =>
        f_X7_waysBack_L33 σ kr v1 v2 v3 v4 k v5 v7_8
      else
        ob (f_X3_holds σ v3 v7) fun r_9 =>
        if r_9 = (0 : Int32) then
          ob (kr v1 v7 (v3 ||| ((1 : Int32) <<< (v7 &&& 31))) (v4 + (1 : Int32))) fun r_13 =>
          nm (v5 + ((r_5.toInt64) * r_13)) fun v5_15 =>
          nm (v7 + (1 : Int32)) fun v7_16 =>
          f_X7_waysBack_L33 σ kr v1 v2 v3 v4 k v5_15 v7_16
        else
          nm (v7 + (1 : Int32)) fun v7_12 =>
          f_X7_waysBack_L33 σ kr v1 v2 v3 v4 k v5 v7_12
def f_X7_waysBack_L26 (σ : GM) (kr : Int32 → Int32 → Int32 → Int32 → Option Int64) (v1 : Int32) (v2 : Int32) (v3 : Int32) (v4 : Int32) (s0 : Int64) : Option Int64 :=
  nm (v1 + (1 : Int32)) fun v7_3 =>
  f_X7_waysBack_L33 σ kr v1 v2 v3 v4 5000 s0 v7_3
def f_X7_waysBack : Nat → GM → Int32 → Int32 → Int32 → Int32 → Option Int64
  | 0, _, _, _, _, _ => none
  | d + 1, σ, v1, v2, v3, v4 =>
    if v4 ≤ (12 : Int32) then
      if v4 ≤ (2 : Int32) then
        f_X7_waysBack_L26 σ (f_X7_waysBack d σ) v1 v2 v3 v4 (0 : Int64)
      else
        ob (f_X3_linesOf σ 8 v2 v1) fun r_17 =>
        f_X7_waysBack_L26 σ (f_X7_waysBack d σ) v1 v2 v3 v4 (r_17.toInt64)
    else
      some (0 : Int64)
def f_X7_of_L68 (σ : GM) (k7 : Int64 → Int64 → Int32 → Option Int64) (v1 : Int64) (v3 : Int64) (v5 : Int32) : Option Int64 :=
  ob (f_X3_isThere σ 8 v5) fun r_8 =>
  if r_8 = (0 : Int32) then
    nm (v5 + (1 : Int32)) fun v5_11 =>
    k7 v1 v3 v5_11
  else
    ob (f_X7_waysBack 14 σ v5 v5 ((1 : Int32) <<< (v5 &&& 31)) (1 : Int32)) fun r_12 =>
    nm (v3 + r_12) fun v3_14 =>
    nm (v5 + (1 : Int32)) fun v5_15 =>
    k7 v1 v3_14 v5_15
def f_X7_of_L32 (σ : GM) (k7 : Int64 → Int64 → Int32 → Option Int64) (v3 : Int64) (v5 : Int32) : Nat → Int64 → Int32 → Option Int64
  | 0, _, _ => none
  | k + 1, v1, v6 =>
    if (12 : Int32) ≤ v6 then
      f_X7_of_L68 σ k7 v1 v3 v5
    else
      ob (f_X3_linesOf σ 8 v5 v6) fun r_16 =>
      nz (2 : Int32) <|
      nm (v1 + ((((r_16 * (r_16 - (1 : Int32))) / (2 : Int32))).toInt64)) fun v1_19 =>
      nm (v6 + (1 : Int32)) fun v6_20 =>
      f_X7_of_L32 σ k7 v3 v5 k v1_19 v6_20
def f_X7_of_L7 (σ : GM) : Nat → Int64 → Int64 → Int32 → Option Int64
  | 0, _, _, _ => none
  | k + 1, v1, v3, v5 =>
    if (12 : Int32) ≤ v5 then
      nzl (2 : Int64) <|
      some (v1 + (v3 / (2 : Int64)))
    else
      ob (f_X3_linesOf σ 8 v5 v5) fun r_3 =>
      nm (v1 + (r_3.toInt64)) fun v1_5 =>
      nm (v5 + (1 : Int32)) fun v6_6 =>
      f_X7_of_L32 σ (fun v1' v3' v5' => f_X7_of_L7 σ k v1' v3' v5') v3 v5 5000 v1_5 v6_6
def f_X7_of (σ : GM) : Option Int64 :=
  f_X7_of_L7 σ 5000 (0 : Int64) (0 : Int64) (0 : Int32)
def f_X11_rings (σ : GM) : Option Int64 :=
  ob (f_X7_of σ) fun r_1 =>
  some r_1
def f_X8_shortestRing_L4 (σ : GM) : Nat → Int32 → Int32 → Option Int32
  | 0, _, _ => none
  | k + 1, v1, v2 =>
    if (σ.1 49 5) ≤ v2 then
      some v1
    else
      ob (f_X8_ringAt σ v2) fun r_2 =>
      ob (f_J6_bitCount_0f7a4 σ r_2) fun r_4 =>
      ob (f_J6_bitCount_0f7a4 σ v1) fun r_6 =>
      nm (r_4 - r_6) fun v4_8 =>
      if v1 = (0 : Int32) then
        nm (v2 + (1 : Int32)) fun v2_10 =>
        f_X8_shortestRing_L4 σ k r_2 v2_10
      else
        if v4_8 < (0 : Int32) then
          nm (v2 + (1 : Int32)) fun v2_12 =>
          f_X8_shortestRing_L4 σ k r_2 v2_12
        else
          if v4_8 = (0 : Int32) then
            if v1 ≤ r_2 then
              nm (v2 + (1 : Int32)) fun v2_16 =>
              f_X8_shortestRing_L4 σ k v1 v2_16
            else
              nm (v2 + (1 : Int32)) fun v2_17 =>
              f_X8_shortestRing_L4 σ k r_2 v2_17
          else
            nm (v2 + (1 : Int32)) fun v2_14 =>
            f_X8_shortestRing_L4 σ k v1 v2_14
def f_X8_shortestRing (σ : GM) : Option Int32 :=
  f_X8_shortestRing_L4 σ 5000 (0 : Int32) (0 : Int32)
def f_X11_shortest (σ : GM) : Option (GM × Int32) :=
  ob (f_X11_ringsNow σ) fun σ_2 =>
  ob (f_X8_shortestRing σ_2) fun r_3 =>
  some (σ_2, r_3)
def f_X4_mostIn (σ : GM) (v1 : Int32) : Option Int32 :=
  if v1 < (0 : Int32) then
    some (0 : Int32)
  else
    if (4096 : Int32) ≤ v1 then
      some (0 : Int32)
    else
      bnd v1 4096 <|
      some (σ.1 56 v1.toNatClampNeg)
def f_X8_startOf (σ : GM) (v1 : Int32) : Option Int32 :=
  if v1 < (0 : Int32) then
    some (σ.1 49 5)
  else
    if (12 : Int32) ≤ v1 then
      some (σ.1 49 5)
    else
      bnd v1 12 <|
      some (σ.1 54 v1.toNatClampNeg)
def f_X4_mostWithLowest_L32 (σ : GM) (v1 : Int32) (v5 : Int32) : Nat → Int32 → Int32 → Option Int32
  | 0, _, _ => none
  | k + 1, v4, v6 =>
    if v5 ≤ v6 then
      some v4
    else
      ob (f_X8_ringAt σ v6) fun r_10 =>
      if (r_10 &&& (v1 ^^^ (-1 : Int32))) = (0 : Int32) then
        ob (f_X4_mostIn σ (v1 &&& (r_10 ^^^ (-1 : Int32)))) fun r_14 =>
        nm (if v4 < ((1 : Int32) + r_14) then ((1 : Int32) + r_14) else v4) fun v4_16 =>
        nm (v6 + (1 : Int32)) fun v6_17 =>
        f_X4_mostWithLowest_L32 σ v1 v5 k v4_16 v6_17
      else
        nm (v6 + (1 : Int32)) fun v6_13 =>
        f_X4_mostWithLowest_L32 σ v1 v5 k v4 v6_13
def f_X4_mostWithLowest (σ : GM) (v1 : Int32) : Option Int32 :=
  ob (f_X8_lowest σ v1) fun r_1 =>
  ob (f_X4_mostIn σ (v1 &&& (v1 - (1 : Int32)))) fun r_3 =>
  ob (f_X8_startOf σ (r_1 + (1 : Int32))) fun r_5 =>
  ob (f_X8_startOf σ r_1) fun r_7 =>
  f_X4_mostWithLowest_L32 σ v1 r_5 5000 r_3 r_7
def f_X4_learn_L2 (v1 : Int32) : Nat → GM → Int32 → Option GM
  | 0, _, _ => none
  | k + 1, σ, v3 =>
    if v1 < v3 then
      some σ
    else
      if (4096 : Int32) ≤ v3 then
        some σ
      else
        if (v3 &&& (v1 ^^^ (-1 : Int32))) = (0 : Int32) then
          if v3 = (0 : Int32) then
            bnd v3 4096 <|
            nm (wI σ 56 v3.toNatClampNeg (0 : Int32)) fun σ_12 =>
            nm (v3 + (1 : Int32)) fun v3_13 =>
            f_X4_learn_L2 v1 k σ_12 v3_13
          else
            ob (f_X4_mostWithLowest σ v3) fun r_6 =>
            bnd v3 4096 <|
            nm (wI σ 56 v3.toNatClampNeg r_6) fun σ_9 =>
            nm (v3 + (1 : Int32)) fun v3_10 =>
            f_X4_learn_L2 v1 k σ_9 v3_10
        else
          nm (v3 + (1 : Int32)) fun v3_4 =>
          f_X4_learn_L2 v1 k σ v3_4
def f_X4_learn (σ : GM) (v1 : Int32) : Option GM :=
  f_X4_learn_L2 v1 5000 σ (0 : Int32)
def f_X11_packingNow (σ : GM) : Option GM :=
  if (σ.1 0 12) = (0 : Int32) then
    some σ
  else
    ob (f_X11_ringsNow σ) fun σ_3 =>
    ob (f_X4_learn σ_3 (σ.1 8 3)) fun σ_5 =>
    nm (wI σ_5 0 12 (0 : Int32)) fun σ_6 =>
    some σ_6
def f_X11_packed (σ : GM) : Option (GM × Int32) :=
  ob (f_X11_packingNow σ) fun σ_2 =>
  ob (f_X4_mostIn σ_2 (σ_2.1 8 3)) fun r_3 =>
  some (σ_2, r_3)
def f_X4_leastOfMost_L56 (σ : GM) (k5 : Int32 → Int32 → Option Int32) (v1 : Int32) (v3 : Int32) (v4 : Int32) (v5 : Int32) (s0 : Int32) : Option Int32 :=
  if s0 = (0 : Int32) then
    nm (v4 + (1 : Int32)) fun v4_6 =>
    k5 v3 v4_6
  else
    if v3 = (0 : Int32) then
      nm (v4 + (1 : Int32)) fun v4_8 =>
      k5 v5 v4_8
    else
      if v3 ≤ v5 then
        nm (v4 + (1 : Int32)) fun v4_10 =>
        k5 v3 v4_10
      else
        nm (v4 + (1 : Int32)) fun v4_11 =>
        k5 v5 v4_11
def f_X4_leastOfMost_L55 (σ : GM) (k5 : Int32 → Int32 → Option Int32) (v1 : Int32) (v3 : Int32) (v4 : Int32) (v5 : Int32) : Option Int32 :=
  f_X4_leastOfMost_L56 σ k5 v1 v3 v4 v5 (0 : Int32)
def f_X4_leastOfMost_L5 (σ : GM) (v1 : Int32) : Nat → Int32 → Int32 → Option Int32
  | 0, _, _ => none
  | k + 1, v3, v4 =>
    if (σ.1 49 5) ≤ v4 then
      some v3
    else
      ob (f_X8_ringAt σ v4) fun r_2 =>
      if (r_2 &&& (v1 ^^^ (-1 : Int32))) = (0 : Int32) then
        ob (f_X4_mostIn σ (v1 &&& (r_2 ^^^ (-1 : Int32)))) fun r_12 =>
        ob (f_X4_mostIn σ v1) fun r_14 =>
        if ((1 : Int32) + r_12) = r_14 then
          f_X4_leastOfMost_L56 σ (fun v3' v4' => f_X4_leastOfMost_L5 σ v1 k v3' v4') v1 v3 v4 r_2 (1 : Int32)
        else
          f_X4_leastOfMost_L55 σ (fun v3' v4' => f_X4_leastOfMost_L5 σ v1 k v3' v4') v1 v3 v4 r_2
      else
        f_X4_leastOfMost_L55 σ (fun v3' v4' => f_X4_leastOfMost_L5 σ v1 k v3' v4') v1 v3 v4 r_2
def f_X4_leastOfMost (σ : GM) (v1 : Int32) : Option Int32 :=
  f_X4_leastOfMost_L5 σ v1 5000 (0 : Int32) (0 : Int32)
def f_X4_ringAt_L28 (σ : GM) (v1 : Int32) : Nat → Int32 → Int32 → Int32 → Option Int32
  | 0, _, _, _ => none
  | k + 1, v5, v6, v7 =>
    if v1 < v7 then
      some v6
    else
      ob (f_X4_leastOfMost σ v5) fun r_6 =>
      nm (v5 &&& (r_6 ^^^ (-1 : Int32))) fun v5_8 =>
      nm (v7 + (1 : Int32)) fun v7_9 =>
      f_X4_ringAt_L28 σ v1 k v5_8 r_6 v7_9
def f_X4_ringAt (σ : GM) (v1 : Int32) (v2 : Int32) : Option Int32 :=
  ob (f_X4_mostIn σ v2) fun r_1 =>
  if v1 < (0 : Int32) then
    some (-1 : Int32)
  else
    if v1 < r_1 then
      f_X4_ringAt_L28 σ v1 5000 v2 (0 : Int32) (0 : Int32)
    else
      some (-1 : Int32)
def f_X11_pack (σ : GM) (v1 : Int32) : Option (GM × Int32) :=
  if (0 : Int32) ≤ v1 then
    ob (f_X11_packingNow σ) fun σ_3 =>
    ob (f_X4_ringAt σ_3 v1 (σ_3.1 8 3)) fun r_4 =>
    some (σ_3, r_4)
  else
    some (σ, (-1 : Int32))
def f_X11_discountNow (σ : GM) : Option GM :=
  if (σ.1 0 13) = (0 : Int32) then
    some σ
  else
    ob (f_X11_ringsNow σ) fun σ_3 =>
    ob (f_X0_run σ_3) fun σ_5 =>
    nm (wI σ_5 0 13 (0 : Int32)) fun σ_6 =>
    some σ_6
def f_X11_near (σ : GM) : Option (GM × Int32) :=
  ob (f_X11_discountNow σ) fun σ_2 =>
  some (σ_2, (σ_2.1 57 4))
def f_X5_placeAt (σ : GM) (v1 : Int32) : Option (Option Nat) :=
  if v1 < (0 : Int32) then
    some none
  else
    if (9 : Int32) ≤ v1 then
      some none
    else
      bnd v1 9 <|
      some (some (13 + 3 * v1.toNatClampNeg))
def f_X5_note (σ : GM) : Option GM :=
  nz (9 : Int32) <|
  ob (f_X5_placeAt σ (((σ.1 11 2) + (1 : Int32)) - ((σ.1 11 2) + (1 : Int32)) / (9 : Int32) * (9 : Int32))) fun r_2 =>
  qm r_2 (
    some σ
  ) fun v_5 =>
  chkS v_5 (3, 0) <|
  ob (f_X3_copyFrom σ v_5 8) fun σ_7 =>
  some σ_7
def f_X9_takeLooped_L25 (σ : GM) (v1 : Int32) : Option (GM × Int32) :=
  ob2 (f_X3_remove σ 8 v1) fun σ_11 r_10 =>
  nm (wI σ_11 8 4 ((σ_11.1 8 4) ||| ((1 : Int32) <<< (v1 &&& 31)))) fun σ_12 =>
  some (σ_12, v1)
def f_X9_takeLooped_L2  : Nat → GM → Int32 → Option (GM × Int32)
  | 0, _, _ => none
  | k + 1, σ, v1 =>
    if (12 : Int32) ≤ v1 then
      some (σ, (-1 : Int32))
    else
      ob (f_X3_isThere σ 8 v1) fun r_2 =>
      if r_2 = (0 : Int32) then
        nm (v1 + (1 : Int32)) fun v1_5 =>
        f_X9_takeLooped_L2  k σ v1_5
      else
        ob (f_X3_linesOf σ 8 v1 v1) fun r_6 =>
        if r_6 ≤ (0 : Int32) then
          nm (v1 + (1 : Int32)) fun v1_9 =>
          f_X9_takeLooped_L2  k σ v1_9
        else
          f_X9_takeLooped_L25 σ v1
def f_X9_takeLooped (σ : GM) : Option (GM × Int32) :=
  f_X9_takeLooped_L2 5000 σ (0 : Int32)
def f_X9_removeTip_L2  : Nat → GM → Int32 → Option (GM × Int32)
  | 0, _, _ => none
  | k + 1, σ, v1 =>
    if (12 : Int32) ≤ v1 then
      some (σ, (-1 : Int32))
    else
      ob (f_X3_isThere σ 8 v1) fun r_2 =>
      if r_2 = (0 : Int32) then
        nm (v1 + (1 : Int32)) fun v1_5 =>
        f_X9_removeTip_L2  k σ v1_5
      else
        ob (f_X3_endsIn σ 8 v1 (σ.1 8 3)) fun r_6 =>
        if (1 : Int32) < r_6 then
          nm (v1 + (1 : Int32)) fun v1_9 =>
          f_X9_removeTip_L2  k σ v1_9
        else
          ob2 (f_X3_remove σ 8 v1) fun σ_11 r_10 =>
          some (σ_11, v1)
def f_X9_removeTip (σ : GM) : Option (GM × Int32) :=
  f_X9_removeTip_L2 5000 σ (0 : Int32)
def f_X9_thinLines_L12 (k2 : GM → Int32 → Option (GM × Int32)) (v1 : Int32) : Nat → GM → Int32 → Option (GM × Int32)
  | 0, _, _ => none
  | k + 1, σ, v2 =>
    if (12 : Int32) ≤ v2 then
      nm (v1 + (1 : Int32)) fun v1_4 =>
      k2 σ v1_4
    else
      ob (f_X3_linesOf σ 8 v1 v2) fun r_5 =>
      if r_5 ≤ (2 : Int32) then
        nm (v2 + (1 : Int32)) fun v2_8 =>
        f_X9_thinLines_L12 k2 v1 k σ v2_8
      else
        ob (f_X3_setLines σ 8 v1 v2 (2 : Int32)) fun σ_10 =>
        some (σ_10, v1)
def f_X9_thinLines_L2  : Nat → GM → Int32 → Option (GM × Int32)
  | 0, _, _ => none
  | k + 1, σ, v1 =>
    if (12 : Int32) ≤ v1 then
      some (σ, (-1 : Int32))
    else
      nm (v1 + (1 : Int32)) fun v2_2 =>
      f_X9_thinLines_L12 (fun σ' v1' => f_X9_thinLines_L2  k σ' v1') v1 5000 σ v2_2
def f_X9_thinLines (σ : GM) : Option (GM × Int32) :=
  f_X9_thinLines_L2 5000 σ (0 : Int32)
def f_X9_passBy_L82 (σ : GM) (v1 : Int32) (v3 : Int32) (v4 : Int32) : Option (GM × Int32) :=
  ob2 (f_X3_remove σ 8 v1) fun σ_26 r_25 =>
  ob2 (f_X3_addLine σ_26 8 v3 v4) fun σ_28 r_27 =>
  some (σ_28, v1)
def f_X9_passBy_L60 (k2 : GM → Int32 → Option (GM × Int32)) (σ : GM) (v1 : Int32) (v3 : Int32) (v4 : Int32) : Option (GM × Int32) :=
  ob (f_X3_weightOf σ 8 v1) fun r_17 =>
  ob (f_X3_weightOf σ 8 v3) fun r_19 =>
  ob (f_X3_weightOf σ 8 v4) fun r_21 =>
  if r_17 < (if r_21 < r_19 then r_21 else r_19) then
    nm (v1 + (1 : Int32)) fun v1_24 =>
    k2 σ v1_24
  else
    f_X9_passBy_L82 σ v1 v3 v4
def f_X9_passBy_L2  : Nat → GM → Int32 → Option (GM × Int32)
  | 0, _, _ => none
  | k + 1, σ, v1 =>
    if (12 : Int32) ≤ v1 then
      some (σ, (-1 : Int32))
    else
      ob (f_X3_isThere σ 8 v1) fun r_2 =>
      if r_2 = (0 : Int32) then
        nm (v1 + (1 : Int32)) fun v1_5 =>
        f_X9_passBy_L2  k σ v1_5
      else
        ob (f_X3_endsIn σ 8 v1 (σ.1 8 3)) fun r_6 =>
        if r_6 = (2 : Int32) then
          ob (f_X3_besides σ 8 v1 (1 : Int32)) fun r_10 =>
          ob (f_X8_lowest σ r_10) fun r_12 =>
          ob (f_X8_lowest σ (r_10 &&& (r_10 - (1 : Int32)))) fun r_14 =>
          if r_14 = (-1 : Int32) then
            f_X9_passBy_L60 (fun σ' v1' => f_X9_passBy_L2  k σ' v1') σ v1 r_12 r_12
          else
            f_X9_passBy_L60 (fun σ' v1' => f_X9_passBy_L2  k σ' v1') σ v1 r_12 r_14
        else
          nm (v1 + (1 : Int32)) fun v1_9 =>
          f_X9_passBy_L2  k σ v1_9
def f_X9_passBy (σ : GM) : Option (GM × Int32) :=
  f_X9_passBy_L2 5000 σ (0 : Int32)
def f_X9_step (σ : GM) : Option (GM × Int32) :=
  ob2 (f_X9_takeLooped σ) fun σ_2 r_1 =>
  if r_1 = (-1 : Int32) then
    ob2 (f_X9_removeTip σ_2) fun σ_5 r_4 =>
    if r_4 = (-1 : Int32) then
      ob2 (f_X9_thinLines σ_5) fun σ_8 r_7 =>
      if r_7 = (-1 : Int32) then
        ob2 (f_X9_passBy σ_8) fun σ_11 r_10 =>
        if r_10 = (-1 : Int32) then
          some (σ_11, (-1 : Int32))
        else
          some (σ_11, ((48 : Int32) + r_10))
      else
        some (σ_8, ((32 : Int32) + r_7))
    else
      some (σ_5, ((16 : Int32) + r_4))
  else
    some (σ_2, r_1)
def f_X5_keepNoted (σ : GM) : Option GM :=
  nz (9 : Int32) <|
  nm (wI σ 11 2 (((σ.1 11 2) + (1 : Int32)) - ((σ.1 11 2) + (1 : Int32)) / (9 : Int32) * (9 : Int32))) fun σ_2 =>
  nm (wI σ_2 11 1 (if ((σ_2.1 11 1) + (1 : Int32)) < (8 : Int32) then ((σ_2.1 11 1) + (1 : Int32)) else (8 : Int32))) fun σ_3 =>
  some σ_3
def f_X11_keepAct (σ : GM) : Option GM :=
  ob (f_X5_keepNoted σ) fun σ_2 =>
  ob (f_X11_markChanged σ_2) fun σ_4 =>
  some σ_4
def f_X11_shrink (σ : GM) : Option (GM × Int32) :=
  ob (f_X5_note σ) fun σ_2 =>
  ob2 (f_X9_step σ_2) fun σ_4 r_3 =>
  if r_3 = (-1 : Int32) then
    some (σ_4, r_3)
  else
    ob (f_X11_keepAct σ_4) fun σ_7 =>
    some (σ_7, r_3)
def f_X11_shrinkAll_L42 (σ : GM) (v1 : Int32) : Option (GM × Int32) :=
  if v1 ≤ (0 : Int32) then
    some (σ, v1)
  else
    ob (f_X11_keepAct σ) fun σ_6 =>
    some (σ_6, v1)
def f_X11_shrinkAll_L15  : Nat → GM → Int32 → Int32 → Option (GM × Int32)
  | 0, _, _, _ => none
  | k + 1, σ, v1, v2 =>
    if (1000 : Int32) ≤ v2 then
      f_X11_shrinkAll_L42 σ v1
    else
      ob2 (f_X9_step σ) fun σ_8 r_7 =>
      if r_7 = (-1 : Int32) then
        f_X11_shrinkAll_L42 σ_8 v1
      else
        nm (v1 + (1 : Int32)) fun v1_10 =>
        nm (v2 + (1 : Int32)) fun v2_11 =>
        f_X11_shrinkAll_L15  k σ_8 v1_10 v2_11
def f_X11_shrinkAll (σ : GM) : Option (GM × Int32) :=
  ob (f_X5_note σ) fun σ_2 =>
  f_X11_shrinkAll_L15 5000 σ_2 (0 : Int32) (0 : Int32)
def f_X11_drop (σ : GM) (v1 : Int32) : Option (GM × Int32) :=
  ob (f_X5_note σ) fun σ_2 =>
  ob2 (f_X3_remove σ_2 8 v1) fun σ_4 r_3 =>
  if r_3 = (0 : Int32) then
    some (σ_4, (-1 : Int32))
  else
    ob (f_X11_keepAct σ_4) fun σ_7 =>
    ob (f_J6_bitCount_0f7a4 σ_7 (σ_7.1 8 3)) fun r_8 =>
    some (σ_7, r_8)
def f_X11_join (σ : GM) (v1 : Int32) (v2 : Int32) : Option (GM × Int32) :=
  ob (f_X3_isThere σ 8 v1) fun r_1 =>
  if r_1 = (0 : Int32) then
    some (σ, (-1 : Int32))
  else
    ob (f_X3_isThere σ 8 v2) fun r_4 =>
    if r_4 = (0 : Int32) then
      some (σ, (-1 : Int32))
    else
      ob (f_X5_note σ) fun σ_8 =>
      ob2 (f_X3_addLine σ_8 8 v1 v2) fun σ_10 r_9 =>
      if r_9 = (0 : Int32) then
        some (σ_10, (-2 : Int32))
      else
        ob (f_X11_keepAct σ_10) fun σ_13 =>
        ob (f_X3_linesOf σ_13 8 v1 v2) fun r_14 =>
        some (σ_13, r_14)
def f_X11_part (σ : GM) (v1 : Int32) (v2 : Int32) : Option (GM × Int32) :=
  ob (f_X5_note σ) fun σ_2 =>
  ob2 (f_X3_takeLine σ_2 8 v1 v2) fun σ_4 r_3 =>
  if r_3 = (0 : Int32) then
    some (σ_4, (-1 : Int32))
  else
    ob (f_X11_keepAct σ_4) fun σ_7 =>
    ob (f_X3_linesOf σ_7 8 v1 v2) fun r_8 =>
    some (σ_7, r_8)
def f_X11_weigh (σ : GM) (v1 : Int32) (v2 : Int32) : Option (GM × Int32) :=
  ob (f_X3_isThere σ 8 v1) fun r_1 =>
  if r_1 = (0 : Int32) then
    some (σ, (-1 : Int32))
  else
    if v2 < (1 : Int32) then
      some (σ, (-1 : Int32))
    else
      if v2 ≤ (9 : Int32) then
        ob (f_X5_note σ) fun σ_7 =>
        ob2 (f_X3_changeWeight σ_7 8 v1 v2) fun σ_9 r_8 =>
        if r_8 = (0 : Int32) then
          some (σ_9, (1 : Int32))
        else
          ob (f_X11_keepAct σ_9) fun σ_12 =>
          some (σ_12, (0 : Int32))
      else
        some (σ, (-1 : Int32))
def f_X11_doDeed (σ : GM) : Option (GM × Int32) :=
  ob2 (f_X1_below σ (8 : Int32)) fun σ_2 r_1 =>
  if (σ_2.1 8 2) = (0 : Int32) then
    some (σ_2, ((0 : Int32) &&& 1))
  else
    ob2 (f_X1_below σ_2 (σ_2.1 8 2)) fun σ_5 r_4 =>
    if r_1 = (0 : Int32) then
      ob2 (f_X3_remove σ_5 8 r_4) fun σ_20 r_19 =>
      some (σ_20, (r_19 &&& 1))
    else
      if r_1 = (1 : Int32) then
        ob2 (f_X1_below σ_5 (9 : Int32)) fun σ_16 r_15 =>
        ob2 (f_X3_changeWeight σ_16 8 r_4 (r_15 + (1 : Int32))) fun σ_18 r_17 =>
        some (σ_18, (r_17 &&& 1))
      else
        ob2 (f_X1_below σ_5 (σ_5.1 8 2)) fun σ_9 r_8 =>
        if r_1 = (2 : Int32) then
          ob2 (f_X3_takeLine σ_9 8 r_4 r_8) fun σ_14 r_13 =>
          some (σ_14, (r_13 &&& 1))
        else
          ob2 (f_X3_addLine σ_9 8 r_4 r_8) fun σ_12 r_11 =>
          some (σ_12, (r_11 &&& 1))
def f_X11_drawn_L59 (σ : GM) (v3 : Int32) : Option (GM × Int32) :=
  if v3 ≤ (0 : Int32) then
    some (σ, v3)
  else
    ob (f_X11_keepAct σ) fun σ_9 =>
    some (σ_9, v3)
def f_X11_drawn_L37 (v1 : Int32) : Nat → GM → Int32 → Int32 → Option (GM × Int32)
  | 0, _, _, _ => none
  | k + 1, σ, v3, v4 =>
    if v1 ≤ v4 then
      f_X11_drawn_L59 σ v3
    else
      ob2 (f_X11_doDeed σ) fun σ_11 r_10 =>
      if r_10 = (0 : Int32) then
        nm (v4 + (1 : Int32)) fun v4_13 =>
        f_X11_drawn_L37 v1 k σ_11 v3 v4_13
      else
        nm (v3 + (1 : Int32)) fun v3_14 =>
        nm (v4 + (1 : Int32)) fun v4_15 =>
        f_X11_drawn_L37 v1 k σ_11 v3_14 v4_15
def f_X11_drawn (σ : GM) (v1 : Int32) (v2 : Int32) : Option (GM × Int32) :=
  if v1 < (1 : Int32) then
    some (σ, (-1 : Int32))
  else
    if v1 ≤ (60 : Int32) then
      ob (f_X5_note σ) fun σ_4 =>
      nm (wI σ_4 48 0 v2) fun σ_5 =>
      f_X11_drawn_L37 v1 5000 σ_5 (0 : Int32) (0 : Int32)
    else
      some (σ, (-1 : Int32))
def f_X5_giveLatest (σ : GM) : Option (GM × Int32) :=
  ob (f_X5_placeAt σ (σ.1 11 2)) fun r_1 =>
  qm r_1 (
    if (σ.1 11 1) ≤ (0 : Int32) then
      some (σ, ((0 : Int32) &&& 1))
    else
      some (σ, ((0 : Int32) &&& 1))
  ) fun v_4 =>
  chkS v_4 (3, 0) <|
  if (σ.1 11 1) ≤ (0 : Int32) then
    some (σ, ((0 : Int32) &&& 1))
  else
    ob (f_X3_copyFrom σ 8 v_4) fun σ_8 =>
    nz (9 : Int32) <|
    nm (wI σ_8 11 2 ((((σ_8.1 11 2) + (9 : Int32)) - (1 : Int32)) - (((σ_8.1 11 2) + (9 : Int32)) - (1 : Int32)) / (9 : Int32) * (9 : Int32))) fun σ_10 =>
    nm (wI σ_10 11 1 ((σ_10.1 11 1) - (1 : Int32))) fun σ_11 =>
    some (σ_11, ((1 : Int32) &&& 1))
def f_X11_undo (σ : GM) : Option (GM × Int32) :=
  ob2 (f_X5_giveLatest σ) fun σ_2 r_1 =>
  if r_1 = (0 : Int32) then
    some (σ_2, (-1 : Int32))
  else
    ob (f_X11_markChanged σ_2) fun σ_5 =>
    some (σ_5, (σ_5.1 11 1))
def f_X11_keptAt (σ : GM) (v1 : Int32) : Option (Option Nat) :=
  if v1 = (0 : Int32) then
    some (some 40)
  else
    if v1 = (1 : Int32) then
      some (some 44)
    else
      some none
def f_X11_image (σ : GM) (v1 : Int32) : Option (GM × Int32) :=
  ob (f_X11_keptAt σ v1) fun r_1 =>
  qm r_1 (
    some (σ, ((0 : Int32) &&& 1))
  ) fun v_4 =>
  chkS v_4 (2, 0) <|
  ob (f_X3_copyFrom σ (v_4 + 1) 8) fun σ_6 =>
  nm (wI σ_6 v_4 1 (1 : Int32)) fun σ_7 =>
  some (σ_7, ((1 : Int32) &&& 1))
def f_X11_restore (σ : GM) (v1 : Int32) : Option (GM × Int32) :=
  ob (f_X11_keptAt σ v1) fun r_1 =>
  qm r_1 (
    some (σ, ((0 : Int32) &&& 1))
  ) fun v_4 =>
  chkS v_4 (2, 0) <|
  if (σ.1 v_4 1) = (0 : Int32) then
    some (σ, ((0 : Int32) &&& 1))
  else
    ob (f_X3_copyFrom σ 8 (v_4 + 1)) fun σ_7 =>
    ob (f_X5_forget σ_7) fun σ_9 =>
    ob (f_X11_markChanged σ_9) fun σ_11 =>
    some (σ_11, ((1 : Int32) &&& 1))
def f_X12_thrown (σ : GM) : Option Int32 :=
  some (σ.1 60 0)
def f_X12_refuse (σ : GM) : Option (GM × Int32) :=
  nm (wI σ 60 0 (1 : Int32)) fun σ_1 =>
  some (σ_1, (0 : Int32))
def f_X12_isIn (σ : GM) (v0 : Int32) (v1 : Int32) (v2 : Int32) : Option Int32 :=
  if v0 < v1 then
    some ((0 : Int32) &&& 1)
  else
    if v2 < v0 then
      some ((0 : Int32) &&& 1)
    else
      some ((1 : Int32) &&& 1)
def f_X12_has (σ : GM) (v0 : Int32) (v1 : Int32) : Option Int32 :=
  if ((v0 >>> (v1 &&& 31)) &&& (1 : Int32)) = (1 : Int32) then
    some ((1 : Int32) &&& 1)
  else
    some ((0 : Int32) &&& 1)
def f_X12_bits_L4 (σ : GM) : Nat → Int32 → Int32 → Option Int32
  | 0, _, _ => none
  | k + 1, v1, v2 =>
    if v2 = (0 : Int32) then
      some v1
    else
      nm (v1 + (1 : Int32)) fun v1_2 =>
      nm (v2 &&& (v2 - (1 : Int32))) fun v2_3 =>
      f_X12_bits_L4 σ k v1_2 v2_3
def f_X12_bits (σ : GM) (v0 : Int32) : Option Int32 :=
  f_X12_bits_L4 σ 5000 (0 : Int32) v0
def f_X12_least_L2 (σ : GM) (v0 : Int32) : Nat → Int32 → Option Int32
  | 0, _ => none
  | k + 1, v1 =>
    ob (f_X12_has σ v0 v1) fun r_1 =>
    if r_1 = (0 : Int32) then
      nm (v1 + (1 : Int32)) fun v1_4 =>
      f_X12_least_L2 σ v0 k v1_4
    else
      some v1
def f_X12_least (σ : GM) (v0 : Int32) : Option Int32 :=
  f_X12_least_L2 σ v0 5000 (0 : Int32)
def f_X12_lay_L3 (v1 : Int32) : Nat → GM → Int32 → Option GM
  | 0, _, _ => none
  | k + 1, σ, v2 =>
    if v2 < (0 : Int32) then
      some σ
    else
      bnd (σ.1 60 2) 640 <|
      nm (wI σ 61 (σ.1 60 2).toNatClampNeg ((jushr v1 v2) &&& (255 : Int32))) fun σ_3 =>
      nm (wI σ_3 60 2 ((σ_3.1 60 2) + (1 : Int32))) fun σ_4 =>
      nm (v2 + (-8 : Int32)) fun v2_5 =>
      f_X12_lay_L3 v1 k σ_4 v2_5
def f_X12_lay (σ : GM) (v1 : Int32) : Option GM :=
  f_X12_lay_L3 v1 5000 σ (24 : Int32)
def f_X12_feed (σ : GM) (v1 : Int32) (v2 : Int32) (v3 : Int32) (v4 : Int32) (v5 : Int32) : Option (GM × Int32) :=
  nm (wI σ 60 0 (0 : Int32)) fun σ_1 =>
  if ((σ_1.1 60 2) + (20 : Int32)) ≤ (640 : Int32) then
    ob (f_X12_lay σ_1 v1) fun σ_4 =>
    ob (f_X12_lay σ_4 v2) fun σ_6 =>
    ob (f_X12_lay σ_6 v3) fun σ_8 =>
    ob (f_X12_lay σ_8 v4) fun σ_10 =>
    ob (f_X12_lay σ_10 v5) fun σ_12 =>
    some (σ_12, (σ_12.1 60 2))
  else
    some (σ_1, (-1 : Int32))
def f_X12_end (σ : GM) (v1 : Int32) : Option (GM × Int32) :=
  nm (wI σ 60 0 (0 : Int32)) fun σ_1 =>
  if v1 < (0 : Int32) then
    some (σ_1, ((0 : Int32) &&& 1))
  else
    if v1 ≤ (σ_1.1 60 2) then
      nm (wI σ_1 60 2 v1) fun σ_4 =>
      some (σ_4, ((1 : Int32) &&& 1))
    else
      some (σ_1, ((0 : Int32) &&& 1))
def f_X12_tapeAt (σ : GM) (v1 : Int32) : Option Int32 :=
  if (σ.1 60 3) ≤ v1 then
    some (0 : Int32)
  else
    bnd v1 640 <|
    some (σ.1 61 v1.toNatClampNeg)
def f_X12_isDigit (σ : GM) (v0 : Int32) : Option Int32 :=
  if v0 < (48 : Int32) then
    some ((0 : Int32) &&& 1)
  else
    if (57 : Int32) < v0 then
      some ((0 : Int32) &&& 1)
    else
      some ((1 : Int32) &&& 1)
def f_X12_isLetter (σ : GM) (v0 : Int32) : Option Int32 :=
  if v0 < (97 : Int32) then
    some ((0 : Int32) &&& 1)
  else
    if (122 : Int32) < v0 then
      some ((0 : Int32) &&& 1)
    else
      some ((1 : Int32) &&& 1)
def f_X12_next_L299 (k177 : GM → Int32 → Option GM) (v2 : Int32) (σ : GM) (v3 : Int32) : Option GM :=
  nm (wI σ 60 4 ((σ.1 60 4) + (1 : Int32))) fun σ_26 =>
  k177 σ_26 v3
def f_X12_next_L269 (k177 : GM → Int32 → Option GM) (v2 : Int32) (σ : GM) (v3 : Int32) (v4 : Int32) : Option GM :=
  if (2 : Int32) ≤ ((σ.1 60 4) - (σ.1 60 5)) then
    f_X12_next_L299 k177 v2 σ v3
  else
    nm (wI σ 60 7 ((((10 : Int32) * (σ.1 60 7)) + v4) - (48 : Int32))) fun σ_27 =>
    f_X12_next_L299 k177 v2 σ_27 v3
def f_X12_next_L234 (k177 : GM → Int32 → Option GM) (v2 : Int32) (σ : GM) (v4 : Int32) (s0 : Int32) : Option GM :=
  if (7 : Int32) ≤ ((σ.1 60 4) - (σ.1 60 5)) then
    f_X12_next_L269 k177 v2 σ s0 v4
  else
    nm (wL σ 60 10 ((((27 : Int64) * (σ.2 60 10)) + (v4.toInt64)) - (96 : Int64))) fun σ_28 =>
    f_X12_next_L269 k177 v2 σ_28 s0 v4
def f_X12_next_L233 (k177 : GM → Int32 → Option GM) (v2 : Int32) (σ : GM) (v4 : Int32) : Option GM :=
  f_X12_next_L234 k177 v2 σ v4 (0 : Int32)
def f_X12_next_L205 (k177 : GM → Int32 → Option GM) (v2 : Int32) (σ : GM) (v3 : Int32) : Option GM :=
  nm (σ.1 60 4) fun i_20 =>
  bnd i_20 640 <|
  nm (σ.1 61 i_20.toNatClampNeg) fun v4_22 =>
  if v3 = (0 : Int32) then
    f_X12_next_L233 k177 v2 σ v4_22
  else
    ob (f_X12_isLetter σ v4_22) fun r_29 =>
    if r_29 = v2 then
      f_X12_next_L234 k177 v2 σ v4_22 (1 : Int32)
    else
      f_X12_next_L233 k177 v2 σ v4_22
def f_X12_next_L336 (σ : GM) (v2 : Int32) (s1 : Int32) (s2 : Int32) : Option GM :=
  if s1 ≤ s2 then
    if v2 = (0 : Int32) then
      nm (wI σ 60 6 (3 : Int32)) fun σ_42 =>
      some σ_42
    else
      nm (wI σ 60 6 (2 : Int32)) fun σ_43 =>
      some σ_43
  else
    nm (wI σ 60 6 (1 : Int32)) fun σ_44 =>
    some σ_44
def f_X12_next_L312 (σ : GM) (v2 : Int32) (v3 : Int32) : Option GM :=
  if v3 = (0 : Int32) then
    nm (wI σ 60 6 (1 : Int32)) fun σ_38 =>
    some σ_38
  else
    if v2 = (0 : Int32) then
      f_X12_next_L336 σ v2 ((σ.1 60 4) - (σ.1 60 5)) (2 : Int32)
    else
      f_X12_next_L336 σ v2 ((σ.1 60 4) - (σ.1 60 5)) (7 : Int32)
def f_X12_next_L177 (v2 : Int32) : Nat → GM → Int32 → Option GM
  | 0, _, _ => none
  | k + 1, σ, v3 =>
    ob (f_X12_tapeAt σ (σ.1 60 4)) fun r_15 =>
    ob (f_X12_isLetter σ r_15) fun r_17 =>
    if r_17 = (0 : Int32) then
      ob (f_X12_tapeAt σ (σ.1 60 4)) fun r_32 =>
      ob (f_X12_isDigit σ r_32) fun r_34 =>
      if r_34 = (0 : Int32) then
        f_X12_next_L312 σ v2 v3
      else
        f_X12_next_L205 (fun σ' v3' => f_X12_next_L177 v2 k σ' v3') v2 σ v3
    else
      f_X12_next_L205 (fun σ' v3' => f_X12_next_L177 v2 k σ' v3') v2 σ v3
def f_X12_next_L160 (σ : GM) (v1 : Int32) : Option GM :=
  ob (f_X12_isLetter σ v1) fun r_11 =>
  nm (wL σ 60 10 (0 : Int64)) fun σ_13 =>
  nm (wI σ_13 60 7 (0 : Int32)) fun σ_14 =>
  f_X12_next_L177 r_11 5000 σ_14 (1 : Int32)
def f_X12_next_L146 (σ : GM) (s1 : Int32) : Option GM :=
  nm (wI σ 60 6 s1) fun σ_49 =>
  nm (wI σ_49 60 4 ((σ_49.1 60 4) + (1 : Int32))) fun σ_50 =>
  some σ_50
def f_X12_next_L93 (σ : GM) : Option GM :=
  if (σ.1 60 4) < (σ.1 60 3) then
    nm (σ.1 60 4) fun i_5 =>
    bnd i_5 640 <|
    nm (σ.1 61 i_5.toNatClampNeg) fun v1_7 =>
    ob (f_X12_isLetter σ v1_7) fun r_8 =>
    if r_8 = (0 : Int32) then
      ob (f_X12_isDigit σ v1_7) fun r_45 =>
      if r_45 = (0 : Int32) then
        if v1_7 = (59 : Int32) then
          f_X12_next_L146 σ (4 : Int32)
        else
          f_X12_next_L146 σ (1 : Int32)
      else
        f_X12_next_L160 σ v1_7
    else
      f_X12_next_L160 σ v1_7
  else
    nm (wI σ 60 6 (0 : Int32)) fun σ_51 =>
    some σ_51
def f_X12_next_L52 (σ : GM) : Option GM :=
  nm (wI σ 60 5 (σ.1 60 4)) fun σ_2 =>
  if (σ_2.1 60 3) ≤ (600 : Int32) then
    f_X12_next_L93 σ_2
  else
    if (σ_2.1 60 5) < (600 : Int32) then
      f_X12_next_L93 σ_2
    else
      nm (wI σ_2 60 5 (600 : Int32)) fun σ_53 =>
      nm (wI σ_53 60 6 (1 : Int32)) fun σ_54 =>
      some σ_54
def f_X12_next_L39 (k0 : GM → Option GM) (σ : GM) : Option GM :=
  nm (wI σ 60 4 ((σ.1 60 4) + (1 : Int32))) fun σ_58 =>
  k0 σ_58
def f_X12_next_L0  : Nat → GM → Option GM
  | 0, _ => none
  | k + 1, σ =>
    if (σ.1 60 3) ≤ (σ.1 60 4) then
      f_X12_next_L52 σ
    else
      nm (σ.1 60 4) fun i_55 =>
      bnd i_55 640 <|
      if (σ.1 61 i_55.toNatClampNeg) = (32 : Int32) then
        f_X12_next_L39 (fun σ' => f_X12_next_L0  k σ') σ
      else
        nm (σ.1 60 4) fun i_59 =>
        bnd i_59 640 <|
        if (σ.1 61 i_59.toNatClampNeg) = (10 : Int32) then
          f_X12_next_L39 (fun σ' => f_X12_next_L0  k σ') σ
        else
          f_X12_next_L52 σ
def f_X12_next (σ : GM) : Option GM :=
  f_X12_next_L0 5000 σ
def f_X12_spelt (σ : GM) (v0 : Int32) (v1 : Int32) (v2 : Int32) (v3 : Int32) (v4 : Int32) : Option Int64 :=
  nm ((((27 : Int64) * ((((27 : Int64) * ((((27 : Int64) * ((v0.toInt64) - (96 : Int64))) + (v1.toInt64)) - (96 : Int64))) + (v2.toInt64)) - (96 : Int64))) + (v3.toInt64)) - (96 : Int64)) fun v5_1 =>
  if v4 ≤ (0 : Int32) then
    some v5_1
  else
    some ((((27 : Int64) * v5_1) + (v4.toInt64)) - (96 : Int64))
def f_X12_isPointWord (σ : GM) : Option Int32 :=
  if (σ.1 60 6) = (2 : Int32) then
    ob (f_X12_spelt σ (112 : Int32) (111 : Int32) (105 : Int32) (110 : Int32) (116 : Int32)) fun r_2 =>
    if (lg_cmp (σ.2 60 10) r_2) = (0 : Int32) then
      some ((1 : Int32) &&& 1)
    else
      some ((0 : Int32) &&& 1)
  else
    some ((0 : Int32) &&& 1)
def f_X12_isLineWord (σ : GM) : Option Int32 :=
  if (σ.1 60 6) = (2 : Int32) then
    ob (f_X12_spelt σ (108 : Int32) (105 : Int32) (110 : Int32) (101 : Int32) (0 : Int32)) fun r_2 =>
    if (lg_cmp (σ.2 60 10) r_2) = (0 : Int32) then
      some ((1 : Int32) &&& 1)
    else
      some ((0 : Int32) &&& 1)
  else
    some ((0 : Int32) &&& 1)
def f_X12_isName (σ : GM) : Option Int32 :=
  if (σ.1 60 6) = (2 : Int32) then
    ob (f_X12_isPointWord σ) fun r_2 =>
    if r_2 = (0 : Int32) then
      ob (f_X12_isLineWord σ) fun r_5 =>
      if r_5 = (0 : Int32) then
        some ((1 : Int32) &&& 1)
      else
        some ((0 : Int32) &&& 1)
    else
      some ((0 : Int32) &&& 1)
  else
    some ((0 : Int32) &&& 1)
def f_X12_bad_L14 (σ : GM) (s1 : Int32) : Option (GM × Int32) :=
  nm (wI σ 60 8 s1) fun σ_2 =>
  nm (wI σ_2 60 9 (σ_2.1 60 5)) fun σ_3 =>
  some (σ_3, ((0 : Int32) &&& 1))
def f_X12_bad (σ : GM) (v1 : Int32) : Option (GM × Int32) :=
  if (σ.1 60 6) = (1 : Int32) then
    f_X12_bad_L14 σ (1 : Int32)
  else
    f_X12_bad_L14 σ v1
def f_X12_copy_L3 (qa : Nat) (qb : Nat) (v1 : Int32) (v3 : Int32) : Nat → GM → Int32 → Option GM
  | 0, _, _ => none
  | k + 1, σ, v4 =>
    if (159 : Int32) ≤ v4 then
      some σ
    else
      nm (v1 + v4) fun i_2 =>
      bnd i_2 (sh qa).2 <|
      bnd (v3 + v4) (sh qb).2 <|
      nm (wI σ qb (v3 + v4).toNatClampNeg (σ.1 qa i_2.toNatClampNeg)) fun σ_5 =>
      nm (v4 + (1 : Int32)) fun v4_6 =>
      f_X12_copy_L3 qa qb v1 v3 k σ_5 v4_6
def f_X12_copy (σ : GM) (qa : Nat) (qb : Nat) (v1 : Int32) (v3 : Int32) : Option GM :=
  f_X12_copy_L3 qa qb v1 v3 5000 σ (0 : Int32)
def f_X12_between (σ : GM) (qa : Nat) (v1 : Int32) (v2 : Int32) : Option Int32 :=
  nm (((15 : Int32) + ((12 : Int32) * v1)) + v2) fun i_1 =>
  bnd i_1 159 <|
  some (σ.1 qa i_1.toNatClampNeg)
def f_X12_adds (σ : GM) (qa : Nat) (v1 : Int32) (v2 : Int32) (v3 : Int32) : Option GM :=
  nm (((15 : Int32) + ((12 : Int32) * v1)) + v2) fun i_1 =>
  bnd i_1 159 <|
  bnd (((15 : Int32) + ((12 : Int32) * v1)) + v2) 159 <|
  nm (wI σ qa (((15 : Int32) + ((12 : Int32) * v1)) + v2).toNatClampNeg ((σ.1 qa i_1.toNatClampNeg) + v3)) fun σ_4 =>
  if v1 = v2 then
    some σ_4
  else
    nm (((15 : Int32) + ((12 : Int32) * v2)) + v1) fun i_6 =>
    bnd i_6 159 <|
    bnd (((15 : Int32) + ((12 : Int32) * v2)) + v1) 159 <|
    nm (wI σ_4 qa (((15 : Int32) + ((12 : Int32) * v2)) + v1).toNatClampNeg ((σ_4.1 qa i_6.toNatClampNeg) + v3)) fun σ_9 =>
    some σ_9
def f_X12_ends_L5 (σ : GM) (qa : Nat) (v1 : Int32) (v2 : Int32) : Nat → Int32 → Int32 → Option Int32
  | 0, _, _ => none
  | k + 1, v3, v4 =>
    if (12 : Int32) ≤ v4 then
      some v3
    else
      ob (f_X12_has σ v2 v4) fun r_2 =>
      if r_2 = (0 : Int32) then
        nm (v4 + (1 : Int32)) fun v4_5 =>
        f_X12_ends_L5 σ qa v1 v2 k v3 v4_5
      else
        ob (f_X12_between σ qa v1 v4) fun r_6 =>
        if v1 = v4 then
          nm (v3 + (r_6 * (2 : Int32))) fun v3_11 =>
          nm (v4 + (1 : Int32)) fun v4_12 =>
          f_X12_ends_L5 σ qa v1 v2 k v3_11 v4_12
        else
          nm (v3 + (r_6 * (1 : Int32))) fun v3_9 =>
          nm (v4 + (1 : Int32)) fun v4_10 =>
          f_X12_ends_L5 σ qa v1 v2 k v3_9 v4_10
def f_X12_ends (σ : GM) (qa : Nat) (v1 : Int32) (v2 : Int32) : Option Int32 :=
  f_X12_ends_L5 σ qa v1 v2 5000 (0 : Int32) (0 : Int32)
def f_X12_allEnds (σ : GM) (qa : Nat) (v1 : Int32) : Option Int32 :=
  ob (f_X12_ends σ qa v1 (4095 : Int32)) fun r_1 =>
  some r_1
def f_X12_lineMany_L4 (σ : GM) (qa : Nat) (v1 : Int32) : Nat → Int32 → Int32 → Option Int32
  | 0, _, _ => none
  | k + 1, v2, v3 =>
    if (12 : Int32) ≤ v3 then
      nz (2 : Int32) <|
      some (v2 / (2 : Int32))
    else
      ob (f_X12_has σ v1 v3) fun r_3 =>
      if r_3 = (0 : Int32) then
        nm (v3 + (1 : Int32)) fun v3_6 =>
        f_X12_lineMany_L4 σ qa v1 k v2 v3_6
      else
        ob (f_X12_ends σ qa v3 v1) fun r_7 =>
        nm (v2 + r_7) fun v2_9 =>
        nm (v3 + (1 : Int32)) fun v3_10 =>
        f_X12_lineMany_L4 σ qa v1 k v2_9 v3_10
def f_X12_lineMany (σ : GM) (qa : Nat) (v1 : Int32) : Option Int32 :=
  f_X12_lineMany_L4 σ qa v1 5000 (0 : Int32) (0 : Int32)
def f_X12_named_L2 (σ : GM) : Nat → Int32 → Option Int32
  | 0, _ => none
  | k + 1, v1 =>
    bnd (0 : Int32) 159 <|
    if (σ.1 63 (0 : Int32).toNatClampNeg) ≤ v1 then
      some (-1 : Int32)
    else
      bnd v1 12 <|
      if (lg_cmp (σ.2 68 v1.toNatClampNeg) (σ.2 60 10)) = (0 : Int32) then
        some v1
      else
        nm (v1 + (1 : Int32)) fun v1_5 =>
        f_X12_named_L2 σ k v1_5
def f_X12_named (σ : GM) : Option Int32 :=
  f_X12_named_L2 σ 5000 (0 : Int32)
def f_X12_readPoint_L116 (σ : GM) (v1 : Int32) : Option (GM × Int32) :=
  bnd (0 : Int32) 159 <|
  bnd (0 : Int32) 159 <|
  nm (wI σ 63 (0 : Int32).toNatClampNeg ((σ.1 63 (0 : Int32).toNatClampNeg) + (1 : Int32))) fun σ_21 =>
  bnd (1 : Int32) 159 <|
  bnd (1 : Int32) 159 <|
  nm (wI σ_21 63 (1 : Int32).toNatClampNeg ((σ_21.1 63 (1 : Int32).toNatClampNeg) ||| ((1 : Int32) <<< (v1 &&& 31)))) fun σ_24 =>
  some (σ_24, ((1 : Int32) &&& 1))
def f_X12_readPoint (σ : GM) : Option (GM × Int32) :=
  bnd (0 : Int32) 159 <|
  nm (σ.1 63 (0 : Int32).toNatClampNeg) fun v1_2 =>
  if v1_2 = (12 : Int32) then
    ob2 (f_X12_bad σ (4 : Int32)) fun σ_39 r_38 =>
    some (σ_39, (r_38 &&& 1))
  else
    ob (f_X12_next σ) fun σ_5 =>
    ob (f_X12_isName σ_5) fun r_6 =>
    if r_6 = (0 : Int32) then
      ob2 (f_X12_bad σ_5 (1 : Int32)) fun σ_37 r_36 =>
      some (σ_37, (r_36 &&& 1))
    else
      ob (f_X12_named σ_5) fun r_9 =>
      if r_9 = (-1 : Int32) then
        bnd v1_2 12 <|
        nm (wL σ_5 68 v1_2.toNatClampNeg (σ_5.2 60 10)) fun σ_13 =>
        bnd ((3 : Int32) + v1_2) 159 <|
        nm (wI σ_13 63 ((3 : Int32) + v1_2).toNatClampNeg (1 : Int32)) fun σ_15 =>
        ob (f_X12_next σ_15) fun σ_17 =>
        if (σ_17.1 60 6) = (3 : Int32) then
          ob (f_X12_isIn σ_17 (σ_17.1 60 7) (1 : Int32) (9 : Int32)) fun r_25 =>
          if r_25 = (0 : Int32) then
            ob2 (f_X12_bad σ_17 (2 : Int32)) fun σ_33 r_32 =>
            some (σ_33, (r_32 &&& 1))
          else
            bnd ((3 : Int32) + v1_2) 159 <|
            nm (wI σ_17 63 ((3 : Int32) + v1_2).toNatClampNeg (σ_17.1 60 7)) fun σ_29 =>
            ob (f_X12_next σ_29) fun σ_31 =>
            f_X12_readPoint_L116 σ_31 v1_2
        else
          f_X12_readPoint_L116 σ_17 v1_2
      else
        ob2 (f_X12_bad σ_5 (3 : Int32)) fun σ_35 r_34 =>
        some (σ_35, (r_34 &&& 1))
def f_X12_readLine_L124 (σ : GM) (v1 : Int32) (v2 : Int32) (s0 : Int32) (s1 : Int32) : Option (GM × Int32) :=
  if (s0 + s1) = (6 : Int32) then
    ob2 (f_X12_bad σ (5 : Int32)) fun σ_32 r_31 =>
    some (σ_32, (r_31 &&& 1))
  else
    ob (f_X12_adds σ 63 v1 v2 (1 : Int32)) fun σ_28 =>
    ob (f_X12_next σ_28) fun σ_30 =>
    some (σ_30, ((1 : Int32) &&& 1))
def f_X12_readLine (σ : GM) : Option (GM × Int32) :=
  ob (f_X12_lineMany σ 63 (4095 : Int32)) fun r_1 =>
  if r_1 = (20 : Int32) then
    ob2 (f_X12_bad σ (4 : Int32)) fun σ_44 r_43 =>
    some (σ_44, (r_43 &&& 1))
  else
    ob (f_X12_next σ) fun σ_5 =>
    ob (f_X12_isName σ_5) fun r_6 =>
    if r_6 = (0 : Int32) then
      ob2 (f_X12_bad σ_5 (1 : Int32)) fun σ_42 r_41 =>
      some (σ_42, (r_41 &&& 1))
    else
      ob (f_X12_named σ_5) fun r_9 =>
      if r_9 = (-1 : Int32) then
        ob2 (f_X12_bad σ_5 (3 : Int32)) fun σ_40 r_39 =>
        some (σ_40, (r_39 &&& 1))
      else
        ob (f_X12_allEnds σ_5 63 r_9) fun r_12 =>
        if r_12 = (6 : Int32) then
          ob2 (f_X12_bad σ_5 (5 : Int32)) fun σ_38 r_37 =>
          some (σ_38, (r_37 &&& 1))
        else
          ob (f_X12_next σ_5) fun σ_16 =>
          ob (f_X12_isName σ_16) fun r_17 =>
          if r_17 = (0 : Int32) then
            ob2 (f_X12_bad σ_16 (1 : Int32)) fun σ_36 r_35 =>
            some (σ_36, (r_35 &&& 1))
          else
            ob (f_X12_named σ_16) fun r_20 =>
            if r_20 = (-1 : Int32) then
              ob2 (f_X12_bad σ_16 (3 : Int32)) fun σ_34 r_33 =>
              some (σ_34, (r_33 &&& 1))
            else
              ob (f_X12_allEnds σ_16 63 r_20) fun r_23 =>
              if r_20 = r_9 then
                f_X12_readLine_L124 σ_16 r_9 r_20 r_23 (1 : Int32)
              else
                f_X12_readLine_L124 σ_16 r_9 r_20 r_23 (0 : Int32)
def f_X12_readEnd (σ : GM) : Option (GM × Int32) :=
  if (σ.1 60 6) = (4 : Int32) then
    ob (f_X12_next σ) fun σ_3 =>
    some (σ_3, ((1 : Int32) &&& 1))
  else
    ob2 (f_X12_bad σ (1 : Int32)) fun σ_5 r_4 =>
    some (σ_5, (r_4 &&& 1))
def f_X12_net_L121 (σ : GM) (v1 : Int32) : Option (GM × Int32) :=
  ob (f_X12_copy σ 63 62 (0 : Int32) (0 : Int32)) fun σ_11 =>
  nm (wI σ_11 60 19 (0 : Int32)) fun σ_12 =>
  some (σ_12, v1)
def f_X12_net_L108 (σ : GM) : Option (GM × Int32) :=
  some (σ, ((-1 : Int32) - (σ.1 60 9)))
def f_X12_net_L96 (k56 : GM → Int32 → Option (GM × Int32)) (σ : GM) (v1 : Int32) (s0 : Int32) : Option (GM × Int32) :=
  if s0 = (0 : Int32) then
    f_X12_net_L108 σ
  else
    ob2 (f_X12_readEnd σ) fun σ_23 r_22 =>
    if r_22 = (0 : Int32) then
      f_X12_net_L108 σ_23
    else
      nm (v1 + (1 : Int32)) fun v1_25 =>
      k56 σ_23 v1_25
def f_X12_net_L56  : Nat → GM → Int32 → Option (GM × Int32)
  | 0, _, _ => none
  | k + 1, σ, v1 =>
    if (σ.1 60 6) = (0 : Int32) then
      f_X12_net_L121 σ v1
    else
      ob (f_X12_isPointWord σ) fun r_13 =>
      if r_13 = (0 : Int32) then
        ob (f_X12_isLineWord σ) fun r_16 =>
        if r_16 = (0 : Int32) then
          ob2 (f_X12_bad σ (1 : Int32)) fun σ_20 r_19 =>
          f_X12_net_L96 (fun σ' v1' => f_X12_net_L56  k σ' v1') σ_20 v1 r_19
        else
          ob2 (f_X12_readLine σ) fun σ_27 r_26 =>
          f_X12_net_L96 (fun σ' v1' => f_X12_net_L56  k σ' v1') σ_27 v1 r_26
      else
        ob2 (f_X12_readPoint σ) fun σ_29 r_28 =>
        f_X12_net_L96 (fun σ' v1' => f_X12_net_L56  k σ' v1') σ_29 v1 r_28
def f_X12_net_L32 (v1 : Int32) : Nat → GM → Int32 → Option (GM × Int32)
  | 0, _, _ => none
  | k + 1, σ, v2 =>
    if (159 : Int32) ≤ v2 then
      ob (f_X12_next σ) fun σ_8 =>
      f_X12_net_L56 5000 σ_8 v1
    else
      bnd v2 159 <|
      nm (wI σ 63 v2.toNatClampNeg (0 : Int32)) fun σ_31 =>
      nm (v2 + (1 : Int32)) fun v2_32 =>
      f_X12_net_L32 v1 k σ_31 v2_32
def f_X12_net (σ : GM) : Option (GM × Int32) :=
  nm (wI σ 60 0 (0 : Int32)) fun σ_1 =>
  nm (wI σ_1 60 3 (σ_1.1 60 2)) fun σ_2 =>
  nm (wI σ_2 60 2 (0 : Int32)) fun σ_3 =>
  nm (wI σ_3 60 8 (0 : Int32)) fun σ_4 =>
  nm (wI σ_4 60 4 (0 : Int32)) fun σ_5 =>
  f_X12_net_L32 (0 : Int32) 5000 σ_5 (0 : Int32)
def f_X12_fault (σ : GM) : Option (GM × Int32) :=
  nm (wI σ 60 0 (0 : Int32)) fun σ_1 =>
  some (σ_1, (σ_1.1 60 8))
def f_X12_there (σ : GM) : Option Int32 :=
  bnd (1 : Int32) 159 <|
  some (σ.1 62 (1 : Int32).toNatClampNeg)
def f_X12_isThere (σ : GM) (v1 : Int32) : Option Int32 :=
  ob (f_X12_isIn σ v1 (0 : Int32) (11 : Int32)) fun r_1 =>
  if r_1 = (0 : Int32) then
    some ((0 : Int32) &&& 1)
  else
    ob (f_X12_there σ) fun r_4 =>
    ob (f_X12_has σ r_4 v1) fun r_6 =>
    if r_6 = (0 : Int32) then
      some ((0 : Int32) &&& 1)
    else
      some ((1 : Int32) &&& 1)
def f_X12_areThere (σ : GM) (v1 : Int32) : Option Int32 :=
  if v1 < (0 : Int32) then
    some ((0 : Int32) &&& 1)
  else
    ob (f_X12_there σ) fun r_2 =>
    if (v1 &&& (r_2 ^^^ (-1 : Int32))) = (0 : Int32) then
      some ((1 : Int32) &&& 1)
    else
      some ((0 : Int32) &&& 1)
def f_X12_weightOf_L4 (σ : GM) (v1 : Int32) : Nat → Int32 → Int32 → Option Int32
  | 0, _, _ => none
  | k + 1, v2, v3 =>
    if (12 : Int32) ≤ v3 then
      some v2
    else
      ob (f_X12_has σ v1 v3) fun r_2 =>
      if r_2 = (0 : Int32) then
        nm (v3 + (1 : Int32)) fun v3_5 =>
        f_X12_weightOf_L4 σ v1 k v2 v3_5
      else
        nm ((3 : Int32) + v3) fun i_6 =>
        bnd i_6 159 <|
        nm (v2 + (σ.1 62 i_6.toNatClampNeg)) fun v2_8 =>
        nm (v3 + (1 : Int32)) fun v3_9 =>
        f_X12_weightOf_L4 σ v1 k v2_8 v3_9
def f_X12_weightOf (σ : GM) (v1 : Int32) : Option Int32 :=
  f_X12_weightOf_L4 σ v1 5000 (0 : Int32) (0 : Int32)
def f_X12_partOf_L29 (σ : GM) (k7 : Int32 → Int32 → Option Int32) (k19 : Int32 → Int32 → Option Int32) (v2 : Int32) (v4 : Int32) (v5 : Int32) : Nat → Int32 → Int32 → Option Int32
  | 0, _, _ => none
  | k + 1, v3, v6 =>
    if (12 : Int32) ≤ v6 then
      nm (v5 + (1 : Int32)) fun v5_5 =>
      k19 v3 v5_5
    else
      ob (f_X12_has σ v4 v5) fun r_6 =>
      if r_6 = (0 : Int32) then
        nm (v6 + (1 : Int32)) fun v6_9 =>
        f_X12_partOf_L29 σ k7 k19 v2 v4 v5 k v3 v6_9
      else
        ob (f_X12_has σ v2 v6) fun r_10 =>
        if r_10 = (0 : Int32) then
          nm (v6 + (1 : Int32)) fun v6_13 =>
          f_X12_partOf_L29 σ k7 k19 v2 v4 v5 k v3 v6_13
        else
          ob (f_X12_between σ 62 v5 v6) fun r_14 =>
          if r_14 ≤ (0 : Int32) then
            nm (v6 + (1 : Int32)) fun v6_17 =>
            f_X12_partOf_L29 σ k7 k19 v2 v4 v5 k v3 v6_17
          else
            nm (v3 ||| ((1 : Int32) <<< (v6 &&& 31))) fun v3_18 =>
            nm (v6 + (1 : Int32)) fun v6_19 =>
            f_X12_partOf_L29 σ k7 k19 v2 v4 v5 k v3_18 v6_19
def f_X12_partOf_L19 (σ : GM) (k7 : Int32 → Int32 → Option Int32) (v2 : Int32) (v4 : Int32) : Nat → Int32 → Int32 → Option Int32
  | 0, _, _ => none
  | k + 1, v3, v5 =>
    if (12 : Int32) ≤ v5 then
      k7 v3 v4
    else
      f_X12_partOf_L29 σ k7 (fun v3' v5' => f_X12_partOf_L19 σ k7 v2 v4 k v3' v5') v2 v4 v5 5000 v3 (0 : Int32)
def f_X12_partOf_L7 (σ : GM) (v2 : Int32) : Nat → Int32 → Int32 → Option Int32
  | 0, _, _ => none
  | k + 1, v3, v4 =>
    if v3 = v4 then
      some v3
    else
      f_X12_partOf_L19 σ (fun v3' v4' => f_X12_partOf_L7 σ v2 k v3' v4') v2 v3 5000 v3 (0 : Int32)
def f_X12_partOf (σ : GM) (v1 : Int32) (v2 : Int32) : Option Int32 :=
  nm ((1 : Int32) <<< (v1 &&& 31)) fun v3_1 =>
  f_X12_partOf_L7 σ v2 5000 v3_1 (0 : Int32)
def f_X12_parts_L4 (σ : GM) (v1 : Int32) : Nat → Int32 → Int32 → Option Int32
  | 0, _, _ => none
  | k + 1, v2, v3 =>
    if v2 = (0 : Int32) then
      some v3
    else
      ob (f_X12_least σ v2) fun r_2 =>
      ob (f_X12_partOf σ r_2 v1) fun r_4 =>
      nm (v2 &&& (r_4 ^^^ (-1 : Int32))) fun v2_6 =>
      nm (v3 + (1 : Int32)) fun v3_7 =>
      f_X12_parts_L4 σ v1 k v2_6 v3_7
def f_X12_parts (σ : GM) (v1 : Int32) : Option Int32 :=
  f_X12_parts_L4 σ v1 5000 v1 (0 : Int32)
def f_X12_now (σ : GM) (v1 : Int32) : Option (GM × Int32) :=
  nm (wI σ 60 0 (0 : Int32)) fun σ_1 =>
  if v1 = (0 : Int32) then
    bnd (0 : Int32) 159 <|
    some (σ_1, (σ_1.1 62 (0 : Int32).toNatClampNeg))
  else
    if v1 = (1 : Int32) then
      ob (f_X12_there σ_1) fun r_3 =>
      some (σ_1, r_3)
    else
      if v1 = (2 : Int32) then
        ob (f_X12_lineMany σ_1 62 (4095 : Int32)) fun r_5 =>
        some (σ_1, r_5)
      else
        if v1 = (3 : Int32) then
          bnd (2 : Int32) 159 <|
          some (σ_1, (σ_1.1 62 (2 : Int32).toNatClampNeg))
        else
          if v1 = (4 : Int32) then
            ob (f_X12_there σ_1) fun r_8 =>
            ob (f_X12_parts σ_1 r_8) fun r_10 =>
            some (σ_1, r_10)
          else
            if v1 = (5 : Int32) then
              ob (f_X12_there σ_1) fun r_12 =>
              ob (f_X12_weightOf σ_1 r_12) fun r_14 =>
              some (σ_1, r_14)
            else
              if v1 = (6 : Int32) then
                some (σ_1, (σ_1.1 60 19))
              else
                if v1 = (7 : Int32) then
                  some (σ_1, (σ_1.1 60 2))
                else
                  some (σ_1, (-1 : Int32))
def f_X12_point_L81 (v1 : Int32) : Nat → GM → Int32 → Int32 → Option (GM × Int32)
  | 0, _, _, _ => none
  | k + 1, σ, v3, v4 =>
    if (12 : Int32) ≤ v4 then
      some (σ, v3)
    else
      if v4 = v1 then
        nm (v4 + (1 : Int32)) fun v4_13 =>
        f_X12_point_L81 v1 k σ v3 v4_13
      else
        ob (f_X12_between σ 62 v1 v4) fun r_14 =>
        if r_14 ≤ (0 : Int32) then
          nm (v4 + (1 : Int32)) fun v4_17 =>
          f_X12_point_L81 v1 k σ v3 v4_17
        else
          nm (v3 ||| ((1 : Int32) <<< (v4 &&& 31))) fun v3_18 =>
          nm (v4 + (1 : Int32)) fun v4_19 =>
          f_X12_point_L81 v1 k σ v3_18 v4_19
def f_X12_point (σ : GM) (v1 : Int32) (v2 : Int32) : Option (GM × Int32) :=
  nm (wI σ 60 0 (0 : Int32)) fun σ_1 =>
  ob (f_X12_isThere σ_1 v1) fun r_2 =>
  if r_2 = (0 : Int32) then
    ob2 (f_X12_refuse σ_1) fun σ_23 r_22 =>
    some (σ_23, r_22)
  else
    if v2 = (0 : Int32) then
      nm ((3 : Int32) + v1) fun i_5 =>
      bnd i_5 159 <|
      some (σ_1, (σ_1.1 62 i_5.toNatClampNeg))
    else
      if v2 = (1 : Int32) then
        ob (f_X12_allEnds σ_1 62 v1) fun r_7 =>
        some (σ_1, r_7)
      else
        if v2 = (2 : Int32) then
          ob (f_X12_between σ_1 62 v1 v1) fun r_9 =>
          some (σ_1, r_9)
        else
          if v2 = (3 : Int32) then
            f_X12_point_L81 v1 5000 σ_1 (0 : Int32) (0 : Int32)
          else
            ob2 (f_X12_refuse σ_1) fun σ_21 r_20 =>
            some (σ_21, r_20)
def f_X12_lines (σ : GM) (v1 : Int32) (v2 : Int32) : Option (GM × Int32) :=
  nm (wI σ 60 0 (0 : Int32)) fun σ_1 =>
  ob (f_X12_isThere σ_1 v1) fun r_2 =>
  if r_2 = (0 : Int32) then
    some (σ_1, (-1 : Int32))
  else
    ob (f_X12_isThere σ_1 v2) fun r_5 =>
    if r_5 = (0 : Int32) then
      some (σ_1, (-1 : Int32))
    else
      ob (f_X12_between σ_1 62 v1 v2) fun r_8 =>
      some (σ_1, r_8)
def f_X12_isOpen (σ : GM) (v1 : Int32) : Option Int32 :=
  ob (f_X12_lineMany σ 62 v1) fun r_1 =>
  ob (f_X12_bits σ v1) fun r_3 =>
  ob (f_X12_parts σ v1) fun r_5 =>
  if r_1 = (r_3 - r_5) then
    some ((1 : Int32) &&& 1)
  else
    some ((0 : Int32) &&& 1)
def f_X12_isCut (σ : GM) (v1 : Int32) (v2 : Int32) : Option Int32 :=
  ob (f_X12_isOpen σ (v2 &&& (v1 ^^^ (-1 : Int32)))) fun r_1 =>
  some (r_1 &&& 1)
def f_X12_cuts (σ : GM) (v1 : Int32) : Option (GM × Int32) :=
  nm (wI σ 60 0 (0 : Int32)) fun σ_1 =>
  ob (f_X12_areThere σ_1 v1) fun r_2 =>
  if r_2 = (0 : Int32) then
    some (σ_1, (-1 : Int32))
  else
    ob (f_X12_there σ_1) fun r_5 =>
    ob (f_X12_isCut σ_1 v1 r_5) fun r_7 =>
    if r_7 = (0 : Int32) then
      some (σ_1, (0 : Int32))
    else
      some (σ_1, (1 : Int32))
def f_X12_bestCut_L67 (σ : GM) (k9 : Int32 → Int32 → Int32 → Option Int32) (v1 : Int32) (v2 : Int32) (v3 : Int32) (v4 : Int32) (v5 : Int32) (v6 : Int32) (v7 : Int32) : Option Int32 :=
  ob (f_X12_isCut σ v6 v1) fun r_9 =>
  if r_9 = (0 : Int32) then
    nm (v6 + (1 : Int32)) fun v6_13 =>
    k9 v4 v5 v6_13
  else
    nm (v6 + (1 : Int32)) fun v6_12 =>
    k9 v6 v7 v6_12
def f_X12_bestCut_L52 (σ : GM) (k9 : Int32 → Int32 → Int32 → Option Int32) (v1 : Int32) (v2 : Int32) (v3 : Int32) (v4 : Int32) (v5 : Int32) (v6 : Int32) (s0 : Int32) : Option Int32 :=
  if v4 = (-1 : Int32) then
    f_X12_bestCut_L67 σ k9 v1 v2 v3 v4 v5 v6 s0
  else
    if v5 ≤ s0 then
      nm (v6 + (1 : Int32)) fun v6_15 =>
      k9 v4 v5 v6_15
    else
      f_X12_bestCut_L67 σ k9 v1 v2 v3 v4 v5 v6 s0
def f_X12_bestCut_L9 (σ : GM) (v1 : Int32) (v2 : Int32) (v3 : Int32) : Nat → Int32 → Int32 → Int32 → Option Int32
  | 0, _, _, _ => none
  | k + 1, v4, v5, v6 =>
    if v1 < v6 then
      some v4
    else
      if (v6 &&& (v1 ^^^ (-1 : Int32))) = (0 : Int32) then
        if (v6 &&& v2) = (0 : Int32) then
          if v3 = (0 : Int32) then
            ob (f_X12_bits σ v6) fun r_6 =>
            f_X12_bestCut_L52 σ (fun v4' v5' v6' => f_X12_bestCut_L9 σ v1 v2 v3 k v4' v5' v6') v1 v2 v3 v4 v5 v6 r_6
          else
            ob (f_X12_weightOf σ v6) fun r_16 =>
            f_X12_bestCut_L52 σ (fun v4' v5' v6' => f_X12_bestCut_L9 σ v1 v2 v3 k v4' v5' v6') v1 v2 v3 v4 v5 v6 r_16
        else
          nm (v6 + (1 : Int32)) fun v6_18 =>
          f_X12_bestCut_L9 σ v1 v2 v3 k v4 v5 v6_18
      else
        nm (v6 + (1 : Int32)) fun v6_3 =>
        f_X12_bestCut_L9 σ v1 v2 v3 k v4 v5 v6_3
def f_X12_bestCut (σ : GM) (v1 : Int32) (v2 : Int32) (v3 : Int32) : Option Int32 :=
  f_X12_bestCut_L9 σ v1 v2 v3 5000 (-1 : Int32) (0 : Int32) (0 : Int32)
def f_X12_tellsCut (σ : GM) (v1 : Int32) (v2 : Int32) : Option Int32 :=
  if v2 = (0 : Int32) then
    ob (f_X12_bits σ v1) fun r_6 =>
    some r_6
  else
    if v2 = (1 : Int32) then
      some v1
    else
      if v2 = (2 : Int32) then
        ob (f_X12_weightOf σ v1) fun r_4 =>
        some r_4
      else
        some (-1 : Int32)
def f_X12_fewest (σ : GM) (v1 : Int32) : Option (GM × Int32) :=
  nm (wI σ 60 0 (0 : Int32)) fun σ_1 =>
  ob (f_X12_there σ_1) fun r_2 =>
  ob (f_X12_bestCut σ_1 r_2 (0 : Int32) (0 : Int32)) fun r_4 =>
  ob (f_X12_tellsCut σ_1 r_4 v1) fun r_6 =>
  some (σ_1, r_6)
def f_X12_lightest (σ : GM) (v1 : Int32) : Option (GM × Int32) :=
  nm (wI σ 60 0 (0 : Int32)) fun σ_1 =>
  ob (f_X12_there σ_1) fun r_2 =>
  ob (f_X12_bestCut σ_1 r_2 (0 : Int32) (1 : Int32)) fun r_4 =>
  ob (f_X12_tellsCut σ_1 r_4 v1) fun r_6 =>
  some (σ_1, r_6)
def f_X12_those_L113 (σ : GM) (v1 : Int32) (v3 : Int32) (v4 : Int32) (v5 : Int32) : Option (GM × Int32) :=
  if v1 = (0 : Int32) then
    some (σ, v3)
  else
    if v1 = (1 : Int32) then
      some (σ, v4)
    else
      some (σ, v5)
def f_X12_those_L44 (v1 : Int32) (v2 : Int32) : Nat → GM → Int32 → Int32 → Int32 → Int32 → Option (GM × Int32)
  | 0, _, _, _, _, _ => none
  | k + 1, σ, v3, v4, v5, v6 =>
    ob (f_X12_there σ) fun r_13 =>
    if r_13 < v6 then
      f_X12_those_L113 σ v1 v3 v4 v5
    else
      ob (f_X12_there σ) fun r_18 =>
      if (v6 &&& (r_18 ^^^ (-1 : Int32))) = (0 : Int32) then
        ob (f_X12_bits σ v6) fun r_22 =>
        if r_22 = v2 then
          ob (f_X12_there σ) fun r_26 =>
          ob (f_X12_isCut σ v6 r_26) fun r_28 =>
          if r_28 = (0 : Int32) then
            nm (v6 + (1 : Int32)) fun v6_35 =>
            f_X12_those_L44 v1 v2 k σ v3 v4 v5 v6_35
          else
            nm (v3 + (1 : Int32)) fun v3_31 =>
            nm (v4 &&& v6) fun v4_32 =>
            nm (v5 ||| v6) fun v5_33 =>
            nm (v6 + (1 : Int32)) fun v6_34 =>
            f_X12_those_L44 v1 v2 k σ v3_31 v4_32 v5_33 v6_34
        else
          nm (v6 + (1 : Int32)) fun v6_25 =>
          f_X12_those_L44 v1 v2 k σ v3 v4 v5 v6_25
      else
        nm (v6 + (1 : Int32)) fun v6_21 =>
        f_X12_those_L44 v1 v2 k σ v3 v4 v5 v6_21
def f_X12_those (σ : GM) (v1 : Int32) : Option (GM × Int32) :=
  nm (wI σ 60 0 (0 : Int32)) fun σ_1 =>
  ob (f_X12_isIn σ_1 v1 (0 : Int32) (2 : Int32)) fun r_2 =>
  if r_2 = (0 : Int32) then
    some (σ_1, (-1 : Int32))
  else
    ob (f_X12_there σ_1) fun r_5 =>
    ob (f_X12_bestCut σ_1 r_5 (0 : Int32) (0 : Int32)) fun r_7 =>
    ob (f_X12_bits σ_1 r_7) fun r_9 =>
    ob (f_X12_there σ_1) fun r_11 =>
    f_X12_those_L44 v1 r_9 5000 σ_1 (0 : Int32) r_11 (0 : Int32) (0 : Int32)
def f_X12_sparing (σ : GM) (v1 : Int32) : Option (GM × Int32) :=
  nm (wI σ 60 0 (0 : Int32)) fun σ_1 =>
  ob (f_X12_areThere σ_1 v1) fun r_2 =>
  if r_2 = (0 : Int32) then
    some (σ_1, (-1 : Int32))
  else
    ob (f_X12_there σ_1) fun r_5 =>
    ob (f_X12_bestCut σ_1 r_5 v1 (0 : Int32)) fun r_7 =>
    some (σ_1, r_7)
def f_X12_upTo (σ : GM) (v1 : Int32) : Option (GM × Int32) :=
  nm (wI σ 60 0 (0 : Int32)) fun σ_1 =>
  bnd (0 : Int32) 159 <|
  ob (f_X12_isIn σ_1 v1 (0 : Int32) ((σ_1.1 62 (0 : Int32).toNatClampNeg) - (1 : Int32))) fun r_3 =>
  if r_3 = (0 : Int32) then
    some (σ_1, (-1 : Int32))
  else
    ob (f_X12_there σ_1) fun r_6 =>
    ob (f_X12_bestCut σ_1 (r_6 &&& (((2 : Int32) <<< (v1 &&& 31)) - (1 : Int32))) (0 : Int32) (0 : Int32)) fun r_8 =>
    ob (f_X12_bits σ_1 r_8) fun r_10 =>
    some (σ_1, r_10)
def f_X12_goes_L66 (kr : GM → Int32 → Int32 → Int32 → Int64 → Option GM) (k3 : GM → Int32 → Option GM) (v1 : Int32) (v2 : Int32) (v3 : Int32) (v4 : Int64) (σ : GM) (v6 : Int32) (v7 : Int32) : Option GM :=
  if v6 = v2 then
    nm (v6 + (1 : Int32)) fun v6_7 =>
    k3 σ v6_7
  else
    ob (f_X12_has σ v3 v6) fun r_8 =>
    if r_8 = (0 : Int32) then
      ob (kr σ v1 v6 (v3 ||| ((1 : Int32) <<< (v6 &&& 31))) (v4 * (v7.toInt64))) fun σ_13 =>
      nm (v6 + (1 : Int32)) fun v6_14 =>
      k3 σ_13 v6_14
    else
      nm (v6 + (1 : Int32)) fun v6_11 =>
      k3 σ v6_11
def f_X12_goes_L3 (kr : GM → Int32 → Int32 → Int32 → Int64 → Option GM) (v1 : Int32) (v2 : Int32) (v3 : Int32) (v4 : Int64) : Nat → GM → Int32 → Option GM
  | 0, _, _ => none
  | k + 1, σ, v6 =>
    if (12 : Int32) ≤ v6 then
      some σ
    else
      ob (f_X12_between σ 62 v2 v6) fun r_2 =>
      if r_2 = (0 : Int32) then
        nm (v6 + (1 : Int32)) fun v6_21 =>
        f_X12_goes_L3 kr v1 v2 v3 v4 k σ v6_21
      else
        if v6 = v1 then
          ob (f_X12_bits σ v3) fun r_15 =>
          if r_15 ≤ (2 : Int32) then
            f_X12_goes_L66 kr (fun σ' v6' => f_X12_goes_L3 kr v1 v2 v3 v4 k σ' v6') v1 v2 v3 v4 σ v6 r_2
          else
            nm (wL σ 60 21 ((σ.2 60 21) + (v4 * (r_2.toInt64)))) fun σ_18 =>
            bnd v3 4096 <|
            nm (wI σ_18 70 v3.toNatClampNeg ((1 : Int32) &&& 1)) fun σ_20 =>
            f_X12_goes_L66 kr (fun σ' v6' => f_X12_goes_L3 kr v1 v2 v3 v4 k σ' v6') v1 v2 v3 v4 σ_20 v6 r_2
        else
          f_X12_goes_L66 kr (fun σ' v6' => f_X12_goes_L3 kr v1 v2 v3 v4 k σ' v6') v1 v2 v3 v4 σ v6 r_2
def f_X12_goes : Nat → GM → Int32 → Int32 → Int32 → Int64 → Option GM
  | 0, _, _, _, _, _ => none
  | d + 1, σ, v1, v2, v3, v4 =>
    f_X12_goes_L3 (f_X12_goes d) v1 v2 v3 v4 5000 σ v1
def f_X12_laysRings_L115 (k65 : GM → Int32 → Option GM) (v1 : Int32) : Nat → GM → Int32 → Option GM
  | 0, _, _ => none
  | k + 1, σ, v2 =>
    if (12 : Int32) ≤ v2 then
      nm (v1 + (1 : Int32)) fun v1_15 =>
      k65 σ v1_15
    else
      ob (f_X12_between σ 62 v1 v2) fun r_16 =>
      nz (2 : Int32) <|
      nm (wL σ 60 21 ((σ.2 60 21) + ((((r_16 * (r_16 - (1 : Int32))) / (2 : Int32))).toInt64))) fun σ_19 =>
      if r_16 ≤ (1 : Int32) then
        nm (v2 + (1 : Int32)) fun v2_21 =>
        f_X12_laysRings_L115 k65 v1 k σ_19 v2_21
      else
        bnd (((1 : Int32) <<< (v1 &&& 31)) ||| ((1 : Int32) <<< (v2 &&& 31))) 4096 <|
        nm (wI σ_19 70 (((1 : Int32) <<< (v1 &&& 31)) ||| ((1 : Int32) <<< (v2 &&& 31))).toNatClampNeg ((1 : Int32) &&& 1)) fun σ_23 =>
        nm (v2 + (1 : Int32)) fun v2_24 =>
        f_X12_laysRings_L115 k65 v1 k σ_23 v2_24
def f_X12_laysRings_L111 (k65 : GM → Int32 → Option GM) (σ : GM) (v1 : Int32) : Option GM :=
  nm (v1 + (1 : Int32)) fun v2_13 =>
  f_X12_laysRings_L115 k65 v1 5000 σ v2_13
def f_X12_laysRings_L65  : Nat → GM → Int32 → Option GM
  | 0, _, _ => none
  | k + 1, σ, v1 =>
    if (12 : Int32) ≤ v1 then
      some σ
    else
      ob (f_X12_between σ 62 v1 v1) fun r_7 =>
      nm (wL σ 60 21 ((σ.2 60 21) + (r_7.toInt64))) fun σ_9 =>
      ob (f_X12_between σ_9 62 v1 v1) fun r_10 =>
      if r_10 ≤ (0 : Int32) then
        f_X12_laysRings_L111 (fun σ' v1' => f_X12_laysRings_L65  k σ' v1') σ_9 v1
      else
        bnd ((1 : Int32) <<< (v1 &&& 31)) 4096 <|
        nm (wI σ_9 70 ((1 : Int32) <<< (v1 &&& 31)).toNatClampNeg ((1 : Int32) &&& 1)) fun σ_26 =>
        f_X12_laysRings_L111 (fun σ' v1' => f_X12_laysRings_L65  k σ' v1') σ_26 v1
def f_X12_laysRings_L51 (σ : GM) : Option GM :=
  nzl (2 : Int64) <|
  nm (wL σ 60 21 ((σ.2 60 21) / (2 : Int64))) fun σ_5 =>
  f_X12_laysRings_L65 5000 σ_5 (0 : Int32)
def f_X12_laysRings_L29  : Nat → GM → Int32 → Option GM
  | 0, _, _ => none
  | k + 1, σ, v1 =>
    if (12 : Int32) ≤ v1 then
      f_X12_laysRings_L51 σ
    else
      ob (f_X12_goes 14 σ v1 v1 ((1 : Int32) <<< (v1 &&& 31)) (1 : Int64)) fun σ_28 =>
      nm (v1 + (1 : Int32)) fun v1_29 =>
      f_X12_laysRings_L29  k σ_28 v1_29
def f_X12_laysRings_L7  : Nat → GM → Int32 → Option GM
  | 0, _, _ => none
  | k + 1, σ, v1 =>
    if (4096 : Int32) ≤ v1 then
      f_X12_laysRings_L29 5000 σ (0 : Int32)
    else
      bnd v1 4096 <|
      nm (wI σ 70 v1.toNatClampNeg ((0 : Int32) &&& 1)) fun σ_31 =>
      nm (v1 + (1 : Int32)) fun v1_32 =>
      f_X12_laysRings_L7  k σ_31 v1_32
def f_X12_laysRings (σ : GM) : Option GM :=
  nm (wL σ 60 21 (0 : Int64)) fun σ_1 =>
  f_X12_laysRings_L7 5000 σ_1 (0 : Int32)
def f_X12_rings (σ : GM) : Option (GM × Int64) :=
  nm (wI σ 60 0 (0 : Int32)) fun σ_1 =>
  ob (f_X12_laysRings σ_1) fun σ_3 =>
  some (σ_3, (σ_3.2 60 21))
def f_X12_shortest_L13  : Nat → GM → Int32 → Int32 → Option (GM × Int32)
  | 0, _, _, _ => none
  | k + 1, σ, v1, v2 =>
    if (4096 : Int32) ≤ v2 then
      some (σ, v1)
    else
      bnd v2 4096 <|
      if (σ.1 70 v2.toNatClampNeg) = (0 : Int32) then
        nm (v2 + (1 : Int32)) fun v2_7 =>
        f_X12_shortest_L13  k σ v1 v2_7
      else
        if v1 = (0 : Int32) then
          nm (v2 + (1 : Int32)) fun v2_9 =>
          f_X12_shortest_L13  k σ v2 v2_9
        else
          ob (f_X12_bits σ v2) fun r_10 =>
          ob (f_X12_bits σ v1) fun r_12 =>
          if r_12 ≤ r_10 then
            nm (v2 + (1 : Int32)) fun v2_15 =>
            f_X12_shortest_L13  k σ v1 v2_15
          else
            nm (v2 + (1 : Int32)) fun v2_16 =>
            f_X12_shortest_L13  k σ v2 v2_16
def f_X12_shortest (σ : GM) : Option (GM × Int32) :=
  nm (wI σ 60 0 (0 : Int32)) fun σ_1 =>
  ob (f_X12_laysRings σ_1) fun σ_3 =>
  f_X12_shortest_L13 5000 σ_3 (0 : Int32) (1 : Int32)
def f_X12_laysApart_L94 (k6 : GM → Int32 → Option GM) (k41 : GM → Int32 → Option GM) (v1 : Int32) (v2 : Int32) (v3 : Int32) (σ : GM) (v4 : Int32) : Option GM :=
  if v4 = (0 : Int32) then
    nm (v1 + (1 : Int32)) fun v1_16 =>
    k6 σ v1_16
  else
    nm ((v4 - (1 : Int32)) &&& v3) fun v4_15 =>
    k41 σ v4_15
def f_X12_laysApart_L41 (k6 : GM → Int32 → Option GM) (v1 : Int32) (v2 : Int32) (v3 : Int32) : Nat → GM → Int32 → Option GM
  | 0, _, _ => none
  | k + 1, σ, v4 =>
    nm (v4 ||| v2) fun i_11 =>
    bnd i_11 4096 <|
    if (σ.1 70 i_11.toNatClampNeg) = (0 : Int32) then
      f_X12_laysApart_L94 k6 (fun σ' v4' => f_X12_laysApart_L41 k6 v1 v2 v3 k σ' v4') v1 v2 v3 σ v4
    else
      nm (v3 &&& (v4 ^^^ (-1 : Int32))) fun i_17 =>
      bnd i_17 4096 <|
      bnd v1 4096 <|
      if ((σ.1 71 i_17.toNatClampNeg) + (1 : Int32)) ≤ (σ.1 71 v1.toNatClampNeg) then
        f_X12_laysApart_L94 k6 (fun σ' v4' => f_X12_laysApart_L41 k6 v1 v2 v3 k σ' v4') v1 v2 v3 σ v4
      else
        nm (v3 &&& (v4 ^^^ (-1 : Int32))) fun i_21 =>
        bnd i_21 4096 <|
        bnd v1 4096 <|
        nm (wI σ 71 v1.toNatClampNeg ((σ.1 71 i_21.toNatClampNeg) + (1 : Int32))) fun σ_24 =>
        f_X12_laysApart_L94 k6 (fun σ' v4' => f_X12_laysApart_L41 k6 v1 v2 v3 k σ' v4') v1 v2 v3 σ_24 v4
def f_X12_laysApart_L6  : Nat → GM → Int32 → Option GM
  | 0, _, _ => none
  | k + 1, σ, v1 =>
    if (4096 : Int32) ≤ v1 then
      some σ
    else
      ob (f_X12_least σ v1) fun r_4 =>
      nm ((1 : Int32) <<< (r_4 &&& 31)) fun v2_6 =>
      nm (v1 &&& (v2_6 ^^^ (-1 : Int32))) fun v3_7 =>
      bnd v3_7 4096 <|
      bnd v1 4096 <|
      nm (wI σ 71 v1.toNatClampNeg (σ.1 71 v3_7.toNatClampNeg)) fun σ_10 =>
      f_X12_laysApart_L41 (fun σ' v1' => f_X12_laysApart_L6  k σ' v1') v1 v2_6 v3_7 5000 σ_10 v3_7
def f_X12_laysApart (σ : GM) : Option GM :=
  ob (f_X12_laysRings σ) fun σ_2 =>
  f_X12_laysApart_L6 5000 σ_2 (1 : Int32)
def f_X12_packed (σ : GM) : Option (GM × Int32) :=
  nm (wI σ 60 0 (0 : Int32)) fun σ_1 =>
  ob (f_X12_laysApart σ_1) fun σ_3 =>
  ob (f_X12_there σ_3) fun r_4 =>
  bnd r_4 4096 <|
  some (σ_3, (σ_3.1 71 r_4.toNatClampNeg))
def f_X12_pack_L92 (k40 : GM → Int32 → Int32 → Int32 → Option (GM × Int32)) (v1 : Int32) (σ : GM) (v2 : Int32) (v3 : Int32) (v4 : Int32) : Option (GM × Int32) :=
  nm (v2 &&& (v3 ^^^ (-1 : Int32))) fun v2_22 =>
  nm (v4 + (1 : Int32)) fun v4_23 =>
  k40 σ v2_22 v3 v4_23
def f_X12_pack_L48 (k40 : GM → Int32 → Int32 → Int32 → Option (GM × Int32)) (v1 : Int32) (v2 : Int32) (v4 : Int32) : Nat → GM → Int32 → Option (GM × Int32)
  | 0, _, _ => none
  | k + 1, σ, v3 =>
    bnd v3 4096 <|
    if (σ.1 70 v3.toNatClampNeg) = (0 : Int32) then
      nm (v3 + (1 : Int32)) fun v3_15 =>
      f_X12_pack_L48 k40 v1 v2 v4 k σ v3_15
    else
      if (v3 &&& (v2 ^^^ (-1 : Int32))) = (0 : Int32) then
        nm (v2 &&& (v3 ^^^ (-1 : Int32))) fun i_18 =>
        bnd i_18 4096 <|
        bnd v2 4096 <|
        if (σ.1 71 i_18.toNatClampNeg) = ((σ.1 71 v2.toNatClampNeg) - (1 : Int32)) then
          f_X12_pack_L92 k40 v1 σ v2 v3 v4
        else
          nm (v3 + (1 : Int32)) fun v3_24 =>
          f_X12_pack_L48 k40 v1 v2 v4 k σ v3_24
      else
        nm (v3 + (1 : Int32)) fun v3_17 =>
        f_X12_pack_L48 k40 v1 v2 v4 k σ v3_17
def f_X12_pack_L40 (v1 : Int32) : Nat → GM → Int32 → Int32 → Int32 → Option (GM × Int32)
  | 0, _, _, _, _ => none
  | k + 1, σ, v2, v3, v4 =>
    if v1 < v4 then
      some (σ, v3)
    else
      f_X12_pack_L48 (fun σ' v2' v3' v4' => f_X12_pack_L40 v1 k σ' v2' v3' v4') v1 v2 v4 5000 σ (1 : Int32)
def f_X12_pack (σ : GM) (v1 : Int32) : Option (GM × Int32) :=
  nm (wI σ 60 0 (0 : Int32)) fun σ_1 =>
  ob (f_X12_laysApart σ_1) fun σ_3 =>
  ob (f_X12_there σ_3) fun r_4 =>
  bnd r_4 4096 <|
  ob (f_X12_isIn σ_3 v1 (0 : Int32) ((σ_3.1 71 r_4.toNatClampNeg) - (1 : Int32))) fun r_7 =>
  if r_7 = (0 : Int32) then
    some (σ_3, (-1 : Int32))
  else
    ob (f_X12_there σ_3) fun r_10 =>
    f_X12_pack_L40 v1 5000 σ_3 r_10 (0 : Int32) (0 : Int32)
def f_X12_divisor : Nat → GM → Int64 → Int64 → Option Int64
  | 0, _, _, _ => none
  | d + 1, σ, v0, v2 =>
    if (lg_cmp v2 (0 : Int64)) = (0 : Int32) then
      if (0 : Int32) ≤ (lg_cmp v0 (0 : Int64)) then
        some v0
      else
        some (-v0)
    else
      nzl v2 <|
      ob (f_X12_divisor d σ v2 (v0 - v0 / v2 * v2)) fun r_3 =>
      some r_3
def f_X12_takes (σ : GM) (v1 : Int32) (v2 : Int64) (v4 : Int64) (v6 : Int32) : Option GM :=
  bnd v1 12 <|
  bnd v1 12 <|
  nm (((σ.2 72 v1.toNatClampNeg) * v4) - ((v2 * (v6.toInt64)) * (σ.2 73 v1.toNatClampNeg))) fun v7_3 =>
  bnd v1 12 <|
  nm ((σ.2 73 v1.toNatClampNeg) * v4) fun v9_5 =>
  ob (f_X12_divisor 200 σ v7_3 v9_5) fun r_6 =>
  nzl r_6 <|
  bnd v1 12 <|
  nm (wL σ 72 v1.toNatClampNeg (v7_3 / r_6)) fun σ_10 =>
  nzl r_6 <|
  bnd v1 12 <|
  nm (wL σ_10 73 v1.toNatClampNeg (v9_5 / r_6)) fun σ_13 =>
  some σ_13
def f_X12_bounds (σ : GM) (v1 : Int64) (v3 : Int64) (v5 : Int32) : Option GM :=
  nm (((σ.2 60 26) * v3) + ((v1 * (v5.toInt64)) * (σ.2 60 27))) fun v6_1 =>
  nm ((σ.2 60 27) * v3) fun v8_2 =>
  ob (f_X12_divisor 200 σ v6_1 v8_2) fun r_3 =>
  nzl r_3 <|
  nm (wL σ 60 26 (v6_1 / r_3)) fun σ_6 =>
  nzl r_3 <|
  nm (wL σ_6 60 27 (v8_2 / r_3)) fun σ_8 =>
  some σ_8
def f_X12_trimmed_L14 (σ : GM) (k4 : Int32 → Int32 → Option Int32) (v3 : Int32) : Nat → Int32 → Int32 → Option Int32
  | 0, _, _ => none
  | k + 1, v2, v4 =>
    if (12 : Int32) ≤ v4 then
      k4 v2 v3
    else
      ob (f_X12_has σ v2 v4) fun r_3 =>
      if r_3 = (0 : Int32) then
        nm (v4 + (1 : Int32)) fun v4_6 =>
        f_X12_trimmed_L14 σ k4 v3 k v2 v4_6
      else
        ob (f_X12_ends σ 62 v4 v2) fun r_7 =>
        if (2 : Int32) ≤ r_7 then
          nm (v4 + (1 : Int32)) fun v4_10 =>
          f_X12_trimmed_L14 σ k4 v3 k v2 v4_10
        else
          nm (v2 &&& (((1 : Int32) <<< (v4 &&& 31)) ^^^ (-1 : Int32))) fun v2_11 =>
          nm (v4 + (1 : Int32)) fun v4_12 =>
          f_X12_trimmed_L14 σ k4 v3 k v2_11 v4_12
def f_X12_trimmed_L4 (σ : GM) : Nat → Int32 → Int32 → Option Int32
  | 0, _, _ => none
  | k + 1, v2, v3 =>
    if v2 = v3 then
      some v2
    else
      f_X12_trimmed_L14 σ (fun v2' v3' => f_X12_trimmed_L4 σ k v2' v3') v2 5000 v2 (0 : Int32)
def f_X12_trimmed (σ : GM) (v1 : Int32) : Option Int32 :=
  f_X12_trimmed_L4 σ 5000 v1 (-1 : Int32)
def f_X12_thinRing_L71 (σ : GM) (k2 : Int32 → Option Int32) (v1 : Int32) (v2 : Int32) (v3 : Int32) : Option Int32 :=
  if (2 : Int32) ≤ v3 then
    nm (v2 + (1 : Int32)) fun v2_8 =>
    k2 v2_8
  else
    some v2
def f_X12_thinRing_L32 (σ : GM) (k2 : Int32 → Option Int32) (v1 : Int32) (v2 : Int32) : Nat → Int32 → Int32 → Option Int32
  | 0, _, _ => none
  | k + 1, v3, v4 =>
    if (12 : Int32) ≤ v4 then
      f_X12_thinRing_L71 σ k2 v1 v2 v3
    else
      ob (f_X12_has σ v2 v4) fun r_9 =>
      if r_9 = (0 : Int32) then
        nm (v4 + (1 : Int32)) fun v4_12 =>
        f_X12_thinRing_L32 σ k2 v1 v2 k v3 v4_12
      else
        ob (f_X12_ends σ 62 v4 v1) fun r_13 =>
        if r_13 ≤ (2 : Int32) then
          nm (v4 + (1 : Int32)) fun v4_16 =>
          f_X12_thinRing_L32 σ k2 v1 v2 k v3 v4_16
        else
          nm (v3 + (1 : Int32)) fun v3_17 =>
          nm (v4 + (1 : Int32)) fun v4_18 =>
          f_X12_thinRing_L32 σ k2 v1 v2 k v3_17 v4_18
def f_X12_thinRing_L2 (σ : GM) (v1 : Int32) : Nat → Int32 → Option Int32
  | 0, _ => none
  | k + 1, v2 =>
    if v1 < v2 then
      some (0 : Int32)
    else
      bnd v2 4096 <|
      if (σ.1 70 v2.toNatClampNeg) = (0 : Int32) then
        nm (v2 + (1 : Int32)) fun v2_4 =>
        f_X12_thinRing_L2 σ v1 k v2_4
      else
        if (v2 &&& (v1 ^^^ (-1 : Int32))) = (0 : Int32) then
          f_X12_thinRing_L32 σ (fun v2' => f_X12_thinRing_L2 σ v1 k v2') v1 v2 5000 (0 : Int32) (0 : Int32)
        else
          nm (v2 + (1 : Int32)) fun v2_19 =>
          f_X12_thinRing_L2 σ v1 k v2_19
def f_X12_thinRing (σ : GM) (v1 : Int32) : Option Int32 :=
  f_X12_thinRing_L2 σ v1 5000 (1 : Int32)
def f_X12_sinks_L210 (σ : GM) (v1 : Int32) (v2 : Int32) (v4 : Int64) (v6 : Int64) : Option GM :=
  if v2 = (0 : Int32) then
    ob (f_X12_lineMany σ 62 v1) fun r_13 =>
    ob (f_X12_bits σ v1) fun r_15 =>
    ob (f_X12_parts σ v1) fun r_17 =>
    ob (f_X12_bounds σ v4 v6 ((r_13 - r_15) + r_17)) fun σ_20 =>
    some σ_20
  else
    ob (f_X12_bounds σ v4 v6 (1 : Int32)) fun σ_22 =>
    some σ_22
def f_X12_sinks_L158 (v1 : Int32) (v2 : Int32) (v3 : Int32) (v4 : Int64) (v6 : Int64) : Nat → GM → Int32 → Option GM
  | 0, _, _ => none
  | k + 1, σ, v10 =>
    if (12 : Int32) ≤ v10 then
      f_X12_sinks_L210 σ v1 v2 v4 v6
    else
      ob (f_X12_has σ v3 v10) fun r_23 =>
      if r_23 = (0 : Int32) then
        nm (v10 + (1 : Int32)) fun v10_26 =>
        f_X12_sinks_L158 v1 v2 v3 v4 v6 k σ v10_26
      else
        if v2 = (0 : Int32) then
          ob (f_X12_ends σ 62 v10 v1) fun r_28 =>
          ob (f_X12_takes σ v10 v4 v6 (r_28 - (1 : Int32))) fun σ_31 =>
          nm (v10 + (1 : Int32)) fun v10_32 =>
          f_X12_sinks_L158 v1 v2 v3 v4 v6 k σ_31 v10_32
        else
          ob (f_X12_takes σ v10 v4 v6 (1 : Int32)) fun σ_34 =>
          nm (v10 + (1 : Int32)) fun v10_35 =>
          f_X12_sinks_L158 v1 v2 v3 v4 v6 k σ_34 v10_35
def f_X12_sinks_L132 (σ : GM) (v1 : Int32) (v2 : Int32) (v3 : Int32) (v4 : Int64) (v6 : Int64) : Option GM :=
  ob (f_X12_divisor 200 σ v4 v6) fun r_5 =>
  nzl r_5 <|
  nm (v4 / r_5) fun v4_8 =>
  nzl r_5 <|
  nm (v6 / r_5) fun v6_10 =>
  f_X12_sinks_L158 v1 v2 v3 v4_8 v6_10 5000 σ (0 : Int32)
def f_X12_sinks_L104 (k25 : GM → Int64 → Int64 → Int32 → Option GM) (v1 : Int32) (v2 : Int32) (v3 : Int32) (σ : GM) (v8 : Int32) (v9 : Int32) : Option GM :=
  bnd v8 12 <|
  nm (σ.2 72 v8.toNatClampNeg) fun v4_44 =>
  bnd v8 12 <|
  nm ((σ.2 73 v8.toNatClampNeg) * (v9.toInt64)) fun v6_46 =>
  nm (v8 + (1 : Int32)) fun v8_47 =>
  k25 σ v4_44 v6_46 v8_47
def f_X12_sinks_L64 (k25 : GM → Int64 → Int64 → Int32 → Option GM) (v1 : Int32) (v2 : Int32) (v3 : Int32) (σ : GM) (v4 : Int64) (v6 : Int64) (v8 : Int32) (s0 : Int32) : Option GM :=
  if (lg_cmp v6 (0 : Int64)) = (0 : Int32) then
    f_X12_sinks_L104 k25 v1 v2 v3 σ v8 s0
  else
    bnd v8 12 <|
    bnd v8 12 <|
    if (lg_cmp ((σ.2 72 v8.toNatClampNeg) * v6) ((v4 * (σ.2 73 v8.toNatClampNeg)) * (s0.toInt64))) < (0 : Int32) then
      f_X12_sinks_L104 k25 v1 v2 v3 σ v8 s0
    else
      nm (v8 + (1 : Int32)) fun v8_51 =>
      k25 σ v4 v6 v8_51
def f_X12_sinks_L25 (v1 : Int32) (v2 : Int32) (v3 : Int32) : Nat → GM → Int64 → Int64 → Int32 → Option GM
  | 0, _, _, _, _ => none
  | k + 1, σ, v4, v6, v8 =>
    if (12 : Int32) ≤ v8 then
      f_X12_sinks_L132 σ v1 v2 v3 v4 v6
    else
      ob (f_X12_has σ v3 v8) fun r_36 =>
      if r_36 = (0 : Int32) then
        nm (v8 + (1 : Int32)) fun v8_52 =>
        f_X12_sinks_L25 v1 v2 v3 k σ v4 v6 v8_52
      else
        if v2 = (0 : Int32) then
          ob (f_X12_ends σ 62 v8 v1) fun r_40 =>
          f_X12_sinks_L64 (fun σ' v4' v6' v8' => f_X12_sinks_L25 v1 v2 v3 k σ' v4' v6' v8') v1 v2 v3 σ v4 v6 v8 (r_40 - (1 : Int32))
        else
          f_X12_sinks_L64 (fun σ' v4' v6' v8' => f_X12_sinks_L25 v1 v2 v3 k σ' v4' v6' v8') v1 v2 v3 σ v4 v6 v8 (1 : Int32)
def f_X12_sinks_L15 (σ : GM) (v1 : Int32) (v2 : Int32) (s0 : Int32) : Option GM :=
  f_X12_sinks_L25 v1 v2 s0 5000 σ (0 : Int64) (0 : Int64) (0 : Int32)
def f_X12_sinks (σ : GM) (v1 : Int32) : Option GM :=
  ob (f_X12_thinRing σ v1) fun r_1 =>
  if r_1 = (0 : Int32) then
    f_X12_sinks_L15 σ v1 r_1 v1
  else
    f_X12_sinks_L15 σ v1 r_1 r_1
def f_X12_laysNear_L181  : Nat → GM → Int32 → Int32 → Option (GM × Int32)
  | 0, _, _, _ => none
  | k + 1, σ, v2, v3 =>
    if v3 < (0 : Int32) then
      some (σ, v2)
    else
      bnd v3 12 <|
      ob (f_X12_there σ) fun r_16 =>
      ob (f_X12_isCut σ (v2 &&& (((1 : Int32) <<< ((σ.1 74 v3.toNatClampNeg) &&& 31)) ^^^ (-1 : Int32))) r_16) fun r_18 =>
      if r_18 = (0 : Int32) then
        nm (v3 + (-1 : Int32)) fun v3_21 =>
        f_X12_laysNear_L181  k σ v2 v3_21
      else
        bnd v3 12 <|
        nm (v2 &&& (((1 : Int32) <<< ((σ.1 74 v3.toNatClampNeg) &&& 31)) ^^^ (-1 : Int32))) fun v2_23 =>
        nm (v3 + (-1 : Int32)) fun v3_24 =>
        f_X12_laysNear_L181  k σ v2_23 v3_24
def f_X12_laysNear_L174 (σ : GM) (v2 : Int32) : Option (GM × Int32) :=
  nm ((σ.1 60 28) - (1 : Int32)) fun v3_13 =>
  f_X12_laysNear_L181 5000 σ v2 v3_13
def f_X12_laysNear_L149  : Nat → GM → Int32 → Int32 → Option (GM × Int32)
  | 0, _, _, _ => none
  | k + 1, σ, v2, v3 =>
    if (σ.1 60 28) ≤ v3 then
      f_X12_laysNear_L174 σ v2
    else
      bnd v3 12 <|
      nm (v2 ||| ((1 : Int32) <<< ((σ.1 74 v3.toNatClampNeg) &&& 31))) fun v2_26 =>
      nm (v3 + (1 : Int32)) fun v3_27 =>
      f_X12_laysNear_L149  k σ v2_26 v3_27
def f_X12_laysNear_L145 (σ : GM) : Option (GM × Int32) :=
  f_X12_laysNear_L149 5000 σ (0 : Int32) (0 : Int32)
def f_X12_laysNear_L136 (k64 : GM → Int32 → Option (GM × Int32)) (σ : GM) (v1 : Int32) : Option (GM × Int32) :=
  ob (f_X12_trimmed σ v1) fun r_31 =>
  k64 σ r_31
def f_X12_laysNear_L76 (k64 : GM → Int32 → Option (GM × Int32)) : Nat → GM → Int32 → Int32 → Option (GM × Int32)
  | 0, _, _, _ => none
  | k + 1, σ, v1, v2 =>
    if v2 < (0 : Int32) then
      f_X12_laysNear_L136 k64 σ v1
    else
      ob (f_X12_has σ v1 v2) fun r_33 =>
      if r_33 = (0 : Int32) then
        nm (v2 + (-1 : Int32)) fun v2_36 =>
        f_X12_laysNear_L76 k64 k σ v1 v2_36
      else
        bnd v2 12 <|
        if (lg_cmp (σ.2 72 v2.toNatClampNeg) (0 : Int64)) = (0 : Int32) then
          bnd (σ.1 60 28) 12 <|
          nm (wI σ 74 (σ.1 60 28).toNatClampNeg v2) fun σ_40 =>
          nm (wI σ_40 60 28 ((σ_40.1 60 28) + (1 : Int32))) fun σ_41 =>
          nm (v1 &&& (((1 : Int32) <<< (v2 &&& 31)) ^^^ (-1 : Int32))) fun v1_42 =>
          nm (v2 + (-1 : Int32)) fun v2_43 =>
          f_X12_laysNear_L76 k64 k σ_41 v1_42 v2_43
        else
          nm (v2 + (-1 : Int32)) fun v2_44 =>
          f_X12_laysNear_L76 k64 k σ v1 v2_44
def f_X12_laysNear_L64  : Nat → GM → Int32 → Option (GM × Int32)
  | 0, _, _ => none
  | k + 1, σ, v1 =>
    if v1 = (0 : Int32) then
      f_X12_laysNear_L145 σ
    else
      ob (f_X12_sinks σ v1) fun σ_29 =>
      f_X12_laysNear_L76 (fun σ' v1' => f_X12_laysNear_L64  k σ' v1') 5000 σ_29 v1 (11 : Int32)
def f_X12_laysNear_L40 (σ : GM) : Option (GM × Int32) :=
  nm (wL σ 60 26 (0 : Int64)) fun σ_4 =>
  nm (wL σ_4 60 27 (1 : Int64)) fun σ_5 =>
  nm (wI σ_5 60 28 (0 : Int32)) fun σ_6 =>
  ob (f_X12_there σ_6) fun r_7 =>
  ob (f_X12_trimmed σ_6 r_7) fun r_9 =>
  f_X12_laysNear_L64 5000 σ_6 r_9
def f_X12_laysNear_L6  : Nat → GM → Int32 → Option (GM × Int32)
  | 0, _, _ => none
  | k + 1, σ, v1 =>
    if (12 : Int32) ≤ v1 then
      f_X12_laysNear_L40 σ
    else
      nm ((3 : Int32) + v1) fun i_45 =>
      bnd i_45 159 <|
      bnd v1 12 <|
      nm (wL σ 72 v1.toNatClampNeg (((σ.1 62 i_45.toNatClampNeg)).toInt64)) fun σ_48 =>
      bnd v1 12 <|
      nm (wL σ_48 73 v1.toNatClampNeg (1 : Int64)) fun σ_50 =>
      nm (v1 + (1 : Int32)) fun v1_51 =>
      f_X12_laysNear_L6  k σ_50 v1_51
def f_X12_laysNear (σ : GM) : Option (GM × Int32) :=
  ob (f_X12_laysRings σ) fun σ_2 =>
  f_X12_laysNear_L6 5000 σ_2 (0 : Int32)
def f_X12_near (σ : GM) : Option (GM × Int32) :=
  nm (wI σ 60 0 (0 : Int32)) fun σ_1 =>
  ob2 (f_X12_laysNear σ_1) fun σ_3 r_2 =>
  some (σ_3, r_2)
def f_X12_bound (σ : GM) (v1 : Int32) : Option (GM × Int64) :=
  nm (wI σ 60 0 (0 : Int32)) fun σ_1 =>
  ob (f_X12_isIn σ_1 v1 (0 : Int32) (1 : Int32)) fun r_2 =>
  if r_2 = (0 : Int32) then
    ob2 (f_X12_refuse σ_1) fun σ_9 r_8 =>
    some (σ_9, (r_8.toInt64))
  else
    ob2 (f_X12_laysNear σ_1) fun σ_6 r_5 =>
    if v1 = (0 : Int32) then
      some (σ_6, (σ_6.2 60 26))
    else
      some (σ_6, (σ_6.2 60 27))
def f_X12_snap_L50 (σ : GM) : Option GM :=
  ob (f_X12_copy σ 62 65 (0 : Int32) ((159 : Int32) * (σ.1 60 19))) fun σ_3 =>
  nm (wI σ_3 60 19 ((σ_3.1 60 19) + (1 : Int32))) fun σ_4 =>
  some σ_4
def f_X12_snap_L40 (σ : GM) : Option GM :=
  nm (wI σ 60 19 ((σ.1 60 19) - (1 : Int32))) fun σ_6 =>
  f_X12_snap_L50 σ_6
def f_X12_snap_L11  : Nat → GM → Int32 → Option GM
  | 0, _, _ => none
  | k + 1, σ, v1 =>
    if (1113 : Int32) ≤ v1 then
      f_X12_snap_L40 σ
    else
      nm (v1 + (159 : Int32)) fun i_7 =>
      bnd i_7 1272 <|
      bnd v1 1272 <|
      nm (wI σ 65 v1.toNatClampNeg (σ.1 65 i_7.toNatClampNeg)) fun σ_10 =>
      nm (v1 + (1 : Int32)) fun v1_11 =>
      f_X12_snap_L11  k σ_10 v1_11
def f_X12_snap (σ : GM) : Option GM :=
  if (σ.1 60 19) = (8 : Int32) then
    f_X12_snap_L11 5000 σ (0 : Int32)
  else
    f_X12_snap_L50 σ
def f_X12_stay (σ : GM) : Option GM :=
  ob (f_X12_copy σ 62 67 (0 : Int32) (0 : Int32)) fun σ_2 =>
  ob (f_X12_copy σ_2 66 62 (0 : Int32) (0 : Int32)) fun σ_4 =>
  ob (f_X12_snap σ_4) fun σ_6 =>
  ob (f_X12_copy σ_6 67 62 (0 : Int32) (0 : Int32)) fun σ_8 =>
  some σ_8
def f_X12_leaves_L13 (qa : Nat) (v1 : Int32) : Nat → GM → Int32 → Option GM
  | 0, _, _ => none
  | k + 1, σ, v2 =>
    if (12 : Int32) ≤ v2 then
      some σ
    else
      ob (f_X12_between σ qa v1 v2) fun r_5 =>
      ob (f_X12_adds σ qa v1 v2 (-r_5)) fun σ_8 =>
      nm (v2 + (1 : Int32)) fun v2_9 =>
      f_X12_leaves_L13 qa v1 k σ_8 v2_9
def f_X12_leaves (σ : GM) (qa : Nat) (v1 : Int32) : Option GM :=
  bnd (1 : Int32) 159 <|
  bnd (1 : Int32) 159 <|
  nm (wI σ qa (1 : Int32).toNatClampNeg ((σ.1 qa (1 : Int32).toNatClampNeg) &&& (((1 : Int32) <<< (v1 &&& 31)) ^^^ (-1 : Int32)))) fun σ_3 =>
  f_X12_leaves_L13 qa v1 5000 σ_3 (0 : Int32)
def f_X12_thick_L4 (σ : GM) (v1 : Int32) : Nat → Int32 → Option Int32
  | 0, _ => none
  | k + 1, v2 =>
    if (12 : Int32) ≤ v2 then
      some (-1 : Int32)
    else
      ob (f_X12_between σ 62 v1 v2) fun r_3 =>
      if r_3 ≤ (2 : Int32) then
        nm (v2 + (1 : Int32)) fun v2_6 =>
        f_X12_thick_L4 σ v1 k v2_6
      else
        some v2
def f_X12_thick (σ : GM) (v1 : Int32) : Option Int32 :=
  nm (v1 + (1 : Int32)) fun v2_1 =>
  f_X12_thick_L4 σ v1 5000 v2_1
def f_X12_one_L2 (σ : GM) (v1 : Int32) : Nat → Int32 → Option Int32
  | 0, _ => none
  | k + 1, v2 =>
    ob (f_X12_between σ 62 v1 v2) fun r_1 =>
    if r_1 = (0 : Int32) then
      nm (v2 + (1 : Int32)) fun v2_4 =>
      f_X12_one_L2 σ v1 k v2_4
    else
      some v2
def f_X12_one (σ : GM) (v1 : Int32) : Option Int32 :=
  f_X12_one_L2 σ v1 5000 (0 : Int32)
def f_X12_other_L3 (σ : GM) (v1 : Int32) : Nat → Int32 → Option Int32
  | 0, _ => none
  | k + 1, v2 =>
    ob (f_X12_between σ 62 v1 v2) fun r_1 =>
    if r_1 = (0 : Int32) then
      nm (v2 + (-1 : Int32)) fun v2_4 =>
      f_X12_other_L3 σ v1 k v2_4
    else
      some v2
def f_X12_other (σ : GM) (v1 : Int32) : Option Int32 :=
  f_X12_other_L3 σ v1 5000 (11 : Int32)
def f_X12_mayStep (σ : GM) (v1 : Int32) (v2 : Int32) : Option Int32 :=
  if v1 = (0 : Int32) then
    ob (f_X12_between σ 62 v2 v2) fun r_27 =>
    if r_27 ≤ (0 : Int32) then
      some ((0 : Int32) &&& 1)
    else
      some ((1 : Int32) &&& 1)
  else
    if v1 = (1 : Int32) then
      ob (f_X12_allEnds σ 62 v2) fun r_24 =>
      if (2 : Int32) ≤ r_24 then
        some ((0 : Int32) &&& 1)
      else
        some ((1 : Int32) &&& 1)
    else
      if v1 = (2 : Int32) then
        ob (f_X12_thick σ v2) fun r_21 =>
        if r_21 = (-1 : Int32) then
          some ((0 : Int32) &&& 1)
        else
          some ((1 : Int32) &&& 1)
      else
        ob (f_X12_allEnds σ 62 v2) fun r_4 =>
        if r_4 = (2 : Int32) then
          nm ((3 : Int32) + v2) fun i_7 =>
          bnd i_7 159 <|
          ob (f_X12_one σ v2) fun r_9 =>
          nm ((3 : Int32) + r_9) fun i_11 =>
          bnd i_11 159 <|
          if (σ.1 62 i_11.toNatClampNeg) ≤ (σ.1 62 i_7.toNatClampNeg) then
            some ((1 : Int32) &&& 1)
          else
            nm ((3 : Int32) + v2) fun i_14 =>
            bnd i_14 159 <|
            ob (f_X12_other σ v2) fun r_16 =>
            nm ((3 : Int32) + r_16) fun i_18 =>
            bnd i_18 159 <|
            if (σ.1 62 i_14.toNatClampNeg) < (σ.1 62 i_18.toNatClampNeg) then
              some ((0 : Int32) &&& 1)
            else
              some ((1 : Int32) &&& 1)
        else
          some ((0 : Int32) &&& 1)
def f_X12_first_L2 (σ : GM) (v1 : Int32) : Nat → Int32 → Option Int32
  | 0, _ => none
  | k + 1, v2 =>
    if (12 : Int32) ≤ v2 then
      some (-1 : Int32)
    else
      ob (f_X12_isThere σ v2) fun r_2 =>
      if r_2 = (0 : Int32) then
        nm (v2 + (1 : Int32)) fun v2_5 =>
        f_X12_first_L2 σ v1 k v2_5
      else
        ob (f_X12_mayStep σ v1 v2) fun r_6 =>
        if r_6 = (0 : Int32) then
          nm (v2 + (1 : Int32)) fun v2_9 =>
          f_X12_first_L2 σ v1 k v2_9
        else
          some v2
def f_X12_first (σ : GM) (v1 : Int32) : Option Int32 :=
  f_X12_first_L2 σ v1 5000 (0 : Int32)
def f_X12_steps_L128 (σ : GM) (v1 : Int32) (v2 : Int32) : Option (GM × Int32) :=
  some (σ, (((16 : Int32) * v1) + v2))
def f_X12_steps_L102 (σ : GM) (v1 : Int32) (v2 : Int32) (v3 : Int32) (s0 : Int32) : Option (GM × Int32) :=
  ob (f_X12_leaves σ 62 v2) fun σ_10 =>
  if v1 = (3 : Int32) then
    ob (f_X12_adds σ_10 62 v3 s0 (1 : Int32)) fun σ_13 =>
    f_X12_steps_L128 σ_13 v1 v2
  else
    f_X12_steps_L128 σ_10 v1 v2
def f_X12_steps_L87 (σ : GM) (v1 : Int32) (v2 : Int32) (s0 : Int32) : Option (GM × Int32) :=
  if v1 = (3 : Int32) then
    ob (f_X12_other σ v2) fun r_14 =>
    f_X12_steps_L102 σ v1 v2 s0 r_14
  else
    f_X12_steps_L102 σ v1 v2 s0 (0 : Int32)
def f_X12_steps_L37 (σ : GM) (v1 : Int32) (v2 : Int32) : Option (GM × Int32) :=
  if v1 = (2 : Int32) then
    ob (f_X12_thick σ v2) fun r_18 =>
    ob (f_X12_between σ 62 v2 r_18) fun r_20 =>
    ob (f_X12_adds σ 62 v2 r_18 ((2 : Int32) - r_20)) fun σ_23 =>
    some (σ_23, ((32 : Int32) + v2))
  else
    if v1 = (3 : Int32) then
      ob (f_X12_one σ v2) fun r_16 =>
      f_X12_steps_L87 σ v1 v2 r_16
    else
      f_X12_steps_L87 σ v1 v2 (0 : Int32)
def f_X12_steps_L21 (σ : GM) (v1 : Int32) (v2 : Int32) : Option (GM × Int32) :=
  if v1 = (0 : Int32) then
    bnd (2 : Int32) 159 <|
    bnd (2 : Int32) 159 <|
    nm (wI σ 62 (2 : Int32).toNatClampNeg ((σ.1 62 (2 : Int32).toNatClampNeg) ||| ((1 : Int32) <<< (v2 &&& 31)))) fun σ_26 =>
    f_X12_steps_L37 σ_26 v1 v2
  else
    f_X12_steps_L37 σ v1 v2
def f_X12_steps_L2  : Nat → GM → Int32 → Option (GM × Int32)
  | 0, _, _ => none
  | k + 1, σ, v1 =>
    if (4 : Int32) ≤ v1 then
      some (σ, (-1 : Int32))
    else
      ob (f_X12_first σ v1) fun r_2 =>
      if r_2 = (-1 : Int32) then
        nm (v1 + (1 : Int32)) fun v1_27 =>
        f_X12_steps_L2  k σ v1_27
      else
        f_X12_steps_L21 σ v1 r_2
def f_X12_steps (σ : GM) : Option (GM × Int32) :=
  f_X12_steps_L2 5000 σ (0 : Int32)
def f_X12_shrink (σ : GM) : Option (GM × Int32) :=
  nm (wI σ 60 0 (0 : Int32)) fun σ_1 =>
  ob (f_X12_copy σ_1 62 66 (0 : Int32) (0 : Int32)) fun σ_3 =>
  ob2 (f_X12_steps σ_3) fun σ_5 r_4 =>
  if r_4 = (-1 : Int32) then
    some (σ_5, r_4)
  else
    ob (f_X12_stay σ_5) fun σ_8 =>
    some (σ_8, r_4)
def f_X12_shrinkAll_L34 (σ : GM) (v1 : Int32) : Option (GM × Int32) :=
  if v1 ≤ (0 : Int32) then
    some (σ, v1)
  else
    ob (f_X12_stay σ) fun σ_9 =>
    some (σ_9, v1)
def f_X12_shrinkAll_L20  : Nat → GM → Int32 → Option (GM × Int32)
  | 0, _, _ => none
  | k + 1, σ, v1 =>
    ob2 (f_X12_steps σ) fun σ_5 r_4 =>
    if r_4 = (-1 : Int32) then
      f_X12_shrinkAll_L34 σ_5 v1
    else
      nm (v1 + (1 : Int32)) fun v1_10 =>
      f_X12_shrinkAll_L20  k σ_5 v1_10
def f_X12_shrinkAll (σ : GM) : Option (GM × Int32) :=
  nm (wI σ 60 0 (0 : Int32)) fun σ_1 =>
  ob (f_X12_copy σ_1 62 66 (0 : Int32) (0 : Int32)) fun σ_3 =>
  f_X12_shrinkAll_L20 5000 σ_3 (0 : Int32)
def f_X12_drop (σ : GM) (v1 : Int32) : Option (GM × Int32) :=
  nm (wI σ 60 0 (0 : Int32)) fun σ_1 =>
  ob (f_X12_isThere σ_1 v1) fun r_2 =>
  if r_2 = (0 : Int32) then
    some (σ_1, (-1 : Int32))
  else
    ob (f_X12_snap σ_1) fun σ_6 =>
    ob (f_X12_leaves σ_6 62 v1) fun σ_8 =>
    ob (f_X12_there σ_8) fun r_9 =>
    ob (f_X12_bits σ_8 r_9) fun r_11 =>
    some (σ_8, r_11)
def f_X12_mayJoin_L57 (σ : GM) (s0 : Int32) (s1 : Int32) : Option Int32 :=
  if (6 : Int32) < (s0 + s1) then
    some ((0 : Int32) &&& 1)
  else
    some ((1 : Int32) &&& 1)
def f_X12_mayJoin_L33 (σ : GM) (v1 : Int32) (v2 : Int32) (s0 : Int32) (s1 : Int32) : Option Int32 :=
  if (6 : Int32) < (s0 + s1) then
    some ((0 : Int32) &&& 1)
  else
    ob (f_X12_allEnds σ 62 v2) fun r_8 =>
    if v1 = v2 then
      f_X12_mayJoin_L57 σ r_8 (2 : Int32)
    else
      f_X12_mayJoin_L57 σ r_8 (1 : Int32)
def f_X12_mayJoin (σ : GM) (v1 : Int32) (v2 : Int32) : Option Int32 :=
  ob (f_X12_lineMany σ 62 (4095 : Int32)) fun r_1 =>
  if (20 : Int32) ≤ r_1 then
    some ((0 : Int32) &&& 1)
  else
    ob (f_X12_allEnds σ 62 v1) fun r_4 =>
    if v1 = v2 then
      f_X12_mayJoin_L33 σ v1 v2 r_4 (2 : Int32)
    else
      f_X12_mayJoin_L33 σ v1 v2 r_4 (1 : Int32)
def f_X12_join (σ : GM) (v1 : Int32) (v2 : Int32) : Option (GM × Int32) :=
  nm (wI σ 60 0 (0 : Int32)) fun σ_1 =>
  ob (f_X12_isThere σ_1 v1) fun r_2 =>
  if r_2 = (0 : Int32) then
    some (σ_1, (-1 : Int32))
  else
    ob (f_X12_isThere σ_1 v2) fun r_5 =>
    if r_5 = (0 : Int32) then
      some (σ_1, (-1 : Int32))
    else
      ob (f_X12_mayJoin σ_1 v1 v2) fun r_8 =>
      if r_8 = (0 : Int32) then
        some (σ_1, (-2 : Int32))
      else
        ob (f_X12_snap σ_1) fun σ_12 =>
        ob (f_X12_adds σ_12 62 v1 v2 (1 : Int32)) fun σ_14 =>
        ob (f_X12_between σ_14 62 v1 v2) fun r_15 =>
        some (σ_14, r_15)
def f_X12_part (σ : GM) (v1 : Int32) (v2 : Int32) : Option (GM × Int32) :=
  nm (wI σ 60 0 (0 : Int32)) fun σ_1 =>
  ob (f_X12_isThere σ_1 v1) fun r_2 =>
  if r_2 = (0 : Int32) then
    some (σ_1, (-1 : Int32))
  else
    ob (f_X12_isThere σ_1 v2) fun r_5 =>
    if r_5 = (0 : Int32) then
      some (σ_1, (-1 : Int32))
    else
      ob (f_X12_between σ_1 62 v1 v2) fun r_8 =>
      if r_8 = (0 : Int32) then
        some (σ_1, (-1 : Int32))
      else
        ob (f_X12_snap σ_1) fun σ_12 =>
        ob (f_X12_adds σ_12 62 v1 v2 (-1 : Int32)) fun σ_14 =>
        ob (f_X12_between σ_14 62 v1 v2) fun r_15 =>
        some (σ_14, r_15)
def f_X12_weigh (σ : GM) (v1 : Int32) (v2 : Int32) : Option (GM × Int32) :=
  nm (wI σ 60 0 (0 : Int32)) fun σ_1 =>
  ob (f_X12_isThere σ_1 v1) fun r_2 =>
  if r_2 = (0 : Int32) then
    some (σ_1, (-1 : Int32))
  else
    ob (f_X12_isIn σ_1 v2 (1 : Int32) (9 : Int32)) fun r_5 =>
    if r_5 = (0 : Int32) then
      some (σ_1, (-1 : Int32))
    else
      nm ((3 : Int32) + v1) fun i_8 =>
      bnd i_8 159 <|
      if (σ_1.1 62 i_8.toNatClampNeg) = v2 then
        some (σ_1, (1 : Int32))
      else
        ob (f_X12_snap σ_1) fun σ_12 =>
        bnd ((3 : Int32) + v1) 159 <|
        nm (wI σ_12 62 ((3 : Int32) + v1).toNatClampNeg v2) fun σ_14 =>
        some (σ_14, (0 : Int32))
def f_X12_draw (σ : GM) (v1 : Int32) : Option (GM × Int32) :=
  nm (wI σ 60 29 (((σ.1 60 29) * (1103515245 : Int32)) + (12345 : Int32))) fun σ_1 =>
  nz v1 <|
  some (σ_1, ((jushr (σ_1.1 60 29) (8 : Int32)) - (jushr (σ_1.1 60 29) (8 : Int32)) / v1 * v1))
def f_X12_does_L157 (σ : GM) (v1 : Int32) (v3 : Int32) (v4 : Int32) : Option (GM × Int32) :=
  if v1 = (2 : Int32) then
    ob (f_X12_adds σ 62 v3 v4 (-1 : Int32)) fun σ_26 =>
    some (σ_26, ((1 : Int32) &&& 1))
  else
    ob (f_X12_adds σ 62 v3 v4 (1 : Int32)) fun σ_24 =>
    some (σ_24, ((1 : Int32) &&& 1))
def f_X12_does (σ : GM) : Option (GM × Int32) :=
  ob2 (f_X12_draw σ (8 : Int32)) fun σ_2 r_1 =>
  bnd (0 : Int32) 159 <|
  nm (σ_2.1 62 (0 : Int32).toNatClampNeg) fun v2_4 =>
  if v2_4 = (0 : Int32) then
    some (σ_2, ((0 : Int32) &&& 1))
  else
    ob2 (f_X12_draw σ_2 v2_4) fun σ_7 r_6 =>
    if r_1 = (0 : Int32) then
      ob (f_X12_isThere σ_7 r_6) fun r_41 =>
      if r_41 = (0 : Int32) then
        some (σ_7, ((0 : Int32) &&& 1))
      else
        ob (f_X12_leaves σ_7 62 r_6) fun σ_45 =>
        some (σ_45, ((1 : Int32) &&& 1))
    else
      if r_1 = (1 : Int32) then
        ob2 (f_X12_draw σ_7 (9 : Int32)) fun σ_31 r_30 =>
        nm (r_30 + (1 : Int32)) fun v4_32 =>
        ob (f_X12_isThere σ_31 r_6) fun r_33 =>
        if r_33 = (0 : Int32) then
          some (σ_31, ((0 : Int32) &&& 1))
        else
          nm ((3 : Int32) + r_6) fun i_36 =>
          bnd i_36 159 <|
          if (σ_31.1 62 i_36.toNatClampNeg) = v4_32 then
            some (σ_31, ((0 : Int32) &&& 1))
          else
            bnd ((3 : Int32) + r_6) 159 <|
            nm (wI σ_31 62 ((3 : Int32) + r_6).toNatClampNeg v4_32) fun σ_40 =>
            some (σ_40, ((1 : Int32) &&& 1))
      else
        ob2 (f_X12_draw σ_7 v2_4) fun σ_11 r_10 =>
        ob (f_X12_isThere σ_11 r_6) fun r_12 =>
        if r_12 = (0 : Int32) then
          some (σ_11, ((0 : Int32) &&& 1))
        else
          ob (f_X12_isThere σ_11 r_10) fun r_15 =>
          if r_15 = (0 : Int32) then
            some (σ_11, ((0 : Int32) &&& 1))
          else
            if r_1 = (2 : Int32) then
              ob (f_X12_between σ_11 62 r_6 r_10) fun r_27 =>
              if r_27 = (0 : Int32) then
                some (σ_11, ((0 : Int32) &&& 1))
              else
                f_X12_does_L157 σ_11 r_1 r_6 r_10
            else
              ob (f_X12_mayJoin σ_11 r_6 r_10) fun r_19 =>
              if r_19 = (0 : Int32) then
                some (σ_11, ((0 : Int32) &&& 1))
              else
                f_X12_does_L157 σ_11 r_1 r_6 r_10
def f_X12_drawn_L62 (σ : GM) (v3 : Int32) : Option (GM × Int32) :=
  if v3 ≤ (0 : Int32) then
    some (σ, v3)
  else
    ob (f_X12_stay σ) fun σ_11 =>
    some (σ_11, v3)
def f_X12_drawn_L40 (v1 : Int32) : Nat → GM → Int32 → Int32 → Option (GM × Int32)
  | 0, _, _, _ => none
  | k + 1, σ, v3, v4 =>
    if v1 ≤ v4 then
      f_X12_drawn_L62 σ v3
    else
      ob2 (f_X12_does σ) fun σ_13 r_12 =>
      if r_12 = (0 : Int32) then
        nm (v4 + (1 : Int32)) fun v4_15 =>
        f_X12_drawn_L40 v1 k σ_13 v3 v4_15
      else
        nm (v3 + (1 : Int32)) fun v3_16 =>
        nm (v4 + (1 : Int32)) fun v4_17 =>
        f_X12_drawn_L40 v1 k σ_13 v3_16 v4_17
def f_X12_drawn (σ : GM) (v1 : Int32) (v2 : Int32) : Option (GM × Int32) :=
  nm (wI σ 60 0 (0 : Int32)) fun σ_1 =>
  ob (f_X12_isIn σ_1 v1 (1 : Int32) (60 : Int32)) fun r_2 =>
  if r_2 = (0 : Int32) then
    some (σ_1, (-1 : Int32))
  else
    ob (f_X12_copy σ_1 62 66 (0 : Int32) (0 : Int32)) fun σ_6 =>
    nm (wI σ_6 60 29 v2) fun σ_7 =>
    f_X12_drawn_L40 v1 5000 σ_7 (0 : Int32) (0 : Int32)
def f_X12_undo (σ : GM) : Option (GM × Int32) :=
  nm (wI σ 60 0 (0 : Int32)) fun σ_1 =>
  if (σ_1.1 60 19) = (0 : Int32) then
    some (σ_1, (-1 : Int32))
  else
    nm (wI σ_1 60 19 ((σ_1.1 60 19) - (1 : Int32))) fun σ_3 =>
    ob (f_X12_copy σ_3 65 62 ((159 : Int32) * (σ_3.1 60 19)) (0 : Int32)) fun σ_5 =>
    some (σ_5, (σ_5.1 60 19))
def f_X12_image (σ : GM) (v1 : Int32) : Option (GM × Int32) :=
  nm (wI σ 60 0 (0 : Int32)) fun σ_1 =>
  ob (f_X12_isIn σ_1 v1 (0 : Int32) (1 : Int32)) fun r_2 =>
  if r_2 = (0 : Int32) then
    some (σ_1, ((0 : Int32) &&& 1))
  else
    ob (f_X12_copy σ_1 62 64 (0 : Int32) ((159 : Int32) * v1)) fun σ_6 =>
    bnd v1 2 <|
    nm (wI σ_6 69 v1.toNatClampNeg ((1 : Int32) &&& 1)) fun σ_8 =>
    some (σ_8, ((1 : Int32) &&& 1))
def f_X12_restore (σ : GM) (v1 : Int32) : Option (GM × Int32) :=
  nm (wI σ 60 0 (0 : Int32)) fun σ_1 =>
  ob (f_X12_isIn σ_1 v1 (0 : Int32) (1 : Int32)) fun r_2 =>
  if r_2 = (0 : Int32) then
    some (σ_1, ((0 : Int32) &&& 1))
  else
    bnd v1 2 <|
    if (σ_1.1 69 v1.toNatClampNeg) = (0 : Int32) then
      some (σ_1, ((0 : Int32) &&& 1))
    else
      ob (f_X12_copy σ_1 64 62 ((159 : Int32) * v1) (0 : Int32)) fun σ_8 =>
      nm (wI σ_8 60 19 (0 : Int32)) fun σ_9 =>
      some (σ_9, ((1 : Int32) &&& 1))
