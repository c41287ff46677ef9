/-! the four methods that throw or catch, as functions: 'none' within is a throw of NoSuchElementException -/
def qx {α β : Type} (r : Option α) (a : β) (k : α → β) : β := match r with
  | none => a
  | some v => k v
def f_X11_bound_L19 (σ : GM) (v1 : Int32) : Option (GM × Option Int64) :=
  ob (f_X11_discountNow σ) fun σ_3 =>
  if v1 = (0 : Int32) then
    ob (f_X0_boundAbove σ_3) fun r_7 =>
    some (σ_3, some r_7)
  else
    ob (f_X0_boundBelow σ_3) fun r_5 =>
    some (σ_3, some r_5)
def f_X11_bound (σ : GM) (v1 : Int32) : Option (GM × Option Int64) :=
  if v1 = (0 : Int32) then
    f_X11_bound_L19 σ v1
  else
    if v1 = (1 : Int32) then
      f_X11_bound_L19 σ v1
    else
      some (σ, none)
def f_X11_point (σ : GM) (v1 : Int32) (v2 : Int32) : Option (Option Int32) :=
  ob (f_X3_isThere σ 8 v1) fun r_1 =>
  if r_1 = (0 : Int32) then
    some none
  else
    if v2 < (0 : Int32) then
      some none
    else
      if v2 ≤ (3 : Int32) then
        if v2 = (0 : Int32) then
          ob (f_X3_weightOf σ 8 v1) fun r_6 =>
          some (some r_6)
        else
          if v2 = (1 : Int32) then
            ob (f_X3_endsIn σ 8 v1 (σ.1 8 3)) fun r_8 =>
            some (some r_8)
          else
            if v2 = (2 : Int32) then
              ob (f_X3_linesOf σ 8 v1 v1) fun r_10 =>
              some (some r_10)
            else
              ob (f_X3_besides σ 8 v1 (1 : Int32)) fun r_12 =>
              some (some r_12)
      else
        some none

def f_L_point (σ : GM) (v1 v2 : Int32) : Option (GM × Int32) :=
  ob (f_X11_point σ v1 v2) fun r => qx r (some (σ, (1 : Int32))) fun x => some (wL σ 75 0 x.toInt64, (0 : Int32))
def f_L_bound (σ : GM) (v1 : Int32) : Option (GM × Int32) :=
  ob2 (f_X11_bound σ v1) fun σ1 r => qx r (some (σ1, (1 : Int32))) fun x => some (wL σ1 75 0 x, (0 : Int32))
