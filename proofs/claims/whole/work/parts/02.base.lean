/-! BASE: the memory (ints, longs, by cell and place), the world of the fixed cells, one row a kind of instruction -/
abbrev GM : Type := (Nat → Nat → Int32) × (Nat → Nat → Int64)
abbrev GX : Type := va_G × Nat × ClassId × ClassId × ClassId × ClassId
def wI (σ : GM) (n k : Nat) (v : Int32) : GM := (fun j i => if j = n ∧ i = k then v else σ.1 j i, σ.2)
def wL (σ : GM) (n k : Nat) (v : Int64) : GM := (σ.1, fun j i => if j = n ∧ i = k then v else σ.2 j i)
def ob {α β : Type} (x : Option α) (k : α → Option β) : Option β := match x with
  | none => none
  | some a => k a
def ob2 {α β γ : Type} (x : Option (α × β)) (k : α → β → Option γ) : Option γ := match x with
  | none => none
  | some a => k a.1 a.2
def nm {α β : Type} (x : α) (k : α → β) : β := k x
def bnd {β : Type} (i : Int32) (z : Nat) (k : Option β) : Option β := if i < 0 ∨ z ≤ i.toNatClampNeg then none else k
def nz {β : Type} (i : Int32) (k : Option β) : Option β := if i = 0 then none else k
def nzl {β : Type} (i : Int64) (k : Option β) : Option β := if i = 0 then none else k
theorem ob_some {α β : Type} {x : Option α} {k : α → Option β} {r : β} (h : ob x k = some r) : ∃ a, x = some a ∧ k a = some r := by
  cases x with
  | none => cases h
  | some a => exact ⟨a, rfl, h⟩
theorem ob2_some {α β γ : Type} {x : Option (α × β)} {k : α → β → Option γ} {r : γ} (h : ob2 x k = some r) : ∃ a b, x = some (a, b) ∧ k a b = some r := by
  cases x with
  | none => cases h
  | some a => exact ⟨a.1, a.2, rfl, h⟩
theorem nm_some {α β : Type} {x : α} {k : α → β} {r : β} (h : nm x k = r) : ∃ v, v = x ∧ k v = r := ⟨x, rfl, h⟩
theorem bnd_some {β : Type} {i : Int32} {z : Nat} {k : Option β} {r : β} (h : bnd i z k = some r) : ¬ (i < 0 ∨ z ≤ i.toNatClampNeg) ∧ k = some r := by
  unfold bnd at h
  by_cases c : i < 0 ∨ z ≤ i.toNatClampNeg
  · rw [if_pos c] at h; cases h
  · rw [if_neg c] at h; exact ⟨c, h⟩
theorem nz_some {β : Type} {i : Int32} {k : Option β} {r : β} (h : nz i k = some r) : ¬ i = 0 ∧ k = some r := by
  unfold nz at h
  by_cases c : i = 0
  · rw [if_pos c] at h; cases h
  · rw [if_neg c] at h; exact ⟨c, h⟩
theorem nzl_some {β : Type} {i : Int64} {k : Option β} {r : β} (h : nzl i k = some r) : ¬ i = 0 ∧ k = some r := by
  unfold nzl at h
  by_cases c : i = 0
  · rw [if_pos c] at h; cases h
  · rw [if_neg c] at h; exact ⟨c, h⟩
theorem nm_at {α β : Type} {x y : α} {k : α → β} {r : β} (e : y = x) (h : nm x k = r) : k y = r := by subst e; exact h
theorem ite_pos {β : Type} {c : Prop} [Decidable c] {a b r : β} (hc : c) (h : (if c then a else b) = r) : a = r := by rw [if_pos hc] at h; exact h
theorem ite_neg {β : Type} {c : Prop} [Decidable c] {a b r : β} (hc : ¬ c) (h : (if c then a else b) = r) : b = r := by rw [if_neg hc] at h; exact h
def qm {β : Type} (x : Option Nat) (a : β) (k : Nat → β) : β := match x with
  | none => a
  | some v => k v
theorem qm_none {β : Type} {a : β} {k : Nat → β} {r : β} (h : qm none a k = r) : a = r := h
theorem qm_some {β : Type} {v : Nat} {a : β} {k : Nat → β} {r : β} (h : qm (some v) a k = r) : k v = r := h
-- the cells, in the order in which they are made: kind (0 to 10: objects by vwCl; 11 ints, 12 longs, 13 booleans, 14 nets), length
def shT : List (Nat × Nat) := [(9, 0), (8, 0), (11, 640), (6, 0), (3, 0), (11, 12), (11, 144), (12, 12), (3, 0), (11, 12), (11, 144), (5, 0), (14, 9), (3, 0), (11, 12), (11, 144), (3, 0), (11, 12), (11, 144), (3, 0), (11, 12), (11, 144), (3, 0), (11, 12), (11, 144), (3, 0), (11, 12), (11, 144), (3, 0), (11, 12), (11, 144), (3, 0), (11, 12), (11, 144), (3, 0), (11, 12), (11, 144), (3, 0), (11, 12), (11, 144), (2, 0), (3, 0), (11, 12), (11, 144), (2, 0), (3, 0), (11, 12), (11, 144), (1, 0), (7, 0), (13, 4096), (11, 12), (11, 12), (11, 924), (11, 12), (4, 0), (11, 4096), (0, 0), (12, 12), (11, 12), (10, 0), (11, 640), (11, 159), (11, 159), (11, 318), (11, 1272), (11, 159), (11, 159), (12, 12), (13, 2), (13, 4096), (11, 4096), (12, 12), (12, 12), (11, 12), (12, 1)]
def sh (n : Nat) : Nat × Nat := shT.getD n (99, 0)
def chkS {β : Type} (v : Nat) (q : Nat × Nat) (k : Option β) : Option β := if sh v = q then k else none
theorem chkS_some {β : Type} {v : Nat} {q : Nat × Nat} {k : Option β} {r : β} (h : chkS v q k = some r) : sh v = q ∧ k = some r := by
  unfold chkS at h
  by_cases c : sh v = q
  · rw [if_pos c] at h; exact ⟨c, h⟩
  · rw [if_neg c] at h; cases h
theorem shT_len : shT.length = 76 := by decide +kernel
theorem sh_lt {n : Nat} (h : (sh n).1 < 99) : n < 76 := by
  by_cases c : n < 76
  · exact c
  · have h1 : sh n = (99, 0) := by
      unfold sh
      rw [List.getD_eq_getElem?_getD, List.getElem?_eq_none (by rw [shT_len]; omega)]
      rfl
    rw [h1] at h
    exact absurd h (by decide)
/-- what an object holds: its fields in the order of the slots -/
def gfs (b n : Nat) (r : Nat → Int32) (r2 : Nat → Int64) : Nat → List Value
  | 0 => [.ref (b + (n + 1)), .ref (b + (n + 2)), .int (r 2), .int (r 3), .int (r 4), .long (r2 5), .long (r2 6)]
  | 1 => [.int (r 0)]
  | 2 => [.ref (b + (n + 1)), .int (r 1)]
  | 3 => [.ref (b + (n + 1)), .ref (b + (n + 2)), .int (r 2), .int (r 3), .int (r 4), .int (r 5)]
  | 4 => [.ref (b + (n + 1))]
  | 5 => [.ref (b + (n + 1)), .int (r 1), .int (r 2)]
  | 6 => [.ref (b + (n + 1)), .ref (b + (n + 4)), .int (r 2), .int (r 3), .int (r 4), .int (r 5), .int (r 6), .long (r2 7), .int (r 8)]
  | 7 => [.ref (b + (n + 1)), .ref (b + (n + 2)), .ref (b + (n + 3)), .ref (b + (n + 4)), .ref (b + (n + 5)), .int (r 5)]
  | 8 => [.ref (b + (n + 1)), .int (r 1)]
  | 9 => [.ref (b + (n + 1)), .ref (b + (n + 3)), .ref (b + (n + 8)), .ref (b + (n + 11)), .ref (b + (n + 40)), .ref (b + (n + 44)), .ref (b + (n + 48)), .ref (b + (n + 49)), .ref (b + (n + 55)), .ref (b + (n + 57)), .int (r 10), .int (r 11), .int (r 12), .int (r 13)]
  | 10 => [.int (r 0), .ref (b + (n + 1)), .int (r 2), .int (r 3), .int (r 4), .int (r 5), .int (r 6), .int (r 7), .int (r 8), .int (r 9), .long (r2 10), .ref (b + (n + 2)), .ref (b + (n + 3)), .ref (b + (n + 4)), .ref (b + (n + 5)), .ref (b + (n + 6)), .ref (b + (n + 7)), .ref (b + (n + 8)), .ref (b + (n + 9)), .int (r 19), .ref (b + (n + 10)), .long (r2 21), .ref (b + (n + 11)), .ref (b + (n + 12)), .ref (b + (n + 13)), .ref (b + (n + 14)), .long (r2 26), .long (r2 27), .int (r 28), .int (r 29)]
  | _ => []
def gcell (X : GX) (n : Nat) (r : Nat → Int32) (r2 : Nat → Int64) : va_E :=
  if (sh n).1 = 11 then .inl (X.2.2.1, (sh n).2, .inl r)
  else if (sh n).1 = 12 then .inl (X.2.2.2.1, (sh n).2, .inr (.inl r2))
  else if (sh n).1 = 13 then .inl (X.2.2.2.2.1, (sh n).2, .inl r)
  else if (sh n).1 = 14 then .inl (X.2.2.2.2.2, (sh n).2, .inr (.inr (.inr (.inr (fun i => some (X.2.1 + (13 + 3 * i)))))))
  else .inr ((sh n).1, gfs X.2.1 n r r2 (sh n).1)
def wd (X : GX) (σ : GM) : va_W := (List.range 76).map (fun n => (X.2.1 + n, gcell X n (σ.1 n) (σ.2 n)))
theorem wd_at (X : GX) (σ : GM) {n : Nat} (h : n < 76) : (wd X σ)[n]? = some (X.2.1 + n, gcell X n (σ.1 n) (σ.2 n)) := by
  unfold wd
  rw [List.getElem?_map, List.getElem?_range h]
  rfl
theorem wd_len (X : GX) (σ : GM) : (wd X σ).length = 76 := by simp [wd]
theorem wd_D (X : GX) (σ : GM) : va_D (fun q : Nat => X.2.1 ≤ q) (wd X σ) := by
  have key : ∀ (k : Nat) (q : Nat × va_E), (wd X σ)[k]? = some q → q.1 = X.2.1 + k := by
    intro k q h
    have hk : k < 76 := by rw [← wd_len X σ]; exact (List.getElem?_eq_some_iff.mp h).1
    rw [wd_at X σ hk] at h
    cases h
    rfl
  refine ⟨fun i j p q hi hj e => ?_, fun k q hk => ?_⟩
  · have h1 := key i p hi
    have h2 := key j q hj
    omega
  · have h1 := key k q hk
    show X.2.1 ≤ q.1
    omega
theorem wd_set (X : GX) (σ σ' : GM) {n : Nat} {e : va_E} (hn : n < 76) (he : gcell X n (σ'.1 n) (σ'.2 n) = e) (ho : ∀ j, j ≠ n → σ'.1 j = σ.1 j ∧ σ'.2 j = σ.2 j) : (wd X σ).set n (X.2.1 + n, e) = wd X σ' := by
  apply List.ext_getElem?
  intro k
  by_cases hk : k = n
  · subst hk
    rw [List.getElem?_set_self (by rw [wd_len]; exact hn), wd_at X σ' hn, he]
  · rw [List.getElem?_set_ne (Ne.symm hk)]
    by_cases h7 : k < 76
    · rw [wd_at X σ h7, wd_at X σ' h7, (ho k hk).1, (ho k hk).2]
    · rw [List.getElem?_eq_none (by rw [wd_len]; omega), List.getElem?_eq_none (by rw [wd_len]; omega)]
abbrev tysX (X : GX) : List (ClassId × FieldType) := [(X.2.2.1, .int), (X.2.2.2.1, .long), (X.2.2.2.2.1, .boolean), (X.2.2.2.2.2, .object "RingCutters$Net")]
abbrev gK (X : GX) (s : State) : Prop := va_K X.1 vwCl (tysX X) s
abbrev gA (X : GX) : Nat → Prop := fun q => X.2.1 ≤ q
/-- the world holds the memory -/
abbrev gP (X : GX) (σ : GM) (H : Heap) : Prop := va_P X.1 vwCl (wd X σ) H
abbrev gI (X : GX) (σ : GM) (s : State) (H : Heap) (locs : List Loc) : Prop := gP X σ H ∧ va_S (gA X) s.heap H locs
def GW : List Cond := lw_tbl.filter goodWord
theorem GW_in {w : Cond} (h : w ∈ GW) : w ∈ lw_tbl := (List.mem_filter.mp h).1
/-- a method's fixed part -/
abbrev gC (X : GX) (p : Program) (m : MethodId) (meth : Method) (c : Code) (cc : ByteArray) (nL : Nat) (s : State) (args : Array Value) (own : String) (rt : Option FieldType) : Prop :=
  CallFix p m c cc nL s args GW own ∧ gK X s ∧ meth.sig.returnType = rt ∧ meth.locks = false
abbrev gPc (X : GX) (σ : GM) (av : List Value) : Array Value → State → Prop := va_Pc av (fun U => gP X σ U.heap ∧ gK X U)
abbrev gB (X : GX) (u : GM) (t : State) : Prop := gP X u t.heap ∧ gK X t
abbrev gQi (X : GX) (σ' : GM) (x : Int32) : Array Value → State → Outcome → State → Prop := va_Qi (fun (r : Int32) (u : GM) => r = x ∧ u = σ') (gB X) (gA X)
abbrev gQl (X : GX) (σ' : GM) (x : Int64) : Array Value → State → Outcome → State → Prop := va_Ql (fun (r : Int64) (u : GM) => r = x ∧ u = σ') (gB X) (gA X)
abbrev gQv (X : GX) (σ' : GM) : Array Value → State → Outcome → State → Prop := va_Qv (fun (u : GM) => u = σ') (gB X) (gA X)
abbrev gQq (X : GX) (σ' : GM) (x : Option Nat) : Array Value → State → Outcome → State → Prop := va_Qq (fun (r : Option Nat) (u : GM) => r = x.map (fun k => X.2.1 + k) ∧ u = σ') (gB X) (gA X)
abbrev gMet (l : Launch) (y : MethodName) (cc : ByteArray) (nL : Nat) (rt : Option FieldType) (rm : Room) (X : GX) (σ : GM) (av : List Value) (Qc : Array Value → State → Outcome → State → Prop) : Prop :=
  Met l y (Cond.code y cc nL rt :: GW) rm (gPc X σ av) Qc 0 0 (gA X)
theorem gPc_blind (X : GX) (σ : GM) (av : List Value) : FrameBlind (gPc X σ av) := fun a U g mk q => by
  obtain ⟨q1, q2, q3⟩ := q
  exact ⟨q1, q2, va_K.moved (u := U) (U := U.calling g mk a) (Vm.Alike.refl U.vm) q3⟩
/-- what the tables say of a callee -/
abbrev mfV (C : String) (y : MethodName) (cc : ByteArray) (nL : Nat) (rt : Option FieldType) (n : Nat) : Prop :=
  (Cond.code y cc nL rt ∈ GW ∧ Cond.instanceMethod y ∈ GW ∧ Cond.selects C y y ∈ GW ∧ Cond.initialized y.cls ∈ GW) ∧ y.cls = C ∧ y.cls ≠ "java/lang/invoke/MethodHandle" ∧ y.cls ≠ "java/lang/invoke/VarHandle" ∧ (parseMethodDescriptor y.desc).map (fun d => d.parameters.length) = some n
abbrev mfS (y : MethodName) (cc : ByteArray) (nL : Nat) (rt : Option FieldType) (n : Nat) : Prop :=
  (Cond.code y cc nL rt ∈ GW ∧ Cond.static y ∈ GW ∧ Cond.initialized y.cls ∈ GW) ∧ y.cls ≠ "java/lang/invoke/MethodHandle" ∧ y.cls ≠ "java/lang/invoke/VarHandle" ∧ (parseMethodDescriptor y.desc).map (fun d => d.parameters.length) = some n
theorem good_GW {w : Cond} (h : w ∈ GW) : w ∈ GW ∧ ((w.onTables && w.keeps) = true ∨ ∃ ty, w = .arrayClass ty) := ⟨h, good_of_word (List.mem_filter.mp h).2⟩
theorem good_codeGW {y : MethodName} {cc : ByteArray} {nL : Nat} {rt : Option FieldType} (hc : Cond.code y cc nL rt ∈ GW) : GoodIn GW (Cond.code y cc nL rt :: GW) := fun w h => (List.mem_cons.mp h).elim (fun e => by rw [e]; exact good_GW hc) good_GW
section GROWS
variable {p : Program} {l : Launch} {e : Env} {R : Room} {s : State} {m : MethodId} {args : Array Value} {below : List Frame} {meth : Method} {c : Code} {H : Heap} {locs : List Loc} {cells slots : Nat} {Q : State → Prop}
variable {cc : ByteArray} {pc nL : Nat} {ls : Array Slot} {rest : List Value} {X : GX} {σ : GM} {own : String} {rt : Option FieldType}
theorem g_cwV {C : String} {y : MethodName} {bytes : ByteArray} {maxL n index : Nat} {ret : Option FieldType} {rm : Room} (Γ : gC X p m meth c cc nL s args own rt) (hm : mfV C y bytes maxL ret n) (hl : Cond.methodLink own index y ∈ GW) (hc0 : rm.cells = 0) (hs0 : rm.slots = 0) (hR : rm.frames + 1 ≤ R.frames ∧ 8 + (maxL + 11) + rm.locals ≤ R.locals) :
    CallW R s args own C index y bytes maxL ret (Cond.code y bytes maxL ret :: GW) rm 0 0 n := by
  obtain ⟨⟨h1, h2, h3, h4⟩, h5, h6⟩ := hm
  have hts := Γ.1.2.2.2.2
  exact ⟨callB_of n hts (good_codeGW h1) rfl hc0 hs0 (hts _ h4) (hts _ hl) h6 hR, hts _ h2, hts _ h3⟩
theorem g_cwS {y : MethodName} {bytes : ByteArray} {maxL n index : Nat} {ret : Option FieldType} {rm : Room} (Γ : gC X p m meth c cc nL s args own rt) (hm : mfS y bytes maxL ret n) (hl : Cond.methodLink own index y ∈ GW) (hc0 : rm.cells = 0) (hs0 : rm.slots = 0) (hR : rm.frames + 1 ≤ R.frames ∧ 8 + (maxL + 11) + rm.locals ≤ R.locals) :
    CallB R s args own index y bytes maxL ret (Cond.code y bytes maxL ret :: GW) rm 0 0 n ∧ (Cond.static y).before args s = true := by
  obtain ⟨⟨h1, h2, h4⟩, h6⟩ := hm
  have hts := Γ.1.2.2.2.2
  exact ⟨callB_of n hts (good_codeGW h1) rfl hc0 hs0 (hts _ h4) (hts _ hl) h6 hR, hts _ h2⟩
/-- the receiver is there -/
theorem g_recv (hK : gK X s) (hP : gP X σ H) {n ci : Nat} {fs : List Value} {q : vw_C} (hn : n < 76) (hcell : gcell X n (σ.1 n) (σ.2 n) = .inr (ci, fs)) (hc : vwCl[ci]? = some q) : ∃ cell : Cell, H[X.2.1 + n]? = some cell ∧ cell.vm.isStatics = false ∧ s.vm.findClass q.1 = some cell.cls :=
  va_recv hK hP (q0 := n) hc (by rw [wd_at X σ hn, hcell])
/-- a virtual call's run -/
theorem g_runV {C : String} {y : MethodName} {bytes : ByteArray} {maxL n index k : Nat} {ret : Option FieldType} {rm : Room} {As : List Value} {st : List Value} {Qc : Array Value → State → Outcome → State → Prop} (Γ : gC X p m meth c cc nL s args own rt) (hI : gI X σ s H locs) (hM : gMet l y bytes maxL ret rm X σ (.ref (X.2.1 + k) :: As) Qc) (hm : mfV C y bytes maxL ret n) (hr : ∃ cell : Cell, H[X.2.1 + k]? = some cell ∧ cell.vm.isStatics = false ∧ s.vm.findClass C = some cell.cls) (hl : Cond.methodLink own index y ∈ GW) (hc0 : rm.cells = 0) (hs0 : rm.slots = 0) (hR : rm.frames + 1 ≤ R.frames ∧ 8 + (maxL + 11) + rm.locals ≤ R.locals)
    (hn : As.length = n) (hsize : ls.size = nL) (hstack : st = As.reverse ++ .ref (X.2.1 + k) :: rest) (hW : (rest.map fun v => v.category).sum ≤ 8) (hdg : decode cc pc = .ok (.invokevirtual index, 3)) (hf : cells ≤ R.cells ∧ slots ≤ R.slots) :
    va_Run p l e R s m args below meth c H locs cells slots 0 0 (F0 m pc ls st) rest (Qc (Value.ref (X.2.1 + k) :: As).toArray) (gA X) :=
  va_runV (As := As) (rest := rest) Γ.1 hM (g_cwV Γ hm hl hc0 hs0 hR) ⟨gPc_blind X σ _, hr, fun U hU hW9 => ⟨rfl, by rw [hU]; exact hI.1, va_K.moved hW9.alike Γ.2.1⟩⟩ rfl hn hsize hstack (lv_room hW) hdg hf
theorem g_runS {y : MethodName} {bytes : ByteArray} {maxL n index : Nat} {ret : Option FieldType} {rm : Room} {As : List Value} {st : List Value} {Qc : Array Value → State → Outcome → State → Prop} (Γ : gC X p m meth c cc nL s args own rt) (hI : gI X σ s H locs) (hM : gMet l y bytes maxL ret rm X σ As Qc) (hm : mfS y bytes maxL ret n) (hl : Cond.methodLink own index y ∈ GW) (hc0 : rm.cells = 0) (hs0 : rm.slots = 0) (hR : rm.frames + 1 ≤ R.frames ∧ 8 + (maxL + 11) + rm.locals ≤ R.locals)
    (hn : As.length = n) (hsize : ls.size = nL) (hstack : st = As.reverse ++ rest) (hW : (rest.map fun v => v.category).sum ≤ 8) (hdg : decode cc pc = .ok (.invokestatic index, 3)) (hf : cells ≤ R.cells ∧ slots ≤ R.slots) :
    va_Run p l e R s m args below meth c H locs cells slots 0 0 (F0 m pc ls st) rest (Qc As.toArray) (gA X) :=
  va_runS (As := As) (rest := rest) Γ.1 hM (g_cwS Γ hm hl hc0 hs0 hR) ⟨gPc_blind X σ _, fun U hU hW9 => ⟨rfl, by rw [hU]; exact hI.1, va_K.moved hW9.alike Γ.2.1⟩⟩ rfl hn hsize hstack (lv_room hW) hdg hf
theorem g_hA {A : Nat → Prop} : ∀ q, q < H.size → A q → A q := fun _ _ h => h
/-- behind a call of each kind -/
theorem g_ci {a : Array Value} {σ' : GM} {x : Int32} {st : List Value} (Γ : gC X p m meth c cc nL s args own rt) (hI : gI X σ s H locs) (hr : va_Run p l e R s m args below meth c H locs cells slots 0 0 (F0 m pc ls st) rest (gQi X σ' x a) (gA X))
    (kk : ∀ (H1 : Heap) (locs1 : List Loc), gI X σ' s H1 locs1 → W p l e R s m args below meth c H1 locs1 cells slots Q (F0 m (pc + 3) ls (.int x :: rest))) : W p l e R s m args below meth c H locs cells slots Q (F0 m pc ls st) := by
  refine va_calli hr hI.2 (fun _ _ h => h) (fun _ h => h) (fun r u t H1 locs1 ht hvm hw hB _ _ hS => ?_)
  obtain ⟨rfl, rfl⟩ := hw
  exact kk H1 locs1 ⟨by rw [← ht]; exact hB.1, hS⟩
theorem g_cl {a : Array Value} {σ' : GM} {x : Int64} {st : List Value} (Γ : gC X p m meth c cc nL s args own rt) (hI : gI X σ s H locs) (hr : va_Run p l e R s m args below meth c H locs cells slots 0 0 (F0 m pc ls st) rest (gQl X σ' x a) (gA X))
    (kk : ∀ (H1 : Heap) (locs1 : List Loc), gI X σ' s H1 locs1 → W p l e R s m args below meth c H1 locs1 cells slots Q (F0 m (pc + 3) ls (.long x :: rest))) : W p l e R s m args below meth c H locs cells slots Q (F0 m pc ls st) := by
  refine va_calll hr hI.2 (fun _ _ h => h) (fun _ h => h) (fun r u t H1 locs1 ht hvm hw hB _ _ hS => ?_)
  obtain ⟨rfl, rfl⟩ := hw
  exact kk H1 locs1 ⟨by rw [← ht]; exact hB.1, hS⟩
theorem g_cv {a : Array Value} {σ' : GM} {st : List Value} (Γ : gC X p m meth c cc nL s args own rt) (hI : gI X σ s H locs) (hr : va_Run p l e R s m args below meth c H locs cells slots 0 0 (F0 m pc ls st) rest (gQv X σ' a) (gA X))
    (kk : ∀ (H1 : Heap) (locs1 : List Loc), gI X σ' s H1 locs1 → W p l e R s m args below meth c H1 locs1 cells slots Q (F0 m (pc + 3) ls rest)) : W p l e R s m args below meth c H locs cells slots Q (F0 m pc ls st) := by
  refine va_callv hr hI.2 (fun _ _ h => h) (fun _ h => h) (fun u t H1 locs1 ht hvm hw hB _ _ hS => ?_)
  obtain rfl := hw
  exact kk H1 locs1 ⟨by rw [← ht]; exact hB.1, hS⟩
theorem g_cq {a : Array Value} {σ' : GM} {x : Option Nat} {st : List Value} (Γ : gC X p m meth c cc nL s args own rt) (hI : gI X σ s H locs) (hr : va_Run p l e R s m args below meth c H locs cells slots 0 0 (F0 m pc ls st) rest (gQq X σ' x a) (gA X))
    (kk : ∀ (H1 : Heap) (locs1 : List Loc), gI X σ' s H1 locs1 → W p l e R s m args below meth c H1 locs1 cells slots Q (F0 m (pc + 3) ls (va_rf (x.map (fun k => X.2.1 + k)) :: rest))) : W p l e R s m args below meth c H locs cells slots Q (F0 m pc ls st) := by
  refine va_callq hr hI.2 (fun _ _ h => h) (fun _ h => h) (fun r u t H1 locs1 ht hvm hw hB _ _ hS => ?_)
  obtain ⟨rfl, rfl⟩ := hw
  exact kk H1 locs1 ⟨by rw [← ht]; exact hB.1, hS⟩
theorem g_cr {a : Array Value} {σ' : GM} {n : Nat} {st : List Value} (Γ : gC X p m meth c cc nL s args own rt) (hI : gI X σ s H locs) (hr : va_Run p l e R s m args below meth c H locs cells slots 0 0 (F0 m pc ls st) rest (gQq X σ' (some n) a) (gA X))
    (kk : ∀ (H1 : Heap) (locs1 : List Loc), gI X σ' s H1 locs1 → W p l e R s m args below meth c H1 locs1 cells slots Q (F0 m (pc + 3) ls (.ref (X.2.1 + n) :: rest))) : W p l e R s m args below meth c H locs cells slots Q (F0 m pc ls st) := g_cq Γ hI hr kk
theorem g_cqq {a : Array Value} {σ' : GM} {x : Option Nat} {st : List Value} (Γ : gC X p m meth c cc nL s args own rt) (hI : gI X σ s H locs) (hr : va_Run p l e R s m args below meth c H locs cells slots 0 0 (F0 m pc ls st) rest (gQq X σ' x a) (gA X))
    (k0 : ∀ (H1 : Heap) (locs1 : List Loc), gI X σ' s H1 locs1 → x = none → W p l e R s m args below meth c H1 locs1 cells slots Q (F0 m (pc + 3) ls (.null :: rest)))
    (k1 : ∀ (v : Nat) (H1 : Heap) (locs1 : List Loc), gI X σ' s H1 locs1 → x = some v → W p l e R s m args below meth c H1 locs1 cells slots Q (F0 m (pc + 3) ls (.ref (X.2.1 + v) :: rest))) : W p l e R s m args below meth c H locs cells slots Q (F0 m pc ls st) := by
  refine g_cq Γ hI hr (fun H1 locs1 h1 => ?_)
  cases x with
  | none => exact k0 H1 locs1 h1 rfl
  | some v => exact k1 v H1 locs1 h1 rfl
theorem g_get (Γ : gC X p m meth c cc nL s args own rt) (hI : gI X σ s H locs) (n : Nat) (hn : n < 76) {ci : Nat} {fs : List Value} (hcell : gcell X n (σ.1 n) (σ.2 n) = .inr (ci, fs)) {C : String} {T : u_T} {N : Nat} (hc : vwCl[ci]? = some (C, T, N)) (hin : ∀ w ∈ u_ws C T N, w ∈ GW) (k : Nat) (hk : k < N) {index : Nat} (hlink : Cond.fieldLink own index (T k).1 (T k).2.1 (T k).2.2.1 ∈ GW) {v : Value} (hv : fs[k]? = some v) (hdg : decode cc pc = .ok (.getfield index, 3))
    (kk : W p l e R s m args below meth c H locs cells slots Q (F0 m (pc + 3) ls (v :: rest))) : W p l e R s m args below meth c H locs cells slots Q (F0 m pc ls (.ref (X.2.1 + n) :: rest)) :=
  va_get Γ.1.1 Γ.1.2.1 Γ.1.2.2.2.2 hin Γ.1.2.2.2.1 Γ.2.1 hI.1 n (by rw [wd_at X σ hn, hcell]) hc k hk (Γ.1.2.2.2.2 _ hlink) (fun _ h => h) hv hdg kk
theorem g_put (Γ : gC X p m meth c cc nL s args own rt) (hI : gI X σ s H locs) (σ' : GM) (n : Nat) (hn : n < 76) {ci : Nat} {fs : List Value} (hcell : gcell X n (σ.1 n) (σ.2 n) = .inr (ci, fs)) {C : String} {T : u_T} {N : Nat} (ty0 : Nat → FieldType) (hty : ∀ k, k < N → parseFieldDescriptor (T k).2.2.1 = some (ty0 k)) (hnm : ∀ a, a < N → ∀ b, b < N → a ≠ b → (T a).2.1 ≠ (T b).2.1) (hc : vwCl[ci]? = some (C, T, N)) (hin : ∀ w ∈ u_ws C T N, w ∈ GW) (k : Nat) (hk : k < N) {index : Nat} (hlink : Cond.fieldLink own index (T k).1 (T k).2.1 (T k).2.2.1 ∈ GW) (hfin : (T k).2.2.2 = false) {ty : FieldType} {v : Value} (hd : parseFieldDescriptor (T k).2.2.1 = some ty) (hnw : narrow ty v = v) (hfit : fits ty v = true) (hl : k < fs.length)
    (hset : gcell X n (σ'.1 n) (σ'.2 n) = .inr (ci, fs.set k v)) (ho : ∀ j, j ≠ n → σ'.1 j = σ.1 j ∧ σ'.2 j = σ.2 j) (hdg : decode cc pc = .ok (.putfield index, 3))
    (kk : ∀ (H1 : Heap) (locs1 : List Loc), gI X σ' s H1 locs1 → W p l e R s m args below meth c H1 locs1 cells slots Q (F0 m (pc + 3) ls rest)) : W p l e R s m args below meth c H locs cells slots Q (F0 m pc ls (v :: .ref (X.2.1 + n) :: rest)) := by
  refine va_put Γ.1.1 Γ.1.2.1 Γ.1.2.2.2.2 hin ty0 hty hnm Γ.1.2.2.2.1 Γ.2.1 hI.1 (wd_D X σ) hI.2 n (by rw [wd_at X σ hn, hcell]) hc k hk (Γ.1.2.2.2.2 _ hlink) (fun _ h => h) hfin hd hnw hfit hl hdg (fun H1 locs1 hP hD hS => ?_)
  rw [wd_set X σ σ' hn hset ho] at hP
  exact kk H1 locs1 ⟨hP, hS⟩
theorem gcell_I {n z : Nat} {r : Nat → Int32} {r2 : Nat → Int64} (h : sh n = (11, z)) : gcell X n r r2 = .inl (X.2.2.1, z, .inl r) := by unfold gcell; rw [h]; rfl
theorem gcell_L {n z : Nat} {r : Nat → Int32} {r2 : Nat → Int64} (h : sh n = (12, z)) : gcell X n r r2 = .inl (X.2.2.2.1, z, .inr (.inl r2)) := by unfold gcell; rw [h]; rfl
theorem gcell_Z {n z : Nat} {r : Nat → Int32} {r2 : Nat → Int64} (h : sh n = (13, z)) : gcell X n r r2 = .inl (X.2.2.2.2.1, z, .inl r) := by unfold gcell; rw [h]; rfl
theorem gcell_N {n z : Nat} {r : Nat → Int32} {r2 : Nat → Int64} (h : sh n = (14, z)) : gcell X n r r2 = .inl (X.2.2.2.2.2, z, .inr (.inr (.inr (.inr (fun i => some (X.2.1 + (13 + 3 * i))))))) := by unfold gcell; rw [h]; rfl
theorem sh_lt' {n k z : Nat} (h : sh n = (k, z)) (hk : k < 99) : n < 76 := sh_lt (by rw [h]; exact hk)
theorem g_iald (Γ : gC X p m meth c cc nL s args own rt) (hI : gI X σ s H locs) {n z : Nat} (hn : sh n = (11, z)) {i : Int32} (hin : ¬ (i < 0 ∨ z ≤ i.toNatClampNeg)) (hdg : decode cc pc = .ok (.iaload, 1))
    (kk : W p l e R s m args below meth c H locs cells slots Q (F0 m (pc + 1) ls (.int (σ.1 n i.toNatClampNeg) :: rest))) : W p l e R s m args below meth c H locs cells slots Q (F0 m pc ls (.int i :: .ref (X.2.1 + n) :: rest)) :=
  va_iald Γ.1.1 Γ.1.2.1 Γ.2.1 hI.1 n 0 (by rw [wd_at X σ (sh_lt' hn (by decide)), gcell_I hn]) rfl hin hdg kk
theorem g_zald (Γ : gC X p m meth c cc nL s args own rt) (hI : gI X σ s H locs) {n z : Nat} (hn : sh n = (13, z)) {i : Int32} (hin : ¬ (i < 0 ∨ z ≤ i.toNatClampNeg)) (hdg : decode cc pc = .ok (.baload, 1))
    (kk : W p l e R s m args below meth c H locs cells slots Q (F0 m (pc + 1) ls (.int (σ.1 n i.toNatClampNeg) :: rest))) : W p l e R s m args below meth c H locs cells slots Q (F0 m pc ls (.int i :: .ref (X.2.1 + n) :: rest)) :=
  va_zald Γ.1.1 Γ.1.2.1 Γ.2.1 hI.1 n 2 (by rw [wd_at X σ (sh_lt' hn (by decide)), gcell_Z hn]) rfl hin hdg kk
theorem g_lald (Γ : gC X p m meth c cc nL s args own rt) (hI : gI X σ s H locs) {n z : Nat} (hn : sh n = (12, z)) {i : Int32} (hin : ¬ (i < 0 ∨ z ≤ i.toNatClampNeg)) (hdg : decode cc pc = .ok (.laload, 1))
    (kk : W p l e R s m args below meth c H locs cells slots Q (F0 m (pc + 1) ls (.long (σ.2 n i.toNatClampNeg) :: rest))) : W p l e R s m args below meth c H locs cells slots Q (F0 m pc ls (.int i :: .ref (X.2.1 + n) :: rest)) :=
  va_lald Γ.1.1 Γ.1.2.1 Γ.2.1 hI.1 n 1 (by rw [wd_at X σ (sh_lt' hn (by decide)), gcell_L hn]) rfl hin hdg kk
theorem g_aald (Γ : gC X p m meth c cc nL s args own rt) (hI : gI X σ s H locs) {n z : Nat} (hn : sh n = (14, z)) {i : Int32} (hin : ¬ (i < 0 ∨ z ≤ i.toNatClampNeg)) (hdg : decode cc pc = .ok (.aaload, 1))
    (kk : W p l e R s m args below meth c H locs cells slots Q (F0 m (pc + 1) ls (.ref (X.2.1 + (13 + 3 * i.toNatClampNeg)) :: rest))) : W p l e R s m args below meth c H locs cells slots Q (F0 m pc ls (.int i :: .ref (X.2.1 + n) :: rest)) :=
  va_aldq (f := fun i => some (X.2.1 + (13 + 3 * i))) Γ.1.1 Γ.1.2.1 Γ.2.1 hI.1 n 3 (by rw [wd_at X σ (sh_lt' hn (by decide)), gcell_N hn]) rfl hin hdg kk
theorem g_alen (Γ : gC X p m meth c cc nL s args own rt) (hI : gI X σ s H locs) {n k z : Nat} (hn : sh n = (k, z)) (hk : k = 11 ∨ k = 12 ∨ k = 13 ∨ k = 14) {v : Int32} (hv : Int32.ofNat z = v) (hdg : decode cc pc = .ok (.arraylength, 1))
    (kk : W p l e R s m args below meth c H locs cells slots Q (F0 m (pc + 1) ls (.int v :: rest))) : W p l e R s m args below meth c H locs cells slots Q (F0 m pc ls (.ref (X.2.1 + n) :: rest)) := by
  rcases hk with rfl | rfl | rfl | rfl
  · exact va_alen Γ.1.1 Γ.1.2.1 Γ.2.1 hI.1 n 0 (by rw [wd_at X σ (sh_lt' hn (by decide)), gcell_I hn]) rfl hv hdg kk
  · exact va_alen Γ.1.1 Γ.1.2.1 Γ.2.1 hI.1 n 1 (by rw [wd_at X σ (sh_lt' hn (by decide)), gcell_L hn]) rfl hv hdg kk
  · exact va_alen Γ.1.1 Γ.1.2.1 Γ.2.1 hI.1 n 2 (by rw [wd_at X σ (sh_lt' hn (by decide)), gcell_Z hn]) rfl hv hdg kk
  · exact va_alen Γ.1.1 Γ.1.2.1 Γ.2.1 hI.1 n 3 (by rw [wd_at X σ (sh_lt' hn (by decide)), gcell_N hn]) rfl hv hdg kk
theorem wI_other {n k : Nat} {v : Int32} : ∀ j, j ≠ n → (wI σ n k v).1 j = σ.1 j ∧ (wI σ n k v).2 j = σ.2 j := fun j hj => ⟨by funext i; simp [wI, hj], rfl⟩
theorem wL_other {n k : Nat} {v : Int64} : ∀ j, j ≠ n → (wL σ n k v).1 j = σ.1 j ∧ (wL σ n k v).2 j = σ.2 j := fun j hj => ⟨rfl, by funext i; simp [wL, hj]⟩
theorem wI_row {n k : Nat} {v : Int32} : (wI σ n k v).1 n = upd (σ.1 n) k v := by funext i; simp [wI, upd]
theorem wL_row {n k : Nat} {v : Int64} : (wL σ n k v).2 n = vp_updL (σ.2 n) k v := by funext i; simp [wL, vp_updL]
theorem g_iast (Γ : gC X p m meth c cc nL s args own rt) (hI : gI X σ s H locs) {n z : Nat} (hn : sh n = (11, z)) {i x : Int32} (hin : ¬ (i < 0 ∨ z ≤ i.toNatClampNeg)) (hdg : decode cc pc = .ok (.iastore, 1))
    (kk : ∀ (H1 : Heap) (locs1 : List Loc), gI X (wI σ n i.toNatClampNeg x) s H1 locs1 → W p l e R s m args below meth c H1 locs1 cells slots Q (F0 m (pc + 1) ls rest)) : W p l e R s m args below meth c H locs cells slots Q (F0 m pc ls (.int x :: .int i :: .ref (X.2.1 + n) :: rest)) := by
  refine va_iast Γ.1.1 Γ.1.2.1 Γ.2.1 hI.1 (wd_D X σ) hI.2 n 0 (by rw [wd_at X σ (sh_lt' hn (by decide)), gcell_I hn]) rfl hin hdg (fun H1 locs1 hP hD hS => ?_)
  rw [wd_set X σ (wI σ n i.toNatClampNeg x) (sh_lt' hn (by decide)) (by rw [gcell_I hn, wI_row]) wI_other] at hP
  exact kk H1 locs1 ⟨hP, hS⟩
theorem g_zast (Γ : gC X p m meth c cc nL s args own rt) (hI : gI X σ s H locs) {n z : Nat} (hn : sh n = (13, z)) {i x : Int32} (hin : ¬ (i < 0 ∨ z ≤ i.toNatClampNeg)) (hdg : decode cc pc = .ok (.bastore, 1))
    (kk : ∀ (H1 : Heap) (locs1 : List Loc), gI X (wI σ n i.toNatClampNeg (x &&& 1)) s H1 locs1 → W p l e R s m args below meth c H1 locs1 cells slots Q (F0 m (pc + 1) ls rest)) : W p l e R s m args below meth c H locs cells slots Q (F0 m pc ls (.int x :: .int i :: .ref (X.2.1 + n) :: rest)) := by
  refine va_zast Γ.1.1 Γ.1.2.1 Γ.2.1 hI.1 (wd_D X σ) hI.2 n 2 (by rw [wd_at X σ (sh_lt' hn (by decide)), gcell_Z hn]) rfl hin hdg (fun H1 locs1 hP hD hS => ?_)
  rw [wd_set X σ (wI σ n i.toNatClampNeg (x &&& 1)) (sh_lt' hn (by decide)) (by rw [gcell_Z hn, wI_row]; rfl) wI_other] at hP
  exact kk H1 locs1 ⟨hP, hS⟩
theorem g_last (Γ : gC X p m meth c cc nL s args own rt) (hI : gI X σ s H locs) {n z : Nat} (hn : sh n = (12, z)) {i : Int32} {x : Int64} (hin : ¬ (i < 0 ∨ z ≤ i.toNatClampNeg)) (hdg : decode cc pc = .ok (.lastore, 1))
    (kk : ∀ (H1 : Heap) (locs1 : List Loc), gI X (wL σ n i.toNatClampNeg x) s H1 locs1 → W p l e R s m args below meth c H1 locs1 cells slots Q (F0 m (pc + 1) ls rest)) : W p l e R s m args below meth c H locs cells slots Q (F0 m pc ls (.long x :: .int i :: .ref (X.2.1 + n) :: rest)) := by
  refine va_last Γ.1.1 Γ.1.2.1 Γ.2.1 hI.1 (wd_D X σ) hI.2 n 1 (by rw [wd_at X σ (sh_lt' hn (by decide)), gcell_L hn]) rfl hin hdg (fun H1 locs1 hP hD hS => ?_)
  rw [wd_set X σ (wL σ n i.toNatClampNeg x) (sh_lt' hn (by decide)) (by rw [gcell_L hn, wL_row]) wL_other] at hP
  exact kk H1 locs1 ⟨hP, hS⟩
-- ends
theorem g_iret {σ0 σ' : GM} {v x : Int32} (Γ : gC X p m meth c cc nL s args own (some .int)) (hI : gI X σ0 s H locs) (hdg : decode cc pc = .ok (.ireturn, 1)) (hσ : σ0 = σ') (hx : v = x) : W p l e R s m args below meth c H locs 0 0 (MQ below (gQi X σ' x) args s 0 0 (gA X)) (F0 m pc ls [.int v]) := by
  subst hσ; subst hx
  exact W.iret Γ.1.1 Γ.1.2.1 Γ.2.2.1 (fun t ht hW => ⟨⟨v, σ0, rfl, ⟨rfl, rfl⟩, by rw [ht]; exact hI.1, va_K.moved hW.alike Γ.2.1⟩, hI.2.F ht⟩) hI.2.2.2 hdg Γ.2.2.2
theorem g_lret {σ0 σ' : GM} {v x : Int64} (Γ : gC X p m meth c cc nL s args own (some .long)) (hI : gI X σ0 s H locs) (hdg : decode cc pc = .ok (.lreturn, 1)) (hσ : σ0 = σ') (hx : v = x) : W p l e R s m args below meth c H locs 0 0 (MQ below (gQl X σ' x) args s 0 0 (gA X)) (F0 m pc ls [.long v]) := by
  subst hσ; subst hx
  exact W.lret Γ.1.1 Γ.1.2.1 Γ.2.2.1 (fun t ht hW => ⟨⟨v, σ0, rfl, ⟨rfl, rfl⟩, by rw [ht]; exact hI.1, va_K.moved hW.alike Γ.2.1⟩, hI.2.F ht⟩) hI.2.2.2 hdg Γ.2.2.2
theorem g_vret {σ0 σ' : GM} (Γ : gC X p m meth c cc nL s args own none) (hI : gI X σ0 s H locs) (hdg : decode cc pc = .ok (.return_, 1)) (hσ : σ0 = σ') : W p l e R s m args below meth c H locs 0 0 (MQ below (gQv X σ') args s 0 0 (gA X)) (F0 m pc ls []) := by
  subst hσ
  exact W.vret Γ.1.1 Γ.1.2.1 Γ.2.2.1 (fun t ht hW => ⟨⟨σ0, rfl, rfl, by rw [ht]; exact hI.1, va_K.moved hW.alike Γ.2.1⟩, hI.2.F ht⟩) hI.2.2.2 hdg Γ.2.2.2
theorem g_zret {σ0 σ' : GM} {v x : Int32} (Γ : gC X p m meth c cc nL s args own (some .boolean)) (hI : gI X σ0 s H locs) (hdg : decode cc pc = .ok (.ireturn, 1)) (hσ : σ0 = σ') (hx : (v &&& 1) = x) : W p l e R s m args below meth c H locs 0 0 (MQ below (gQi X σ' x) args s 0 0 (gA X)) (F0 m pc ls [.int v]) := by
  subst hσ; subst hx
  have hexec := Γ.1.1
  have hb := Γ.1.2.1
  have hr := Γ.2.2.1
  have hlocks := Γ.2.2.2
  have hn : narrow .boolean (.int v) = .int (v &&& 1) := rfl
  intro T hT X9
  obtain ⟨fs, hret, hrun, hended, hW, hframe⟩ := X9.leave (v := some (.int (v &&& 1))) (fun h => by rw [hr] at h; cases h)
  have hmeth' : T.vm.method? m = some meth := X9.method'
  refine ⟨T.setFrames fs, ?_, .returned (some (.int (v &&& 1))), hrun, hended, ⟨⟨v &&& 1, σ0, rfl, ⟨rfl, rfl⟩, by rw [show (T.setFrames fs).heap = H from hT]; exact hI.1, va_K.moved hW.alike Γ.2.1⟩, hI.2.F hT⟩, locs, ⟨⟨_, rfl⟩, hW, hframe⟩, hI.2.2.2⟩
  jvm_step X9.here [X9.here.top, hexec, hb, hdg, hmeth', hr, hn]
  (try refine ⟨rfl, ?_⟩); (try refine ⟨rfl, ?_⟩)
  first | (intro acts; rw [hret _ acts rfl rfl rfl]) | rw [hret _ _ rfl rfl rfl]
  exact Steps.refl _
theorem g_aret {σ0 σ' : GM} {C : String} {x x' : Option Nat} {v : Value} (hv : v = va_rf (x.map (fun k => X.2.1 + k))) (Γ : gC X p m meth c cc nL s args own (some (.object C))) (hI : gI X σ0 s H locs) (hdg : decode cc pc = .ok (.areturn, 1)) (hσ : σ0 = σ') (hx : x = x') : W p l e R s m args below meth c H locs 0 0 (MQ below (gQq X σ' x') args s 0 0 (gA X)) (F0 m pc ls [v]) := by
  subst hσ; subst hx
  exact W.aret Γ.1.1 Γ.1.2.1 Γ.2.2.1 (Or.inl ⟨C, rfl⟩) (by subst hv; cases x with
    | none => exact Or.inl rfl
    | some k => exact Or.inr ⟨_, rfl⟩) (fun t ht hW => ⟨⟨_, σ0, by rw [hv], ⟨rfl, rfl⟩, by rw [ht]; exact hI.1, va_K.moved hW.alike Γ.2.1⟩, hI.2.F ht⟩) hI.2.2.2 hdg Γ.2.2.2
end GROWS
/-- a method out of its body -/
theorem gMet_of {l : Launch} {y : MethodName} {cc : ByteArray} {nL : Nat} {rt : Option FieldType} {rm : Room} {X : GX} {σ : GM} {av : List Value} {own : String} {Qc : Array Value → State → Outcome → State → Prop} {lv : List (Nat × Value)} (hy : plainName y.cls = true) (ho : y.cls = own) (hlen : (lg_sl av).length ≤ nL) (hlv : lv_args 0 av = lv)
    (body : ∀ (p : Program) (e : Env) (s : State) (m : MethodId) (below : List Frame) (meth : Method) (c : Code) (H : Heap) (ls : Array Slot), gC X p m meth c cc nL s av.toArray own rt → gI X σ s H [] → lv_has ls nL lv →
      W p l e rm s m av.toArray below meth c H [] 0 0 (MQ below Qc av.toArray s 0 0 (gA X)) (F0 m 0 ls [])) : gMet l y cc nL rt rm X σ av Qc := by
  refine Met.ofW (cc := cc) (maxL := nL) (ret := rt) hy rfl ?_
  intro p e s m args below meth c s₁ B hml hv
  obtain ⟨rfl, hP, hK⟩ := hv
  have hts := atoms_spec (ws := Cond.code y cc nL rt :: GW) B.pre
  have hown : s.vm.findClass own = some m.cls := by rw [← ho]; exact findClass_of_methodNamed B.named
  have hl := lv_entry av (n := nL) hlen
  rw [lg_entry_eq]
  generalize (lg_sl av ++ List.replicate (nL - (lg_sl av).length) Slot.unset).toArray = ls at hl ⊢
  rw [hlv] at hl
  exact body p e s m below meth c s.heap ls ⟨⟨B.exec, B.bytes, hml, hown, fun w hw => hts w (List.mem_cons_of_mem _ hw)⟩, hK, B.returns, B.notSynchronized⟩ ⟨hP, va_S.rf⟩ hl
