/-! CONSTRUCTORS: a world of cells one behind another, from the address a on; what is made comes at its end -/
def tlw (a : Nat) : List va_E → va_W
  | [] => []
  | e :: t => (a, e) :: tlw (a + 1) t
theorem tlw_at : ∀ (tl : List va_E) (a k : Nat), (tlw a tl)[k]? = (tl[k]?).map (fun e => (a + k, e))
  | [], a, k => by simp [tlw]
  | e :: t, a, 0 => by simp [tlw]
  | e :: t, a, k + 1 => by
    show (tlw (a + 1) t)[k]? = _
    rw [tlw_at t (a + 1) k]
    simp [Nat.add_assoc, Nat.add_comm 1 k]
theorem tlw_len (tl : List va_E) : ∀ a, (tlw a tl).length = tl.length := by
  induction tl with
  | nil => intro a; rfl
  | cons e t ih => intro a; show (tlw (a + 1) t).length + 1 = t.length + 1; rw [ih]
theorem tlw_app (t1 t2 : List va_E) : ∀ a, tlw a (t1 ++ t2) = tlw a t1 ++ tlw (a + t1.length) t2 := by
  induction t1 with
  | nil => intro a; simp [tlw]
  | cons e t ih =>
    intro a
    show (a, e) :: tlw (a + 1) (t ++ t2) = (a, e) :: (tlw (a + 1) t ++ tlw (a + (t.length + 1)) t2)
    rw [ih, show a + 1 + t.length = a + (t.length + 1) by omega]
theorem tlw_set (tl : List va_E) (e : va_E) : ∀ (a k : Nat), (tlw a tl).set k (a + k, e) = tlw a (tl.set k e) := by
  induction tl with
  | nil => intro a k; rfl
  | cons x t ih =>
    intro a k
    cases k with
    | zero => rfl
    | succ k =>
      show (a, x) :: (tlw (a + 1) t).set k (a + (k + 1), e) = (a, x) :: tlw (a + 1) (t.set k e)
      rw [← ih, show a + (k + 1) = a + 1 + k by omega]
theorem tlw_D (tl : List va_E) (a : Nat) : va_D (fun q : Nat => a ≤ q) (tlw a tl) := by
  have key : ∀ (k : Nat) (q : Nat × va_E), (tlw a tl)[k]? = some q → q.1 = a + k := by
    intro k q h
    rw [tlw_at] at h
    cases h1 : tl[k]? with
    | none => rw [h1] at h; cases h
    | some e => rw [h1] at h; cases h; rfl
  refine ⟨fun i j p q hi hj e => ?_, fun k q hk => ?_⟩
  · have h1 := key i p hi
    have h2 := key j q hj
    omega
  · have h1 := key k q hk
    show a ≤ q.1
    omega
abbrev kI (X : GX) (a : Nat) (s : State) (H : Heap) (locs : List Loc) (tl : List va_E) : Prop :=
  va_P X.1 vwCl (tlw a tl) H ∧ H.size = a + tl.length ∧ va_S (fun q : Nat => a ≤ q) s.heap H locs
section KROWS
variable {p : Program} {l : Launch} {e : Env} {R : Room} {s : State} {m : MethodId} {args : Array Value} {below : List Frame} {meth : Method} {c : Code} {H : Heap} {locs : List Loc} {cells slots : Nat} {Q : State → Prop}
variable {cc : ByteArray} {pc nL a : Nat} {ls : Array Slot} {rest : List Value} {X : GX} {own : String} {rt : Option FieldType} {tl tl' : List va_E}
/-- one more cell at the end -/
theorem kI_push {H1 : Heap} (hI : kI X a s H locs tl) {x : va_E} (z1 : H1.size = H.size + 1) (o1 : ∀ q, q < H.size → H1[q]? = H[q]?) (hx : va_at X.1 vwCl (H.size, x) H1) : kI X a s H1 locs (tl ++ [x]) := by
  obtain ⟨hP, hz, hS⟩ := hI
  refine ⟨?_, by rw [z1, hz, List.length_append]; simp only [List.length_singleton]; omega, ⟨by rw [z1]; exact Nat.le_trans hS.1 (Nat.le_succ _), fun q h1 h2 => (o1 q (Nat.lt_of_lt_of_le h1 hS.1)).trans (hS.2.1 q h1 h2), hS.2.2⟩⟩
  rw [tlw_app]
  refine va_P.app (hP.kept fun k q hk => o1 q.1 (hP k q hk).lt) (fun k q hk => ?_)
  have hz1 : k < 1 := (List.getElem?_eq_some_iff.mp hk).1
  obtain rfl : k = 0 := by omega
  cases hk
  rw [← hz]
  exact hx
theorem k_new (Γ : gC X p m meth c cc nL s args own rt) (hI : kI X a s H locs tl) (n : Nat) (hn : tl.length = n) {ci : Nat} {C : String} {T : u_T} {N index : Nat} (ty : Nat → FieldType) (hty : ∀ k, k < N → parseFieldDescriptor (T k).2.2.1 = some (ty k)) (hc : vwCl[ci]? = some (C, T, N)) (hin : ∀ w ∈ u_ws C T N, w ∈ GW) (hcl : Cond.classLink own index C ∈ GW) (hinst : Cond.instantiable C N ∈ GW) (hini : Cond.initialized C ∈ GW) {fs : List Value} (hfs : ∀ j, j < N → defaultValue (ty j) = vp_V fs j) (hcells : cells + 1 ≤ R.cells) (hslots : slots + N ≤ R.slots) (hdg : decode cc pc = .ok (.new index, 3))
    (kk : ∀ (H1 : Heap), kI X a s H1 locs (tl ++ [.inr (ci, fs)]) → W p l e R s m args below meth c H1 locs (cells + 1) (slots + N) Q (F0 m (pc + 3) ls (.ref (a + n) :: rest))) : W p l e R s m args below meth c H locs cells slots Q (F0 m pc ls rest) := by
  have hts := Γ.1.2.2.2.2
  have hKn := Γ.2.1.1 ci _ hc
  refine W.newcK Γ.1.1 Γ.1.2.1 Γ.1.2.2.2.1 (hts _ hcl) (hts _ hinst) (hts _ hini) rfl hdg hcells hslots hKn.2.1 (h := a + n) (by rw [hI.2.1, hn]) fun H1 kC hkC e1 z1 o1 => ?_
  rw [show a + n = H.size by rw [hI.2.1, hn]] at e1 z1 o1
  exact kk H1 (kI_push hI z1 o1 ⟨_, hc, (u_born ty hts hin hKn hkC e1 hty).to hfs⟩)
theorem k_newa (Γ : gC X p m meth c cc nL s args own rt) (hI : kI X a s H locs tl) (n : Nat) (hn : tl.length = n) {atype : ArrayType} {ty : FieldType} (hty : newarray.typeOf atype = ty) (harr : Cond.arrayClass ty ∈ GW) {i : Int32} {N : Nat} {cA : ClassId} {x : va_E} {f : vp_A} (hcA : s.vm.findClass ("[" ++ ty.toString) = some cA) (hx : x = .inl (cA, f)) (hf : vp_cell cA f = arrV cA N (fun _ => defaultValue ty)) (hi : ¬ i < 0) (hN : i.toNatClampNeg = N) (hbytes : N * componentBytes ty ≤ 536870912) (hcells : cells + 1 ≤ R.cells) (hslots : slots + N ≤ R.slots) (hdg : decode cc pc = .ok (.newarray atype, 2))
    (kk : ∀ (H1 : Heap), kI X a s H1 locs (tl ++ [x]) → W p l e R s m args below meth c H1 locs (cells + 1) (slots + N) Q (F0 m (pc + 2) ls (.ref (a + n) :: rest))) : W p l e R s m args below meth c H locs cells slots Q (F0 m pc ls (.int i :: rest)) := by
  subst hty
  have hts := Γ.1.2.2.2.2
  refine va_newaK Γ.1.1 Γ.1.2.1 (hts _ harr) rfl hdg rfl hi hN hbytes hcells hslots (h := a + n) (by rw [hI.2.1, hn]) fun H1 cA' e1 z1 o1 hAr hNm => ?_
  rw [show a + n = H.size by rw [hI.2.1, hn]] at e1 z1 o1
  obtain rfl : cA = cA' := Option.some.inj (hcA.symm.trans hNm)
  refine kk H1 (kI_push hI z1 o1 ?_)
  subst hx
  show H1[H.size]? = some (vp_cell cA f)
  rw [hf]
  exact e1
theorem k_newq (Γ : gC X p m meth c cc nL s args own rt) (hI : kI X a s H locs tl) (n : Nat) (hn : tl.length = n) {C : String} {index : Nat} (hcl : Cond.classLink own index C ∈ GW) (hover : (Cond.arrayOver (.object C)).before args s = true) {i : Int32} {N : Nat} {cA : ClassId} (hcA : s.vm.findClass ("[" ++ (FieldType.object C).toString) = some cA) (hi : ¬ i < 0) (hN : i.toNatClampNeg = N) (hbytes : N * 4 ≤ 536870912) (hcells : cells + 1 ≤ R.cells) (hslots : slots + N ≤ R.slots) (hdg : decode cc pc = .ok (.anewarray index, 3))
    (kk : ∀ (H1 : Heap), kI X a s H1 locs (tl ++ [.inl (cA, N, .inr (.inr (.inr (.inr (fun _ => none)))))]) → W p l e R s m args below meth c H1 locs (cells + 1) (slots + N) Q (F0 m (pc + 3) ls (.ref (a + n) :: rest))) : W p l e R s m args below meth c H locs cells slots Q (F0 m pc ls (.int i :: rest)) := by
  subst hN
  have hts := Γ.1.2.2.2.2
  refine W.anew Γ.1.1 Γ.1.2.1 Γ.1.2.2.2.1 (hts _ hcl) hover rfl hdg rfl hi hbytes hcells hslots fun cA' kA comp f1 f2 f3 f4 => ?_
  obtain rfl : cA = cA' := Option.some.inj (hcA.symm.trans f1)
  generalize hH1 : H.push ({ cls := cA, slots := Array.replicate i.toNatClampNeg .null, vm := .none } : Cell) = H1
  have z1 : H1.size = H.size + 1 := by rw [← hH1, Array.size_push]
  have e1 : H1[H.size]? = some (arrV cA i.toNatClampNeg (fun _ => .null)) := by rw [← hH1, Array.getElem?_push_size, ← arrV_new]
  have o1 : ∀ q : Nat, q < H.size → H1[q]? = H[q]? := fun q hq => by rw [← hH1, Array.getElem?_push, if_neg (Nat.ne_of_lt hq)]
  have hk := kk H1 (kI_push hI z1 o1 (by
    show H1[H.size]? = some (vp_cell cA _)
    rw [vp_cell_q]
    exact e1))
  rw [show a + n = H.size by rw [hI.2.1, hn]] at hk
  exact hk
/-- a cell is changed -/
theorem kI_set {H1 : Heap} (hI : kI X a s H locs tl) {j k : Nat} {x0 x : va_E} (hj : tl[j]? = some x0) (z : H1.size = H.size) (oq : ∀ q, q ≠ a + j → H1[q]? = H[q]?) (hx : va_at X.1 vwCl (a + j, x) H1) : kI X a s H1 (locs ++ [⟨a + j, k⟩]) (tl.set j x) := by
  have hat : (tlw a tl)[j]? = some (a + j, x0) := by rw [tlw_at, hj]; rfl
  refine ⟨?_, by rw [z, hI.2.1, List.length_set], hI.2.2.put z oq (Nat.le_add_right a j)⟩
  rw [← tlw_set]
  exact hI.1.set (tlw_D tl a) hat hx oq
theorem k_putF (Γ : gC X p m meth c cc nL s args own rt) (hname : meth.name = "<init>") (hI : kI X a s H locs tl) (j : Nat) {ci : Nat} {fs : List Value} (hj : tl[j]? = some (.inr (ci, fs))) {C : String} {T : u_T} {N : Nat} (ty0 : Nat → FieldType) (hty : ∀ k, k < N → parseFieldDescriptor (T k).2.2.1 = some (ty0 k)) (hnm : ∀ a, a < N → ∀ b, b < N → a ≠ b → (T a).2.1 ≠ (T b).2.1) (hc : vwCl[ci]? = some (C, T, N)) (hin : ∀ w ∈ u_ws C T N, w ∈ GW) (k : Nat) (hk : k < N) {index : Nat} (hlink : Cond.fieldLink own index (T k).1 (T k).2.1 (T k).2.2.1 ∈ GW) (hfin : (T k).2.2.2 = true) (hdecl : (T k).1 = own) {ty : FieldType} {v : Value} (hd : parseFieldDescriptor (T k).2.2.1 = some ty) (hnw : narrow ty v = v) (hfit : fits ty v = true) (hl : k < fs.length) (htl : tl.set j (.inr (ci, fs.set k v)) = tl')
    (hdg : decode cc pc = .ok (.putfield index, 3)) (kk : ∀ (H1 : Heap) (locs1 : List Loc), kI X a s H1 locs1 tl' → W p l e R s m args below meth c H1 locs1 cells slots Q (F0 m (pc + 3) ls rest)) : W p l e R s m args below meth c H locs cells slots Q (F0 m pc ls (v :: .ref (a + j) :: rest)) := by
  have hts := Γ.1.2.2.2.2
  have hown := Γ.1.2.2.2.1
  have hK := Γ.2.1
  have hap := va_apart (own := own) hts hin ty0 hty hnm hK hc
  obtain ⟨r, h1, cell, q1, q2, q3, q4⟩ := hI.1 j _ (by rw [tlw_at, hj]; rfl)
  obtain rfl : r = (C, T, N) := Option.some.inj (h1.symm.trans hc)
  obtain ⟨hSl, hfc, kC, hkC, hkind⟩ := hK.1 ci _ hc
  obtain ⟨cf, kf, fi, f, hi, hsl⟩ := hSl k hk
  have hlay := hts _ (hin _ (u_in_lay hk))
  unfold u_lay at hlay
  rw [if_pos hfin] at hlay
  have hst := (u_facts hfc hkC (u_lays hts hin hk) hi).1
  have hcf : m.cls = cf := by
    obtain ⟨_, _, c', _, _, _, -, -, hf', -, -, -, hown2, -⟩ := Cond.laysFinal_spec hlay
    have e1 : c' = cf := by have := hi.symm.trans hf'; simp at this; exact this.1.symm
    rw [hdecl] at hown2
    rw [← e1]; exact Option.some.inj (hown.symm.trans hown2)
  have h6 := u_fits hfc hkC hkind (Or.inr hlay) hi hd hnw hfit
  refine W.putFinK Γ.1.1 Γ.1.2.1 hown (hts _ hlink) hi hst hcf hname (by rw [q2]; exact h6) q1 q3 (by rw [hsl]; exact k2_hasslot (q4 k hk)) rfl rfl hdg fun H' e1 e2 e3 => ?_
  rw [hsl] at e1 ⊢
  rw [← htl] at kk
  exact kk H' _ (kI_set hI hj e2 e3 ⟨_, hc, t_OB.to (V := updV (vp_V fs) k v) ⟨_, e1, q2, q3, t_set q4 hap hk v⟩ (fun j _ => vp_updV_set hl v j)⟩)
theorem k_put (Γ : gC X p m meth c cc nL s args own rt) (hI : kI X a s H locs tl) (j : Nat) {ci : Nat} {fs : List Value} (hj : tl[j]? = some (.inr (ci, fs))) {C : String} {T : u_T} {N : Nat} (ty0 : Nat → FieldType) (hty : ∀ k, k < N → parseFieldDescriptor (T k).2.2.1 = some (ty0 k)) (hnm : ∀ a, a < N → ∀ b, b < N → a ≠ b → (T a).2.1 ≠ (T b).2.1) (hc : vwCl[ci]? = some (C, T, N)) (hin : ∀ w ∈ u_ws C T N, w ∈ GW) (k : Nat) (hk : k < N) {index : Nat} (hlink : Cond.fieldLink own index (T k).1 (T k).2.1 (T k).2.2.1 ∈ GW) (hfin : (T k).2.2.2 = false) {ty : FieldType} {v : Value} (hd : parseFieldDescriptor (T k).2.2.1 = some ty) (hnw : narrow ty v = v) (hfit : fits ty v = true) (hl : k < fs.length) (htl : tl.set j (.inr (ci, fs.set k v)) = tl')
    (hdg : decode cc pc = .ok (.putfield index, 3)) (kk : ∀ (H1 : Heap) (locs1 : List Loc), kI X a s H1 locs1 tl' → W p l e R s m args below meth c H1 locs1 cells slots Q (F0 m (pc + 3) ls rest)) : W p l e R s m args below meth c H locs cells slots Q (F0 m pc ls (v :: .ref (a + j) :: rest)) := by
  have hts := Γ.1.2.2.2.2
  have hown := Γ.1.2.2.2.1
  have hK := Γ.2.1
  have hap := va_apart (own := own) hts hin ty0 hty hnm hK hc
  obtain ⟨r, h1, cell, q1, q2, q3, q4⟩ := hI.1 j _ (by rw [tlw_at, hj]; rfl)
  obtain rfl : r = (C, T, N) := Option.some.inj (h1.symm.trans hc)
  obtain ⟨hSl, hfc, kC, hkC, hkind⟩ := hK.1 ci _ hc
  obtain ⟨cf, kf, fi, f, hi, hsl⟩ := hSl k hk
  have hlay := hts _ (hin _ (u_in_lay hk))
  unfold u_lay at hlay
  rw [if_neg (by rw [hfin]; decide)] at hlay
  have hst := (u_facts hfc hkC (u_lays hts hin hk) hi).1
  have h6 := u_store hfc hkC hkind hlay hi hd hnw hfit
  refine W.putK Γ.1.1 Γ.1.2.1 (f := f) ⟨hown, hts _ hlink, ⟨_, _, _, hi⟩, hst⟩ (by rw [q2]; exact h6) q1 q3 (by rw [hsl]; exact k2_hasslot (q4 k hk)) rfl rfl hdg fun H' e1 e2 e3 => ?_
  rw [hsl] at e1 ⊢
  rw [← htl] at kk
  exact kk H' _ (kI_set hI hj e2 e3 ⟨_, hc, t_OB.to (V := updV (vp_V fs) k v) ⟨_, e1, q2, q3, t_set q4 hap hk v⟩ (fun j _ => vp_updV_set hl v j)⟩)
theorem k_get (Γ : gC X p m meth c cc nL s args own rt) (hI : kI X a s H locs tl) (j : Nat) {ci : Nat} {fs : List Value} (hj : tl[j]? = some (.inr (ci, fs))) {C : String} {T : u_T} {N : Nat} (hc : vwCl[ci]? = some (C, T, N)) (hin : ∀ w ∈ u_ws C T N, w ∈ GW) (k : Nat) (hk : k < N) {index : Nat} (hlink : Cond.fieldLink own index (T k).1 (T k).2.1 (T k).2.2.1 ∈ GW) {v : Value} (hv : fs[k]? = some v) (hdg : decode cc pc = .ok (.getfield index, 3))
    (kk : W p l e R s m args below meth c H locs cells slots Q (F0 m (pc + 3) ls (v :: rest))) : W p l e R s m args below meth c H locs cells slots Q (F0 m pc ls (.ref (a + j) :: rest)) :=
  va_get Γ.1.1 Γ.1.2.1 Γ.1.2.2.2.2 hin Γ.1.2.2.2.1 Γ.2.1 hI.1 j (by rw [tlw_at, hj]; rfl) hc k hk (Γ.1.2.2.2.2 _ hlink) (fun _ h => h) hv hdg kk
theorem k_astq (Γ : gC X p m meth c cc nL s args own rt) (hI : kI X a s H locs tl) (j jv t0 ci : Nat) {cA : ClassId} {r : vw_C} {n : Nat} {vs : List Value} {f : Nat → Option Nat} (hj : tl[j]? = some (.inl (cA, n, .inr (.inr (.inr (.inr f)))))) (ht : (tysX X)[t0]? = some (cA, .object r.1)) (hv : tl[jv]? = some (.inr (ci, vs))) (hc : vwCl[ci]? = some r) {i : Int32} (hin : vp_in i n) (htl : tl.set j (.inl (cA, n, .inr (.inr (.inr (.inr (va_up f i.toNatClampNeg (some (a + jv)))))))) = tl') (hdg : decode cc pc = .ok (.aastore, 1))
    (kk : ∀ (H1 : Heap) (locs1 : List Loc), kI X a s H1 locs1 tl' → W p l e R s m args below meth c H1 locs1 cells slots Q (F0 m (pc + 1) ls rest)) : W p l e R s m args below meth c H locs cells slots Q (F0 m pc ls (.ref (a + jv) :: .int i :: .ref (a + j) :: rest)) := by
  have hK := Γ.2.1
  have hlt : i.toNatClampNeg < n := Nat.not_le.mp fun q => hin (Or.inr q)
  have h0 : ¬ i < 0 := fun q => hin (Or.inl q)
  obtain ⟨r', hr', cellV, g1, g2, g3, -⟩ := hI.1 jv _ (by rw [tlw_at, hv]; rfl)
  have hcls := (hK.1 ci r hc).2
  obtain ⟨kA, comp, k1, k2, k3, -⟩ := (hK.2 t0 _ ht).2
  obtain rfl : comp = X.1.1 ci := Option.some.inj (k3.symm.trans hcls.1)
  obtain ⟨kC, hkC, -⟩ := hcls.2
  have ha0 : va_at X.1 vwCl (a + j, .inl (cA, n, .inr (.inr (.inr (.inr f))))) H := hI.1 j _ (by rw [tlw_at, hj]; rfl)
  have ha : H[a + j]? = some (vp_cell cA (n, .inr (.inr (.inr (.inr f))))) := ha0
  refine W.aast Γ.1.1 Γ.1.2.1 ha (fun q h => by cases h) (fun h => by cases h) k1 k2 rfl hkC ⟨h0, by show _ < (arrV _ _ _).slots.size; rw [arrV_size]; exact hlt⟩ g1 (fun q h => by rw [g3] at h; cases h) (by rw [g2]; exact hkC) (by rw [g2]; exact va_assign hcls) rfl rfl hdg fun H1 e z oq => ?_
  rw [← htl] at kk
  refine kk H1 _ (kI_set hI hj z oq ?_)
  show H1[a + j]? = some (vp_cell _ _)
  rw [e]
  rw [vp_cell_q, vp_cell_q, arrV_store]
  congr 2
  funext q
  by_cases hq : q = i.toNatClampNeg
  · subst hq
    simp [updV, va_up, va_rf]
  · simp [updV, va_up, hq]
/-- links from nest mate to nest mate, and the class of the nets' arrays: what the tables say of them -/
def nlT : List (String × Nat × MethodName × String) := [("RingCutters", 11, ⟨"RingCutters$Tape", "<init>", "()V"⟩, "RingCutters"), ("RingCutters", 18, ⟨"RingCutters$Reader", "<init>", "()V"⟩, "RingCutters"), ("RingCutters$Reader", 13, ⟨"RingCutters$Net", "<init>", "()V"⟩, "RingCutters"), ("RingCutters", 25, ⟨"RingCutters$Net", "<init>", "()V"⟩, "RingCutters"), ("RingCutters$Past", 15, ⟨"RingCutters$Net", "<init>", "()V"⟩, "RingCutters"), ("RingCutters", 39, ⟨"RingCutters$Kept", "<init>", "()V"⟩, "RingCutters"), ("RingCutters$Kept", 9, ⟨"RingCutters$Net", "<init>", "()V"⟩, "RingCutters"), ("RingCutters", 49, ⟨"RingCutters$Draws", "<init>", "()V"⟩, "RingCutters"), ("RingCutters", 56, ⟨"RingCutters$Rings", "<init>", "()V"⟩, "RingCutters"), ("RingCutters", 63, ⟨"RingCutters$Packing", "<init>", "()V"⟩, "RingCutters"), ("RingCutters", 70, ⟨"RingCutters$Discount", "<init>", "()V"⟩, "RingCutters")]
def kN (U : State) : Prop := va_AO "RingCutters$Net" U ∧ ∀ q ∈ nlT, va_Nw (.methodLinkNest q.1 q.2.1 q.2.2.1 q.2.2.2) U
theorem kN.warm {s U : State} (hW : s.WarmedH U.vm) (h : kN s) : kN U := ⟨va_AO.moved hW.alike h.1, fun q hq => va_Nw.warmM hW (h.2 q hq)⟩
theorem kN.frame {U : State} {g : JFrame} {mk : MethodId} {b : Array Value} (h : kN U) : kN (U.calling g mk b) := ⟨va_AO.moved (u := U) (U := U.calling g mk b) (Vm.Alike.refl U.vm) h.1, fun q hq => va_Nw.same (u := U) (U := U.calling g mk b) rfl rfl (h.2 q hq)⟩
/-- a constructor's contract: at its start its object is the last cell; at its end its body stands there -/
abbrev kMet (l : Launch) (y : MethodName) (cc : ByteArray) (nL : Nat) (rm : Room) (X : GX) (a : Nat) (x0 : va_E) (body : List va_E) (mc ms : Nat) : Prop :=
  Met l y (Cond.code y cc nL none :: GW) rm (va_Pc [.ref a] (fun U => U.heap.size = a + 1 ∧ va_P X.1 vwCl (tlw a [x0]) U.heap ∧ gK X U ∧ kN U)) (va_Qv (fun (_ : Unit) => True) (fun _ t => va_P X.1 vwCl (tlw a body) t.heap ∧ t.heap.size = a + body.length ∧ gK X t) (fun q : Nat => a ≤ q)) mc ms (fun q : Nat => a ≤ q)
/-- what the tables say of a constructor -/
abbrev mfI (y : MethodName) (cc : ByteArray) (nL : Nat) : Prop :=
  (Cond.code y cc nL none ∈ GW ∧ Cond.instanceMethod y ∈ GW ∧ Cond.initialized y.cls ∈ GW) ∧ y.name = "<init>" ∧ y.cls ≠ "java/lang/invoke/MethodHandle" ∧ y.cls ≠ "java/lang/invoke/VarHandle" ∧ (parseMethodDescriptor y.desc).map (fun d => d.parameters.length) = some 0
theorem k_call {y : MethodName} {bytes : ByteArray} {maxL index n mc ms : Nat} {rm : Room} {x0 : va_E} {body pre : List va_E} (Γ : gC X p m meth c cc nL s args own rt) (hsz : ls.size = nL) (hI : kI X a s H locs (pre ++ [x0])) (hn : pre.length = n) (hM : kMet l y bytes maxL rm X (a + n) x0 body mc ms) (hm : mfI y bytes maxL) (hN : kN s) (hl : (∃ host : String, (own, index, y, host) ∈ nlT) ∨ Cond.methodLink own index y ∈ GW) (hc0 : rm.cells = mc) (hs0 : rm.slots = ms) (hR : rm.frames + 1 ≤ R.frames ∧ 8 + (maxL + 11) + rm.locals ≤ R.locals)
    (hW : (rest.map fun v => v.category).sum ≤ 8) (hdg : decode cc pc = .ok (.invokespecial index, 3)) (hf : cells + mc ≤ R.cells ∧ slots + ms ≤ R.slots) (htl : pre ++ body = tl')
    (kk : ∀ (H1 : Heap) (locs1 : List Loc), kI X a s H1 locs1 tl' → W p l e R s m args below meth c H1 locs1 (cells + mc) (slots + ms) Q (F0 m (pc + 3) ls rest)) : W p l e R s m args below meth c H locs cells slots Q (F0 m pc ls (.ref (a + n) :: rest)) := by
  obtain ⟨⟨h1, h2, h4⟩, h5, h6⟩ := hm
  have hts := Γ.1.2.2.2.2
  obtain ⟨hP, hz, hS⟩ := hI
  have hz2 : H.size = a + n + 1 := by rw [hz, List.length_append, hn]; simp only [List.length_singleton]; omega
  rw [tlw_app, hn] at hP
  have hP1 : va_P X.1 vwCl (tlw a pre) H := fun k q hk => hP k q (by rw [List.getElem?_append_left (List.getElem?_eq_some_iff.mp hk).1]; exact hk)
  have hP2 : va_P X.1 vwCl (tlw (a + n) [x0]) H := fun k q hk => hP (pre.length + k) q (by rw [List.getElem?_append_right (by rw [tlw_len]; omega), tlw_len, Nat.add_sub_cancel_left]; exact hk)
  have hpre : PreS s H (va_Pc [.ref (a + n)] (fun U => U.heap.size = a + n + 1 ∧ va_P X.1 vwCl (tlw (a + n) [x0]) U.heap ∧ gK X U ∧ kN U)) (.ref (a + n) :: []) := ⟨fun b U g mk q => by
      obtain ⟨q1, q2, q3, q4, q5⟩ := q
      exact ⟨q1, q2, q3, va_K.moved (u := U) (U := U.calling g mk b) (Vm.Alike.refl U.vm) q4, q5.frame⟩, fun U hU hW9 => ⟨rfl, by rw [hU]; exact hz2, by rw [hU]; exact hP2, va_K.moved hW9.alike Γ.2.1, hN.warm hW9⟩⟩
  have hr : va_Run p l e R s m args below meth c H locs cells slots mc ms (F0 m pc ls (.ref (a + n) :: rest)) rest (va_Qv (fun (_ : Unit) => True) (fun _ t => va_P X.1 vwCl (tlw (a + n) body) t.heap ∧ t.heap.size = a + n + body.length ∧ gK X t) (fun q : Nat => a + n ≤ q) (Value.ref (a + n) :: []).toArray) (fun q : Nat => a + n ≤ q) := by
    rcases hl with ⟨host, hl⟩ | hl
    · exact va_runIN (host := host) (As := []) Γ.1 hM ⟨va_cnB 0 hts (good_codeGW h1) rfl hc0 hs0 (hN.2 _ hl) (hts _ h4) h6 hR, h5, hts _ h2⟩ hpre rfl rfl hsz rfl (lv_room hW) hdg hf
    · exact va_runI (As := []) Γ.1 hM ⟨callB_of 0 hts (good_codeGW h1) rfl hc0 hs0 (hts _ h4) (hts _ hl) h6 hR, h5, hts _ h2⟩ hpre rfl rfl hsz rfl (lv_room hW) hdg hf
  refine va_callv hr hS (fun q _ h => Nat.le_trans (Nat.le_add_right a n) h) (fun q h => Nat.le_trans (Nat.le_add_right a n) h) (fun u t H1 locs1 ht hvm hw hB hz3 hk hS1 => ?_)
  obtain ⟨b1, b2, b3⟩ := hB
  rw [ht] at b1 b2
  subst htl
  refine kk H1 locs1 ⟨?_, by rw [b2, List.length_append, hn]; omega, hS1⟩
  rw [tlw_app, hn]
  refine va_P.app (hP1.kept fun k q hq => hk q.1 (hP1 k q hq).lt ?_) b1
  rw [tlw_at] at hq
  have hlt : k < pre.length := by
    rcases Nat.lt_or_ge k pre.length with h | h
    · exact h
    · rw [List.getElem?_eq_none h] at hq; cases hq
  cases h7 : pre[k]? with
  | none => rw [h7] at hq; cases hq
  | some e9 =>
    rw [h7] at hq
    cases hq
    show ¬ a + n ≤ a + k
    omega
theorem k_vret {mc ms : Nat} {body : List va_E} (Γ : gC X p m meth c cc nL s args own none) (hI : kI X a s H locs body) (hdg : decode cc pc = .ok (.return_, 1)) : W p l e R s m args below meth c H locs mc ms (MQ below (va_Qv (fun (_ : Unit) => True) (fun _ t => va_P X.1 vwCl (tlw a body) t.heap ∧ t.heap.size = a + body.length ∧ gK X t) (fun q : Nat => a ≤ q)) args s mc ms (fun q : Nat => a ≤ q)) (F0 m pc ls []) :=
  W.vret Γ.1.1 Γ.1.2.1 Γ.2.2.1 (fun t ht hW => ⟨⟨(), rfl, trivial, by rw [ht]; exact hI.1, by rw [ht]; exact hI.2.1, va_K.moved hW.alike Γ.2.1⟩, hI.2.2.F ht⟩) hI.2.2.2.2 hdg Γ.2.2.2
theorem k_obj (Γ : gC X p m meth c cc nL s args own rt) (hsz : ls.size = nL) {idx n : Nat} (hlink : Cond.methodLink own idx objectInit ∈ GW) (hinst : Cond.instanceMethod objectInit ∈ GW) (hcode : Cond.code objectInit ⟨#[0xb1]⟩ 1 none ∈ GW) (hd : decode cc pc = .ok (.invokespecial idx, 3)) (hfr : 1 ≤ R.frames) (hlo : 2 * (F0 m pc ls rest).monitorRoom + (rest.map fun v => v.category).sum + 12 ≤ R.locals)
    (kk : W p l e R s m args below meth c H locs cells slots Q (F0 m (pc + 3) ls rest)) : W p l e R s m args below meth c H locs cells slots Q (F0 m pc ls (.ref n :: rest)) :=
  W.objInit Γ.1.1 Γ.1.2.1 Γ.1.2.2.2.1 (Γ.1.2.2.2.2 _ hlink) (Γ.1.2.2.2.2 _ hinst) (Γ.1.2.2.2.2 _ hcode) rfl (by rw [Γ.1.2.2.1]; exact hsz) rfl hd hfr hlo kk
theorem kMet_of {l : Launch} {y : MethodName} {cc : ByteArray} {nL : Nat} {rm : Room} {X : GX} {a : Nat} {x0 : va_E} {own : String} {body : List va_E} {mc ms : Nat} (hy : plainName y.cls = true) (ho : y.cls = own) (hn : y.name = "<init>") (hlen : 1 ≤ nL)
    (bd : ∀ (p : Program) (e : Env) (s : State) (m : MethodId) (below : List Frame) (meth : Method) (c : Code) (H : Heap) (ls : Array Slot), gC X p m meth c cc nL s [Value.ref a].toArray own none → meth.name = "<init>" → kN s → kI X a s H [] [x0] → lv_has ls nL [(0, .ref a)] →
      W p l e rm s m [Value.ref a].toArray below meth c H [] 0 0 (MQ below (va_Qv (fun (_ : Unit) => True) (fun _ t => va_P X.1 vwCl (tlw a body) t.heap ∧ t.heap.size = a + body.length ∧ gK X t) (fun q : Nat => a ≤ q)) [Value.ref a].toArray s mc ms (fun q : Nat => a ≤ q)) (F0 m 0 ls [])) : kMet l y cc nL rm X a x0 body mc ms := by
  refine Met.ofW (cc := cc) (maxL := nL) (ret := none) hy rfl ?_
  intro p e s m args below meth c s₁ B hml hv
  obtain ⟨rfl, hz, hP, hK, hN⟩ := hv
  have hts := atoms_spec (ws := Cond.code y cc nL none :: GW) B.pre
  have hown : s.vm.findClass own = some m.cls := by rw [← ho]; exact findClass_of_methodNamed B.named
  have hmn : meth.name = "<init>" := by rw [← hn]; exact (name_of_methodNamed B.named B.method).1
  have hl := lv_entry [.ref a] (n := nL) hlen
  rw [lg_entry_eq]
  generalize (lg_sl [.ref a] ++ List.replicate (nL - (lg_sl [.ref a]).length) Slot.unset).toArray = ls at hl ⊢
  exact bd p e s m below meth c s.heap ls ⟨⟨B.exec, B.bytes, hml, hown, fun w hw => hts w (List.mem_cons_of_mem _ hw)⟩, hK, B.returns, B.notSynchronized⟩ hmn hN ⟨hP, hz, va_S.rf⟩ hl
end KROWS
