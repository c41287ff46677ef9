/-! EXCEPTIONS: point and bound throw, the law's two wrappers catch -/
def xT1 : String := "no such point, or nothing of that kind is told of it"
def xT2 : String := "a fraction has a number above and one below"
def NSE : String := "java/util/NoSuchElementException"
def xbadT : List Cond := [.castable NSE NSE, .declares (Bundle.initS "java/lang/RuntimeException"), .declares (Bundle.initS "java/lang/Exception"), .declares (Bundle.initS "java/lang/Throwable")]
/-- what a throw needs of the tables and of the heap, beside the words -/
def kX (X : GX) (U : State) (H : Heap) : Prop :=
  vx_Zq Bundle.tN "UNASSIGNED_STACK" Bundle.steD (gA X) U H ∧ vx_Zq Bundle.tN "SUPPRESSED_SENTINEL" Bundle.listD (gA X) U H ∧ (∃ sa, vk_R RX11 151 xT1 sa U) ∧ (∃ sa, vk_R RX11 221 xT2 sa U) ∧ ∀ w ∈ xbadT, va_Nw w U
theorem xbad_warm {s U : State} (hW : s.WarmedH U.vm) : ∀ w ∈ xbadT, va_Nw w s → va_Nw w U := by
  refine List.forall_mem_cons.mpr ⟨fun h => va_Nw.warmC hW h, List.forall_mem_cons.mpr ⟨fun h => va_Nw.warmD hW h, List.forall_mem_cons.mpr ⟨fun h => va_Nw.warmD hW h, List.forall_mem_cons.mpr ⟨fun h => va_Nw.warmD hW h, fun _ h => nomatch h⟩⟩⟩⟩
theorem kX.warm {X : GX} {s U : State} {H : Heap} (hW : s.WarmedH U.vm) (h : kX X s H) : kX X U H := by
  obtain ⟨h1, h2, ⟨a, h3⟩, ⟨b, h4⟩, h5⟩ := h
  exact ⟨vx_Zq.moved hW.alike h1, vx_Zq.moved hW.alike h2, ⟨a, vk_R.warm hW h3⟩, ⟨b, vk_R.warm hW h4⟩, fun w hw => xbad_warm hW w hw (h5 w hw)⟩
theorem kX.kept {X : GX} {U : State} {H0 H : Heap} (hq : ∀ a : Nat, a < H0.size → ¬ gA X a → H[a]? = H0[a]?) (h : kX X U H0) : kX X U H := by
  obtain ⟨h1, h2, h3⟩ := h
  exact ⟨h1.kept hq, h2.kept hq, h3⟩
theorem kX.frame {X : GX} {U : State} {H : Heap} {g : JFrame} {mk : MethodId} {b : Array Value} (h : kX X U H) : kX X (U.calling g mk b) H := by
  obtain ⟨h1, h2, ⟨a, h3⟩, ⟨b', h4⟩, h5⟩ := h
  exact ⟨vx_Zq.moved (u := U) (U := U.calling g mk b) (Vm.Alike.refl U.vm) h1, vx_Zq.moved (u := U) (U := U.calling g mk b) (Vm.Alike.refl U.vm) h2, ⟨a, vk_R.same (u := U) (U := U.calling g mk b) rfl h3⟩, ⟨b', vk_R.same (u := U) (U := U.calling g mk b) rfl h4⟩, fun w hw => by
    have h6 := h5 w hw
    simp only [xbadT, List.mem_cons, List.not_mem_nil, or_false] at hw
    rcases hw with rfl | rfl | rfl | rfl <;> exact va_Nw.same (u := U) (U := U.calling g mk b) rfl rfl h6⟩
abbrev gPcX (X : GX) (σ : GM) (av : List Value) : Array Value → State → Prop := va_Pc av (fun U => gP X σ U.heap ∧ gK X U ∧ kX X U U.heap)
theorem gPcX_blind (X : GX) (σ : GM) (av : List Value) : FrameBlind (gPcX X σ av) := fun a U g mk q => by
  obtain ⟨q1, q2, q3, q4⟩ := q
  exact ⟨q1, q2, va_K.moved (u := U) (U := U.calling g mk a) (Vm.Alike.refl U.vm) q3, q4.frame⟩
/-- the wrappers' contracts -/
abbrev xMet1 (l : Launch) (y : MethodName) (cc : ByteArray) (nL : Nat) (hh : List (Nat × Nat × Nat × Nat)) (rm : Room) (X : GX) (σ : GM) (av : List Value) (σ' : GM) (x : Int32) : Prop :=
  vx_Met l y (Cond.codeWith y cc nL (some .int) hh :: GW) rm (gPcX X σ av) (gQi X σ' x) (fun _ _ _ => False) 1 6 (gA X)
abbrev hhP : List (Nat × Nat × Nat × Nat) := [(0, 10, 13, 13)]
abbrev hhB : List (Nat × Nat × Nat × Nat) := [(0, 8, 11, 13)]
abbrev rmW : Room := { frames := 40, cells := 1, slots := 6, locals := 2000 }
abbrev mfW (y : MethodName) (cc : ByteArray) (nL : Nat) (hh : List (Nat × Nat × Nat × Nat)) (n : Nat) : Prop :=
  (Cond.codeWith y cc nL (some .int) hh ∈ GW ∧ Cond.static y ∈ GW ∧ Cond.initialized y.cls ∈ GW) ∧ y.cls ≠ "java/lang/invoke/MethodHandle" ∧ y.cls ≠ "java/lang/invoke/VarHandle" ∧ (parseMethodDescriptor y.desc).map (fun d => d.parameters.length) = some n
section XROWS
variable {p : Program} {l : Launch} {e : Env} {R : Room} {s : State} {m : MethodId} {args : Array Value} {below : List Frame} {meth : Method} {c : Code} {H : Heap} {locs : List Loc} {cells slots : Nat} {Q : State → Prop}
variable {cc : ByteArray} {pc nL : Nat} {ls : Array Slot} {rest : List Value} {X : GX} {σ : GM} {own : String} {rt : Option FieldType}
theorem g_c1 {y : MethodName} {bytes : ByteArray} {maxL n index : Nat} {hh : List (Nat × Nat × Nat × Nat)} {As st : List Value} {σ' : GM} {x : Int32} (Γ : gC X p m meth c cc nL s args own rt) (hI : gI X σ s H locs) (hZ : kX X s s.heap) (hM : xMet1 l y bytes maxL hh rmW X σ As σ' x) (hm : mfW y bytes maxL hh n) (hl : Cond.methodLink own index y ∈ GW) (hR : rmW.frames + 1 ≤ R.frames ∧ 8 + (maxL + 11) + rmW.locals ≤ R.locals)
    (hn : As.length = n) (hsize : ls.size = nL) (hstack : st = As.reverse ++ rest) (hW : (rest.map fun v => v.category).sum ≤ 8) (hdg : decode cc pc = .ok (.invokestatic index, 3)) (hf : cells + 1 ≤ R.cells ∧ slots + 6 ≤ R.slots)
    (kk : ∀ (H1 : Heap) (locs1 : List Loc), gI X σ' s H1 locs1 → W p l e R s m args below meth c H1 locs1 (cells + 1) (slots + 6) Q (F0 m (pc + 3) ls (.int x :: rest))) : W p l e R s m args below meth c H locs cells slots Q (F0 m pc ls st) := by
  obtain ⟨⟨h1, h2, h4⟩, h6⟩ := hm
  have hts := Γ.1.2.2.2.2
  have hG : GoodIn GW (va_wsS own index y (Cond.codeWith y bytes maxL (some .int) hh :: GW)) := fun w h => by
    rcases List.mem_append.mp h with h | h
    · simp only [List.mem_cons, List.not_mem_nil, or_false] at h
      rcases h with rfl | rfl | rfl
      · exact good_GW hl
      · exact good_GW h2
      · exact good_GW h4
    · rcases List.mem_cons.mp h with rfl | h
      · exact good_GW h1
      · exact good_GW h
  have hr := vx_runSX (e := e) (R := R) (below := below) (H := H) (locs := locs) (cells := cells) (slots := slots) (meth := meth) (g := F0 m pc ls st) (As := As) (rest := rest) Γ.1 hM (vx_cwSW n hts hG rfl rfl rfl h6 hR)
    ⟨gPcX_blind X σ _, fun U hU hW9 => ⟨rfl, by rw [hU]; exact hI.1, va_K.moved hW9.alike Γ.2.1, by rw [hU]; exact (hZ.kept hI.2.2.1).warm hW9⟩⟩ rfl hn hsize hstack (lv_room hW) hdg hf
  intro T hT X9
  rcases hr T hT X9 with ⟨v, st₀, t, T', L, h0, X', hL, e1, e2, ⟨⟨r, u, hv, ⟨hp1, hp2⟩, hB⟩, hz, hk⟩, stp⟩ | ⟨q, st₀, t, T', L, E, ce, h0, X', hL, e1, e2, hx, -⟩
  · cases hv; subst hp1; subst hp2
    rw [h0] at hz hk
    obtain ⟨t2, a1, b1⟩ := kk T'.heap (locs ++ L) ⟨by rw [e1]; exact hB.1, ⟨Nat.le_trans hI.2.1 (by rw [e1]; exact hz), fun q h1 h2 => by rw [e1, hk q (Nat.lt_of_lt_of_le h1 hI.2.1) h2]; exact hI.2.2.1 q h1 h2, fun q hq => (List.mem_append.mp hq).elim (hI.2.2.2 q) (hL q)⟩⟩ T' rfl X'
    exact ⟨t2, stp t2 a1, b1⟩
  · exact hx.elim
end XROWS
theorem mfw_point : mfW yL_point cL_point 5 hhP 4 := ⟨⟨gw_t4 35 rfl rfl, gw_t4 34 rfl rfl, gw_t1 0 rfl rfl⟩, by decide +kernel, by decide +kernel, by decide +kernel⟩
theorem mfw_bound : mfW yL_bound cL_bound 4 hhB 3 := ⟨⟨gw_t4 112 rfl rfl, gw_t4 111 rfl rfl, gw_t1 0 rfl rfl⟩, by decide +kernel, by decide +kernel, by decide +kernel⟩
theorem S_L_point (l : Launch) (X : GX) (σ : GM) (v1 v2 : Int32) (hcst : l.stackTraces = false) (σr : GM) (x : Int32) (h : f_L_point σ v1 v2 = some (σr, x)) : xMet1 l yL_point cL_point 5 hhP rmW X σ [.ref (X.2.1 + 0), .int v1, .int v2, .ref (X.2.1 + 75)] σr x := by
  sorry
theorem S_L_bound (l : Launch) (X : GX) (σ : GM) (v1 : Int32) (hcst : l.stackTraces = false) (σr : GM) (x : Int32) (h : f_L_bound σ v1 = some (σr, x)) : xMet1 l yL_bound cL_bound 4 hhB rmW X σ [.ref (X.2.1 + 0), .int v1, .ref (X.2.1 + 75)] σr x := by
  sorry
