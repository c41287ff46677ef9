/-! EXCEPTIONS: point and bound throw, the law's two wrappers catch -/
def xT1 : String := "no such point, or nothing of that kind is told of it"
def xT2 : String := "a fraction has a number above and one below"
def NSE : String := "java/util/NoSuchElementException"
def xbadT : List Cond := [.castable NSE NSE, .declares (Bundle.initS "java/lang/RuntimeException"), .declares (Bundle.initS "java/lang/Exception"), .declares (Bundle.initS "java/lang/Throwable")]
/-- what a throw needs of the tables and of the heap, beside the words -/
def kX (X : GX) (U : State) (H : Heap) : Prop :=
  vx_Zq Bundle.tN "UNASSIGNED_STACK" Bundle.steD (gA X) U H ∧ vx_Zq Bundle.tN "SUPPRESSED_SENTINEL" Bundle.listD (gA X) U H ∧ (∃ sa, vk_R RX11 151 xT1 sa U) ∧ (∃ sa, vk_R RX11 221 xT2 sa U) ∧ ∀ w ∈ xbadT, va_Nw w U
theorem xbad_warm {s U : State} (hW : s.WarmedH U.vm) : ∀ w ∈ xbadT, va_Nw w s → va_Nw w U := by
  refine List.forall_mem_cons.mpr ⟨fun h => va_Nw.warmC hW h, List.forall_mem_cons.mpr ⟨fun h => va_Nw.warmD hW h, List.forall_mem_cons.mpr ⟨fun h => va_Nw.warmD hW h, List.forall_mem_cons.mpr ⟨fun h => va_Nw.warmD hW h, fun _ h => nomatch h⟩⟩⟩⟩
theorem kX.warm {X : GX} {s U : State} {H : Heap} (hW : s.WarmedH U.vm) (h : kX X s H) : kX X U H := by
  obtain ⟨h1, h2, ⟨a, h3⟩, ⟨b, h4⟩, h5⟩ := h
  exact ⟨vx_Zq.moved hW.alike h1, vx_Zq.moved hW.alike h2, ⟨a, vk_R.warm hW h3⟩, ⟨b, vk_R.warm hW h4⟩, fun w hw => xbad_warm hW w hw (h5 w hw)⟩
theorem kX.kept {X : GX} {U : State} {H0 H : Heap} (hq : ∀ a : Nat, a < H0.size → ¬ gA X a → H[a]? = H0[a]?) (h : kX X U H0) : kX X U H := by
  obtain ⟨h1, h2, h3⟩ := h
  exact ⟨h1.kept hq, h2.kept hq, h3⟩
theorem kX.frame {X : GX} {U : State} {H : Heap} {g : JFrame} {mk : MethodId} {b : Array Value} (h : kX X U H) : kX X (U.calling g mk b) H := by
  obtain ⟨h1, h2, ⟨a, h3⟩, ⟨b', h4⟩, h5⟩ := h
  exact ⟨vx_Zq.moved (u := U) (U := U.calling g mk b) (Vm.Alike.refl U.vm) h1, vx_Zq.moved (u := U) (U := U.calling g mk b) (Vm.Alike.refl U.vm) h2, ⟨a, vk_R.same (u := U) (U := U.calling g mk b) rfl h3⟩, ⟨b', vk_R.same (u := U) (U := U.calling g mk b) rfl h4⟩, fun w hw => by
    have h6 := h5 w hw
    simp only [xbadT, List.mem_cons, List.not_mem_nil, or_false] at hw
    rcases hw with rfl | rfl | rfl | rfl <;> exact va_Nw.same (u := U) (U := U.calling g mk b) rfl rfl h6⟩
abbrev gPcX (X : GX) (σ : GM) (av : List Value) : Array Value → State → Prop := va_Pc av (fun U => gP X σ U.heap ∧ gK X U ∧ kX X U U.heap)
theorem gPcX_blind (X : GX) (σ : GM) (av : List Value) : FrameBlind (gPcX X σ av) := fun a U g mk q => by
  obtain ⟨q1, q2, q3, q4⟩ := q
  exact ⟨q1, q2, va_K.moved (u := U) (U := U.calling g mk a) (Vm.Alike.refl U.vm) q3, q4.frame⟩
/-- the wrappers' contracts -/
abbrev xMet1 (l : Launch) (y : MethodName) (cc : ByteArray) (nL : Nat) (hh : List (Nat × Nat × Nat × Nat)) (rm : Room) (X : GX) (σ : GM) (av : List Value) (σ' : GM) (x : Int32) : Prop :=
  vx_Met l y (Cond.codeWith y cc nL (some .int) hh :: GW) rm (gPcX X σ av) (gQi X σ' x) (fun _ _ _ => False) 1 6 (gA X)
abbrev hhP : List (Nat × Nat × Nat × Nat) := [(0, 10, 13, 13)]
abbrev hhB : List (Nat × Nat × Nat × Nat) := [(0, 8, 11, 13)]
abbrev rmW : Room := { frames := 40, cells := 1, slots := 6, locals := 2000 }
abbrev mfW (y : MethodName) (cc : ByteArray) (nL : Nat) (hh : List (Nat × Nat × Nat × Nat)) (n : Nat) : Prop :=
  (Cond.codeWith y cc nL (some .int) hh ∈ GW ∧ Cond.static y ∈ GW ∧ Cond.initialized y.cls ∈ GW) ∧ y.cls ≠ "java/lang/invoke/MethodHandle" ∧ y.cls ≠ "java/lang/invoke/VarHandle" ∧ (parseMethodDescriptor y.desc).map (fun d => d.parameters.length) = some n
section XROWS
variable {p : Program} {l : Launch} {e : Env} {R : Room} {s : State} {m : MethodId} {args : Array Value} {below : List Frame} {meth : Method} {c : Code} {H : Heap} {locs : List Loc} {cells slots : Nat} {Q : State → Prop}
variable {cc : ByteArray} {pc nL : Nat} {ls : Array Slot} {rest : List Value} {X : GX} {σ : GM} {own : String} {rt : Option FieldType}
theorem g_c1 {y : MethodName} {bytes : ByteArray} {maxL n index : Nat} {hh : List (Nat × Nat × Nat × Nat)} {As st : List Value} {σ' : GM} {x : Int32} (Γ : gC X p m meth c cc nL s args own rt) (hI : gI X σ s H locs) (hZ : kX X s s.heap) (hM : xMet1 l y bytes maxL hh rmW X σ As σ' x) (hm : mfW y bytes maxL hh n) (hl : Cond.methodLink own index y ∈ GW) (hR : rmW.frames + 1 ≤ R.frames ∧ 8 + (maxL + 11) + rmW.locals ≤ R.locals)
    (hn : As.length = n) (hsize : ls.size = nL) (hstack : st = As.reverse ++ rest) (hW : (rest.map fun v => v.category).sum ≤ 8) (hdg : decode cc pc = .ok (.invokestatic index, 3)) (hf : cells + 1 ≤ R.cells ∧ slots + 6 ≤ R.slots)
    (kk : ∀ (H1 : Heap) (locs1 : List Loc), gI X σ' s H1 locs1 → W p l e R s m args below meth c H1 locs1 (cells + 1) (slots + 6) Q (F0 m (pc + 3) ls (.int x :: rest))) : W p l e R s m args below meth c H locs cells slots Q (F0 m pc ls st) := by
  obtain ⟨⟨h1, h2, h4⟩, h6⟩ := hm
  have hts := Γ.1.2.2.2.2
  have hG : GoodIn GW (va_wsS own index y (Cond.codeWith y bytes maxL (some .int) hh :: GW)) := fun w h => by
    rcases List.mem_append.mp h with h | h
    · simp only [List.mem_cons, List.not_mem_nil, or_false] at h
      rcases h with rfl | rfl | rfl
      · exact good_GW hl
      · exact good_GW h2
      · exact good_GW h4
    · rcases List.mem_cons.mp h with rfl | h
      · exact good_GW h1
      · exact good_GW h
  have hr := vx_runSX (e := e) (R := R) (below := below) (H := H) (locs := locs) (cells := cells) (slots := slots) (meth := meth) (g := F0 m pc ls st) (As := As) (rest := rest) Γ.1 hM (vx_cwSW n hts hG rfl rfl rfl h6 hR)
    ⟨gPcX_blind X σ _, fun U hU hW9 => ⟨rfl, by rw [hU]; exact hI.1, va_K.moved hW9.alike Γ.2.1, by rw [hU]; exact (hZ.kept hI.2.2.1).warm hW9⟩⟩ rfl hn hsize hstack (lv_room hW) hdg hf
  intro T hT X9
  rcases hr T hT X9 with ⟨v, st₀, t, T', L, h0, X', hL, e1, e2, ⟨⟨r, u, hv, ⟨hp1, hp2⟩, hB⟩, hz, hk⟩, stp⟩ | ⟨q, st₀, t, T', L, E, ce, h0, X', hL, e1, e2, hx, -⟩
  · cases hv; subst hp1; subst hp2
    rw [h0] at hz hk
    obtain ⟨t2, a1, b1⟩ := kk T'.heap (locs ++ L) ⟨by rw [e1]; exact hB.1, ⟨Nat.le_trans hI.2.1 (by rw [e1]; exact hz), fun q h1 h2 => by rw [e1, hk q (Nat.lt_of_lt_of_le h1 hI.2.1) h2]; exact hI.2.2.1 q h1 h2, fun q hq => (List.mem_append.mp hq).elim (hI.2.2.2 q) (hL q)⟩⟩ T' rfl X'
    exact ⟨t2, stp t2 a1, b1⟩
  · exact hx.elim
end XROWS
def nseB : ByteArray := ⟨#[0x2a, 0x2b, 0xb7, 0x00, 0x0d, 0xb1]⟩
theorem nseB_0 : decode nseB 0 = .ok (.aload_n 0, 1) := by decide +kernel
theorem nseB_1 : decode nseB 1 = .ok (.aload_n 1, 1) := by decide +kernel
theorem nseB_2 : decode nseB 2 = .ok (.invokespecial 13, 3) := by decide +kernel
theorem nseB_5 : decode nseB 5 = .ok (.return_, 1) := by decide +kernel
/-- the words of a throw of NoSuchElementException with a text: its own constructor links by entry 13 -/
def nseAtoms (own : String) (ic : Nat) : List Cond :=
  Bundle.throwableAtoms ++ Bundle.throwableSAtoms ++ (Bundle.passSAtoms NSE "java/lang/RuntimeException" 13 nseB ++ Bundle.chainSAtoms "java/lang/RuntimeException" ["java/lang/Exception"]) ++
  [.methodLink own ic (Bundle.initS NSE), .instantiable NSE 6, .castable NSE NSE, .selects NSE Bundle.tFill0 Bundle.tFill0, .selects NSE Bundle.tFill Bundle.tFill,
   .lays NSE Bundle.tN "cause" "Ljava/lang/Throwable;", .lays NSE Bundle.tN "stackTrace" Bundle.steD, .lays NSE Bundle.tN "suppressedExceptions" Bundle.listD, .lays NSE Bundle.tN "detailMessage" "Ljava/lang/String;",
   .isRef (.static Bundle.tN "UNASSIGNED_STACK" Bundle.steD), .isRef (.static Bundle.tN "SUPPRESSED_SENTINEL" Bundle.listD),
   .fieldLink Bundle.tN 198 Bundle.tN "backtrace" "Ljava/lang/Object;", .lays Bundle.tN Bundle.tN "backtrace" "Ljava/lang/Object;", .lays NSE Bundle.tN "backtrace" "Ljava/lang/Object;"]
theorem nse_all : ∀ w ∈ nseAtoms RX11 153, (vx_no w = true → (w ∈ GW ∨ w ∈ xbadT)) ∧ (vx_ot w = true ∨ vx_no w = false) :=
  List.forall_mem_cons.mpr ⟨⟨fun _ => Or.inl (gw_t1 14 rfl rfl), Or.inl rfl⟩, List.forall_mem_cons.mpr ⟨⟨fun _ => Or.inl (gw_t4 63 rfl rfl), Or.inl rfl⟩, List.forall_mem_cons.mpr ⟨⟨fun _ => Or.inl (gw_t4 72 rfl rfl), Or.inl rfl⟩, List.forall_mem_cons.mpr ⟨⟨fun _ => Or.inl (gw_t4 74 rfl rfl), Or.inl rfl⟩, List.forall_mem_cons.mpr ⟨⟨fun _ => Or.inl (gw_t4 77 rfl rfl), Or.inl rfl⟩, List.forall_mem_cons.mpr ⟨⟨fun _ => Or.inl (gw_t4 79 rfl rfl), Or.inl rfl⟩, List.forall_mem_cons.mpr ⟨⟨fun _ => Or.inl (gw_t4 64 rfl rfl), Or.inl rfl⟩, List.forall_mem_cons.mpr ⟨⟨fun _ => Or.inl (gw_t4 65 rfl rfl), Or.inl rfl⟩, List.forall_mem_cons.mpr ⟨⟨fun _ => Or.inl (gw_t1 26 rfl rfl), Or.inl rfl⟩, List.forall_mem_cons.mpr ⟨⟨fun _ => Or.inl (gw_t1 27 rfl rfl), Or.inl rfl⟩, List.forall_mem_cons.mpr ⟨⟨fun _ => Or.inl (gw_t4 66 rfl rfl), Or.inl rfl⟩, List.forall_mem_cons.mpr ⟨⟨fun _ => Or.inl (gw_t4 71 rfl rfl), Or.inl rfl⟩, List.forall_mem_cons.mpr ⟨⟨fun _ => Or.inl (gw_t4 75 rfl rfl), Or.inl rfl⟩, List.forall_mem_cons.mpr ⟨⟨fun _ => Or.inl (gw_t4 95 rfl rfl), Or.inl rfl⟩, List.forall_mem_cons.mpr ⟨⟨fun _ => Or.inl (gw_t4 53 rfl rfl), Or.inl rfl⟩, List.forall_mem_cons.mpr ⟨⟨fun _ => Or.inl (gw_t4 96 rfl rfl), Or.inl rfl⟩, List.forall_mem_cons.mpr ⟨⟨fun _ => Or.inl (gw_t4 55 rfl rfl), Or.inl rfl⟩, List.forall_mem_cons.mpr ⟨⟨fun _ => Or.inl (gw_t4 97 rfl rfl), Or.inl rfl⟩, List.forall_mem_cons.mpr ⟨⟨fun _ => Or.inl (gw_t4 57 rfl rfl), Or.inl rfl⟩, List.forall_mem_cons.mpr ⟨⟨fun _ => Or.inl (gw_t4 67 rfl rfl), Or.inl rfl⟩, List.forall_mem_cons.mpr ⟨⟨fun h => absurd h (by decide +kernel), Or.inr (by decide +kernel)⟩, List.forall_mem_cons.mpr ⟨⟨fun _ => Or.inl (gw_t4 69 rfl rfl), Or.inl rfl⟩, List.forall_mem_cons.mpr ⟨⟨fun h => absurd h (by decide +kernel), Or.inr (by decide +kernel)⟩, List.forall_mem_cons.mpr ⟨⟨fun _ => Or.inl (gw_t4 59 rfl rfl), Or.inl rfl⟩, List.forall_mem_cons.mpr ⟨⟨fun _ => Or.inl (gw_t4 91 rfl rfl), Or.inl rfl⟩, List.forall_mem_cons.mpr ⟨⟨fun _ => Or.inl (gw_t4 92 rfl rfl), Or.inl rfl⟩, List.forall_mem_cons.mpr ⟨⟨fun _ => Or.inl (gw_t4 94 rfl rfl), Or.inl rfl⟩, List.forall_mem_cons.mpr ⟨⟨fun _ => Or.inl (gw_t4 59 rfl rfl), Or.inl rfl⟩, List.forall_mem_cons.mpr ⟨⟨fun _ => Or.inl (gw_t4 82 rfl rfl), Or.inl rfl⟩, List.forall_mem_cons.mpr ⟨⟨fun _ => Or.inl (gw_t4 83 rfl rfl), Or.inl rfl⟩, List.forall_mem_cons.mpr ⟨⟨fun _ => Or.inl (gw_t4 84 rfl rfl), Or.inl rfl⟩, List.forall_mem_cons.mpr ⟨⟨fun _ => Or.inl (gw_t4 85 rfl rfl), Or.inl rfl⟩, List.forall_mem_cons.mpr ⟨⟨fun _ => Or.inr (List.mem_of_getElem? (i := 1) rfl), Or.inl rfl⟩, List.forall_mem_cons.mpr ⟨⟨fun _ => Or.inl (gw_t4 85 rfl rfl), Or.inl rfl⟩, List.forall_mem_cons.mpr ⟨⟨fun _ => Or.inl (gw_t4 86 rfl rfl), Or.inl rfl⟩, List.forall_mem_cons.mpr ⟨⟨fun _ => Or.inl (gw_t4 87 rfl rfl), Or.inl rfl⟩, List.forall_mem_cons.mpr ⟨⟨fun _ => Or.inl (gw_t4 88 rfl rfl), Or.inl rfl⟩, List.forall_mem_cons.mpr ⟨⟨fun _ => Or.inr (List.mem_of_getElem? (i := 2) rfl), Or.inl rfl⟩, List.forall_mem_cons.mpr ⟨⟨fun _ => Or.inl (gw_t4 88 rfl rfl), Or.inl rfl⟩, List.forall_mem_cons.mpr ⟨⟨fun _ => Or.inl (gw_t4 89 rfl rfl), Or.inl rfl⟩, List.forall_mem_cons.mpr ⟨⟨fun _ => Or.inl (gw_t4 90 rfl rfl), Or.inl rfl⟩, List.forall_mem_cons.mpr ⟨⟨fun _ => Or.inl (gw_t4 91 rfl rfl), Or.inl rfl⟩, List.forall_mem_cons.mpr ⟨⟨fun _ => Or.inr (List.mem_of_getElem? (i := 3) rfl), Or.inl rfl⟩, List.forall_mem_cons.mpr ⟨⟨fun _ => Or.inl (gw_t4 81 rfl rfl), Or.inl rfl⟩, List.forall_mem_cons.mpr ⟨⟨fun _ => Or.inl (gw_t4 42 rfl rfl), Or.inl rfl⟩, List.forall_mem_cons.mpr ⟨⟨fun _ => Or.inr (List.mem_of_getElem? (i := 0) rfl), Or.inl rfl⟩, List.forall_mem_cons.mpr ⟨⟨fun _ => Or.inl (gw_t4 50 rfl rfl), Or.inl rfl⟩, List.forall_mem_cons.mpr ⟨⟨fun _ => Or.inl (gw_t4 51 rfl rfl), Or.inl rfl⟩, List.forall_mem_cons.mpr ⟨⟨fun _ => Or.inl (gw_t4 52 rfl rfl), Or.inl rfl⟩, List.forall_mem_cons.mpr ⟨⟨fun _ => Or.inl (gw_t4 54 rfl rfl), Or.inl rfl⟩, List.forall_mem_cons.mpr ⟨⟨fun _ => Or.inl (gw_t4 56 rfl rfl), Or.inl rfl⟩, List.forall_mem_cons.mpr ⟨⟨fun _ => Or.inl (gw_t4 58 rfl rfl), Or.inl rfl⟩, List.forall_mem_cons.mpr ⟨⟨fun h => absurd h (by decide +kernel), Or.inr (by decide +kernel)⟩, List.forall_mem_cons.mpr ⟨⟨fun h => absurd h (by decide +kernel), Or.inr (by decide +kernel)⟩, List.forall_mem_cons.mpr ⟨⟨fun _ => Or.inl (gw_t4 62 rfl rfl), Or.inl rfl⟩, List.forall_mem_cons.mpr ⟨⟨fun _ => Or.inl (gw_t4 61 rfl rfl), Or.inl rfl⟩, List.forall_mem_cons.mpr ⟨⟨fun _ => Or.inl (gw_t4 60 rfl rfl), Or.inl rfl⟩, fun _ h => nomatch h⟩⟩⟩⟩⟩⟩⟩⟩⟩⟩⟩⟩⟩⟩⟩⟩⟩⟩⟩⟩⟩⟩⟩⟩⟩⟩⟩⟩⟩⟩⟩⟩⟩⟩⟩⟩⟩⟩⟩⟩⟩⟩⟩⟩⟩⟩⟩⟩⟩⟩⟩⟩⟩⟩⟩⟩⟩
set_option maxHeartbeats 2000000 in
/-- the constructor of NoSuchElementException(String) behind 'new', and athrow (follows the library's ctorThrowS; the first link is its own) -/
theorem nse_ctor {p : Program} {l : Launch} {e : Env} {R : Room} {s : State} {m₀ : MethodId} {args : Array Value} {below : List Frame} {meth : Method} {c : Code} {W0 : State} {locs : List Loc} {cells slots : Nat} (X : Stand p l e R s m₀ args below meth c W0 locs cells slots) (hexec : p.tables.exec = Jvm.exec) (htr : e.platform.stackTraces = false) {own : String} {ic : Nat}
    (hown : s.vm.findClass own = some m₀.cls) (h : ∀ a ∈ nseAtoms own ic, a.before args s = true)
    (hlocs : ∀ x ∈ locs, ∀ cell, s.heap[x.base]? = some cell → cell.vm.isStatics = false)
    {a : Addr} {cX : ClassId} {kX : Class} (hfoundX : s.vm.findClass NSE = some cX) (hkX : s.vm.classes[cX]? = some kX) (hcell : W0.heap[a]? = some (freshCell cX kX)) (hnew : s.heap.size ≤ a)
    {msg : Value} (hmsg : msg.isRef = true)
    {g : JFrame} (hg : g.method = m₀) (hsize : g.locals.size = c.maxLocals) (hlocked : g.locked = none) (hentered : g.entered = []) {rest : List Value} (hstack : g.stack = msg :: .ref a :: .ref a :: rest)
    (hd6 : decode c.code g.pc = .ok (.invokespecial ic, 3)) (hd9 : decode c.code (g.pc + 3) = .ok (.athrow, 1)) (hout : ∀ x ∈ c.exceptionTable.toList, covers x (g.pc + 3) = false)
    (hRframes : 2 + 3 < R.frames) (hRlocals : 2 * g.monitorRoom + ((Value.ref a :: rest).map fun v => v.category).sum + (13 * (2 + 1) + 42) ≤ R.locals) (hlocks : meth.locks = false) :
    ∃ U : State, Steps p.tables e below (W0.setTop g) U ∧ U.status = .running ∧ Ended U below (.threw a) ∧ s.WarmedH U.vm ∧ s.sameButNew ({ U with vm := s.vm } : State) locs cells slots ∧
      ∃ ce, U.heap[a]? = some ce ∧ ce.vm = .none ∧ s.vm.findClass NSE = some ce.cls := by
  have howns : e.platform.frameOwnsMonitors = true := by rw [X.admits.platform]
  have hfin : e.platform.finalization = false := by rw [X.admits.platform]
  have hpl : e.platform.magicAccessors = ({} : Platform).magicAccessors := by rw [X.admits.platform]
  have hcls : Bundle.fit NSE = true := by decide +kernel
  have hRE : Bundle.fit "java/lang/RuntimeException" = true := by decide +kernel
  have a' : ∀ x, x ∈ nseAtoms own ic → x.holds args s none s [] = true := fun x hx => h x hx
  obtain ⟨T, Z0, L, -, Y⟩ := ThrowableC.of_atoms (args := args) howns hfin hpl (fun x hx => h x (by simp [nseAtoms, hx]))
  obtain ⟨Z, M, LZ, LM, hnZ⟩ := Init0T.ofS_atoms (args := args) hpl L Y (fun x hx => h x (by simp [nseAtoms, hx]))
  obtain ⟨P1, L1, hP1m, hs1⟩ := PassC.ofS_atoms (args := args) (s := s) hpl (X := NSE) (Y := "java/lang/RuntimeException") (Bundle.fit_spec hcls).1 (Bundle.fit_spec hRE).2 nseB_0 nseB_1 nseB_2 nseB_5
    (fun x hx => h x (by simp only [nseAtoms, List.mem_append]; exact Or.inl (Or.inr (Or.inl hx))))
  obtain ⟨P2, Ps2, hlen2, L2, hL2, hP2m, hlink2, hpass2⟩ := Bundle.chainS (args := args) hpl hnZ ["java/lang/Exception"] "java/lang/RuntimeException" hRE (fun n hn => by rw [List.mem_singleton.mp hn]; decide +kernel)
    (fun x hx => h x (by simp only [nseAtoms, List.mem_append]; exact Or.inl (Or.inr (Or.inr hx))))
  obtain ⟨Ps, hPs⟩ : ∃ z, z = P2 :: Ps2 := ⟨_, rfl⟩
  have hlen : Ps.length = 2 := by rw [hPs]; simp [hlen2]
  have hL : ∀ P, P ∈ Ps → P.LinksS e.platform s := by
    intro P hP
    rw [hPs] at hP
    rcases List.mem_cons.mp hP with rfl | hP
    · exact L2
    · exact hL2 P hP
  have hlink1 := Option.some.inj (hs1.symm.trans hP2m)
  have hfound : s.vm.findClass NSE = some P1.m.cls := findClass_of_methodNamed hP1m
  cases Option.some.inj (hfoundX.symm.trans hfound)
  obtain ⟨c1, kX', hc1, hk, hord, -, -, hn6⟩ := Cond.instantiable_spec (a' (.instantiable NSE 6) (by simp [nseAtoms]))
  cases Option.some.inj (hc1.symm.trans hfound)
  cases Option.some.inj (hkX.symm.trans hk)
  have hsel0 : selectMethod e.platform s.vm P1.m.cls T.fill0 = .method T.fill0 := by
    obtain ⟨c2, r2, m2, q1, q2, q3, q4, -⟩ := Cond.selects_spec (a' (.selects NSE Bundle.tFill0 Bundle.tFill0) (by simp [nseAtoms]))
    cases Option.some.inj (q1.symm.trans hfound)
    cases Option.some.inj (q2.symm.trans (State.methodFound?_of_named Y.fill0 (by decide)))
    cases Option.some.inj (q3.symm.trans Y.fill0)
    rw [Launch.admits_selectMethod X.admits]; exact q4
  have hselF : selectMethod e.platform s.vm P1.m.cls T.fill = .method T.fill := by
    obtain ⟨c2, r2, m2, q1, q2, q3, q4, -⟩ := Cond.selects_spec (a' (.selects NSE Bundle.tFill Bundle.tFill) (by simp [nseAtoms]))
    cases Option.some.inj (q1.symm.trans hfound)
    cases Option.some.inj (q2.symm.trans (State.methodFound?_of_named Y.fill (by decide)))
    cases Option.some.inj (q3.symm.trans Y.fill)
    rw [Launch.admits_selectMethod X.admits]; exact q4
  obtain ⟨cellS0, hcS0, hiss⟩ := Y.statics
  obtain ⟨u0, hu0⟩ := Cond.staticRefV Y.unassigned L.unassignedStatic L.statics hcS0 hiss (a' (.isRef (.static Bundle.tN "UNASSIGNED_STACK" Bundle.steD)) (by simp [nseAtoms]))
  obtain ⟨sen, hsen⟩ := Cond.staticRefV Y.sentinel L.sentinelStatic L.statics hcS0 hiss (a' (.isRef (.static Bundle.tN "SUPPRESSED_SENTINEL" Bundle.listD)) (by simp [nseAtoms]))
  obtain ⟨ci198, i198, fB, hk198, hg198, ha198, hsB, -, hnB, htB, hffB⟩ := Cond.ownField (t := .object "java/lang/Object") Y.found L.cls (by decide +kernel) (a' (.fieldLink Bundle.tN 198 Bundle.tN "backtrace" "Ljava/lang/Object;") (by simp [nseAtoms])) (a' (.lays Bundle.tN Bundle.tN "backtrace" "Ljava/lang/Object;") (by simp [nseAtoms])) e.platform hpl
  obtain ⟨cellS, hcS', heS, -, hkeep⟩ := X.same.2.2.2.2.2 T.aS cellS0 hcS0
  have hcellS : W0.heap[T.aS]? = some cellS := hcS'
  have hout' : ∀ i, (⟨T.aS, i⟩ : Loc) ∉ locs := fun i hmem => by
    have := hlocs _ hmem cellS0 hcS0
    rw [hiss] at this; cases this
  have hknownS : cellS.vm ≠ .unknown := by
    rw [heS]; intro hu
    rw [show cellS0.vm = .unknown from hu] at hiss
    cases hiss
  have hneS : T.aS ≠ a := Nat.ne_of_lt (Nat.lt_of_lt_of_le (Array.getElem?_eq_some_iff.mp hcS0).1 hnew)
  obtain ⟨iM, hffM⟩ := Y.msg
  obtain ⟨tyC, dC, hdC, hdnC⟩ := Cond.laysAt hfound hk Y.cause (a' (.lays NSE Bundle.tN "cause" "Ljava/lang/Throwable;") (by simp [nseAtoms]))
  obtain ⟨tyS, dS, hdS, hdnS⟩ := Cond.laysAt hfound hk Y.stack (a' (.lays NSE Bundle.tN "stackTrace" Bundle.steD) (by simp [nseAtoms]))
  obtain ⟨tyP, dP, hdP, hdnP⟩ := Cond.laysAt hfound hk Y.supp (a' (.lays NSE Bundle.tN "suppressedExceptions" Bundle.listD) (by simp [nseAtoms]))
  obtain ⟨tyM, dM, hdM, hdnM⟩ := Cond.laysAt hfound hk hffM (a' (.lays NSE Bundle.tN "detailMessage" "Ljava/lang/String;") (by simp [nseAtoms]))
  obtain ⟨tyB, dB, hdB, hdnB⟩ := Cond.laysAt hfound hk hffB (a' (.lays NSE Bundle.tN "backtrace" "Ljava/lang/Object;") (by simp [nseAtoms]))
  have bC := Cond.laysApart hdB hdC hdnB hdnC (by rw [hnB, Y.causeName]; decide)
  have bS := Cond.laysApart hdB hdS hdnB hdnS (by rw [hnB, Y.stackName]; decide)
  have bP := Cond.laysApart hdB hdP hdnB hdnP (by rw [hnB, Y.suppName]; decide)
  have hskip : SkipFacts T e.platform s (fun u => u) u0 ((preparedCellV T.toThrowableT (freshCell P1.m.cls kX) a u0 sen).withEntry W0.cur) :=
    ⟨{ ci198 := ci198, i198 := i198, fBack := fB }, ⟨hk198, hg198, ha198, hsB⟩, by
      have := fresh_default (c := P1.m.cls) tyB
      rw [htB] at this
      simpa [preparedCellV, Cell.setSlot, Cell.withEntry, Array.getElem?_setIfInBounds, bC, bS, bP, bC.symm, bS.symm, bP.symm, defaultValue] using this, fun _ _ => rfl⟩
  obtain ⟨tm, methC, cdC, kC, vm₁, hnC, -, -, -, -, -, -, -, hW₁, st1⟩ := Steps.initColdS (tb := p.tables) (e := e) (below := below) (s := s) (U := W0) X.here hexec X.warmed hpl hown (t := Bundle.initS NSE) rfl rfl (Bundle.fit_spec hcls).2
    (a' (.methodLink own ic (Bundle.initS NSE)) (by simp [nseAtoms])) (h (.instanceMethod (Bundle.initS NSE)) (by simp [nseAtoms, Bundle.passSAtoms])) (bytes := nseB) (maxL := 2) (h (.code (Bundle.initS NSE) nseB 2 none) (by simp [nseAtoms, Bundle.passSAtoms]))
    (f := g) hg (a := a) (msg := msg) (rest := .ref a :: rest) hstack hd6
  cases Option.some.inj (hnC.symm.trans hP1m)
  have X₁ := X.noted hW₁
  obtain ⟨vm₂, X₂, st2⟩ := X₁.ctorMessageOffV hexec (g := { g with stack := .ref a :: rest }) hg hsize T L Z LZ M LM (P1 :: P2 :: Ps2)
    (fun P hP => by rcases List.mem_cons.mp hP with rfl | hP; exact L1; rw [← hPs] at hP; exact hL P hP) ⟨hlink1, hlink2, hpass2⟩ (u0 := u0) (sen := sen) (self := a) hmsg (cell := freshCell P1.m.cls kX) (cellS := cellS)
    hcell (fun _ => by simp) (by simp) rfl rfl hsel0 hselF hcellS hneS hknownS (by rw [hkeep _ (hout' _)]; exact hu0) (by rw [hkeep _ (hout' _)]; exact hsen)
    (Takes.of_laid hk hord tyC (by rw [Y.causeType]; rfl)) (Takes.of_laid hk hord tyS (by rw [Y.stackType]; exact fits_refV_array _ u0)) (Takes.of_laid hk hord tyP (by rw [Y.suppType]; exact fits_refV_object _ sen))
    (Takes.of_laid hk hord tyM (by rw [Y.msgType]; exact fits_refV_object _ ⟨msg, hmsg⟩)) Y.objLocals hskip htr [] hd6
    (by rw [hPs] at hlen; simp only [List.length_cons] at hlen ⊢; omega) (by rw [hPs] at hlen; simp only [List.length_cons] at hlen ⊢; rw [hlen]; exact hRlocals)
  obtain ⟨hwalk, hrun, hended, hWU, hsame⟩ := X₂.athrowLeaves hexec (g := { g with stack := .ref a :: rest, pc := g.pc + 3 }) hg hlocked hentered hout (a := a) (rest := rest) rfl hd9
  have hlt : a < ((W0.setVm vm₁).setVm vm₂).heap.size := (Array.getElem?_eq_some_iff.mp hcell).1
  have hU := heapAt_setCell_self (s := (W0.setVm vm₁).setVm vm₂) (plainBareV T.toThrowableT (freshCell P1.m.cls kX) a u0 sen msg) hlt
  refine ⟨_, st1 _ (fun acts => ?_), hrun, hended, hWU, hsame.weaken (fun y hy hlt' => ?_) (Nat.le_refl _) (Nat.le_refl _), _, hU, rfl, hfound⟩
  · rw [doInvoke_state]
    exact st2 _ hwalk
  · rcases List.mem_append.mp hy with h1 | h1
    · exact h1
    · exfalso
      have hb : y.base = a := by
        simp only [List.mem_cons, List.not_mem_nil, or_false] at h1
        rcases h1 with rfl | rfl | rfl | rfl | rfl <;> rfl
      rw [hb] at hlt'
      exact Nat.not_lt.mpr hnew hlt'
section NSEROW
variable {p : Program} {l : Launch} {e : Env} {R : Room} {s : State} {m : MethodId} {args : Array Value} {below : List Frame} {meth : Method} {c : Code} {H : Heap} {locs : List Loc} {cells slots : Nat}
variable {cc : ByteArray} {pc nL : Nat} {ls : Array Slot} {rest : List Value} {X : GX} {σ : GM} {rt : Option FieldType} {Qc : Array Value → State → Outcome → State → Prop} {XC : String → State → State → Prop} {free : Addr → Prop}
/-- 'throw new NoSuchElementException("..")' in RingCutters -/
theorem nse_throw (Γ : gC X p m meth c cc nL s args RX11 rt) (hI : gI X σ s H locs) (hl : l.stackTraces = false) (hsz : ls.size = nL) (hZ : kX X s s.heap) {is sa mc ms : Nat} {text : String} (hstr : vk_R RX11 is text sa s)
    (d0 : decode cc pc = .ok (.new 149, 3)) (d3 : decode cc (pc + 3) = .ok (.dup, 1)) (d4 : decode cc (pc + 4) = .ok (.ldc is, 2)) (d6 : decode cc (pc + 6) = .ok (.invokespecial 153, 3)) (d9 : decode cc (pc + 9) = .ok (.athrow, 1))
    (hout : ∀ x ∈ c.exceptionTable.toList, False) (hRframes : 5 < R.frames) (hRlocals : (rest.map fun v => v.category).sum + 100 ≤ R.locals) (hRcells : cells + 1 ≤ R.cells) (hRslots : slots + 6 ≤ R.slots)
    (hx : ∀ t : State, s.vm.Alike t.vm → H.size ≤ t.heap.size → (∀ q : Nat, q < H.size → t.heap[q]? = H[q]?) → XC NSE s t) (hf : ∀ z ∈ locs, free z.base) (hc : cells + 1 ≤ mc) (hs : slots + 6 ≤ ms) :
    W p l e R s m args below meth c H locs cells slots (vx_MQ below Qc XC args s mc ms free) (F0 m pc ls rest) := by
  have hexec := Γ.1.1
  have hb := Γ.1.2.1
  have hown := Γ.1.2.2.2.1
  have hts := Γ.1.2.2.2.2
  have hlocks := Γ.2.2.2
  intro T hT X9
  have htr : e.platform.stackTraces = false := (show e.platform.stackTraces = l.stackTraces by rw [X9.admits.platform]).trans hl
  have Y := vx_rebase X9 (R' := { frames := R.frames, locals := R.locals, cells := 1, slots := 6 }) (Nat.le_refl _) (Nat.le_refl _) hRcells hRslots
  obtain ⟨s', hA⟩ : ∃ z, z = (T.setVm s.vm).setFrames (.invoking m args :: below) := ⟨_, rfl⟩
  rw [← hA] at Y
  have hvm : s'.vm = s.vm := by rw [hA]; rfl
  have hhp : s'.heap = H := by rw [hA]; exact hT
  have hW0 : s.WarmedH s'.vm := by rw [hvm]; exact State.WarmedH.refl s
  have hbad : ∀ w ∈ xbadT, w.before args s = true := by
    refine List.forall_mem_cons.mpr ⟨?_, List.forall_mem_cons.mpr ⟨?_, List.forall_mem_cons.mpr ⟨?_, List.forall_mem_cons.mpr ⟨?_, fun _ h => nomatch h⟩⟩⟩⟩
    · exact va_Nw.use rfl (hZ.2.2.2.2 _ (List.mem_of_getElem? (i := 0) rfl))
    · exact va_Nw.use rfl (hZ.2.2.2.2 _ (List.mem_of_getElem? (i := 1) rfl))
    · exact va_Nw.use rfl (hZ.2.2.2.2 _ (List.mem_of_getElem? (i := 2) rfl))
    · exact va_Nw.use rfl (hZ.2.2.2.2 _ (List.mem_of_getElem? (i := 3) rfl))
  have hat' : ∀ w ∈ (nseAtoms RX11 153).filter vx_no, w.before args s' = true := fun w hw => by
    obtain ⟨w1, w2⟩ := List.mem_filter.mp hw
    obtain ⟨q1, q2⟩ := nse_all w w1
    have hot : vx_ot w = true := q2.elim id (fun h9 => by rw [h9] at w2; cases w2)
    exact vx_ot_at hW0 hvm.symm hot ((q1 w2).elim (hts w) (hbad w))
  have hk' : (Cond.classLink RX11 149 NSE).before args s' = true := vx_ot_at hW0 hvm.symm rfl (hts _ (gw_t4 41 rfl rfl))
  have hini' : (Cond.initialized NSE).before args s' = true := vx_ot_at hW0 hvm.symm rfl (hts _ (gw_t1 17 rfl rfl))
  have hU' : vx_Zq Bundle.tN "UNASSIGNED_STACK" Bundle.steD (gA X) s' s'.heap := by rw [hhp]; exact vx_Zq.moved hW0.alike (hZ.1.kept hI.2.2.1)
  have hN' : vx_Zq Bundle.tN "SUPPRESSED_SENTINEL" Bundle.listD (gA X) s' s'.heap := by rw [hhp]; exact vx_Zq.moved hW0.alike (hZ.2.1.kept hI.2.2.1)
  have h : ∀ w ∈ nseAtoms RX11 153, w.before args s' = true := vx_own hat' (vx_isRefq hU'.1) (vx_isRefq hN'.1) hU'.2.word hN'.2.word
  have hown' : s'.vm.findClass RX11 = some m.cls := by rw [hvm]; exact hown
  have hins : (Cond.instantiable NSE 6).before args s' = true := h _ (by simp [nseAtoms])
  obtain ⟨vm₁, cX, kX, hfX, hkX, -, -, X₁, st1⟩ := Y.newCold hexec (own := RX11) (C := NSE) (index := 149) (n := 6) hown' hk' hins hini'
    (g := F0 m pc ls rest) rfl (by rw [hb]; exact d0) (Nat.le_refl _) (Nat.le_refl _)
  generalize hT1 : (T.setVm vm₁).pushCell { cls := cX, slots := kX.instanceTypes.map defaultValue, vm := .none } = T1 at X₁ st1
  have hcat : (Value.ref T.heap.size).category = 1 := rfl
  have hcellA : T1.heap[T.heap.size]? = some (freshCell cX kX) := by rw [← hT1]; exact State.heap_pushCell_size _ _
  have d3' : decode c.code (pc + 3) = .ok (.dup, 1) := by rw [hb]; exact d3
  have d4' : decode c.code (pc + 4) = .ok (.ldc is, 2) := by rw [hb]; exact d4
  have hstr' : vk_R RX11 is text sa s' := vk_R.warm hW0 hstr
  obtain ⟨U, hsteps, hrun, hend, hW, hsame, ce, hce, hcv, hcc⟩ := nse_ctor X₁ hexec htr (own := RX11) (ic := 153) hown' h (fun x hx => nomatch hx) hfX hkX hcellA (by rw [hhp, hT]; exact Nat.le_refl _) (msg := .ref sa) rfl
    (g := { method := m, pc := pc + 6, locals := ls, stack := .ref sa :: .ref T.heap.size :: .ref T.heap.size :: rest, locked := none }) rfl (hsz.trans Γ.1.2.2.1.symm) rfl rfl (rest := rest) rfl
    (by rw [hb]; exact d6) (by rw [hb]; exact d9) (fun x hx => (hout x hx).elim) hRframes (by simp only [List.map_cons, List.sum_cons, hcat]; show 2 * 0 + _ + _ ≤ R.locals; omega) hlocks
  obtain ⟨f1, f2⟩ := vx_frame hsame
  rw [hhp] at f1 f2
  have hWs : s.WarmedH U.vm := State.WarmedH.trans hW0 hW
  have hcl : s.vm.findClass NSE = some ce.cls := by
    rw [hvm] at hcc
    exact hcc
  have hall : s.sameButNew ({ U with vm := s.vm } : State) locs mc ms := by
    subst hA
    obtain ⟨e1, e2⟩ := hsame
    rw [State.setFrames_setFrames] at e1
    have h2 : (T.setVm s.vm).sameButNew ({ U with vm := s.vm } : State) [] (0 + 1) (0 + 6) := ⟨e1, e2⟩
    have h3 := X9.same.trans h2
    rw [List.append_nil] at h3
    exact h3.mono hc hs
  refine ⟨U, ?_, .threw T.heap.size, hrun, hend, Or.inr ⟨T.heap.size, rfl, NSE, ce, locs, hx U hWs.alike f1 (fun q hq => f2 q hq (fun z hz => nomatch hz)), hce, hcv, hcl, hWs, hall, hf⟩⟩
  refine st1 _ ?_
  show Steps p.tables e below (T1.setTop { method := m, pc := pc + 3, locals := ls, stack := .ref T.heap.size :: rest, locked := none }) _
  jvm_step X₁.here [X₁.here.top, hexec, d3', Value.category]
  exact X₁.ldcString hexec (own := RX11) (text := text) (index := is) (a := sa) hown' hstr'.1 hstr'.2
    (g := { method := m, pc := pc + 4, locals := ls, stack := .ref T.heap.size :: .ref T.heap.size :: rest, locked := none }) rfl d4' _ hsteps
end NSEROW
theorem mfw_point : mfW yL_point cL_point 5 hhP 4 := ⟨⟨gw_t4 35 rfl rfl, gw_t4 34 rfl rfl, gw_t1 0 rfl rfl⟩, by decide +kernel, by decide +kernel, by decide +kernel⟩
theorem mfw_bound : mfW yL_bound cL_bound 4 hhB 3 := ⟨⟨gw_t4 112 rfl rfl, gw_t4 111 rfl rfl, gw_t1 0 rfl rfl⟩, by decide +kernel, by decide +kernel, by decide +kernel⟩
abbrev gQiT (X : GX) (σ' : GM) (o : Option Int32) : Array Value → State → Outcome → State → Prop := va_Qi (fun (r : Int32) (u : GM) => o = some r ∧ u = σ') (gB X) (gA X)
abbrev gQlT (X : GX) (σ' : GM) (o : Option Int64) : Array Value → State → Outcome → State → Prop := va_Ql (fun (r : Int64) (u : GM) => o = some r ∧ u = σ') (gB X) (gA X)
abbrev gXC {α : Type} (X : GX) (σ' : GM) (o : Option α) : String → State → State → Prop := vx_X (fun (u : GM) => o = none ∧ u = σ') (fun (E : String) (u : GM) (t : State) => E = NSE ∧ gB X u t) (gA X)
abbrev xMetT (l : Launch) (y : MethodName) (cc : ByteArray) (nL : Nat) (rt : Option FieldType) (rm : Room) (X : GX) (σ : GM) (av : List Value) (Qc : Array Value → State → Outcome → State → Prop) (XC : String → State → State → Prop) : Prop :=
  vx_Met l y (Cond.code y cc nL rt :: GW) rm (gPcX X σ av) Qc XC 1 6 (gA X)
section XENDS
variable {p : Program} {l : Launch} {e : Env} {R : Room} {s : State} {m : MethodId} {args : Array Value} {below : List Frame} {meth : Method} {c : Code} {H : Heap} {locs : List Loc}
variable {cc : ByteArray} {pc nL : Nat} {ls : Array Slot} {rest : List Value} {X : GX} {σ : GM} {own : String} {rt : Option FieldType}
theorem x_iret {σ0 σ' : GM} {v : Int32} {x : Option Int32} {XC : String → State → State → Prop} (Γ : gC X p m meth c cc nL s args own (some .int)) (hI : gI X σ0 s H locs) (hdg : decode cc pc = .ok (.ireturn, 1)) (hσ : σ0 = σ') (hx : some v = x) : W p l e R s m args below meth c H locs 0 0 (vx_MQ below (gQiT X σ' x) XC args s 1 6 (gA X)) (F0 m pc ls [.int v]) := by
  subst hσ; subst hx
  refine vx_ret (W.widen (k := 1) (n := 6) (by omega) (by omega) ?_)
  exact W.iret Γ.1.1 Γ.1.2.1 Γ.2.2.1 (fun t ht hW => ⟨⟨v, σ0, rfl, ⟨rfl, rfl⟩, by rw [ht]; exact hI.1, va_K.moved hW.alike Γ.2.1⟩, hI.2.F ht⟩) hI.2.2.2 hdg Γ.2.2.2
theorem x_lret {σ0 σ' : GM} {v : Int64} {x : Option Int64} {XC : String → State → State → Prop} (Γ : gC X p m meth c cc nL s args own (some .long)) (hI : gI X σ0 s H locs) (hdg : decode cc pc = .ok (.lreturn, 1)) (hσ : σ0 = σ') (hx : some v = x) : W p l e R s m args below meth c H locs 0 0 (vx_MQ below (gQlT X σ' x) XC args s 1 6 (gA X)) (F0 m pc ls [.long v]) := by
  subst hσ; subst hx
  refine vx_ret (W.widen (k := 1) (n := 6) (by omega) (by omega) ?_)
  exact W.lret Γ.1.1 Γ.1.2.1 Γ.2.2.1 (fun t ht hW => ⟨⟨v, σ0, rfl, ⟨rfl, rfl⟩, by rw [ht]; exact hI.1, va_K.moved hW.alike Γ.2.1⟩, hI.2.F ht⟩) hI.2.2.2 hdg Γ.2.2.2
theorem y_iret {σ0 σ' : GM} {v x : Int32} {XC : String → State → State → Prop} (Γ : gC X p m meth c cc nL s args own (some .int)) (hI : gI X σ0 s H locs) (hdg : decode cc pc = .ok (.ireturn, 1)) (hσ : σ0 = σ') (hx : v = x) : W p l e R s m args below meth c H locs 1 6 (vx_MQ below (gQi X σ' x) XC args s 1 6 (gA X)) (F0 m pc ls [.int v]) := by
  subst hσ; subst hx
  refine vx_ret ?_
  exact W.iret Γ.1.1 Γ.1.2.1 Γ.2.2.1 (fun t ht hW => ⟨⟨v, σ0, rfl, ⟨rfl, rfl⟩, by rw [ht]; exact hI.1, va_K.moved hW.alike Γ.2.1⟩, hI.2.F ht⟩) hI.2.2.2 hdg Γ.2.2.2
theorem x_throw {σ' : GM} {α : Type} {x : Option α} {Qc : Array Value → State → Outcome → State → Prop} (Γ : gC X p m meth c cc nL s args RX11 rt) (hI : gI X σ s H locs) (hl : l.stackTraces = false) (hsz : ls.size = nL) (hZ : kX X s s.heap) {is sa : Nat} {text : String} (hstr : vk_R RX11 is text sa s) (hr : rest = rest) (hσ : σ = σ') (hx : none = x)
    (d0 : decode cc pc = .ok (.new 149, 3)) (d3 : decode cc (pc + 3) = .ok (.dup, 1)) (d4 : decode cc (pc + 4) = .ok (.ldc is, 2)) (d6 : decode cc (pc + 6) = .ok (.invokespecial 153, 3)) (d9 : decode cc (pc + 9) = .ok (.athrow, 1))
    (hout : ∀ x ∈ c.exceptionTable.toList, False) (hRframes : 6 ≤ R.frames) (hRlocals : (rest.map fun v => v.category).sum + 100 ≤ R.locals) (hRcells : 1 ≤ R.cells) (hRslots : 6 ≤ R.slots) :
    W p l e R s m args below meth c H locs 0 0 (vx_MQ below Qc (gXC X σ' x) args s 1 6 (gA X)) (F0 m pc ls rest) := by
  subst hσ; subst hx
  refine nse_throw Γ hI hl hsz hZ hstr d0 d3 d4 d6 d9 hout hRframes hRlocals (by omega) (by omega) (fun t hvm hz hk => ?_) hI.2.2.2 (by omega) (by omega)
  exact ⟨σ, ⟨rfl, rfl⟩, ⟨rfl, hI.1.kept (fun k q hq => hk q.1 (hI.1 k q hq).lt), va_K.moved hvm Γ.2.1⟩, Nat.le_trans hI.2.1 hz, fun q h1 h2 => (hk q (Nat.lt_of_lt_of_le h1 hI.2.1)).trans (hI.2.2.1 q h1 h2)⟩
end XENDS
theorem xMetT_of {l : Launch} {y : MethodName} {cc : ByteArray} {nL : Nat} {rt : Option FieldType} {rm : Room} {X : GX} {σ : GM} {av : List Value} {own : String} {Qc : Array Value → State → Outcome → State → Prop} {XC : String → State → State → Prop} {lv : List (Nat × Value)} (hy : plainName y.cls = true) (ho : y.cls = own) (hlen : (lg_sl av).length ≤ nL) (hlv : lv_args 0 av = lv)
    (body : ∀ (p : Program) (e : Env) (s : State) (m : MethodId) (below : List Frame) (meth : Method) (c : Code) (H : Heap) (ls : Array Slot), gC X p m meth c cc nL s av.toArray own rt → (∀ x ∈ c.exceptionTable.toList, False) → kX X s s.heap → gI X σ s H [] → lv_has ls nL lv →
      W p l e rm s m av.toArray below meth c H [] 0 0 (vx_MQ below Qc XC av.toArray s 1 6 (gA X)) (F0 m 0 ls [])) : xMetT l y cc nL rt rm X σ av Qc XC := by
  refine vx_ofW (cc := cc) (maxL := nL) (ret := rt) hy rfl ?_
  intro p e s m args below meth c s₁ B hml hout hv
  obtain ⟨rfl, hP, hK, hZ⟩ := hv
  have hts := atoms_spec (ws := Cond.code y cc nL rt :: GW) B.pre
  have hown : s.vm.findClass own = some m.cls := by rw [← ho]; exact findClass_of_methodNamed B.named
  have hl := lv_entry av (n := nL) hlen
  rw [lg_entry_eq]
  generalize (lg_sl av ++ List.replicate (nL - (lg_sl av).length) Slot.unset).toArray = ls at hl ⊢
  rw [hlv] at hl
  exact body p e s m below meth c s.heap ls ⟨⟨B.exec, B.bytes, hml, hown, fun w hw => hts w (List.mem_cons_of_mem _ hw)⟩, hK, B.returns, B.notSynchronized⟩ hout hZ ⟨hP, va_S.rf⟩ hl
theorem xMet1_of {l : Launch} {y : MethodName} {cc : ByteArray} {nL : Nat} {hh : List (Nat × Nat × Nat × Nat)} {rm : Room} {X : GX} {σ : GM} {av : List Value} {own : String} {Qc : Array Value → State → Outcome → State → Prop} {XC : String → State → State → Prop} {lv : List (Nat × Value)} (hy : plainName y.cls = true) (ho : y.cls = own) (hlen : (lg_sl av).length ≤ nL) (hlv : lv_args 0 av = lv)
    (body : ∀ (p : Program) (e : Env) (s : State) (m : MethodId) (below : List Frame) (meth : Method) (c : Code) (H : Heap) (ls : Array Slot), gC X p m meth c cc nL s av.toArray own (some .int) → c.exceptionTable.toList = tableOf hh → kX X s s.heap → gI X σ s H [] → lv_has ls nL lv →
      W p l e rm s m av.toArray below meth c H [] 0 0 (vx_MQ below Qc XC av.toArray s 1 6 (gA X)) (F0 m 0 ls [])) : vx_Met l y (Cond.codeWith y cc nL (some .int) hh :: GW) rm (gPcX X σ av) Qc XC 1 6 (gA X) := by
  refine vx_ofWH (cc := cc) (maxL := nL) (ret := some .int) (hh := hh) hy rfl ?_
  intro p e s m args below meth c s₁ B hml hv
  obtain ⟨rfl, hP, hK, hZ⟩ := hv
  have hts := atoms_spec (ws := Cond.codeWith y cc nL (some .int) hh :: GW) B.pre
  have hown : s.vm.findClass own = some m.cls := by rw [← ho]; exact findClass_of_methodNamed B.named
  have htab := vx_table (x := y) B (hts _ List.mem_cons_self)
  have hl := lv_entry av (n := nL) hlen
  rw [lg_entry_eq]
  generalize (lg_sl av ++ List.replicate (nL - (lg_sl av).length) Slot.unset).toArray = ls at hl ⊢
  rw [hlv] at hl
  exact body p e s m below meth c s.heap ls ⟨⟨B.exec, B.bytes, hml, hown, fun w hw => hts w (List.mem_cons_of_mem _ hw)⟩, hK, B.returns, B.notSynchronized⟩ htab hZ ⟨hP, va_S.rf⟩ hl
theorem gw_941 : Cond.methodLink RX11 227 yX0_boundBelow ∈ GW := gw_t4 126 rfl rfl
theorem gw_942 : Cond.methodLink RX11 223 yX0_boundAbove ∈ GW := gw_t4 118 rfl rfl
theorem gw_943 : Cond.methodLink RX11 156 yX3_weightOf ∈ GW := gw_t4 107 rfl rfl
theorem gw_944 : Cond.methodLink RX11 159 yX3_endsIn ∈ GW := gw_t4 108 rfl rfl
theorem gw_945 : Cond.methodLink RX11 166 yX3_besides ∈ GW := gw_t4 109 rfl rfl
theorem gw_946 : Cond.code yX11_point cX11_point 3 (some .int) ∈ GW := gw_t4 40 rfl rfl
theorem gw_947 : Cond.instanceMethod yX11_point ∈ GW := gw_t4 38 rfl rfl
theorem gw_948 : Cond.selects RX11 yX11_point yX11_point ∈ GW := gw_t4 39 rfl rfl
theorem mf_X11_point : mfV RX11 yX11_point cX11_point 3 (some .int) 2 := ⟨⟨gw_946, gw_947, gw_948, gw_352⟩, rfl, by decide +kernel, by decide +kernel, by decide +kernel⟩
theorem gw_949 : Cond.code yX11_bound cX11_bound 3 (some .long) ∈ GW := gw_t4 116 rfl rfl
theorem gw_950 : Cond.instanceMethod yX11_bound ∈ GW := gw_t4 114 rfl rfl
theorem gw_951 : Cond.selects RX11 yX11_bound yX11_bound ∈ GW := gw_t4 115 rfl rfl
theorem mf_X11_bound : mfV RX11 yX11_bound cX11_bound 3 (some .long) 1 := ⟨⟨gw_949, gw_950, gw_951, gw_352⟩, rfl, by decide +kernel, by decide +kernel, by decide +kernel⟩
theorem gwl_point : Cond.methodLink RL 7 yX11_point ∈ GW := gw_t4 37 rfl rfl
theorem gwl_bound : Cond.methodLink RL 15 yX11_bound ∈ GW := gw_t4 113 rfl rfl
set_option maxRecDepth 20000 in
set_option maxHeartbeats 4000000 in
theorem s_X11_bound_L19 {p : Program} {l : Launch} {e : Env} {s : State} {m : MethodId} {args : Array Value} {below : List Frame} {meth : Method} {c : Code} {X : GX} (σr : GM) (x : Option Int64) (Γ : gC X p m meth c cX11_bound 3 s args RX11 (some .long)) :
    ∀ (σ : GM) (v1 : Int32) (H : Heap) (locs : List Loc) (ls : Array Slot), gI X σ s H locs → lv_has ls 3 [(0, .ref (X.2.1 + 0)), (1, .int v1)] → f_X11_bound_L19 σ v1 = some (σr, x) →
    W p l e ({ frames := 30, cells := 1, slots := 6, locals := 1500 } : Room) s m args below meth c H locs 0 0 (vx_MQ below (gQlT X σr x) (gXC X σr x) args s 1 6 (gA X)) (F0 m 19 ls []) := by
  intro σ v1 H locs ls hI hl h
  unfold f_X11_bound_L19 at h
  refine lv_aload_n Γ.1.1 Γ.1.2.1 dX11_bound_19 rfl (lv_at hl 0 rfl) ?_
  obtain ⟨σ_3, hr_2, h⟩ := ob_some h
  refine g_cr Γ hI (g_runV (As := []) Γ hI (S_X11_discountNow l X σ σ_3 hr_2) mf_X11_discountNow (recv_X11 Γ hI) gw_170 rfl rfl ⟨Nat.le_of_ble_eq_true rfl, Nat.le_of_ble_eq_true rfl⟩ rfl hl.1 rfl (Nat.le_of_ble_eq_true rfl) dX11_bound_20 ⟨Nat.zero_le _, Nat.zero_le _⟩) (fun H locs hI => ?_)
  clear hr_2
  refine lv_astore_n (lv' := [(2, .ref (X.2.1 + 57)), (0, .ref (X.2.1 + 0)), (1, .int v1)]) Γ.1.1 Γ.1.2.1 dX11_bound_23 rfl hl (by decide) rfl (fun ls hl => ?_)
  refine lv_iload_n Γ.1.1 Γ.1.2.1 dX11_bound_24 rfl (lv_at hl 2 rfl) ?_
  refine lv_if_ne (tgt := 35) Γ.1.1 Γ.1.2.1 dX11_bound_25 (by decide) (fun c_4 => ?_) (fun c_4 => ?_)
  · replace h := ite_neg c_4 h; clear c_4
    refine lv_aload_n Γ.1.1 Γ.1.2.1 dX11_bound_35 rfl (lv_at hl 0 rfl) ?_
    obtain ⟨r_5, hr_5, h⟩ := ob_some h
    refine g_cl Γ hI (g_runV (As := []) Γ hI (S_X0_boundBelow l X σ_3 r_5 hr_5) mf_X0_boundBelow (recv_X0 Γ hI) gw_941 rfl rfl ⟨Nat.le_of_ble_eq_true rfl, Nat.le_of_ble_eq_true rfl⟩ rfl hl.1 rfl (Nat.le_of_ble_eq_true rfl) dX11_bound_36 ⟨Nat.zero_le _, Nat.zero_le _⟩) (fun H locs hI => ?_)
    clear hr_5
    exact x_lret Γ hI dX11_bound_39 (Prod.mk.inj (Option.some.inj h)).1 (Prod.mk.inj (Option.some.inj h)).2
  · replace h := ite_pos c_4 h; clear c_4
    refine lv_aload_n Γ.1.1 Γ.1.2.1 dX11_bound_28 rfl (lv_at hl 0 rfl) ?_
    obtain ⟨r_7, hr_7, h⟩ := ob_some h
    refine g_cl Γ hI (g_runV (As := []) Γ hI (S_X0_boundAbove l X σ_3 r_7 hr_7) mf_X0_boundAbove (recv_X0 Γ hI) gw_942 rfl rfl ⟨Nat.le_of_ble_eq_true rfl, Nat.le_of_ble_eq_true rfl⟩ rfl hl.1 rfl (Nat.le_of_ble_eq_true rfl) dX11_bound_29 ⟨Nat.zero_le _, Nat.zero_le _⟩) (fun H locs hI => ?_)
    clear hr_7
    refine lv_goto (tgt := 39) Γ.1.1 Γ.1.2.1 dX11_bound_32 (by decide) ?_
    exact x_lret Γ hI dX11_bound_39 (Prod.mk.inj (Option.some.inj h)).1 (Prod.mk.inj (Option.some.inj h)).2
set_option maxRecDepth 20000 in
set_option maxHeartbeats 4000000 in
theorem S_X11_bound (l : Launch) (hcst : l.stackTraces = false) (X : GX) (σ : GM) (v1 : Int32) (σr : GM) (x : Option Int64) (h : f_X11_bound σ v1 = some (σr, x)) : xMetT l yX11_bound cX11_bound 3 (some .long) ({ frames := 30, cells := 1, slots := 6, locals := 1500 } : Room) X σ [.ref (X.2.1 + 0), .int v1] (gQlT X σr x) (gXC X σr x) := by
  unfold f_X11_bound at h
  refine xMetT_of (lv := [(0, .ref (X.2.1 + 0)), (1, .int v1)]) (by decide) rfl (Nat.le_of_ble_eq_true rfl) rfl (fun p e s m below meth c H ls Γ hout hZ hI hl => ?_)
  refine lv_iload_n Γ.1.1 Γ.1.2.1 dX11_bound_0 rfl (lv_at hl 1 rfl) ?_
  refine lv_if_eq (tgt := 19) Γ.1.1 Γ.1.2.1 dX11_bound_1 (by decide) (fun c_1 => ?_) (fun c_1 => ?_)
  · replace h := ite_pos c_1 h; clear c_1
    exact s_X11_bound_L19 σr x Γ σ v1 _ _ _ hI hl h
  · replace h := ite_neg c_1 h; clear c_1
    refine lv_iload_n Γ.1.1 Γ.1.2.1 dX11_bound_4 rfl (lv_at hl 1 rfl) ?_
    refine lv_iconst (v := (1 : Int32)) Γ.1.1 Γ.1.2.1 dX11_bound_5 (by decide) ?_
    refine lv_icmp_eq (tgt := 19) Γ.1.1 Γ.1.2.1 dX11_bound_6 (by decide) (fun c_9 => ?_) (fun c_9 => ?_)
    · replace h := ite_pos c_9 h; clear c_9
      exact s_X11_bound_L19 σr x Γ σ v1 _ _ _ hI hl h
    · replace h := ite_neg c_9 h; clear c_9
      exact x_throw (R := { frames := 30, cells := 1, slots := 6, locals := 1500 }) Γ hI hcst hl.1 hZ hZ.2.2.2.1.choose_spec (by rfl) (Prod.mk.inj (Option.some.inj h)).1 (Prod.mk.inj (Option.some.inj h)).2 dX11_bound_9 dX11_bound_12 dX11_bound_13 dX11_bound_15 dX11_bound_18 hout (Nat.le_of_ble_eq_true rfl) (Nat.le_of_ble_eq_true rfl) (Nat.le_of_ble_eq_true rfl) (Nat.le_of_ble_eq_true rfl)
set_option maxRecDepth 20000 in
set_option maxHeartbeats 4000000 in
theorem S_X11_point (l : Launch) (hcst : l.stackTraces = false) (X : GX) (σ : GM) (v1 : Int32) (v2 : Int32) (x : Option Int32) (h : f_X11_point σ v1 v2 = some x) : xMetT l yX11_point cX11_point 3 (some .int) ({ frames := 30, cells := 1, slots := 6, locals := 1500 } : Room) X σ [.ref (X.2.1 + 0), .int v1, .int v2] (gQiT X σ x) (gXC X σ x) := by
  unfold f_X11_point at h
  refine xMetT_of (lv := [(0, .ref (X.2.1 + 0)), (1, .int v1), (2, .int v2)]) (by decide) rfl (Nat.le_of_ble_eq_true rfl) rfl (fun p e s m below meth c H ls Γ hout hZ hI hl => ?_)
  refine lv_aload_n Γ.1.1 Γ.1.2.1 dX11_point_0 rfl (lv_at hl 0 rfl) ?_
  refine get_X11_net Γ hI gw_106 dX11_point_1 ?_
  refine lv_iload_n Γ.1.1 Γ.1.2.1 dX11_point_4 rfl (lv_at hl 1 rfl) ?_
  obtain ⟨r_1, hr_1, h⟩ := ob_some h
  refine g_ci Γ hI (g_runV (As := [.int v1]) Γ hI (S_X3_isThere l X σ 8 sh_8 v1 r_1 hr_1) mf_X3_isThere (recv_X3 sh_8 Γ hI) gw_121 rfl rfl ⟨Nat.le_of_ble_eq_true rfl, Nat.le_of_ble_eq_true rfl⟩ rfl hl.1 rfl (Nat.le_of_ble_eq_true rfl) dX11_point_5 ⟨Nat.zero_le _, Nat.zero_le _⟩) (fun H locs hI => ?_)
  clear hr_1
  refine lv_if_eq (tgt := 20) Γ.1.1 Γ.1.2.1 dX11_point_8 (by decide) (fun c_3 => ?_) (fun c_3 => ?_)
  · replace h := ite_pos c_3 h; clear c_3
    exact x_throw (R := { frames := 30, cells := 1, slots := 6, locals := 1500 }) Γ hI hcst hl.1 hZ hZ.2.2.1.choose_spec (by rfl) rfl (Option.some.inj h) dX11_point_20 dX11_point_23 dX11_point_24 dX11_point_26 dX11_point_29 hout (Nat.le_of_ble_eq_true rfl) (Nat.le_of_ble_eq_true rfl) (Nat.le_of_ble_eq_true rfl) (Nat.le_of_ble_eq_true rfl)
  · replace h := ite_neg c_3 h; clear c_3
    refine lv_iload_n Γ.1.1 Γ.1.2.1 dX11_point_11 rfl (lv_at hl 2 rfl) ?_
    refine lv_if_lt (tgt := 20) Γ.1.1 Γ.1.2.1 dX11_point_12 (by decide) (fun c_4 => ?_) (fun c_4 => ?_)
    · replace h := ite_pos c_4 h; clear c_4
      exact x_throw (R := { frames := 30, cells := 1, slots := 6, locals := 1500 }) Γ hI hcst hl.1 hZ hZ.2.2.1.choose_spec (by rfl) rfl (Option.some.inj h) dX11_point_20 dX11_point_23 dX11_point_24 dX11_point_26 dX11_point_29 hout (Nat.le_of_ble_eq_true rfl) (Nat.le_of_ble_eq_true rfl) (Nat.le_of_ble_eq_true rfl) (Nat.le_of_ble_eq_true rfl)
    · replace h := ite_neg c_4 h; clear c_4
      refine lv_iload_n Γ.1.1 Γ.1.2.1 dX11_point_15 rfl (lv_at hl 2 rfl) ?_
      refine lv_iconst (v := (3 : Int32)) Γ.1.1 Γ.1.2.1 dX11_point_16 (by decide) ?_
      refine lv_icmp_le (tgt := 30) Γ.1.1 Γ.1.2.1 dX11_point_17 (by decide) (fun c_5 => ?_) (fun c_5 => ?_)
      · replace h := ite_pos c_5 h; clear c_5
        refine lv_iload_n Γ.1.1 Γ.1.2.1 dX11_point_30 rfl (lv_at hl 2 rfl) ?_
        by_cases c_31_0 : v2 = (0 : Int32)
        · replace h := ite_pos c_31_0 h
          refine lv_tableIn (off := 25) (tgt := 56) Γ.1.1 Γ.1.2.1 dX11_point_31 (by rw [c_31_0]; decide) (by rw [c_31_0]; decide) (by rw [c_31_0]; decide) (by decide) ?_
          refine lv_aload_n Γ.1.1 Γ.1.2.1 dX11_point_56 rfl (lv_at hl 0 rfl) ?_
          refine get_X11_net Γ hI gw_106 dX11_point_57 ?_
          refine lv_iload_n Γ.1.1 Γ.1.2.1 dX11_point_60 rfl (lv_at hl 1 rfl) ?_
          obtain ⟨r_6, hr_6, h⟩ := ob_some h
          refine g_ci Γ hI (g_runV (As := [.int v1]) Γ hI (S_X3_weightOf l X σ 8 sh_8 v1 r_6 hr_6) mf_X3_weightOf (recv_X3 sh_8 Γ hI) gw_943 rfl rfl ⟨Nat.le_of_ble_eq_true rfl, Nat.le_of_ble_eq_true rfl⟩ rfl hl.1 rfl (Nat.le_of_ble_eq_true rfl) dX11_point_61 ⟨Nat.zero_le _, Nat.zero_le _⟩) (fun H locs hI => ?_)
          clear hr_6
          exact x_iret Γ hI dX11_point_64 rfl (Option.some.inj h)
        · replace h := ite_neg c_31_0 h
          by_cases c_31_1 : v2 = (1 : Int32)
          · replace h := ite_pos c_31_1 h
            refine lv_tableIn (off := 34) (tgt := 65) Γ.1.1 Γ.1.2.1 dX11_point_31 (by rw [c_31_1]; decide) (by rw [c_31_1]; decide) (by rw [c_31_1]; decide) (by decide) ?_
            refine lv_aload_n Γ.1.1 Γ.1.2.1 dX11_point_65 rfl (lv_at hl 0 rfl) ?_
            refine get_X11_net Γ hI gw_106 dX11_point_66 ?_
            refine lv_iload_n Γ.1.1 Γ.1.2.1 dX11_point_69 rfl (lv_at hl 1 rfl) ?_
            refine lv_aload_n Γ.1.1 Γ.1.2.1 dX11_point_70 rfl (lv_at hl 0 rfl) ?_
            refine get_X11_net Γ hI gw_106 dX11_point_71 ?_
            refine get_X3_there sh_8 Γ hI gw_115 dX11_point_74 ?_
            obtain ⟨r_8, hr_8, h⟩ := ob_some h
            refine g_ci Γ hI (g_runV (As := [.int v1, .int (σ.1 8 3)]) Γ hI (S_X3_endsIn l X σ 8 sh_8 v1 (σ.1 8 3) r_8 hr_8) mf_X3_endsIn (recv_X3 sh_8 Γ hI) gw_944 rfl rfl ⟨Nat.le_of_ble_eq_true rfl, Nat.le_of_ble_eq_true rfl⟩ rfl hl.1 rfl (Nat.le_of_ble_eq_true rfl) dX11_point_77 ⟨Nat.zero_le _, Nat.zero_le _⟩) (fun H locs hI => ?_)
            clear hr_8
            exact x_iret Γ hI dX11_point_80 rfl (Option.some.inj h)
          · replace h := ite_neg c_31_1 h
            by_cases c_31_2 : v2 = (2 : Int32)
            · replace h := ite_pos c_31_2 h
              refine lv_tableIn (off := 50) (tgt := 81) Γ.1.1 Γ.1.2.1 dX11_point_31 (by rw [c_31_2]; decide) (by rw [c_31_2]; decide) (by rw [c_31_2]; decide) (by decide) ?_
              refine lv_aload_n Γ.1.1 Γ.1.2.1 dX11_point_81 rfl (lv_at hl 0 rfl) ?_
              refine get_X11_net Γ hI gw_106 dX11_point_82 ?_
              refine lv_iload_n Γ.1.1 Γ.1.2.1 dX11_point_85 rfl (lv_at hl 1 rfl) ?_
              refine lv_iload_n Γ.1.1 Γ.1.2.1 dX11_point_86 rfl (lv_at hl 1 rfl) ?_
              obtain ⟨r_10, hr_10, h⟩ := ob_some h
              refine g_ci Γ hI (g_runV (As := [.int v1, .int v1]) Γ hI (S_X3_linesOf l X σ 8 sh_8 v1 v1 r_10 hr_10) mf_X3_linesOf (recv_X3 sh_8 Γ hI) gw_122 rfl rfl ⟨Nat.le_of_ble_eq_true rfl, Nat.le_of_ble_eq_true rfl⟩ rfl hl.1 rfl (Nat.le_of_ble_eq_true rfl) dX11_point_87 ⟨Nat.zero_le _, Nat.zero_le _⟩) (fun H locs hI => ?_)
              clear hr_10
              exact x_iret Γ hI dX11_point_90 rfl (Option.some.inj h)
            · replace h := ite_neg c_31_2 h
              have hq0 : ¬ v2.toInt = 0 := lv_neT c_31_0 (by decide)
              have hq1 : ¬ v2.toInt = 1 := lv_neT c_31_1 (by decide)
              have hq2 : ¬ v2.toInt = 2 := lv_neT c_31_2 (by decide)
              refine lv_tableOut (tgt := 91) Γ.1.1 Γ.1.2.1 dX11_point_31 (by omega) (by decide) ?_
              clear hq0 hq1 hq2
              refine lv_aload_n Γ.1.1 Γ.1.2.1 dX11_point_91 rfl (lv_at hl 0 rfl) ?_
              refine get_X11_net Γ hI gw_106 dX11_point_92 ?_
              refine lv_iload_n Γ.1.1 Γ.1.2.1 dX11_point_95 rfl (lv_at hl 1 rfl) ?_
              refine lv_iconst (v := (1 : Int32)) Γ.1.1 Γ.1.2.1 dX11_point_96 (by decide) ?_
              obtain ⟨r_12, hr_12, h⟩ := ob_some h
              refine g_ci Γ hI (g_runV (As := [.int v1, .int (1 : Int32)]) Γ hI (S_X3_besides l X σ 8 sh_8 v1 (1 : Int32) r_12 hr_12) mf_X3_besides (recv_X3 sh_8 Γ hI) gw_945 rfl rfl ⟨Nat.le_of_ble_eq_true rfl, Nat.le_of_ble_eq_true rfl⟩ rfl hl.1 rfl (Nat.le_of_ble_eq_true rfl) dX11_point_97 ⟨Nat.zero_le _, Nat.zero_le _⟩) (fun H locs hI => ?_)
              clear hr_12
              exact x_iret Γ hI dX11_point_100 rfl (Option.some.inj h)
      · replace h := ite_neg c_5 h; clear c_5
        exact x_throw (R := { frames := 30, cells := 1, slots := 6, locals := 1500 }) Γ hI hcst hl.1 hZ hZ.2.2.1.choose_spec (by rfl) rfl (Option.some.inj h) dX11_point_20 dX11_point_23 dX11_point_24 dX11_point_26 dX11_point_29 hout (Nat.le_of_ble_eq_true rfl) (Nat.le_of_ble_eq_true rfl) (Nat.le_of_ble_eq_true rfl) (Nat.le_of_ble_eq_true rfl)

theorem nse_cast {X : GX} {s : State} {H : Heap} {args : Array Value} (hZ : kX X s H) : (Cond.castable NSE NSE).before args s = true := va_Nw.use rfl (hZ.2.2.2.2 _ (List.mem_of_getElem? (i := 0) rfl))
theorem gwl_link : Cond.classLink RL 13 NSE ∈ GW := gw_t4 36 rfl rfl
set_option maxRecDepth 20000 in
set_option maxHeartbeats 4000000 in
theorem S_L_point (l : Launch) (X : GX) (σ : GM) (v1 v2 : Int32) (hcst : l.stackTraces = false) (σr : GM) (x : Int32) (h : f_L_point σ v1 v2 = some (σr, x)) : xMet1 l yL_point cL_point 5 hhP rmW X σ [.ref (X.2.1 + 0), .int v1, .int v2, .ref (X.2.1 + 75)] σr x := by
  unfold f_L_point at h
  obtain ⟨o, ho, h⟩ := ob_some h
  refine xMet1_of (lv := [(0, .ref (X.2.1 + 0)), (1, .int v1), (2, .int v2), (3, .ref (X.2.1 + 75))]) (by decide) rfl (Nat.le_of_ble_eq_true rfl) rfl (fun p e s m below meth c H ls Γ htab hZ hI hl => ?_)
  refine lv_aload_n Γ.1.1 Γ.1.2.1 dL_point_0 rfl (lv_at hl 3 rfl) ?_
  refine lv_iconst (v := (0 : Int32)) Γ.1.1 Γ.1.2.1 dL_point_1 (by decide) ?_
  refine lv_aload_n Γ.1.1 Γ.1.2.1 dL_point_2 rfl (lv_at hl 0 rfl) ?_
  refine lv_iload_n Γ.1.1 Γ.1.2.1 dL_point_3 rfl (lv_at hl 1 rfl) ?_
  refine lv_iload_n Γ.1.1 Γ.1.2.1 dL_point_4 rfl (lv_at hl 2 rfl) ?_
  refine vx_calli (vx_runV (As := [.int v1, .int v2]) (rest := [.int 0, .ref (X.2.1 + 75)]) Γ.1 (S_X11_point l hcst X σ v1 v2 o ho) ⟨callB_of 2 Γ.1.2.2.2.2 (good_codeGW mf_X11_point.1.1) rfl rfl rfl (Γ.1.2.2.2.2 _ mf_X11_point.1.2.2.2) (Γ.1.2.2.2.2 _ gwl_point) mf_X11_point.2.2 ⟨Nat.le_of_ble_eq_true rfl, Nat.le_of_ble_eq_true rfl⟩, Γ.1.2.2.2.2 _ mf_X11_point.1.2.1, Γ.1.2.2.2.2 _ mf_X11_point.1.2.2.1⟩
    ⟨gPcX_blind X σ _, recv_X11 Γ hI, fun U hU hW9 => ⟨rfl, by rw [hU]; exact hI.1, va_K.moved hW9.alike Γ.2.1, by rw [hU]; exact (hZ.kept hI.2.2.1).warm hW9⟩⟩ rfl rfl hl.1 rfl (lv_room (Nat.le_of_ble_eq_true rfl)) dL_point_5 ⟨Nat.le_of_ble_eq_true rfl, Nat.le_of_ble_eq_true rfl⟩) hI.2 (fun _ _ h => h) (fun _ h => h) (fun _ _ h => h)
    (fun E ce q9 u t H1 locs1 ht hvm hpx hBX hsz hk hS1 hce hcv hcl => ?_) (fun r u t H1 locs1 ht hvm hpo hB hsz hk hS1 => ?_)
  · obtain ⟨rfl, rfl⟩ := hpx
    obtain ⟨rfl, hB⟩ := hBX
    have hI1 : gI X u s H1 locs1 := ⟨by rw [← ht]; exact hB.1, hS1⟩
    refine vx_catch (own := RL) (name := NSE) (E := NSE) Γ.1.2.2.2.1 [] ⟨0, 10, 13, 13⟩ [] htab (fun z hz => nomatch hz) (by decide) (by decide) (Γ.1.2.2.2.2 _ gwl_link) (nse_cast hZ) hce hcv hcl ?_
    refine lv_astore (lv' := [(4, .ref q9), (0, .ref (X.2.1 + 0)), (1, .int v1), (2, .int v2), (3, .ref (X.2.1 + 75))]) Γ.1.1 Γ.1.2.1 dL_point_13 hl (by decide) rfl (fun ls hl => ?_)
    refine lv_iconst (v := (1 : Int32)) Γ.1.1 Γ.1.2.1 dL_point_15 (by decide) ?_
    exact y_iret Γ hI1 dL_point_16 (Prod.mk.inj (Option.some.inj h)).1 (Prod.mk.inj (Option.some.inj h)).2
  · obtain ⟨rfl, rfl⟩ := hpo
    have hI1 : gI X u s H1 locs1 := ⟨by rw [← ht]; exact hB.1, hS1⟩
    refine lv_i2l (v := r.toInt64) Γ.1.1 Γ.1.2.1 dL_point_8 rfl ?_
    refine g_last Γ hI1 sh_75 (by decide) dL_point_9 (fun H locs hI => ?_)
    refine lv_goto (tgt := 17) Γ.1.1 Γ.1.2.1 dL_point_10 (by decide) ?_
    refine lv_iconst (v := (0 : Int32)) Γ.1.1 Γ.1.2.1 dL_point_17 (by decide) ?_
    exact y_iret Γ hI dL_point_18 (Prod.mk.inj (Option.some.inj h)).1 (Prod.mk.inj (Option.some.inj h)).2
set_option maxRecDepth 20000 in
set_option maxHeartbeats 4000000 in
theorem S_L_bound (l : Launch) (X : GX) (σ : GM) (v1 : Int32) (hcst : l.stackTraces = false) (σr : GM) (x : Int32) (h : f_L_bound σ v1 = some (σr, x)) : xMet1 l yL_bound cL_bound 4 hhB rmW X σ [.ref (X.2.1 + 0), .int v1, .ref (X.2.1 + 75)] σr x := by
  unfold f_L_bound at h
  obtain ⟨σ1, o, ho, h⟩ := ob2_some h
  refine xMet1_of (lv := [(0, .ref (X.2.1 + 0)), (1, .int v1), (2, .ref (X.2.1 + 75))]) (by decide) rfl (Nat.le_of_ble_eq_true rfl) rfl (fun p e s m below meth c H ls Γ htab hZ hI hl => ?_)
  refine lv_aload_n Γ.1.1 Γ.1.2.1 dL_bound_0 rfl (lv_at hl 2 rfl) ?_
  refine lv_iconst (v := (0 : Int32)) Γ.1.1 Γ.1.2.1 dL_bound_1 (by decide) ?_
  refine lv_aload_n Γ.1.1 Γ.1.2.1 dL_bound_2 rfl (lv_at hl 0 rfl) ?_
  refine lv_iload_n Γ.1.1 Γ.1.2.1 dL_bound_3 rfl (lv_at hl 1 rfl) ?_
  refine vx_calll (vx_runV (As := [.int v1]) (rest := [.int 0, .ref (X.2.1 + 75)]) Γ.1 (S_X11_bound l hcst X σ v1 σ1 o ho) ⟨callB_of 1 Γ.1.2.2.2.2 (good_codeGW mf_X11_bound.1.1) rfl rfl rfl (Γ.1.2.2.2.2 _ mf_X11_bound.1.2.2.2) (Γ.1.2.2.2.2 _ gwl_bound) mf_X11_bound.2.2 ⟨Nat.le_of_ble_eq_true rfl, Nat.le_of_ble_eq_true rfl⟩, Γ.1.2.2.2.2 _ mf_X11_bound.1.2.1, Γ.1.2.2.2.2 _ mf_X11_bound.1.2.2.1⟩
    ⟨gPcX_blind X σ _, recv_X11 Γ hI, fun U hU hW9 => ⟨rfl, by rw [hU]; exact hI.1, va_K.moved hW9.alike Γ.2.1, by rw [hU]; exact (hZ.kept hI.2.2.1).warm hW9⟩⟩ rfl rfl hl.1 rfl (lv_room (Nat.le_of_ble_eq_true rfl)) dL_bound_4 ⟨Nat.le_of_ble_eq_true rfl, Nat.le_of_ble_eq_true rfl⟩) hI.2 (fun _ _ h => h) (fun _ h => h) (fun _ _ h => h)
    (fun E ce q9 u t H1 locs1 ht hvm hpx hBX hsz hk hS1 hce hcv hcl => ?_) (fun r u t H1 locs1 ht hvm hpo hB hsz hk hS1 => ?_)
  · obtain ⟨rfl, rfl⟩ := hpx
    obtain ⟨rfl, hB⟩ := hBX
    have hI1 : gI X u s H1 locs1 := ⟨by rw [← ht]; exact hB.1, hS1⟩
    refine vx_catch (own := RL) (name := NSE) (E := NSE) Γ.1.2.2.2.1 [] ⟨0, 8, 11, 13⟩ [] htab (fun z hz => nomatch hz) (by decide) (by decide) (Γ.1.2.2.2.2 _ gwl_link) (nse_cast hZ) hce hcv hcl ?_
    refine lv_astore_n (lv' := [(3, .ref q9), (0, .ref (X.2.1 + 0)), (1, .int v1), (2, .ref (X.2.1 + 75))]) Γ.1.1 Γ.1.2.1 dL_bound_11 rfl hl (by decide) rfl (fun ls hl => ?_)
    refine lv_iconst (v := (1 : Int32)) Γ.1.1 Γ.1.2.1 dL_bound_12 (by decide) ?_
    exact y_iret Γ hI1 dL_bound_13 (Prod.mk.inj (Option.some.inj h)).1 (Prod.mk.inj (Option.some.inj h)).2
  · obtain ⟨rfl, rfl⟩ := hpo
    have hI1 : gI X u s H1 locs1 := ⟨by rw [← ht]; exact hB.1, hS1⟩
    refine g_last Γ hI1 sh_75 (by decide) dL_bound_7 (fun H locs hI => ?_)
    refine lv_goto (tgt := 14) Γ.1.1 Γ.1.2.1 dL_bound_8 (by decide) ?_
    refine lv_iconst (v := (0 : Int32)) Γ.1.1 Γ.1.2.1 dL_bound_14 (by decide) ?_
    exact y_iret Γ hI dL_bound_15 (Prod.mk.inj (Option.some.inj h)).1 (Prod.mk.inj (Option.some.inj h)).2
