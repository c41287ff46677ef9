section
-- ===== PART A: goes FIRST, ahead of the names: the tables' words, and 'selects' of the private methods out of them =====
/-- a private method of a class that the tables say can be made, by its rows of tables_1 -/
def lw_okq (q : MethodName × Nat) : Prop := (q.1.cls ≠ "java/lang/invoke/MethodHandle" ∧ q.1.cls ≠ "java/lang/invoke/VarHandle") ∧ Cond.instantiable q.1.cls q.2 ∈ tables_1 ∧ Cond.privateMethod q.1 ∈ tables_1 ∧ Cond.instanceMethod q.1 ∈ tables_1
theorem lw_p0 : lw_okq (⟨"RingCutters", "markChanged", "()V"⟩, 14) := ⟨⟨by decide +kernel, by decide +kernel⟩, List.mem_of_getElem? (i := 21) (by decide +kernel), List.mem_of_getElem? (i := 404) (by decide +kernel), List.mem_of_getElem? (i := 405) (by decide +kernel)⟩
theorem lw_p1 : lw_okq (⟨"RingCutters", "ringsNow", "()LRingCutters$Rings;"⟩, 14) := ⟨⟨by decide +kernel, by decide +kernel⟩, List.mem_of_getElem? (i := 21) (by decide +kernel), List.mem_of_getElem? (i := 455) (by decide +kernel), List.mem_of_getElem? (i := 456) (by decide +kernel)⟩
theorem lw_p2 : lw_okq (⟨"RingCutters", "tellSet", "(II)I"⟩, 14) := ⟨⟨by decide +kernel, by decide +kernel⟩, List.mem_of_getElem? (i := 21) (by decide +kernel), List.mem_of_getElem? (i := 495) (by decide +kernel), List.mem_of_getElem? (i := 496) (by decide +kernel)⟩
theorem lw_p3 : lw_okq (⟨"RingCutters", "lightestCut", "()I"⟩, 14) := ⟨⟨by decide +kernel, by decide +kernel⟩, List.mem_of_getElem? (i := 21) (by decide +kernel), List.mem_of_getElem? (i := 504) (by decide +kernel), List.mem_of_getElem? (i := 505) (by decide +kernel)⟩
theorem lw_p4 : lw_okq (⟨"RingCutters", "packingNow", "()LRingCutters$Packing;"⟩, 14) := ⟨⟨by decide +kernel, by decide +kernel⟩, List.mem_of_getElem? (i := 21) (by decide +kernel), List.mem_of_getElem? (i := 550) (by decide +kernel), List.mem_of_getElem? (i := 551) (by decide +kernel)⟩
theorem lw_p5 : lw_okq (⟨"RingCutters", "discountNow", "()LRingCutters$Discount;"⟩, 14) := ⟨⟨by decide +kernel, by decide +kernel⟩, List.mem_of_getElem? (i := 21) (by decide +kernel), List.mem_of_getElem? (i := 592) (by decide +kernel), List.mem_of_getElem? (i := 593) (by decide +kernel)⟩
theorem lw_p6 : lw_okq (⟨"RingCutters", "keepAct", "()V"⟩, 14) := ⟨⟨by decide +kernel, by decide +kernel⟩, List.mem_of_getElem? (i := 21) (by decide +kernel), List.mem_of_getElem? (i := 685) (by decide +kernel), List.mem_of_getElem? (i := 686) (by decide +kernel)⟩
theorem lw_p7 : lw_okq (⟨"RingCutters", "doDeed", "()Z"⟩, 14) := ⟨⟨by decide +kernel, by decide +kernel⟩, List.mem_of_getElem? (i := 21) (by decide +kernel), List.mem_of_getElem? (i := 725) (by decide +kernel), List.mem_of_getElem? (i := 726) (by decide +kernel)⟩
theorem lw_p8 : lw_okq (⟨"RingCutters", "keptAt", "(I)LRingCutters$Kept;"⟩, 14) := ⟨⟨by decide +kernel, by decide +kernel⟩, List.mem_of_getElem? (i := 21) (by decide +kernel), List.mem_of_getElem? (i := 746) (by decide +kernel), List.mem_of_getElem? (i := 747) (by decide +kernel)⟩
theorem lw_p9 : lw_okq (⟨"java/lang/Throwable", "fillInStackTrace", "(I)Ljava/lang/Throwable;"⟩, 6) := ⟨⟨by decide +kernel, by decide +kernel⟩, List.mem_of_getElem? (i := 798) (by decide +kernel), List.mem_of_getElem? (i := 796) (by decide +kernel), List.mem_of_getElem? (i := 797) (by decide +kernel)⟩
theorem lw_p10 : lw_okq (⟨"RingCuttersModel", "lay", "(I)V"⟩, 30) := ⟨⟨by decide +kernel, by decide +kernel⟩, List.mem_of_getElem? (i := 861) (by decide +kernel), List.mem_of_getElem? (i := 859) (by decide +kernel), List.mem_of_getElem? (i := 860) (by decide +kernel)⟩
theorem lw_p11 : lw_okq (⟨"RingCuttersModel", "next", "()V"⟩, 30) := ⟨⟨by decide +kernel, by decide +kernel⟩, List.mem_of_getElem? (i := 861) (by decide +kernel), List.mem_of_getElem? (i := 968) (by decide +kernel), List.mem_of_getElem? (i := 969) (by decide +kernel)⟩
theorem lw_p12 : lw_okq (⟨"RingCuttersModel", "tapeAt", "(I)I"⟩, 30) := ⟨⟨by decide +kernel, by decide +kernel⟩, List.mem_of_getElem? (i := 861) (by decide +kernel), List.mem_of_getElem? (i := 978) (by decide +kernel), List.mem_of_getElem? (i := 979) (by decide +kernel)⟩
theorem lw_p13 : lw_okq (⟨"RingCuttersModel", "isPointWord", "()Z"⟩, 30) := ⟨⟨by decide +kernel, by decide +kernel⟩, List.mem_of_getElem? (i := 861) (by decide +kernel), List.mem_of_getElem? (i := 984) (by decide +kernel), List.mem_of_getElem? (i := 985) (by decide +kernel)⟩
theorem lw_p14 : lw_okq (⟨"RingCuttersModel", "readPoint", "()Z"⟩, 30) := ⟨⟨by decide +kernel, by decide +kernel⟩, List.mem_of_getElem? (i := 861) (by decide +kernel), List.mem_of_getElem? (i := 991) (by decide +kernel), List.mem_of_getElem? (i := 992) (by decide +kernel)⟩
theorem lw_p15 : lw_okq (⟨"RingCuttersModel", "bad", "(I)Z"⟩, 30) := ⟨⟨by decide +kernel, by decide +kernel⟩, List.mem_of_getElem? (i := 861) (by decide +kernel), List.mem_of_getElem? (i := 995) (by decide +kernel), List.mem_of_getElem? (i := 996) (by decide +kernel)⟩
def lw_privs_1 : List (MethodName × Nat) := [(⟨"RingCutters", "markChanged", "()V"⟩, 14), (⟨"RingCutters", "ringsNow", "()LRingCutters$Rings;"⟩, 14), (⟨"RingCutters", "tellSet", "(II)I"⟩, 14), (⟨"RingCutters", "lightestCut", "()I"⟩, 14), (⟨"RingCutters", "packingNow", "()LRingCutters$Packing;"⟩, 14), (⟨"RingCutters", "discountNow", "()LRingCutters$Discount;"⟩, 14), (⟨"RingCutters", "keepAct", "()V"⟩, 14), (⟨"RingCutters", "doDeed", "()Z"⟩, 14), (⟨"RingCutters", "keptAt", "(I)LRingCutters$Kept;"⟩, 14), (⟨"java/lang/Throwable", "fillInStackTrace", "(I)Ljava/lang/Throwable;"⟩, 6), (⟨"RingCuttersModel", "lay", "(I)V"⟩, 30), (⟨"RingCuttersModel", "next", "()V"⟩, 30), (⟨"RingCuttersModel", "tapeAt", "(I)I"⟩, 30), (⟨"RingCuttersModel", "isPointWord", "()Z"⟩, 30), (⟨"RingCuttersModel", "readPoint", "()Z"⟩, 30), (⟨"RingCuttersModel", "bad", "(I)Z"⟩, 30)]
theorem lw_r1 : ∀ q ∈ lw_privs_1, lw_okq q := List.forall_mem_cons.mpr ⟨lw_p0, List.forall_mem_cons.mpr ⟨lw_p1, List.forall_mem_cons.mpr ⟨lw_p2, List.forall_mem_cons.mpr ⟨lw_p3, List.forall_mem_cons.mpr ⟨lw_p4, List.forall_mem_cons.mpr ⟨lw_p5, List.forall_mem_cons.mpr ⟨lw_p6, List.forall_mem_cons.mpr ⟨lw_p7, List.forall_mem_cons.mpr ⟨lw_p8, List.forall_mem_cons.mpr ⟨lw_p9, List.forall_mem_cons.mpr ⟨lw_p10, List.forall_mem_cons.mpr ⟨lw_p11, List.forall_mem_cons.mpr ⟨lw_p12, List.forall_mem_cons.mpr ⟨lw_p13, List.forall_mem_cons.mpr ⟨lw_p14, List.forall_mem_cons.mpr ⟨lw_p15, fun _ h => absurd h List.not_mem_nil⟩⟩⟩⟩⟩⟩⟩⟩⟩⟩⟩⟩⟩⟩⟩⟩
theorem lw_p16 : lw_okq (⟨"RingCuttersModel", "isName", "()Z"⟩, 30) := ⟨⟨by decide +kernel, by decide +kernel⟩, List.mem_of_getElem? (i := 861) (by decide +kernel), List.mem_of_getElem? (i := 999) (by decide +kernel), List.mem_of_getElem? (i := 1000) (by decide +kernel)⟩
theorem lw_p17 : lw_okq (⟨"RingCuttersModel", "isLineWord", "()Z"⟩, 30) := ⟨⟨by decide +kernel, by decide +kernel⟩, List.mem_of_getElem? (i := 861) (by decide +kernel), List.mem_of_getElem? (i := 1003) (by decide +kernel), List.mem_of_getElem? (i := 1004) (by decide +kernel)⟩
theorem lw_p18 : lw_okq (⟨"RingCuttersModel", "named", "()I"⟩, 30) := ⟨⟨by decide +kernel, by decide +kernel⟩, List.mem_of_getElem? (i := 861) (by decide +kernel), List.mem_of_getElem? (i := 1007) (by decide +kernel), List.mem_of_getElem? (i := 1008) (by decide +kernel)⟩
theorem lw_p19 : lw_okq (⟨"RingCuttersModel", "readLine", "()Z"⟩, 30) := ⟨⟨by decide +kernel, by decide +kernel⟩, List.mem_of_getElem? (i := 861) (by decide +kernel), List.mem_of_getElem? (i := 1014) (by decide +kernel), List.mem_of_getElem? (i := 1015) (by decide +kernel)⟩
theorem lw_p20 : lw_okq (⟨"RingCuttersModel", "readEnd", "()Z"⟩, 30) := ⟨⟨by decide +kernel, by decide +kernel⟩, List.mem_of_getElem? (i := 861) (by decide +kernel), List.mem_of_getElem? (i := 1036) (by decide +kernel), List.mem_of_getElem? (i := 1037) (by decide +kernel)⟩
theorem lw_p21 : lw_okq (⟨"RingCuttersModel", "there", "()I"⟩, 30) := ⟨⟨by decide +kernel, by decide +kernel⟩, List.mem_of_getElem? (i := 861) (by decide +kernel), List.mem_of_getElem? (i := 1051) (by decide +kernel), List.mem_of_getElem? (i := 1052) (by decide +kernel)⟩
theorem lw_p22 : lw_okq (⟨"RingCuttersModel", "parts", "(I)I"⟩, 30) := ⟨⟨by decide +kernel, by decide +kernel⟩, List.mem_of_getElem? (i := 861) (by decide +kernel), List.mem_of_getElem? (i := 1055) (by decide +kernel), List.mem_of_getElem? (i := 1056) (by decide +kernel)⟩
theorem lw_p23 : lw_okq (⟨"RingCuttersModel", "partOf", "(II)I"⟩, 30) := ⟨⟨by decide +kernel, by decide +kernel⟩, List.mem_of_getElem? (i := 861) (by decide +kernel), List.mem_of_getElem? (i := 1062) (by decide +kernel), List.mem_of_getElem? (i := 1063) (by decide +kernel)⟩
theorem lw_p24 : lw_okq (⟨"RingCuttersModel", "weightOf", "(I)I"⟩, 30) := ⟨⟨by decide +kernel, by decide +kernel⟩, List.mem_of_getElem? (i := 861) (by decide +kernel), List.mem_of_getElem? (i := 1066) (by decide +kernel), List.mem_of_getElem? (i := 1067) (by decide +kernel)⟩
theorem lw_p25 : lw_okq (⟨"RingCuttersModel", "isThere", "(I)Z"⟩, 30) := ⟨⟨by decide +kernel, by decide +kernel⟩, List.mem_of_getElem? (i := 861) (by decide +kernel), List.mem_of_getElem? (i := 1074) (by decide +kernel), List.mem_of_getElem? (i := 1075) (by decide +kernel)⟩
theorem lw_p26 : lw_okq (⟨"RingCuttersModel", "refuse", "()I"⟩, 30) := ⟨⟨by decide +kernel, by decide +kernel⟩, List.mem_of_getElem? (i := 861) (by decide +kernel), List.mem_of_getElem? (i := 1078) (by decide +kernel), List.mem_of_getElem? (i := 1079) (by decide +kernel)⟩
theorem lw_p27 : lw_okq (⟨"RingCuttersModel", "areThere", "(I)Z"⟩, 30) := ⟨⟨by decide +kernel, by decide +kernel⟩, List.mem_of_getElem? (i := 861) (by decide +kernel), List.mem_of_getElem? (i := 1090) (by decide +kernel), List.mem_of_getElem? (i := 1091) (by decide +kernel)⟩
theorem lw_p28 : lw_okq (⟨"RingCuttersModel", "isCut", "(II)Z"⟩, 30) := ⟨⟨by decide +kernel, by decide +kernel⟩, List.mem_of_getElem? (i := 861) (by decide +kernel), List.mem_of_getElem? (i := 1094) (by decide +kernel), List.mem_of_getElem? (i := 1095) (by decide +kernel)⟩
theorem lw_p29 : lw_okq (⟨"RingCuttersModel", "isOpen", "(I)Z"⟩, 30) := ⟨⟨by decide +kernel, by decide +kernel⟩, List.mem_of_getElem? (i := 861) (by decide +kernel), List.mem_of_getElem? (i := 1098) (by decide +kernel), List.mem_of_getElem? (i := 1099) (by decide +kernel)⟩
theorem lw_p30 : lw_okq (⟨"RingCuttersModel", "bestCut", "(IIZ)I"⟩, 30) := ⟨⟨by decide +kernel, by decide +kernel⟩, List.mem_of_getElem? (i := 861) (by decide +kernel), List.mem_of_getElem? (i := 1109) (by decide +kernel), List.mem_of_getElem? (i := 1110) (by decide +kernel)⟩
theorem lw_p31 : lw_okq (⟨"RingCuttersModel", "tellsCut", "(II)I"⟩, 30) := ⟨⟨by decide +kernel, by decide +kernel⟩, List.mem_of_getElem? (i := 861) (by decide +kernel), List.mem_of_getElem? (i := 1113) (by decide +kernel), List.mem_of_getElem? (i := 1114) (by decide +kernel)⟩
def lw_privs_2 : List (MethodName × Nat) := [(⟨"RingCuttersModel", "isName", "()Z"⟩, 30), (⟨"RingCuttersModel", "isLineWord", "()Z"⟩, 30), (⟨"RingCuttersModel", "named", "()I"⟩, 30), (⟨"RingCuttersModel", "readLine", "()Z"⟩, 30), (⟨"RingCuttersModel", "readEnd", "()Z"⟩, 30), (⟨"RingCuttersModel", "there", "()I"⟩, 30), (⟨"RingCuttersModel", "parts", "(I)I"⟩, 30), (⟨"RingCuttersModel", "partOf", "(II)I"⟩, 30), (⟨"RingCuttersModel", "weightOf", "(I)I"⟩, 30), (⟨"RingCuttersModel", "isThere", "(I)Z"⟩, 30), (⟨"RingCuttersModel", "refuse", "()I"⟩, 30), (⟨"RingCuttersModel", "areThere", "(I)Z"⟩, 30), (⟨"RingCuttersModel", "isCut", "(II)Z"⟩, 30), (⟨"RingCuttersModel", "isOpen", "(I)Z"⟩, 30), (⟨"RingCuttersModel", "bestCut", "(IIZ)I"⟩, 30), (⟨"RingCuttersModel", "tellsCut", "(II)I"⟩, 30)]
theorem lw_r2 : ∀ q ∈ lw_privs_2, lw_okq q := List.forall_mem_cons.mpr ⟨lw_p16, List.forall_mem_cons.mpr ⟨lw_p17, List.forall_mem_cons.mpr ⟨lw_p18, List.forall_mem_cons.mpr ⟨lw_p19, List.forall_mem_cons.mpr ⟨lw_p20, List.forall_mem_cons.mpr ⟨lw_p21, List.forall_mem_cons.mpr ⟨lw_p22, List.forall_mem_cons.mpr ⟨lw_p23, List.forall_mem_cons.mpr ⟨lw_p24, List.forall_mem_cons.mpr ⟨lw_p25, List.forall_mem_cons.mpr ⟨lw_p26, List.forall_mem_cons.mpr ⟨lw_p27, List.forall_mem_cons.mpr ⟨lw_p28, List.forall_mem_cons.mpr ⟨lw_p29, List.forall_mem_cons.mpr ⟨lw_p30, List.forall_mem_cons.mpr ⟨lw_p31, fun _ h => absurd h List.not_mem_nil⟩⟩⟩⟩⟩⟩⟩⟩⟩⟩⟩⟩⟩⟩⟩⟩
theorem lw_p32 : lw_okq (⟨"RingCuttersModel", "laysRings", "()V"⟩, 30) := ⟨⟨by decide +kernel, by decide +kernel⟩, List.mem_of_getElem? (i := 861) (by decide +kernel), List.mem_of_getElem? (i := 1137) (by decide +kernel), List.mem_of_getElem? (i := 1138) (by decide +kernel)⟩
theorem lw_p33 : lw_okq (⟨"RingCuttersModel", "goes", "(IIIJ)V"⟩, 30) := ⟨⟨by decide +kernel, by decide +kernel⟩, List.mem_of_getElem? (i := 861) (by decide +kernel), List.mem_of_getElem? (i := 1141) (by decide +kernel), List.mem_of_getElem? (i := 1142) (by decide +kernel)⟩
theorem lw_p34 : lw_okq (⟨"RingCuttersModel", "laysApart", "()V"⟩, 30) := ⟨⟨by decide +kernel, by decide +kernel⟩, List.mem_of_getElem? (i := 861) (by decide +kernel), List.mem_of_getElem? (i := 1154) (by decide +kernel), List.mem_of_getElem? (i := 1155) (by decide +kernel)⟩
theorem lw_p35 : lw_okq (⟨"RingCuttersModel", "laysNear", "()I"⟩, 30) := ⟨⟨by decide +kernel, by decide +kernel⟩, List.mem_of_getElem? (i := 861) (by decide +kernel), List.mem_of_getElem? (i := 1166) (by decide +kernel), List.mem_of_getElem? (i := 1167) (by decide +kernel)⟩
theorem lw_p36 : lw_okq (⟨"RingCuttersModel", "trimmed", "(I)I"⟩, 30) := ⟨⟨by decide +kernel, by decide +kernel⟩, List.mem_of_getElem? (i := 861) (by decide +kernel), List.mem_of_getElem? (i := 1170) (by decide +kernel), List.mem_of_getElem? (i := 1171) (by decide +kernel)⟩
theorem lw_p37 : lw_okq (⟨"RingCuttersModel", "sinks", "(I)V"⟩, 30) := ⟨⟨by decide +kernel, by decide +kernel⟩, List.mem_of_getElem? (i := 861) (by decide +kernel), List.mem_of_getElem? (i := 1174) (by decide +kernel), List.mem_of_getElem? (i := 1175) (by decide +kernel)⟩
theorem lw_p38 : lw_okq (⟨"RingCuttersModel", "thinRing", "(I)I"⟩, 30) := ⟨⟨by decide +kernel, by decide +kernel⟩, List.mem_of_getElem? (i := 861) (by decide +kernel), List.mem_of_getElem? (i := 1178) (by decide +kernel), List.mem_of_getElem? (i := 1179) (by decide +kernel)⟩
theorem lw_p39 : lw_okq (⟨"RingCuttersModel", "takes", "(IJJI)V"⟩, 30) := ⟨⟨by decide +kernel, by decide +kernel⟩, List.mem_of_getElem? (i := 861) (by decide +kernel), List.mem_of_getElem? (i := 1185) (by decide +kernel), List.mem_of_getElem? (i := 1186) (by decide +kernel)⟩
theorem lw_p40 : lw_okq (⟨"RingCuttersModel", "bounds", "(JJI)V"⟩, 30) := ⟨⟨by decide +kernel, by decide +kernel⟩, List.mem_of_getElem? (i := 861) (by decide +kernel), List.mem_of_getElem? (i := 1189) (by decide +kernel), List.mem_of_getElem? (i := 1190) (by decide +kernel)⟩
theorem lw_p41 : lw_okq (⟨"RingCuttersModel", "steps", "()I"⟩, 30) := ⟨⟨by decide +kernel, by decide +kernel⟩, List.mem_of_getElem? (i := 861) (by decide +kernel), List.mem_of_getElem? (i := 1201) (by decide +kernel), List.mem_of_getElem? (i := 1202) (by decide +kernel)⟩
theorem lw_p42 : lw_okq (⟨"RingCuttersModel", "first", "(I)I"⟩, 30) := ⟨⟨by decide +kernel, by decide +kernel⟩, List.mem_of_getElem? (i := 861) (by decide +kernel), List.mem_of_getElem? (i := 1205) (by decide +kernel), List.mem_of_getElem? (i := 1206) (by decide +kernel)⟩
theorem lw_p43 : lw_okq (⟨"RingCuttersModel", "mayStep", "(II)Z"⟩, 30) := ⟨⟨by decide +kernel, by decide +kernel⟩, List.mem_of_getElem? (i := 861) (by decide +kernel), List.mem_of_getElem? (i := 1209) (by decide +kernel), List.mem_of_getElem? (i := 1210) (by decide +kernel)⟩
theorem lw_p44 : lw_okq (⟨"RingCuttersModel", "thick", "(I)I"⟩, 30) := ⟨⟨by decide +kernel, by decide +kernel⟩, List.mem_of_getElem? (i := 861) (by decide +kernel), List.mem_of_getElem? (i := 1213) (by decide +kernel), List.mem_of_getElem? (i := 1214) (by decide +kernel)⟩
theorem lw_p45 : lw_okq (⟨"RingCuttersModel", "one", "(I)I"⟩, 30) := ⟨⟨by decide +kernel, by decide +kernel⟩, List.mem_of_getElem? (i := 861) (by decide +kernel), List.mem_of_getElem? (i := 1217) (by decide +kernel), List.mem_of_getElem? (i := 1218) (by decide +kernel)⟩
theorem lw_p46 : lw_okq (⟨"RingCuttersModel", "other", "(I)I"⟩, 30) := ⟨⟨by decide +kernel, by decide +kernel⟩, List.mem_of_getElem? (i := 861) (by decide +kernel), List.mem_of_getElem? (i := 1221) (by decide +kernel), List.mem_of_getElem? (i := 1222) (by decide +kernel)⟩
theorem lw_p47 : lw_okq (⟨"RingCuttersModel", "stay", "()V"⟩, 30) := ⟨⟨by decide +kernel, by decide +kernel⟩, List.mem_of_getElem? (i := 861) (by decide +kernel), List.mem_of_getElem? (i := 1228) (by decide +kernel), List.mem_of_getElem? (i := 1229) (by decide +kernel)⟩
def lw_privs_3 : List (MethodName × Nat) := [(⟨"RingCuttersModel", "laysRings", "()V"⟩, 30), (⟨"RingCuttersModel", "goes", "(IIIJ)V"⟩, 30), (⟨"RingCuttersModel", "laysApart", "()V"⟩, 30), (⟨"RingCuttersModel", "laysNear", "()I"⟩, 30), (⟨"RingCuttersModel", "trimmed", "(I)I"⟩, 30), (⟨"RingCuttersModel", "sinks", "(I)V"⟩, 30), (⟨"RingCuttersModel", "thinRing", "(I)I"⟩, 30), (⟨"RingCuttersModel", "takes", "(IJJI)V"⟩, 30), (⟨"RingCuttersModel", "bounds", "(JJI)V"⟩, 30), (⟨"RingCuttersModel", "steps", "()I"⟩, 30), (⟨"RingCuttersModel", "first", "(I)I"⟩, 30), (⟨"RingCuttersModel", "mayStep", "(II)Z"⟩, 30), (⟨"RingCuttersModel", "thick", "(I)I"⟩, 30), (⟨"RingCuttersModel", "one", "(I)I"⟩, 30), (⟨"RingCuttersModel", "other", "(I)I"⟩, 30), (⟨"RingCuttersModel", "stay", "()V"⟩, 30)]
theorem lw_r3 : ∀ q ∈ lw_privs_3, lw_okq q := List.forall_mem_cons.mpr ⟨lw_p32, List.forall_mem_cons.mpr ⟨lw_p33, List.forall_mem_cons.mpr ⟨lw_p34, List.forall_mem_cons.mpr ⟨lw_p35, List.forall_mem_cons.mpr ⟨lw_p36, List.forall_mem_cons.mpr ⟨lw_p37, List.forall_mem_cons.mpr ⟨lw_p38, List.forall_mem_cons.mpr ⟨lw_p39, List.forall_mem_cons.mpr ⟨lw_p40, List.forall_mem_cons.mpr ⟨lw_p41, List.forall_mem_cons.mpr ⟨lw_p42, List.forall_mem_cons.mpr ⟨lw_p43, List.forall_mem_cons.mpr ⟨lw_p44, List.forall_mem_cons.mpr ⟨lw_p45, List.forall_mem_cons.mpr ⟨lw_p46, List.forall_mem_cons.mpr ⟨lw_p47, fun _ h => absurd h List.not_mem_nil⟩⟩⟩⟩⟩⟩⟩⟩⟩⟩⟩⟩⟩⟩⟩⟩
theorem lw_p48 : lw_okq (⟨"RingCuttersModel", "snap", "()V"⟩, 30) := ⟨⟨by decide +kernel, by decide +kernel⟩, List.mem_of_getElem? (i := 861) (by decide +kernel), List.mem_of_getElem? (i := 1232) (by decide +kernel), List.mem_of_getElem? (i := 1233) (by decide +kernel)⟩
theorem lw_p49 : lw_okq (⟨"RingCuttersModel", "mayJoin", "(II)Z"⟩, 30) := ⟨⟨by decide +kernel, by decide +kernel⟩, List.mem_of_getElem? (i := 861) (by decide +kernel), List.mem_of_getElem? (i := 1248) (by decide +kernel), List.mem_of_getElem? (i := 1249) (by decide +kernel)⟩
theorem lw_p50 : lw_okq (⟨"RingCuttersModel", "does", "()Z"⟩, 30) := ⟨⟨by decide +kernel, by decide +kernel⟩, List.mem_of_getElem? (i := 861) (by decide +kernel), List.mem_of_getElem? (i := 1264) (by decide +kernel), List.mem_of_getElem? (i := 1265) (by decide +kernel)⟩
theorem lw_p51 : lw_okq (⟨"RingCuttersModel", "draw", "(I)I"⟩, 30) := ⟨⟨by decide +kernel, by decide +kernel⟩, List.mem_of_getElem? (i := 861) (by decide +kernel), List.mem_of_getElem? (i := 1268) (by decide +kernel), List.mem_of_getElem? (i := 1269) (by decide +kernel)⟩
def lw_privs_4 : List (MethodName × Nat) := [(⟨"RingCuttersModel", "snap", "()V"⟩, 30), (⟨"RingCuttersModel", "mayJoin", "(II)Z"⟩, 30), (⟨"RingCuttersModel", "does", "()Z"⟩, 30), (⟨"RingCuttersModel", "draw", "(I)I"⟩, 30)]
theorem lw_r4 : ∀ q ∈ lw_privs_4, lw_okq q := List.forall_mem_cons.mpr ⟨lw_p48, List.forall_mem_cons.mpr ⟨lw_p49, List.forall_mem_cons.mpr ⟨lw_p50, List.forall_mem_cons.mpr ⟨lw_p51, fun _ h => absurd h List.not_mem_nil⟩⟩⟩⟩
def lw_privs : List (MethodName × Nat) := lw_privs_1 ++ (lw_privs_2 ++ (lw_privs_3 ++ (lw_privs_4)))
def lw_tbl : List Cond := k2_sels lw_privs ++ tables_1
theorem lw_privs_ok : ∀ q ∈ lw_privs, lw_okq q := by
  show ∀ q ∈ lw_privs_1 ++ (lw_privs_2 ++ (lw_privs_3 ++ (lw_privs_4))), lw_okq q
  exact List.forall_mem_append.mpr ⟨lw_r1, List.forall_mem_append.mpr ⟨lw_r2, List.forall_mem_append.mpr ⟨lw_r3, lw_r4⟩⟩⟩
-- ===== end of PART A; then your names; then what follows =====
/-! ===== BEGIN words of one list among another's, by their places ===== -/
theorem goodIn_r {big : List Cond} (ws : List Cond) (ps : List Nat) (hp : ws = ps.filterMap (fun i => big[i]?)) (h : ws.all goodWord = true) : GoodIn big ws := by
  intro w hw
  have h1 := List.all_eq_true.mp h w hw
  rw [hp] at hw
  obtain ⟨i, -, hi⟩ := List.mem_filterMap.mp hw
  have hm : w ∈ big := by first | exact List.mem_of_getElem? hi | exact List.getElem?_mem hi
  exact ⟨hm, good_of_word h1⟩
theorem goodIn_app {big a b : List Cond} (ha : GoodIn big a) (hb : GoodIn big b) : GoodIn big (a ++ b) := fun w h => (List.mem_append.mp h).elim (ha w) (hb w)
theorem goodIn_ca {big a b : List Cond} {c : Cond} (ha : GoodIn big (c :: a)) (hb : GoodIn big b) : GoodIn big (c :: (a ++ b)) := fun w h => (List.mem_cons.mp h).elim (fun e => ha w (List.mem_cons.mpr (Or.inl e))) (fun h => (List.mem_append.mp h).elim (fun h => ha w (List.mem_cons.mpr (Or.inr h))) (hb w))
theorem goodIn_sub {big ws : List Cond} (hm : ∀ w ∈ ws, w ∈ big) (h : ws.all goodWord = true) : GoodIn big ws := fun w hw => ⟨hm w hw, good_of_word (List.all_eq_true.mp h w hw)⟩
/-! ===== END ===== -/

/-! ===== BEGIN exceptions that leave a method, and their catching by the caller (launches without stack traces) ===== -/
section VXA
/-! The laws vx_back, vx_callV, vx_callS, vx_callSW, vx_throw0, vx_throwS follow proofs of the library, with one case more: JvmDerived/Free/Laws.lean (Back.of_free), Shelf42/LK1.lean (callV, callS), Shelf/KitTraced.lean (throwNew0V, throwNewS). -/
/-- where a method has thrown q: the class by its name, the cell, what was written, the world -/
def vx_T (XC : String → State → State → Prop) (st : State) (q : Addr) (t : State) (mc ms : Nat) (free : Addr → Prop) : Prop :=
  ∃ (E : String) (ce : Cell) (L : List Loc), XC E st t ∧ t.heap[q]? = some ce ∧ ce.vm = .none ∧ st.vm.findClass E = some ce.cls ∧ st.WarmedH t.vm ∧ st.sameButNew ({ t with vm := st.vm } : State) L mc ms ∧ ∀ z ∈ L, free z.base
def vx_Q (Qc : Array Value → State → Outcome → State → Prop) (XC : String → State → State → Prop) (mc ms : Nat) (free : Addr → Prop) : Array Value → State → Outcome → State → Prop := fun a st o t =>
  (Qc a st o t ∧ ∃ L, FrameEnd st o t L mc ms ∧ ∀ q ∈ L, free q.base) ∨ ∃ q, o = .threw q ∧ vx_T XC st q t mc ms free
/-- a callee that returns or throws -/
def vx_Met (l : Launch) (y : MethodName) (ws : List Cond) (rm : Room) (Pc : Array Value → State → Prop) (Qc : Array Value → State → Outcome → State → Prop) (XC : String → State → State → Prop) (mc ms : Nat) (free : Addr → Prop) : Prop :=
  MetFree l y (headSpec ws rm) Pc (fun _ _ _ _ _ => True) (vx_Q Qc XC mc ms free)
def vx_Post (XC : String → State → State → Prop) (mc ms : Nat) (free : Addr → Prop) : Pt → Array Value → Addr → Pt → Prop := fun A a q B =>
  ∃ (g : JFrame) (mk : MethodId) (t : State) (L : List Loc) (E : String) (ce : Cell), B.U.heap = t.heap ∧ B.U.vm = t.vm ∧ XC E (A.U.calling g mk a) t ∧ t.heap[q]? = some ce ∧ ce.vm = .none ∧ A.U.vm.findClass E = some ce.cls ∧ B.locs = A.locs ++ L ∧ (∀ z ∈ L, free z.base) ∧ B.cells = A.cells + mc ∧ B.slots = A.slots + ms
def vx_Back (l : Launch) (R : Room) (p : Program) (e : Env) (below : List Frame) (s : State) (sargs : Array Value) (y : MethodName) (len W9 : Nat)
    (Pre : Pt → Array Value → Prop) (Post : Pt → Array Value → Option Value → Pt → Prop) (PostX : Pt → Array Value → Addr → Pt → Prop) : Prop :=
  ∀ (m : MethodId) (meth : Method) (c : Code) (A : Pt) (g : JFrame) (ig : Instr) (mk : MethodId) (a : Array Value),
    Stand p l e R s m sargs below meth c A.U A.locs A.cells A.slots → g.method = m → g.locals.size = c.maxLocals → decode c.code g.pc = .ok (ig, len) →
    2 * g.monitorRoom + (g.stack.map fun v => v.category).sum ≤ W9 → A.U.methodNamed? y = some mk → Pre A a →
    (∃ (v : Option Value) (B : Pt), Stand p l e R s m sargs below meth c B.U B.locs B.cells B.slots ∧ Post A a v B ∧
      Steps p.tables e below (doInvoke e (A.U.setTop g) [] mk a).1 (B.U.setTop { g with pc := g.pc + len, stack := v.toList ++ g.stack })) ∨
    (∃ (q : Addr) (B : Pt), Stand p l e R s m sargs below meth c B.U B.locs B.cells B.slots ∧ PostX A a q B ∧
      Steps p.tables e below (doInvoke e (A.U.setTop g) [] mk a).1 ((B.U.setTop g).pushFrame (.throwing q)))
section Payer
variable {l : Launch} {R : Room} {p : Program} {e : Env} {below : List Frame} {s : State} {sargs : Array Value} {y : MethodName} {len W9 : Nat}
theorem vx_back {ws : List Cond} {rm : Room} {Pc : Array Value → State → Prop} {Qc : Array Value → State → Outcome → State → Prop} {XC : String → State → State → Prop} {mc ms : Nat} {free : Addr → Prop} {bytes : ByteArray} {maxL : Nat} {ret : Option FieldType}
    (hM : vx_Met l y ws rm Pc Qc XC mc ms free) (hblind : FrameBlind Pc) (hrc : rm.cells = mc) (hrs : rm.slots = ms)
    (hframes : rm.frames + 1 ≤ R.frames) (hlocals : W9 + (maxL + 11) + rm.locals ≤ R.locals)
    (hws : ∀ w ∈ ws, ∀ a' U, s.WarmedH U.vm → w.before a' U = true) (hcode : Cond.code y bytes maxL ret ∈ ws) (hinit : ∀ a' U, s.WarmedH U.vm → (Cond.initialized y.cls).before a' U = true) :
    vx_Back l R p e below s sargs y len W9 (PreOf R mc ms Pc) (PostOf Qc mc ms free) (vx_Post XC mc ms free) := by
  intro m meth c A g ig mk a X hg hsize hdg hW hn hp
  have h1 : (headSpec ws rm).pre.before a A.U = true := atoms_intro fun w hw => hws w hw _ _ X.warmed
  have h2 : (Cond.code y bytes maxL ret).before a A.U = true := hws _ hcode _ _ X.warmed
  have h3 : (Cond.initialized y.cls).before a A.U = true := hinit _ _ X.warmed
  have h4 : A.cells + (headSpec ws rm).room.cells ≤ R.cells := by rw [show (headSpec ws rm).room.cells = mc from hrc]; exact hp.1
  have h5 : A.slots + (headSpec ws rm).room.slots ≤ R.slots := by rw [show (headSpec ws rm).room.slots = ms from hrs]; exact hp.2.1
  have hPc : Pc a (A.U.calling g mk a) := hblind _ _ _ _ hp.2.2
  obtain ⟨U, Ls, c0, s0⟩ := A
  dsimp only [Pt.U, Pt.locs, Pt.cells, Pt.slots] at h1 h2 h3 h4 h5 X hn hPc ⊢
  obtain ⟨methY, cY, hmY, hcY, -, hlY, -, -, -, -⟩ := Cond.code_spec hn h2
  obtain ⟨kY, hkY, -⟩ := className_of_methodNamed hn
  have hinitY : kY.init = .initialized := Cond.initialized_spec (findClass_of_methodNamed hn) hkY h3
  have h : At U g.method c below := by rw [hg]; exact X.here
  have hlocals9 : W9 + (maxL + 11) + (headSpec ws rm).room.locals ≤ R.locals := hlocals
  have happ : (headSpec ws rm).appliesLoose y e.platform (U.calling g mk a) = true :=
    Spec.appliesLoose_calling (g := g) h hdg hn hkY hinitY
      (X.room_calling (g := g) (R' := (headSpec ws rm).room) hsize hmY hcY hframes (by rw [hlY]; omega) h4 h5) h1
  obtain ⟨mid, hmid⟩ := h.above
  have hfr : (U.setTop g).frames = (.java g :: mid) ++ below := by rw [State.frames_setTop' g h.top, hmid]; rfl
  obtain ⟨o, s₂, hsteps, -, hend, hq⟩ := Steps.callFree hM p X.admits X.cas X.clock (acts := []) hfr happ hPc trivial
  have hq' : vx_Q Qc XC mc ms free a (U.calling g mk a) o s₂ := hq
  rw [State.frames_setTop' g h.top] at hend
  obtain ⟨g₀, hg0⟩ := Option.isSome_iff_exists.mp h.top
  obtain ⟨r, hr⟩ := State.topJava?_eq_some.mp hg0
  have hr' : (({ U with heap := s₂.heap, slotsUsed := s₂.slotsUsed } : State).setVm s₂.vm).frames = .java g₀ :: r := hr
  rcases hq' with ⟨hqc, L, hfe, hL⟩ | ⟨q, rfl, E, ce, L, hx, hce, hcv, hcl, hW₂, hsm, hL⟩
  · obtain ⟨⟨v, rfl⟩, hW₂, e2, q2, q3, q4, q5, q6⟩ := id hfe
    have e3 : s₂ = ({ (U.calling g mk a).setFrames s₂.frames with heap := s₂.heap, slotsUsed := s₂.slotsUsed } : State).setVm s₂.vm := by
      have : s₂ = ({ s₂ with vm := (U.calling g mk a).vm } : State).setVm s₂.vm := rfl
      rw [e2] at this
      exact this
    obtain ⟨c₂, i₂, len₂, hc₂, hd₂, hf₂⟩ := hend
    have hW' : U.WarmedH s₂.vm := hW₂
    have hcc : c₂ = c := by
      have h1 : s₂.code? g.method = U.code? g.method := by
        rw [State.code?_eq, State.code?_eq, hW'.alike.method?]
      exact Option.some.inj (hc₂.symm.trans (h1.trans h.code))
    subst hcc
    have hlen : len₂ = len := by rw [hdg] at hd₂; cases hd₂; rfl
    subst hlen
    have hs₂ : s₂ = (({ U with heap := s₂.heap, slotsUsed := s₂.slotsUsed } : State).setVm s₂.vm).setTop { g with pc := g.pc + len₂, stack := v.toList ++ g.stack } := by
      refine e3.trans ?_
      rw [hf₂, State.calling_eq h.top, State.setFrames_setFrames, State.setTop_of_frames _ hr', hr]
      rfl
    have hsame : U.sameButNew ({ U with heap := s₂.heap, slotsUsed := s₂.slotsUsed } : State) L mc ms := by
      refine ⟨?_, q2, q3, q4, q5, q6⟩
      obtain ⟨t, ht, -⟩ := State.frames_cons hr
      show ({ U with heap := s₂.heap, slotsUsed := s₂.slotsUsed } : State) = { U.setFrames U.frames with heap := s₂.heap, slotsUsed := s₂.slotsUsed }
      rw [State.setFrames_self ht]
    subst hg
    refine Or.inl ⟨v, ⟨(({ U with heap := s₂.heap, slotsUsed := s₂.slotsUsed } : State).setVm s₂.vm), Ls ++ L, c0 + mc, s0 + ms⟩,
      ⟨X.admits, X.cas, X.clock, X.frames, X.room, X.hears, X.method, X.code, (X.here.setHeapUsed s₂.heap s₂.slotsUsed).setVm hW'.alike, X.tail, State.WarmedH.trans X.warmed hW', X.limits, X.bytes, X.same.trans (hsame.setVm s.vm)⟩,
      ⟨g, mk, s₂, L, rfl, rfl, hqc, rfl, hL, rfl, rfl⟩, ?_⟩
    show Steps p.tables e below _ ((({ U with heap := s₂.heap, slotsUsed := s₂.slotsUsed } : State).setVm s₂.vm).setTop { g with pc := g.pc + len₂, stack := v.toList ++ g.stack })
    rw [← hs₂]
    exact hsteps
  · obtain ⟨e2, q2, q3, q4, q5, q6⟩ := id hsm
    have e3 : s₂ = ({ (U.calling g mk a).setFrames s₂.frames with heap := s₂.heap, slotsUsed := s₂.slotsUsed } : State).setVm s₂.vm := by
      have : s₂ = ({ s₂ with vm := (U.calling g mk a).vm } : State).setVm s₂.vm := rfl
      rw [e2] at this
      exact this
    have hf₂ : s₂.frames = .throwing q :: .java g :: U.frames.tail := hend
    have hW' : U.WarmedH s₂.vm := hW₂
    have hs₂ : s₂ = ((({ U with heap := s₂.heap, slotsUsed := s₂.slotsUsed } : State).setVm s₂.vm).setTop g).pushFrame (.throwing q) := by
      refine e3.trans ?_
      rw [hf₂, State.calling_eq h.top, State.setFrames_setFrames, State.pushFrame, State.frames_setTop _ hr', State.setTop_of_frames _ hr', State.setFrames_setFrames, hr]
      rfl
    have hsame : U.sameButNew ({ U with heap := s₂.heap, slotsUsed := s₂.slotsUsed } : State) L mc ms := by
      refine ⟨?_, q2, q3, q4, q5, q6⟩
      obtain ⟨t, ht, -⟩ := State.frames_cons hr
      show ({ U with heap := s₂.heap, slotsUsed := s₂.slotsUsed } : State) = { U.setFrames U.frames with heap := s₂.heap, slotsUsed := s₂.slotsUsed }
      rw [State.setFrames_self ht]
    subst hg
    refine Or.inr ⟨q, ⟨(({ U with heap := s₂.heap, slotsUsed := s₂.slotsUsed } : State).setVm s₂.vm), Ls ++ L, c0 + mc, s0 + ms⟩,
      ⟨X.admits, X.cas, X.clock, X.frames, X.room, X.hears, X.method, X.code, (X.here.setHeapUsed s₂.heap s₂.slotsUsed).setVm hW'.alike, X.tail, State.WarmedH.trans X.warmed hW', X.limits, X.bytes, X.same.trans (hsame.setVm s.vm)⟩,
      ⟨g, mk, s₂, L, E, ce, rfl, rfl, hx, hce, hcv, hcl, rfl, hL, rfl, rfl⟩, ?_⟩
    show Steps p.tables e below _ (((({ U with heap := s₂.heap, slotsUsed := s₂.slotsUsed } : State).setVm s₂.vm).setTop g).pushFrame (.throwing q))
    rw [← hs₂]
    exact hsteps
end Payer
section Calls
variable {p : Program} {l : Launch} {e : Env} {R : Room} {s : State} {m : MethodId} {args : Array Value} {below : List Frame} {meth : Method} {c : Code} {T : State} {locs : List Loc} {cells slots : Nat}
theorem vx_callV (X : Stand p l e R s m args below meth c T locs cells slots) (hexec : p.tables.exec = Jvm.exec) {own C : String} {index : Nat} {y : MethodName} {bytes : ByteArray} {maxL : Nat} {ret : Option FieldType}
    (hown : s.vm.findClass own = some m.cls) (hlink : (Cond.methodLink own index y).before args s = true) (hinst : (Cond.instanceMethod y).before args s = true) (hsel : (Cond.selects C y y).before args s = true)
    (hcode : (Cond.code y bytes maxL ret).before args s = true) (hy : y.cls ≠ "java/lang/invoke/MethodHandle" ∧ y.cls ≠ "java/lang/invoke/VarHandle")
    {W9 : Nat} {Pre : Pt → Array Value → Prop} {Post : Pt → Array Value → Option Value → Pt → Prop} {PostX : Pt → Array Value → Addr → Pt → Prop} (hK : vx_Back l R p e below s args y 3 W9 Pre Post PostX)
    {b : Addr} {cellB : Cell} (hcell : T.heap[b]? = some cellB) (hobj : cellB.vm.isStatics = false) (hcls : s.vm.findClass C = some cellB.cls)
    {g : JFrame} (hg : g.method = m) (hsize : g.locals.size = c.maxLocals) {argsL rest : List Value} (hlen : ∀ sig, parseMethodDescriptor y.desc = some sig → argsL.length = sig.parameters.length)
    (hstack : g.stack = argsL.reverse ++ .ref b :: rest) (hW : 2 * g.monitorRoom + (rest.map fun v => v.category).sum ≤ W9) (hdg : decode c.code g.pc = .ok (.invokevirtual index, 3))
    (hpre : ∀ vm₁, s.WarmedH vm₁ → Pre ⟨T.setVm vm₁, locs, cells, slots⟩ (Value.ref b :: argsL).toArray) :
    (∃ (v : Option Value) (vm₁ : Vm) (B : Pt), s.WarmedH vm₁ ∧ Stand p l e R s m args below meth c B.U B.locs B.cells B.slots ∧ Post ⟨T.setVm vm₁, locs, cells, slots⟩ (Value.ref b :: argsL).toArray v B ∧
      ∀ target, Steps p.tables e below (B.U.setTop { g with pc := g.pc + 3, stack := v.toList ++ rest }) target → Steps p.tables e below (T.setTop g) target) ∨
    (∃ (q : Addr) (vm₁ : Vm) (B : Pt), s.WarmedH vm₁ ∧ Stand p l e R s m args below meth c B.U B.locs B.cells B.slots ∧ PostX ⟨T.setVm vm₁, locs, cells, slots⟩ (Value.ref b :: argsL).toArray q B ∧
      Steps p.tables e below (T.setTop g) ((B.U.setTop { g with stack := rest }).pushFrame (.throwing q))) := by
  obtain ⟨mk, methM, hnamed, hmethM, hstM, habM⟩ := Cond.instanceMethod_spec hinst
  obtain ⟨methM', cM, hmethM', -, -, -, -, -, -, hsigM⟩ := Cond.code_spec hnamed hcode
  cases hmethM.symm.trans hmethM'
  obtain ⟨c2, r2, m2, q1, q2, q3, q4, kP, hkP, hkPi⟩ := Cond.selects_spec hsel
  cases hcls.symm.trans q1
  cases (State.methodFound?_of_named hnamed hy).symm.trans q2
  cases hnamed.symm.trans q3
  have hselP : selectMethod e.platform s.vm cellB.cls mk = .method mk := by rw [Launch.admits_selectMethod X.admits]; exact q4
  obtain ⟨vm₁, X₁, hstep₁⟩ := X.invokevirtual hexec hown hlink hnamed hmethM hstM hkP hkPi hy (a := b) (cell := cellB) hcell
    (fun z h => by rw [h] at hobj; cases hobj) hselP hmethM habM hkP hkPi (g := g) hg (argsL := argsL) (rest := rest) (hlen _ hsigM) hstack hdg
  rcases hK m meth c ⟨T.setVm vm₁, locs, cells, slots⟩ { g with stack := rest } (.invokevirtual index) mk (Value.ref b :: argsL).toArray X₁ hg hsize hdg hW (X₁.named hnamed) (hpre vm₁ X₁.warmed) with ⟨v, B, X', hpost, hsteps⟩ | ⟨q, B, X', hpost, hsteps⟩
  · exact Or.inl ⟨v, vm₁, B, X₁.warmed, X', hpost, fun target h => hstep₁ _ fun acts => by rw [doInvoke_state]; exact hsteps.trans h⟩
  · exact Or.inr ⟨q, vm₁, B, X₁.warmed, X', hpost, hstep₁ _ fun acts => by rw [doInvoke_state]; exact hsteps⟩
theorem vx_callS (X : Stand p l e R s m args below meth c T locs cells slots) (hexec : p.tables.exec = Jvm.exec) {own : String} {index : Nat} {y : MethodName} {bytes : ByteArray} {maxL : Nat} {ret : Option FieldType}
    (hown : s.vm.findClass own = some m.cls) (hlink : (Cond.methodLink own index y).before args s = true) (hstat : (Cond.static y).before args s = true) (hinit : (Cond.initialized y.cls).before args s = true)
    (hcode : (Cond.code y bytes maxL ret).before args s = true) (hy : y.cls ≠ "java/lang/invoke/MethodHandle" ∧ y.cls ≠ "java/lang/invoke/VarHandle")
    {W9 : Nat} {Pre : Pt → Array Value → Prop} {Post : Pt → Array Value → Option Value → Pt → Prop} {PostX : Pt → Array Value → Addr → Pt → Prop} (hK : vx_Back l R p e below s args y 3 W9 Pre Post PostX)
    {g : JFrame} (hg : g.method = m) (hsize : g.locals.size = c.maxLocals) {argsL rest : List Value} (hlen : ∀ sig, parseMethodDescriptor y.desc = some sig → argsL.length = sig.parameters.length)
    (hstack : g.stack = argsL.reverse ++ rest) (hW : 2 * g.monitorRoom + (rest.map fun v => v.category).sum ≤ W9) (hdg : decode c.code g.pc = .ok (.invokestatic index, 3))
    (hpre : ∀ vm₁, s.WarmedH vm₁ → Pre ⟨T.setVm vm₁, locs, cells, slots⟩ argsL.toArray) :
    (∃ (v : Option Value) (vm₁ : Vm) (B : Pt), s.WarmedH vm₁ ∧ Stand p l e R s m args below meth c B.U B.locs B.cells B.slots ∧ Post ⟨T.setVm vm₁, locs, cells, slots⟩ argsL.toArray v B ∧
      ∀ target, Steps p.tables e below (B.U.setTop { g with pc := g.pc + 3, stack := v.toList ++ rest }) target → Steps p.tables e below (T.setTop g) target) ∨
    (∃ (q : Addr) (vm₁ : Vm) (B : Pt), s.WarmedH vm₁ ∧ Stand p l e R s m args below meth c B.U B.locs B.cells B.slots ∧ PostX ⟨T.setVm vm₁, locs, cells, slots⟩ argsL.toArray q B ∧
      Steps p.tables e below (T.setTop g) ((B.U.setTop { g with stack := rest }).pushFrame (.throwing q))) := by
  obtain ⟨mk, hnamed⟩ := Cond.code_named hcode
  obtain ⟨methM, cM, hmethM, -, -, -, -, -, -, hsigM⟩ := Cond.code_spec hnamed hcode
  have hstatic : methM.isStatic = true := Cond.static_spec hnamed hmethM hstat
  obtain ⟨kP, hkP, -⟩ := className_of_methodNamed hnamed
  have hinitP : kP.init = .initialized := Cond.initialized_spec (findClass_of_methodNamed hnamed) hkP hinit
  obtain ⟨vm₁, X₁, hstep₁⟩ := X.invokestatic hexec hown hlink hnamed hmethM hstatic hkP hinitP hy (g := g) hg (argsL := argsL) (rest := rest) (hlen _ hsigM) hstack hdg
  rcases hK m meth c ⟨T.setVm vm₁, locs, cells, slots⟩ { g with stack := rest } (.invokestatic index) mk argsL.toArray X₁ hg hsize hdg hW (X₁.named hnamed) (hpre vm₁ X₁.warmed) with ⟨v, B, X', hpost, hsteps⟩ | ⟨q, B, X', hpost, hsteps⟩
  · exact Or.inl ⟨v, vm₁, B, X₁.warmed, X', hpost, fun target h => hstep₁ _ fun acts => by rw [doInvoke_state]; exact hsteps.trans h⟩
  · exact Or.inr ⟨q, vm₁, B, X₁.warmed, X', hpost, hstep₁ _ fun acts => by rw [doInvoke_state]; exact hsteps⟩
end Calls
theorem vx_cls {s : State} {T : State} {vm₁ : Vm} {E : String} {k : ClassId} (hW : s.WarmedH vm₁) (h : (T.setVm vm₁).vm.findClass E = some k) : s.vm.findClass E = some k := by
  have h1 : vm₁.findClass E = some k := h
  rw [hW.alike.findClass] at h1
  exact h1
/-- the method's frame g, with q thrown over it -/
def vx_W (p : Program) (l : Launch) (e : Env) (R : Room) (s : State) (m : MethodId) (args : Array Value) (below : List Frame) (meth : Method) (c : Code) (H : Heap) (locs : List Loc) (cells slots : Nat) (Q : State → Prop) (g : JFrame) (q : Addr) : Prop :=
  ∀ T : State, T.heap = H → Stand p l e R s m args below meth c T locs cells slots → ∃ t, Steps p.tables e below ((T.setTop g).pushFrame (.throwing q)) t ∧ Q t
def vx_Run (p : Program) (l : Launch) (e : Env) (R : Room) (s : State) (m : MethodId) (args : Array Value) (below : List Frame) (meth : Method) (c : Code) (H : Heap) (locs : List Loc) (cells slots mc ms : Nat) (g : JFrame) (rest : List Value) (Qa : State → Outcome → State → Prop) (XC : String → State → State → Prop) (free : Addr → Prop) : Prop :=
  ∀ T : State, T.heap = H → Stand p l e R s m args below meth c T locs cells slots →
    (∃ (v : Option Value) (st₀ t T' : State) (L : List Loc), st₀.heap = H ∧ Stand p l e R s m args below meth c T' (locs ++ L) (cells + mc) (slots + ms) ∧ (∀ q ∈ L, free q.base) ∧ T'.heap = t.heap ∧ T'.vm = t.vm ∧ Qa st₀ (.returned v) t ∧
      Goes p e below T g T' { g with pc := g.pc + 3, stack := v.toList ++ rest }) ∨
    (∃ (q : Addr) (st₀ t T' : State) (L : List Loc) (E : String) (ce : Cell), st₀.heap = H ∧ Stand p l e R s m args below meth c T' (locs ++ L) (cells + mc) (slots + ms) ∧ (∀ z ∈ L, free z.base) ∧ T'.heap = t.heap ∧ T'.vm = t.vm ∧ XC E st₀ t ∧ t.heap[q]? = some ce ∧ ce.vm = .none ∧ s.vm.findClass E = some ce.cls ∧
      Steps p.tables e below (T.setTop g) ((T'.setTop { g with stack := rest }).pushFrame (.throwing q)))
def vx_X {S : Type} (px : S → Prop) (B : String → S → State → Prop) (A : Nat → Prop) : String → State → State → Prop := fun E st t => ∃ u : S, px u ∧ B E u t ∧ va_F A st t
section Runs
variable {p : Program} {l : Launch} {e : Env} {R : Room} {s : State} {m : MethodId} {args : Array Value} {below : List Frame} {meth : Method} {c : Code} {H : Heap} {locs : List Loc} {cells slots : Nat}
variable {y : MethodName} {bytes cc : ByteArray} {maxL nL mc ms n index : Nat} {ret : Option FieldType} {ws : List Cond} {rm : Room} {Pc : Array Value → State → Prop} {Qc : Array Value → State → Outcome → State → Prop} {XC : String → State → State → Prop} {free : Addr → Prop} {Ts : List Cond} {own C : String} {b : Addr} {As rest : List Value} {g : JFrame}
theorem vx_callBack (cb : CallB R s args own index y bytes maxL ret ws rm mc ms n) (hM : vx_Met l y ws rm Pc Qc XC mc ms free) (hbl : FrameBlind Pc) : vx_Back l R p e below s args y 3 8 (PreOf R mc ms Pc) (PostOf Qc mc ms free) (vx_Post XC mc ms free) := by
  obtain ⟨hrc, hrs, hfr, hlo, hws, hcw, -, hini, -⟩ := cb
  exact vx_back (bytes := bytes) (maxL := maxL) (ret := ret) hM hbl hrc hrs hfr hlo hws hcw (fun a' U hW => word_at hW (Or.inl (by first | rfl | simp [Cond.onTables, Cond.keeps, Cond.steady])) hini)
theorem vx_runV (S : CallFix p m c cc nL s args Ts own) (hM : vx_Met l y ws rm Pc Qc XC mc ms free) (cw : CallW R s args own C index y bytes maxL ret ws rm mc ms n) (hp : PreV s H C b Pc As)
    (hg : g.method = m) (hn : As.length = n) (hsize : g.locals.size = nL) (hstack : g.stack = As.reverse ++ .ref b :: rest) (hW : 2 * g.monitorRoom + (rest.map fun v => v.category).sum ≤ 8) (hdg : decode cc g.pc = .ok (.invokevirtual index, 3)) (hf : cells + mc ≤ R.cells ∧ slots + ms ≤ R.slots) :
    vx_Run p l e R s m args below meth c H locs cells slots mc ms g rest (Qc (Value.ref b :: As).toArray) XC free := by
  have hK : vx_Back l R p e below s args y 3 8 (PreOf R mc ms Pc) (PostOf Qc mc ms free) (vx_Post XC mc ms free) := vx_callBack cw.1 hM hp.1
  obtain ⟨⟨-, -, -, -, -, -, hcode, -, hy, hlen, hl⟩, hin, hse⟩ := cw
  obtain ⟨hx, hb, hml, ho, -⟩ := S
  obtain ⟨-, ⟨cellB, hcB, hoB, hclB⟩, hPc⟩ := hp
  intro T hT X
  rcases vx_callV X hx (C := C) (bytes := bytes) (maxL := maxL) (ret := ret) ho hl hin hse hcode hy hK (by rw [hT]; exact hcB) hoB hclB hg (hsize.trans hml.symm) (argsL := As) (rest := rest) (fun sig h => hn.trans (hlen sig h)) hstack hW (by rw [hb]; exact hdg)
    (fun vm₁ hW₁ => ⟨hf.1, hf.2, hPc (T.setVm vm₁) hT hW₁⟩) with ⟨v, vm₁, ⟨U', l2, c2, s2⟩, hW₁, X', ⟨g', mk, t, L, e1, e2, hq, h1, hL, h2, h3⟩, st⟩ | ⟨q, vm₁, ⟨U', l2, c2, s2⟩, hW₁, X', ⟨g', mk, t, L, E, ce, e1, e2, hq, hce, hcv, hcl, h1, hL, h2, h3⟩, st⟩
  · dsimp only [Pt.U, Pt.locs, Pt.cells, Pt.slots] at X' e1 e2 h1 h2 h3 st
    subst h1; subst h2; subst h3
    exact Or.inl ⟨v, (T.setVm vm₁).calling g' mk (Value.ref b :: As).toArray, t, U', L, hT, X', hL, e1, e2, hq, st⟩
  · dsimp only [Pt.U, Pt.locs, Pt.cells, Pt.slots] at X' e1 e2 h1 h2 h3 st hcl
    subst h1; subst h2; subst h3
    exact Or.inr ⟨q, (T.setVm vm₁).calling g' mk (Value.ref b :: As).toArray, t, U', L, E, ce, hT, X', hL, e1, e2, hq, hce, hcv, vx_cls hW₁ hcl, st⟩
theorem vx_runS (S : CallFix p m c cc nL s args Ts own) (hM : vx_Met l y ws rm Pc Qc XC mc ms free) (cw : CallB R s args own index y bytes maxL ret ws rm mc ms n ∧ (Cond.static y).before args s = true) (hp : PreS s H Pc As)
    (hg : g.method = m) (hn : As.length = n) (hsize : g.locals.size = nL) (hstack : g.stack = As.reverse ++ rest) (hW : 2 * g.monitorRoom + (rest.map fun v => v.category).sum ≤ 8) (hdg : decode cc g.pc = .ok (.invokestatic index, 3)) (hf : cells + mc ≤ R.cells ∧ slots + ms ≤ R.slots) :
    vx_Run p l e R s m args below meth c H locs cells slots mc ms g rest (Qc As.toArray) XC free := by
  have hK : vx_Back l R p e below s args y 3 8 (PreOf R mc ms Pc) (PostOf Qc mc ms free) (vx_Post XC mc ms free) := vx_callBack cw.1 hM hp.1
  obtain ⟨⟨-, -, -, -, -, -, hcode, hini, hy, hlen, hl⟩, hstt⟩ := cw
  obtain ⟨hx, hb, hml, ho, -⟩ := S
  intro T hT X
  rcases vx_callS X hx (bytes := bytes) (maxL := maxL) (ret := ret) ho hl hstt hini hcode hy hK hg (hsize.trans hml.symm) (argsL := As) (rest := rest) (fun sig h => hn.trans (hlen sig h)) hstack hW (by rw [hb]; exact hdg)
    (fun vm₁ hW₁ => ⟨hf.1, hf.2, hp.2 (T.setVm vm₁) hT hW₁⟩) with ⟨v, vm₁, ⟨U', l2, c2, s2⟩, hW₁, X', ⟨g', mk, t, L, e1, e2, hq, h1, hL, h2, h3⟩, st⟩ | ⟨q, vm₁, ⟨U', l2, c2, s2⟩, hW₁, X', ⟨g', mk, t, L, E, ce, e1, e2, hq, hce, hcv, hcl, h1, hL, h2, h3⟩, st⟩
  · dsimp only [Pt.U, Pt.locs, Pt.cells, Pt.slots] at X' e1 e2 h1 h2 h3 st
    subst h1; subst h2; subst h3
    exact Or.inl ⟨v, (T.setVm vm₁).calling g' mk As.toArray, t, U', L, hT, X', hL, e1, e2, hq, st⟩
  · dsimp only [Pt.U, Pt.locs, Pt.cells, Pt.slots] at X' e1 e2 h1 h2 h3 st hcl
    subst h1; subst h2; subst h3
    exact Or.inr ⟨q, (T.setVm vm₁).calling g' mk As.toArray, t, U', L, E, ce, hT, X', hL, e1, e2, hq, hce, hcv, vx_cls hW₁ hcl, st⟩
end Runs
section Rows
variable {p : Program} {l : Launch} {e : Env} {R : Room} {s : State} {m : MethodId} {args : Array Value} {below : List Frame} {meth : Method} {c : Code} {H : Heap} {locs : List Loc} {cells slots : Nat} {Q : State → Prop}
variable {mc ms : Nat} {free : Addr → Prop} {A0 A1 : Nat → Prop} {H0 : Heap} {a : Array Value} {pc : Nat} {ls : Array Slot} {st0 rest : List Value}
theorem vx_keep {st₀ t T' : State} {L : List Loc} (h0 : st₀.heap = H) (e1 : T'.heap = t.heap) (hS : va_S A0 H0 H locs) (hA : ∀ q, q < H.size → A1 q → A0 q) (hf : ∀ q, free q → A0 q) (hL : ∀ q ∈ L, free q.base) (hF : va_F A1 st₀ t) :
    H.size ≤ T'.heap.size ∧ (∀ q : Nat, q < H.size → ¬ A1 q → T'.heap[q]? = H[q]?) ∧ va_S A0 H0 T'.heap (locs ++ L) := by
  obtain ⟨hz, hk⟩ := hF
  rw [h0] at hz hk
  exact ⟨by rw [e1]; exact hz, fun q h1 h2 => by rw [e1]; exact hk q h1 h2,
    ⟨Nat.le_trans hS.1 (by rw [e1]; exact hz), fun q h1 h2 => by rw [e1, hk q (Nat.lt_of_lt_of_le h1 hS.1) (fun z => h2 (hA q (Nat.lt_of_lt_of_le h1 hS.1) z))]; exact hS.2.1 q h1 h2, fun q hq => by
      rcases List.mem_append.mp hq with h | h
      · exact hS.2.2 q h
      · exact hf _ (hL q h)⟩⟩
theorem vx_calli {S SX : Type} {post : Int32 → S → Prop} {px : SX → Prop} {B : S → State → Prop} {BX : String → SX → State → Prop} {AX : Nat → Prop} (hr : vx_Run p l e R s m args below meth c H locs cells slots mc ms (F0 m pc ls st0) rest (va_Qi post B A1 a) (vx_X px BX AX) free) (hS : va_S A0 H0 H locs) (hA : ∀ q, q < H.size → A1 q → A0 q) (hf : ∀ q, free q → A0 q) (hAX : ∀ q, q < H.size → AX q → A0 q)
    (kx : ∀ (E : String) (ce : Cell) (q9 : Addr) (u : SX) (t : State) (H1 : Heap) (locs1 : List Loc), t.heap = H1 → s.vm.Alike t.vm → px u → BX E u t → H.size ≤ H1.size → (∀ q : Nat, q < H.size → ¬ AX q → H1[q]? = H[q]?) → va_S A0 H0 H1 locs1 → H1[q9]? = some ce → ce.vm = .none → s.vm.findClass E = some ce.cls → vx_W p l e R s m args below meth c H1 locs1 (cells + mc) (slots + ms) Q (F0 m pc ls rest) q9)
    (kk : ∀ (r : Int32) (u : S) (t : State) (H1 : Heap) (locs1 : List Loc), t.heap = H1 → s.vm.Alike t.vm → post r u → B u t → H.size ≤ H1.size → (∀ q : Nat, q < H.size → ¬ A1 q → H1[q]? = H[q]?) → va_S A0 H0 H1 locs1 → W p l e R s m args below meth c H1 locs1 (cells + mc) (slots + ms) Q (F0 m (pc + 3) ls (.int r :: rest))) : W p l e R s m args below meth c H locs cells slots Q (F0 m pc ls st0) := by
  intro T hT X
  rcases hr T hT X with ⟨v, st₀, t, T', L, h0, X', hL, e1, e2, ⟨⟨r, u, hv, hp, hb⟩, hF⟩, st⟩ | ⟨q, st₀, t, T', L, E, ce, h0, X', hL, e1, e2, ⟨u, hp, hb, hF⟩, hce, hcv, hcl, st⟩
  · cases hv
    obtain ⟨k1, k2, k3⟩ := vx_keep h0 e1 hS hA hf hL hF
    obtain ⟨t2, a1, b1⟩ := kk r u t T'.heap (locs ++ L) e1.symm (by rw [← e2]; exact X'.warmed.alike) hp hb k1 k2 k3 T' rfl X'
    exact ⟨t2, st t2 a1, b1⟩
  · obtain ⟨k1, k2, k3⟩ := vx_keep h0 e1 hS hAX hf hL hF
    obtain ⟨t2, a1, b1⟩ := kx E ce q u t T'.heap (locs ++ L) e1.symm (by rw [← e2]; exact X'.warmed.alike) hp hb k1 k2 k3 (by rw [e1]; exact hce) hcv hcl T' rfl X'
    exact ⟨t2, st.trans a1, b1⟩
theorem vx_calll {S SX : Type} {post : Int64 → S → Prop} {px : SX → Prop} {B : S → State → Prop} {BX : String → SX → State → Prop} {AX : Nat → Prop} (hr : vx_Run p l e R s m args below meth c H locs cells slots mc ms (F0 m pc ls st0) rest (va_Ql post B A1 a) (vx_X px BX AX) free) (hS : va_S A0 H0 H locs) (hA : ∀ q, q < H.size → A1 q → A0 q) (hf : ∀ q, free q → A0 q) (hAX : ∀ q, q < H.size → AX q → A0 q)
    (kx : ∀ (E : String) (ce : Cell) (q9 : Addr) (u : SX) (t : State) (H1 : Heap) (locs1 : List Loc), t.heap = H1 → s.vm.Alike t.vm → px u → BX E u t → H.size ≤ H1.size → (∀ q : Nat, q < H.size → ¬ AX q → H1[q]? = H[q]?) → va_S A0 H0 H1 locs1 → H1[q9]? = some ce → ce.vm = .none → s.vm.findClass E = some ce.cls → vx_W p l e R s m args below meth c H1 locs1 (cells + mc) (slots + ms) Q (F0 m pc ls rest) q9)
    (kk : ∀ (r : Int64) (u : S) (t : State) (H1 : Heap) (locs1 : List Loc), t.heap = H1 → s.vm.Alike t.vm → post r u → B u t → H.size ≤ H1.size → (∀ q : Nat, q < H.size → ¬ A1 q → H1[q]? = H[q]?) → va_S A0 H0 H1 locs1 → W p l e R s m args below meth c H1 locs1 (cells + mc) (slots + ms) Q (F0 m (pc + 3) ls (.long r :: rest))) : W p l e R s m args below meth c H locs cells slots Q (F0 m pc ls st0) := by
  intro T hT X
  rcases hr T hT X with ⟨v, st₀, t, T', L, h0, X', hL, e1, e2, ⟨⟨r, u, hv, hp, hb⟩, hF⟩, st⟩ | ⟨q, st₀, t, T', L, E, ce, h0, X', hL, e1, e2, ⟨u, hp, hb, hF⟩, hce, hcv, hcl, st⟩
  · cases hv
    obtain ⟨k1, k2, k3⟩ := vx_keep h0 e1 hS hA hf hL hF
    obtain ⟨t2, a1, b1⟩ := kk r u t T'.heap (locs ++ L) e1.symm (by rw [← e2]; exact X'.warmed.alike) hp hb k1 k2 k3 T' rfl X'
    exact ⟨t2, st t2 a1, b1⟩
  · obtain ⟨k1, k2, k3⟩ := vx_keep h0 e1 hS hAX hf hL hF
    obtain ⟨t2, a1, b1⟩ := kx E ce q u t T'.heap (locs ++ L) e1.symm (by rw [← e2]; exact X'.warmed.alike) hp hb k1 k2 k3 (by rw [e1]; exact hce) hcv hcl T' rfl X'
    exact ⟨t2, st.trans a1, b1⟩
theorem vx_callf {S SX : Type} {post : UInt32 → S → Prop} {px : SX → Prop} {B : S → State → Prop} {BX : String → SX → State → Prop} {AX : Nat → Prop} (hr : vx_Run p l e R s m args below meth c H locs cells slots mc ms (F0 m pc ls st0) rest (va_Qf post B A1 a) (vx_X px BX AX) free) (hS : va_S A0 H0 H locs) (hA : ∀ q, q < H.size → A1 q → A0 q) (hf : ∀ q, free q → A0 q) (hAX : ∀ q, q < H.size → AX q → A0 q)
    (kx : ∀ (E : String) (ce : Cell) (q9 : Addr) (u : SX) (t : State) (H1 : Heap) (locs1 : List Loc), t.heap = H1 → s.vm.Alike t.vm → px u → BX E u t → H.size ≤ H1.size → (∀ q : Nat, q < H.size → ¬ AX q → H1[q]? = H[q]?) → va_S A0 H0 H1 locs1 → H1[q9]? = some ce → ce.vm = .none → s.vm.findClass E = some ce.cls → vx_W p l e R s m args below meth c H1 locs1 (cells + mc) (slots + ms) Q (F0 m pc ls rest) q9)
    (kk : ∀ (r : UInt32) (u : S) (t : State) (H1 : Heap) (locs1 : List Loc), t.heap = H1 → s.vm.Alike t.vm → post r u → B u t → H.size ≤ H1.size → (∀ q : Nat, q < H.size → ¬ A1 q → H1[q]? = H[q]?) → va_S A0 H0 H1 locs1 → W p l e R s m args below meth c H1 locs1 (cells + mc) (slots + ms) Q (F0 m (pc + 3) ls (.float r :: rest))) : W p l e R s m args below meth c H locs cells slots Q (F0 m pc ls st0) := by
  intro T hT X
  rcases hr T hT X with ⟨v, st₀, t, T', L, h0, X', hL, e1, e2, ⟨⟨r, u, hv, hp, hb⟩, hF⟩, st⟩ | ⟨q, st₀, t, T', L, E, ce, h0, X', hL, e1, e2, ⟨u, hp, hb, hF⟩, hce, hcv, hcl, st⟩
  · cases hv
    obtain ⟨k1, k2, k3⟩ := vx_keep h0 e1 hS hA hf hL hF
    obtain ⟨t2, a1, b1⟩ := kk r u t T'.heap (locs ++ L) e1.symm (by rw [← e2]; exact X'.warmed.alike) hp hb k1 k2 k3 T' rfl X'
    exact ⟨t2, st t2 a1, b1⟩
  · obtain ⟨k1, k2, k3⟩ := vx_keep h0 e1 hS hAX hf hL hF
    obtain ⟨t2, a1, b1⟩ := kx E ce q u t T'.heap (locs ++ L) e1.symm (by rw [← e2]; exact X'.warmed.alike) hp hb k1 k2 k3 (by rw [e1]; exact hce) hcv hcl T' rfl X'
    exact ⟨t2, st.trans a1, b1⟩
theorem vx_calld {S SX : Type} {post : UInt64 → S → Prop} {px : SX → Prop} {B : S → State → Prop} {BX : String → SX → State → Prop} {AX : Nat → Prop} (hr : vx_Run p l e R s m args below meth c H locs cells slots mc ms (F0 m pc ls st0) rest (va_Qd post B A1 a) (vx_X px BX AX) free) (hS : va_S A0 H0 H locs) (hA : ∀ q, q < H.size → A1 q → A0 q) (hf : ∀ q, free q → A0 q) (hAX : ∀ q, q < H.size → AX q → A0 q)
    (kx : ∀ (E : String) (ce : Cell) (q9 : Addr) (u : SX) (t : State) (H1 : Heap) (locs1 : List Loc), t.heap = H1 → s.vm.Alike t.vm → px u → BX E u t → H.size ≤ H1.size → (∀ q : Nat, q < H.size → ¬ AX q → H1[q]? = H[q]?) → va_S A0 H0 H1 locs1 → H1[q9]? = some ce → ce.vm = .none → s.vm.findClass E = some ce.cls → vx_W p l e R s m args below meth c H1 locs1 (cells + mc) (slots + ms) Q (F0 m pc ls rest) q9)
    (kk : ∀ (r : UInt64) (u : S) (t : State) (H1 : Heap) (locs1 : List Loc), t.heap = H1 → s.vm.Alike t.vm → post r u → B u t → H.size ≤ H1.size → (∀ q : Nat, q < H.size → ¬ A1 q → H1[q]? = H[q]?) → va_S A0 H0 H1 locs1 → W p l e R s m args below meth c H1 locs1 (cells + mc) (slots + ms) Q (F0 m (pc + 3) ls (.double r :: rest))) : W p l e R s m args below meth c H locs cells slots Q (F0 m pc ls st0) := by
  intro T hT X
  rcases hr T hT X with ⟨v, st₀, t, T', L, h0, X', hL, e1, e2, ⟨⟨r, u, hv, hp, hb⟩, hF⟩, st⟩ | ⟨q, st₀, t, T', L, E, ce, h0, X', hL, e1, e2, ⟨u, hp, hb, hF⟩, hce, hcv, hcl, st⟩
  · cases hv
    obtain ⟨k1, k2, k3⟩ := vx_keep h0 e1 hS hA hf hL hF
    obtain ⟨t2, a1, b1⟩ := kk r u t T'.heap (locs ++ L) e1.symm (by rw [← e2]; exact X'.warmed.alike) hp hb k1 k2 k3 T' rfl X'
    exact ⟨t2, st t2 a1, b1⟩
  · obtain ⟨k1, k2, k3⟩ := vx_keep h0 e1 hS hAX hf hL hF
    obtain ⟨t2, a1, b1⟩ := kx E ce q u t T'.heap (locs ++ L) e1.symm (by rw [← e2]; exact X'.warmed.alike) hp hb k1 k2 k3 (by rw [e1]; exact hce) hcv hcl T' rfl X'
    exact ⟨t2, st.trans a1, b1⟩
theorem vx_callv {S SX : Type} {post : S → Prop} {px : SX → Prop} {B : S → State → Prop} {BX : String → SX → State → Prop} {AX : Nat → Prop} (hr : vx_Run p l e R s m args below meth c H locs cells slots mc ms (F0 m pc ls st0) rest (va_Qv post B A1 a) (vx_X px BX AX) free) (hS : va_S A0 H0 H locs) (hA : ∀ q, q < H.size → A1 q → A0 q) (hf : ∀ q, free q → A0 q) (hAX : ∀ q, q < H.size → AX q → A0 q)
    (kx : ∀ (E : String) (ce : Cell) (q9 : Addr) (u : SX) (t : State) (H1 : Heap) (locs1 : List Loc), t.heap = H1 → s.vm.Alike t.vm → px u → BX E u t → H.size ≤ H1.size → (∀ q : Nat, q < H.size → ¬ AX q → H1[q]? = H[q]?) → va_S A0 H0 H1 locs1 → H1[q9]? = some ce → ce.vm = .none → s.vm.findClass E = some ce.cls → vx_W p l e R s m args below meth c H1 locs1 (cells + mc) (slots + ms) Q (F0 m pc ls rest) q9)
    (kk : ∀ (u : S) (t : State) (H1 : Heap) (locs1 : List Loc), t.heap = H1 → s.vm.Alike t.vm → post u → B u t → H.size ≤ H1.size → (∀ q : Nat, q < H.size → ¬ A1 q → H1[q]? = H[q]?) → va_S A0 H0 H1 locs1 → W p l e R s m args below meth c H1 locs1 (cells + mc) (slots + ms) Q (F0 m (pc + 3) ls (rest))) : W p l e R s m args below meth c H locs cells slots Q (F0 m pc ls st0) := by
  intro T hT X
  rcases hr T hT X with ⟨v, st₀, t, T', L, h0, X', hL, e1, e2, ⟨⟨u, hv, hp, hb⟩, hF⟩, st⟩ | ⟨q, st₀, t, T', L, E, ce, h0, X', hL, e1, e2, ⟨u, hp, hb, hF⟩, hce, hcv, hcl, st⟩
  · cases hv
    obtain ⟨k1, k2, k3⟩ := vx_keep h0 e1 hS hA hf hL hF
    obtain ⟨t2, a1, b1⟩ := kk u t T'.heap (locs ++ L) e1.symm (by rw [← e2]; exact X'.warmed.alike) hp hb k1 k2 k3 T' rfl X'
    exact ⟨t2, st t2 a1, b1⟩
  · obtain ⟨k1, k2, k3⟩ := vx_keep h0 e1 hS hAX hf hL hF
    obtain ⟨t2, a1, b1⟩ := kx E ce q u t T'.heap (locs ++ L) e1.symm (by rw [← e2]; exact X'.warmed.alike) hp hb k1 k2 k3 (by rw [e1]; exact hce) hcv hcl T' rfl X'
    exact ⟨t2, st.trans a1, b1⟩
/-- caught by the row x of this method's table; the rows ahead don't take it -/
theorem vx_catch {own name : String} {E : String} {ce : Cell} {q : Addr} (hown : s.vm.findClass own = some m.cls) (pre : List ExceptionTableEntry) (x : ExceptionTableEntry) (suf : List ExceptionTableEntry) (hsplit : c.exceptionTable.toList = pre ++ x :: suf)
    (hpass : ∀ z ∈ pre, covers z pc = false ∨ (z.catchType ≠ 0 ∧ ∃ nm : String, (Cond.classLink own z.catchType nm).before args s = true ∧ va_Nc E nm s)) (hx : covers x pc = true) (h0 : x.catchType ≠ 0)
    (hlink : (Cond.classLink own x.catchType name).before args s = true) (hcast : (Cond.castable E name).before args s = true) (hcell : H[q]? = some ce) (hv : ce.vm = .none) (hcl : s.vm.findClass E = some ce.cls)
    (kk : W p l e R s m args below meth c H locs cells slots Q (F0 m x.handlerPc ls [.ref q])) : vx_W p l e R s m args below meth c H locs cells slots Q (F0 m pc ls rest) q := by
  intro T hT X
  have hpl : e.platform.magicAccessors = ({} : Platform).magicAccessors := by rw [X.admits.platform]
  obtain ⟨c3, c4, hc3, hc4, hasg⟩ := Cond.castable_spec hcast
  cases Option.some.inj (hc3.symm.trans hcl)
  obtain ⟨c5, hc5, hcl5⟩ := Cond.classLink_spec hown hlink e.platform hpl
  cases Option.some.inj (hc4.symm.trans hc5)
  obtain ⟨vm', X', st⟩ := X.thenCaughtThrough q (g := F0 m pc ls rest) rfl (Steps.refl _) (by rw [hT]; exact hcell) (by rw [hv]; rfl) (by obtain ⟨k9, h9, -⟩ := Vm.findClass_spec hcl; exact ⟨k9, h9⟩) pre x suf hsplit
    (fun z hz => by
      rcases hpass z hz with h | ⟨hz0, nm, hl1, hn1⟩
      · exact Or.inl h
      · obtain ⟨c6, hc6, hcl6⟩ := Cond.classLink_spec hown hl1 e.platform hpl
        obtain ⟨a8, b8, h1, h2, h3⟩ := hn1
        cases Option.some.inj (h1.symm.trans hcl)
        cases Option.some.inj (h2.symm.trans hc6)
        exact Or.inr ⟨hz0, _, hcl6, h3⟩) hx (Or.inr ⟨h0, c4, hcl5, hasg⟩)
  obtain ⟨t, a1, b1⟩ := kk (T.setVm vm') hT X'
  exact ⟨t, st.trans a1, b1⟩
end Rows
section Ends
variable {p : Program} {l : Launch} {e : Env} {R : Room} {s : State} {m : MethodId} {args : Array Value} {below : List Frame} {meth : Method} {c : Code} {H : Heap} {locs : List Loc} {cells slots : Nat} {Q : State → Prop}
variable {mc ms : Nat} {free : Addr → Prop} {A0 A1 : Nat → Prop} {H0 : Heap} {a : Array Value} {ls : Array Slot} {st0 rest : List Value}
variable {Qc : Array Value → State → Outcome → State → Prop} {XC : String → State → State → Prop}
/-- what a body that may throw owes at its end -/
def vx_MQ (below : List Frame) (Qc : Array Value → State → Outcome → State → Prop) (XC : String → State → State → Prop) (a : Array Value) (s : State) (mc ms : Nat) (free : Addr → Prop) : State → Prop := fun t =>
  ∃ o, t.status = .running ∧ Ended t below o ∧ vx_Q Qc XC mc ms free a s o t
theorem vx_ret {g : JFrame} {mc ms : Nat} (k : W p l e R s m args below meth c H locs cells slots (MQ below Qc args s mc ms free) g) : W p l e R s m args below meth c H locs cells slots (vx_MQ below Qc XC args s mc ms free) g := by
  intro T hT X
  obtain ⟨t, a1, o, b1, b2, b3, b4⟩ := k T hT X
  exact ⟨t, a1, o, b1, b2, Or.inl ⟨b3, b4⟩⟩
/-- not caught here: it goes on to the caller -/
theorem vx_widen {g : JFrame} {q : Addr} {k n : Nat} (h1 : cells ≤ k) (h2 : slots ≤ n) (kk : vx_W p l e R s m args below meth c H locs k n Q g q) : vx_W p l e R s m args below meth c H locs cells slots Q g q := fun T hT X => kk T hT (stand_widen X h1 h2)
theorem vx_out {pc : Nat} {E : String} {ce : Cell} {q : Addr} {mc ms : Nat} (hout : ∀ x ∈ c.exceptionTable.toList, covers x pc = false) (hlocks : meth.locks = false) (hcell : H[q]? = some ce) (hv : ce.vm = .none) (hcl : s.vm.findClass E = some ce.cls)
    (hx : ∀ t : State, t.heap = H → s.vm.Alike t.vm → XC E s t) (hf : ∀ z ∈ locs, free z.base) (hc : cells ≤ mc) (hs : slots ≤ ms) :
    vx_W p l e R s m args below meth c H locs cells slots (vx_MQ below Qc XC args s mc ms free) (F0 m pc ls rest) q := by
  intro T hT X
  obtain ⟨st1, hrun, hend, hW, hsm⟩ := X.leaveThrown q (g := F0 m pc ls rest) rfl rfl rfl hout hlocks
  have hcell9 : (T.setFrames (.throwing q :: below)).heap[q]? = some ce := by
    show T.heap[q]? = some ce
    rw [hT]; exact hcell
  exact ⟨_, st1, .threw q, hrun, hend, Or.inr ⟨q, rfl, E, ce, locs, hx _ hT hW.alike, hcell9, hv, hcl, hW, hsm.mono hc hs, hf⟩⟩
theorem vx_frame {U : State} {k n : Nat} (h : s.sameButNew ({ U with vm := s.vm } : State) locs k n) : s.heap.size ≤ U.heap.size ∧ ∀ q : Nat, q < s.heap.size → (∀ z ∈ locs, z.base ≠ q) → U.heap[q]? = s.heap[q]? := by
  obtain ⟨-, h2, -, -, -, h6⟩ := h
  refine ⟨h2, fun q hq hz => ?_⟩
  obtain ⟨c9, e1, e2, e3, e4⟩ := h6 q _ (Array.getElem?_eq_getElem hq)
  have hs : c9.slots = (s.heap[q]).slots := Array.ext_getElem? fun i => e4 i fun hm => hz _ hm rfl
  have h9 : c9 = s.heap[q] := by
    rw [hs] at e2
    exact e2
  have e5 : U.heap[q]? = some c9 := e1
  rw [e5, h9, Array.getElem?_eq_getElem hq]
/-- the words of a throw but the four that speak of the heap -/
def vx_no (w : Cond) : Bool := decide (w ≠ .isRef (.static Bundle.tN "UNASSIGNED_STACK" Bundle.steD)) && decide (w ≠ .isRef (.static Bundle.tN "SUPPRESSED_SENTINEL" Bundle.listD)) && decide (w ≠ .laysStatic Bundle.tN "UNASSIGNED_STACK" Bundle.steD) && decide (w ≠ .laysStatic Bundle.tN "SUPPRESSED_SENTINEL" Bundle.listD)
def vx_at0 (own : String) (ic : Nat) (X : String) (names : List String) : List Cond := (Bundle.ownAtoms0 own ic X names).filter vx_no
def vx_atS (own : String) (ic : Nat) (X : String) (names : List String) : List Cond := (Bundle.ownAtoms own ic X names).filter vx_no
/-- a word that the tables alone decide, or a good one -/
def vx_ot (w : Cond) : Bool := w.onTables || goodWord w
theorem vx_ot_at {args a' : Array Value} {s U : State} {w : Cond} (hW : s.WarmedH U.vm) (hvm : s.vm = U.vm) (hg : vx_ot w = true) (h : w.before args s = true) : w.before a' U = true := by
  simp only [vx_ot, Bool.or_eq_true] at hg
  rcases hg with hg | hg
  · exact va_tabs hg hvm h
  · exact word_at hW (good_of_word hg) h
/-- a list's words: the good ones out of the method's own list, the others by premises of their own -/
theorem vx_hat {args : Array Value} {s : State} {L B : List Cond} (h1 : ∀ w ∈ L.filter goodWord, w.before args s = true) (h2 : ∀ w ∈ L.filter (fun w => !goodWord w), w ∈ B) (h3 : ∀ w ∈ B, w.before args s = true) : ∀ w ∈ L, w.before args s = true := by
  intro w hw
  by_cases g : goodWord w = true
  · exact h1 w (List.mem_filter.mpr ⟨hw, g⟩)
  · refine h3 w (h2 w (List.mem_filter.mpr ⟨hw, ?_⟩))
    show (!goodWord w) = true
    cases hgw : goodWord w
    · rfl
    · exact absurd hgw g
theorem vx_c {args : Array Value} {s : State} {w : Cond} {B : List Cond} (h : w.before args s = true) (t : ∀ w ∈ B, w.before args s = true) : ∀ w' ∈ w :: B, w'.before args s = true := fun w' h' => (List.mem_cons.mp h').elim (fun e => by rw [e]; exact h) (t w')
theorem vx_n {args : Array Value} {s : State} : ∀ w ∈ ([] : List Cond), w.before args s = true := fun _ h => nomatch h
theorem vx_own {args : Array Value} {s : State} {L : List Cond} (h1 : ∀ w ∈ L.filter vx_no, w.before args s = true)
    (hU : (Cond.isRef (.static Bundle.tN "UNASSIGNED_STACK" Bundle.steD)).before args s = true) (hN : (Cond.isRef (.static Bundle.tN "SUPPRESSED_SENTINEL" Bundle.listD)).before args s = true)
    (lU : (Cond.laysStatic Bundle.tN "UNASSIGNED_STACK" Bundle.steD).before args s = true) (lN : (Cond.laysStatic Bundle.tN "SUPPRESSED_SENTINEL" Bundle.listD).before args s = true) : ∀ w ∈ L, w.before args s = true := by
  intro w hw
  by_cases e1 : w = .isRef (.static Bundle.tN "UNASSIGNED_STACK" Bundle.steD)
  · rw [e1]; exact hU
  · by_cases e2 : w = .isRef (.static Bundle.tN "SUPPRESSED_SENTINEL" Bundle.listD)
    · rw [e2]; exact hN
    · by_cases e3 : w = .laysStatic Bundle.tN "UNASSIGNED_STACK" Bundle.steD
      · rw [e3]; exact lU
      · by_cases e4 : w = .laysStatic Bundle.tN "SUPPRESSED_SENTINEL" Bundle.listD
        · rw [e4]; exact lN
        · exact h1 w (List.mem_filter.mpr ⟨hw, by unfold vx_no; rw [decide_eq_true e1, decide_eq_true e2, decide_eq_true e3, decide_eq_true e4]; rfl⟩)
/-- where a static field lies, its class's statics cell in H -/
def vx_L (C n d : String) (A : Nat → Prop) (U : State) (H : Heap) : Prop := ∃ (c : ClassId) (k : Class) (i : Nat) (f : Field) (a : Nat) (cell : Cell), U.vm.findClass C = some c ∧ U.fieldFound? C n d = some (c, k, i, f) ∧ f.isStatic = true ∧ k.statics = some a ∧ H[a]? = some cell ∧ cell.vm.isStatics = true ∧ cell.cls = c ∧ f.slot < cell.slots.size ∧ k.staticTypes[f.slot]? = some f.type ∧ ¬ A a
theorem vx_L.moved {C n d : String} {A : Nat → Prop} {u U : State} {H : Heap} (hvm : u.vm.Alike U.vm) (h : vx_L C n d A u H) : vx_L C n d A U H := by
  obtain ⟨c, k, i, f, a, cell, h1, h2, h3, h4, h5, h6, h7, h8, h9, h10⟩ := h
  obtain ⟨k', hi', he⟩ := State.fieldFound?_setVm hvm h2
  exact ⟨c, k', i, f, a, cell, by rw [hvm.findClass]; exact h1, hi', h3, by rw [he]; exact h4, h5, h6, h7, h8, by rw [he]; exact h9, h10⟩
theorem vx_L.kept {C n d : String} {A : Nat → Prop} {U : State} {H H1 : Heap} (h : vx_L C n d A U H) (hq : ∀ a : Nat, a < H.size → ¬ A a → H1[a]? = H[a]?) : vx_L C n d A U H1 := by
  obtain ⟨c, k, i, f, a, cell, h1, h2, h3, h4, h5, h6, h7, h8, h9, h10⟩ := h
  exact ⟨c, k, i, f, a, cell, h1, h2, h3, h4, by rw [hq a (Array.getElem?_eq_some_iff.mp h5).1 h10]; exact h5, h6, h7, h8, h9, h10⟩
theorem vx_L.narrow {C n d : String} {A B : Nat → Prop} {U : State} {H : Heap} (h : vx_L C n d A U H) (hAB : ∀ q, B q → A q) : vx_L C n d B U H := by
  obtain ⟨c, k, i, f, a, cell, h1, h2, h3, h4, h5, h6, h7, h8, h9, h10⟩ := h
  exact ⟨c, k, i, f, a, cell, h1, h2, h3, h4, h5, h6, h7, h8, h9, fun z => h10 (hAB _ z)⟩
theorem vx_L.word {C n d : String} {A : Nat → Prop} {s : State} {args : Array Value} (h : vx_L C n d A s s.heap) : (Cond.laysStatic C n d).before args s = true := by
  obtain ⟨c, k, i, f, a, cell, h1, h2, h3, h4, h5, h6, h7, h8, h9, -⟩ := h
  show (Cond.laysStatic C n d).holds args s none s [] = true
  exact Cond.laysStatic_of h1 h2 h3 h4 h5 h6 h7 h8 h9
/-- .. and what it holds: null or some reference -/
def vx_Zq (C n d : String) (A : Nat → Prop) (U : State) (H : Heap) : Prop := va_Zq C n d A U H ∧ vx_L C n d A U H
theorem vx_Zq.moved {C n d : String} {A : Nat → Prop} {u U : State} {H : Heap} (hvm : u.vm.Alike U.vm) (h : vx_Zq C n d A u H) : vx_Zq C n d A U H := ⟨va_Zq.moved hvm h.1, vx_L.moved hvm h.2⟩
theorem vx_Zq.kept {C n d : String} {A : Nat → Prop} {U : State} {H H1 : Heap} (h : vx_Zq C n d A U H) (hq : ∀ a : Nat, a < H.size → ¬ A a → H1[a]? = H[a]?) : vx_Zq C n d A U H1 := ⟨va_Zq.kept h.1 hq, vx_L.kept h.2 hq⟩
theorem vx_Zq.narrow {C n d : String} {A B : Nat → Prop} {U : State} {H : Heap} (h : vx_Zq C n d A U H) (hAB : ∀ q, B q → A q) : vx_Zq C n d B U H := ⟨va_Zq.narrow h.1 hAB, vx_L.narrow h.2 hAB⟩
theorem vx_Zqof {args : Array Value} {s : State} {C n d : String} {A : Nat → Prop} (hl : (Cond.laysStatic C n d).before args s = true) (hini : (Cond.initialized C).before args s = true) (h : (Cond.isRef (.static C n d)).before args s = true) (hA : ∀ a : Nat, a < s.heap.size → ¬ A a) : vx_Zq C n d A s s.heap := by
  refine ⟨va_Zqof hl hini h hA, ?_⟩
  obtain ⟨c, k, i, f, a, cell, h1, h2, h3, h4, h5, h6, h7, h8, h9⟩ := Cond.laysStatic_spec hl
  exact ⟨c, k, i, f, a, cell, h1, h2, h3, h4, h5, h6, h7, h8, h9, hA a (Array.getElem?_eq_some_iff.mp h5).1⟩
theorem vx_isRef {C n d : String} {v : Value} {A : Nat → Prop} {s : State} {args : Array Value} (h : va_Z C n d v A s s.heap) (hv : v.isRef = true) : (Cond.isRef (.static C n d)).before args s = true := by
  obtain ⟨cf, kf, fi, f, a, cell, h1, h2, h3, h4, h5, h6, h7, -⟩ := h
  have he : (Term.static C n d).eval args s none [] s = some v := by
    simp [Term.eval, State.fieldNamed?, h1, h2, h4, h5, h6, h7]
  simp only [Cond.before, Cond.holds, Cond.value, he]
  cases v <;> simp_all [Value.isRef]
theorem vx_isRefq {C n d : String} {A : Nat → Prop} {s : State} {args : Array Value} (h : va_Zq C n d A s s.heap) : (Cond.isRef (.static C n d)).before args s = true := by
  rcases h with h | ⟨t, h⟩
  · exact vx_isRef h rfl
  · exact vx_isRef h rfl
/-- the same frame, seen from here: as if the method were called anew in this heap -/
theorem vx_rebase {T : State} (X : Stand p l e R s m args below meth c T locs cells slots) {R' : Room} (hf : R'.frames ≤ R.frames) (hl : R'.locals ≤ R.locals) (hc : cells + R'.cells ≤ R.cells) (hs : slots + R'.slots ≤ R.slots) :
    Stand p l e R' ((T.setVm s.vm).setFrames (.invoking m args :: below)) m args below meth c T [] 0 0 := by
  have htop : (T.setVm s.vm).topJava?.isSome := X.here.top
  have hF : ((T.setVm s.vm).setFrames (.invoking m args :: below)).frames = .invoking m args :: below := State.frames_setFrames _ (State.cur_lt_of_top htop)
  obtain ⟨g₀, hg0⟩ := Option.isSome_iff_exists.mp htop
  obtain ⟨r, hr⟩ := State.topJava?_eq_some.mp hg0
  have hl9 : e.platform.stackLimits (T.setVm s.vm).me = e.platform.stackLimits s.me := X.limits
  have hb9 : (T.setVm s.vm).me.stackBytes = s.me.stackBytes := X.bytes
  refine ⟨X.admits, X.cas, X.clock, hF, ?_, X.hears, X.method, X.code, X.here, X.tail, X.warmed, ?_, ?_, ?_⟩
  · have h := X.room
    have hU : ((T.setVm s.vm).setFrames (.invoking m args :: below)).localsInUse = s.localsInUse := by
      rw [State.localsInUse_invoking hF (meth := meth) (c := c) X.method X.code, State.localsInUse_invoking X.frames X.method X.code]
    simp only [State.hasRoom, Bool.and_eq_true, decide_eq_true_eq] at h ⊢
    obtain ⟨⟨⟨⟨h1, h2, h3, h4, h5, h6⟩, h7⟩, h8⟩, h9⟩ := h
    rw [X.frames, List.length_cons] at h2 h3
    have q1 := X.heapSize
    have q2 := X.used
    simp only [hF, hU, List.length_cons, State.stackLimits_setFrames, State.stackBytes_setFrames, hl9, hb9]
    refine ⟨⟨⟨⟨by omega, by omega, by omega, by omega, by omega, h6⟩, ?_⟩, ?_⟩, X.book⟩
    · show T.heap.size + R'.cells ≤ e.platform.maxCells
      omega
    · show T.slotsUsed + R'.slots ≤ e.platform.maxSlots
      omega
  · rw [State.stackLimits_setFrames]; rfl
  · rw [State.stackBytes_setFrames]; rfl
  · refine ⟨?_, Nat.le_refl _, Nat.le_refl _, ?_, ?_, fun a c9 h9 => ⟨c9, h9, rfl, rfl, fun _ _ => rfl⟩⟩
    · obtain ⟨t, ht, -⟩ := State.frames_cons hr
      show T.setVm s.vm = { ((T.setVm s.vm).setFrames (.invoking m args :: below)).setFrames (T.setVm s.vm).frames with heap := T.heap, slotsUsed := T.slotsUsed }
      rw [State.setFrames_setFrames, State.setFrames_self ht]
      rfl
    · show T.slotsUsed = T.slotsUsed + ((T.heap.toList.drop T.heap.size).map (·.slots.size)).sum
      rw [List.drop_eq_nil_of_le (Nat.le_of_eq Array.length_toList)]
      rfl
    · show ((T.heap.toList.drop T.heap.size).map (·.slots.size)).sum ≤ 0
      rw [List.drop_eq_nil_of_le (Nat.le_of_eq Array.length_toList)]
      exact Nat.le_refl _
/-- 'throw new E()': new; dup; invokespecial; athrow -/
theorem vx_throw0 {cc : ByteArray} {pc : Nat} (hexec : p.tables.exec = Jvm.exec) (hb : c.code = cc) (hl : l.stackTraces = false) {own cls : String} {names : List String} {ik ic mc ms : Nat} {A : Nat → Prop}
    (hown : s.vm.findClass own = some m.cls) (hcls : Bundle.fit cls = true) (hnames : ∀ n ∈ names, Bundle.fit n = true)
    (hk : (Cond.classLink own ik cls).before args s = true) (hini : (Cond.initialized cls).before args s = true) (hat : ∀ w ∈ vx_at0 own ic cls names, w.before args s = true)
    (hgood : ∀ w ∈ Cond.classLink own ik cls :: Cond.initialized cls :: vx_at0 own ic cls names, vx_ot w = true)
    (hU : vx_Zq Bundle.tN "UNASSIGNED_STACK" Bundle.steD A s s.heap) (hN : vx_Zq Bundle.tN "SUPPRESSED_SENTINEL" Bundle.listD A s s.heap) (hS : va_S A s.heap H locs) (hsize : ls.size = c.maxLocals)
    (d0 : decode cc pc = .ok (.new ik, 3)) (d3 : decode cc (pc + 3) = .ok (.dup, 1)) (d4 : decode cc (pc + 4) = .ok (.invokespecial ic, 3)) (d7 : decode cc (pc + 7) = .ok (.athrow, 1))
    (hout : ∀ x ∈ c.exceptionTable.toList, covers x (pc + 7) = false)
    (hRframes : names.length + 3 < R.frames) (hRlocals : (rest.map fun v => v.category).sum + (13 * (names.length + 1) + 42) ≤ R.locals) (hRcells : cells + 1 ≤ R.cells) (hRslots : slots + 6 ≤ R.slots) (hlocks : meth.locks = false)
    (hx : ∀ t : State, s.vm.Alike t.vm → H.size ≤ t.heap.size → (∀ q : Nat, q < H.size → t.heap[q]? = H[q]?) → XC cls s t)
    (hf : ∀ z ∈ locs, free z.base) (hc : cells + 1 ≤ mc) (hs : slots + 6 ≤ ms) :
    W p l e R s m args below meth c H locs cells slots (vx_MQ below Qc XC args s mc ms free) (F0 m pc ls rest) := by
  intro T hT X
  have htr : e.platform.stackTraces = false := (show e.platform.stackTraces = l.stackTraces by rw [X.admits.platform]).trans hl
  have Y := vx_rebase X (R' := { frames := R.frames, locals := R.locals, cells := 1, slots := 6 }) (Nat.le_refl _) (Nat.le_refl _) hRcells hRslots
  obtain ⟨s', hA⟩ : ∃ z, z = (T.setVm s.vm).setFrames (.invoking m args :: below) := ⟨_, rfl⟩
  rw [← hA] at Y
  have hvm : s'.vm = s.vm := by rw [hA]; rfl
  have hhp : s'.heap = H := by rw [hA]; exact hT
  have hW0 : s.WarmedH s'.vm := by rw [hvm]; exact State.WarmedH.refl s
  have hat' : ∀ w ∈ vx_at0 own ic cls names, w.before args s' = true := fun w hw => vx_ot_at hW0 hvm.symm (hgood w (List.mem_cons_of_mem _ (List.mem_cons_of_mem _ hw))) (hat w hw)
  have hk' : (Cond.classLink own ik cls).before args s' = true := vx_ot_at hW0 hvm.symm (hgood _ List.mem_cons_self) hk
  have hini' : (Cond.initialized cls).before args s' = true := vx_ot_at hW0 hvm.symm (hgood _ (List.mem_cons_of_mem _ List.mem_cons_self)) hini
  have hU' : vx_Zq Bundle.tN "UNASSIGNED_STACK" Bundle.steD A s' s'.heap := by rw [hhp]; exact vx_Zq.moved hW0.alike (hU.kept hS.2.1)
  have hN' : vx_Zq Bundle.tN "SUPPRESSED_SENTINEL" Bundle.listD A s' s'.heap := by rw [hhp]; exact vx_Zq.moved hW0.alike (hN.kept hS.2.1)
  have h : ∀ w ∈ Bundle.ownAtoms0 own ic cls names, w.before args s' = true := vx_own hat' (vx_isRefq hU'.1) (vx_isRefq hN'.1) hU'.2.word hN'.2.word
  have hown' : s'.vm.findClass own = some m.cls := by rw [hvm]; exact hown
  have hins : (Cond.instantiable cls 6).before args s' = true := h _ (by simp [Bundle.ownAtoms0])
  obtain ⟨vm₁, cX, kX, hfX, hkX, -, -, X₁, st1⟩ := Y.newCold hexec (own := own) (C := cls) (index := ik) (n := 6) hown' hk' hins hini'
    (g := F0 m pc ls rest) rfl (by rw [hb]; exact d0) (Nat.le_refl _) (Nat.le_refl _)
  generalize hT1 : (T.setVm vm₁).pushCell { cls := cX, slots := kX.instanceTypes.map defaultValue, vm := .none } = T1 at X₁ st1
  have hcat : (Value.ref T.heap.size).category = 1 := rfl
  have hcellA : T1.heap[T.heap.size]? = some (freshCell cX kX) := by rw [← hT1]; exact State.heap_pushCell_size _ _
  have d3' : decode c.code (pc + 3) = .ok (.dup, 1) := by rw [hb]; exact d3
  obtain ⟨U, hsteps, hrun, hend, hW, hsame, ce, hce, hO⟩ := X₁.ctorThrow0 hexec htr (own := own) (cls := cls) (names := names) (ic := ic) hown' hcls hnames h (fun x hx => nomatch hx) hfX hkX hcellA (by rw [hhp, hT]; exact Nat.le_refl _)
    (g := { method := m, pc := pc + 4, locals := ls, stack := .ref T.heap.size :: .ref T.heap.size :: rest, locked := none }) rfl hsize rfl rfl (rest := rest) rfl
    (by rw [hb]; exact d4) (by rw [hb]; exact d7) hout hRframes (by simp only [List.map_cons, List.sum_cons, hcat]; omega) hlocks
  obtain ⟨f1, f2⟩ := vx_frame hsame
  rw [hhp] at f1 f2
  have hWs : s.WarmedH U.vm := State.WarmedH.trans hW0 hW
  have hcl : s.vm.findClass cls = some ce.cls := by
    have h9 := hO.cls
    rw [hvm] at h9
    exact h9
  have hall : s.sameButNew ({ U with vm := s.vm } : State) locs mc ms := by
    subst hA
    obtain ⟨e1, e2⟩ := hsame
    rw [State.setFrames_setFrames] at e1
    have h2 : (T.setVm s.vm).sameButNew ({ U with vm := s.vm } : State) [] (0 + 1) (0 + 6) := ⟨e1, e2⟩
    have h3 := X.same.trans h2
    rw [List.append_nil] at h3
    exact h3.mono hc hs
  refine ⟨U, ?_, .threw T.heap.size, hrun, hend, Or.inr ⟨T.heap.size, rfl, cls, ce, locs, hx U hWs.alike f1 (fun q hq => f2 q hq (fun z hz => nomatch hz)), hce, hO.vm, hcl, hWs, hall, hf⟩⟩
  refine st1 _ ?_
  show Steps p.tables e below (T1.setTop { method := m, pc := pc + 3, locals := ls, stack := .ref T.heap.size :: rest, locked := none }) _
  jvm_step X₁.here [X₁.here.top, hexec, d3', Value.category]
  exact hsteps
/-- 'throw new E("text")': new; dup; ldc; invokespecial; athrow -/
theorem vx_throwS {cc : ByteArray} {pc : Nat} (hexec : p.tables.exec = Jvm.exec) (hb : c.code = cc) (hl : l.stackTraces = false) {own cls text : String} {names : List String} {ik is ic mc ms sa : Nat} {A : Nat → Prop}
    (hown : s.vm.findClass own = some m.cls) (hcls : Bundle.fit cls = true) (hnames : ∀ n ∈ names, Bundle.fit n = true)
    (hk : (Cond.classLink own ik cls).before args s = true) (hini : (Cond.initialized cls).before args s = true) (hstr : vk_R own is text sa s) (hat : ∀ w ∈ vx_atS own ic cls names, w.before args s = true)
    (hgood : ∀ w ∈ Cond.classLink own ik cls :: Cond.initialized cls :: vx_atS own ic cls names, vx_ot w = true)
    (hU : vx_Zq Bundle.tN "UNASSIGNED_STACK" Bundle.steD A s s.heap) (hN : vx_Zq Bundle.tN "SUPPRESSED_SENTINEL" Bundle.listD A s s.heap) (hS : va_S A s.heap H locs) (hsize : ls.size = c.maxLocals)
    (d0 : decode cc pc = .ok (.new ik, 3)) (d3 : decode cc (pc + 3) = .ok (.dup, 1)) (d4 : decode cc (pc + 4) = .ok (.ldc is, 2)) (d6 : decode cc (pc + 6) = .ok (.invokespecial ic, 3)) (d9 : decode cc (pc + 9) = .ok (.athrow, 1))
    (hout : ∀ x ∈ c.exceptionTable.toList, covers x (pc + 9) = false)
    (hRframes : names.length + 3 < R.frames) (hRlocals : (rest.map fun v => v.category).sum + (13 * (names.length + 1) + 43) ≤ R.locals) (hRcells : cells + 1 ≤ R.cells) (hRslots : slots + 6 ≤ R.slots) (hlocks : meth.locks = false)
    (hx : ∀ t : State, s.vm.Alike t.vm → H.size ≤ t.heap.size → (∀ q : Nat, q < H.size → t.heap[q]? = H[q]?) → XC cls s t)
    (hf : ∀ z ∈ locs, free z.base) (hc : cells + 1 ≤ mc) (hs : slots + 6 ≤ ms) :
    W p l e R s m args below meth c H locs cells slots (vx_MQ below Qc XC args s mc ms free) (F0 m pc ls rest) := by
  intro T hT X
  have htr : e.platform.stackTraces = false := (show e.platform.stackTraces = l.stackTraces by rw [X.admits.platform]).trans hl
  have Y := vx_rebase X (R' := { frames := R.frames, locals := R.locals, cells := 1, slots := 6 }) (Nat.le_refl _) (Nat.le_refl _) hRcells hRslots
  obtain ⟨s', hA⟩ : ∃ z, z = (T.setVm s.vm).setFrames (.invoking m args :: below) := ⟨_, rfl⟩
  rw [← hA] at Y
  have hvm : s'.vm = s.vm := by rw [hA]; rfl
  have hhp : s'.heap = H := by rw [hA]; exact hT
  have hW0 : s.WarmedH s'.vm := by rw [hvm]; exact State.WarmedH.refl s
  have hat' : ∀ w ∈ vx_atS own ic cls names, w.before args s' = true := fun w hw => vx_ot_at hW0 hvm.symm (hgood w (List.mem_cons_of_mem _ (List.mem_cons_of_mem _ hw))) (hat w hw)
  have hk' : (Cond.classLink own ik cls).before args s' = true := vx_ot_at hW0 hvm.symm (hgood _ List.mem_cons_self) hk
  have hini' : (Cond.initialized cls).before args s' = true := vx_ot_at hW0 hvm.symm (hgood _ (List.mem_cons_of_mem _ List.mem_cons_self)) hini
  have hU' : vx_Zq Bundle.tN "UNASSIGNED_STACK" Bundle.steD A s' s'.heap := by rw [hhp]; exact vx_Zq.moved hW0.alike (hU.kept hS.2.1)
  have hN' : vx_Zq Bundle.tN "SUPPRESSED_SENTINEL" Bundle.listD A s' s'.heap := by rw [hhp]; exact vx_Zq.moved hW0.alike (hN.kept hS.2.1)
  have h : ∀ w ∈ Bundle.ownAtoms own ic cls names, w.before args s' = true := vx_own hat' (vx_isRefq hU'.1) (vx_isRefq hN'.1) hU'.2.word hN'.2.word
  have hown' : s'.vm.findClass own = some m.cls := by rw [hvm]; exact hown
  have hins : (Cond.instantiable cls 6).before args s' = true := h _ (by simp [Bundle.ownAtoms])
  obtain ⟨vm₁, cX, kX, hfX, hkX, -, -, X₁, st1⟩ := Y.newCold hexec (own := own) (C := cls) (index := ik) (n := 6) hown' hk' hins hini'
    (g := F0 m pc ls rest) rfl (by rw [hb]; exact d0) (Nat.le_refl _) (Nat.le_refl _)
  generalize hT1 : (T.setVm vm₁).pushCell { cls := cX, slots := kX.instanceTypes.map defaultValue, vm := .none } = T1 at X₁ st1
  have hcat : (Value.ref T.heap.size).category = 1 := rfl
  have hcellA : T1.heap[T.heap.size]? = some (freshCell cX kX) := by rw [← hT1]; exact State.heap_pushCell_size _ _
  have d3' : decode c.code (pc + 3) = .ok (.dup, 1) := by rw [hb]; exact d3
  have d4' : decode c.code (pc + 4) = .ok (.ldc is, 2) := by rw [hb]; exact d4
  have hstr' : vk_R own is text sa s' := vk_R.warm hW0 hstr
  obtain ⟨U, hsteps, hrun, hend, hW, hsame, ce, hce, hO⟩ := X₁.ctorThrowS hexec htr (own := own) (cls := cls) (names := names) (ic := ic) hown' hcls hnames h (fun x hx => nomatch hx) hfX hkX hcellA (by rw [hhp, hT]; exact Nat.le_refl _) (msg := .ref sa) rfl
    (g := { method := m, pc := pc + 6, locals := ls, stack := .ref sa :: .ref T.heap.size :: .ref T.heap.size :: rest, locked := none }) rfl hsize rfl rfl (rest := rest) rfl
    (by rw [hb]; exact d6) (by rw [hb]; exact d9) hout hRframes (by simp only [List.map_cons, List.sum_cons, hcat]; omega) hlocks
  obtain ⟨f1, f2⟩ := vx_frame hsame
  rw [hhp] at f1 f2
  have hWs : s.WarmedH U.vm := State.WarmedH.trans hW0 hW
  have hcl : s.vm.findClass cls = some ce.cls := by
    have h9 := hO.cls
    rw [hvm] at h9
    exact h9
  have hall : s.sameButNew ({ U with vm := s.vm } : State) locs mc ms := by
    subst hA
    obtain ⟨e1, e2⟩ := hsame
    rw [State.setFrames_setFrames] at e1
    have h2 : (T.setVm s.vm).sameButNew ({ U with vm := s.vm } : State) [] (0 + 1) (0 + 6) := ⟨e1, e2⟩
    have h3 := X.same.trans h2
    rw [List.append_nil] at h3
    exact h3.mono hc hs
  refine ⟨U, ?_, .threw T.heap.size, hrun, hend, Or.inr ⟨T.heap.size, rfl, cls, ce, locs, hx U hWs.alike f1 (fun q hq => f2 q hq (fun z hz => nomatch hz)), hce, hO.vm, hcl, hWs, hall, hf⟩⟩
  refine st1 _ ?_
  show Steps p.tables e below (T1.setTop { method := m, pc := pc + 3, locals := ls, stack := .ref T.heap.size :: rest, locked := none }) _
  jvm_step X₁.here [X₁.here.top, hexec, d3', Value.category]
  exact X₁.ldcString hexec (own := own) (text := text) (index := is) (a := sa) hown' hstr'.1 hstr'.2
    (g := { method := m, pc := pc + 4, locals := ls, stack := .ref T.heap.size :: .ref T.heap.size :: rest, locked := none }) rfl d4' _ hsteps
/-- 'throw new E("text")', the text by a wide index -/
theorem vx_throwSW {cc : ByteArray} {pc : Nat} (hexec : p.tables.exec = Jvm.exec) (hb : c.code = cc) (hl : l.stackTraces = false) {own cls text : String} {names : List String} {ik is ic mc ms sa : Nat} {A : Nat → Prop}
    (hown : s.vm.findClass own = some m.cls) (hcls : Bundle.fit cls = true) (hnames : ∀ n ∈ names, Bundle.fit n = true)
    (hk : (Cond.classLink own ik cls).before args s = true) (hini : (Cond.initialized cls).before args s = true) (hstr : vk_R own is text sa s) (hat : ∀ w ∈ vx_atS own ic cls names, w.before args s = true)
    (hgood : ∀ w ∈ Cond.classLink own ik cls :: Cond.initialized cls :: vx_atS own ic cls names, vx_ot w = true)
    (hU : vx_Zq Bundle.tN "UNASSIGNED_STACK" Bundle.steD A s s.heap) (hN : vx_Zq Bundle.tN "SUPPRESSED_SENTINEL" Bundle.listD A s s.heap) (hS : va_S A s.heap H locs) (hsize : ls.size = c.maxLocals)
    (d0 : decode cc pc = .ok (.new ik, 3)) (d3 : decode cc (pc + 3) = .ok (.dup, 1)) (d4 : decode cc (pc + 4) = .ok (.ldc_w is, 3)) (d7 : decode cc (pc + 7) = .ok (.invokespecial ic, 3)) (d10 : decode cc (pc + 10) = .ok (.athrow, 1))
    (hout : ∀ x ∈ c.exceptionTable.toList, covers x (pc + 10) = false)
    (hRframes : names.length + 3 < R.frames) (hRlocals : (rest.map fun v => v.category).sum + (13 * (names.length + 1) + 43) ≤ R.locals) (hRcells : cells + 1 ≤ R.cells) (hRslots : slots + 6 ≤ R.slots) (hlocks : meth.locks = false)
    (hx : ∀ t : State, s.vm.Alike t.vm → H.size ≤ t.heap.size → (∀ q : Nat, q < H.size → t.heap[q]? = H[q]?) → XC cls s t)
    (hf : ∀ z ∈ locs, free z.base) (hc : cells + 1 ≤ mc) (hs : slots + 6 ≤ ms) :
    W p l e R s m args below meth c H locs cells slots (vx_MQ below Qc XC args s mc ms free) (F0 m pc ls rest) := by
  intro T hT X
  have htr : e.platform.stackTraces = false := (show e.platform.stackTraces = l.stackTraces by rw [X.admits.platform]).trans hl
  have Y := vx_rebase X (R' := { frames := R.frames, locals := R.locals, cells := 1, slots := 6 }) (Nat.le_refl _) (Nat.le_refl _) hRcells hRslots
  obtain ⟨s', hA⟩ : ∃ z, z = (T.setVm s.vm).setFrames (.invoking m args :: below) := ⟨_, rfl⟩
  rw [← hA] at Y
  have hvm : s'.vm = s.vm := by rw [hA]; rfl
  have hhp : s'.heap = H := by rw [hA]; exact hT
  have hW0 : s.WarmedH s'.vm := by rw [hvm]; exact State.WarmedH.refl s
  have hat' : ∀ w ∈ vx_atS own ic cls names, w.before args s' = true := fun w hw => vx_ot_at hW0 hvm.symm (hgood w (List.mem_cons_of_mem _ (List.mem_cons_of_mem _ hw))) (hat w hw)
  have hk' : (Cond.classLink own ik cls).before args s' = true := vx_ot_at hW0 hvm.symm (hgood _ List.mem_cons_self) hk
  have hini' : (Cond.initialized cls).before args s' = true := vx_ot_at hW0 hvm.symm (hgood _ (List.mem_cons_of_mem _ List.mem_cons_self)) hini
  have hU' : vx_Zq Bundle.tN "UNASSIGNED_STACK" Bundle.steD A s' s'.heap := by rw [hhp]; exact vx_Zq.moved hW0.alike (hU.kept hS.2.1)
  have hN' : vx_Zq Bundle.tN "SUPPRESSED_SENTINEL" Bundle.listD A s' s'.heap := by rw [hhp]; exact vx_Zq.moved hW0.alike (hN.kept hS.2.1)
  have h : ∀ w ∈ Bundle.ownAtoms own ic cls names, w.before args s' = true := vx_own hat' (vx_isRefq hU'.1) (vx_isRefq hN'.1) hU'.2.word hN'.2.word
  have hown' : s'.vm.findClass own = some m.cls := by rw [hvm]; exact hown
  have hins : (Cond.instantiable cls 6).before args s' = true := h _ (by simp [Bundle.ownAtoms])
  obtain ⟨vm₁, cX, kX, hfX, hkX, -, -, X₁, st1⟩ := Y.newCold hexec (own := own) (C := cls) (index := ik) (n := 6) hown' hk' hins hini'
    (g := F0 m pc ls rest) rfl (by rw [hb]; exact d0) (Nat.le_refl _) (Nat.le_refl _)
  generalize hT1 : (T.setVm vm₁).pushCell { cls := cX, slots := kX.instanceTypes.map defaultValue, vm := .none } = T1 at X₁ st1
  have hcat : (Value.ref T.heap.size).category = 1 := rfl
  have hcellA : T1.heap[T.heap.size]? = some (freshCell cX kX) := by rw [← hT1]; exact State.heap_pushCell_size _ _
  have d3' : decode c.code (pc + 3) = .ok (.dup, 1) := by rw [hb]; exact d3
  have d4' : decode c.code (pc + 4) = .ok (.ldc_w is, 3) := by rw [hb]; exact d4
  have hstr' : vk_R own is text sa s' := vk_R.warm hW0 hstr
  obtain ⟨U, hsteps, hrun, hend, hW, hsame, ce, hce, hO⟩ := X₁.ctorThrowS hexec htr (own := own) (cls := cls) (names := names) (ic := ic) hown' hcls hnames h (fun x hx => nomatch hx) hfX hkX hcellA (by rw [hhp, hT]; exact Nat.le_refl _) (msg := .ref sa) rfl
    (g := { method := m, pc := pc + 7, locals := ls, stack := .ref sa :: .ref T.heap.size :: .ref T.heap.size :: rest, locked := none }) rfl hsize rfl rfl (rest := rest) rfl
    (by rw [hb]; exact d7) (by rw [hb]; exact d10) hout hRframes (by simp only [List.map_cons, List.sum_cons, hcat]; omega) hlocks
  obtain ⟨f1, f2⟩ := vx_frame hsame
  rw [hhp] at f1 f2
  have hWs : s.WarmedH U.vm := State.WarmedH.trans hW0 hW
  have hcl : s.vm.findClass cls = some ce.cls := by
    have h9 := hO.cls
    rw [hvm] at h9
    exact h9
  have hall : s.sameButNew ({ U with vm := s.vm } : State) locs mc ms := by
    subst hA
    obtain ⟨e1, e2⟩ := hsame
    rw [State.setFrames_setFrames] at e1
    have h2 : (T.setVm s.vm).sameButNew ({ U with vm := s.vm } : State) [] (0 + 1) (0 + 6) := ⟨e1, e2⟩
    have h3 := X.same.trans h2
    rw [List.append_nil] at h3
    exact h3.mono hc hs
  refine ⟨U, ?_, .threw T.heap.size, hrun, hend, Or.inr ⟨T.heap.size, rfl, cls, ce, locs, hx U hWs.alike f1 (fun q hq => f2 q hq (fun z hz => nomatch hz)), hce, hO.vm, hcl, hWs, hall, hf⟩⟩
  refine st1 _ ?_
  show Steps p.tables e below (T1.setTop { method := m, pc := pc + 3, locals := ls, stack := .ref T.heap.size :: rest, locked := none }) _
  jvm_step X₁.here [X₁.here.top, hexec, d3', Value.category]
  exact X₁.ldcStringW hexec (own := own) (text := text) (index := is) (a := sa) hown' hstr'.1 hstr'.2
    (g := { method := m, pc := pc + 4, locals := ls, stack := .ref T.heap.size :: .ref T.heap.size :: rest, locked := none }) rfl d4' _ hsteps
end Ends
section Bodies
variable {l : Launch}
theorem vx_ofW {y : MethodName} {ws ws' : List Cond} {rm : Room} {Pc : Array Value → State → Prop} {Qc : Array Value → State → Outcome → State → Prop} {XC : String → State → State → Prop} {mc ms : Nat} {free : Addr → Prop} {cc : ByteArray} {maxL : Nat} {ret : Option FieldType}
    (hy : plainName y.cls = true) (hw : ws = Cond.code y cc maxL ret :: ws')
    (body : ∀ p e s m args below meth c s₁, BodyLoose p l y (headSpec ws rm) cc maxL ret e s m args below meth c s₁ → c.maxLocals = maxL → (∀ x ∈ c.exceptionTable.toList, False) → Pc args s →
      W p l e (headSpec ws rm).room s m args below meth c s.heap [] 0 0 (vx_MQ below Qc XC args s mc ms free) (entryFrame m args maxL)) : vx_Met l y ws rm Pc Qc XC mc ms free := by
  refine MetFree.of_bodyS (code := cc) (maxLocals := maxL) (ret := ret) hy ?_ ?_
  · intro args s m h hn
    obtain ⟨meth, c, h1, h2, h3, h4, h5, h6, -, -⟩ := Cond.code_spec hn (atoms_spec (ws := ws) h _ (by rw [hw]; exact List.mem_cons_self))
    exact ⟨meth, c, h1, h2, h3, h4, h5, h6⟩
  · intro p e s m args below meth c s₁ B hml hP _
    have hh0 : s₁.heap = s.heap := by rw [B.state]; rfl
    have ht : ∀ x ∈ c.exceptionTable.toList, False := by
      obtain ⟨meth9, c9, h1, h2, -, -, -, -, h7, -⟩ := Cond.code_spec B.named (atoms_spec (ws := ws) B.pre _ (by rw [hw]; exact List.mem_cons_self))
      cases Option.some.inj (h1.symm.trans B.method)
      cases Option.some.inj (h2.symm.trans (Stand.of_body B).code)
      intro x hx
      rw [Array.isEmpty_iff.mp h7] at hx
      cases hx
    obtain ⟨t, a1, o, b1, b2, b3⟩ := body p e s m args below meth c s₁ B hml ht hP s₁ hh0 (Stand.of_body B)
    exact ⟨t, o, a1, b1, b2, b3⟩
/-- the table of a body with handlers -/
theorem vx_table {p : Program} {x y : MethodName} {S : Spec} {cc bytes : ByteArray} {maxL maxL' : Nat} {ret ret' : Option FieldType} {e : Env} {s s₁ : State} {m : MethodId} {args : Array Value} {below : List Frame} {meth : Method} {c : Code} {hh : List (Nat × Nat × Nat × Nat)}
    (B : BodyLoose p l y S cc maxL ret e s m args below meth c s₁) (h : (Cond.codeWith y bytes maxL' ret' hh).before args s = true) : c.exceptionTable.toList = tableOf hh := by
  obtain ⟨m9, meth9, c9, hn9, h1, h2, -, -, h6, -⟩ := Cond.codeWith_spec h
  cases Option.some.inj (hn9.symm.trans B.named)
  cases Option.some.inj (h1.symm.trans B.method)
  cases Option.some.inj (h2.symm.trans (Stand.of_body B).code)
  rw [← h6, table_eq]
end Bodies
end VXA
/-! ===== END ===== -/
/-! ===== BEGIN a static call of a method with an exception table ===== -/
section VXS
variable {p : Program} {l : Launch} {e : Env} {R : Room} {s : State} {m : MethodId} {args : Array Value} {below : List Frame} {meth : Method} {c : Code} {T : State} {H : Heap} {locs : List Loc} {cells slots : Nat}
abbrev vx_CSW (R : Room) (s : State) (args : Array Value) (own : String) (index : Nat) (y : MethodName) (bytes : ByteArray) (maxL : Nat) (ret : Option FieldType) (hh : List (Nat × Nat × Nat × Nat)) (ws : List Cond) (rm : Room) (mc ms n : Nat) : Prop :=
  (rm.cells = mc ∧ rm.slots = ms ∧ rm.frames + 1 ≤ R.frames ∧ 8 + (maxL + 11) + rm.locals ≤ R.locals ∧ (∀ w ∈ ws, ∀ (a' : Array Value) (U : State), s.WarmedH U.vm → w.before a' U = true) ∧ Cond.codeWith y bytes maxL ret hh ∈ ws) ∧
  (Cond.codeWith y bytes maxL ret hh).before args s = true ∧ (Cond.initialized y.cls).before args s = true ∧ (y.cls ≠ "java/lang/invoke/MethodHandle" ∧ y.cls ≠ "java/lang/invoke/VarHandle") ∧
  (∀ sig, parseMethodDescriptor y.desc = some sig → n = sig.parameters.length) ∧ (Cond.methodLink own index y).before args s = true ∧ (Cond.static y).before args s = true
theorem vx_cwSW {own : String} {index maxL mc ms : Nat} {y : MethodName} {bytes : ByteArray} {ret : Option FieldType} {hh : List (Nat × Nat × Nat × Nat)} {Ts ws ws' : List Cond} {rm : Room} (n : Nat) (ht : ∀ w ∈ Ts, w.before args s = true) (hT : GoodIn Ts (va_wsS own index y ws)) (hw : ws = Cond.codeWith y bytes maxL ret hh :: ws') (hrc : rm.cells = mc) (hrs : rm.slots = ms)
    (hd : y.cls ≠ "java/lang/invoke/MethodHandle" ∧ y.cls ≠ "java/lang/invoke/VarHandle" ∧ (parseMethodDescriptor y.desc).map (fun d => d.parameters.length) = some n) (hR : rm.frames + 1 ≤ R.frames ∧ 8 + (maxL + 11) + rm.locals ≤ R.locals) :
    vx_CSW R s args own index y bytes maxL ret hh ws rm mc ms n := by
  have ok : ∀ w ∈ va_wsS own index y ws, w.before args s = true := fun w h => ht w (hT w h).1
  have hG : GoodIn Ts ws := fun w h => hT w (by unfold va_wsS; exact List.mem_append_right _ h)
  have hc : Cond.codeWith y bytes maxL ret hh ∈ ws := by rw [hw]; exact List.mem_cons_self
  refine ⟨⟨hrc, hrs, hR.1, hR.2, pay_in ht hG, hc⟩, ht _ (hG _ hc).1, ok _ (by simp [va_wsS]), ⟨hd.1, hd.2.1⟩, fun sig h => ?_, ok _ (by simp [va_wsS]), ok _ (by simp [va_wsS])⟩
  have h2 := hd.2.2
  rw [h] at h2
  exact (Option.some.inj h2).symm
theorem vx_callSW (X : Stand p l e R s m args below meth c T locs cells slots) (hexec : p.tables.exec = Jvm.exec) {own : String} {index : Nat} {y : MethodName} {bytes : ByteArray} {maxL : Nat} {ret : Option FieldType} {hh : List (Nat × Nat × Nat × Nat)}
    (hown : s.vm.findClass own = some m.cls) (hlink : (Cond.methodLink own index y).before args s = true) (hstat : (Cond.static y).before args s = true) (hinit : (Cond.initialized y.cls).before args s = true)
    (hcode : (Cond.codeWith y bytes maxL ret hh).before args s = true) (hy : y.cls ≠ "java/lang/invoke/MethodHandle" ∧ y.cls ≠ "java/lang/invoke/VarHandle")
    {W9 : Nat} {Pre : Pt → Array Value → Prop} {Post : Pt → Array Value → Option Value → Pt → Prop} (hK : Back l R p e below s args y 3 W9 Pre Post)
    {g : JFrame} (hg : g.method = m) (hsize : g.locals.size = c.maxLocals) {argsL rest : List Value} (hlen : ∀ sig, parseMethodDescriptor y.desc = some sig → argsL.length = sig.parameters.length)
    (hstack : g.stack = argsL.reverse ++ rest) (hW : 2 * g.monitorRoom + (rest.map fun v => v.category).sum ≤ W9) (hdg : decode c.code g.pc = .ok (.invokestatic index, 3))
    (hpre : ∀ vm₁, s.WarmedH vm₁ → Pre ⟨T.setVm vm₁, locs, cells, slots⟩ argsL.toArray) :
    ∃ (v : Option Value) (vm₁ : Vm) (B : Pt), s.WarmedH vm₁ ∧ Stand p l e R s m args below meth c B.U B.locs B.cells B.slots ∧ Post ⟨T.setVm vm₁, locs, cells, slots⟩ argsL.toArray v B ∧
      ∀ target, Steps p.tables e below (B.U.setTop { g with pc := g.pc + 3, stack := v.toList ++ rest }) target → Steps p.tables e below (T.setTop g) target := by
  obtain ⟨mk, methM, cM, hnamed, hmethM, -, -, -, -, -, -, hsigM⟩ := Cond.codeWith_spec hcode
  have hstatic : methM.isStatic = true := Cond.static_spec hnamed hmethM hstat
  obtain ⟨kP, hkP, -⟩ := className_of_methodNamed hnamed
  have hinitP : kP.init = .initialized := Cond.initialized_spec (findClass_of_methodNamed hnamed) hkP hinit
  obtain ⟨vm₁, X₁, hstep₁⟩ := X.invokestatic hexec hown hlink hnamed hmethM hstatic hkP hinitP hy (g := g) hg (argsL := argsL) (rest := rest) (hlen _ hsigM) hstack hdg
  obtain ⟨v, B, X', hpost, hsteps⟩ := hK m meth c ⟨T.setVm vm₁, locs, cells, slots⟩ { g with stack := rest } (.invokestatic index) mk argsL.toArray X₁ hg hsize hdg hW (X₁.named hnamed) (hpre vm₁ X₁.warmed)
  exact ⟨v, vm₁, B, X₁.warmed, X', hpost, fun target h => hstep₁ _ fun acts => by rw [doInvoke_state]; exact hsteps.trans h⟩
theorem vx_runSW {y : MethodName} {bytes cc : ByteArray} {maxL nL mc ms n index : Nat} {ret : Option FieldType} {hh : List (Nat × Nat × Nat × Nat)} {ws : List Cond} {rm : Room} {Pc : Array Value → State → Prop} {Qc : Array Value → State → Outcome → State → Prop} {free : Addr → Prop} {Ts : List Cond} {own : String} {As rest : List Value} {g : JFrame}
    (S : CallFix p m c cc nL s args Ts own) (hM : Met l y ws rm Pc Qc mc ms free) (cw : vx_CSW R s args own index y bytes maxL ret hh ws rm mc ms n) (hp : PreS s H Pc As)
    (hg : g.method = m) (hn : As.length = n) (hsize : g.locals.size = nL) (hstack : g.stack = As.reverse ++ rest) (hW : 2 * g.monitorRoom + (rest.map fun v => v.category).sum ≤ 8) (hdg : decode cc g.pc = .ok (.invokestatic index, 3)) (hf : cells + mc ≤ R.cells ∧ slots + ms ≤ R.slots) :
    va_Run p l e R s m args below meth c H locs cells slots mc ms g rest (Qc As.toArray) (free) := by
  obtain ⟨⟨hrc, hrs, hfr, hlo, hws, hcw⟩, hcode, hini, hy, hlen, hl, hstt⟩ := cw
  have hK : Back l R p e below s args y 3 8 (PreOf R mc ms Pc) (PostOf Qc mc ms free) := va_backW (hh := hh) (bytes := bytes) (maxL := maxL) (ret := ret) hM hp.1 hrc hrs hfr hlo hws hcw (fun a' U hW => word_at hW (Or.inl (by first | rfl | simp [Cond.onTables, Cond.keeps, Cond.steady])) hini)
  obtain ⟨hx, hb, hml, ho, -⟩ := S
  intro T hT X
  obtain ⟨v, vm₁, ⟨U', l2, c2, s2⟩, hW₁, X', ⟨g', mk, t, L, e1, e2, hq, h1, hL, h2, h3⟩, st⟩ := vx_callSW X hx (hh := hh) (bytes := bytes) (maxL := maxL) (ret := ret) ho hl hstt hini hcode hy hK hg (hsize.trans hml.symm) (argsL := As) (rest := rest) (fun sig h => hn.trans (hlen sig h)) hstack hW (by rw [hb]; exact hdg)
    (fun vm₁ hW₁ => ⟨hf.1, hf.2, hp.2 (T.setVm vm₁) hT hW₁⟩)
  dsimp only [Pt.U, Pt.locs, Pt.cells, Pt.slots] at X' e1 e2 h1 h2 h3 st
  subst h1; subst h2; subst h3
  exact ⟨v, (T.setVm vm₁).calling g' mk As.toArray, t, U', L, hT, X', hL, e1, e2, hq, st⟩
/-- not caught here, past rows that name other classes: it goes on to the caller -/
theorem vx_outP {p : Program} {l : Launch} {e : Env} {R : Room} {s : State} {m : MethodId} {args : Array Value} {below : List Frame} {meth : Method} {c : Code} {H : Heap} {locs : List Loc} {cells slots : Nat} {free : Addr → Prop} {ls : Array Slot} {rest : List Value} {Qc : Array Value → State → Outcome → State → Prop} {XC : String → State → State → Prop}
    {pc : Nat} {own E : String} {ce : Cell} {q : Addr} {mc ms : Nat} (hown : s.vm.findClass own = some m.cls) (hlocks : meth.locks = false)
    (hpass : ∀ z ∈ c.exceptionTable.toList, covers z pc = false ∨ (z.catchType ≠ 0 ∧ ∃ nm : String, (Cond.classLink own z.catchType nm).before args s = true ∧ va_Nc E nm s)) (hcell : H[q]? = some ce) (hv : ce.vm = .none) (hcl : s.vm.findClass E = some ce.cls)
    (hx : ∀ t : State, t.heap = H → s.vm.Alike t.vm → XC E s t) (hf : ∀ z ∈ locs, free z.base) (hc : cells ≤ mc) (hs : slots ≤ ms) :
    vx_W p l e R s m args below meth c H locs cells slots (vx_MQ below Qc XC args s mc ms free) (F0 m pc ls rest) q := by
  intro T hT X
  have hpl : e.platform.magicAccessors = ({} : Platform).magicAccessors := by rw [X.admits.platform]
  obtain ⟨vm', hW', X', st⟩ := X.outThrough hlocks q (g := F0 m pc ls rest) rfl rfl rfl (cell := ce) (by rw [hT]; exact hcell) (by rw [hv]; rfl)
    (by obtain ⟨k9, h9, -⟩ := Vm.findClass_spec hcl; exact ⟨k9, h9⟩) (fun z hz => by
      rcases hpass z hz with h | ⟨hz0, nm, hl1, hn1⟩
      · exact Or.inl h
      · obtain ⟨c6, hc6, hcl6⟩ := Cond.classLink_spec hown hl1 e.platform hpl
        obtain ⟨a8, b8, h1, h2, h3⟩ := hn1
        cases Option.some.inj (h1.symm.trans hcl)
        cases Option.some.inj (h2.symm.trans hc6)
        exact Or.inr ⟨hz0, _, hcl6, h3⟩)
  obtain ⟨g₀, hfr⟩ := X'.frames_eq
  have hcell9 : ((T.setVm vm').setFrames (.throwing q :: below)).heap[q]? = some ce := by
    show T.heap[q]? = some ce
    rw [hT]; exact hcell
  have hend : Ended ((T.setVm vm').setFrames (.throwing q :: below)) below (.threw q) := State.frames_setFrames _ (State.cur_lt_of_frames hfr)
  refine ⟨(T.setVm vm').setFrames (.throwing q :: below), ?_, .threw q, X'.here.running, hend, Or.inr ⟨q, rfl, E, ce, locs, hx _ hT (X'.ends _).1.alike, hcell9, hv, hcl, (X'.ends _).1, (X'.ends _).2.mono hc hs, hf⟩⟩
  rw [X.pushThrowing_eq]
  exact st
/-- a thing of a world lies in the heap -/
theorem vx_lt {D : va_G} {cl : List vw_C} {ws : va_W} {H1 : Heap} (h : va_P D cl ws H1) {k : Nat} {q : Nat × va_E} (hk : ws[k]? = some q) : q.1 < H1.size := (h k q hk).lt
end VXS
/-! ===== END ===== -/
/-! ===== BEGIN methods with a table of their own: called by a name, returning or throwing ===== -/
section VXH
/-! vx_backW, vx_callVX, vx_callSX, vx_callVW, vx_runVW, vx_runVX, vx_runSX, vx_ofWH follow the same proofs as their sisters above (Free/Laws.lean, Shelf42/LK1.lean); vx_outP calls Shelf42/NT130.lean (outThrough). -/
section
variable {l : Launch} {R : Room} {p : Program} {e : Env} {below : List Frame} {s : State} {sargs : Array Value} {y : MethodName} {len W9 : Nat}
theorem vx_backW {ws : List Cond} {rm : Room} {Pc : Array Value → State → Prop} {Qc : Array Value → State → Outcome → State → Prop} {XC : String → State → State → Prop} {mc ms : Nat} {free : Addr → Prop} {bytes : ByteArray} {maxL : Nat} {ret : Option FieldType} {hh : List (Nat × Nat × Nat × Nat)}
    (hM : vx_Met l y ws rm Pc Qc XC mc ms free) (hblind : FrameBlind Pc) (hrc : rm.cells = mc) (hrs : rm.slots = ms)
    (hframes : rm.frames + 1 ≤ R.frames) (hlocals : W9 + (maxL + 11) + rm.locals ≤ R.locals)
    (hws : ∀ w ∈ ws, ∀ a' U, s.WarmedH U.vm → w.before a' U = true) (hcode : Cond.codeWith y bytes maxL ret hh ∈ ws) (hinit : ∀ a' U, s.WarmedH U.vm → (Cond.initialized y.cls).before a' U = true) :
    vx_Back l R p e below s sargs y len W9 (PreOf R mc ms Pc) (PostOf Qc mc ms free) (vx_Post XC mc ms free) := by
  intro m meth c A g ig mk a X hg hsize hdg hW hn hp
  have h1 : (headSpec ws rm).pre.before a A.U = true := atoms_intro fun w hw => hws w hw _ _ X.warmed
  have h2 : (Cond.codeWith y bytes maxL ret hh).before a A.U = true := hws _ hcode _ _ X.warmed
  have h3 : (Cond.initialized y.cls).before a A.U = true := hinit _ _ X.warmed
  have h4 : A.cells + (headSpec ws rm).room.cells ≤ R.cells := by rw [show (headSpec ws rm).room.cells = mc from hrc]; exact hp.1
  have h5 : A.slots + (headSpec ws rm).room.slots ≤ R.slots := by rw [show (headSpec ws rm).room.slots = ms from hrs]; exact hp.2.1
  have hPc : Pc a (A.U.calling g mk a) := hblind _ _ _ _ hp.2.2
  obtain ⟨U, Ls, c0, s0⟩ := A
  dsimp only [Pt.U, Pt.locs, Pt.cells, Pt.slots] at h1 h2 h3 h4 h5 X hn hPc ⊢
  obtain ⟨m9, methY, cY, hn9, hmY, hcY, -, hlY, -⟩ := Cond.codeWith_spec h2
  cases Option.some.inj (hn9.symm.trans hn)
  obtain ⟨kY, hkY, -⟩ := className_of_methodNamed hn
  have hinitY : kY.init = .initialized := Cond.initialized_spec (findClass_of_methodNamed hn) hkY h3
  have h : At U g.method c below := by rw [hg]; exact X.here
  have hlocals9 : W9 + (maxL + 11) + (headSpec ws rm).room.locals ≤ R.locals := hlocals
  have happ : (headSpec ws rm).appliesLoose y e.platform (U.calling g mk a) = true :=
    Spec.appliesLoose_calling (g := g) h hdg hn hkY hinitY
      (X.room_calling (g := g) (R' := (headSpec ws rm).room) hsize hmY hcY hframes (by rw [hlY]; omega) h4 h5) h1
  obtain ⟨mid, hmid⟩ := h.above
  have hfr : (U.setTop g).frames = (.java g :: mid) ++ below := by rw [State.frames_setTop' g h.top, hmid]; rfl
  obtain ⟨o, s₂, hsteps, -, hend, hq⟩ := Steps.callFree hM p X.admits X.cas X.clock (acts := []) hfr happ hPc trivial
  have hq' : vx_Q Qc XC mc ms free a (U.calling g mk a) o s₂ := hq
  rw [State.frames_setTop' g h.top] at hend
  obtain ⟨g₀, hg0⟩ := Option.isSome_iff_exists.mp h.top
  obtain ⟨r, hr⟩ := State.topJava?_eq_some.mp hg0
  have hr' : (({ U with heap := s₂.heap, slotsUsed := s₂.slotsUsed } : State).setVm s₂.vm).frames = .java g₀ :: r := hr
  rcases hq' with ⟨hqc, L, hfe, hL⟩ | ⟨q, rfl, E, ce, L, hx, hce, hcv, hcl, hW₂, hsm, hL⟩
  · obtain ⟨⟨v, rfl⟩, hW₂, e2, q2, q3, q4, q5, q6⟩ := id hfe
    have e3 : s₂ = ({ (U.calling g mk a).setFrames s₂.frames with heap := s₂.heap, slotsUsed := s₂.slotsUsed } : State).setVm s₂.vm := by
      have : s₂ = ({ s₂ with vm := (U.calling g mk a).vm } : State).setVm s₂.vm := rfl
      rw [e2] at this
      exact this
    obtain ⟨c₂, i₂, len₂, hc₂, hd₂, hf₂⟩ := hend
    have hW' : U.WarmedH s₂.vm := hW₂
    have hcc : c₂ = c := by
      have h1 : s₂.code? g.method = U.code? g.method := by
        rw [State.code?_eq, State.code?_eq, hW'.alike.method?]
      exact Option.some.inj (hc₂.symm.trans (h1.trans h.code))
    subst hcc
    have hlen : len₂ = len := by rw [hdg] at hd₂; cases hd₂; rfl
    subst hlen
    have hs₂ : s₂ = (({ U with heap := s₂.heap, slotsUsed := s₂.slotsUsed } : State).setVm s₂.vm).setTop { g with pc := g.pc + len₂, stack := v.toList ++ g.stack } := by
      refine e3.trans ?_
      rw [hf₂, State.calling_eq h.top, State.setFrames_setFrames, State.setTop_of_frames _ hr', hr]
      rfl
    have hsame : U.sameButNew ({ U with heap := s₂.heap, slotsUsed := s₂.slotsUsed } : State) L mc ms := by
      refine ⟨?_, q2, q3, q4, q5, q6⟩
      obtain ⟨t, ht, -⟩ := State.frames_cons hr
      show ({ U with heap := s₂.heap, slotsUsed := s₂.slotsUsed } : State) = { U.setFrames U.frames with heap := s₂.heap, slotsUsed := s₂.slotsUsed }
      rw [State.setFrames_self ht]
    subst hg
    refine Or.inl ⟨v, ⟨(({ U with heap := s₂.heap, slotsUsed := s₂.slotsUsed } : State).setVm s₂.vm), Ls ++ L, c0 + mc, s0 + ms⟩,
      ⟨X.admits, X.cas, X.clock, X.frames, X.room, X.hears, X.method, X.code, (X.here.setHeapUsed s₂.heap s₂.slotsUsed).setVm hW'.alike, X.tail, State.WarmedH.trans X.warmed hW', X.limits, X.bytes, X.same.trans (hsame.setVm s.vm)⟩,
      ⟨g, mk, s₂, L, rfl, rfl, hqc, rfl, hL, rfl, rfl⟩, ?_⟩
    show Steps p.tables e below _ ((({ U with heap := s₂.heap, slotsUsed := s₂.slotsUsed } : State).setVm s₂.vm).setTop { g with pc := g.pc + len₂, stack := v.toList ++ g.stack })
    rw [← hs₂]
    exact hsteps
  · obtain ⟨e2, q2, q3, q4, q5, q6⟩ := id hsm
    have e3 : s₂ = ({ (U.calling g mk a).setFrames s₂.frames with heap := s₂.heap, slotsUsed := s₂.slotsUsed } : State).setVm s₂.vm := by
      have : s₂ = ({ s₂ with vm := (U.calling g mk a).vm } : State).setVm s₂.vm := rfl
      rw [e2] at this
      exact this
    have hf₂ : s₂.frames = .throwing q :: .java g :: U.frames.tail := hend
    have hW' : U.WarmedH s₂.vm := hW₂
    have hs₂ : s₂ = ((({ U with heap := s₂.heap, slotsUsed := s₂.slotsUsed } : State).setVm s₂.vm).setTop g).pushFrame (.throwing q) := by
      refine e3.trans ?_
      rw [hf₂, State.calling_eq h.top, State.setFrames_setFrames, State.pushFrame, State.frames_setTop _ hr', State.setTop_of_frames _ hr', State.setFrames_setFrames, hr]
      rfl
    have hsame : U.sameButNew ({ U with heap := s₂.heap, slotsUsed := s₂.slotsUsed } : State) L mc ms := by
      refine ⟨?_, q2, q3, q4, q5, q6⟩
      obtain ⟨t, ht, -⟩ := State.frames_cons hr
      show ({ U with heap := s₂.heap, slotsUsed := s₂.slotsUsed } : State) = { U.setFrames U.frames with heap := s₂.heap, slotsUsed := s₂.slotsUsed }
      rw [State.setFrames_self ht]
    subst hg
    refine Or.inr ⟨q, ⟨(({ U with heap := s₂.heap, slotsUsed := s₂.slotsUsed } : State).setVm s₂.vm), Ls ++ L, c0 + mc, s0 + ms⟩,
      ⟨X.admits, X.cas, X.clock, X.frames, X.room, X.hears, X.method, X.code, (X.here.setHeapUsed s₂.heap s₂.slotsUsed).setVm hW'.alike, X.tail, State.WarmedH.trans X.warmed hW', X.limits, X.bytes, X.same.trans (hsame.setVm s.vm)⟩,
      ⟨g, mk, s₂, L, E, ce, rfl, rfl, hx, hce, hcv, hcl, rfl, hL, rfl, rfl⟩, ?_⟩
    show Steps p.tables e below _ (((({ U with heap := s₂.heap, slotsUsed := s₂.slotsUsed } : State).setVm s₂.vm).setTop g).pushFrame (.throwing q))
    rw [← hs₂]
    exact hsteps
end
variable {p : Program} {l : Launch} {e : Env} {R : Room} {s : State} {m : MethodId} {args : Array Value} {below : List Frame} {meth : Method} {c : Code} {T : State} {H : Heap} {locs : List Loc} {cells slots : Nat}
theorem vx_callVX (X : Stand p l e R s m args below meth c T locs cells slots) (hexec : p.tables.exec = Jvm.exec) {own C : String} {index : Nat} {y : MethodName} {bytes : ByteArray} {maxL : Nat} {ret : Option FieldType} {hh : List (Nat × Nat × Nat × Nat)}
    (hown : s.vm.findClass own = some m.cls) (hlink : (Cond.methodLink own index y).before args s = true) (hinst : (Cond.instanceMethod y).before args s = true) (hsel : (Cond.selects C y y).before args s = true)
    (hcode : (Cond.codeWith y bytes maxL ret hh).before args s = true) (hy : y.cls ≠ "java/lang/invoke/MethodHandle" ∧ y.cls ≠ "java/lang/invoke/VarHandle")
    {W9 : Nat} {Pre : Pt → Array Value → Prop} {Post : Pt → Array Value → Option Value → Pt → Prop} {PostX : Pt → Array Value → Addr → Pt → Prop} (hK : vx_Back l R p e below s args y 3 W9 Pre Post PostX)
    {b : Addr} {cellB : Cell} (hcell : T.heap[b]? = some cellB) (hobj : cellB.vm.isStatics = false) (hcls : s.vm.findClass C = some cellB.cls)
    {g : JFrame} (hg : g.method = m) (hsize : g.locals.size = c.maxLocals) {argsL rest : List Value} (hlen : ∀ sig, parseMethodDescriptor y.desc = some sig → argsL.length = sig.parameters.length)
    (hstack : g.stack = argsL.reverse ++ .ref b :: rest) (hW : 2 * g.monitorRoom + (rest.map fun v => v.category).sum ≤ W9) (hdg : decode c.code g.pc = .ok (.invokevirtual index, 3))
    (hpre : ∀ vm₁, s.WarmedH vm₁ → Pre ⟨T.setVm vm₁, locs, cells, slots⟩ (Value.ref b :: argsL).toArray) :
    (∃ (v : Option Value) (vm₁ : Vm) (B : Pt), s.WarmedH vm₁ ∧ Stand p l e R s m args below meth c B.U B.locs B.cells B.slots ∧ Post ⟨T.setVm vm₁, locs, cells, slots⟩ (Value.ref b :: argsL).toArray v B ∧
      ∀ target, Steps p.tables e below (B.U.setTop { g with pc := g.pc + 3, stack := v.toList ++ rest }) target → Steps p.tables e below (T.setTop g) target) ∨
    (∃ (q : Addr) (vm₁ : Vm) (B : Pt), s.WarmedH vm₁ ∧ Stand p l e R s m args below meth c B.U B.locs B.cells B.slots ∧ PostX ⟨T.setVm vm₁, locs, cells, slots⟩ (Value.ref b :: argsL).toArray q B ∧
      Steps p.tables e below (T.setTop g) ((B.U.setTop { g with stack := rest }).pushFrame (.throwing q))) := by
  obtain ⟨mk, methM, hnamed, hmethM, hstM, habM⟩ := Cond.instanceMethod_spec hinst
  obtain ⟨m8, methM', cM, hn8, hmethM', -, -, -, -, -, -, hsigM⟩ := Cond.codeWith_spec hcode
  cases Option.some.inj (hn8.symm.trans hnamed)
  cases hmethM.symm.trans hmethM'
  obtain ⟨c2, r2, m2, q1, q2, q3, q4, kP, hkP, hkPi⟩ := Cond.selects_spec hsel
  cases hcls.symm.trans q1
  cases (State.methodFound?_of_named hnamed hy).symm.trans q2
  cases hnamed.symm.trans q3
  have hselP : selectMethod e.platform s.vm cellB.cls mk = .method mk := by rw [Launch.admits_selectMethod X.admits]; exact q4
  obtain ⟨vm₁, X₁, hstep₁⟩ := X.invokevirtual hexec hown hlink hnamed hmethM hstM hkP hkPi hy (a := b) (cell := cellB) hcell
    (fun z h => by rw [h] at hobj; cases hobj) hselP hmethM habM hkP hkPi (g := g) hg (argsL := argsL) (rest := rest) (hlen _ hsigM) hstack hdg
  rcases hK m meth c ⟨T.setVm vm₁, locs, cells, slots⟩ { g with stack := rest } (.invokevirtual index) mk (Value.ref b :: argsL).toArray X₁ hg hsize hdg hW (X₁.named hnamed) (hpre vm₁ X₁.warmed) with ⟨v, B, X', hpost, hsteps⟩ | ⟨q, B, X', hpost, hsteps⟩
  · exact Or.inl ⟨v, vm₁, B, X₁.warmed, X', hpost, fun target h => hstep₁ _ fun acts => by rw [doInvoke_state]; exact hsteps.trans h⟩
  · exact Or.inr ⟨q, vm₁, B, X₁.warmed, X', hpost, hstep₁ _ fun acts => by rw [doInvoke_state]; exact hsteps⟩
theorem vx_callSX (X : Stand p l e R s m args below meth c T locs cells slots) (hexec : p.tables.exec = Jvm.exec) {own : String} {index : Nat} {y : MethodName} {bytes : ByteArray} {maxL : Nat} {ret : Option FieldType} {hh : List (Nat × Nat × Nat × Nat)}
    (hown : s.vm.findClass own = some m.cls) (hlink : (Cond.methodLink own index y).before args s = true) (hstat : (Cond.static y).before args s = true) (hinit : (Cond.initialized y.cls).before args s = true)
    (hcode : (Cond.codeWith y bytes maxL ret hh).before args s = true) (hy : y.cls ≠ "java/lang/invoke/MethodHandle" ∧ y.cls ≠ "java/lang/invoke/VarHandle")
    {W9 : Nat} {Pre : Pt → Array Value → Prop} {Post : Pt → Array Value → Option Value → Pt → Prop} {PostX : Pt → Array Value → Addr → Pt → Prop} (hK : vx_Back l R p e below s args y 3 W9 Pre Post PostX)
    {g : JFrame} (hg : g.method = m) (hsize : g.locals.size = c.maxLocals) {argsL rest : List Value} (hlen : ∀ sig, parseMethodDescriptor y.desc = some sig → argsL.length = sig.parameters.length)
    (hstack : g.stack = argsL.reverse ++ rest) (hW : 2 * g.monitorRoom + (rest.map fun v => v.category).sum ≤ W9) (hdg : decode c.code g.pc = .ok (.invokestatic index, 3))
    (hpre : ∀ vm₁, s.WarmedH vm₁ → Pre ⟨T.setVm vm₁, locs, cells, slots⟩ argsL.toArray) :
    (∃ (v : Option Value) (vm₁ : Vm) (B : Pt), s.WarmedH vm₁ ∧ Stand p l e R s m args below meth c B.U B.locs B.cells B.slots ∧ Post ⟨T.setVm vm₁, locs, cells, slots⟩ argsL.toArray v B ∧
      ∀ target, Steps p.tables e below (B.U.setTop { g with pc := g.pc + 3, stack := v.toList ++ rest }) target → Steps p.tables e below (T.setTop g) target) ∨
    (∃ (q : Addr) (vm₁ : Vm) (B : Pt), s.WarmedH vm₁ ∧ Stand p l e R s m args below meth c B.U B.locs B.cells B.slots ∧ PostX ⟨T.setVm vm₁, locs, cells, slots⟩ argsL.toArray q B ∧
      Steps p.tables e below (T.setTop g) ((B.U.setTop { g with stack := rest }).pushFrame (.throwing q))) := by
  obtain ⟨mk, methM, cM, hnamed, hmethM, -, -, -, -, -, -, hsigM⟩ := Cond.codeWith_spec hcode
  have hstatic : methM.isStatic = true := Cond.static_spec hnamed hmethM hstat
  obtain ⟨kP, hkP, -⟩ := className_of_methodNamed hnamed
  have hinitP : kP.init = .initialized := Cond.initialized_spec (findClass_of_methodNamed hnamed) hkP hinit
  obtain ⟨vm₁, X₁, hstep₁⟩ := X.invokestatic hexec hown hlink hnamed hmethM hstatic hkP hinitP hy (g := g) hg (argsL := argsL) (rest := rest) (hlen _ hsigM) hstack hdg
  rcases hK m meth c ⟨T.setVm vm₁, locs, cells, slots⟩ { g with stack := rest } (.invokestatic index) mk argsL.toArray X₁ hg hsize hdg hW (X₁.named hnamed) (hpre vm₁ X₁.warmed) with ⟨v, B, X', hpost, hsteps⟩ | ⟨q, B, X', hpost, hsteps⟩
  · exact Or.inl ⟨v, vm₁, B, X₁.warmed, X', hpost, fun target h => hstep₁ _ fun acts => by rw [doInvoke_state]; exact hsteps.trans h⟩
  · exact Or.inr ⟨q, vm₁, B, X₁.warmed, X', hpost, hstep₁ _ fun acts => by rw [doInvoke_state]; exact hsteps⟩
theorem vx_callVW (X : Stand p l e R s m args below meth c T locs cells slots) (hexec : p.tables.exec = Jvm.exec) {own C : String} {index : Nat} {y : MethodName} {bytes : ByteArray} {maxL : Nat} {ret : Option FieldType} {hh : List (Nat × Nat × Nat × Nat)}
    (hown : s.vm.findClass own = some m.cls) (hlink : (Cond.methodLink own index y).before args s = true) (hinst : (Cond.instanceMethod y).before args s = true) (hsel : (Cond.selects C y y).before args s = true)
    (hcode : (Cond.codeWith y bytes maxL ret hh).before args s = true) (hy : y.cls ≠ "java/lang/invoke/MethodHandle" ∧ y.cls ≠ "java/lang/invoke/VarHandle")
    {W9 : Nat} {Pre : Pt → Array Value → Prop} {Post : Pt → Array Value → Option Value → Pt → Prop} (hK : Back l R p e below s args y 3 W9 Pre Post)
    {b : Addr} {cellB : Cell} (hcell : T.heap[b]? = some cellB) (hobj : cellB.vm.isStatics = false) (hcls : s.vm.findClass C = some cellB.cls)
    {g : JFrame} (hg : g.method = m) (hsize : g.locals.size = c.maxLocals) {argsL rest : List Value} (hlen : ∀ sig, parseMethodDescriptor y.desc = some sig → argsL.length = sig.parameters.length)
    (hstack : g.stack = argsL.reverse ++ .ref b :: rest) (hW : 2 * g.monitorRoom + (rest.map fun v => v.category).sum ≤ W9) (hdg : decode c.code g.pc = .ok (.invokevirtual index, 3))
    (hpre : ∀ vm₁, s.WarmedH vm₁ → Pre ⟨T.setVm vm₁, locs, cells, slots⟩ (Value.ref b :: argsL).toArray) :
    ∃ (v : Option Value) (vm₁ : Vm) (B : Pt), s.WarmedH vm₁ ∧ Stand p l e R s m args below meth c B.U B.locs B.cells B.slots ∧ Post ⟨T.setVm vm₁, locs, cells, slots⟩ (Value.ref b :: argsL).toArray v B ∧
      ∀ target, Steps p.tables e below (B.U.setTop { g with pc := g.pc + 3, stack := v.toList ++ rest }) target → Steps p.tables e below (T.setTop g) target := by
  obtain ⟨mk, methM, hnamed, hmethM, hstM, habM⟩ := Cond.instanceMethod_spec hinst
  obtain ⟨m8, methM', cM, hn8, hmethM', -, -, -, -, -, -, hsigM⟩ := Cond.codeWith_spec hcode
  cases Option.some.inj (hn8.symm.trans hnamed)
  cases hmethM.symm.trans hmethM'
  obtain ⟨c2, r2, m2, q1, q2, q3, q4, kP, hkP, hkPi⟩ := Cond.selects_spec hsel
  cases hcls.symm.trans q1
  cases (State.methodFound?_of_named hnamed hy).symm.trans q2
  cases hnamed.symm.trans q3
  have hselP : selectMethod e.platform s.vm cellB.cls mk = .method mk := by rw [Launch.admits_selectMethod X.admits]; exact q4
  obtain ⟨vm₁, X₁, hstep₁⟩ := X.invokevirtual hexec hown hlink hnamed hmethM hstM hkP hkPi hy (a := b) (cell := cellB) hcell
    (fun z h => by rw [h] at hobj; cases hobj) hselP hmethM habM hkP hkPi (g := g) hg (argsL := argsL) (rest := rest) (hlen _ hsigM) hstack hdg
  obtain ⟨v, B, X', hpost, hsteps⟩ := hK m meth c ⟨T.setVm vm₁, locs, cells, slots⟩ { g with stack := rest } (.invokevirtual index) mk (Value.ref b :: argsL).toArray X₁ hg hsize hdg hW (X₁.named hnamed) (hpre vm₁ X₁.warmed)
  exact ⟨v, vm₁, B, X₁.warmed, X', hpost, fun target h => hstep₁ _ fun acts => by rw [doInvoke_state]; exact hsteps.trans h⟩
abbrev vx_CVW (R : Room) (s : State) (args : Array Value) (own C : String) (index : Nat) (y : MethodName) (bytes : ByteArray) (maxL : Nat) (ret : Option FieldType) (hh : List (Nat × Nat × Nat × Nat)) (ws : List Cond) (rm : Room) (mc ms n : Nat) : Prop :=
  (rm.cells = mc ∧ rm.slots = ms ∧ rm.frames + 1 ≤ R.frames ∧ 8 + (maxL + 11) + rm.locals ≤ R.locals ∧ (∀ w ∈ ws, ∀ (a' : Array Value) (U : State), s.WarmedH U.vm → w.before a' U = true) ∧ Cond.codeWith y bytes maxL ret hh ∈ ws) ∧
  (Cond.codeWith y bytes maxL ret hh).before args s = true ∧ (Cond.initialized y.cls).before args s = true ∧ (y.cls ≠ "java/lang/invoke/MethodHandle" ∧ y.cls ≠ "java/lang/invoke/VarHandle") ∧
  (∀ sig, parseMethodDescriptor y.desc = some sig → n = sig.parameters.length) ∧ (Cond.methodLink own index y).before args s = true ∧ (Cond.instanceMethod y).before args s = true ∧ (Cond.selects C y y).before args s = true
theorem vx_cwVW {own C : String} {index maxL mc ms : Nat} {y : MethodName} {bytes : ByteArray} {ret : Option FieldType} {hh : List (Nat × Nat × Nat × Nat)} {Ts ws ws' : List Cond} {rm : Room} (n : Nat) (ht : ∀ w ∈ Ts, w.before args s = true) (hT : GoodIn Ts (wsV own index C y ws)) (hw : ws = Cond.codeWith y bytes maxL ret hh :: ws') (hrc : rm.cells = mc) (hrs : rm.slots = ms)
    (hd : y.cls = C ∧ y.cls ≠ "java/lang/invoke/MethodHandle" ∧ y.cls ≠ "java/lang/invoke/VarHandle" ∧ (parseMethodDescriptor y.desc).map (fun d => d.parameters.length) = some n) (hR : rm.frames + 1 ≤ R.frames ∧ 8 + (maxL + 11) + rm.locals ≤ R.locals) :
    vx_CVW R s args own C index y bytes maxL ret hh ws rm mc ms n := by
  obtain ⟨hC, hd⟩ := hd
  subst hC
  have ok : ∀ w ∈ wsV own index y.cls y ws, w.before args s = true := fun w h => ht w (hT w h).1
  have hG : GoodIn Ts ws := fun w h => hT w (by unfold wsV; exact List.mem_append_right _ h)
  have hc : Cond.codeWith y bytes maxL ret hh ∈ ws := by rw [hw]; exact List.mem_cons_self
  refine ⟨⟨hrc, hrs, hR.1, hR.2, pay_in ht hG, hc⟩, ht _ (hG _ hc).1, ok _ (by simp [wsV]), ⟨hd.1, hd.2.1⟩, fun sig h => ?_, ok _ (by simp [wsV]), ok _ (by simp [wsV]), ok _ (by simp [wsV])⟩
  have h2 := hd.2.2
  rw [h] at h2
  exact (Option.some.inj h2).symm
theorem vx_runVW {y : MethodName} {bytes cc : ByteArray} {maxL nL mc ms n index : Nat} {ret : Option FieldType} {hh : List (Nat × Nat × Nat × Nat)} {ws : List Cond} {rm : Room} {Pc : Array Value → State → Prop} {Qc : Array Value → State → Outcome → State → Prop} {free : Addr → Prop} {Ts : List Cond} {own C : String} {b : Addr} {As rest : List Value} {g : JFrame}
    (S : CallFix p m c cc nL s args Ts own) (hM : Met l y ws rm Pc Qc mc ms free) (cw : vx_CVW R s args own C index y bytes maxL ret hh ws rm mc ms n) (hp : PreV s H C b Pc As)
    (hg : g.method = m) (hn : As.length = n) (hsize : g.locals.size = nL) (hstack : g.stack = As.reverse ++ .ref b :: rest) (hW : 2 * g.monitorRoom + (rest.map fun v => v.category).sum ≤ 8) (hdg : decode cc g.pc = .ok (.invokevirtual index, 3)) (hf : cells + mc ≤ R.cells ∧ slots + ms ≤ R.slots) :
    va_Run p l e R s m args below meth c H locs cells slots mc ms g rest (Qc (Value.ref b :: As).toArray) free := by
  obtain ⟨⟨hrc, hrs, hfr, hlo, hws, hcw⟩, hcode, hini, hy, hlen, hl, hin, hse⟩ := cw
  have hK : Back l R p e below s args y 3 8 (PreOf R mc ms Pc) (PostOf Qc mc ms free) := va_backW (hh := hh) (bytes := bytes) (maxL := maxL) (ret := ret) hM hp.1 hrc hrs hfr hlo hws hcw (fun a' U hW => word_at hW (Or.inl (by first | rfl | simp [Cond.onTables, Cond.keeps, Cond.steady])) hini)
  obtain ⟨hx, hb, hml, ho, -⟩ := S
  obtain ⟨-, ⟨cellB, hcB, hoB, hclB⟩, hPc⟩ := hp
  intro T hT X
  obtain ⟨v, vm₁, ⟨U', l2, c2, s2⟩, hW₁, X', ⟨g', mk, t, L, e1, e2, hq, h1, hL, h2, h3⟩, st⟩ := vx_callVW X hx (C := C) (hh := hh) (bytes := bytes) (maxL := maxL) (ret := ret) ho hl hin hse hcode hy hK (by rw [hT]; exact hcB) hoB hclB hg (hsize.trans hml.symm) (argsL := As) (rest := rest) (fun sig h => hn.trans (hlen sig h)) hstack hW (by rw [hb]; exact hdg)
    (fun vm₁ hW₁ => ⟨hf.1, hf.2, hPc (T.setVm vm₁) hT hW₁⟩)
  dsimp only [Pt.U, Pt.locs, Pt.cells, Pt.slots] at X' e1 e2 h1 h2 h3 st
  subst h1; subst h2; subst h3
  exact ⟨v, (T.setVm vm₁).calling g' mk (Value.ref b :: As).toArray, t, U', L, hT, X', hL, e1, e2, hq, st⟩
section
variable {y : MethodName} {bytes cc : ByteArray} {maxL nL mc ms n index : Nat} {ret : Option FieldType} {ws : List Cond} {rm : Room} {Pc : Array Value → State → Prop} {Qc : Array Value → State → Outcome → State → Prop} {XC : String → State → State → Prop} {free : Addr → Prop} {Ts : List Cond} {own C : String} {b : Addr} {As rest : List Value} {g : JFrame}
theorem vx_runVX {hh : List (Nat × Nat × Nat × Nat)} (S : CallFix p m c cc nL s args Ts own) (hM : vx_Met l y ws rm Pc Qc XC mc ms free) (cw : vx_CVW R s args own C index y bytes maxL ret hh ws rm mc ms n) (hp : PreV s H C b Pc As)
    (hg : g.method = m) (hn : As.length = n) (hsize : g.locals.size = nL) (hstack : g.stack = As.reverse ++ .ref b :: rest) (hW : 2 * g.monitorRoom + (rest.map fun v => v.category).sum ≤ 8) (hdg : decode cc g.pc = .ok (.invokevirtual index, 3)) (hf : cells + mc ≤ R.cells ∧ slots + ms ≤ R.slots) :
    vx_Run p l e R s m args below meth c H locs cells slots mc ms g rest (Qc (Value.ref b :: As).toArray) XC free := by
  obtain ⟨⟨hrc, hrs, hfr, hlo, hws, hcw⟩, hcode, hini, hy, hlen, hl, hin, hse⟩ := cw
  have hK : vx_Back l R p e below s args y 3 8 (PreOf R mc ms Pc) (PostOf Qc mc ms free) (vx_Post XC mc ms free) := vx_backW (hh := hh) (bytes := bytes) (maxL := maxL) (ret := ret) hM hp.1 hrc hrs hfr hlo hws hcw (fun a' U hW => word_at hW (Or.inl (by first | rfl | simp [Cond.onTables, Cond.keeps, Cond.steady])) hini)
  obtain ⟨hx, hb, hml, ho, -⟩ := S
  obtain ⟨-, ⟨cellB, hcB, hoB, hclB⟩, hPc⟩ := hp
  intro T hT X
  rcases vx_callVX X hx (C := C) (hh := hh) (bytes := bytes) (maxL := maxL) (ret := ret) ho hl hin hse hcode hy hK (by rw [hT]; exact hcB) hoB hclB hg (hsize.trans hml.symm) (argsL := As) (rest := rest) (fun sig h => hn.trans (hlen sig h)) hstack hW (by rw [hb]; exact hdg)
    (fun vm₁ hW₁ => ⟨hf.1, hf.2, hPc (T.setVm vm₁) hT hW₁⟩) with ⟨v, vm₁, ⟨U', l2, c2, s2⟩, hW₁, X', ⟨g', mk, t, L, e1, e2, hq, h1, hL, h2, h3⟩, st⟩ | ⟨q, vm₁, ⟨U', l2, c2, s2⟩, hW₁, X', ⟨g', mk, t, L, E, ce, e1, e2, hq, hce, hcv, hcl, h1, hL, h2, h3⟩, st⟩
  · dsimp only [Pt.U, Pt.locs, Pt.cells, Pt.slots] at X' e1 e2 h1 h2 h3 st
    subst h1; subst h2; subst h3
    exact Or.inl ⟨v, (T.setVm vm₁).calling g' mk (Value.ref b :: As).toArray, t, U', L, hT, X', hL, e1, e2, hq, st⟩
  · dsimp only [Pt.U, Pt.locs, Pt.cells, Pt.slots] at X' e1 e2 h1 h2 h3 st hcl
    subst h1; subst h2; subst h3
    exact Or.inr ⟨q, (T.setVm vm₁).calling g' mk (Value.ref b :: As).toArray, t, U', L, E, ce, hT, X', hL, e1, e2, hq, hce, hcv, vx_cls hW₁ hcl, st⟩
theorem vx_runSX {hh : List (Nat × Nat × Nat × Nat)} (S : CallFix p m c cc nL s args Ts own) (hM : vx_Met l y ws rm Pc Qc XC mc ms free) (cw : vx_CSW R s args own index y bytes maxL ret hh ws rm mc ms n) (hp : PreS s H Pc As)
    (hg : g.method = m) (hn : As.length = n) (hsize : g.locals.size = nL) (hstack : g.stack = As.reverse ++ rest) (hW : 2 * g.monitorRoom + (rest.map fun v => v.category).sum ≤ 8) (hdg : decode cc g.pc = .ok (.invokestatic index, 3)) (hf : cells + mc ≤ R.cells ∧ slots + ms ≤ R.slots) :
    vx_Run p l e R s m args below meth c H locs cells slots mc ms g rest (Qc As.toArray) XC free := by
  obtain ⟨⟨hrc, hrs, hfr, hlo, hws, hcw⟩, hcode, hini, hy, hlen, hl, hstt⟩ := cw
  have hK : vx_Back l R p e below s args y 3 8 (PreOf R mc ms Pc) (PostOf Qc mc ms free) (vx_Post XC mc ms free) := vx_backW (hh := hh) (bytes := bytes) (maxL := maxL) (ret := ret) hM hp.1 hrc hrs hfr hlo hws hcw (fun a' U hW => word_at hW (Or.inl (by first | rfl | simp [Cond.onTables, Cond.keeps, Cond.steady])) hini)
  obtain ⟨hx, hb, hml, ho, -⟩ := S
  intro T hT X
  rcases vx_callSX X hx (hh := hh) (bytes := bytes) (maxL := maxL) (ret := ret) ho hl hstt hini hcode hy hK hg (hsize.trans hml.symm) (argsL := As) (rest := rest) (fun sig h => hn.trans (hlen sig h)) hstack hW (by rw [hb]; exact hdg)
    (fun vm₁ hW₁ => ⟨hf.1, hf.2, hp.2 (T.setVm vm₁) hT hW₁⟩) with ⟨v, vm₁, ⟨U', l2, c2, s2⟩, hW₁, X', ⟨g', mk, t, L, e1, e2, hq, h1, hL, h2, h3⟩, st⟩ | ⟨q, vm₁, ⟨U', l2, c2, s2⟩, hW₁, X', ⟨g', mk, t, L, E, ce, e1, e2, hq, hce, hcv, hcl, h1, hL, h2, h3⟩, st⟩
  · dsimp only [Pt.U, Pt.locs, Pt.cells, Pt.slots] at X' e1 e2 h1 h2 h3 st
    subst h1; subst h2; subst h3
    exact Or.inl ⟨v, (T.setVm vm₁).calling g' mk As.toArray, t, U', L, hT, X', hL, e1, e2, hq, st⟩
  · dsimp only [Pt.U, Pt.locs, Pt.cells, Pt.slots] at X' e1 e2 h1 h2 h3 st hcl
    subst h1; subst h2; subst h3
    exact Or.inr ⟨q, (T.setVm vm₁).calling g' mk As.toArray, t, U', L, E, ce, hT, X', hL, e1, e2, hq, hce, hcv, vx_cls hW₁ hcl, st⟩
end
end VXH
theorem vx_ofWH {l : Launch} {y : MethodName} {ws ws' : List Cond} {rm : Room} {Pc : Array Value → State → Prop} {Qc : Array Value → State → Outcome → State → Prop} {XC : String → State → State → Prop} {mc ms : Nat} {free : Addr → Prop} {cc : ByteArray} {maxL : Nat} {ret : Option FieldType} {hh : List (Nat × Nat × Nat × Nat)}
    (hy : plainName y.cls = true) (hw : ws = Cond.codeWith y cc maxL ret hh :: ws')
    (body : ∀ p e s m args below meth c s₁, BodyLoose p l y (headSpec ws rm) cc maxL ret e s m args below meth c s₁ → c.maxLocals = maxL → Pc args s →
      W p l e (headSpec ws rm).room s m args below meth c s.heap [] 0 0 (vx_MQ below Qc XC args s mc ms free) (entryFrame m args maxL)) : vx_Met l y ws rm Pc Qc XC mc ms free := by
  refine MetFree.of_bodyS (code := cc) (maxLocals := maxL) (ret := ret) hy ?_ ?_
  · intro args s m h hn
    obtain ⟨m9, meth, c, hn9, h1, h2, h3, h4, -, h5, h6, -⟩ := Cond.codeWith_spec (atoms_spec (ws := ws) h _ (by rw [hw]; exact List.mem_cons_self))
    cases hn.symm.trans hn9
    exact ⟨meth, c, h1, h2, h3, h4, h5, h6⟩
  · intro p e s m args below meth c s₁ B hml hP _
    have hh0 : s₁.heap = s.heap := by rw [B.state]; rfl
    obtain ⟨t, a1, o, b1, b2, b3⟩ := body p e s m args below meth c s₁ B hml hP s₁ hh0 (Stand.of_body B)
    exact ⟨t, o, a1, b1, b2, b3⟩
/-! ===== END ===== -/

/-! ===== BEGIN printed: names, fields, word lists, decode rows ===== -/
def RX0 : String := "RingCutters$Discount"
def TX0 : u_T := fun k => match k with
  | 0 => ("RingCutters$Discount", "weights", "[J", true)
  | 1 => ("RingCutters$Discount", "pile", "[I", true)
  | 2 => ("RingCutters$Discount", "piled", "I", false)
  | 3 => ("RingCutters$Discount", "left", "I", false)
  | 4 => ("RingCutters$Discount", "cut", "I", false)
  | 5 => ("RingCutters$Discount", "sum", "J", false)
  | _ => ("RingCutters$Discount", "below", "J", false)
def tyX0 : Nat → FieldType := fun k => match k with
  | 0 => .array .long
  | 1 => .array .int
  | 2 => .int
  | 3 => .int
  | 4 => .int
  | 5 => .long
  | _ => .long
abbrev wsX00 : List Cond := u_ws RX0 TX0 7
theorem nmX0 : ∀ a, a < 7 → ∀ b, b < 7 → a ≠ b → (TX0 a).2.1 ≠ (TX0 b).2.1 := by decide +kernel
theorem tyX0_ok : ∀ k, k < 7 → parseFieldDescriptor (TX0 k).2.2.1 = some (tyX0 k) := by decide +kernel
abbrev cX0_init : ByteArray := prog_2_method_1_code
def yX0_init : MethodName := ⟨RX0, "<init>", "()V"⟩
abbrev cX0_run : ByteArray := prog_2_method_2_code
def yX0_run : MethodName := ⟨RX0, "run", "(LRingCutters$Net;LRingCutters$Rings;)V"⟩
abbrev cX0_begin : ByteArray := prog_2_method_3_code
def yX0_begin : MethodName := ⟨RX0, "begin", "(LRingCutters$Net;)V"⟩
abbrev cX0_strip : ByteArray := prog_2_method_4_code
def yX0_strip : MethodName := ⟨RX0, "strip", "(LRingCutters$Net;)V"⟩
abbrev cX0_leastOpenRing : ByteArray := prog_2_method_5_code
def yX0_leastOpenRing : MethodName := ⟨RX0, "leastOpenRing", "(LRingCutters$Net;LRingCutters$Rings;)I"⟩
abbrev cX0_takeFromRing : ByteArray := prog_2_method_6_code
def yX0_takeFromRing : MethodName := ⟨RX0, "takeFromRing", "(I)V"⟩
abbrev cX0_takeFromAll : ByteArray := prog_2_method_7_code
def yX0_takeFromAll : MethodName := ⟨RX0, "takeFromAll", "(LRingCutters$Net;)V"⟩
abbrev cX0_pileWeightless : ByteArray := prog_2_method_8_code
def yX0_pileWeightless : MethodName := ⟨RX0, "pileWeightless", "()V"⟩
abbrev cX0_giveBack : ByteArray := prog_2_method_9_code
def yX0_giveBack : MethodName := ⟨RX0, "giveBack", "(ILRingCutters$Rings;)V"⟩
abbrev cX0_boundAbove : ByteArray := prog_2_method_10_code
def yX0_boundAbove : MethodName := ⟨RX0, "boundAbove", "()J"⟩
abbrev cX0_boundBelow : ByteArray := prog_2_method_11_code
def yX0_boundBelow : MethodName := ⟨RX0, "boundBelow", "()J"⟩
abbrev cX0_commonDivisor : ByteArray := prog_2_method_12_code
def yX0_commonDivisor : MethodName := ⟨RX0, "commonDivisor", "()J"⟩
def RX1 : String := "RingCutters$Draws"
def TX1 : u_T := fun k => match k with
  | _ => ("RingCutters$Draws", "seed", "I", false)
def tyX1 : Nat → FieldType := fun k => match k with
  | _ => .int
abbrev wsX10 : List Cond := u_ws RX1 TX1 1
theorem nmX1 : ∀ a, a < 1 → ∀ b, b < 1 → a ≠ b → (TX1 a).2.1 ≠ (TX1 b).2.1 := by decide +kernel
theorem tyX1_ok : ∀ k, k < 1 → parseFieldDescriptor (TX1 k).2.2.1 = some (tyX1 k) := by decide +kernel
abbrev cX1_init : ByteArray := prog_3_method_1_code
def yX1_init : MethodName := ⟨RX1, "<init>", "()V"⟩
abbrev cX1_below : ByteArray := prog_3_method_2_code
def yX1_below : MethodName := ⟨RX1, "below", "(I)I"⟩
def RX2 : String := "RingCutters$Kept"
def TX2 : u_T := fun k => match k with
  | 0 => ("RingCutters$Kept", "copy", "LRingCutters$Net;", true)
  | _ => ("RingCutters$Kept", "filled", "Z", false)
def tyX2 : Nat → FieldType := fun k => match k with
  | 0 => .object "RingCutters$Net"
  | _ => .boolean
abbrev wsX20 : List Cond := u_ws RX2 TX2 2
theorem nmX2 : ∀ a, a < 2 → ∀ b, b < 2 → a ≠ b → (TX2 a).2.1 ≠ (TX2 b).2.1 := by decide +kernel
theorem tyX2_ok : ∀ k, k < 2 → parseFieldDescriptor (TX2 k).2.2.1 = some (tyX2 k) := by decide +kernel
abbrev cX2_init : ByteArray := prog_4_method_1_code
def yX2_init : MethodName := ⟨RX2, "<init>", "()V"⟩
def RX3 : String := "RingCutters$Net"
def TX3 : u_T := fun k => match k with
  | 0 => ("RingCutters$Net", "weights", "[I", true)
  | 1 => ("RingCutters$Net", "between", "[I", true)
  | 2 => ("RingCutters$Net", "told", "I", false)
  | 3 => ("RingCutters$Net", "there", "I", false)
  | 4 => ("RingCutters$Net", "taken", "I", false)
  | _ => ("RingCutters$Net", "lineCount", "I", false)
def tyX3 : Nat → FieldType := fun k => match k with
  | 0 => .array .int
  | 1 => .array .int
  | 2 => .int
  | 3 => .int
  | 4 => .int
  | _ => .int
abbrev wsX30 : List Cond := u_ws RX3 TX3 6
theorem nmX3 : ∀ a, a < 6 → ∀ b, b < 6 → a ≠ b → (TX3 a).2.1 ≠ (TX3 b).2.1 := by decide +kernel
theorem tyX3_ok : ∀ k, k < 6 → parseFieldDescriptor (TX3 k).2.2.1 = some (tyX3 k) := by decide +kernel
abbrev cX3_init : ByteArray := prog_5_method_1_code
def yX3_init : MethodName := ⟨RX3, "<init>", "()V"⟩
abbrev cX3_empty : ByteArray := prog_5_method_2_code
def yX3_empty : MethodName := ⟨RX3, "empty", "()V"⟩
abbrev cX3_copyFrom : ByteArray := prog_5_method_3_code
def yX3_copyFrom : MethodName := ⟨RX3, "copyFrom", "(LRingCutters$Net;)V"⟩
abbrev cX3_holds : ByteArray := prog_5_method_4_code
def yX3_holds : MethodName := ⟨RX3, "holds", "(II)Z"⟩
abbrev cX3_isThere : ByteArray := prog_5_method_5_code
def yX3_isThere : MethodName := ⟨RX3, "isThere", "(I)Z"⟩
abbrev cX3_areThere : ByteArray := prog_5_method_6_code
def yX3_areThere : MethodName := ⟨RX3, "areThere", "(I)Z"⟩
abbrev cX3_addPoint : ByteArray := prog_5_method_7_code
def yX3_addPoint : MethodName := ⟨RX3, "addPoint", "()V"⟩
abbrev cX3_weightOf : ByteArray := prog_5_method_8_code
def yX3_weightOf : MethodName := ⟨RX3, "weightOf", "(I)I"⟩
abbrev cX3_weightOfSet : ByteArray := prog_5_method_9_code
def yX3_weightOfSet : MethodName := ⟨RX3, "weightOfSet", "(I)I"⟩
abbrev cX3_linesOf : ByteArray := prog_5_method_10_code
def yX3_linesOf : MethodName := ⟨RX3, "linesOf", "(II)I"⟩
abbrev cX3_setLines : ByteArray := prog_5_method_11_code
def yX3_setLines : MethodName := ⟨RX3, "setLines", "(III)V"⟩
abbrev cX3_besides : ByteArray := prog_5_method_12_code
def yX3_besides : MethodName := ⟨RX3, "besides", "(II)I"⟩
abbrev cX3_endsIn : ByteArray := prog_5_method_13_code
def yX3_endsIn : MethodName := ⟨RX3, "endsIn", "(II)I"⟩
abbrev cX3_linesIn : ByteArray := prog_5_method_14_code
def yX3_linesIn : MethodName := ⟨RX3, "linesIn", "(I)I"⟩
abbrev cX3_partsIn : ByteArray := prog_5_method_15_code
def yX3_partsIn : MethodName := ⟨RX3, "partsIn", "(I)I"⟩
abbrev cX3_reachedFrom : ByteArray := prog_5_method_16_code
def yX3_reachedFrom : MethodName := ⟨RX3, "reachedFrom", "(II)I"⟩
abbrev cX3_remove : ByteArray := prog_5_method_17_code
def yX3_remove : MethodName := ⟨RX3, "remove", "(I)Z"⟩
abbrev cX3_addLine : ByteArray := prog_5_method_18_code
def yX3_addLine : MethodName := ⟨RX3, "addLine", "(II)Z"⟩
abbrev cX3_takeLine : ByteArray := prog_5_method_19_code
def yX3_takeLine : MethodName := ⟨RX3, "takeLine", "(II)Z"⟩
abbrev cX3_changeWeight : ByteArray := prog_5_method_20_code
def yX3_changeWeight : MethodName := ⟨RX3, "changeWeight", "(II)Z"⟩
def RX4 : String := "RingCutters$Packing"
def TX4 : u_T := fun k => match k with
  | _ => ("RingCutters$Packing", "most", "[I", true)
def tyX4 : Nat → FieldType := fun k => match k with
  | _ => .array .int
abbrev wsX40 : List Cond := u_ws RX4 TX4 1
theorem nmX4 : ∀ a, a < 1 → ∀ b, b < 1 → a ≠ b → (TX4 a).2.1 ≠ (TX4 b).2.1 := by decide +kernel
theorem tyX4_ok : ∀ k, k < 1 → parseFieldDescriptor (TX4 k).2.2.1 = some (tyX4 k) := by decide +kernel
abbrev cX4_init : ByteArray := prog_6_method_1_code
def yX4_init : MethodName := ⟨RX4, "<init>", "()V"⟩
abbrev cX4_learn : ByteArray := prog_6_method_2_code
def yX4_learn : MethodName := ⟨RX4, "learn", "(ILRingCutters$Rings;)V"⟩
abbrev cX4_mostIn : ByteArray := prog_6_method_3_code
def yX4_mostIn : MethodName := ⟨RX4, "mostIn", "(I)I"⟩
abbrev cX4_mostWithLowest : ByteArray := prog_6_method_4_code
def yX4_mostWithLowest : MethodName := ⟨RX4, "mostWithLowest", "(ILRingCutters$Rings;)I"⟩
abbrev cX4_ringAt : ByteArray := prog_6_method_5_code
def yX4_ringAt : MethodName := ⟨RX4, "ringAt", "(IILRingCutters$Rings;)I"⟩
abbrev cX4_leastOfMost : ByteArray := prog_6_method_6_code
def yX4_leastOfMost : MethodName := ⟨RX4, "leastOfMost", "(ILRingCutters$Rings;)I"⟩
def RX5 : String := "RingCutters$Past"
def TX5 : u_T := fun k => match k with
  | 0 => ("RingCutters$Past", "places", "[LRingCutters$Net;", true)
  | 1 => ("RingCutters$Past", "count", "I", false)
  | _ => ("RingCutters$Past", "latest", "I", false)
def tyX5 : Nat → FieldType := fun k => match k with
  | 0 => .array (.object "RingCutters$Net")
  | 1 => .int
  | _ => .int
abbrev wsX50 : List Cond := u_ws RX5 TX5 3
theorem nmX5 : ∀ a, a < 3 → ∀ b, b < 3 → a ≠ b → (TX5 a).2.1 ≠ (TX5 b).2.1 := by decide +kernel
theorem tyX5_ok : ∀ k, k < 3 → parseFieldDescriptor (TX5 k).2.2.1 = some (tyX5 k) := by decide +kernel
abbrev cX5_init : ByteArray := prog_7_method_1_code
def yX5_init : MethodName := ⟨RX5, "<init>", "()V"⟩
abbrev cX5_forget : ByteArray := prog_7_method_2_code
def yX5_forget : MethodName := ⟨RX5, "forget", "()V"⟩
abbrev cX5_placeAt : ByteArray := prog_7_method_3_code
def yX5_placeAt : MethodName := ⟨RX5, "placeAt", "(I)LRingCutters$Net;"⟩
abbrev cX5_note : ByteArray := prog_7_method_4_code
def yX5_note : MethodName := ⟨RX5, "note", "(LRingCutters$Net;)V"⟩
abbrev cX5_keepNoted : ByteArray := prog_7_method_5_code
def yX5_keepNoted : MethodName := ⟨RX5, "keepNoted", "()V"⟩
abbrev cX5_giveLatest : ByteArray := prog_7_method_6_code
def yX5_giveLatest : MethodName := ⟨RX5, "giveLatest", "(LRingCutters$Net;)Z"⟩
def RX6 : String := "RingCutters$Reader"
def TX6 : u_T := fun k => match k with
  | 0 => ("RingCutters$Reader", "found", "LRingCutters$Net;", true)
  | 1 => ("RingCutters$Reader", "names", "[J", true)
  | 2 => ("RingCutters$Reader", "rows", "I", false)
  | 3 => ("RingCutters$Reader", "place", "I", false)
  | 4 => ("RingCutters$Reader", "expected", "I", false)
  | 5 => ("RingCutters$Reader", "first", "I", false)
  | 6 => ("RingCutters$Reader", "kind", "I", false)
  | 7 => ("RingCutters$Reader", "value", "J", false)
  | _ => ("RingCutters$Reader", "next", "I", false)
def tyX6 : Nat → FieldType := fun k => match k with
  | 0 => .object "RingCutters$Net"
  | 1 => .array .long
  | 2 => .int
  | 3 => .int
  | 4 => .int
  | 5 => .int
  | 6 => .int
  | 7 => .long
  | _ => .int
abbrev wsX60 : List Cond := u_ws RX6 TX6 9
theorem nmX6 : ∀ a, a < 9 → ∀ b, b < 9 → a ≠ b → (TX6 a).2.1 ≠ (TX6 b).2.1 := by decide +kernel
theorem tyX6_ok : ∀ k, k < 9 → parseFieldDescriptor (TX6 k).2.2.1 = some (tyX6 k) := by decide +kernel
abbrev cX6_init : ByteArray := prog_8_method_1_code
def yX6_init : MethodName := ⟨RX6, "<init>", "()V"⟩
abbrev cX6_readAll : ByteArray := prog_8_method_2_code
def yX6_readAll : MethodName := ⟨RX6, "readAll", "(LRingCutters$Tape;)I"⟩
abbrev cX6_readToken : ByteArray := prog_8_method_3_code
def yX6_readToken : MethodName := ⟨RX6, "readToken", "(LRingCutters$Tape;)V"⟩
abbrev cX6_isLetter : ByteArray := prog_8_method_4_code
def yX6_isLetter : MethodName := ⟨RX6, "isLetter", "(I)Z"⟩
abbrev cX6_isDigit : ByteArray := prog_8_method_5_code
def yX6_isDigit : MethodName := ⟨RX6, "isDigit", "(I)Z"⟩
abbrev cX6_takeToken : ByteArray := prog_8_method_6_code
def yX6_takeToken : MethodName := ⟨RX6, "takeToken", "()I"⟩
abbrev cX6_beginRow : ByteArray := prog_8_method_7_code
def yX6_beginRow : MethodName := ⟨RX6, "beginRow", "()I"⟩
abbrev cX6_isName : ByteArray := prog_8_method_8_code
def yX6_isName : MethodName := ⟨RX6, "isName", "()Z"⟩
abbrev cX6_pointNamed : ByteArray := prog_8_method_9_code
def yX6_pointNamed : MethodName := ⟨RX6, "pointNamed", "(J)I"⟩
abbrev cX6_takeName : ByteArray := prog_8_method_10_code
def yX6_takeName : MethodName := ⟨RX6, "takeName", "()I"⟩
abbrev cX6_takeWeight : ByteArray := prog_8_method_11_code
def yX6_takeWeight : MethodName := ⟨RX6, "takeWeight", "()I"⟩
abbrev cX6_takeSign : ByteArray := prog_8_method_12_code
def yX6_takeSign : MethodName := ⟨RX6, "takeSign", "()I"⟩
abbrev cX6_takeFirst : ByteArray := prog_8_method_13_code
def yX6_takeFirst : MethodName := ⟨RX6, "takeFirst", "()I"⟩
abbrev cX6_takeSecond : ByteArray := prog_8_method_14_code
def yX6_takeSecond : MethodName := ⟨RX6, "takeSecond", "()I"⟩
def RX7 : String := "RingCutters$RingCount"
def TX7 : u_T := fun k => match k with
  | _ => ("", "", "", false)
def tyX7 : Nat → FieldType := fun k => match k with
  | _ => .int
abbrev wsX70 : List Cond := u_ws RX7 TX7 0
theorem nmX7 : ∀ a, a < 0 → ∀ b, b < 0 → a ≠ b → (TX7 a).2.1 ≠ (TX7 b).2.1 := by decide +kernel
theorem tyX7_ok : ∀ k, k < 0 → parseFieldDescriptor (TX7 k).2.2.1 = some (tyX7 k) := by decide +kernel
abbrev cX7_of : ByteArray := prog_9_method_2_code
def yX7_of : MethodName := ⟨RX7, "of", "(LRingCutters$Net;)J"⟩
abbrev cX7_waysBack : ByteArray := prog_9_method_3_code
def yX7_waysBack : MethodName := ⟨RX7, "waysBack", "(LRingCutters$Net;IIII)J"⟩
def RX8 : String := "RingCutters$Rings"
def TX8 : u_T := fun k => match k with
  | 0 => ("RingCutters$Rings", "free", "[Z", true)
  | 1 => ("RingCutters$Rings", "beside", "[I", true)
  | 2 => ("RingCutters$Rings", "doubled", "[I", true)
  | 3 => ("RingCutters$Rings", "ringSets", "[I", true)
  | 4 => ("RingCutters$Rings", "starts", "[I", true)
  | _ => ("RingCutters$Rings", "many", "I", false)
def tyX8 : Nat → FieldType := fun k => match k with
  | 0 => .array .boolean
  | 1 => .array .int
  | 2 => .array .int
  | 3 => .array .int
  | 4 => .array .int
  | _ => .int
abbrev wsX80 : List Cond := u_ws RX8 TX8 6
theorem nmX8 : ∀ a, a < 6 → ∀ b, b < 6 → a ≠ b → (TX8 a).2.1 ≠ (TX8 b).2.1 := by decide +kernel
theorem tyX8_ok : ∀ k, k < 6 → parseFieldDescriptor (TX8 k).2.2.1 = some (tyX8 k) := by decide +kernel
abbrev cX8_init : ByteArray := prog_10_method_1_code
def yX8_init : MethodName := ⟨RX8, "<init>", "()V"⟩
abbrev cX8_lowest : ByteArray := prog_10_method_2_code
def yX8_lowest : MethodName := ⟨RX8, "lowest", "(I)I"⟩
abbrev cX8_learn : ByteArray := prog_10_method_3_code
def yX8_learn : MethodName := ⟨RX8, "learn", "(LRingCutters$Net;)V"⟩
abbrev cX8_isFreeByTip : ByteArray := prog_10_method_4_code
def yX8_isFreeByTip : MethodName := ⟨RX8, "isFreeByTip", "(I)Z"⟩
abbrev cX8_learnRings : ByteArray := prog_10_method_5_code
def yX8_learnRings : MethodName := ⟨RX8, "learnRings", "(I)V"⟩
abbrev cX8_isLeastRing : ByteArray := prog_10_method_6_code
def yX8_isLeastRing : MethodName := ⟨RX8, "isLeastRing", "(I)Z"⟩
abbrev cX8_isFree : ByteArray := prog_10_method_7_code
def yX8_isFree : MethodName := ⟨RX8, "isFree", "(I)Z"⟩
abbrev cX8_ringAt : ByteArray := prog_10_method_8_code
def yX8_ringAt : MethodName := ⟨RX8, "ringAt", "(I)I"⟩
abbrev cX8_startOf : ByteArray := prog_10_method_9_code
def yX8_startOf : MethodName := ⟨RX8, "startOf", "(I)I"⟩
abbrev cX8_fewestOf : ByteArray := prog_10_method_10_code
def yX8_fewestOf : MethodName := ⟨RX8, "fewestOf", "(II)I"⟩
abbrev cX8_shortestRing : ByteArray := prog_10_method_11_code
def yX8_shortestRing : MethodName := ⟨RX8, "shortestRing", "()I"⟩
def RX9 : String := "RingCutters$Shrinker"
def TX9 : u_T := fun k => match k with
  | _ => ("", "", "", false)
def tyX9 : Nat → FieldType := fun k => match k with
  | _ => .int
abbrev wsX90 : List Cond := u_ws RX9 TX9 0
theorem nmX9 : ∀ a, a < 0 → ∀ b, b < 0 → a ≠ b → (TX9 a).2.1 ≠ (TX9 b).2.1 := by decide +kernel
theorem tyX9_ok : ∀ k, k < 0 → parseFieldDescriptor (TX9 k).2.2.1 = some (tyX9 k) := by decide +kernel
abbrev cX9_step : ByteArray := prog_11_method_2_code
def yX9_step : MethodName := ⟨RX9, "step", "(LRingCutters$Net;)I"⟩
abbrev cX9_takeLooped : ByteArray := prog_11_method_3_code
def yX9_takeLooped : MethodName := ⟨RX9, "takeLooped", "(LRingCutters$Net;)I"⟩
abbrev cX9_removeTip : ByteArray := prog_11_method_4_code
def yX9_removeTip : MethodName := ⟨RX9, "removeTip", "(LRingCutters$Net;)I"⟩
abbrev cX9_thinLines : ByteArray := prog_11_method_5_code
def yX9_thinLines : MethodName := ⟨RX9, "thinLines", "(LRingCutters$Net;)I"⟩
abbrev cX9_passBy : ByteArray := prog_11_method_6_code
def yX9_passBy : MethodName := ⟨RX9, "passBy", "(LRingCutters$Net;)I"⟩
def RX10 : String := "RingCutters$Tape"
def TX10 : u_T := fun k => match k with
  | 0 => ("RingCutters$Tape", "bytes", "[I", true)
  | _ => ("RingCutters$Tape", "length", "I", false)
def tyX10 : Nat → FieldType := fun k => match k with
  | 0 => .array .int
  | _ => .int
abbrev wsX100 : List Cond := u_ws RX10 TX10 2
theorem nmX10 : ∀ a, a < 2 → ∀ b, b < 2 → a ≠ b → (TX10 a).2.1 ≠ (TX10 b).2.1 := by decide +kernel
theorem tyX10_ok : ∀ k, k < 2 → parseFieldDescriptor (TX10 k).2.2.1 = some (tyX10 k) := by decide +kernel
abbrev cX10_init : ByteArray := prog_12_method_1_code
def yX10_init : MethodName := ⟨RX10, "<init>", "()V"⟩
abbrev cX10_hasRoom : ByteArray := prog_12_method_2_code
def yX10_hasRoom : MethodName := ⟨RX10, "hasRoom", "()Z"⟩
abbrev cX10_append : ByteArray := prog_12_method_3_code
def yX10_append : MethodName := ⟨RX10, "append", "(I)V"⟩
abbrev cX10_byteAt : ByteArray := prog_12_method_4_code
def yX10_byteAt : MethodName := ⟨RX10, "byteAt", "(I)I"⟩
def RX11 : String := "RingCutters"
def TX11 : u_T := fun k => match k with
  | 0 => ("RingCutters", "tape", "LRingCutters$Tape;", true)
  | 1 => ("RingCutters", "reader", "LRingCutters$Reader;", true)
  | 2 => ("RingCutters", "net", "LRingCutters$Net;", true)
  | 3 => ("RingCutters", "past", "LRingCutters$Past;", true)
  | 4 => ("RingCutters", "imageZero", "LRingCutters$Kept;", true)
  | 5 => ("RingCutters", "imageOne", "LRingCutters$Kept;", true)
  | 6 => ("RingCutters", "draws", "LRingCutters$Draws;", true)
  | 7 => ("RingCutters", "rings", "LRingCutters$Rings;", true)
  | 8 => ("RingCutters", "packing", "LRingCutters$Packing;", true)
  | 9 => ("RingCutters", "discount", "LRingCutters$Discount;", true)
  | 10 => ("RingCutters", "faultKind", "I", false)
  | 11 => ("RingCutters", "ringsStale", "Z", false)
  | 12 => ("RingCutters", "packingStale", "Z", false)
  | _ => ("RingCutters", "discountStale", "Z", false)
def tyX11 : Nat → FieldType := fun k => match k with
  | 0 => .object "RingCutters$Tape"
  | 1 => .object "RingCutters$Reader"
  | 2 => .object "RingCutters$Net"
  | 3 => .object "RingCutters$Past"
  | 4 => .object "RingCutters$Kept"
  | 5 => .object "RingCutters$Kept"
  | 6 => .object "RingCutters$Draws"
  | 7 => .object "RingCutters$Rings"
  | 8 => .object "RingCutters$Packing"
  | 9 => .object "RingCutters$Discount"
  | 10 => .int
  | 11 => .boolean
  | 12 => .boolean
  | _ => .boolean
abbrev wsX110 : List Cond := u_ws RX11 TX11 14
theorem nmX11 : ∀ a, a < 14 → ∀ b, b < 14 → a ≠ b → (TX11 a).2.1 ≠ (TX11 b).2.1 := by decide +kernel
theorem tyX11_ok : ∀ k, k < 14 → parseFieldDescriptor (TX11 k).2.2.1 = some (tyX11 k) := by decide +kernel
abbrev cX11_init : ByteArray := prog_1_method_1_code
def yX11_init : MethodName := ⟨RX11, "<init>", "()V"⟩
abbrev cX11_feed : ByteArray := prog_1_method_2_code
def yX11_feed : MethodName := ⟨RX11, "feed", "(IIIII)I"⟩
abbrev cX11_end : ByteArray := prog_1_method_3_code
def yX11_end : MethodName := ⟨RX11, "end", "(I)Z"⟩
abbrev cX11_net : ByteArray := prog_1_method_4_code
def yX11_net : MethodName := ⟨RX11, "net", "()I"⟩
abbrev cX11_fault : ByteArray := prog_1_method_5_code
def yX11_fault : MethodName := ⟨RX11, "fault", "()I"⟩
abbrev cX11_now : ByteArray := prog_1_method_6_code
def yX11_now : MethodName := ⟨RX11, "now", "(I)I"⟩
abbrev cX11_point : ByteArray := prog_1_method_7_code
def yX11_point : MethodName := ⟨RX11, "point", "(II)I"⟩
abbrev cX11_lines : ByteArray := prog_1_method_8_code
def yX11_lines : MethodName := ⟨RX11, "lines", "(II)I"⟩
abbrev cX11_cuts : ByteArray := prog_1_method_9_code
def yX11_cuts : MethodName := ⟨RX11, "cuts", "(I)I"⟩
abbrev cX11_fewest : ByteArray := prog_1_method_10_code
def yX11_fewest : MethodName := ⟨RX11, "fewest", "(I)I"⟩
abbrev cX11_lightest : ByteArray := prog_1_method_11_code
def yX11_lightest : MethodName := ⟨RX11, "lightest", "(I)I"⟩
abbrev cX11_those : ByteArray := prog_1_method_12_code
def yX11_those : MethodName := ⟨RX11, "those", "(I)I"⟩
abbrev cX11_sparing : ByteArray := prog_1_method_13_code
def yX11_sparing : MethodName := ⟨RX11, "sparing", "(I)I"⟩
abbrev cX11_upTo : ByteArray := prog_1_method_14_code
def yX11_upTo : MethodName := ⟨RX11, "upTo", "(I)I"⟩
abbrev cX11_rings : ByteArray := prog_1_method_15_code
def yX11_rings : MethodName := ⟨RX11, "rings", "()J"⟩
abbrev cX11_shortest : ByteArray := prog_1_method_16_code
def yX11_shortest : MethodName := ⟨RX11, "shortest", "()I"⟩
abbrev cX11_packed : ByteArray := prog_1_method_17_code
def yX11_packed : MethodName := ⟨RX11, "packed", "()I"⟩
abbrev cX11_pack : ByteArray := prog_1_method_18_code
def yX11_pack : MethodName := ⟨RX11, "pack", "(I)I"⟩
abbrev cX11_near : ByteArray := prog_1_method_19_code
def yX11_near : MethodName := ⟨RX11, "near", "()I"⟩
abbrev cX11_bound : ByteArray := prog_1_method_20_code
def yX11_bound : MethodName := ⟨RX11, "bound", "(I)J"⟩
abbrev cX11_shrink : ByteArray := prog_1_method_21_code
def yX11_shrink : MethodName := ⟨RX11, "shrink", "()I"⟩
abbrev cX11_shrinkAll : ByteArray := prog_1_method_22_code
def yX11_shrinkAll : MethodName := ⟨RX11, "shrinkAll", "()I"⟩
abbrev cX11_drop : ByteArray := prog_1_method_23_code
def yX11_drop : MethodName := ⟨RX11, "drop", "(I)I"⟩
abbrev cX11_join : ByteArray := prog_1_method_24_code
def yX11_join : MethodName := ⟨RX11, "join", "(II)I"⟩
abbrev cX11_part : ByteArray := prog_1_method_25_code
def yX11_part : MethodName := ⟨RX11, "part", "(II)I"⟩
abbrev cX11_weigh : ByteArray := prog_1_method_26_code
def yX11_weigh : MethodName := ⟨RX11, "weigh", "(II)I"⟩
abbrev cX11_drawn : ByteArray := prog_1_method_27_code
def yX11_drawn : MethodName := ⟨RX11, "drawn", "(II)I"⟩
abbrev cX11_undo : ByteArray := prog_1_method_28_code
def yX11_undo : MethodName := ⟨RX11, "undo", "()I"⟩
abbrev cX11_image : ByteArray := prog_1_method_29_code
def yX11_image : MethodName := ⟨RX11, "image", "(I)Z"⟩
abbrev cX11_restore : ByteArray := prog_1_method_30_code
def yX11_restore : MethodName := ⟨RX11, "restore", "(I)Z"⟩
abbrev cX11_markChanged : ByteArray := prog_1_method_31_code
def yX11_markChanged : MethodName := ⟨RX11, "markChanged", "()V"⟩
abbrev cX11_keepAct : ByteArray := prog_1_method_32_code
def yX11_keepAct : MethodName := ⟨RX11, "keepAct", "()V"⟩
abbrev cX11_keptAt : ByteArray := prog_1_method_33_code
def yX11_keptAt : MethodName := ⟨RX11, "keptAt", "(I)LRingCutters$Kept;"⟩
abbrev cX11_ringsNow : ByteArray := prog_1_method_34_code
def yX11_ringsNow : MethodName := ⟨RX11, "ringsNow", "()LRingCutters$Rings;"⟩
abbrev cX11_packingNow : ByteArray := prog_1_method_35_code
def yX11_packingNow : MethodName := ⟨RX11, "packingNow", "()LRingCutters$Packing;"⟩
abbrev cX11_discountNow : ByteArray := prog_1_method_36_code
def yX11_discountNow : MethodName := ⟨RX11, "discountNow", "()LRingCutters$Discount;"⟩
abbrev cX11_tellSet : ByteArray := prog_1_method_37_code
def yX11_tellSet : MethodName := ⟨RX11, "tellSet", "(II)I"⟩
abbrev cX11_lightestCut : ByteArray := prog_1_method_38_code
def yX11_lightestCut : MethodName := ⟨RX11, "lightestCut", "()I"⟩
abbrev cX11_doDeed : ByteArray := prog_1_method_39_code
def yX11_doDeed : MethodName := ⟨RX11, "doDeed", "()Z"⟩
def RX12 : String := "RingCuttersModel"
def TX12 : u_T := fun k => match k with
  | 0 => ("RingCuttersModel", "thrown", "I", false)
  | 1 => ("RingCuttersModel", "tape", "[I", true)
  | 2 => ("RingCuttersModel", "taped", "I", false)
  | 3 => ("RingCuttersModel", "size", "I", false)
  | 4 => ("RingCuttersModel", "to", "I", false)
  | 5 => ("RingCuttersModel", "from", "I", false)
  | 6 => ("RingCuttersModel", "kind", "I", false)
  | 7 => ("RingCuttersModel", "number", "I", false)
  | 8 => ("RingCuttersModel", "fault", "I", false)
  | 9 => ("RingCuttersModel", "place", "I", false)
  | 10 => ("RingCuttersModel", "word", "J", false)
  | 11 => ("RingCuttersModel", "now", "[I", true)
  | 12 => ("RingCuttersModel", "read", "[I", true)
  | 13 => ("RingCuttersModel", "kept", "[I", true)
  | 14 => ("RingCuttersModel", "snaps", "[I", true)
  | 15 => ("RingCuttersModel", "before", "[I", true)
  | 16 => ("RingCuttersModel", "live", "[I", true)
  | 17 => ("RingCuttersModel", "names", "[J", true)
  | 18 => ("RingCuttersModel", "isKept", "[Z", true)
  | 19 => ("RingCuttersModel", "snapMany", "I", false)
  | 20 => ("RingCuttersModel", "isRing", "[Z", true)
  | 21 => ("RingCuttersModel", "ringMany", "J", false)
  | 22 => ("RingCuttersModel", "apart", "[I", true)
  | 23 => ("RingCuttersModel", "above", "[J", true)
  | 24 => ("RingCuttersModel", "below", "[J", true)
  | 25 => ("RingCuttersModel", "pile", "[I", true)
  | 26 => ("RingCuttersModel", "boundAbove", "J", false)
  | 27 => ("RingCuttersModel", "boundBelow", "J", false)
  | 28 => ("RingCuttersModel", "piled", "I", false)
  | _ => ("RingCuttersModel", "seed", "I", false)
def tyX12 : Nat → FieldType := fun k => match k with
  | 0 => .int
  | 1 => .array .int
  | 2 => .int
  | 3 => .int
  | 4 => .int
  | 5 => .int
  | 6 => .int
  | 7 => .int
  | 8 => .int
  | 9 => .int
  | 10 => .long
  | 11 => .array .int
  | 12 => .array .int
  | 13 => .array .int
  | 14 => .array .int
  | 15 => .array .int
  | 16 => .array .int
  | 17 => .array .long
  | 18 => .array .boolean
  | 19 => .int
  | 20 => .array .boolean
  | 21 => .long
  | 22 => .array .int
  | 23 => .array .long
  | 24 => .array .long
  | 25 => .array .int
  | 26 => .long
  | 27 => .long
  | 28 => .int
  | _ => .int
abbrev wsX120 : List Cond := u_ws RX12 TX12 30
theorem nmX12 : ∀ a, a < 30 → ∀ b, b < 30 → a ≠ b → (TX12 a).2.1 ≠ (TX12 b).2.1 := by decide +kernel
theorem tyX12_ok : ∀ k, k < 30 → parseFieldDescriptor (TX12 k).2.2.1 = some (tyX12 k) := by decide +kernel
abbrev cX12_thrown : ByteArray := prog_14_method_1_code
def yX12_thrown : MethodName := ⟨RX12, "thrown", "()I"⟩
abbrev cX12_refuse : ByteArray := prog_14_method_2_code
def yX12_refuse : MethodName := ⟨RX12, "refuse", "()I"⟩
abbrev cX12_isIn : ByteArray := prog_14_method_3_code
def yX12_isIn : MethodName := ⟨RX12, "isIn", "(III)Z"⟩
abbrev cX12_has : ByteArray := prog_14_method_4_code
def yX12_has : MethodName := ⟨RX12, "has", "(II)Z"⟩
abbrev cX12_bits : ByteArray := prog_14_method_5_code
def yX12_bits : MethodName := ⟨RX12, "bits", "(I)I"⟩
abbrev cX12_least : ByteArray := prog_14_method_6_code
def yX12_least : MethodName := ⟨RX12, "least", "(I)I"⟩
abbrev cX12_lay : ByteArray := prog_14_method_7_code
def yX12_lay : MethodName := ⟨RX12, "lay", "(I)V"⟩
abbrev cX12_feed : ByteArray := prog_14_method_8_code
def yX12_feed : MethodName := ⟨RX12, "feed", "(IIIII)I"⟩
abbrev cX12_end : ByteArray := prog_14_method_9_code
def yX12_end : MethodName := ⟨RX12, "end", "(I)Z"⟩
abbrev cX12_tapeAt : ByteArray := prog_14_method_10_code
def yX12_tapeAt : MethodName := ⟨RX12, "tapeAt", "(I)I"⟩
abbrev cX12_isDigit : ByteArray := prog_14_method_11_code
def yX12_isDigit : MethodName := ⟨RX12, "isDigit", "(I)Z"⟩
abbrev cX12_isLetter : ByteArray := prog_14_method_12_code
def yX12_isLetter : MethodName := ⟨RX12, "isLetter", "(I)Z"⟩
abbrev cX12_next : ByteArray := prog_14_method_13_code
def yX12_next : MethodName := ⟨RX12, "next", "()V"⟩
abbrev cX12_spelt : ByteArray := prog_14_method_14_code
def yX12_spelt : MethodName := ⟨RX12, "spelt", "(IIIII)J"⟩
abbrev cX12_isPointWord : ByteArray := prog_14_method_15_code
def yX12_isPointWord : MethodName := ⟨RX12, "isPointWord", "()Z"⟩
abbrev cX12_isLineWord : ByteArray := prog_14_method_16_code
def yX12_isLineWord : MethodName := ⟨RX12, "isLineWord", "()Z"⟩
abbrev cX12_isName : ByteArray := prog_14_method_17_code
def yX12_isName : MethodName := ⟨RX12, "isName", "()Z"⟩
abbrev cX12_bad : ByteArray := prog_14_method_18_code
def yX12_bad : MethodName := ⟨RX12, "bad", "(I)Z"⟩
abbrev cX12_init : ByteArray := prog_14_method_19_code
def yX12_init : MethodName := ⟨RX12, "<init>", "()V"⟩
abbrev cX12_copy : ByteArray := prog_14_method_20_code
def yX12_copy : MethodName := ⟨RX12, "copy", "([II[II)V"⟩
abbrev cX12_between : ByteArray := prog_14_method_21_code
def yX12_between : MethodName := ⟨RX12, "between", "([III)I"⟩
abbrev cX12_adds : ByteArray := prog_14_method_22_code
def yX12_adds : MethodName := ⟨RX12, "adds", "([IIII)V"⟩
abbrev cX12_ends : ByteArray := prog_14_method_23_code
def yX12_ends : MethodName := ⟨RX12, "ends", "([III)I"⟩
abbrev cX12_allEnds : ByteArray := prog_14_method_24_code
def yX12_allEnds : MethodName := ⟨RX12, "allEnds", "([II)I"⟩
abbrev cX12_lineMany : ByteArray := prog_14_method_25_code
def yX12_lineMany : MethodName := ⟨RX12, "lineMany", "([II)I"⟩
abbrev cX12_named : ByteArray := prog_14_method_26_code
def yX12_named : MethodName := ⟨RX12, "named", "()I"⟩
abbrev cX12_readPoint : ByteArray := prog_14_method_27_code
def yX12_readPoint : MethodName := ⟨RX12, "readPoint", "()Z"⟩
abbrev cX12_readLine : ByteArray := prog_14_method_28_code
def yX12_readLine : MethodName := ⟨RX12, "readLine", "()Z"⟩
abbrev cX12_readEnd : ByteArray := prog_14_method_29_code
def yX12_readEnd : MethodName := ⟨RX12, "readEnd", "()Z"⟩
abbrev cX12_net : ByteArray := prog_14_method_30_code
def yX12_net : MethodName := ⟨RX12, "net", "()I"⟩
abbrev cX12_fault : ByteArray := prog_14_method_31_code
def yX12_fault : MethodName := ⟨RX12, "fault", "()I"⟩
abbrev cX12_there : ByteArray := prog_14_method_32_code
def yX12_there : MethodName := ⟨RX12, "there", "()I"⟩
abbrev cX12_isThere : ByteArray := prog_14_method_33_code
def yX12_isThere : MethodName := ⟨RX12, "isThere", "(I)Z"⟩
abbrev cX12_areThere : ByteArray := prog_14_method_34_code
def yX12_areThere : MethodName := ⟨RX12, "areThere", "(I)Z"⟩
abbrev cX12_weightOf : ByteArray := prog_14_method_35_code
def yX12_weightOf : MethodName := ⟨RX12, "weightOf", "(I)I"⟩
abbrev cX12_partOf : ByteArray := prog_14_method_36_code
def yX12_partOf : MethodName := ⟨RX12, "partOf", "(II)I"⟩
abbrev cX12_parts : ByteArray := prog_14_method_37_code
def yX12_parts : MethodName := ⟨RX12, "parts", "(I)I"⟩
abbrev cX12_now : ByteArray := prog_14_method_38_code
def yX12_now : MethodName := ⟨RX12, "now", "(I)I"⟩
abbrev cX12_point : ByteArray := prog_14_method_39_code
def yX12_point : MethodName := ⟨RX12, "point", "(II)I"⟩
abbrev cX12_lines : ByteArray := prog_14_method_40_code
def yX12_lines : MethodName := ⟨RX12, "lines", "(II)I"⟩
abbrev cX12_isOpen : ByteArray := prog_14_method_41_code
def yX12_isOpen : MethodName := ⟨RX12, "isOpen", "(I)Z"⟩
abbrev cX12_isCut : ByteArray := prog_14_method_42_code
def yX12_isCut : MethodName := ⟨RX12, "isCut", "(II)Z"⟩
abbrev cX12_cuts : ByteArray := prog_14_method_43_code
def yX12_cuts : MethodName := ⟨RX12, "cuts", "(I)I"⟩
abbrev cX12_bestCut : ByteArray := prog_14_method_44_code
def yX12_bestCut : MethodName := ⟨RX12, "bestCut", "(IIZ)I"⟩
abbrev cX12_tellsCut : ByteArray := prog_14_method_45_code
def yX12_tellsCut : MethodName := ⟨RX12, "tellsCut", "(II)I"⟩
abbrev cX12_fewest : ByteArray := prog_14_method_46_code
def yX12_fewest : MethodName := ⟨RX12, "fewest", "(I)I"⟩
abbrev cX12_lightest : ByteArray := prog_14_method_47_code
def yX12_lightest : MethodName := ⟨RX12, "lightest", "(I)I"⟩
abbrev cX12_those : ByteArray := prog_14_method_48_code
def yX12_those : MethodName := ⟨RX12, "those", "(I)I"⟩
abbrev cX12_sparing : ByteArray := prog_14_method_49_code
def yX12_sparing : MethodName := ⟨RX12, "sparing", "(I)I"⟩
abbrev cX12_upTo : ByteArray := prog_14_method_50_code
def yX12_upTo : MethodName := ⟨RX12, "upTo", "(I)I"⟩
abbrev cX12_goes : ByteArray := prog_14_method_51_code
def yX12_goes : MethodName := ⟨RX12, "goes", "(IIIJ)V"⟩
abbrev cX12_laysRings : ByteArray := prog_14_method_52_code
def yX12_laysRings : MethodName := ⟨RX12, "laysRings", "()V"⟩
abbrev cX12_rings : ByteArray := prog_14_method_53_code
def yX12_rings : MethodName := ⟨RX12, "rings", "()J"⟩
abbrev cX12_shortest : ByteArray := prog_14_method_54_code
def yX12_shortest : MethodName := ⟨RX12, "shortest", "()I"⟩
abbrev cX12_laysApart : ByteArray := prog_14_method_55_code
def yX12_laysApart : MethodName := ⟨RX12, "laysApart", "()V"⟩
abbrev cX12_packed : ByteArray := prog_14_method_56_code
def yX12_packed : MethodName := ⟨RX12, "packed", "()I"⟩
abbrev cX12_pack : ByteArray := prog_14_method_57_code
def yX12_pack : MethodName := ⟨RX12, "pack", "(I)I"⟩
abbrev cX12_divisor : ByteArray := prog_14_method_58_code
def yX12_divisor : MethodName := ⟨RX12, "divisor", "(JJ)J"⟩
abbrev cX12_takes : ByteArray := prog_14_method_59_code
def yX12_takes : MethodName := ⟨RX12, "takes", "(IJJI)V"⟩
abbrev cX12_bounds : ByteArray := prog_14_method_60_code
def yX12_bounds : MethodName := ⟨RX12, "bounds", "(JJI)V"⟩
abbrev cX12_trimmed : ByteArray := prog_14_method_61_code
def yX12_trimmed : MethodName := ⟨RX12, "trimmed", "(I)I"⟩
abbrev cX12_thinRing : ByteArray := prog_14_method_62_code
def yX12_thinRing : MethodName := ⟨RX12, "thinRing", "(I)I"⟩
abbrev cX12_sinks : ByteArray := prog_14_method_63_code
def yX12_sinks : MethodName := ⟨RX12, "sinks", "(I)V"⟩
abbrev cX12_laysNear : ByteArray := prog_14_method_64_code
def yX12_laysNear : MethodName := ⟨RX12, "laysNear", "()I"⟩
abbrev cX12_near : ByteArray := prog_14_method_65_code
def yX12_near : MethodName := ⟨RX12, "near", "()I"⟩
abbrev cX12_bound : ByteArray := prog_14_method_66_code
def yX12_bound : MethodName := ⟨RX12, "bound", "(I)J"⟩
abbrev cX12_snap : ByteArray := prog_14_method_67_code
def yX12_snap : MethodName := ⟨RX12, "snap", "()V"⟩
abbrev cX12_stay : ByteArray := prog_14_method_68_code
def yX12_stay : MethodName := ⟨RX12, "stay", "()V"⟩
abbrev cX12_leaves : ByteArray := prog_14_method_69_code
def yX12_leaves : MethodName := ⟨RX12, "leaves", "([II)V"⟩
abbrev cX12_first : ByteArray := prog_14_method_70_code
def yX12_first : MethodName := ⟨RX12, "first", "(I)I"⟩
abbrev cX12_mayStep : ByteArray := prog_14_method_71_code
def yX12_mayStep : MethodName := ⟨RX12, "mayStep", "(II)Z"⟩
abbrev cX12_thick : ByteArray := prog_14_method_72_code
def yX12_thick : MethodName := ⟨RX12, "thick", "(I)I"⟩
abbrev cX12_one : ByteArray := prog_14_method_73_code
def yX12_one : MethodName := ⟨RX12, "one", "(I)I"⟩
abbrev cX12_other : ByteArray := prog_14_method_74_code
def yX12_other : MethodName := ⟨RX12, "other", "(I)I"⟩
abbrev cX12_steps : ByteArray := prog_14_method_75_code
def yX12_steps : MethodName := ⟨RX12, "steps", "()I"⟩
abbrev cX12_shrink : ByteArray := prog_14_method_76_code
def yX12_shrink : MethodName := ⟨RX12, "shrink", "()I"⟩
abbrev cX12_shrinkAll : ByteArray := prog_14_method_77_code
def yX12_shrinkAll : MethodName := ⟨RX12, "shrinkAll", "()I"⟩
abbrev cX12_drop : ByteArray := prog_14_method_78_code
def yX12_drop : MethodName := ⟨RX12, "drop", "(I)I"⟩
abbrev cX12_mayJoin : ByteArray := prog_14_method_79_code
def yX12_mayJoin : MethodName := ⟨RX12, "mayJoin", "(II)Z"⟩
abbrev cX12_join : ByteArray := prog_14_method_80_code
def yX12_join : MethodName := ⟨RX12, "join", "(II)I"⟩
abbrev cX12_part : ByteArray := prog_14_method_81_code
def yX12_part : MethodName := ⟨RX12, "part", "(II)I"⟩
abbrev cX12_weigh : ByteArray := prog_14_method_82_code
def yX12_weigh : MethodName := ⟨RX12, "weigh", "(II)I"⟩
abbrev cX12_draw : ByteArray := prog_14_method_83_code
def yX12_draw : MethodName := ⟨RX12, "draw", "(I)I"⟩
abbrev cX12_does : ByteArray := prog_14_method_84_code
def yX12_does : MethodName := ⟨RX12, "does", "()Z"⟩
abbrev cX12_drawn : ByteArray := prog_14_method_85_code
def yX12_drawn : MethodName := ⟨RX12, "drawn", "(II)I"⟩
abbrev cX12_undo : ByteArray := prog_14_method_86_code
def yX12_undo : MethodName := ⟨RX12, "undo", "()I"⟩
abbrev cX12_image : ByteArray := prog_14_method_87_code
def yX12_image : MethodName := ⟨RX12, "image", "(I)Z"⟩
abbrev cX12_restore : ByteArray := prog_14_method_88_code
def yX12_restore : MethodName := ⟨RX12, "restore", "(I)Z"⟩
def RJx145de : String := "java/io/Serializable"
def TJx145de : u_T := fun k => match k with
  | _ => ("", "", "", false)
def tyJx145de : Nat → FieldType := fun k => match k with
  | _ => .int
abbrev wsJx145de0 : List Cond := u_ws RJx145de TJx145de 0
theorem nmJx145de : ∀ a, a < 0 → ∀ b, b < 0 → a ≠ b → (TJx145de a).2.1 ≠ (TJx145de b).2.1 := by decide +kernel
theorem tyJx145de_ok : ∀ k, k < 0 → parseFieldDescriptor (TJx145de k).2.2.1 = some (tyJx145de k) := by decide +kernel
def RJ6 : String := "java/lang/Integer"
def TJ6 : u_T := fun k => match k with
  | _ => ("", "", "", false)
def tyJ6 : Nat → FieldType := fun k => match k with
  | _ => .int
abbrev wsJ60 : List Cond := u_ws RJ6 TJ6 0
theorem nmJ6 : ∀ a, a < 0 → ∀ b, b < 0 → a ≠ b → (TJ6 a).2.1 ≠ (TJ6 b).2.1 := by decide +kernel
theorem tyJ6_ok : ∀ k, k < 0 → parseFieldDescriptor (TJ6 k).2.2.1 = some (tyJ6 k) := by decide +kernel
abbrev cJ6_bitCount_0f7a4 : ByteArray := prog_17_method_49_code
def yJ6_bitCount_0f7a4 : MethodName := ⟨RJ6, "bitCount", "(I)I"⟩
def RJ9 : String := "java/lang/Math"
def TJ9 : u_T := fun k => match k with
  | _ => ("", "", "", false)
def tyJ9 : Nat → FieldType := fun k => match k with
  | _ => .int
abbrev wsJ90 : List Cond := u_ws RJ9 TJ9 0
theorem nmJ9 : ∀ a, a < 0 → ∀ b, b < 0 → a ≠ b → (TJ9 a).2.1 ≠ (TJ9 b).2.1 := by decide +kernel
theorem tyJ9_ok : ∀ k, k < 0 → parseFieldDescriptor (TJ9 k).2.2.1 = some (tyJ9 k) := by decide +kernel
abbrev cJ9_max_7cf53 : ByteArray := prog_18_method_65_code
def yJ9_max_7cf53 : MethodName := ⟨RJ9, "max", "(II)I"⟩
abbrev cJ9_min_7cf53 : ByteArray := prog_18_method_69_code
def yJ9_min_7cf53 : MethodName := ⟨RJ9, "min", "(II)I"⟩
abbrev cJ9_min_f86c9 : ByteArray := prog_18_method_70_code
def yJ9_min_f86c9 : MethodName := ⟨RJ9, "min", "(JJ)J"⟩
def RJ0 : String := "java/lang/String"
def TJ0 : u_T := fun k => match k with
  | _ => ("", "", "", false)
def tyJ0 : Nat → FieldType := fun k => match k with
  | _ => .int
abbrev wsJ00 : List Cond := u_ws RJ0 TJ0 0
theorem nmJ0 : ∀ a, a < 0 → ∀ b, b < 0 → a ≠ b → (TJ0 a).2.1 ≠ (TJ0 b).2.1 := by decide +kernel
theorem tyJ0_ok : ∀ k, k < 0 → parseFieldDescriptor (TJ0 k).2.2.1 = some (tyJ0 k) := by decide +kernel
def RL : String := "RingCuttersLaw"
abbrev cL_point : ByteArray := method_3_code
def yL_point : MethodName := ⟨RL, "point", "(LRingCutters;II[J)I"⟩
abbrev cL_bound : ByteArray := method_4_code
def yL_bound : MethodName := ⟨RL, "bound", "(LRingCutters;I[J)I"⟩
abbrev cL_law : ByteArray := code
def yL_law : MethodName := ⟨RL, "law", "([I)Z"⟩
set_option maxRecDepth 20000 in
abbrev vwCl : List vw_C := [(RX0, TX0, 7), (RX1, TX1, 1), (RX2, TX2, 2), (RX3, TX3, 6), (RX4, TX4, 1), (RX5, TX5, 3), (RX6, TX6, 9), (RX8, TX8, 6), (RX10, TX10, 2), (RX11, TX11, 14), (RX12, TX12, 30)]
end
section
/-! BASE: the memory (ints, longs, by cell and place), the world of the fixed cells, one row a kind of instruction -/
abbrev GM : Type := (Nat → Nat → Int32) × (Nat → Nat → Int64)
abbrev GX : Type := va_G × Nat × ClassId × ClassId × ClassId × ClassId
def wI (σ : GM) (n k : Nat) (v : Int32) : GM := (fun j i => if j = n ∧ i = k then v else σ.1 j i, σ.2)
def wL (σ : GM) (n k : Nat) (v : Int64) : GM := (σ.1, fun j i => if j = n ∧ i = k then v else σ.2 j i)
def ob {α β : Type} (x : Option α) (k : α → Option β) : Option β := match x with
  | none => none
  | some a => k a
def ob2 {α β γ : Type} (x : Option (α × β)) (k : α → β → Option γ) : Option γ := match x with
  | none => none
  | some a => k a.1 a.2
def nm {α β : Type} (x : α) (k : α → β) : β := k x
def bnd {β : Type} (i : Int32) (z : Nat) (k : Option β) : Option β := if i < 0 ∨ z ≤ i.toNatClampNeg then none else k
def nz {β : Type} (i : Int32) (k : Option β) : Option β := if i = 0 then none else k
def nzl {β : Type} (i : Int64) (k : Option β) : Option β := if i = 0 then none else k
theorem ob_some {α β : Type} {x : Option α} {k : α → Option β} {r : β} (h : ob x k = some r) : ∃ a, x = some a ∧ k a = some r := by
  cases x with
  | none => cases h
  | some a => exact ⟨a, rfl, h⟩
theorem ob2_some {α β γ : Type} {x : Option (α × β)} {k : α → β → Option γ} {r : γ} (h : ob2 x k = some r) : ∃ a b, x = some (a, b) ∧ k a b = some r := by
  cases x with
  | none => cases h
  | some a => exact ⟨a.1, a.2, rfl, h⟩
theorem nm_some {α β : Type} {x : α} {k : α → β} {r : β} (h : nm x k = r) : ∃ v, v = x ∧ k v = r := ⟨x, rfl, h⟩
theorem bnd_some {β : Type} {i : Int32} {z : Nat} {k : Option β} {r : β} (h : bnd i z k = some r) : ¬ (i < 0 ∨ z ≤ i.toNatClampNeg) ∧ k = some r := by
  unfold bnd at h
  by_cases c : i < 0 ∨ z ≤ i.toNatClampNeg
  · rw [if_pos c] at h; cases h
  · rw [if_neg c] at h; exact ⟨c, h⟩
theorem nz_some {β : Type} {i : Int32} {k : Option β} {r : β} (h : nz i k = some r) : ¬ i = 0 ∧ k = some r := by
  unfold nz at h
  by_cases c : i = 0
  · rw [if_pos c] at h; cases h
  · rw [if_neg c] at h; exact ⟨c, h⟩
theorem nzl_some {β : Type} {i : Int64} {k : Option β} {r : β} (h : nzl i k = some r) : ¬ i = 0 ∧ k = some r := by
  unfold nzl at h
  by_cases c : i = 0
  · rw [if_pos c] at h; cases h
  · rw [if_neg c] at h; exact ⟨c, h⟩
theorem nm_at {α β : Type} {x y : α} {k : α → β} {r : β} (e : y = x) (h : nm x k = r) : k y = r := by subst e; exact h
theorem ite_pos {β : Type} {c : Prop} [Decidable c] {a b r : β} (hc : c) (h : (if c then a else b) = r) : a = r := by rw [if_pos hc] at h; exact h
theorem ite_neg {β : Type} {c : Prop} [Decidable c] {a b r : β} (hc : ¬ c) (h : (if c then a else b) = r) : b = r := by rw [if_neg hc] at h; exact h
theorem qm_none {α β : Type} {a : β} {k : α → β} {r : β} (h : (match (none : Option α) with | none => a | some v => k v) = r) : a = r := h
theorem qm_some {α β : Type} {v : α} {a : β} {k : α → β} {r : β} (h : (match some v with | none => a | some v => k v) = r) : k v = r := h
-- the cells, in the order in which they are made: kind (0 to 10: objects by vwCl; 11 ints, 12 longs, 13 booleans, 14 nets), length
def shT : List (Nat × Nat) := [(9, 0), (8, 0), (11, 640), (6, 0), (3, 0), (11, 12), (11, 144), (12, 12), (3, 0), (11, 12), (11, 144), (5, 0), (14, 9), (3, 0), (11, 12), (11, 144), (3, 0), (11, 12), (11, 144), (3, 0), (11, 12), (11, 144), (3, 0), (11, 12), (11, 144), (3, 0), (11, 12), (11, 144), (3, 0), (11, 12), (11, 144), (3, 0), (11, 12), (11, 144), (3, 0), (11, 12), (11, 144), (3, 0), (11, 12), (11, 144), (2, 0), (3, 0), (11, 12), (11, 144), (2, 0), (3, 0), (11, 12), (11, 144), (1, 0), (7, 0), (13, 4096), (11, 12), (11, 12), (11, 924), (11, 13), (4, 0), (11, 4096), (0, 0), (12, 12), (11, 12), (10, 0), (11, 640), (11, 159), (11, 159), (11, 318), (11, 1272), (11, 159), (11, 159), (12, 12), (13, 2), (13, 4096), (11, 4096), (12, 12), (12, 12), (11, 12), (12, 1)]
def sh (n : Nat) : Nat × Nat := shT.getD n (99, 0)
def chkS {β : Type} (v : Nat) (q : Nat × Nat) (k : Option β) : Option β := if sh v = q then k else none
theorem chkS_some {β : Type} {v : Nat} {q : Nat × Nat} {k : Option β} {r : β} (h : chkS v q k = some r) : sh v = q ∧ k = some r := by
  unfold chkS at h
  by_cases c : sh v = q
  · rw [if_pos c] at h; exact ⟨c, h⟩
  · rw [if_neg c] at h; cases h
theorem shT_len : shT.length = 76 := by decide +kernel
theorem sh_lt {n : Nat} (h : (sh n).1 < 99) : n < 76 := by
  by_cases c : n < 76
  · exact c
  · have h1 : sh n = (99, 0) := by
      unfold sh
      rw [List.getD_eq_getElem?_getD, List.getElem?_eq_none (by rw [shT_len]; omega)]
      rfl
    rw [h1] at h
    exact absurd h (by decide)
/-- what an object holds: its fields in the order of the slots -/
def gfs (b n : Nat) (r : Nat → Int32) (r2 : Nat → Int64) : Nat → List Value
  | 0 => [.ref (b + (n + 1)), .ref (b + (n + 2)), .int (r 2), .int (r 3), .int (r 4), .long (r2 5), .long (r2 6)]
  | 1 => [.int (r 0)]
  | 2 => [.ref (b + (n + 1)), .int (r 1)]
  | 3 => [.ref (b + (n + 1)), .ref (b + (n + 2)), .int (r 2), .int (r 3), .int (r 4), .int (r 5)]
  | 4 => [.ref (b + (n + 1))]
  | 5 => [.ref (b + (n + 1)), .int (r 1), .int (r 2)]
  | 6 => [.ref (b + (n + 1)), .ref (b + (n + 4)), .int (r 2), .int (r 3), .int (r 4), .int (r 5), .int (r 6), .long (r2 7), .int (r 8)]
  | 7 => [.ref (b + (n + 1)), .ref (b + (n + 2)), .ref (b + (n + 3)), .ref (b + (n + 4)), .ref (b + (n + 5)), .int (r 5)]
  | 8 => [.ref (b + (n + 1)), .int (r 1)]
  | 9 => [.ref (b + (n + 1)), .ref (b + (n + 3)), .ref (b + (n + 8)), .ref (b + (n + 11)), .ref (b + (n + 40)), .ref (b + (n + 44)), .ref (b + (n + 48)), .ref (b + (n + 49)), .ref (b + (n + 55)), .ref (b + (n + 57)), .int (r 10), .int (r 11), .int (r 12), .int (r 13)]
  | 10 => [.int (r 0), .ref (b + (n + 1)), .int (r 2), .int (r 3), .int (r 4), .int (r 5), .int (r 6), .int (r 7), .int (r 8), .int (r 9), .long (r2 10), .ref (b + (n + 2)), .ref (b + (n + 3)), .ref (b + (n + 4)), .ref (b + (n + 5)), .ref (b + (n + 6)), .ref (b + (n + 7)), .ref (b + (n + 8)), .ref (b + (n + 9)), .int (r 19), .ref (b + (n + 10)), .long (r2 21), .ref (b + (n + 11)), .ref (b + (n + 12)), .ref (b + (n + 13)), .ref (b + (n + 14)), .long (r2 26), .long (r2 27), .int (r 28), .int (r 29)]
  | _ => []
def gcell (X : GX) (n : Nat) (r : Nat → Int32) (r2 : Nat → Int64) : va_E :=
  if (sh n).1 = 11 then .inl (X.2.2.1, (sh n).2, .inl r)
  else if (sh n).1 = 12 then .inl (X.2.2.2.1, (sh n).2, .inr (.inl r2))
  else if (sh n).1 = 13 then .inl (X.2.2.2.2.1, (sh n).2, .inl r)
  else if (sh n).1 = 14 then .inl (X.2.2.2.2.2, (sh n).2, .inr (.inr (.inr (.inr (fun i => some (X.2.1 + (13 + 3 * i)))))))
  else .inr ((sh n).1, gfs X.2.1 n r r2 (sh n).1)
def wd (X : GX) (σ : GM) : va_W := (List.range 76).map (fun n => (X.2.1 + n, gcell X n (σ.1 n) (σ.2 n)))
theorem wd_at (X : GX) (σ : GM) {n : Nat} (h : n < 76) : (wd X σ)[n]? = some (X.2.1 + n, gcell X n (σ.1 n) (σ.2 n)) := by
  unfold wd
  rw [List.getElem?_map, List.getElem?_range h]
  rfl
theorem wd_len (X : GX) (σ : GM) : (wd X σ).length = 76 := by simp [wd]
theorem wd_D (X : GX) (σ : GM) : va_D (fun q : Nat => X.2.1 ≤ q) (wd X σ) := by
  have key : ∀ (k : Nat) (q : Nat × va_E), (wd X σ)[k]? = some q → q.1 = X.2.1 + k := by
    intro k q h
    have hk : k < 76 := by rw [← wd_len X σ]; exact (List.getElem?_eq_some_iff.mp h).1
    rw [wd_at X σ hk] at h
    cases h
    rfl
  refine ⟨fun i j p q hi hj e => ?_, fun k q hk => ?_⟩
  · have h1 := key i p hi
    have h2 := key j q hj
    omega
  · have h1 := key k q hk
    show X.2.1 ≤ q.1
    omega
theorem wd_set (X : GX) (σ σ' : GM) {n : Nat} {e : va_E} (hn : n < 76) (he : gcell X n (σ'.1 n) (σ'.2 n) = e) (ho : ∀ j, j ≠ n → σ'.1 j = σ.1 j ∧ σ'.2 j = σ.2 j) : (wd X σ).set n (X.2.1 + n, e) = wd X σ' := by
  apply List.ext_getElem?
  intro k
  by_cases hk : k = n
  · subst hk
    rw [List.getElem?_set_self (by rw [wd_len]; exact hn), wd_at X σ' hn, he]
  · rw [List.getElem?_set_ne (Ne.symm hk)]
    by_cases h7 : k < 76
    · rw [wd_at X σ h7, wd_at X σ' h7, (ho k hk).1, (ho k hk).2]
    · rw [List.getElem?_eq_none (by rw [wd_len]; omega), List.getElem?_eq_none (by rw [wd_len]; omega)]
abbrev tysX (X : GX) : List (ClassId × FieldType) := [(X.2.2.1, .int), (X.2.2.2.1, .long), (X.2.2.2.2.1, .boolean), (X.2.2.2.2.2, .object "RingCutters$Net")]
abbrev gK (X : GX) (s : State) : Prop := va_K X.1 vwCl (tysX X) s
abbrev gA (X : GX) : Nat → Prop := fun q => X.2.1 ≤ q
/-- the world holds the memory -/
abbrev gP (X : GX) (σ : GM) (H : Heap) : Prop := va_P X.1 vwCl (wd X σ) H
abbrev gI (X : GX) (σ : GM) (s : State) (H : Heap) (locs : List Loc) : Prop := gP X σ H ∧ va_S (gA X) s.heap H locs
def GW : List Cond := lw_tbl.filter goodWord
theorem GW_in {w : Cond} (h : w ∈ GW) : w ∈ lw_tbl := (List.mem_filter.mp h).1
/-- a method's fixed part -/
abbrev gC (X : GX) (p : Program) (m : MethodId) (meth : Method) (c : Code) (cc : ByteArray) (nL : Nat) (s : State) (args : Array Value) (own : String) (rt : Option FieldType) : Prop :=
  CallFix p m c cc nL s args GW own ∧ gK X s ∧ meth.sig.returnType = rt ∧ meth.locks = false
abbrev gPc (X : GX) (σ : GM) (av : List Value) : Array Value → State → Prop := va_Pc av (fun U => gP X σ U.heap ∧ gK X U)
abbrev gB (X : GX) (u : GM) (t : State) : Prop := gP X u t.heap ∧ gK X t
abbrev gQi (X : GX) (σ' : GM) (x : Int32) : Array Value → State → Outcome → State → Prop := va_Qi (fun (r : Int32) (u : GM) => r = x ∧ u = σ') (gB X) (gA X)
abbrev gQl (X : GX) (σ' : GM) (x : Int64) : Array Value → State → Outcome → State → Prop := va_Ql (fun (r : Int64) (u : GM) => r = x ∧ u = σ') (gB X) (gA X)
abbrev gQv (X : GX) (σ' : GM) : Array Value → State → Outcome → State → Prop := va_Qv (fun (u : GM) => u = σ') (gB X) (gA X)
abbrev gQq (X : GX) (σ' : GM) (x : Option Nat) : Array Value → State → Outcome → State → Prop := va_Qq (fun (r : Option Nat) (u : GM) => r = x.map (fun k => X.2.1 + k) ∧ u = σ') (gB X) (gA X)
abbrev gMet (l : Launch) (y : MethodName) (cc : ByteArray) (nL : Nat) (rt : Option FieldType) (rm : Room) (X : GX) (σ : GM) (av : List Value) (Qc : Array Value → State → Outcome → State → Prop) : Prop :=
  Met l y (Cond.code y cc nL rt :: GW) rm (gPc X σ av) Qc 0 0 (gA X)
theorem gPc_blind (X : GX) (σ : GM) (av : List Value) : FrameBlind (gPc X σ av) := fun a U g mk q => by
  obtain ⟨q1, q2, q3⟩ := q
  exact ⟨q1, q2, va_K.moved (u := U) (U := U.calling g mk a) (Vm.Alike.refl U.vm) q3⟩
/-- what the tables say of a callee -/
abbrev mfV (C : String) (y : MethodName) (cc : ByteArray) (nL : Nat) (rt : Option FieldType) (n : Nat) : Prop :=
  (Cond.code y cc nL rt ∈ GW ∧ Cond.instanceMethod y ∈ GW ∧ Cond.selects C y y ∈ GW ∧ Cond.initialized y.cls ∈ GW) ∧ y.cls = C ∧ y.cls ≠ "java/lang/invoke/MethodHandle" ∧ y.cls ≠ "java/lang/invoke/VarHandle" ∧ (parseMethodDescriptor y.desc).map (fun d => d.parameters.length) = some n
abbrev mfS (y : MethodName) (cc : ByteArray) (nL : Nat) (rt : Option FieldType) (n : Nat) : Prop :=
  (Cond.code y cc nL rt ∈ GW ∧ Cond.static y ∈ GW ∧ Cond.initialized y.cls ∈ GW) ∧ y.cls ≠ "java/lang/invoke/MethodHandle" ∧ y.cls ≠ "java/lang/invoke/VarHandle" ∧ (parseMethodDescriptor y.desc).map (fun d => d.parameters.length) = some n
theorem good_GW {w : Cond} (h : w ∈ GW) : w ∈ GW ∧ ((w.onTables && w.keeps) = true ∨ ∃ ty, w = .arrayClass ty) := ⟨h, good_of_word (List.mem_filter.mp h).2⟩
theorem good_codeGW {y : MethodName} {cc : ByteArray} {nL : Nat} {rt : Option FieldType} (hc : Cond.code y cc nL rt ∈ GW) : GoodIn GW (Cond.code y cc nL rt :: GW) := fun w h => (List.mem_cons.mp h).elim (fun e => by rw [e]; exact good_GW hc) good_GW
section GROWS
variable {p : Program} {l : Launch} {e : Env} {R : Room} {s : State} {m : MethodId} {args : Array Value} {below : List Frame} {meth : Method} {c : Code} {H : Heap} {locs : List Loc} {cells slots : Nat} {Q : State → Prop}
variable {cc : ByteArray} {pc nL : Nat} {ls : Array Slot} {rest : List Value} {X : GX} {σ : GM} {own : String} {rt : Option FieldType}
theorem g_cwV {C : String} {y : MethodName} {bytes : ByteArray} {maxL n index : Nat} {ret : Option FieldType} {rm : Room} (Γ : gC X p m meth c cc nL s args own rt) (hm : mfV C y bytes maxL ret n) (hl : Cond.methodLink own index y ∈ GW) (hc0 : rm.cells = 0) (hs0 : rm.slots = 0) (hR : rm.frames + 1 ≤ R.frames ∧ 8 + (maxL + 11) + rm.locals ≤ R.locals) :
    CallW R s args own C index y bytes maxL ret (Cond.code y bytes maxL ret :: GW) rm 0 0 n := by
  obtain ⟨⟨h1, h2, h3, h4⟩, h5, h6⟩ := hm
  have hts := Γ.1.2.2.2.2
  exact ⟨callB_of n hts (good_codeGW h1) rfl hc0 hs0 (hts _ h4) (hts _ hl) h6 hR, hts _ h2, hts _ h3⟩
theorem g_cwS {y : MethodName} {bytes : ByteArray} {maxL n index : Nat} {ret : Option FieldType} {rm : Room} (Γ : gC X p m meth c cc nL s args own rt) (hm : mfS y bytes maxL ret n) (hl : Cond.methodLink own index y ∈ GW) (hc0 : rm.cells = 0) (hs0 : rm.slots = 0) (hR : rm.frames + 1 ≤ R.frames ∧ 8 + (maxL + 11) + rm.locals ≤ R.locals) :
    CallB R s args own index y bytes maxL ret (Cond.code y bytes maxL ret :: GW) rm 0 0 n ∧ (Cond.static y).before args s = true := by
  obtain ⟨⟨h1, h2, h4⟩, h6⟩ := hm
  have hts := Γ.1.2.2.2.2
  exact ⟨callB_of n hts (good_codeGW h1) rfl hc0 hs0 (hts _ h4) (hts _ hl) h6 hR, hts _ h2⟩
/-- the receiver is there -/
theorem g_recv (hK : gK X s) (hP : gP X σ H) {n ci : Nat} {fs : List Value} {q : vw_C} (hn : n < 76) (hcell : gcell X n (σ.1 n) (σ.2 n) = .inr (ci, fs)) (hc : vwCl[ci]? = some q) : ∃ cell : Cell, H[X.2.1 + n]? = some cell ∧ cell.vm.isStatics = false ∧ s.vm.findClass q.1 = some cell.cls :=
  va_recv hK hP (q0 := n) hc (by rw [wd_at X σ hn, hcell])
/-- a virtual call's run -/
theorem g_runV {C : String} {y : MethodName} {bytes : ByteArray} {maxL n index k : Nat} {ret : Option FieldType} {rm : Room} {As : List Value} {st : List Value} {Qc : Array Value → State → Outcome → State → Prop} (Γ : gC X p m meth c cc nL s args own rt) (hI : gI X σ s H locs) (hM : gMet l y bytes maxL ret rm X σ (.ref (X.2.1 + k) :: As) Qc) (hm : mfV C y bytes maxL ret n) (hr : ∃ cell : Cell, H[X.2.1 + k]? = some cell ∧ cell.vm.isStatics = false ∧ s.vm.findClass C = some cell.cls) (hl : Cond.methodLink own index y ∈ GW) (hc0 : rm.cells = 0) (hs0 : rm.slots = 0) (hR : rm.frames + 1 ≤ R.frames ∧ 8 + (maxL + 11) + rm.locals ≤ R.locals)
    (hn : As.length = n) (hsize : ls.size = nL) (hstack : st = As.reverse ++ .ref (X.2.1 + k) :: rest) (hW : (rest.map fun v => v.category).sum ≤ 8) (hdg : decode cc pc = .ok (.invokevirtual index, 3)) (hf : cells ≤ R.cells ∧ slots ≤ R.slots) :
    va_Run p l e R s m args below meth c H locs cells slots 0 0 (F0 m pc ls st) rest (Qc (Value.ref (X.2.1 + k) :: As).toArray) (gA X) :=
  va_runV (As := As) (rest := rest) Γ.1 hM (g_cwV Γ hm hl hc0 hs0 hR) ⟨gPc_blind X σ _, hr, fun U hU hW9 => ⟨rfl, by rw [hU]; exact hI.1, va_K.moved hW9.alike Γ.2.1⟩⟩ rfl hn hsize hstack (lv_room hW) hdg hf
theorem g_runS {y : MethodName} {bytes : ByteArray} {maxL n index : Nat} {ret : Option FieldType} {rm : Room} {As : List Value} {st : List Value} {Qc : Array Value → State → Outcome → State → Prop} (Γ : gC X p m meth c cc nL s args own rt) (hI : gI X σ s H locs) (hM : gMet l y bytes maxL ret rm X σ As Qc) (hm : mfS y bytes maxL ret n) (hl : Cond.methodLink own index y ∈ GW) (hc0 : rm.cells = 0) (hs0 : rm.slots = 0) (hR : rm.frames + 1 ≤ R.frames ∧ 8 + (maxL + 11) + rm.locals ≤ R.locals)
    (hn : As.length = n) (hsize : ls.size = nL) (hstack : st = As.reverse ++ rest) (hW : (rest.map fun v => v.category).sum ≤ 8) (hdg : decode cc pc = .ok (.invokestatic index, 3)) (hf : cells ≤ R.cells ∧ slots ≤ R.slots) :
    va_Run p l e R s m args below meth c H locs cells slots 0 0 (F0 m pc ls st) rest (Qc As.toArray) (gA X) :=
  va_runS (As := As) (rest := rest) Γ.1 hM (g_cwS Γ hm hl hc0 hs0 hR) ⟨gPc_blind X σ _, fun U hU hW9 => ⟨rfl, by rw [hU]; exact hI.1, va_K.moved hW9.alike Γ.2.1⟩⟩ rfl hn hsize hstack (lv_room hW) hdg hf
theorem g_hA {A : Nat → Prop} : ∀ q, q < H.size → A q → A q := fun _ _ h => h
/-- behind a call of each kind -/
theorem g_ci {a : Array Value} {σ' : GM} {x : Int32} {st : List Value} (Γ : gC X p m meth c cc nL s args own rt) (hI : gI X σ s H locs) (hr : va_Run p l e R s m args below meth c H locs cells slots 0 0 (F0 m pc ls st) rest (gQi X σ' x a) (gA X))
    (kk : ∀ (H1 : Heap) (locs1 : List Loc), gI X σ' s H1 locs1 → W p l e R s m args below meth c H1 locs1 cells slots Q (F0 m (pc + 3) ls (.int x :: rest))) : W p l e R s m args below meth c H locs cells slots Q (F0 m pc ls st) := by
  refine va_calli hr hI.2 (fun _ _ h => h) (fun _ h => h) (fun r u t H1 locs1 ht hvm hw hB _ _ hS => ?_)
  obtain ⟨rfl, rfl⟩ := hw
  exact kk H1 locs1 ⟨by rw [← ht]; exact hB.1, hS⟩
theorem g_cl {a : Array Value} {σ' : GM} {x : Int64} {st : List Value} (Γ : gC X p m meth c cc nL s args own rt) (hI : gI X σ s H locs) (hr : va_Run p l e R s m args below meth c H locs cells slots 0 0 (F0 m pc ls st) rest (gQl X σ' x a) (gA X))
    (kk : ∀ (H1 : Heap) (locs1 : List Loc), gI X σ' s H1 locs1 → W p l e R s m args below meth c H1 locs1 cells slots Q (F0 m (pc + 3) ls (.long x :: rest))) : W p l e R s m args below meth c H locs cells slots Q (F0 m pc ls st) := by
  refine va_calll hr hI.2 (fun _ _ h => h) (fun _ h => h) (fun r u t H1 locs1 ht hvm hw hB _ _ hS => ?_)
  obtain ⟨rfl, rfl⟩ := hw
  exact kk H1 locs1 ⟨by rw [← ht]; exact hB.1, hS⟩
theorem g_cv {a : Array Value} {σ' : GM} {st : List Value} (Γ : gC X p m meth c cc nL s args own rt) (hI : gI X σ s H locs) (hr : va_Run p l e R s m args below meth c H locs cells slots 0 0 (F0 m pc ls st) rest (gQv X σ' a) (gA X))
    (kk : ∀ (H1 : Heap) (locs1 : List Loc), gI X σ' s H1 locs1 → W p l e R s m args below meth c H1 locs1 cells slots Q (F0 m (pc + 3) ls rest)) : W p l e R s m args below meth c H locs cells slots Q (F0 m pc ls st) := by
  refine va_callv hr hI.2 (fun _ _ h => h) (fun _ h => h) (fun u t H1 locs1 ht hvm hw hB _ _ hS => ?_)
  obtain rfl := hw
  exact kk H1 locs1 ⟨by rw [← ht]; exact hB.1, hS⟩
theorem g_cq {a : Array Value} {σ' : GM} {x : Option Nat} {st : List Value} (Γ : gC X p m meth c cc nL s args own rt) (hI : gI X σ s H locs) (hr : va_Run p l e R s m args below meth c H locs cells slots 0 0 (F0 m pc ls st) rest (gQq X σ' x a) (gA X))
    (kk : ∀ (H1 : Heap) (locs1 : List Loc), gI X σ' s H1 locs1 → W p l e R s m args below meth c H1 locs1 cells slots Q (F0 m (pc + 3) ls (va_rf (x.map (fun k => X.2.1 + k)) :: rest))) : W p l e R s m args below meth c H locs cells slots Q (F0 m pc ls st) := by
  refine va_callq hr hI.2 (fun _ _ h => h) (fun _ h => h) (fun r u t H1 locs1 ht hvm hw hB _ _ hS => ?_)
  obtain ⟨rfl, rfl⟩ := hw
  exact kk H1 locs1 ⟨by rw [← ht]; exact hB.1, hS⟩
theorem g_cr {a : Array Value} {σ' : GM} {n : Nat} {st : List Value} (Γ : gC X p m meth c cc nL s args own rt) (hI : gI X σ s H locs) (hr : va_Run p l e R s m args below meth c H locs cells slots 0 0 (F0 m pc ls st) rest (gQq X σ' (some n) a) (gA X))
    (kk : ∀ (H1 : Heap) (locs1 : List Loc), gI X σ' s H1 locs1 → W p l e R s m args below meth c H1 locs1 cells slots Q (F0 m (pc + 3) ls (.ref (X.2.1 + n) :: rest))) : W p l e R s m args below meth c H locs cells slots Q (F0 m pc ls st) := g_cq Γ hI hr kk
theorem g_cqq {a : Array Value} {σ' : GM} {x : Option Nat} {st : List Value} (Γ : gC X p m meth c cc nL s args own rt) (hI : gI X σ s H locs) (hr : va_Run p l e R s m args below meth c H locs cells slots 0 0 (F0 m pc ls st) rest (gQq X σ' x a) (gA X))
    (k0 : ∀ (H1 : Heap) (locs1 : List Loc), gI X σ' s H1 locs1 → x = none → W p l e R s m args below meth c H1 locs1 cells slots Q (F0 m (pc + 3) ls (.null :: rest)))
    (k1 : ∀ (v : Nat) (H1 : Heap) (locs1 : List Loc), gI X σ' s H1 locs1 → x = some v → W p l e R s m args below meth c H1 locs1 cells slots Q (F0 m (pc + 3) ls (.ref (X.2.1 + v) :: rest))) : W p l e R s m args below meth c H locs cells slots Q (F0 m pc ls st) := by
  refine g_cq Γ hI hr (fun H1 locs1 h1 => ?_)
  cases x with
  | none => exact k0 H1 locs1 h1 rfl
  | some v => exact k1 v H1 locs1 h1 rfl
theorem g_get (Γ : gC X p m meth c cc nL s args own rt) (hI : gI X σ s H locs) (n : Nat) (hn : n < 76) {ci : Nat} {fs : List Value} (hcell : gcell X n (σ.1 n) (σ.2 n) = .inr (ci, fs)) {C : String} {T : u_T} {N : Nat} (hc : vwCl[ci]? = some (C, T, N)) (hin : ∀ w ∈ u_ws C T N, w ∈ GW) (k : Nat) (hk : k < N) {index : Nat} (hlink : Cond.fieldLink own index (T k).1 (T k).2.1 (T k).2.2.1 ∈ GW) {v : Value} (hv : fs[k]? = some v) (hdg : decode cc pc = .ok (.getfield index, 3))
    (kk : W p l e R s m args below meth c H locs cells slots Q (F0 m (pc + 3) ls (v :: rest))) : W p l e R s m args below meth c H locs cells slots Q (F0 m pc ls (.ref (X.2.1 + n) :: rest)) :=
  va_get Γ.1.1 Γ.1.2.1 Γ.1.2.2.2.2 hin Γ.1.2.2.2.1 Γ.2.1 hI.1 n (by rw [wd_at X σ hn, hcell]) hc k hk (Γ.1.2.2.2.2 _ hlink) (fun _ h => h) hv hdg kk
theorem g_put (Γ : gC X p m meth c cc nL s args own rt) (hI : gI X σ s H locs) (σ' : GM) (n : Nat) (hn : n < 76) {ci : Nat} {fs : List Value} (hcell : gcell X n (σ.1 n) (σ.2 n) = .inr (ci, fs)) {C : String} {T : u_T} {N : Nat} (ty0 : Nat → FieldType) (hty : ∀ k, k < N → parseFieldDescriptor (T k).2.2.1 = some (ty0 k)) (hnm : ∀ a, a < N → ∀ b, b < N → a ≠ b → (T a).2.1 ≠ (T b).2.1) (hc : vwCl[ci]? = some (C, T, N)) (hin : ∀ w ∈ u_ws C T N, w ∈ GW) (k : Nat) (hk : k < N) {index : Nat} (hlink : Cond.fieldLink own index (T k).1 (T k).2.1 (T k).2.2.1 ∈ GW) (hfin : (T k).2.2.2 = false) {ty : FieldType} {v : Value} (hd : parseFieldDescriptor (T k).2.2.1 = some ty) (hnw : narrow ty v = v) (hfit : fits ty v = true) (hl : k < fs.length)
    (hset : gcell X n (σ'.1 n) (σ'.2 n) = .inr (ci, fs.set k v)) (ho : ∀ j, j ≠ n → σ'.1 j = σ.1 j ∧ σ'.2 j = σ.2 j) (hdg : decode cc pc = .ok (.putfield index, 3))
    (kk : ∀ (H1 : Heap) (locs1 : List Loc), gI X σ' s H1 locs1 → W p l e R s m args below meth c H1 locs1 cells slots Q (F0 m (pc + 3) ls rest)) : W p l e R s m args below meth c H locs cells slots Q (F0 m pc ls (v :: .ref (X.2.1 + n) :: rest)) := by
  refine va_put Γ.1.1 Γ.1.2.1 Γ.1.2.2.2.2 hin ty0 hty hnm Γ.1.2.2.2.1 Γ.2.1 hI.1 (wd_D X σ) hI.2 n (by rw [wd_at X σ hn, hcell]) hc k hk (Γ.1.2.2.2.2 _ hlink) (fun _ h => h) hfin hd hnw hfit hl hdg (fun H1 locs1 hP hD hS => ?_)
  rw [wd_set X σ σ' hn hset ho] at hP
  exact kk H1 locs1 ⟨hP, hS⟩
theorem gcell_I {n z : Nat} {r : Nat → Int32} {r2 : Nat → Int64} (h : sh n = (11, z)) : gcell X n r r2 = .inl (X.2.2.1, z, .inl r) := by unfold gcell; rw [h]; rfl
theorem gcell_L {n z : Nat} {r : Nat → Int32} {r2 : Nat → Int64} (h : sh n = (12, z)) : gcell X n r r2 = .inl (X.2.2.2.1, z, .inr (.inl r2)) := by unfold gcell; rw [h]; rfl
theorem gcell_Z {n z : Nat} {r : Nat → Int32} {r2 : Nat → Int64} (h : sh n = (13, z)) : gcell X n r r2 = .inl (X.2.2.2.2.1, z, .inl r) := by unfold gcell; rw [h]; rfl
theorem gcell_N {n z : Nat} {r : Nat → Int32} {r2 : Nat → Int64} (h : sh n = (14, z)) : gcell X n r r2 = .inl (X.2.2.2.2.2, z, .inr (.inr (.inr (.inr (fun i => some (X.2.1 + (13 + 3 * i))))))) := by unfold gcell; rw [h]; rfl
theorem sh_lt' {n k z : Nat} (h : sh n = (k, z)) (hk : k < 99) : n < 76 := sh_lt (by rw [h]; exact hk)
theorem g_iald (Γ : gC X p m meth c cc nL s args own rt) (hI : gI X σ s H locs) {n z : Nat} (hn : sh n = (11, z)) {i : Int32} (hin : ¬ (i < 0 ∨ z ≤ i.toNatClampNeg)) (hdg : decode cc pc = .ok (.iaload, 1))
    (kk : W p l e R s m args below meth c H locs cells slots Q (F0 m (pc + 1) ls (.int (σ.1 n i.toNatClampNeg) :: rest))) : W p l e R s m args below meth c H locs cells slots Q (F0 m pc ls (.int i :: .ref (X.2.1 + n) :: rest)) :=
  va_iald Γ.1.1 Γ.1.2.1 Γ.2.1 hI.1 n 0 (by rw [wd_at X σ (sh_lt' hn (by decide)), gcell_I hn]) rfl hin hdg kk
theorem g_zald (Γ : gC X p m meth c cc nL s args own rt) (hI : gI X σ s H locs) {n z : Nat} (hn : sh n = (13, z)) {i : Int32} (hin : ¬ (i < 0 ∨ z ≤ i.toNatClampNeg)) (hdg : decode cc pc = .ok (.baload, 1))
    (kk : W p l e R s m args below meth c H locs cells slots Q (F0 m (pc + 1) ls (.int (σ.1 n i.toNatClampNeg) :: rest))) : W p l e R s m args below meth c H locs cells slots Q (F0 m pc ls (.int i :: .ref (X.2.1 + n) :: rest)) :=
  va_zald Γ.1.1 Γ.1.2.1 Γ.2.1 hI.1 n 2 (by rw [wd_at X σ (sh_lt' hn (by decide)), gcell_Z hn]) rfl hin hdg kk
theorem g_lald (Γ : gC X p m meth c cc nL s args own rt) (hI : gI X σ s H locs) {n z : Nat} (hn : sh n = (12, z)) {i : Int32} (hin : ¬ (i < 0 ∨ z ≤ i.toNatClampNeg)) (hdg : decode cc pc = .ok (.laload, 1))
    (kk : W p l e R s m args below meth c H locs cells slots Q (F0 m (pc + 1) ls (.long (σ.2 n i.toNatClampNeg) :: rest))) : W p l e R s m args below meth c H locs cells slots Q (F0 m pc ls (.int i :: .ref (X.2.1 + n) :: rest)) :=
  va_lald Γ.1.1 Γ.1.2.1 Γ.2.1 hI.1 n 1 (by rw [wd_at X σ (sh_lt' hn (by decide)), gcell_L hn]) rfl hin hdg kk
theorem g_aald (Γ : gC X p m meth c cc nL s args own rt) (hI : gI X σ s H locs) {n z : Nat} (hn : sh n = (14, z)) {i : Int32} (hin : ¬ (i < 0 ∨ z ≤ i.toNatClampNeg)) (hdg : decode cc pc = .ok (.aaload, 1))
    (kk : W p l e R s m args below meth c H locs cells slots Q (F0 m (pc + 1) ls (.ref (X.2.1 + (13 + 3 * i.toNatClampNeg)) :: rest))) : W p l e R s m args below meth c H locs cells slots Q (F0 m pc ls (.int i :: .ref (X.2.1 + n) :: rest)) :=
  va_aldq (f := fun i => some (X.2.1 + (13 + 3 * i))) Γ.1.1 Γ.1.2.1 Γ.2.1 hI.1 n 3 (by rw [wd_at X σ (sh_lt' hn (by decide)), gcell_N hn]) rfl hin hdg kk
theorem g_alen (Γ : gC X p m meth c cc nL s args own rt) (hI : gI X σ s H locs) {n k z : Nat} (hn : sh n = (k, z)) (hk : k = 11 ∨ k = 12 ∨ k = 13 ∨ k = 14) {v : Int32} (hv : Int32.ofNat z = v) (hdg : decode cc pc = .ok (.arraylength, 1))
    (kk : W p l e R s m args below meth c H locs cells slots Q (F0 m (pc + 1) ls (.int v :: rest))) : W p l e R s m args below meth c H locs cells slots Q (F0 m pc ls (.ref (X.2.1 + n) :: rest)) := by
  rcases hk with rfl | rfl | rfl | rfl
  · exact va_alen Γ.1.1 Γ.1.2.1 Γ.2.1 hI.1 n 0 (by rw [wd_at X σ (sh_lt' hn (by decide)), gcell_I hn]) rfl hv hdg kk
  · exact va_alen Γ.1.1 Γ.1.2.1 Γ.2.1 hI.1 n 1 (by rw [wd_at X σ (sh_lt' hn (by decide)), gcell_L hn]) rfl hv hdg kk
  · exact va_alen Γ.1.1 Γ.1.2.1 Γ.2.1 hI.1 n 2 (by rw [wd_at X σ (sh_lt' hn (by decide)), gcell_Z hn]) rfl hv hdg kk
  · exact va_alen Γ.1.1 Γ.1.2.1 Γ.2.1 hI.1 n 3 (by rw [wd_at X σ (sh_lt' hn (by decide)), gcell_N hn]) rfl hv hdg kk
theorem wI_other {n k : Nat} {v : Int32} : ∀ j, j ≠ n → (wI σ n k v).1 j = σ.1 j ∧ (wI σ n k v).2 j = σ.2 j := fun j hj => ⟨by funext i; simp [wI, hj], rfl⟩
theorem wL_other {n k : Nat} {v : Int64} : ∀ j, j ≠ n → (wL σ n k v).1 j = σ.1 j ∧ (wL σ n k v).2 j = σ.2 j := fun j hj => ⟨rfl, by funext i; simp [wL, hj]⟩
theorem wI_row {n k : Nat} {v : Int32} : (wI σ n k v).1 n = upd (σ.1 n) k v := by funext i; simp [wI, upd]
theorem wL_row {n k : Nat} {v : Int64} : (wL σ n k v).2 n = vp_updL (σ.2 n) k v := by funext i; simp [wL, vp_updL]
theorem g_iast (Γ : gC X p m meth c cc nL s args own rt) (hI : gI X σ s H locs) {n z : Nat} (hn : sh n = (11, z)) {i x : Int32} (hin : ¬ (i < 0 ∨ z ≤ i.toNatClampNeg)) (hdg : decode cc pc = .ok (.iastore, 1))
    (kk : ∀ (H1 : Heap) (locs1 : List Loc), gI X (wI σ n i.toNatClampNeg x) s H1 locs1 → W p l e R s m args below meth c H1 locs1 cells slots Q (F0 m (pc + 1) ls rest)) : W p l e R s m args below meth c H locs cells slots Q (F0 m pc ls (.int x :: .int i :: .ref (X.2.1 + n) :: rest)) := by
  refine va_iast Γ.1.1 Γ.1.2.1 Γ.2.1 hI.1 (wd_D X σ) hI.2 n 0 (by rw [wd_at X σ (sh_lt' hn (by decide)), gcell_I hn]) rfl hin hdg (fun H1 locs1 hP hD hS => ?_)
  rw [wd_set X σ (wI σ n i.toNatClampNeg x) (sh_lt' hn (by decide)) (by rw [gcell_I hn, wI_row]) wI_other] at hP
  exact kk H1 locs1 ⟨hP, hS⟩
theorem g_zast (Γ : gC X p m meth c cc nL s args own rt) (hI : gI X σ s H locs) {n z : Nat} (hn : sh n = (13, z)) {i x : Int32} (hin : ¬ (i < 0 ∨ z ≤ i.toNatClampNeg)) (hdg : decode cc pc = .ok (.bastore, 1))
    (kk : ∀ (H1 : Heap) (locs1 : List Loc), gI X (wI σ n i.toNatClampNeg (x &&& 1)) s H1 locs1 → W p l e R s m args below meth c H1 locs1 cells slots Q (F0 m (pc + 1) ls rest)) : W p l e R s m args below meth c H locs cells slots Q (F0 m pc ls (.int x :: .int i :: .ref (X.2.1 + n) :: rest)) := by
  refine va_zast Γ.1.1 Γ.1.2.1 Γ.2.1 hI.1 (wd_D X σ) hI.2 n 2 (by rw [wd_at X σ (sh_lt' hn (by decide)), gcell_Z hn]) rfl hin hdg (fun H1 locs1 hP hD hS => ?_)
  rw [wd_set X σ (wI σ n i.toNatClampNeg (x &&& 1)) (sh_lt' hn (by decide)) (by rw [gcell_Z hn, wI_row]; rfl) wI_other] at hP
  exact kk H1 locs1 ⟨hP, hS⟩
theorem g_last (Γ : gC X p m meth c cc nL s args own rt) (hI : gI X σ s H locs) {n z : Nat} (hn : sh n = (12, z)) {i : Int32} {x : Int64} (hin : ¬ (i < 0 ∨ z ≤ i.toNatClampNeg)) (hdg : decode cc pc = .ok (.lastore, 1))
    (kk : ∀ (H1 : Heap) (locs1 : List Loc), gI X (wL σ n i.toNatClampNeg x) s H1 locs1 → W p l e R s m args below meth c H1 locs1 cells slots Q (F0 m (pc + 1) ls rest)) : W p l e R s m args below meth c H locs cells slots Q (F0 m pc ls (.long x :: .int i :: .ref (X.2.1 + n) :: rest)) := by
  refine va_last Γ.1.1 Γ.1.2.1 Γ.2.1 hI.1 (wd_D X σ) hI.2 n 1 (by rw [wd_at X σ (sh_lt' hn (by decide)), gcell_L hn]) rfl hin hdg (fun H1 locs1 hP hD hS => ?_)
  rw [wd_set X σ (wL σ n i.toNatClampNeg x) (sh_lt' hn (by decide)) (by rw [gcell_L hn, wL_row]) wL_other] at hP
  exact kk H1 locs1 ⟨hP, hS⟩
-- ends
theorem g_iret {σ0 σ' : GM} {v x : Int32} (Γ : gC X p m meth c cc nL s args own (some .int)) (hI : gI X σ0 s H locs) (hdg : decode cc pc = .ok (.ireturn, 1)) (hσ : σ0 = σ') (hx : v = x) : W p l e R s m args below meth c H locs 0 0 (MQ below (gQi X σ' x) args s 0 0 (gA X)) (F0 m pc ls [.int v]) := by
  subst hσ; subst hx
  exact W.iret Γ.1.1 Γ.1.2.1 Γ.2.2.1 (fun t ht hW => ⟨⟨v, σ0, rfl, ⟨rfl, rfl⟩, by rw [ht]; exact hI.1, va_K.moved hW.alike Γ.2.1⟩, hI.2.F ht⟩) hI.2.2.2 hdg Γ.2.2.2
theorem g_lret {σ0 σ' : GM} {v x : Int64} (Γ : gC X p m meth c cc nL s args own (some .long)) (hI : gI X σ0 s H locs) (hdg : decode cc pc = .ok (.lreturn, 1)) (hσ : σ0 = σ') (hx : v = x) : W p l e R s m args below meth c H locs 0 0 (MQ below (gQl X σ' x) args s 0 0 (gA X)) (F0 m pc ls [.long v]) := by
  subst hσ; subst hx
  exact W.lret Γ.1.1 Γ.1.2.1 Γ.2.2.1 (fun t ht hW => ⟨⟨v, σ0, rfl, ⟨rfl, rfl⟩, by rw [ht]; exact hI.1, va_K.moved hW.alike Γ.2.1⟩, hI.2.F ht⟩) hI.2.2.2 hdg Γ.2.2.2
theorem g_vret {σ0 σ' : GM} (Γ : gC X p m meth c cc nL s args own none) (hI : gI X σ0 s H locs) (hdg : decode cc pc = .ok (.return_, 1)) (hσ : σ0 = σ') : W p l e R s m args below meth c H locs 0 0 (MQ below (gQv X σ') args s 0 0 (gA X)) (F0 m pc ls []) := by
  subst hσ
  exact W.vret Γ.1.1 Γ.1.2.1 Γ.2.2.1 (fun t ht hW => ⟨⟨σ0, rfl, rfl, by rw [ht]; exact hI.1, va_K.moved hW.alike Γ.2.1⟩, hI.2.F ht⟩) hI.2.2.2 hdg Γ.2.2.2
theorem g_zret {σ0 σ' : GM} {v x : Int32} (Γ : gC X p m meth c cc nL s args own (some .boolean)) (hI : gI X σ0 s H locs) (hdg : decode cc pc = .ok (.ireturn, 1)) (hσ : σ0 = σ') (hx : (v &&& 1) = x) : W p l e R s m args below meth c H locs 0 0 (MQ below (gQi X σ' x) args s 0 0 (gA X)) (F0 m pc ls [.int v]) := by
  subst hσ; subst hx
  have hexec := Γ.1.1
  have hb := Γ.1.2.1
  have hr := Γ.2.2.1
  have hlocks := Γ.2.2.2
  have hn : narrow .boolean (.int v) = .int (v &&& 1) := rfl
  intro T hT X9
  obtain ⟨fs, hret, hrun, hended, hW, hframe⟩ := X9.leave (v := some (.int (v &&& 1))) (fun h => by rw [hr] at h; cases h)
  have hmeth' : T.vm.method? m = some meth := X9.method'
  refine ⟨T.setFrames fs, ?_, .returned (some (.int (v &&& 1))), hrun, hended, ⟨⟨v &&& 1, σ0, rfl, ⟨rfl, rfl⟩, by rw [show (T.setFrames fs).heap = H from hT]; exact hI.1, va_K.moved hW.alike Γ.2.1⟩, hI.2.F hT⟩, locs, ⟨⟨_, rfl⟩, hW, hframe⟩, hI.2.2.2⟩
  jvm_step X9.here [X9.here.top, hexec, hb, hdg, hmeth', hr, hn]
  (try refine ⟨rfl, ?_⟩); (try refine ⟨rfl, ?_⟩)
  first | (intro acts; rw [hret _ acts rfl rfl rfl]) | rw [hret _ _ rfl rfl rfl]
  exact Steps.refl _
theorem g_aret {σ0 σ' : GM} {C : String} {x x' : Option Nat} {v : Value} (hv : v = va_rf (x.map (fun k => X.2.1 + k))) (Γ : gC X p m meth c cc nL s args own (some (.object C))) (hI : gI X σ0 s H locs) (hdg : decode cc pc = .ok (.areturn, 1)) (hσ : σ0 = σ') (hx : x = x') : W p l e R s m args below meth c H locs 0 0 (MQ below (gQq X σ' x') args s 0 0 (gA X)) (F0 m pc ls [v]) := by
  subst hσ; subst hx
  exact W.aret Γ.1.1 Γ.1.2.1 Γ.2.2.1 (Or.inl ⟨C, rfl⟩) (by subst hv; cases x with
    | none => exact Or.inl rfl
    | some k => exact Or.inr ⟨_, rfl⟩) (fun t ht hW => ⟨⟨_, σ0, by rw [hv], ⟨rfl, rfl⟩, by rw [ht]; exact hI.1, va_K.moved hW.alike Γ.2.1⟩, hI.2.F ht⟩) hI.2.2.2 hdg Γ.2.2.2
end GROWS
/-- a method out of its body -/
theorem gMet_of {l : Launch} {y : MethodName} {cc : ByteArray} {nL : Nat} {rt : Option FieldType} {rm : Room} {X : GX} {σ : GM} {av : List Value} {own : String} {Qc : Array Value → State → Outcome → State → Prop} {lv : List (Nat × Value)} (hy : plainName y.cls = true) (ho : y.cls = own) (hlen : (lg_sl av).length ≤ nL) (hlv : lv_args 0 av = lv)
    (body : ∀ (p : Program) (e : Env) (s : State) (m : MethodId) (below : List Frame) (meth : Method) (c : Code) (H : Heap) (ls : Array Slot), gC X p m meth c cc nL s av.toArray own rt → gI X σ s H [] → lv_has ls nL lv →
      W p l e rm s m av.toArray below meth c H [] 0 0 (MQ below Qc av.toArray s 0 0 (gA X)) (F0 m 0 ls [])) : gMet l y cc nL rt rm X σ av Qc := by
  refine Met.ofW (cc := cc) (maxL := nL) (ret := rt) hy rfl ?_
  intro p e s m args below meth c s₁ B hml hv
  obtain ⟨rfl, hP, hK⟩ := hv
  have hts := atoms_spec (ws := Cond.code y cc nL rt :: GW) B.pre
  have hown : s.vm.findClass own = some m.cls := by rw [← ho]; exact findClass_of_methodNamed B.named
  have hl := lv_entry av (n := nL) hlen
  rw [lg_entry_eq]
  generalize (lg_sl av ++ List.replicate (nL - (lg_sl av).length) Slot.unset).toArray = ls at hl ⊢
  rw [hlv] at hl
  exact body p e s m below meth c s.heap ls ⟨⟨B.exec, B.bytes, hml, hown, fun w hw => hts w (List.mem_cons_of_mem _ hw)⟩, hK, B.returns, B.notSynchronized⟩ ⟨hP, va_S.rf⟩ hl
end
section
/-! BASE 2 (by gen.py): words by their lists, shapes, rows by field -/
theorem gw_t1 {w : Cond} (i : Nat) (h : tables_1_1[i]? = some w) (hg : goodWord w = true) : w ∈ GW := List.mem_filter.mpr ⟨List.mem_append_right _ (List.mem_append_left _ (List.mem_of_getElem? h)), hg⟩
theorem gw_t2 {w : Cond} (i : Nat) (h : tables_1_2[i]? = some w) (hg : goodWord w = true) : w ∈ GW := List.mem_filter.mpr ⟨List.mem_append_right _ (List.mem_append_right _ (List.mem_append_left _ (List.mem_of_getElem? h))), hg⟩
theorem gw_t3 {w : Cond} (i : Nat) (h : tables_1_3[i]? = some w) (hg : goodWord w = true) : w ∈ GW := List.mem_filter.mpr ⟨List.mem_append_right _ (List.mem_append_right _ (List.mem_append_right _ (List.mem_append_left _ (List.mem_of_getElem? h)))), hg⟩
theorem gw_t4 {w : Cond} (i : Nat) (h : tables_1_4[i]? = some w) (hg : goodWord w = true) : w ∈ GW := List.mem_filter.mpr ⟨List.mem_append_right _ (List.mem_append_right _ (List.mem_append_right _ (List.mem_append_right _ (List.mem_append_left _ (List.mem_of_getElem? h))))), hg⟩
theorem gw_t5 {w : Cond} (i : Nat) (h : tables_1_5[i]? = some w) (hg : goodWord w = true) : w ∈ GW := List.mem_filter.mpr ⟨List.mem_append_right _ (List.mem_append_right _ (List.mem_append_right _ (List.mem_append_right _ (List.mem_append_right _ (List.mem_append_left _ (List.mem_of_getElem? h)))))), hg⟩
theorem gw_t6 {w : Cond} (i : Nat) (h : tables_1_6[i]? = some w) (hg : goodWord w = true) : w ∈ GW := List.mem_filter.mpr ⟨List.mem_append_right _ (List.mem_append_right _ (List.mem_append_right _ (List.mem_append_right _ (List.mem_append_right _ (List.mem_append_right _ ((List.mem_of_getElem? h))))))), hg⟩
theorem gw_s {y : MethodName} (i n : Nat) (h : lw_privs[i]? = some (y, n)) (hg : goodWord (Cond.selects y.cls y y) = true) : Cond.selects y.cls y y ∈ GW := List.mem_filter.mpr ⟨List.mem_append_left _ (List.mem_map.mpr ⟨(y, n), List.mem_of_getElem? h, rfl⟩), hg⟩
theorem gw_0 : Cond.constant RJ6 265 (1431655765) ∈ GW := gw_t2 189 rfl rfl
theorem gw_1 : Cond.constant RJ6 266 (858993459) ∈ GW := gw_t2 190 rfl rfl
theorem gw_2 : Cond.constant RJ6 267 (252645135) ∈ GW := gw_t2 191 rfl rfl
theorem gw_3 : Cond.fieldLink RX3 18 "RingCutters$Net" "told" "I" ∈ GW := gw_t1 58 rfl rfl
theorem gw_4 : Cond.fieldLink RX3 22 "RingCutters$Net" "there" "I" ∈ GW := gw_t1 61 rfl rfl
theorem gw_5 : Cond.fieldLink RX3 25 "RingCutters$Net" "taken" "I" ∈ GW := gw_t1 67 rfl rfl
theorem gw_6 : Cond.fieldLink RX3 28 "RingCutters$Net" "lineCount" "I" ∈ GW := gw_t1 70 rfl rfl
theorem gw_7 : Cond.fieldLink RX3 15 "RingCutters$Net" "between" "[I" ∈ GW := gw_t1 57 rfl rfl
theorem gw_8 : Cond.fieldLink RX3 9 "RingCutters$Net" "weights" "[I" ∈ GW := gw_t1 56 rfl rfl
theorem gw_9 : Cond.methodLink RX3 31 yX3_holds ∈ GW := gw_t2 123 rfl rfl
theorem gw_10 : Cond.methodLink RX3 35 yX3_weightOf ∈ GW := gw_t2 196 rfl rfl
theorem gw_11 : Cond.methodLink RX3 39 yX3_linesOf ∈ GW := gw_t2 138 rfl rfl
theorem gw_12 : Cond.methodLink RX3 43 yX3_endsIn ∈ GW := gw_t2 150 rfl rfl
theorem gw_13 : Cond.methodLink RX8 28 yJ6_bitCount_0f7a4 ∈ GW := gw_t2 186 rfl rfl
theorem gw_14 : Cond.methodLink RX3 49 yX8_lowest ∈ GW := gw_t2 183 rfl rfl
theorem gw_15 : Cond.methodLink RX3 46 yX3_reachedFrom ∈ GW := gw_t2 179 rfl rfl
theorem gw_16 : Cond.methodLink RX3 54 yX3_isThere ∈ GW := gw_t2 119 rfl rfl
theorem gw_17 : Cond.methodLink RX3 58 yX3_setLines ∈ GW := gw_t2 151 rfl rfl
theorem gw_18 : Cond.fieldLink RX0 44 "RingCutters$Net" "there" "I" ∈ GW := gw_t1 62 rfl rfl
theorem gw_19 : Cond.fieldLink RX0 23 "RingCutters$Discount" "left" "I" ∈ GW := gw_t1 214 rfl rfl
theorem gw_20 : Cond.fieldLink RX0 57 "RingCutters$Discount" "piled" "I" ∈ GW := gw_t1 213 rfl rfl
theorem gw_21 : Cond.fieldLink RX0 60 "RingCutters$Discount" "sum" "J" ∈ GW := gw_t1 217 rfl rfl
theorem gw_22 : Cond.fieldLink RX0 64 "RingCutters$Discount" "below" "J" ∈ GW := gw_t1 218 rfl rfl
theorem gw_23 : Cond.fieldLink RX0 9 "RingCutters$Discount" "weights" "[J" ∈ GW := gw_t1 211 rfl rfl
theorem gw_24 : Cond.methodLink RX0 53 yX3_weightOf ∈ GW := gw_t3 123 rfl rfl
theorem gw_25 : Cond.methodLink RX0 67 yX3_holds ∈ GW := gw_t3 128 rfl rfl
theorem gw_26 : Cond.methodLink RX0 71 yX3_endsIn ∈ GW := gw_t3 129 rfl rfl
theorem gw_27 : Cond.fieldLink RX8 22 "RingCutters$Rings" "ringSets" "[I" ∈ GW := gw_t1 176 rfl rfl
theorem gw_28 : Cond.fieldLink RX8 65 "RingCutters$Rings" "many" "I" ∈ GW := gw_t1 178 rfl rfl
theorem gw_29 : Cond.fieldLink RX0 75 "RingCutters$Rings" "many" "I" ∈ GW := gw_t1 179 rfl rfl
theorem gw_30 : Cond.methodLink RX0 80 yX8_ringAt ∈ GW := gw_t3 134 rfl rfl
theorem gw_31 : Cond.methodLink RX0 83 yJ6_bitCount_0f7a4 ∈ GW := gw_t3 135 rfl rfl
theorem gw_32 : Cond.constantLong RX0 90 (9223372036854775807) ∈ GW := gw_t3 140 rfl rfl
theorem gw_33 : Cond.methodLink RX0 92 Lib.MathLoose.min_long.x ∈ GW := gw_t3 141 rfl rfl
theorem gw_34 : Cond.static Lib.MathLoose.min_long.x ∈ GW := gw_t3 142 rfl rfl
theorem gw_35 : Cond.initialized "java/lang/Math" ∈ GW := gw_t1 12 rfl rfl
theorem gw_36 : Cond.code Lib.MathLoose.min_long.x Lib.MathLoose.min_long.code 4 (some .long) ∈ GW := gw_t3 143 rfl rfl
theorem gw_37 : Cond.methodLink RX0 98 yX3_linesIn ∈ GW := gw_t3 148 rfl rfl
theorem gw_38 : Cond.methodLink RX0 101 yX3_partsIn ∈ GW := gw_t3 152 rfl rfl
theorem gw_39 : Cond.fieldLink RX0 15 "RingCutters$Discount" "pile" "[I" ∈ GW := gw_t1 212 rfl rfl
theorem gw_40 : Cond.fieldLink RX8 9 "RingCutters$Rings" "free" "[Z" ∈ GW := gw_t1 173 rfl rfl
theorem gw_41 : Cond.fieldLink RX0 104 "RingCutters$Discount" "cut" "I" ∈ GW := gw_t1 215 rfl rfl
theorem gw_42 : Cond.methodLink RX0 107 Lib.Math.min.name ∈ GW := gw_t3 161 rfl rfl
theorem gw_43 : Cond.static Lib.Math.min.name ∈ GW := gw_t2 66 rfl rfl
theorem gw_44 : Cond.code Lib.Math.min.name Lib.Math.min.code 2 (some .int) ∈ GW := gw_t2 67 rfl rfl
theorem gw_45 : Cond.methodLink RX0 109 yX8_isFree ∈ GW := gw_t3 162 rfl rfl
theorem gw_46 : Cond.methodLink RX0 19 yX0_begin ∈ GW := gw_t3 119 rfl rfl
theorem gw_47 : Cond.methodLink RX0 49 yX0_giveBack ∈ GW := gw_t3 157 rfl rfl
theorem gw_48 : Cond.methodLink RX0 27 yX0_strip ∈ GW := gw_t3 124 rfl rfl
theorem gw_49 : Cond.methodLink RX0 30 yX0_leastOpenRing ∈ GW := gw_t3 130 rfl rfl
theorem gw_50 : Cond.methodLink RX0 38 yX0_takeFromAll ∈ GW := gw_t3 144 rfl rfl
theorem gw_51 : Cond.methodLink RX0 41 yX0_pileWeightless ∈ GW := gw_t3 153 rfl rfl
theorem gw_52 : Cond.methodLink RX0 34 yX0_takeFromRing ∈ GW := gw_t3 136 rfl rfl
theorem gw_53 : Cond.methodLink RX0 113 yX0_commonDivisor ∈ GW := gw_t4 122 rfl rfl
theorem gw_54 : Cond.fieldLink RX1 7 "RingCutters$Draws" "seed" "I" ∈ GW := gw_t1 162 rfl rfl
theorem gw_55 : Cond.constant RX1 13 (1103515245) ∈ GW := gw_t4 12 rfl rfl
theorem gw_56 : Cond.fieldLink RX10 13 "RingCutters$Tape" "length" "I" ∈ GW := gw_t1 35 rfl rfl
theorem gw_57 : Cond.fieldLink RX10 9 "RingCutters$Tape" "bytes" "[I" ∈ GW := gw_t1 34 rfl rfl
theorem gw_58 : Cond.fieldLink RX11 12 "RingCutters" "tape" "LRingCutters$Tape;" ∈ GW := gw_t1 234 rfl rfl
theorem gw_59 : Cond.methodLink RX11 85 yX10_hasRoom ∈ GW := gw_t2 41 rfl rfl
theorem gw_60 : Cond.methodLink RX11 89 yX10_append ∈ GW := gw_t2 45 rfl rfl
theorem gw_61 : Cond.fieldLink RX11 93 "RingCutters$Tape" "length" "I" ∈ GW := gw_t1 37 rfl rfl
theorem gw_62 : Cond.fieldLink RX6 46 "RingCutters$Reader" "place" "I" ∈ GW := gw_t1 91 rfl rfl
theorem gw_63 : Cond.methodLink RX6 49 yX10_byteAt ∈ GW := gw_t2 68 rfl rfl
theorem gw_64 : Cond.fieldLink RX6 64 "RingCutters$Reader" "kind" "I" ∈ GW := gw_t1 95 rfl rfl
theorem gw_65 : Cond.fieldLink RX6 67 "RingCutters$Reader" "value" "J" ∈ GW := gw_t1 96 rfl rfl
theorem gw_66 : Cond.methodLink RX6 71 yX6_isLetter ∈ GW := gw_t2 76 rfl rfl
theorem gw_67 : Cond.fieldLink RX6 53 "RingCutters$Reader" "next" "I" ∈ GW := gw_t1 97 rfl rfl
theorem gw_68 : Cond.methodLink RX6 75 yX6_isDigit ∈ GW := gw_t2 79 rfl rfl
theorem gw_69 : Cond.constantLong RX6 80 (10) ∈ GW := gw_t2 83 rfl rfl
theorem gw_70 : Cond.constantLong RX6 78 (27) ∈ GW := gw_t2 82 rfl rfl
theorem gw_71 : Cond.constantLong RX6 100 (8805260) ∈ GW := gw_t2 92 rfl rfl
theorem gw_72 : Cond.fieldLink RX6 14 "RingCutters$Reader" "found" "LRingCutters$Net;" ∈ GW := gw_t1 86 rfl rfl
theorem gw_73 : Cond.fieldLink RX6 107 "RingCutters$Net" "lineCount" "I" ∈ GW := gw_t1 72 rfl rfl
theorem gw_74 : Cond.fieldLink RX6 29 "RingCutters$Reader" "expected" "I" ∈ GW := gw_t1 93 rfl rfl
theorem gw_75 : Cond.fieldLink RX6 104 "RingCutters$Net" "told" "I" ∈ GW := gw_t1 60 rfl rfl
theorem gw_76 : Cond.constantLong RX6 102 (243140) ∈ GW := gw_t2 93 rfl rfl
theorem gw_77 : Cond.fieldLink RX6 18 "RingCutters$Reader" "names" "[J" ∈ GW := gw_t1 88 rfl rfl
theorem gw_78 : Cond.methodLink RX6 110 yX6_isName ∈ GW := gw_t2 98 rfl rfl
theorem gw_79 : Cond.methodLink RX6 114 yX6_pointNamed ∈ GW := gw_t2 102 rfl rfl
theorem gw_80 : Cond.methodLink RX6 118 yX3_addPoint ∈ GW := gw_t2 106 rfl rfl
theorem gw_81 : Cond.constantLong RX6 121 (9) ∈ GW := gw_t2 114 rfl rfl
theorem gw_82 : Cond.methodLink RX6 123 yX3_changeWeight ∈ GW := gw_t2 115 rfl rfl
theorem gw_83 : Cond.fieldLink RX6 25 "RingCutters$Reader" "rows" "I" ∈ GW := gw_t1 89 rfl rfl
theorem gw_84 : Cond.fieldLink RX6 32 "RingCutters$Reader" "first" "I" ∈ GW := gw_t1 94 rfl rfl
theorem gw_85 : Cond.fieldLink RX6 127 "RingCutters$Net" "there" "I" ∈ GW := gw_t1 66 rfl rfl
theorem gw_86 : Cond.methodLink RX6 130 yX3_endsIn ∈ GW := gw_t2 134 rfl rfl
theorem gw_87 : Cond.methodLink RX6 133 yX3_addLine ∈ GW := gw_t2 146 rfl rfl
theorem gw_88 : Cond.methodLink RX6 82 yX6_beginRow ∈ GW := gw_t2 88 rfl rfl
theorem gw_89 : Cond.methodLink RX6 85 yX6_takeName ∈ GW := gw_t2 94 rfl rfl
theorem gw_90 : Cond.methodLink RX6 91 yX6_takeSign ∈ GW := gw_t2 126 rfl rfl
theorem gw_91 : Cond.methodLink RX6 88 yX6_takeWeight ∈ GW := gw_t2 110 rfl rfl
theorem gw_92 : Cond.methodLink RX6 94 yX6_takeFirst ∈ GW := gw_t2 130 rfl rfl
theorem gw_93 : Cond.methodLink RX6 97 yX6_takeSecond ∈ GW := gw_t2 142 rfl rfl
theorem gw_94 : Cond.methodLink RX6 22 yX3_empty ∈ GW := gw_t2 61 rfl rfl
theorem gw_95 : Cond.fieldLink RX6 35 "RingCutters$Tape" "length" "I" ∈ GW := gw_t1 36 rfl rfl
theorem gw_96 : Cond.methodLink RX6 40 Lib.Math.min.name ∈ GW := gw_t2 65 rfl rfl
theorem gw_97 : Cond.methodLink RX6 56 yX6_readToken ∈ GW := gw_t2 72 rfl rfl
theorem gw_98 : Cond.methodLink RX6 60 yX6_takeToken ∈ GW := gw_t2 84 rfl rfl
theorem gw_99 : Cond.fieldLink RX5 16 "RingCutters$Past" "count" "I" ∈ GW := gw_t1 130 rfl rfl
theorem gw_100 : Cond.fieldLink RX11 75 "RingCutters" "ringsStale" "Z" ∈ GW := gw_t2 5 rfl rfl
theorem gw_101 : Cond.fieldLink RX11 79 "RingCutters" "packingStale" "Z" ∈ GW := gw_t2 6 rfl rfl
theorem gw_102 : Cond.fieldLink RX11 82 "RingCutters" "discountStale" "Z" ∈ GW := gw_t2 7 rfl rfl
theorem gw_103 : Cond.fieldLink RX11 19 "RingCutters" "reader" "LRingCutters$Reader;" ∈ GW := gw_t1 235 rfl rfl
theorem gw_104 : Cond.methodLink RX11 97 yX6_readAll ∈ GW := gw_t2 57 rfl rfl
theorem gw_105 : Cond.fieldLink RX11 101 "RingCutters" "faultKind" "I" ∈ GW := gw_t2 4 rfl rfl
theorem gw_106 : Cond.fieldLink RX11 26 "RingCutters" "net" "LRingCutters$Net;" ∈ GW := gw_t1 236 rfl rfl
theorem gw_107 : Cond.fieldLink RX11 107 "RingCutters$Reader" "found" "LRingCutters$Net;" ∈ GW := gw_t1 87 rfl rfl
theorem gw_108 : Cond.methodLink RX11 110 yX3_copyFrom ∈ GW := gw_t2 155 rfl rfl
theorem gw_109 : Cond.fieldLink RX11 33 "RingCutters" "past" "LRingCutters$Past;" ∈ GW := gw_t1 237 rfl rfl
theorem gw_110 : Cond.methodLink RX11 114 yX5_forget ∈ GW := gw_t2 159 rfl rfl
theorem gw_111 : Cond.methodLink RX11 117 yX11_markChanged ∈ GW := gw_t2 163 rfl rfl
theorem gw_112 : Cond.fieldLink RX11 120 "RingCutters$Reader" "rows" "I" ∈ GW := gw_t1 90 rfl rfl
theorem gw_113 : Cond.fieldLink RX11 104 "RingCutters$Reader" "place" "I" ∈ GW := gw_t1 92 rfl rfl
theorem gw_114 : Cond.fieldLink RX11 123 "RingCutters$Net" "told" "I" ∈ GW := gw_t1 59 rfl rfl
theorem gw_115 : Cond.fieldLink RX11 126 "RingCutters$Net" "there" "I" ∈ GW := gw_t1 65 rfl rfl
theorem gw_116 : Cond.fieldLink RX11 129 "RingCutters$Net" "lineCount" "I" ∈ GW := gw_t1 71 rfl rfl
theorem gw_117 : Cond.fieldLink RX11 132 "RingCutters$Net" "taken" "I" ∈ GW := gw_t1 69 rfl rfl
theorem gw_118 : Cond.methodLink RX11 135 yX3_partsIn ∈ GW := gw_t2 175 rfl rfl
theorem gw_119 : Cond.methodLink RX11 139 yX3_weightOfSet ∈ GW := gw_t2 192 rfl rfl
theorem gw_120 : Cond.fieldLink RX11 142 "RingCutters$Past" "count" "I" ∈ GW := gw_t1 131 rfl rfl
theorem gw_121 : Cond.methodLink RX11 145 yX3_isThere ∈ GW := gw_t2 204 rfl rfl
theorem gw_122 : Cond.methodLink RX11 163 yX3_linesOf ∈ GW := gw_t2 205 rfl rfl
theorem gw_123 : Cond.fieldLink RX8 15 "RingCutters$Rings" "beside" "[I" ∈ GW := gw_t1 174 rfl rfl
theorem gw_124 : Cond.methodLink RX8 61 yX3_holds ∈ GW := gw_t2 236 rfl rfl
theorem gw_125 : Cond.fieldLink RX8 19 "RingCutters$Rings" "doubled" "[I" ∈ GW := gw_t1 175 rfl rfl
theorem gw_126 : Cond.methodLink RX8 51 yX8_isFree ∈ GW := gw_t2 228 rfl rfl
theorem gw_127 : Cond.fieldLink RX8 25 "RingCutters$Rings" "starts" "[I" ∈ GW := gw_t1 177 rfl rfl
theorem gw_128 : Cond.methodLink RX8 68 yX8_isLeastRing ∈ GW := gw_t3 1 rfl rfl
theorem gw_129 : Cond.fieldLink RX8 43 "RingCutters$Net" "there" "I" ∈ GW := gw_t1 63 rfl rfl
theorem gw_130 : Cond.methodLink RX8 57 yX8_learnRings ∈ GW := gw_t2 237 rfl rfl
theorem gw_131 : Cond.methodLink RX8 47 yX3_areThere ∈ GW := gw_t2 227 rfl rfl
theorem gw_132 : Cond.methodLink RX8 54 yX8_isFreeByTip ∈ GW := gw_t2 232 rfl rfl
theorem gw_133 : Cond.methodLink RX8 34 yX3_linesOf ∈ GW := gw_t2 222 rfl rfl
theorem gw_134 : Cond.methodLink RX8 40 yX3_besides ∈ GW := gw_t2 223 rfl rfl
theorem gw_135 : Cond.fieldLink RX11 57 "RingCutters" "rings" "LRingCutters$Rings;" ∈ GW := gw_t2 1 rfl rfl
theorem gw_136 : Cond.methodLink RX11 278 yX8_learn ∈ GW := gw_t2 218 rfl rfl
theorem gw_137 : Cond.methodLink RX11 169 yX3_areThere ∈ GW := gw_t2 210 rfl rfl
theorem gw_138 : Cond.methodLink RX11 172 yX11_ringsNow ∈ GW := gw_t2 214 rfl rfl
theorem gw_139 : Cond.methodLink RX11 176 yX8_isFree ∈ GW := gw_t3 5 rfl rfl
theorem gw_140 : Cond.methodLink RX11 189 yJ6_bitCount_0f7a4 ∈ GW := gw_t3 18 rfl rfl
theorem gw_141 : Cond.methodLink RX11 179 yX8_fewestOf ∈ GW := gw_t3 10 rfl rfl
theorem gw_142 : Cond.methodLink RX11 182 yX11_tellSet ∈ GW := gw_t3 14 rfl rfl
theorem gw_143 : Cond.methodLink RX11 185 yX11_lightestCut ∈ GW := gw_t3 23 rfl rfl
theorem gw_144 : Cond.methodLink RX7 9 yX3_linesOf ∈ GW := gw_t3 46 rfl rfl
theorem gw_145 : Cond.methodLink RX7 27 yX3_holds ∈ GW := gw_t3 51 rfl rfl
theorem gw_146 : Cond.methodLink RX7 19 yX7_waysBack ∈ GW := gw_t3 48 rfl rfl
theorem gw_147 : Cond.constantLong RX7 25 (2) ∈ GW := gw_t3 52 rfl rfl
theorem gw_148 : Cond.methodLink RX7 15 yX3_isThere ∈ GW := gw_t3 47 rfl rfl
theorem gw_149 : Cond.methodLink RX11 194 yX7_of ∈ GW := gw_t3 43 rfl rfl
theorem gw_150 : Cond.methodLink RX8 71 yX8_ringAt ∈ GW := gw_t3 61 rfl rfl
theorem gw_151 : Cond.methodLink RX11 200 yX8_shortestRing ∈ GW := gw_t3 57 rfl rfl
theorem gw_152 : Cond.fieldLink RX4 9 "RingCutters$Packing" "most" "[I" ∈ GW := gw_t1 201 rfl rfl
theorem gw_153 : Cond.methodLink RX4 19 yX8_lowest ∈ GW := gw_t3 81 rfl rfl
theorem gw_154 : Cond.methodLink RX4 25 yX4_mostIn ∈ GW := gw_t3 82 rfl rfl
theorem gw_155 : Cond.methodLink RX4 28 yX8_startOf ∈ GW := gw_t3 86 rfl rfl
theorem gw_156 : Cond.methodLink RX4 31 yX8_ringAt ∈ GW := gw_t3 90 rfl rfl
theorem gw_157 : Cond.methodLink RX4 34 Lib.Math.max.name ∈ GW := gw_t3 91 rfl rfl
theorem gw_158 : Cond.static Lib.Math.max.name ∈ GW := gw_t3 92 rfl rfl
theorem gw_159 : Cond.code Lib.Math.max.name Lib.Math.max.code 2 (some .int) ∈ GW := gw_t3 93 rfl rfl
theorem gw_160 : Cond.methodLink RX4 15 yX4_mostWithLowest ∈ GW := gw_t3 77 rfl rfl
theorem gw_161 : Cond.fieldLink RX11 64 "RingCutters" "packing" "LRingCutters$Packing;" ∈ GW := gw_t2 2 rfl rfl
theorem gw_162 : Cond.methodLink RX11 281 yX4_learn ∈ GW := gw_t3 73 rfl rfl
theorem gw_163 : Cond.methodLink RX11 203 yX11_packingNow ∈ GW := gw_t3 69 rfl rfl
theorem gw_164 : Cond.methodLink RX11 207 yX4_mostIn ∈ GW := gw_t3 94 rfl rfl
theorem gw_165 : Cond.fieldLink RX4 43 "RingCutters$Rings" "many" "I" ∈ GW := gw_t1 180 rfl rfl
theorem gw_166 : Cond.methodLink RX4 40 yX4_leastOfMost ∈ GW := gw_t3 103 rfl rfl
theorem gw_167 : Cond.methodLink RX11 210 yX4_ringAt ∈ GW := gw_t3 99 rfl rfl
theorem gw_168 : Cond.fieldLink RX11 71 "RingCutters" "discount" "LRingCutters$Discount;" ∈ GW := gw_t2 3 rfl rfl
theorem gw_169 : Cond.methodLink RX11 284 yX0_run ∈ GW := gw_t3 115 rfl rfl
theorem gw_170 : Cond.methodLink RX11 214 yX11_discountNow ∈ GW := gw_t3 111 rfl rfl
theorem gw_171 : Cond.fieldLink RX11 218 "RingCutters$Discount" "cut" "I" ∈ GW := gw_t1 216 rfl rfl
theorem gw_172 : Cond.fieldLink RX5 11 "RingCutters$Past" "places" "[LRingCutters$Net;" ∈ GW := gw_t1 129 rfl rfl
theorem gw_173 : Cond.fieldLink RX5 20 "RingCutters$Past" "latest" "I" ∈ GW := gw_t1 132 rfl rfl
theorem gw_174 : Cond.methodLink RX5 23 yX5_placeAt ∈ GW := gw_t3 171 rfl rfl
theorem gw_175 : Cond.methodLink RX5 27 yX3_copyFrom ∈ GW := gw_t3 175 rfl rfl
theorem gw_176 : Cond.methodLink RX9 24 yX3_isThere ∈ GW := gw_t3 182 rfl rfl
theorem gw_177 : Cond.methodLink RX9 30 yX3_linesOf ∈ GW := gw_t3 183 rfl rfl
theorem gw_178 : Cond.methodLink RX9 34 yX3_remove ∈ GW := gw_t3 184 rfl rfl
theorem gw_179 : Cond.fieldLink RX9 37 "RingCutters$Net" "taken" "I" ∈ GW := gw_t1 68 rfl rfl
theorem gw_180 : Cond.fieldLink RX9 41 "RingCutters$Net" "there" "I" ∈ GW := gw_t1 64 rfl rfl
theorem gw_181 : Cond.methodLink RX9 44 yX3_endsIn ∈ GW := gw_t3 191 rfl rfl
theorem gw_182 : Cond.methodLink RX9 47 yX3_setLines ∈ GW := gw_t3 195 rfl rfl
theorem gw_183 : Cond.methodLink RX9 51 yX3_besides ∈ GW := gw_t3 199 rfl rfl
theorem gw_184 : Cond.methodLink RX9 54 yX8_lowest ∈ GW := gw_t3 200 rfl rfl
theorem gw_185 : Cond.methodLink RX9 60 yX3_weightOf ∈ GW := gw_t3 201 rfl rfl
theorem gw_186 : Cond.methodLink RX9 63 Lib.Math.min.name ∈ GW := gw_t3 202 rfl rfl
theorem gw_187 : Cond.methodLink RX9 68 yX3_addLine ∈ GW := gw_t3 203 rfl rfl
theorem gw_188 : Cond.methodLink RX9 9 yX9_takeLooped ∈ GW := gw_t3 179 rfl rfl
theorem gw_189 : Cond.methodLink RX9 15 yX9_removeTip ∈ GW := gw_t3 188 rfl rfl
theorem gw_190 : Cond.methodLink RX9 18 yX9_thinLines ∈ GW := gw_t3 192 rfl rfl
theorem gw_191 : Cond.methodLink RX9 21 yX9_passBy ∈ GW := gw_t3 196 rfl rfl
theorem gw_192 : Cond.methodLink RX5 31 Lib.Math.min.name ∈ GW := gw_t3 212 rfl rfl
theorem gw_193 : Cond.methodLink RX11 275 yX5_keepNoted ∈ GW := gw_t3 208 rfl rfl
theorem gw_194 : Cond.methodLink RX11 230 yX5_note ∈ GW := gw_t3 167 rfl rfl
theorem gw_195 : Cond.methodLink RX11 233 yX9_step ∈ GW := gw_t3 176 rfl rfl
theorem gw_196 : Cond.methodLink RX11 239 yX11_keepAct ∈ GW := gw_t3 204 rfl rfl
theorem gw_197 : Cond.methodLink RX11 242 yX3_remove ∈ GW := gw_t3 221 rfl rfl
theorem gw_198 : Cond.methodLink RX11 245 yX3_addLine ∈ GW := gw_t3 226 rfl rfl
theorem gw_199 : Cond.methodLink RX11 249 yX3_takeLine ∈ GW := gw_t3 231 rfl rfl
theorem gw_200 : Cond.methodLink RX11 252 yX3_changeWeight ∈ GW := gw_t3 239 rfl rfl
theorem gw_201 : Cond.fieldLink RX11 50 "RingCutters" "draws" "LRingCutters$Draws;" ∈ GW := gw_t2 0 rfl rfl
theorem gw_202 : Cond.methodLink RX11 288 yX1_below ∈ GW := gw_t4 8 rfl rfl
theorem gw_203 : Cond.fieldLink RX11 255 "RingCutters$Draws" "seed" "I" ∈ GW := gw_t1 163 rfl rfl
theorem gw_204 : Cond.methodLink RX11 258 yX11_doDeed ∈ GW := gw_t4 4 rfl rfl
theorem gw_205 : Cond.methodLink RX11 261 yX5_giveLatest ∈ GW := gw_t4 17 rfl rfl
theorem gw_206 : Cond.fieldLink RX11 44 "RingCutters" "imageOne" "LRingCutters$Kept;" ∈ GW := gw_t1 239 rfl rfl
theorem gw_207 : Cond.fieldLink RX11 40 "RingCutters" "imageZero" "LRingCutters$Kept;" ∈ GW := gw_t1 238 rfl rfl
theorem gw_208 : Cond.methodLink RX11 265 yX11_keptAt ∈ GW := gw_t4 25 rfl rfl
theorem gw_209 : Cond.fieldLink RX11 269 "RingCutters$Kept" "copy" "LRingCutters$Net;" ∈ GW := gw_t1 149 rfl rfl
theorem gw_210 : Cond.fieldLink RX11 272 "RingCutters$Kept" "filled" "Z" ∈ GW := gw_t1 150 rfl rfl
theorem gw_211 : Cond.fieldLink RX12 1 "RingCuttersModel" "thrown" "I" ∈ GW := gw_t4 152 rfl rfl
theorem gw_212 : Cond.methodLink RX12 7 yX12_has ∈ GW := gw_t5 60 rfl rfl
theorem gw_213 : Cond.fieldLink RX12 11 "RingCuttersModel" "tape" "[I" ∈ GW := gw_t4 153 rfl rfl
theorem gw_214 : Cond.fieldLink RX12 15 "RingCuttersModel" "taped" "I" ∈ GW := gw_t4 154 rfl rfl
theorem gw_215 : Cond.methodLink RX12 18 yX12_lay ∈ GW := gw_t4 138 rfl rfl
theorem gw_216 : Cond.fieldLink RX12 22 "RingCuttersModel" "size" "I" ∈ GW := gw_t4 155 rfl rfl
theorem gw_217 : Cond.fieldLink RX12 25 "RingCuttersModel" "to" "I" ∈ GW := gw_t4 156 rfl rfl
theorem gw_218 : Cond.fieldLink RX12 28 "RingCuttersModel" "from" "I" ∈ GW := gw_t4 157 rfl rfl
theorem gw_219 : Cond.methodLink RX12 34 yX12_isLetter ∈ GW := gw_t5 11 rfl rfl
theorem gw_220 : Cond.fieldLink RX12 41 "RingCuttersModel" "word" "J" ∈ GW := gw_t4 162 rfl rfl
theorem gw_221 : Cond.fieldLink RX12 45 "RingCuttersModel" "number" "I" ∈ GW := gw_t4 159 rfl rfl
theorem gw_222 : Cond.methodLink RX12 48 yX12_tapeAt ∈ GW := gw_t5 17 rfl rfl
theorem gw_223 : Cond.constantLong RX12 52 (27) ∈ GW := gw_t5 21 rfl rfl
theorem gw_224 : Cond.constantLong RX12 54 (96) ∈ GW := gw_t5 22 rfl rfl
theorem gw_225 : Cond.methodLink RX12 38 yX12_isDigit ∈ GW := gw_t5 14 rfl rfl
theorem gw_226 : Cond.fieldLink RX12 31 "RingCuttersModel" "kind" "I" ∈ GW := gw_t4 158 rfl rfl
theorem gw_227 : Cond.methodLink RX12 56 yX12_spelt ∈ GW := gw_t5 27 rfl rfl
theorem gw_228 : Cond.methodLink RX12 60 yX12_isPointWord ∈ GW := gw_t5 23 rfl rfl
theorem gw_229 : Cond.methodLink RX12 64 yX12_isLineWord ∈ GW := gw_t5 42 rfl rfl
theorem gw_230 : Cond.fieldLink RX12 67 "RingCuttersModel" "fault" "I" ∈ GW := gw_t4 160 rfl rfl
theorem gw_231 : Cond.fieldLink RX12 70 "RingCuttersModel" "place" "I" ∈ GW := gw_t4 161 rfl rfl
theorem gw_232 : Cond.methodLink RX12 120 yX12_between ∈ GW := gw_t5 66 rfl rfl
theorem gw_233 : Cond.methodLink RX12 124 yX12_ends ∈ GW := gw_t5 63 rfl rfl
theorem gw_234 : Cond.fieldLink RX12 82 "RingCuttersModel" "read" "[I" ∈ GW := gw_t4 164 rfl rfl
theorem gw_235 : Cond.fieldLink RX12 97 "RingCuttersModel" "names" "[J" ∈ GW := gw_t4 169 rfl rfl
theorem gw_236 : Cond.methodLink RX12 130 yX12_next ∈ GW := gw_t5 7 rfl rfl
theorem gw_237 : Cond.methodLink RX12 133 yX12_isName ∈ GW := gw_t5 38 rfl rfl
theorem gw_238 : Cond.methodLink RX12 136 yX12_named ∈ GW := gw_t5 46 rfl rfl
theorem gw_239 : Cond.methodLink RX12 140 yX12_isIn ∈ GW := gw_t5 50 rfl rfl
theorem gw_240 : Cond.methodLink RX12 127 yX12_bad ∈ GW := gw_t5 34 rfl rfl
theorem gw_241 : Cond.methodLink RX12 144 yX12_lineMany ∈ GW := gw_t5 57 rfl rfl
theorem gw_242 : Cond.methodLink RX12 148 yX12_allEnds ∈ GW := gw_t5 69 rfl rfl
theorem gw_243 : Cond.methodLink RX12 151 yX12_adds ∈ GW := gw_t5 72 rfl rfl
theorem gw_244 : Cond.fieldLink RX12 79 "RingCuttersModel" "now" "[I" ∈ GW := gw_t4 163 rfl rfl
theorem gw_245 : Cond.methodLink RX12 164 yX12_copy ∈ GW := gw_t5 79 rfl rfl
theorem gw_246 : Cond.fieldLink RX12 168 "RingCuttersModel" "snapMany" "I" ∈ GW := gw_t4 171 rfl rfl
theorem gw_247 : Cond.methodLink RX12 161 yX12_readEnd ∈ GW := gw_t5 75 rfl rfl
theorem gw_248 : Cond.methodLink RX12 158 yX12_readLine ∈ GW := gw_t5 53 rfl rfl
theorem gw_249 : Cond.methodLink RX12 155 yX12_readPoint ∈ GW := gw_t5 30 rfl rfl
theorem gw_250 : Cond.methodLink RX12 171 yX12_there ∈ GW := gw_t5 90 rfl rfl
theorem gw_251 : Cond.methodLink RX12 174 yX12_least ∈ GW := gw_t5 98 rfl rfl
theorem gw_252 : Cond.methodLink RX12 177 yX12_partOf ∈ GW := gw_t5 101 rfl rfl
theorem gw_253 : Cond.methodLink RX12 181 yX12_parts ∈ GW := gw_t5 94 rfl rfl
theorem gw_254 : Cond.methodLink RX12 184 yX12_weightOf ∈ GW := gw_t5 105 rfl rfl
theorem gw_255 : Cond.methodLink RX12 187 yX12_isThere ∈ GW := gw_t5 113 rfl rfl
theorem gw_256 : Cond.methodLink RX12 190 yX12_refuse ∈ GW := gw_t5 117 rfl rfl
theorem gw_257 : Cond.methodLink RX12 193 yX12_bits ∈ GW := gw_t5 141 rfl rfl
theorem gw_258 : Cond.methodLink RX12 196 yX12_isOpen ∈ GW := gw_t5 137 rfl rfl
theorem gw_259 : Cond.methodLink RX12 199 yX12_areThere ∈ GW := gw_t5 129 rfl rfl
theorem gw_260 : Cond.methodLink RX12 202 yX12_isCut ∈ GW := gw_t5 133 rfl rfl
theorem gw_261 : Cond.methodLink RX12 205 yX12_bestCut ∈ GW := gw_t5 148 rfl rfl
theorem gw_262 : Cond.methodLink RX12 209 yX12_tellsCut ∈ GW := gw_t5 152 rfl rfl
theorem gw_263 : Cond.methodLink RX12 215 yX12_goes ∈ GW := gw_t5 180 rfl rfl
theorem gw_264 : Cond.fieldLink RX12 212 "RingCuttersModel" "ringMany" "J" ∈ GW := gw_t4 173 rfl rfl
theorem gw_265 : Cond.fieldLink RX12 105 "RingCuttersModel" "isRing" "[Z" ∈ GW := gw_t4 172 rfl rfl
theorem gw_266 : Cond.constantLong RX12 219 (2) ∈ GW := gw_t5 184 rfl rfl
theorem gw_267 : Cond.methodLink RX12 221 yX12_laysRings ∈ GW := gw_t5 176 rfl rfl
theorem gw_268 : Cond.fieldLink RX12 108 "RingCuttersModel" "apart" "[I" ∈ GW := gw_t4 174 rfl rfl
theorem gw_269 : Cond.methodLink RX12 224 yX12_laysApart ∈ GW := gw_t5 193 rfl rfl
theorem gw_270 : Cond.methodLink RX12 227 yX12_divisor ∈ GW := gw_t5 221 rfl rfl
theorem gw_271 : Cond.fieldLink RX12 111 "RingCuttersModel" "above" "[J" ∈ GW := gw_t4 175 rfl rfl
theorem gw_272 : Cond.fieldLink RX12 114 "RingCuttersModel" "below" "[J" ∈ GW := gw_t4 176 rfl rfl
theorem gw_273 : Cond.fieldLink RX12 231 "RingCuttersModel" "boundAbove" "J" ∈ GW := gw_t4 178 rfl rfl
theorem gw_274 : Cond.fieldLink RX12 234 "RingCuttersModel" "boundBelow" "J" ∈ GW := gw_t4 179 rfl rfl
theorem gw_275 : Cond.methodLink RX12 237 yX12_thinRing ∈ GW := gw_t5 217 rfl rfl
theorem gw_276 : Cond.methodLink RX12 244 yX12_bounds ∈ GW := gw_t5 228 rfl rfl
theorem gw_277 : Cond.methodLink RX12 240 yX12_takes ∈ GW := gw_t5 224 rfl rfl
theorem gw_278 : Cond.fieldLink RX12 248 "RingCuttersModel" "piled" "I" ∈ GW := gw_t4 180 rfl rfl
theorem gw_279 : Cond.methodLink RX12 251 yX12_trimmed ∈ GW := gw_t5 209 rfl rfl
theorem gw_280 : Cond.fieldLink RX12 117 "RingCuttersModel" "pile" "[I" ∈ GW := gw_t4 177 rfl rfl
theorem gw_281 : Cond.methodLink RX12 254 yX12_sinks ∈ GW := gw_t5 213 rfl rfl
theorem gw_282 : Cond.methodLink RX12 257 yX12_laysNear ∈ GW := gw_t5 205 rfl rfl
theorem gw_283 : Cond.fieldLink RX12 88 "RingCuttersModel" "snaps" "[I" ∈ GW := gw_t4 166 rfl rfl
theorem gw_284 : Cond.fieldLink RX12 94 "RingCuttersModel" "live" "[I" ∈ GW := gw_t4 168 rfl rfl
theorem gw_285 : Cond.fieldLink RX12 91 "RingCuttersModel" "before" "[I" ∈ GW := gw_t4 167 rfl rfl
theorem gw_286 : Cond.methodLink RX12 260 yX12_snap ∈ GW := gw_t6 31 rfl rfl
theorem gw_287 : Cond.methodLink RX12 269 yX12_one ∈ GW := gw_t6 16 rfl rfl
theorem gw_288 : Cond.methodLink RX12 272 yX12_other ∈ GW := gw_t6 20 rfl rfl
theorem gw_289 : Cond.methodLink RX12 266 yX12_thick ∈ GW := gw_t6 12 rfl rfl
theorem gw_290 : Cond.methodLink RX12 263 yX12_mayStep ∈ GW := gw_t6 8 rfl rfl
theorem gw_291 : Cond.methodLink RX12 275 yX12_first ∈ GW := gw_t6 4 rfl rfl
theorem gw_292 : Cond.methodLink RX12 278 yX12_leaves ∈ GW := gw_t6 24 rfl rfl
theorem gw_293 : Cond.methodLink RX12 282 yX12_steps ∈ GW := gw_t6 0 rfl rfl
theorem gw_294 : Cond.methodLink RX12 285 yX12_stay ∈ GW := gw_t6 27 rfl rfl
theorem gw_295 : Cond.methodLink RX12 288 yX12_mayJoin ∈ GW := gw_t6 47 rfl rfl
theorem gw_296 : Cond.fieldLink RX12 291 "RingCuttersModel" "seed" "I" ∈ GW := gw_t4 181 rfl rfl
theorem gw_297 : Cond.constant RX12 294 (1103515245) ∈ GW := gw_t6 71 rfl rfl
theorem gw_298 : Cond.methodLink RX12 295 yX12_draw ∈ GW := gw_t6 67 rfl rfl
theorem gw_299 : Cond.methodLink RX12 298 yX12_does ∈ GW := gw_t6 63 rfl rfl
theorem gw_300 : Cond.fieldLink RX12 85 "RingCuttersModel" "kept" "[I" ∈ GW := gw_t4 165 rfl rfl
theorem gw_301 : Cond.fieldLink RX12 101 "RingCuttersModel" "isKept" "[Z" ∈ GW := gw_t4 170 rfl rfl
theorem gw_302 : Cond.code yJ6_bitCount_0f7a4 cJ6_bitCount_0f7a4 1 (some .int) ∈ GW := gw_t2 188 rfl rfl
theorem gw_303 : Cond.static yJ6_bitCount_0f7a4 ∈ GW := gw_t2 187 rfl rfl
theorem gw_304 : Cond.initialized RJ6 ∈ GW := gw_t1 13 rfl rfl
theorem gw_305 : Cond.code yX0_begin cX0_begin 3 none ∈ GW := gw_t3 122 rfl rfl
theorem gw_306 : Cond.instanceMethod yX0_begin ∈ GW := gw_t3 120 rfl rfl
theorem gw_307 : Cond.selects RX0 yX0_begin yX0_begin ∈ GW := gw_t3 121 rfl rfl
theorem gw_308 : Cond.initialized RX0 ∈ GW := gw_t1 10 rfl rfl
theorem gw_309 : Cond.code yX0_boundAbove cX0_boundAbove 3 (some .long) ∈ GW := gw_t4 121 rfl rfl
theorem gw_310 : Cond.instanceMethod yX0_boundAbove ∈ GW := gw_t4 119 rfl rfl
theorem gw_311 : Cond.selects RX0 yX0_boundAbove yX0_boundAbove ∈ GW := gw_t4 120 rfl rfl
theorem gw_312 : Cond.code yX0_boundBelow cX0_boundBelow 3 (some .long) ∈ GW := gw_t4 129 rfl rfl
theorem gw_313 : Cond.instanceMethod yX0_boundBelow ∈ GW := gw_t4 127 rfl rfl
theorem gw_314 : Cond.selects RX0 yX0_boundBelow yX0_boundBelow ∈ GW := gw_t4 128 rfl rfl
theorem gw_315 : Cond.code yX0_commonDivisor cX0_commonDivisor 8 (some .long) ∈ GW := gw_t4 125 rfl rfl
theorem gw_316 : Cond.instanceMethod yX0_commonDivisor ∈ GW := gw_t4 123 rfl rfl
theorem gw_317 : Cond.selects RX0 yX0_commonDivisor yX0_commonDivisor ∈ GW := gw_t4 124 rfl rfl
theorem gw_318 : Cond.code yX0_giveBack cX0_giveBack 5 none ∈ GW := gw_t3 160 rfl rfl
theorem gw_319 : Cond.instanceMethod yX0_giveBack ∈ GW := gw_t3 158 rfl rfl
theorem gw_320 : Cond.selects RX0 yX0_giveBack yX0_giveBack ∈ GW := gw_t3 159 rfl rfl
theorem gw_321 : Cond.code yX0_leastOpenRing cX0_leastOpenRing 8 (some .int) ∈ GW := gw_t3 133 rfl rfl
theorem gw_322 : Cond.instanceMethod yX0_leastOpenRing ∈ GW := gw_t3 131 rfl rfl
theorem gw_323 : Cond.selects RX0 yX0_leastOpenRing yX0_leastOpenRing ∈ GW := gw_t3 132 rfl rfl
theorem gw_324 : Cond.code yX0_pileWeightless cX0_pileWeightless 2 none ∈ GW := gw_t3 156 rfl rfl
theorem gw_325 : Cond.instanceMethod yX0_pileWeightless ∈ GW := gw_t3 154 rfl rfl
theorem gw_326 : Cond.selects RX0 yX0_pileWeightless yX0_pileWeightless ∈ GW := gw_t3 155 rfl rfl
theorem gw_327 : Cond.code yX0_run cX0_run 5 none ∈ GW := gw_t3 118 rfl rfl
theorem gw_328 : Cond.instanceMethod yX0_run ∈ GW := gw_t3 116 rfl rfl
theorem gw_329 : Cond.selects RX0 yX0_run yX0_run ∈ GW := gw_t3 117 rfl rfl
theorem gw_330 : Cond.code yX0_strip cX0_strip 5 none ∈ GW := gw_t3 127 rfl rfl
theorem gw_331 : Cond.instanceMethod yX0_strip ∈ GW := gw_t3 125 rfl rfl
theorem gw_332 : Cond.selects RX0 yX0_strip yX0_strip ∈ GW := gw_t3 126 rfl rfl
theorem gw_333 : Cond.code yX0_takeFromAll cX0_takeFromAll 7 none ∈ GW := gw_t3 147 rfl rfl
theorem gw_334 : Cond.instanceMethod yX0_takeFromAll ∈ GW := gw_t3 145 rfl rfl
theorem gw_335 : Cond.selects RX0 yX0_takeFromAll yX0_takeFromAll ∈ GW := gw_t3 146 rfl rfl
theorem gw_336 : Cond.code yX0_takeFromRing cX0_takeFromRing 5 none ∈ GW := gw_t3 139 rfl rfl
theorem gw_337 : Cond.instanceMethod yX0_takeFromRing ∈ GW := gw_t3 137 rfl rfl
theorem gw_338 : Cond.selects RX0 yX0_takeFromRing yX0_takeFromRing ∈ GW := gw_t3 138 rfl rfl
theorem gw_339 : Cond.code yX10_append cX10_append 3 none ∈ GW := gw_t2 48 rfl rfl
theorem gw_340 : Cond.instanceMethod yX10_append ∈ GW := gw_t2 46 rfl rfl
theorem gw_341 : Cond.selects RX10 yX10_append yX10_append ∈ GW := gw_t2 47 rfl rfl
theorem gw_342 : Cond.initialized RX10 ∈ GW := gw_t1 2 rfl rfl
theorem gw_343 : Cond.code yX10_byteAt cX10_byteAt 2 (some .int) ∈ GW := gw_t2 71 rfl rfl
theorem gw_344 : Cond.instanceMethod yX10_byteAt ∈ GW := gw_t2 69 rfl rfl
theorem gw_345 : Cond.selects RX10 yX10_byteAt yX10_byteAt ∈ GW := gw_t2 70 rfl rfl
theorem gw_346 : Cond.code yX10_hasRoom cX10_hasRoom 1 (some .boolean) ∈ GW := gw_t2 44 rfl rfl
theorem gw_347 : Cond.instanceMethod yX10_hasRoom ∈ GW := gw_t2 42 rfl rfl
theorem gw_348 : Cond.selects RX10 yX10_hasRoom yX10_hasRoom ∈ GW := gw_t2 43 rfl rfl
theorem gw_349 : Cond.code yX11_cuts cX11_cuts 2 (some .int) ∈ GW := gw_t2 209 rfl rfl
theorem gw_350 : Cond.instanceMethod yX11_cuts ∈ GW := gw_t2 207 rfl rfl
theorem gw_351 : Cond.selects RX11 yX11_cuts yX11_cuts ∈ GW := gw_t2 208 rfl rfl
theorem gw_352 : Cond.initialized RX11 ∈ GW := gw_t1 1 rfl rfl
theorem gw_353 : Cond.code yX11_discountNow cX11_discountNow 1 (some (.object "RingCutters$Discount")) ∈ GW := gw_t3 114 rfl rfl
theorem gw_354 : Cond.instanceMethod yX11_discountNow ∈ GW := gw_t3 113 rfl rfl
theorem gw_355 : Cond.selects RX11 yX11_discountNow yX11_discountNow ∈ GW := gw_s 5 14 rfl rfl
theorem gw_356 : Cond.code yX11_doDeed cX11_doDeed 4 (some .boolean) ∈ GW := gw_t4 7 rfl rfl
theorem gw_357 : Cond.instanceMethod yX11_doDeed ∈ GW := gw_t4 6 rfl rfl
theorem gw_358 : Cond.selects RX11 yX11_doDeed yX11_doDeed ∈ GW := gw_s 7 14 rfl rfl
theorem gw_359 : Cond.code yX11_drawn cX11_drawn 5 (some .int) ∈ GW := gw_t4 3 rfl rfl
theorem gw_360 : Cond.instanceMethod yX11_drawn ∈ GW := gw_t4 1 rfl rfl
theorem gw_361 : Cond.selects RX11 yX11_drawn yX11_drawn ∈ GW := gw_t4 2 rfl rfl
theorem gw_362 : Cond.code yX11_drop cX11_drop 2 (some .int) ∈ GW := gw_t3 220 rfl rfl
theorem gw_363 : Cond.instanceMethod yX11_drop ∈ GW := gw_t3 218 rfl rfl
theorem gw_364 : Cond.selects RX11 yX11_drop yX11_drop ∈ GW := gw_t3 219 rfl rfl
theorem gw_365 : Cond.code yX11_end cX11_end 2 (some .boolean) ∈ GW := gw_t2 52 rfl rfl
theorem gw_366 : Cond.instanceMethod yX11_end ∈ GW := gw_t2 50 rfl rfl
theorem gw_367 : Cond.selects RX11 yX11_end yX11_end ∈ GW := gw_t2 51 rfl rfl
theorem gw_368 : Cond.code yX11_fault cX11_fault 1 (some .int) ∈ GW := gw_t2 170 rfl rfl
theorem gw_369 : Cond.instanceMethod yX11_fault ∈ GW := gw_t2 168 rfl rfl
theorem gw_370 : Cond.selects RX11 yX11_fault yX11_fault ∈ GW := gw_t2 169 rfl rfl
theorem gw_371 : Cond.code yX11_feed cX11_feed 6 (some .int) ∈ GW := gw_t2 40 rfl rfl
theorem gw_372 : Cond.instanceMethod yX11_feed ∈ GW := gw_t2 38 rfl rfl
theorem gw_373 : Cond.selects RX11 yX11_feed yX11_feed ∈ GW := gw_t2 39 rfl rfl
theorem gw_374 : Cond.code yX11_fewest cX11_fewest 2 (some .int) ∈ GW := gw_t3 9 rfl rfl
theorem gw_375 : Cond.instanceMethod yX11_fewest ∈ GW := gw_t3 7 rfl rfl
theorem gw_376 : Cond.selects RX11 yX11_fewest yX11_fewest ∈ GW := gw_t3 8 rfl rfl
theorem gw_377 : Cond.code yX11_image cX11_image 3 (some .boolean) ∈ GW := gw_t4 24 rfl rfl
theorem gw_378 : Cond.instanceMethod yX11_image ∈ GW := gw_t4 22 rfl rfl
theorem gw_379 : Cond.selects RX11 yX11_image yX11_image ∈ GW := gw_t4 23 rfl rfl
theorem gw_380 : Cond.code yX11_join cX11_join 3 (some .int) ∈ GW := gw_t3 225 rfl rfl
theorem gw_381 : Cond.instanceMethod yX11_join ∈ GW := gw_t3 223 rfl rfl
theorem gw_382 : Cond.selects RX11 yX11_join yX11_join ∈ GW := gw_t3 224 rfl rfl
theorem gw_383 : Cond.code yX11_keepAct cX11_keepAct 1 none ∈ GW := gw_t3 207 rfl rfl
theorem gw_384 : Cond.instanceMethod yX11_keepAct ∈ GW := gw_t3 206 rfl rfl
theorem gw_385 : Cond.selects RX11 yX11_keepAct yX11_keepAct ∈ GW := gw_s 6 14 rfl rfl
theorem gw_386 : Cond.code yX11_keptAt cX11_keptAt 2 (some (.object "RingCutters$Kept")) ∈ GW := gw_t4 28 rfl rfl
theorem gw_387 : Cond.instanceMethod yX11_keptAt ∈ GW := gw_t4 27 rfl rfl
theorem gw_388 : Cond.selects RX11 yX11_keptAt yX11_keptAt ∈ GW := gw_s 8 14 rfl rfl
theorem gw_389 : Cond.code yX11_lightest cX11_lightest 2 (some .int) ∈ GW := gw_t3 22 rfl rfl
theorem gw_390 : Cond.instanceMethod yX11_lightest ∈ GW := gw_t3 20 rfl rfl
theorem gw_391 : Cond.selects RX11 yX11_lightest yX11_lightest ∈ GW := gw_t3 21 rfl rfl
theorem gw_392 : Cond.code yX11_lightestCut cX11_lightestCut 6 (some .int) ∈ GW := gw_t3 26 rfl rfl
theorem gw_393 : Cond.instanceMethod yX11_lightestCut ∈ GW := gw_t3 25 rfl rfl
theorem gw_394 : Cond.selects RX11 yX11_lightestCut yX11_lightestCut ∈ GW := gw_s 3 14 rfl rfl
theorem gw_395 : Cond.code yX11_lines cX11_lines 3 (some .int) ∈ GW := gw_t2 203 rfl rfl
theorem gw_396 : Cond.instanceMethod yX11_lines ∈ GW := gw_t2 201 rfl rfl
theorem gw_397 : Cond.selects RX11 yX11_lines yX11_lines ∈ GW := gw_t2 202 rfl rfl
theorem gw_398 : Cond.code yX11_markChanged cX11_markChanged 1 none ∈ GW := gw_t2 166 rfl rfl
theorem gw_399 : Cond.instanceMethod yX11_markChanged ∈ GW := gw_t2 165 rfl rfl
theorem gw_400 : Cond.selects RX11 yX11_markChanged yX11_markChanged ∈ GW := gw_s 0 14 rfl rfl
theorem gw_401 : Cond.code yX11_near cX11_near 1 (some .int) ∈ GW := gw_t3 110 rfl rfl
theorem gw_402 : Cond.instanceMethod yX11_near ∈ GW := gw_t3 108 rfl rfl
theorem gw_403 : Cond.selects RX11 yX11_near yX11_near ∈ GW := gw_t3 109 rfl rfl
theorem gw_404 : Cond.code yX11_net cX11_net 1 (some .int) ∈ GW := gw_t2 56 rfl rfl
theorem gw_405 : Cond.instanceMethod yX11_net ∈ GW := gw_t2 54 rfl rfl
theorem gw_406 : Cond.selects RX11 yX11_net yX11_net ∈ GW := gw_t2 55 rfl rfl
theorem gw_407 : Cond.code yX11_now cX11_now 2 (some .int) ∈ GW := gw_t2 174 rfl rfl
theorem gw_408 : Cond.instanceMethod yX11_now ∈ GW := gw_t2 172 rfl rfl
theorem gw_409 : Cond.selects RX11 yX11_now yX11_now ∈ GW := gw_t2 173 rfl rfl
theorem gw_410 : Cond.code yX11_pack cX11_pack 2 (some .int) ∈ GW := gw_t3 98 rfl rfl
theorem gw_411 : Cond.instanceMethod yX11_pack ∈ GW := gw_t3 96 rfl rfl
theorem gw_412 : Cond.selects RX11 yX11_pack yX11_pack ∈ GW := gw_t3 97 rfl rfl
theorem gw_413 : Cond.code yX11_packed cX11_packed 1 (some .int) ∈ GW := gw_t3 68 rfl rfl
theorem gw_414 : Cond.instanceMethod yX11_packed ∈ GW := gw_t3 66 rfl rfl
theorem gw_415 : Cond.selects RX11 yX11_packed yX11_packed ∈ GW := gw_t3 67 rfl rfl
theorem gw_416 : Cond.code yX11_packingNow cX11_packingNow 1 (some (.object "RingCutters$Packing")) ∈ GW := gw_t3 72 rfl rfl
theorem gw_417 : Cond.instanceMethod yX11_packingNow ∈ GW := gw_t3 71 rfl rfl
theorem gw_418 : Cond.selects RX11 yX11_packingNow yX11_packingNow ∈ GW := gw_s 4 14 rfl rfl
theorem gw_419 : Cond.code yX11_part cX11_part 3 (some .int) ∈ GW := gw_t3 230 rfl rfl
theorem gw_420 : Cond.instanceMethod yX11_part ∈ GW := gw_t3 228 rfl rfl
theorem gw_421 : Cond.selects RX11 yX11_part yX11_part ∈ GW := gw_t3 229 rfl rfl
theorem gw_422 : Cond.code yX11_restore cX11_restore 3 (some .boolean) ∈ GW := gw_t4 32 rfl rfl
theorem gw_423 : Cond.instanceMethod yX11_restore ∈ GW := gw_t4 30 rfl rfl
theorem gw_424 : Cond.selects RX11 yX11_restore yX11_restore ∈ GW := gw_t4 31 rfl rfl
theorem gw_425 : Cond.code yX11_rings cX11_rings 1 (some .long) ∈ GW := gw_t3 42 rfl rfl
theorem gw_426 : Cond.instanceMethod yX11_rings ∈ GW := gw_t3 40 rfl rfl
theorem gw_427 : Cond.selects RX11 yX11_rings yX11_rings ∈ GW := gw_t3 41 rfl rfl
theorem gw_428 : Cond.code yX11_ringsNow cX11_ringsNow 1 (some (.object "RingCutters$Rings")) ∈ GW := gw_t2 217 rfl rfl
theorem gw_429 : Cond.instanceMethod yX11_ringsNow ∈ GW := gw_t2 216 rfl rfl
theorem gw_430 : Cond.selects RX11 yX11_ringsNow yX11_ringsNow ∈ GW := gw_s 1 14 rfl rfl
theorem gw_431 : Cond.code yX11_shortest cX11_shortest 1 (some .int) ∈ GW := gw_t3 56 rfl rfl
theorem gw_432 : Cond.instanceMethod yX11_shortest ∈ GW := gw_t3 54 rfl rfl
theorem gw_433 : Cond.selects RX11 yX11_shortest yX11_shortest ∈ GW := gw_t3 55 rfl rfl
theorem gw_434 : Cond.code yX11_shrink cX11_shrink 2 (some .int) ∈ GW := gw_t3 166 rfl rfl
theorem gw_435 : Cond.instanceMethod yX11_shrink ∈ GW := gw_t3 164 rfl rfl
theorem gw_436 : Cond.selects RX11 yX11_shrink yX11_shrink ∈ GW := gw_t3 165 rfl rfl
theorem gw_437 : Cond.code yX11_shrinkAll cX11_shrinkAll 3 (some .int) ∈ GW := gw_t3 216 rfl rfl
theorem gw_438 : Cond.instanceMethod yX11_shrinkAll ∈ GW := gw_t3 214 rfl rfl
theorem gw_439 : Cond.selects RX11 yX11_shrinkAll yX11_shrinkAll ∈ GW := gw_t3 215 rfl rfl
theorem gw_440 : Cond.code yX11_sparing cX11_sparing 2 (some .int) ∈ GW := gw_t3 34 rfl rfl
theorem gw_441 : Cond.instanceMethod yX11_sparing ∈ GW := gw_t3 32 rfl rfl
theorem gw_442 : Cond.selects RX11 yX11_sparing yX11_sparing ∈ GW := gw_t3 33 rfl rfl
theorem gw_443 : Cond.code yX11_tellSet cX11_tellSet 3 (some .int) ∈ GW := gw_t3 17 rfl rfl
theorem gw_444 : Cond.instanceMethod yX11_tellSet ∈ GW := gw_t3 16 rfl rfl
theorem gw_445 : Cond.selects RX11 yX11_tellSet yX11_tellSet ∈ GW := gw_s 2 14 rfl rfl
theorem gw_446 : Cond.code yX11_those cX11_those 8 (some .int) ∈ GW := gw_t3 30 rfl rfl
theorem gw_447 : Cond.instanceMethod yX11_those ∈ GW := gw_t3 28 rfl rfl
theorem gw_448 : Cond.selects RX11 yX11_those yX11_those ∈ GW := gw_t3 29 rfl rfl
theorem gw_449 : Cond.code yX11_undo cX11_undo 1 (some .int) ∈ GW := gw_t4 16 rfl rfl
theorem gw_450 : Cond.instanceMethod yX11_undo ∈ GW := gw_t4 14 rfl rfl
theorem gw_451 : Cond.selects RX11 yX11_undo yX11_undo ∈ GW := gw_t4 15 rfl rfl
theorem gw_452 : Cond.code yX11_upTo cX11_upTo 3 (some .int) ∈ GW := gw_t3 38 rfl rfl
theorem gw_453 : Cond.instanceMethod yX11_upTo ∈ GW := gw_t3 36 rfl rfl
theorem gw_454 : Cond.selects RX11 yX11_upTo yX11_upTo ∈ GW := gw_t3 37 rfl rfl
theorem gw_455 : Cond.code yX11_weigh cX11_weigh 3 (some .int) ∈ GW := gw_t3 238 rfl rfl
theorem gw_456 : Cond.instanceMethod yX11_weigh ∈ GW := gw_t3 236 rfl rfl
theorem gw_457 : Cond.selects RX11 yX11_weigh yX11_weigh ∈ GW := gw_t3 237 rfl rfl
theorem gw_458 : Cond.code yX12_adds cX12_adds 4 none ∈ GW := gw_t5 74 rfl rfl
theorem gw_459 : Cond.static yX12_adds ∈ GW := gw_t5 73 rfl rfl
theorem gw_460 : Cond.initialized RX12 ∈ GW := gw_t1 11 rfl rfl
theorem gw_461 : Cond.code yX12_allEnds cX12_allEnds 2 (some .int) ∈ GW := gw_t5 71 rfl rfl
theorem gw_462 : Cond.static yX12_allEnds ∈ GW := gw_t5 70 rfl rfl
theorem gw_463 : Cond.code yX12_areThere cX12_areThere 2 (some .boolean) ∈ GW := gw_t5 132 rfl rfl
theorem gw_464 : Cond.instanceMethod yX12_areThere ∈ GW := gw_t5 131 rfl rfl
theorem gw_465 : Cond.selects RX12 yX12_areThere yX12_areThere ∈ GW := gw_s 27 30 rfl rfl
theorem gw_466 : Cond.code yX12_bad cX12_bad 2 (some .boolean) ∈ GW := gw_t5 37 rfl rfl
theorem gw_467 : Cond.instanceMethod yX12_bad ∈ GW := gw_t5 36 rfl rfl
theorem gw_468 : Cond.selects RX12 yX12_bad yX12_bad ∈ GW := gw_s 15 30 rfl rfl
theorem gw_469 : Cond.code yX12_bestCut cX12_bestCut 8 (some .int) ∈ GW := gw_t5 151 rfl rfl
theorem gw_470 : Cond.instanceMethod yX12_bestCut ∈ GW := gw_t5 150 rfl rfl
theorem gw_471 : Cond.selects RX12 yX12_bestCut yX12_bestCut ∈ GW := gw_s 30 30 rfl rfl
theorem gw_472 : Cond.code yX12_between cX12_between 3 (some .int) ∈ GW := gw_t5 68 rfl rfl
theorem gw_473 : Cond.static yX12_between ∈ GW := gw_t5 67 rfl rfl
theorem gw_474 : Cond.code yX12_bits cX12_bits 3 (some .int) ∈ GW := gw_t5 143 rfl rfl
theorem gw_475 : Cond.static yX12_bits ∈ GW := gw_t5 142 rfl rfl
theorem gw_476 : Cond.code yX12_bound cX12_bound 2 (some .long) ∈ GW := gw_t5 235 rfl rfl
theorem gw_477 : Cond.instanceMethod yX12_bound ∈ GW := gw_t5 233 rfl rfl
theorem gw_478 : Cond.selects RX12 yX12_bound yX12_bound ∈ GW := gw_t5 234 rfl rfl
theorem gw_479 : Cond.code yX12_bounds cX12_bounds 12 none ∈ GW := gw_t5 231 rfl rfl
theorem gw_480 : Cond.instanceMethod yX12_bounds ∈ GW := gw_t5 230 rfl rfl
theorem gw_481 : Cond.selects RX12 yX12_bounds yX12_bounds ∈ GW := gw_s 40 30 rfl rfl
theorem gw_482 : Cond.code yX12_copy cX12_copy 5 none ∈ GW := gw_t5 81 rfl rfl
theorem gw_483 : Cond.static yX12_copy ∈ GW := gw_t5 80 rfl rfl
theorem gw_484 : Cond.code yX12_cuts cX12_cuts 2 (some .int) ∈ GW := gw_t5 128 rfl rfl
theorem gw_485 : Cond.instanceMethod yX12_cuts ∈ GW := gw_t5 126 rfl rfl
theorem gw_486 : Cond.selects RX12 yX12_cuts yX12_cuts ∈ GW := gw_t5 127 rfl rfl
theorem gw_487 : Cond.code yX12_divisor cX12_divisor 4 (some .long) ∈ GW := gw_t5 223 rfl rfl
theorem gw_488 : Cond.static yX12_divisor ∈ GW := gw_t5 222 rfl rfl
theorem gw_489 : Cond.code yX12_does cX12_does 5 (some .boolean) ∈ GW := gw_t6 66 rfl rfl
theorem gw_490 : Cond.instanceMethod yX12_does ∈ GW := gw_t6 65 rfl rfl
theorem gw_491 : Cond.selects RX12 yX12_does yX12_does ∈ GW := gw_s 50 30 rfl rfl
theorem gw_492 : Cond.code yX12_draw cX12_draw 2 (some .int) ∈ GW := gw_t6 70 rfl rfl
theorem gw_493 : Cond.instanceMethod yX12_draw ∈ GW := gw_t6 69 rfl rfl
theorem gw_494 : Cond.selects RX12 yX12_draw yX12_draw ∈ GW := gw_s 51 30 rfl rfl
theorem gw_495 : Cond.code yX12_drawn cX12_drawn 5 (some .int) ∈ GW := gw_t6 62 rfl rfl
theorem gw_496 : Cond.instanceMethod yX12_drawn ∈ GW := gw_t6 60 rfl rfl
theorem gw_497 : Cond.selects RX12 yX12_drawn yX12_drawn ∈ GW := gw_t6 61 rfl rfl
theorem gw_498 : Cond.code yX12_drop cX12_drop 2 (some .int) ∈ GW := gw_t6 42 rfl rfl
theorem gw_499 : Cond.instanceMethod yX12_drop ∈ GW := gw_t6 40 rfl rfl
theorem gw_500 : Cond.selects RX12 yX12_drop yX12_drop ∈ GW := gw_t6 41 rfl rfl
theorem gw_501 : Cond.code yX12_end cX12_end 2 (some .boolean) ∈ GW := gw_t4 146 rfl rfl
theorem gw_502 : Cond.instanceMethod yX12_end ∈ GW := gw_t4 144 rfl rfl
theorem gw_503 : Cond.selects RX12 yX12_end yX12_end ∈ GW := gw_t4 145 rfl rfl
theorem gw_504 : Cond.code yX12_ends cX12_ends 5 (some .int) ∈ GW := gw_t5 65 rfl rfl
theorem gw_505 : Cond.static yX12_ends ∈ GW := gw_t5 64 rfl rfl
theorem gw_506 : Cond.code yX12_fault cX12_fault 1 (some .int) ∈ GW := gw_t5 85 rfl rfl
theorem gw_507 : Cond.instanceMethod yX12_fault ∈ GW := gw_t5 83 rfl rfl
theorem gw_508 : Cond.selects RX12 yX12_fault yX12_fault ∈ GW := gw_t5 84 rfl rfl
theorem gw_509 : Cond.code yX12_feed cX12_feed 6 (some .int) ∈ GW := gw_t4 137 rfl rfl
theorem gw_510 : Cond.instanceMethod yX12_feed ∈ GW := gw_t4 135 rfl rfl
theorem gw_511 : Cond.selects RX12 yX12_feed yX12_feed ∈ GW := gw_t4 136 rfl rfl
theorem gw_512 : Cond.code yX12_fewest cX12_fewest 2 (some .int) ∈ GW := gw_t5 147 rfl rfl
theorem gw_513 : Cond.instanceMethod yX12_fewest ∈ GW := gw_t5 145 rfl rfl
theorem gw_514 : Cond.selects RX12 yX12_fewest yX12_fewest ∈ GW := gw_t5 146 rfl rfl
theorem gw_515 : Cond.code yX12_first cX12_first 3 (some .int) ∈ GW := gw_t6 7 rfl rfl
theorem gw_516 : Cond.instanceMethod yX12_first ∈ GW := gw_t6 6 rfl rfl
theorem gw_517 : Cond.selects RX12 yX12_first yX12_first ∈ GW := gw_s 42 30 rfl rfl
theorem gw_518 : Cond.code yX12_goes cX12_goes 8 none ∈ GW := gw_t5 183 rfl rfl
theorem gw_519 : Cond.instanceMethod yX12_goes ∈ GW := gw_t5 182 rfl rfl
theorem gw_520 : Cond.selects RX12 yX12_goes yX12_goes ∈ GW := gw_s 33 30 rfl rfl
theorem gw_521 : Cond.code yX12_has cX12_has 2 (some .boolean) ∈ GW := gw_t5 62 rfl rfl
theorem gw_522 : Cond.static yX12_has ∈ GW := gw_t5 61 rfl rfl
theorem gw_523 : Cond.code yX12_image cX12_image 2 (some .boolean) ∈ GW := gw_t6 79 rfl rfl
theorem gw_524 : Cond.instanceMethod yX12_image ∈ GW := gw_t6 77 rfl rfl
theorem gw_525 : Cond.selects RX12 yX12_image yX12_image ∈ GW := gw_t6 78 rfl rfl
theorem gw_526 : Cond.code yX12_isCut cX12_isCut 3 (some .boolean) ∈ GW := gw_t5 136 rfl rfl
theorem gw_527 : Cond.instanceMethod yX12_isCut ∈ GW := gw_t5 135 rfl rfl
theorem gw_528 : Cond.selects RX12 yX12_isCut yX12_isCut ∈ GW := gw_s 28 30 rfl rfl
theorem gw_529 : Cond.code yX12_isDigit cX12_isDigit 1 (some .boolean) ∈ GW := gw_t5 16 rfl rfl
theorem gw_530 : Cond.static yX12_isDigit ∈ GW := gw_t5 15 rfl rfl
theorem gw_531 : Cond.code yX12_isIn cX12_isIn 3 (some .boolean) ∈ GW := gw_t5 52 rfl rfl
theorem gw_532 : Cond.static yX12_isIn ∈ GW := gw_t5 51 rfl rfl
theorem gw_533 : Cond.code yX12_isLetter cX12_isLetter 1 (some .boolean) ∈ GW := gw_t5 13 rfl rfl
theorem gw_534 : Cond.static yX12_isLetter ∈ GW := gw_t5 12 rfl rfl
theorem gw_535 : Cond.code yX12_isLineWord cX12_isLineWord 1 (some .boolean) ∈ GW := gw_t5 45 rfl rfl
theorem gw_536 : Cond.instanceMethod yX12_isLineWord ∈ GW := gw_t5 44 rfl rfl
theorem gw_537 : Cond.selects RX12 yX12_isLineWord yX12_isLineWord ∈ GW := gw_s 17 30 rfl rfl
theorem gw_538 : Cond.code yX12_isName cX12_isName 1 (some .boolean) ∈ GW := gw_t5 41 rfl rfl
theorem gw_539 : Cond.instanceMethod yX12_isName ∈ GW := gw_t5 40 rfl rfl
theorem gw_540 : Cond.selects RX12 yX12_isName yX12_isName ∈ GW := gw_s 16 30 rfl rfl
theorem gw_541 : Cond.code yX12_isOpen cX12_isOpen 2 (some .boolean) ∈ GW := gw_t5 140 rfl rfl
theorem gw_542 : Cond.instanceMethod yX12_isOpen ∈ GW := gw_t5 139 rfl rfl
theorem gw_543 : Cond.selects RX12 yX12_isOpen yX12_isOpen ∈ GW := gw_s 29 30 rfl rfl
theorem gw_544 : Cond.code yX12_isPointWord cX12_isPointWord 1 (some .boolean) ∈ GW := gw_t5 26 rfl rfl
theorem gw_545 : Cond.instanceMethod yX12_isPointWord ∈ GW := gw_t5 25 rfl rfl
theorem gw_546 : Cond.selects RX12 yX12_isPointWord yX12_isPointWord ∈ GW := gw_s 13 30 rfl rfl
theorem gw_547 : Cond.code yX12_isThere cX12_isThere 2 (some .boolean) ∈ GW := gw_t5 116 rfl rfl
theorem gw_548 : Cond.instanceMethod yX12_isThere ∈ GW := gw_t5 115 rfl rfl
theorem gw_549 : Cond.selects RX12 yX12_isThere yX12_isThere ∈ GW := gw_s 25 30 rfl rfl
theorem gw_550 : Cond.code yX12_join cX12_join 3 (some .int) ∈ GW := gw_t6 46 rfl rfl
theorem gw_551 : Cond.instanceMethod yX12_join ∈ GW := gw_t6 44 rfl rfl
theorem gw_552 : Cond.selects RX12 yX12_join yX12_join ∈ GW := gw_t6 45 rfl rfl
theorem gw_553 : Cond.code yX12_lay cX12_lay 3 none ∈ GW := gw_t4 142 rfl rfl
theorem gw_554 : Cond.instanceMethod yX12_lay ∈ GW := gw_t4 140 rfl rfl
theorem gw_555 : Cond.selects RX12 yX12_lay yX12_lay ∈ GW := gw_s 10 30 rfl rfl
theorem gw_556 : Cond.code yX12_laysApart cX12_laysApart 5 none ∈ GW := gw_t5 196 rfl rfl
theorem gw_557 : Cond.instanceMethod yX12_laysApart ∈ GW := gw_t5 195 rfl rfl
theorem gw_558 : Cond.selects RX12 yX12_laysApart yX12_laysApart ∈ GW := gw_s 34 30 rfl rfl
theorem gw_559 : Cond.code yX12_laysNear cX12_laysNear 4 (some .int) ∈ GW := gw_t5 208 rfl rfl
theorem gw_560 : Cond.instanceMethod yX12_laysNear ∈ GW := gw_t5 207 rfl rfl
theorem gw_561 : Cond.selects RX12 yX12_laysNear yX12_laysNear ∈ GW := gw_s 35 30 rfl rfl
theorem gw_562 : Cond.code yX12_laysRings cX12_laysRings 4 none ∈ GW := gw_t5 179 rfl rfl
theorem gw_563 : Cond.instanceMethod yX12_laysRings ∈ GW := gw_t5 178 rfl rfl
theorem gw_564 : Cond.selects RX12 yX12_laysRings yX12_laysRings ∈ GW := gw_s 32 30 rfl rfl
theorem gw_565 : Cond.code yX12_least cX12_least 2 (some .int) ∈ GW := gw_t5 100 rfl rfl
theorem gw_566 : Cond.static yX12_least ∈ GW := gw_t5 99 rfl rfl
theorem gw_567 : Cond.code yX12_leaves cX12_leaves 3 none ∈ GW := gw_t6 26 rfl rfl
theorem gw_568 : Cond.static yX12_leaves ∈ GW := gw_t6 25 rfl rfl
theorem gw_569 : Cond.code yX12_lightest cX12_lightest 2 (some .int) ∈ GW := gw_t5 159 rfl rfl
theorem gw_570 : Cond.instanceMethod yX12_lightest ∈ GW := gw_t5 157 rfl rfl
theorem gw_571 : Cond.selects RX12 yX12_lightest yX12_lightest ∈ GW := gw_t5 158 rfl rfl
theorem gw_572 : Cond.code yX12_lineMany cX12_lineMany 4 (some .int) ∈ GW := gw_t5 59 rfl rfl
theorem gw_573 : Cond.static yX12_lineMany ∈ GW := gw_t5 58 rfl rfl
theorem gw_574 : Cond.code yX12_lines cX12_lines 3 (some .int) ∈ GW := gw_t5 124 rfl rfl
theorem gw_575 : Cond.instanceMethod yX12_lines ∈ GW := gw_t5 122 rfl rfl
theorem gw_576 : Cond.selects RX12 yX12_lines yX12_lines ∈ GW := gw_t5 123 rfl rfl
theorem gw_577 : Cond.code yX12_mayJoin cX12_mayJoin 3 (some .boolean) ∈ GW := gw_t6 50 rfl rfl
theorem gw_578 : Cond.instanceMethod yX12_mayJoin ∈ GW := gw_t6 49 rfl rfl
theorem gw_579 : Cond.selects RX12 yX12_mayJoin yX12_mayJoin ∈ GW := gw_s 49 30 rfl rfl
theorem gw_580 : Cond.code yX12_mayStep cX12_mayStep 3 (some .boolean) ∈ GW := gw_t6 11 rfl rfl
theorem gw_581 : Cond.instanceMethod yX12_mayStep ∈ GW := gw_t6 10 rfl rfl
theorem gw_582 : Cond.selects RX12 yX12_mayStep yX12_mayStep ∈ GW := gw_s 43 30 rfl rfl
theorem gw_583 : Cond.code yX12_named cX12_named 2 (some .int) ∈ GW := gw_t5 49 rfl rfl
theorem gw_584 : Cond.instanceMethod yX12_named ∈ GW := gw_t5 48 rfl rfl
theorem gw_585 : Cond.selects RX12 yX12_named yX12_named ∈ GW := gw_s 18 30 rfl rfl
theorem gw_586 : Cond.code yX12_near cX12_near 1 (some .int) ∈ GW := gw_t5 204 rfl rfl
theorem gw_587 : Cond.instanceMethod yX12_near ∈ GW := gw_t5 202 rfl rfl
theorem gw_588 : Cond.selects RX12 yX12_near yX12_near ∈ GW := gw_t5 203 rfl rfl
theorem gw_589 : Cond.code yX12_net cX12_net 3 (some .int) ∈ GW := gw_t5 6 rfl rfl
theorem gw_590 : Cond.instanceMethod yX12_net ∈ GW := gw_t5 4 rfl rfl
theorem gw_591 : Cond.selects RX12 yX12_net yX12_net ∈ GW := gw_t5 5 rfl rfl
theorem gw_592 : Cond.code yX12_next cX12_next 5 none ∈ GW := gw_t5 10 rfl rfl
theorem gw_593 : Cond.instanceMethod yX12_next ∈ GW := gw_t5 9 rfl rfl
theorem gw_594 : Cond.selects RX12 yX12_next yX12_next ∈ GW := gw_s 11 30 rfl rfl
theorem gw_595 : Cond.code yX12_now cX12_now 2 (some .int) ∈ GW := gw_t5 89 rfl rfl
theorem gw_596 : Cond.instanceMethod yX12_now ∈ GW := gw_t5 87 rfl rfl
theorem gw_597 : Cond.selects RX12 yX12_now yX12_now ∈ GW := gw_t5 88 rfl rfl
theorem gw_598 : Cond.code yX12_one cX12_one 3 (some .int) ∈ GW := gw_t6 19 rfl rfl
theorem gw_599 : Cond.instanceMethod yX12_one ∈ GW := gw_t6 18 rfl rfl
theorem gw_600 : Cond.selects RX12 yX12_one yX12_one ∈ GW := gw_s 45 30 rfl rfl
theorem gw_601 : Cond.code yX12_other cX12_other 3 (some .int) ∈ GW := gw_t6 23 rfl rfl
theorem gw_602 : Cond.instanceMethod yX12_other ∈ GW := gw_t6 22 rfl rfl
theorem gw_603 : Cond.selects RX12 yX12_other yX12_other ∈ GW := gw_s 46 30 rfl rfl
theorem gw_604 : Cond.code yX12_pack cX12_pack 5 (some .int) ∈ GW := gw_t5 200 rfl rfl
theorem gw_605 : Cond.instanceMethod yX12_pack ∈ GW := gw_t5 198 rfl rfl
theorem gw_606 : Cond.selects RX12 yX12_pack yX12_pack ∈ GW := gw_t5 199 rfl rfl
theorem gw_607 : Cond.code yX12_packed cX12_packed 1 (some .int) ∈ GW := gw_t5 192 rfl rfl
theorem gw_608 : Cond.instanceMethod yX12_packed ∈ GW := gw_t5 190 rfl rfl
theorem gw_609 : Cond.selects RX12 yX12_packed yX12_packed ∈ GW := gw_t5 191 rfl rfl
theorem gw_610 : Cond.code yX12_part cX12_part 3 (some .int) ∈ GW := gw_t6 54 rfl rfl
theorem gw_611 : Cond.instanceMethod yX12_part ∈ GW := gw_t6 52 rfl rfl
theorem gw_612 : Cond.selects RX12 yX12_part yX12_part ∈ GW := gw_t6 53 rfl rfl
theorem gw_613 : Cond.code yX12_partOf cX12_partOf 7 (some .int) ∈ GW := gw_t5 104 rfl rfl
theorem gw_614 : Cond.instanceMethod yX12_partOf ∈ GW := gw_t5 103 rfl rfl
theorem gw_615 : Cond.selects RX12 yX12_partOf yX12_partOf ∈ GW := gw_s 23 30 rfl rfl
theorem gw_616 : Cond.code yX12_parts cX12_parts 4 (some .int) ∈ GW := gw_t5 97 rfl rfl
theorem gw_617 : Cond.instanceMethod yX12_parts ∈ GW := gw_t5 96 rfl rfl
theorem gw_618 : Cond.selects RX12 yX12_parts yX12_parts ∈ GW := gw_s 22 30 rfl rfl
theorem gw_619 : Cond.code yX12_point cX12_point 5 (some .int) ∈ GW := gw_t5 112 rfl rfl
theorem gw_620 : Cond.instanceMethod yX12_point ∈ GW := gw_t5 110 rfl rfl
theorem gw_621 : Cond.selects RX12 yX12_point yX12_point ∈ GW := gw_t5 111 rfl rfl
theorem gw_622 : Cond.code yX12_readEnd cX12_readEnd 1 (some .boolean) ∈ GW := gw_t5 78 rfl rfl
theorem gw_623 : Cond.instanceMethod yX12_readEnd ∈ GW := gw_t5 77 rfl rfl
theorem gw_624 : Cond.selects RX12 yX12_readEnd yX12_readEnd ∈ GW := gw_s 20 30 rfl rfl
theorem gw_625 : Cond.code yX12_readLine cX12_readLine 3 (some .boolean) ∈ GW := gw_t5 56 rfl rfl
theorem gw_626 : Cond.instanceMethod yX12_readLine ∈ GW := gw_t5 55 rfl rfl
theorem gw_627 : Cond.selects RX12 yX12_readLine yX12_readLine ∈ GW := gw_s 19 30 rfl rfl
theorem gw_628 : Cond.code yX12_readPoint cX12_readPoint 2 (some .boolean) ∈ GW := gw_t5 33 rfl rfl
theorem gw_629 : Cond.instanceMethod yX12_readPoint ∈ GW := gw_t5 32 rfl rfl
theorem gw_630 : Cond.selects RX12 yX12_readPoint yX12_readPoint ∈ GW := gw_s 14 30 rfl rfl
theorem gw_631 : Cond.code yX12_refuse cX12_refuse 1 (some .int) ∈ GW := gw_t5 120 rfl rfl
theorem gw_632 : Cond.instanceMethod yX12_refuse ∈ GW := gw_t5 119 rfl rfl
theorem gw_633 : Cond.selects RX12 yX12_refuse yX12_refuse ∈ GW := gw_s 26 30 rfl rfl
theorem gw_634 : Cond.code yX12_restore cX12_restore 2 (some .boolean) ∈ GW := gw_t6 83 rfl rfl
theorem gw_635 : Cond.instanceMethod yX12_restore ∈ GW := gw_t6 81 rfl rfl
theorem gw_636 : Cond.selects RX12 yX12_restore yX12_restore ∈ GW := gw_t6 82 rfl rfl
theorem gw_637 : Cond.code yX12_rings cX12_rings 1 (some .long) ∈ GW := gw_t5 175 rfl rfl
theorem gw_638 : Cond.instanceMethod yX12_rings ∈ GW := gw_t5 173 rfl rfl
theorem gw_639 : Cond.selects RX12 yX12_rings yX12_rings ∈ GW := gw_t5 174 rfl rfl
theorem gw_640 : Cond.code yX12_shortest cX12_shortest 3 (some .int) ∈ GW := gw_t5 188 rfl rfl
theorem gw_641 : Cond.instanceMethod yX12_shortest ∈ GW := gw_t5 186 rfl rfl
theorem gw_642 : Cond.selects RX12 yX12_shortest yX12_shortest ∈ GW := gw_t5 187 rfl rfl
theorem gw_643 : Cond.code yX12_shrink cX12_shrink 2 (some .int) ∈ GW := gw_t5 239 rfl rfl
theorem gw_644 : Cond.instanceMethod yX12_shrink ∈ GW := gw_t5 237 rfl rfl
theorem gw_645 : Cond.selects RX12 yX12_shrink yX12_shrink ∈ GW := gw_t5 238 rfl rfl
theorem gw_646 : Cond.code yX12_shrinkAll cX12_shrinkAll 2 (some .int) ∈ GW := gw_t6 38 rfl rfl
theorem gw_647 : Cond.instanceMethod yX12_shrinkAll ∈ GW := gw_t6 36 rfl rfl
theorem gw_648 : Cond.selects RX12 yX12_shrinkAll yX12_shrinkAll ∈ GW := gw_t6 37 rfl rfl
theorem gw_649 : Cond.code yX12_sinks cX12_sinks 11 none ∈ GW := gw_t5 216 rfl rfl
theorem gw_650 : Cond.instanceMethod yX12_sinks ∈ GW := gw_t5 215 rfl rfl
theorem gw_651 : Cond.selects RX12 yX12_sinks yX12_sinks ∈ GW := gw_s 37 30 rfl rfl
theorem gw_652 : Cond.code yX12_snap cX12_snap 2 none ∈ GW := gw_t6 34 rfl rfl
theorem gw_653 : Cond.instanceMethod yX12_snap ∈ GW := gw_t6 33 rfl rfl
theorem gw_654 : Cond.selects RX12 yX12_snap yX12_snap ∈ GW := gw_s 48 30 rfl rfl
theorem gw_655 : Cond.code yX12_sparing cX12_sparing 2 (some .int) ∈ GW := gw_t5 167 rfl rfl
theorem gw_656 : Cond.instanceMethod yX12_sparing ∈ GW := gw_t5 165 rfl rfl
theorem gw_657 : Cond.selects RX12 yX12_sparing yX12_sparing ∈ GW := gw_t5 166 rfl rfl
theorem gw_658 : Cond.code yX12_spelt cX12_spelt 7 (some .long) ∈ GW := gw_t5 29 rfl rfl
theorem gw_659 : Cond.static yX12_spelt ∈ GW := gw_t5 28 rfl rfl
theorem gw_660 : Cond.code yX12_stay cX12_stay 1 none ∈ GW := gw_t6 30 rfl rfl
theorem gw_661 : Cond.instanceMethod yX12_stay ∈ GW := gw_t6 29 rfl rfl
theorem gw_662 : Cond.selects RX12 yX12_stay yX12_stay ∈ GW := gw_s 47 30 rfl rfl
theorem gw_663 : Cond.code yX12_steps cX12_steps 5 (some .int) ∈ GW := gw_t6 3 rfl rfl
theorem gw_664 : Cond.instanceMethod yX12_steps ∈ GW := gw_t6 2 rfl rfl
theorem gw_665 : Cond.selects RX12 yX12_steps yX12_steps ∈ GW := gw_s 41 30 rfl rfl
theorem gw_666 : Cond.code yX12_takes cX12_takes 13 none ∈ GW := gw_t5 227 rfl rfl
theorem gw_667 : Cond.instanceMethod yX12_takes ∈ GW := gw_t5 226 rfl rfl
theorem gw_668 : Cond.selects RX12 yX12_takes yX12_takes ∈ GW := gw_s 39 30 rfl rfl
theorem gw_669 : Cond.code yX12_tapeAt cX12_tapeAt 2 (some .int) ∈ GW := gw_t5 20 rfl rfl
theorem gw_670 : Cond.instanceMethod yX12_tapeAt ∈ GW := gw_t5 19 rfl rfl
theorem gw_671 : Cond.selects RX12 yX12_tapeAt yX12_tapeAt ∈ GW := gw_s 12 30 rfl rfl
theorem gw_672 : Cond.code yX12_tellsCut cX12_tellsCut 3 (some .int) ∈ GW := gw_t5 155 rfl rfl
theorem gw_673 : Cond.instanceMethod yX12_tellsCut ∈ GW := gw_t5 154 rfl rfl
theorem gw_674 : Cond.selects RX12 yX12_tellsCut yX12_tellsCut ∈ GW := gw_s 31 30 rfl rfl
theorem gw_675 : Cond.code yX12_there cX12_there 1 (some .int) ∈ GW := gw_t5 93 rfl rfl
theorem gw_676 : Cond.instanceMethod yX12_there ∈ GW := gw_t5 92 rfl rfl
theorem gw_677 : Cond.selects RX12 yX12_there yX12_there ∈ GW := gw_s 21 30 rfl rfl
theorem gw_678 : Cond.code yX12_thick cX12_thick 3 (some .int) ∈ GW := gw_t6 15 rfl rfl
theorem gw_679 : Cond.instanceMethod yX12_thick ∈ GW := gw_t6 14 rfl rfl
theorem gw_680 : Cond.selects RX12 yX12_thick yX12_thick ∈ GW := gw_s 44 30 rfl rfl
theorem gw_681 : Cond.code yX12_thinRing cX12_thinRing 5 (some .int) ∈ GW := gw_t5 220 rfl rfl
theorem gw_682 : Cond.instanceMethod yX12_thinRing ∈ GW := gw_t5 219 rfl rfl
theorem gw_683 : Cond.selects RX12 yX12_thinRing yX12_thinRing ∈ GW := gw_s 38 30 rfl rfl
theorem gw_684 : Cond.code yX12_those cX12_those 7 (some .int) ∈ GW := gw_t5 163 rfl rfl
theorem gw_685 : Cond.instanceMethod yX12_those ∈ GW := gw_t5 161 rfl rfl
theorem gw_686 : Cond.selects RX12 yX12_those yX12_those ∈ GW := gw_t5 162 rfl rfl
theorem gw_687 : Cond.code yX12_thrown cX12_thrown 1 (some .int) ∈ GW := gw_t4 133 rfl rfl
theorem gw_688 : Cond.instanceMethod yX12_thrown ∈ GW := gw_t4 131 rfl rfl
theorem gw_689 : Cond.selects RX12 yX12_thrown yX12_thrown ∈ GW := gw_t4 132 rfl rfl
theorem gw_690 : Cond.code yX12_trimmed cX12_trimmed 5 (some .int) ∈ GW := gw_t5 212 rfl rfl
theorem gw_691 : Cond.instanceMethod yX12_trimmed ∈ GW := gw_t5 211 rfl rfl
theorem gw_692 : Cond.selects RX12 yX12_trimmed yX12_trimmed ∈ GW := gw_s 36 30 rfl rfl
theorem gw_693 : Cond.code yX12_undo cX12_undo 1 (some .int) ∈ GW := gw_t6 75 rfl rfl
theorem gw_694 : Cond.instanceMethod yX12_undo ∈ GW := gw_t6 73 rfl rfl
theorem gw_695 : Cond.selects RX12 yX12_undo yX12_undo ∈ GW := gw_t6 74 rfl rfl
theorem gw_696 : Cond.code yX12_upTo cX12_upTo 2 (some .int) ∈ GW := gw_t5 171 rfl rfl
theorem gw_697 : Cond.instanceMethod yX12_upTo ∈ GW := gw_t5 169 rfl rfl
theorem gw_698 : Cond.selects RX12 yX12_upTo yX12_upTo ∈ GW := gw_t5 170 rfl rfl
theorem gw_699 : Cond.code yX12_weigh cX12_weigh 3 (some .int) ∈ GW := gw_t6 58 rfl rfl
theorem gw_700 : Cond.instanceMethod yX12_weigh ∈ GW := gw_t6 56 rfl rfl
theorem gw_701 : Cond.selects RX12 yX12_weigh yX12_weigh ∈ GW := gw_t6 57 rfl rfl
theorem gw_702 : Cond.code yX12_weightOf cX12_weightOf 4 (some .int) ∈ GW := gw_t5 108 rfl rfl
theorem gw_703 : Cond.instanceMethod yX12_weightOf ∈ GW := gw_t5 107 rfl rfl
theorem gw_704 : Cond.selects RX12 yX12_weightOf yX12_weightOf ∈ GW := gw_s 24 30 rfl rfl
theorem gw_705 : Cond.code yX1_below cX1_below 2 (some .int) ∈ GW := gw_t4 11 rfl rfl
theorem gw_706 : Cond.instanceMethod yX1_below ∈ GW := gw_t4 9 rfl rfl
theorem gw_707 : Cond.selects RX1 yX1_below yX1_below ∈ GW := gw_t4 10 rfl rfl
theorem gw_708 : Cond.initialized RX1 ∈ GW := gw_t1 7 rfl rfl
theorem gw_709 : Cond.code yX3_addLine cX3_addLine 4 (some .boolean) ∈ GW := gw_t2 149 rfl rfl
theorem gw_710 : Cond.instanceMethod yX3_addLine ∈ GW := gw_t2 147 rfl rfl
theorem gw_711 : Cond.selects RX3 yX3_addLine yX3_addLine ∈ GW := gw_t2 148 rfl rfl
theorem gw_712 : Cond.initialized RX3 ∈ GW := gw_t1 4 rfl rfl
theorem gw_713 : Cond.code yX3_addPoint cX3_addPoint 1 none ∈ GW := gw_t2 109 rfl rfl
theorem gw_714 : Cond.instanceMethod yX3_addPoint ∈ GW := gw_t2 107 rfl rfl
theorem gw_715 : Cond.selects RX3 yX3_addPoint yX3_addPoint ∈ GW := gw_t2 108 rfl rfl
theorem gw_716 : Cond.code yX3_areThere cX3_areThere 2 (some .boolean) ∈ GW := gw_t2 213 rfl rfl
theorem gw_717 : Cond.instanceMethod yX3_areThere ∈ GW := gw_t2 211 rfl rfl
theorem gw_718 : Cond.selects RX3 yX3_areThere yX3_areThere ∈ GW := gw_t2 212 rfl rfl
theorem gw_719 : Cond.code yX3_besides cX3_besides 5 (some .int) ∈ GW := gw_t2 226 rfl rfl
theorem gw_720 : Cond.instanceMethod yX3_besides ∈ GW := gw_t2 224 rfl rfl
theorem gw_721 : Cond.selects RX3 yX3_besides yX3_besides ∈ GW := gw_t2 225 rfl rfl
theorem gw_722 : Cond.code yX3_changeWeight cX3_changeWeight 3 (some .boolean) ∈ GW := gw_t2 118 rfl rfl
theorem gw_723 : Cond.instanceMethod yX3_changeWeight ∈ GW := gw_t2 116 rfl rfl
theorem gw_724 : Cond.selects RX3 yX3_changeWeight yX3_changeWeight ∈ GW := gw_t2 117 rfl rfl
theorem gw_725 : Cond.code yX3_copyFrom cX3_copyFrom 3 none ∈ GW := gw_t2 158 rfl rfl
theorem gw_726 : Cond.instanceMethod yX3_copyFrom ∈ GW := gw_t2 156 rfl rfl
theorem gw_727 : Cond.selects RX3 yX3_copyFrom yX3_copyFrom ∈ GW := gw_t2 157 rfl rfl
theorem gw_728 : Cond.code yX3_empty cX3_empty 2 none ∈ GW := gw_t2 64 rfl rfl
theorem gw_729 : Cond.instanceMethod yX3_empty ∈ GW := gw_t2 62 rfl rfl
theorem gw_730 : Cond.selects RX3 yX3_empty yX3_empty ∈ GW := gw_t2 63 rfl rfl
theorem gw_731 : Cond.code yX3_endsIn cX3_endsIn 5 (some .int) ∈ GW := gw_t2 137 rfl rfl
theorem gw_732 : Cond.instanceMethod yX3_endsIn ∈ GW := gw_t2 135 rfl rfl
theorem gw_733 : Cond.selects RX3 yX3_endsIn yX3_endsIn ∈ GW := gw_t2 136 rfl rfl
theorem gw_734 : Cond.code yX3_holds cX3_holds 2 (some .boolean) ∈ GW := gw_t2 125 rfl rfl
theorem gw_735 : Cond.static yX3_holds ∈ GW := gw_t2 124 rfl rfl
theorem gw_736 : Cond.code yX3_isThere cX3_isThere 2 (some .boolean) ∈ GW := gw_t2 122 rfl rfl
theorem gw_737 : Cond.instanceMethod yX3_isThere ∈ GW := gw_t2 120 rfl rfl
theorem gw_738 : Cond.selects RX3 yX3_isThere yX3_isThere ∈ GW := gw_t2 121 rfl rfl
theorem gw_739 : Cond.code yX3_linesIn cX3_linesIn 4 (some .int) ∈ GW := gw_t3 151 rfl rfl
theorem gw_740 : Cond.instanceMethod yX3_linesIn ∈ GW := gw_t3 149 rfl rfl
theorem gw_741 : Cond.selects RX3 yX3_linesIn yX3_linesIn ∈ GW := gw_t3 150 rfl rfl
theorem gw_742 : Cond.code yX3_linesOf cX3_linesOf 4 (some .int) ∈ GW := gw_t2 141 rfl rfl
theorem gw_743 : Cond.instanceMethod yX3_linesOf ∈ GW := gw_t2 139 rfl rfl
theorem gw_744 : Cond.selects RX3 yX3_linesOf yX3_linesOf ∈ GW := gw_t2 140 rfl rfl
theorem gw_745 : Cond.code yX3_partsIn cX3_partsIn 5 (some .int) ∈ GW := gw_t2 178 rfl rfl
theorem gw_746 : Cond.instanceMethod yX3_partsIn ∈ GW := gw_t2 176 rfl rfl
theorem gw_747 : Cond.selects RX3 yX3_partsIn yX3_partsIn ∈ GW := gw_t2 177 rfl rfl
theorem gw_748 : Cond.code yX3_reachedFrom cX3_reachedFrom 8 (some .int) ∈ GW := gw_t2 182 rfl rfl
theorem gw_749 : Cond.instanceMethod yX3_reachedFrom ∈ GW := gw_t2 180 rfl rfl
theorem gw_750 : Cond.selects RX3 yX3_reachedFrom yX3_reachedFrom ∈ GW := gw_t2 181 rfl rfl
theorem gw_751 : Cond.code yX3_remove cX3_remove 3 (some .boolean) ∈ GW := gw_t3 187 rfl rfl
theorem gw_752 : Cond.instanceMethod yX3_remove ∈ GW := gw_t3 185 rfl rfl
theorem gw_753 : Cond.selects RX3 yX3_remove yX3_remove ∈ GW := gw_t3 186 rfl rfl
theorem gw_754 : Cond.code yX3_setLines cX3_setLines 6 none ∈ GW := gw_t2 154 rfl rfl
theorem gw_755 : Cond.instanceMethod yX3_setLines ∈ GW := gw_t2 152 rfl rfl
theorem gw_756 : Cond.selects RX3 yX3_setLines yX3_setLines ∈ GW := gw_t2 153 rfl rfl
theorem gw_757 : Cond.code yX3_takeLine cX3_takeLine 3 (some .boolean) ∈ GW := gw_t3 234 rfl rfl
theorem gw_758 : Cond.instanceMethod yX3_takeLine ∈ GW := gw_t3 232 rfl rfl
theorem gw_759 : Cond.selects RX3 yX3_takeLine yX3_takeLine ∈ GW := gw_t3 233 rfl rfl
theorem gw_760 : Cond.code yX3_weightOf cX3_weightOf 2 (some .int) ∈ GW := gw_t2 199 rfl rfl
theorem gw_761 : Cond.instanceMethod yX3_weightOf ∈ GW := gw_t2 197 rfl rfl
theorem gw_762 : Cond.selects RX3 yX3_weightOf yX3_weightOf ∈ GW := gw_t2 198 rfl rfl
theorem gw_763 : Cond.code yX3_weightOfSet cX3_weightOfSet 4 (some .int) ∈ GW := gw_t2 195 rfl rfl
theorem gw_764 : Cond.instanceMethod yX3_weightOfSet ∈ GW := gw_t2 193 rfl rfl
theorem gw_765 : Cond.selects RX3 yX3_weightOfSet yX3_weightOfSet ∈ GW := gw_t2 194 rfl rfl
theorem gw_766 : Cond.code yX4_learn cX4_learn 4 none ∈ GW := gw_t3 76 rfl rfl
theorem gw_767 : Cond.instanceMethod yX4_learn ∈ GW := gw_t3 74 rfl rfl
theorem gw_768 : Cond.selects RX4 yX4_learn yX4_learn ∈ GW := gw_t3 75 rfl rfl
theorem gw_769 : Cond.initialized RX4 ∈ GW := gw_t1 9 rfl rfl
theorem gw_770 : Cond.code yX4_leastOfMost cX4_leastOfMost 7 (some .int) ∈ GW := gw_t3 106 rfl rfl
theorem gw_771 : Cond.instanceMethod yX4_leastOfMost ∈ GW := gw_t3 104 rfl rfl
theorem gw_772 : Cond.selects RX4 yX4_leastOfMost yX4_leastOfMost ∈ GW := gw_t3 105 rfl rfl
theorem gw_773 : Cond.code yX4_mostIn cX4_mostIn 2 (some .int) ∈ GW := gw_t3 85 rfl rfl
theorem gw_774 : Cond.instanceMethod yX4_mostIn ∈ GW := gw_t3 83 rfl rfl
theorem gw_775 : Cond.selects RX4 yX4_mostIn yX4_mostIn ∈ GW := gw_t3 84 rfl rfl
theorem gw_776 : Cond.code yX4_mostWithLowest cX4_mostWithLowest 8 (some .int) ∈ GW := gw_t3 80 rfl rfl
theorem gw_777 : Cond.instanceMethod yX4_mostWithLowest ∈ GW := gw_t3 78 rfl rfl
theorem gw_778 : Cond.selects RX4 yX4_mostWithLowest yX4_mostWithLowest ∈ GW := gw_t3 79 rfl rfl
theorem gw_779 : Cond.code yX4_ringAt cX4_ringAt 8 (some .int) ∈ GW := gw_t3 102 rfl rfl
theorem gw_780 : Cond.instanceMethod yX4_ringAt ∈ GW := gw_t3 100 rfl rfl
theorem gw_781 : Cond.selects RX4 yX4_ringAt yX4_ringAt ∈ GW := gw_t3 101 rfl rfl
theorem gw_782 : Cond.code yX5_forget cX5_forget 1 none ∈ GW := gw_t2 162 rfl rfl
theorem gw_783 : Cond.instanceMethod yX5_forget ∈ GW := gw_t2 160 rfl rfl
theorem gw_784 : Cond.selects RX5 yX5_forget yX5_forget ∈ GW := gw_t2 161 rfl rfl
theorem gw_785 : Cond.initialized RX5 ∈ GW := gw_t1 5 rfl rfl
theorem gw_786 : Cond.code yX5_giveLatest cX5_giveLatest 3 (some .boolean) ∈ GW := gw_t4 20 rfl rfl
theorem gw_787 : Cond.instanceMethod yX5_giveLatest ∈ GW := gw_t4 18 rfl rfl
theorem gw_788 : Cond.selects RX5 yX5_giveLatest yX5_giveLatest ∈ GW := gw_t4 19 rfl rfl
theorem gw_789 : Cond.code yX5_keepNoted cX5_keepNoted 1 none ∈ GW := gw_t3 211 rfl rfl
theorem gw_790 : Cond.instanceMethod yX5_keepNoted ∈ GW := gw_t3 209 rfl rfl
theorem gw_791 : Cond.selects RX5 yX5_keepNoted yX5_keepNoted ∈ GW := gw_t3 210 rfl rfl
theorem gw_792 : Cond.code yX5_note cX5_note 3 none ∈ GW := gw_t3 170 rfl rfl
theorem gw_793 : Cond.instanceMethod yX5_note ∈ GW := gw_t3 168 rfl rfl
theorem gw_794 : Cond.selects RX5 yX5_note yX5_note ∈ GW := gw_t3 169 rfl rfl
theorem gw_795 : Cond.code yX5_placeAt cX5_placeAt 2 (some (.object "RingCutters$Net")) ∈ GW := gw_t3 174 rfl rfl
theorem gw_796 : Cond.instanceMethod yX5_placeAt ∈ GW := gw_t3 172 rfl rfl
theorem gw_797 : Cond.selects RX5 yX5_placeAt yX5_placeAt ∈ GW := gw_t3 173 rfl rfl
theorem gw_798 : Cond.code yX6_beginRow cX6_beginRow 2 (some .int) ∈ GW := gw_t2 91 rfl rfl
theorem gw_799 : Cond.instanceMethod yX6_beginRow ∈ GW := gw_t2 89 rfl rfl
theorem gw_800 : Cond.selects RX6 yX6_beginRow yX6_beginRow ∈ GW := gw_t2 90 rfl rfl
theorem gw_801 : Cond.initialized RX6 ∈ GW := gw_t1 3 rfl rfl
theorem gw_802 : Cond.code yX6_isDigit cX6_isDigit 1 (some .boolean) ∈ GW := gw_t2 81 rfl rfl
theorem gw_803 : Cond.static yX6_isDigit ∈ GW := gw_t2 80 rfl rfl
theorem gw_804 : Cond.code yX6_isLetter cX6_isLetter 1 (some .boolean) ∈ GW := gw_t2 78 rfl rfl
theorem gw_805 : Cond.static yX6_isLetter ∈ GW := gw_t2 77 rfl rfl
theorem gw_806 : Cond.code yX6_isName cX6_isName 1 (some .boolean) ∈ GW := gw_t2 101 rfl rfl
theorem gw_807 : Cond.instanceMethod yX6_isName ∈ GW := gw_t2 99 rfl rfl
theorem gw_808 : Cond.selects RX6 yX6_isName yX6_isName ∈ GW := gw_t2 100 rfl rfl
theorem gw_809 : Cond.code yX6_pointNamed cX6_pointNamed 4 (some .int) ∈ GW := gw_t2 105 rfl rfl
theorem gw_810 : Cond.instanceMethod yX6_pointNamed ∈ GW := gw_t2 103 rfl rfl
theorem gw_811 : Cond.selects RX6 yX6_pointNamed yX6_pointNamed ∈ GW := gw_t2 104 rfl rfl
theorem gw_812 : Cond.code yX6_readAll cX6_readAll 6 (some .int) ∈ GW := gw_t2 60 rfl rfl
theorem gw_813 : Cond.instanceMethod yX6_readAll ∈ GW := gw_t2 58 rfl rfl
theorem gw_814 : Cond.selects RX6 yX6_readAll yX6_readAll ∈ GW := gw_t2 59 rfl rfl
theorem gw_815 : Cond.code yX6_readToken cX6_readToken 7 none ∈ GW := gw_t2 75 rfl rfl
theorem gw_816 : Cond.instanceMethod yX6_readToken ∈ GW := gw_t2 73 rfl rfl
theorem gw_817 : Cond.selects RX6 yX6_readToken yX6_readToken ∈ GW := gw_t2 74 rfl rfl
theorem gw_818 : Cond.code yX6_takeFirst cX6_takeFirst 1 (some .int) ∈ GW := gw_t2 133 rfl rfl
theorem gw_819 : Cond.instanceMethod yX6_takeFirst ∈ GW := gw_t2 131 rfl rfl
theorem gw_820 : Cond.selects RX6 yX6_takeFirst yX6_takeFirst ∈ GW := gw_t2 132 rfl rfl
theorem gw_821 : Cond.code yX6_takeName cX6_takeName 2 (some .int) ∈ GW := gw_t2 97 rfl rfl
theorem gw_822 : Cond.instanceMethod yX6_takeName ∈ GW := gw_t2 95 rfl rfl
theorem gw_823 : Cond.selects RX6 yX6_takeName yX6_takeName ∈ GW := gw_t2 96 rfl rfl
theorem gw_824 : Cond.code yX6_takeSecond cX6_takeSecond 2 (some .int) ∈ GW := gw_t2 145 rfl rfl
theorem gw_825 : Cond.instanceMethod yX6_takeSecond ∈ GW := gw_t2 143 rfl rfl
theorem gw_826 : Cond.selects RX6 yX6_takeSecond yX6_takeSecond ∈ GW := gw_t2 144 rfl rfl
theorem gw_827 : Cond.code yX6_takeSign cX6_takeSign 1 (some .int) ∈ GW := gw_t2 129 rfl rfl
theorem gw_828 : Cond.instanceMethod yX6_takeSign ∈ GW := gw_t2 127 rfl rfl
theorem gw_829 : Cond.selects RX6 yX6_takeSign yX6_takeSign ∈ GW := gw_t2 128 rfl rfl
theorem gw_830 : Cond.code yX6_takeToken cX6_takeToken 1 (some .int) ∈ GW := gw_t2 87 rfl rfl
theorem gw_831 : Cond.instanceMethod yX6_takeToken ∈ GW := gw_t2 85 rfl rfl
theorem gw_832 : Cond.selects RX6 yX6_takeToken yX6_takeToken ∈ GW := gw_t2 86 rfl rfl
theorem gw_833 : Cond.code yX6_takeWeight cX6_takeWeight 1 (some .int) ∈ GW := gw_t2 113 rfl rfl
theorem gw_834 : Cond.instanceMethod yX6_takeWeight ∈ GW := gw_t2 111 rfl rfl
theorem gw_835 : Cond.selects RX6 yX6_takeWeight yX6_takeWeight ∈ GW := gw_t2 112 rfl rfl
theorem gw_836 : Cond.code yX7_of cX7_of 8 (some .long) ∈ GW := gw_t3 45 rfl rfl
theorem gw_837 : Cond.static yX7_of ∈ GW := gw_t3 44 rfl rfl
theorem gw_838 : Cond.initialized RX7 ∈ GW := gw_t1 18 rfl rfl
theorem gw_839 : Cond.code yX7_waysBack cX7_waysBack 9 (some .long) ∈ GW := gw_t3 50 rfl rfl
theorem gw_840 : Cond.static yX7_waysBack ∈ GW := gw_t3 49 rfl rfl
theorem gw_841 : Cond.code yX8_fewestOf cX8_fewestOf 6 (some .int) ∈ GW := gw_t3 13 rfl rfl
theorem gw_842 : Cond.instanceMethod yX8_fewestOf ∈ GW := gw_t3 11 rfl rfl
theorem gw_843 : Cond.selects RX8 yX8_fewestOf yX8_fewestOf ∈ GW := gw_t3 12 rfl rfl
theorem gw_844 : Cond.initialized RX8 ∈ GW := gw_t1 8 rfl rfl
theorem gw_845 : Cond.code yX8_isFree cX8_isFree 2 (some .boolean) ∈ GW := gw_t2 231 rfl rfl
theorem gw_846 : Cond.instanceMethod yX8_isFree ∈ GW := gw_t2 229 rfl rfl
theorem gw_847 : Cond.selects RX8 yX8_isFree yX8_isFree ∈ GW := gw_t2 230 rfl rfl
theorem gw_848 : Cond.code yX8_isFreeByTip cX8_isFreeByTip 4 (some .boolean) ∈ GW := gw_t2 235 rfl rfl
theorem gw_849 : Cond.instanceMethod yX8_isFreeByTip ∈ GW := gw_t2 233 rfl rfl
theorem gw_850 : Cond.selects RX8 yX8_isFreeByTip yX8_isFreeByTip ∈ GW := gw_t2 234 rfl rfl
theorem gw_851 : Cond.code yX8_isLeastRing cX8_isLeastRing 3 (some .boolean) ∈ GW := gw_t3 4 rfl rfl
theorem gw_852 : Cond.instanceMethod yX8_isLeastRing ∈ GW := gw_t3 2 rfl rfl
theorem gw_853 : Cond.selects RX8 yX8_isLeastRing yX8_isLeastRing ∈ GW := gw_t3 3 rfl rfl
theorem gw_854 : Cond.code yX8_learn cX8_learn 4 none ∈ GW := gw_t2 221 rfl rfl
theorem gw_855 : Cond.instanceMethod yX8_learn ∈ GW := gw_t2 219 rfl rfl
theorem gw_856 : Cond.selects RX8 yX8_learn yX8_learn ∈ GW := gw_t2 220 rfl rfl
theorem gw_857 : Cond.code yX8_learnRings cX8_learnRings 5 none ∈ GW := gw_t3 0 rfl rfl
theorem gw_858 : Cond.instanceMethod yX8_learnRings ∈ GW := gw_t2 238 rfl rfl
theorem gw_859 : Cond.selects RX8 yX8_learnRings yX8_learnRings ∈ GW := gw_t2 239 rfl rfl
theorem gw_860 : Cond.code yX8_lowest cX8_lowest 1 (some .int) ∈ GW := gw_t2 185 rfl rfl
theorem gw_861 : Cond.static yX8_lowest ∈ GW := gw_t2 184 rfl rfl
theorem gw_862 : Cond.code yX8_ringAt cX8_ringAt 2 (some .int) ∈ GW := gw_t3 64 rfl rfl
theorem gw_863 : Cond.instanceMethod yX8_ringAt ∈ GW := gw_t3 62 rfl rfl
theorem gw_864 : Cond.selects RX8 yX8_ringAt yX8_ringAt ∈ GW := gw_t3 63 rfl rfl
theorem gw_865 : Cond.code yX8_shortestRing cX8_shortestRing 5 (some .int) ∈ GW := gw_t3 60 rfl rfl
theorem gw_866 : Cond.instanceMethod yX8_shortestRing ∈ GW := gw_t3 58 rfl rfl
theorem gw_867 : Cond.selects RX8 yX8_shortestRing yX8_shortestRing ∈ GW := gw_t3 59 rfl rfl
theorem gw_868 : Cond.code yX8_startOf cX8_startOf 2 (some .int) ∈ GW := gw_t3 89 rfl rfl
theorem gw_869 : Cond.instanceMethod yX8_startOf ∈ GW := gw_t3 87 rfl rfl
theorem gw_870 : Cond.selects RX8 yX8_startOf yX8_startOf ∈ GW := gw_t3 88 rfl rfl
theorem gw_871 : Cond.code yX9_passBy cX9_passBy 5 (some .int) ∈ GW := gw_t3 198 rfl rfl
theorem gw_872 : Cond.static yX9_passBy ∈ GW := gw_t3 197 rfl rfl
theorem gw_873 : Cond.initialized RX9 ∈ GW := gw_t1 19 rfl rfl
theorem gw_874 : Cond.code yX9_removeTip cX9_removeTip 2 (some .int) ∈ GW := gw_t3 190 rfl rfl
theorem gw_875 : Cond.static yX9_removeTip ∈ GW := gw_t3 189 rfl rfl
theorem gw_876 : Cond.code yX9_step cX9_step 2 (some .int) ∈ GW := gw_t3 178 rfl rfl
theorem gw_877 : Cond.static yX9_step ∈ GW := gw_t3 177 rfl rfl
theorem gw_878 : Cond.code yX9_takeLooped cX9_takeLooped 2 (some .int) ∈ GW := gw_t3 181 rfl rfl
theorem gw_879 : Cond.static yX9_takeLooped ∈ GW := gw_t3 180 rfl rfl
theorem gw_880 : Cond.code yX9_thinLines cX9_thinLines 3 (some .int) ∈ GW := gw_t3 194 rfl rfl
theorem gw_881 : Cond.static yX9_thinLines ∈ GW := gw_t3 193 rfl rfl
theorem in_ws {C : String} {T : u_T} {N : Nat} (h : ∀ k, k < N → u_lay C T k ∈ GW) : ∀ w ∈ u_ws C T N, w ∈ GW := by
  intro w hw
  obtain ⟨k, hk, rfl⟩ := List.mem_map.mp hw
  exact h k (List.mem_range.mp hk)
theorem ly_X0_0 : u_lay RX0 TX0 0 ∈ GW := gw_t1 219 rfl rfl
theorem ly_X0_1 : u_lay RX0 TX0 1 ∈ GW := gw_t1 221 rfl rfl
theorem ly_X0_2 : u_lay RX0 TX0 2 ∈ GW := gw_t1 223 rfl rfl
theorem ly_X0_3 : u_lay RX0 TX0 3 ∈ GW := gw_t1 225 rfl rfl
theorem ly_X0_4 : u_lay RX0 TX0 4 ∈ GW := gw_t1 227 rfl rfl
theorem ly_X0_5 : u_lay RX0 TX0 5 ∈ GW := gw_t1 229 rfl rfl
theorem ly_X0_6 : u_lay RX0 TX0 6 ∈ GW := gw_t1 231 rfl rfl
theorem inlX0 : ∀ w ∈ u_ws RX0 TX0 7, w ∈ GW := in_ws (lt_s (lt_s (lt_s (lt_s (lt_s (lt_s (lt_s (lt_0) ly_X0_0) ly_X0_1) ly_X0_2) ly_X0_3) ly_X0_4) ly_X0_5) ly_X0_6)
theorem ly_X1_0 : u_lay RX1 TX1 0 ∈ GW := gw_t1 164 rfl rfl
theorem inlX1 : ∀ w ∈ u_ws RX1 TX1 1, w ∈ GW := in_ws (lt_s (lt_0) ly_X1_0)
theorem ly_X2_0 : u_lay RX2 TX2 0 ∈ GW := gw_t1 151 rfl rfl
theorem ly_X2_1 : u_lay RX2 TX2 1 ∈ GW := gw_t1 153 rfl rfl
theorem inlX2 : ∀ w ∈ u_ws RX2 TX2 2, w ∈ GW := in_ws (lt_s (lt_s (lt_0) ly_X2_0) ly_X2_1)
theorem ly_X3_0 : u_lay RX3 TX3 0 ∈ GW := gw_t1 73 rfl rfl
theorem ly_X3_1 : u_lay RX3 TX3 1 ∈ GW := gw_t1 75 rfl rfl
theorem ly_X3_2 : u_lay RX3 TX3 2 ∈ GW := gw_t1 77 rfl rfl
theorem ly_X3_3 : u_lay RX3 TX3 3 ∈ GW := gw_t1 79 rfl rfl
theorem ly_X3_4 : u_lay RX3 TX3 4 ∈ GW := gw_t1 81 rfl rfl
theorem ly_X3_5 : u_lay RX3 TX3 5 ∈ GW := gw_t1 83 rfl rfl
theorem inlX3 : ∀ w ∈ u_ws RX3 TX3 6, w ∈ GW := in_ws (lt_s (lt_s (lt_s (lt_s (lt_s (lt_s (lt_0) ly_X3_0) ly_X3_1) ly_X3_2) ly_X3_3) ly_X3_4) ly_X3_5)
theorem ly_X4_0 : u_lay RX4 TX4 0 ∈ GW := gw_t1 202 rfl rfl
theorem inlX4 : ∀ w ∈ u_ws RX4 TX4 1, w ∈ GW := in_ws (lt_s (lt_0) ly_X4_0)
theorem ly_X5_0 : u_lay RX5 TX5 0 ∈ GW := gw_t1 133 rfl rfl
theorem ly_X5_1 : u_lay RX5 TX5 1 ∈ GW := gw_t1 135 rfl rfl
theorem ly_X5_2 : u_lay RX5 TX5 2 ∈ GW := gw_t1 137 rfl rfl
theorem inlX5 : ∀ w ∈ u_ws RX5 TX5 3, w ∈ GW := in_ws (lt_s (lt_s (lt_s (lt_0) ly_X5_0) ly_X5_1) ly_X5_2)
theorem ly_X6_0 : u_lay RX6 TX6 0 ∈ GW := gw_t1 98 rfl rfl
theorem ly_X6_1 : u_lay RX6 TX6 1 ∈ GW := gw_t1 100 rfl rfl
theorem ly_X6_2 : u_lay RX6 TX6 2 ∈ GW := gw_t1 102 rfl rfl
theorem ly_X6_3 : u_lay RX6 TX6 3 ∈ GW := gw_t1 104 rfl rfl
theorem ly_X6_4 : u_lay RX6 TX6 4 ∈ GW := gw_t1 106 rfl rfl
theorem ly_X6_5 : u_lay RX6 TX6 5 ∈ GW := gw_t1 108 rfl rfl
theorem ly_X6_6 : u_lay RX6 TX6 6 ∈ GW := gw_t1 110 rfl rfl
theorem ly_X6_7 : u_lay RX6 TX6 7 ∈ GW := gw_t1 112 rfl rfl
theorem ly_X6_8 : u_lay RX6 TX6 8 ∈ GW := gw_t1 114 rfl rfl
theorem inlX6 : ∀ w ∈ u_ws RX6 TX6 9, w ∈ GW := in_ws (lt_s (lt_s (lt_s (lt_s (lt_s (lt_s (lt_s (lt_s (lt_s (lt_0) ly_X6_0) ly_X6_1) ly_X6_2) ly_X6_3) ly_X6_4) ly_X6_5) ly_X6_6) ly_X6_7) ly_X6_8)
theorem ly_X8_0 : u_lay RX8 TX8 0 ∈ GW := gw_t1 181 rfl rfl
theorem ly_X8_1 : u_lay RX8 TX8 1 ∈ GW := gw_t1 183 rfl rfl
theorem ly_X8_2 : u_lay RX8 TX8 2 ∈ GW := gw_t1 185 rfl rfl
theorem ly_X8_3 : u_lay RX8 TX8 3 ∈ GW := gw_t1 187 rfl rfl
theorem ly_X8_4 : u_lay RX8 TX8 4 ∈ GW := gw_t1 189 rfl rfl
theorem ly_X8_5 : u_lay RX8 TX8 5 ∈ GW := gw_t1 191 rfl rfl
theorem inlX8 : ∀ w ∈ u_ws RX8 TX8 6, w ∈ GW := in_ws (lt_s (lt_s (lt_s (lt_s (lt_s (lt_s (lt_0) ly_X8_0) ly_X8_1) ly_X8_2) ly_X8_3) ly_X8_4) ly_X8_5)
theorem ly_X10_0 : u_lay RX10 TX10 0 ∈ GW := gw_t1 38 rfl rfl
theorem ly_X10_1 : u_lay RX10 TX10 1 ∈ GW := gw_t1 40 rfl rfl
theorem inlX10 : ∀ w ∈ u_ws RX10 TX10 2, w ∈ GW := in_ws (lt_s (lt_s (lt_0) ly_X10_0) ly_X10_1)
theorem ly_X11_0 : u_lay RX11 TX11 0 ∈ GW := gw_t2 8 rfl rfl
theorem ly_X11_1 : u_lay RX11 TX11 1 ∈ GW := gw_t2 10 rfl rfl
theorem ly_X11_2 : u_lay RX11 TX11 2 ∈ GW := gw_t2 12 rfl rfl
theorem ly_X11_3 : u_lay RX11 TX11 3 ∈ GW := gw_t2 14 rfl rfl
theorem ly_X11_4 : u_lay RX11 TX11 4 ∈ GW := gw_t2 16 rfl rfl
theorem ly_X11_5 : u_lay RX11 TX11 5 ∈ GW := gw_t2 18 rfl rfl
theorem ly_X11_6 : u_lay RX11 TX11 6 ∈ GW := gw_t2 20 rfl rfl
theorem ly_X11_7 : u_lay RX11 TX11 7 ∈ GW := gw_t2 22 rfl rfl
theorem ly_X11_8 : u_lay RX11 TX11 8 ∈ GW := gw_t2 24 rfl rfl
theorem ly_X11_9 : u_lay RX11 TX11 9 ∈ GW := gw_t2 26 rfl rfl
theorem ly_X11_10 : u_lay RX11 TX11 10 ∈ GW := gw_t2 28 rfl rfl
theorem ly_X11_11 : u_lay RX11 TX11 11 ∈ GW := gw_t2 30 rfl rfl
theorem ly_X11_12 : u_lay RX11 TX11 12 ∈ GW := gw_t2 32 rfl rfl
theorem ly_X11_13 : u_lay RX11 TX11 13 ∈ GW := gw_t2 34 rfl rfl
theorem inlX11 : ∀ w ∈ u_ws RX11 TX11 14, w ∈ GW := in_ws (lt_s (lt_s (lt_s (lt_s (lt_s (lt_s (lt_s (lt_s (lt_s (lt_s (lt_s (lt_s (lt_s (lt_s (lt_0) ly_X11_0) ly_X11_1) ly_X11_2) ly_X11_3) ly_X11_4) ly_X11_5) ly_X11_6) ly_X11_7) ly_X11_8) ly_X11_9) ly_X11_10) ly_X11_11) ly_X11_12) ly_X11_13)
theorem ly_X12_0 : u_lay RX12 TX12 0 ∈ GW := gw_t4 182 rfl rfl
theorem ly_X12_1 : u_lay RX12 TX12 1 ∈ GW := gw_t4 184 rfl rfl
theorem ly_X12_2 : u_lay RX12 TX12 2 ∈ GW := gw_t4 186 rfl rfl
theorem ly_X12_3 : u_lay RX12 TX12 3 ∈ GW := gw_t4 188 rfl rfl
theorem ly_X12_4 : u_lay RX12 TX12 4 ∈ GW := gw_t4 190 rfl rfl
theorem ly_X12_5 : u_lay RX12 TX12 5 ∈ GW := gw_t4 192 rfl rfl
theorem ly_X12_6 : u_lay RX12 TX12 6 ∈ GW := gw_t4 194 rfl rfl
theorem ly_X12_7 : u_lay RX12 TX12 7 ∈ GW := gw_t4 196 rfl rfl
theorem ly_X12_8 : u_lay RX12 TX12 8 ∈ GW := gw_t4 198 rfl rfl
theorem ly_X12_9 : u_lay RX12 TX12 9 ∈ GW := gw_t4 200 rfl rfl
theorem ly_X12_10 : u_lay RX12 TX12 10 ∈ GW := gw_t4 202 rfl rfl
theorem ly_X12_11 : u_lay RX12 TX12 11 ∈ GW := gw_t4 204 rfl rfl
theorem ly_X12_12 : u_lay RX12 TX12 12 ∈ GW := gw_t4 206 rfl rfl
theorem ly_X12_13 : u_lay RX12 TX12 13 ∈ GW := gw_t4 208 rfl rfl
theorem ly_X12_14 : u_lay RX12 TX12 14 ∈ GW := gw_t4 210 rfl rfl
theorem ly_X12_15 : u_lay RX12 TX12 15 ∈ GW := gw_t4 212 rfl rfl
theorem ly_X12_16 : u_lay RX12 TX12 16 ∈ GW := gw_t4 214 rfl rfl
theorem ly_X12_17 : u_lay RX12 TX12 17 ∈ GW := gw_t4 216 rfl rfl
theorem ly_X12_18 : u_lay RX12 TX12 18 ∈ GW := gw_t4 218 rfl rfl
theorem ly_X12_19 : u_lay RX12 TX12 19 ∈ GW := gw_t4 220 rfl rfl
theorem ly_X12_20 : u_lay RX12 TX12 20 ∈ GW := gw_t4 222 rfl rfl
theorem ly_X12_21 : u_lay RX12 TX12 21 ∈ GW := gw_t4 224 rfl rfl
theorem ly_X12_22 : u_lay RX12 TX12 22 ∈ GW := gw_t4 226 rfl rfl
theorem ly_X12_23 : u_lay RX12 TX12 23 ∈ GW := gw_t4 228 rfl rfl
theorem ly_X12_24 : u_lay RX12 TX12 24 ∈ GW := gw_t4 230 rfl rfl
theorem ly_X12_25 : u_lay RX12 TX12 25 ∈ GW := gw_t4 232 rfl rfl
theorem ly_X12_26 : u_lay RX12 TX12 26 ∈ GW := gw_t4 234 rfl rfl
theorem ly_X12_27 : u_lay RX12 TX12 27 ∈ GW := gw_t4 236 rfl rfl
theorem ly_X12_28 : u_lay RX12 TX12 28 ∈ GW := gw_t4 238 rfl rfl
theorem ly_X12_29 : u_lay RX12 TX12 29 ∈ GW := gw_t5 0 rfl rfl
theorem inlX12 : ∀ w ∈ u_ws RX12 TX12 30, w ∈ GW := in_ws (lt_s (lt_s (lt_s (lt_s (lt_s (lt_s (lt_s (lt_s (lt_s (lt_s (lt_s (lt_s (lt_s (lt_s (lt_s (lt_s (lt_s (lt_s (lt_s (lt_s (lt_s (lt_s (lt_s (lt_s (lt_s (lt_s (lt_s (lt_s (lt_s (lt_s (lt_0) ly_X12_0) ly_X12_1) ly_X12_2) ly_X12_3) ly_X12_4) ly_X12_5) ly_X12_6) ly_X12_7) ly_X12_8) ly_X12_9) ly_X12_10) ly_X12_11) ly_X12_12) ly_X12_13) ly_X12_14) ly_X12_15) ly_X12_16) ly_X12_17) ly_X12_18) ly_X12_19) ly_X12_20) ly_X12_21) ly_X12_22) ly_X12_23) ly_X12_24) ly_X12_25) ly_X12_26) ly_X12_27) ly_X12_28) ly_X12_29)
theorem sh_0 : sh 0 = (9, 0) := by decide +kernel
theorem sh_1 : sh 1 = (8, 0) := by decide +kernel
theorem sh_2 : sh 2 = (11, 640) := by decide +kernel
theorem sh_3 : sh 3 = (6, 0) := by decide +kernel
theorem sh_4 : sh 4 = (3, 0) := by decide +kernel
theorem sh_5 : sh 5 = (11, 12) := by decide +kernel
theorem sh_6 : sh 6 = (11, 144) := by decide +kernel
theorem sh_7 : sh 7 = (12, 12) := by decide +kernel
theorem sh_8 : sh 8 = (3, 0) := by decide +kernel
theorem sh_9 : sh 9 = (11, 12) := by decide +kernel
theorem sh_10 : sh 10 = (11, 144) := by decide +kernel
theorem sh_11 : sh 11 = (5, 0) := by decide +kernel
theorem sh_12 : sh 12 = (14, 9) := by decide +kernel
theorem sh_13 : sh 13 = (3, 0) := by decide +kernel
theorem sh_14 : sh 14 = (11, 12) := by decide +kernel
theorem sh_15 : sh 15 = (11, 144) := by decide +kernel
theorem sh_16 : sh 16 = (3, 0) := by decide +kernel
theorem sh_17 : sh 17 = (11, 12) := by decide +kernel
theorem sh_18 : sh 18 = (11, 144) := by decide +kernel
theorem sh_19 : sh 19 = (3, 0) := by decide +kernel
theorem sh_20 : sh 20 = (11, 12) := by decide +kernel
theorem sh_21 : sh 21 = (11, 144) := by decide +kernel
theorem sh_22 : sh 22 = (3, 0) := by decide +kernel
theorem sh_23 : sh 23 = (11, 12) := by decide +kernel
theorem sh_24 : sh 24 = (11, 144) := by decide +kernel
theorem sh_25 : sh 25 = (3, 0) := by decide +kernel
theorem sh_26 : sh 26 = (11, 12) := by decide +kernel
theorem sh_27 : sh 27 = (11, 144) := by decide +kernel
theorem sh_28 : sh 28 = (3, 0) := by decide +kernel
theorem sh_29 : sh 29 = (11, 12) := by decide +kernel
theorem sh_30 : sh 30 = (11, 144) := by decide +kernel
theorem sh_31 : sh 31 = (3, 0) := by decide +kernel
theorem sh_32 : sh 32 = (11, 12) := by decide +kernel
theorem sh_33 : sh 33 = (11, 144) := by decide +kernel
theorem sh_34 : sh 34 = (3, 0) := by decide +kernel
theorem sh_35 : sh 35 = (11, 12) := by decide +kernel
theorem sh_36 : sh 36 = (11, 144) := by decide +kernel
theorem sh_37 : sh 37 = (3, 0) := by decide +kernel
theorem sh_38 : sh 38 = (11, 12) := by decide +kernel
theorem sh_39 : sh 39 = (11, 144) := by decide +kernel
theorem sh_40 : sh 40 = (2, 0) := by decide +kernel
theorem sh_41 : sh 41 = (3, 0) := by decide +kernel
theorem sh_42 : sh 42 = (11, 12) := by decide +kernel
theorem sh_43 : sh 43 = (11, 144) := by decide +kernel
theorem sh_44 : sh 44 = (2, 0) := by decide +kernel
theorem sh_45 : sh 45 = (3, 0) := by decide +kernel
theorem sh_46 : sh 46 = (11, 12) := by decide +kernel
theorem sh_47 : sh 47 = (11, 144) := by decide +kernel
theorem sh_48 : sh 48 = (1, 0) := by decide +kernel
theorem sh_49 : sh 49 = (7, 0) := by decide +kernel
theorem sh_50 : sh 50 = (13, 4096) := by decide +kernel
theorem sh_51 : sh 51 = (11, 12) := by decide +kernel
theorem sh_52 : sh 52 = (11, 12) := by decide +kernel
theorem sh_53 : sh 53 = (11, 924) := by decide +kernel
theorem sh_54 : sh 54 = (11, 13) := by decide +kernel
theorem sh_55 : sh 55 = (4, 0) := by decide +kernel
theorem sh_56 : sh 56 = (11, 4096) := by decide +kernel
theorem sh_57 : sh 57 = (0, 0) := by decide +kernel
theorem sh_58 : sh 58 = (12, 12) := by decide +kernel
theorem sh_59 : sh 59 = (11, 12) := by decide +kernel
theorem sh_60 : sh 60 = (10, 0) := by decide +kernel
theorem sh_61 : sh 61 = (11, 640) := by decide +kernel
theorem sh_62 : sh 62 = (11, 159) := by decide +kernel
theorem sh_63 : sh 63 = (11, 159) := by decide +kernel
theorem sh_64 : sh 64 = (11, 318) := by decide +kernel
theorem sh_65 : sh 65 = (11, 1272) := by decide +kernel
theorem sh_66 : sh 66 = (11, 159) := by decide +kernel
theorem sh_67 : sh 67 = (11, 159) := by decide +kernel
theorem sh_68 : sh 68 = (12, 12) := by decide +kernel
theorem sh_69 : sh 69 = (13, 2) := by decide +kernel
theorem sh_70 : sh 70 = (13, 4096) := by decide +kernel
theorem sh_71 : sh 71 = (11, 4096) := by decide +kernel
theorem sh_72 : sh 72 = (12, 12) := by decide +kernel
theorem sh_73 : sh 73 = (12, 12) := by decide +kernel
theorem sh_74 : sh 74 = (11, 12) := by decide +kernel
theorem sh_75 : sh 75 = (12, 1) := by decide +kernel
section GFIELDS
variable {p : Program} {l : Launch} {e : Env} {R : Room} {s : State} {m : MethodId} {args : Array Value} {below : List Frame} {meth : Method} {c : Code} {H : Heap} {locs : List Loc} {cells slots : Nat} {Q : State → Prop} {cc : ByteArray} {pc nL : Nat} {ls : Array Slot} {rest : List Value} {X : GX} {σ : GM} {own : String} {rt : Option FieldType}
theorem shN1 {n : Nat} (h : sh n = (3, 0)) : sh (n + 1) = (11, 12) ∧ sh (n + 2) = (11, 144) := by
  have hn := sh_lt' h (by decide)
  have key : ∀ n, n < 76 → sh n = (3, 0) → sh (n + 1) = (11, 12) ∧ sh (n + 2) = (11, 144) := by decide +kernel
  exact key n hn h
theorem shK1 {n : Nat} (h : sh n = (2, 0)) : sh (n + 1) = (3, 0) := by
  have hn := sh_lt' h (by decide)
  have key : ∀ n, n < 76 → sh n = (2, 0) → sh (n + 1) = (3, 0) := by decide +kernel
  exact key n hn h
theorem gcell_X0 {n : Nat} {r : Nat → Int32} {r2 : Nat → Int64} (h : sh n = (0, 0)) : gcell X n r r2 = .inr (0, gfs X.2.1 n r r2 0) := by unfold gcell; rw [h]; rfl
theorem recv_X0 (Γ : gC X p m meth c cc nL s args own rt) (hI : gI X σ s H locs) : ∃ cell : Cell, H[X.2.1 + 57]? = some cell ∧ cell.vm.isStatics = false ∧ s.vm.findClass RX0 = some cell.cls :=
  g_recv Γ.2.1 hI.1 (sh_lt' (show sh 57 = (0, 0) from by decide +kernel) (by decide)) (gcell_X0 (show sh 57 = (0, 0) from by decide +kernel)) (q := (RX0, TX0, 7)) rfl
theorem get_X0_weights (Γ : gC X p m meth c cc nL s args own rt) (hI : gI X σ s H locs) {index : Nat} (hlink : Cond.fieldLink own index "RingCutters$Discount" "weights" "[J" ∈ GW) (hdg : decode cc pc = .ok (.getfield index, 3)) (kk : W p l e R s m args below meth c H locs cells slots Q (F0 m (pc + 3) ls (.ref (X.2.1 + 58) :: rest))) : W p l e R s m args below meth c H locs cells slots Q (F0 m pc ls (.ref (X.2.1 + 57) :: rest)) :=
  g_get Γ hI 57 (sh_lt' (show sh 57 = (0, 0) from by decide +kernel) (by decide)) (gcell_X0 (show sh 57 = (0, 0) from by decide +kernel)) (C := RX0) (T := TX0) (N := 7) rfl inlX0 0 (by decide) hlink rfl hdg kk
theorem get_X0_pile (Γ : gC X p m meth c cc nL s args own rt) (hI : gI X σ s H locs) {index : Nat} (hlink : Cond.fieldLink own index "RingCutters$Discount" "pile" "[I" ∈ GW) (hdg : decode cc pc = .ok (.getfield index, 3)) (kk : W p l e R s m args below meth c H locs cells slots Q (F0 m (pc + 3) ls (.ref (X.2.1 + 59) :: rest))) : W p l e R s m args below meth c H locs cells slots Q (F0 m pc ls (.ref (X.2.1 + 57) :: rest)) :=
  g_get Γ hI 57 (sh_lt' (show sh 57 = (0, 0) from by decide +kernel) (by decide)) (gcell_X0 (show sh 57 = (0, 0) from by decide +kernel)) (C := RX0) (T := TX0) (N := 7) rfl inlX0 1 (by decide) hlink rfl hdg kk
theorem get_X0_piled (Γ : gC X p m meth c cc nL s args own rt) (hI : gI X σ s H locs) {index : Nat} (hlink : Cond.fieldLink own index "RingCutters$Discount" "piled" "I" ∈ GW) (hdg : decode cc pc = .ok (.getfield index, 3)) (kk : W p l e R s m args below meth c H locs cells slots Q (F0 m (pc + 3) ls (.int (σ.1 57 2) :: rest))) : W p l e R s m args below meth c H locs cells slots Q (F0 m pc ls (.ref (X.2.1 + 57) :: rest)) :=
  g_get Γ hI 57 (sh_lt' (show sh 57 = (0, 0) from by decide +kernel) (by decide)) (gcell_X0 (show sh 57 = (0, 0) from by decide +kernel)) (C := RX0) (T := TX0) (N := 7) rfl inlX0 2 (by decide) hlink rfl hdg kk
theorem put_X0_piled (Γ : gC X p m meth c cc nL s args own rt) (hI : gI X σ s H locs) {v : Int32} {index : Nat} (hlink : Cond.fieldLink own index "RingCutters$Discount" "piled" "I" ∈ GW) (hdg : decode cc pc = .ok (.putfield index, 3)) (kk : ∀ (H1 : Heap) (locs1 : List Loc), gI X (wI σ 57 2 v) s H1 locs1 → W p l e R s m args below meth c H1 locs1 cells slots Q (F0 m (pc + 3) ls rest)) : W p l e R s m args below meth c H locs cells slots Q (F0 m pc ls (.int v :: .ref (X.2.1 + 57) :: rest)) :=
  g_put Γ hI (wI σ 57 2 v) 57 (sh_lt' (show sh 57 = (0, 0) from by decide +kernel) (by decide)) (gcell_X0 (show sh 57 = (0, 0) from by decide +kernel)) (C := RX0) (T := TX0) (N := 7) tyX0 tyX0_ok nmX0 rfl inlX0 2 (by decide) hlink rfl (ty := .int) (by decide +kernel) rfl rfl (by simp [gfs]) (by rw [gcell_X0 (show sh 57 = (0, 0) from by decide +kernel)]; simp [gfs, wI]) wI_other hdg kk
theorem get_X0_left (Γ : gC X p m meth c cc nL s args own rt) (hI : gI X σ s H locs) {index : Nat} (hlink : Cond.fieldLink own index "RingCutters$Discount" "left" "I" ∈ GW) (hdg : decode cc pc = .ok (.getfield index, 3)) (kk : W p l e R s m args below meth c H locs cells slots Q (F0 m (pc + 3) ls (.int (σ.1 57 3) :: rest))) : W p l e R s m args below meth c H locs cells slots Q (F0 m pc ls (.ref (X.2.1 + 57) :: rest)) :=
  g_get Γ hI 57 (sh_lt' (show sh 57 = (0, 0) from by decide +kernel) (by decide)) (gcell_X0 (show sh 57 = (0, 0) from by decide +kernel)) (C := RX0) (T := TX0) (N := 7) rfl inlX0 3 (by decide) hlink rfl hdg kk
theorem put_X0_left (Γ : gC X p m meth c cc nL s args own rt) (hI : gI X σ s H locs) {v : Int32} {index : Nat} (hlink : Cond.fieldLink own index "RingCutters$Discount" "left" "I" ∈ GW) (hdg : decode cc pc = .ok (.putfield index, 3)) (kk : ∀ (H1 : Heap) (locs1 : List Loc), gI X (wI σ 57 3 v) s H1 locs1 → W p l e R s m args below meth c H1 locs1 cells slots Q (F0 m (pc + 3) ls rest)) : W p l e R s m args below meth c H locs cells slots Q (F0 m pc ls (.int v :: .ref (X.2.1 + 57) :: rest)) :=
  g_put Γ hI (wI σ 57 3 v) 57 (sh_lt' (show sh 57 = (0, 0) from by decide +kernel) (by decide)) (gcell_X0 (show sh 57 = (0, 0) from by decide +kernel)) (C := RX0) (T := TX0) (N := 7) tyX0 tyX0_ok nmX0 rfl inlX0 3 (by decide) hlink rfl (ty := .int) (by decide +kernel) rfl rfl (by simp [gfs]) (by rw [gcell_X0 (show sh 57 = (0, 0) from by decide +kernel)]; simp [gfs, wI]) wI_other hdg kk
theorem get_X0_cut (Γ : gC X p m meth c cc nL s args own rt) (hI : gI X σ s H locs) {index : Nat} (hlink : Cond.fieldLink own index "RingCutters$Discount" "cut" "I" ∈ GW) (hdg : decode cc pc = .ok (.getfield index, 3)) (kk : W p l e R s m args below meth c H locs cells slots Q (F0 m (pc + 3) ls (.int (σ.1 57 4) :: rest))) : W p l e R s m args below meth c H locs cells slots Q (F0 m pc ls (.ref (X.2.1 + 57) :: rest)) :=
  g_get Γ hI 57 (sh_lt' (show sh 57 = (0, 0) from by decide +kernel) (by decide)) (gcell_X0 (show sh 57 = (0, 0) from by decide +kernel)) (C := RX0) (T := TX0) (N := 7) rfl inlX0 4 (by decide) hlink rfl hdg kk
theorem put_X0_cut (Γ : gC X p m meth c cc nL s args own rt) (hI : gI X σ s H locs) {v : Int32} {index : Nat} (hlink : Cond.fieldLink own index "RingCutters$Discount" "cut" "I" ∈ GW) (hdg : decode cc pc = .ok (.putfield index, 3)) (kk : ∀ (H1 : Heap) (locs1 : List Loc), gI X (wI σ 57 4 v) s H1 locs1 → W p l e R s m args below meth c H1 locs1 cells slots Q (F0 m (pc + 3) ls rest)) : W p l e R s m args below meth c H locs cells slots Q (F0 m pc ls (.int v :: .ref (X.2.1 + 57) :: rest)) :=
  g_put Γ hI (wI σ 57 4 v) 57 (sh_lt' (show sh 57 = (0, 0) from by decide +kernel) (by decide)) (gcell_X0 (show sh 57 = (0, 0) from by decide +kernel)) (C := RX0) (T := TX0) (N := 7) tyX0 tyX0_ok nmX0 rfl inlX0 4 (by decide) hlink rfl (ty := .int) (by decide +kernel) rfl rfl (by simp [gfs]) (by rw [gcell_X0 (show sh 57 = (0, 0) from by decide +kernel)]; simp [gfs, wI]) wI_other hdg kk
theorem get_X0_sum (Γ : gC X p m meth c cc nL s args own rt) (hI : gI X σ s H locs) {index : Nat} (hlink : Cond.fieldLink own index "RingCutters$Discount" "sum" "J" ∈ GW) (hdg : decode cc pc = .ok (.getfield index, 3)) (kk : W p l e R s m args below meth c H locs cells slots Q (F0 m (pc + 3) ls (.long (σ.2 57 5) :: rest))) : W p l e R s m args below meth c H locs cells slots Q (F0 m pc ls (.ref (X.2.1 + 57) :: rest)) :=
  g_get Γ hI 57 (sh_lt' (show sh 57 = (0, 0) from by decide +kernel) (by decide)) (gcell_X0 (show sh 57 = (0, 0) from by decide +kernel)) (C := RX0) (T := TX0) (N := 7) rfl inlX0 5 (by decide) hlink rfl hdg kk
theorem put_X0_sum (Γ : gC X p m meth c cc nL s args own rt) (hI : gI X σ s H locs) {v : Int64} {index : Nat} (hlink : Cond.fieldLink own index "RingCutters$Discount" "sum" "J" ∈ GW) (hdg : decode cc pc = .ok (.putfield index, 3)) (kk : ∀ (H1 : Heap) (locs1 : List Loc), gI X (wL σ 57 5 v) s H1 locs1 → W p l e R s m args below meth c H1 locs1 cells slots Q (F0 m (pc + 3) ls rest)) : W p l e R s m args below meth c H locs cells slots Q (F0 m pc ls (.long v :: .ref (X.2.1 + 57) :: rest)) :=
  g_put Γ hI (wL σ 57 5 v) 57 (sh_lt' (show sh 57 = (0, 0) from by decide +kernel) (by decide)) (gcell_X0 (show sh 57 = (0, 0) from by decide +kernel)) (C := RX0) (T := TX0) (N := 7) tyX0 tyX0_ok nmX0 rfl inlX0 5 (by decide) hlink rfl (ty := .long) (by decide +kernel) rfl rfl (by simp [gfs]) (by rw [gcell_X0 (show sh 57 = (0, 0) from by decide +kernel)]; simp [gfs, wL]) wL_other hdg kk
theorem get_X0_below (Γ : gC X p m meth c cc nL s args own rt) (hI : gI X σ s H locs) {index : Nat} (hlink : Cond.fieldLink own index "RingCutters$Discount" "below" "J" ∈ GW) (hdg : decode cc pc = .ok (.getfield index, 3)) (kk : W p l e R s m args below meth c H locs cells slots Q (F0 m (pc + 3) ls (.long (σ.2 57 6) :: rest))) : W p l e R s m args below meth c H locs cells slots Q (F0 m pc ls (.ref (X.2.1 + 57) :: rest)) :=
  g_get Γ hI 57 (sh_lt' (show sh 57 = (0, 0) from by decide +kernel) (by decide)) (gcell_X0 (show sh 57 = (0, 0) from by decide +kernel)) (C := RX0) (T := TX0) (N := 7) rfl inlX0 6 (by decide) hlink rfl hdg kk
theorem put_X0_below (Γ : gC X p m meth c cc nL s args own rt) (hI : gI X σ s H locs) {v : Int64} {index : Nat} (hlink : Cond.fieldLink own index "RingCutters$Discount" "below" "J" ∈ GW) (hdg : decode cc pc = .ok (.putfield index, 3)) (kk : ∀ (H1 : Heap) (locs1 : List Loc), gI X (wL σ 57 6 v) s H1 locs1 → W p l e R s m args below meth c H1 locs1 cells slots Q (F0 m (pc + 3) ls rest)) : W p l e R s m args below meth c H locs cells slots Q (F0 m pc ls (.long v :: .ref (X.2.1 + 57) :: rest)) :=
  g_put Γ hI (wL σ 57 6 v) 57 (sh_lt' (show sh 57 = (0, 0) from by decide +kernel) (by decide)) (gcell_X0 (show sh 57 = (0, 0) from by decide +kernel)) (C := RX0) (T := TX0) (N := 7) tyX0 tyX0_ok nmX0 rfl inlX0 6 (by decide) hlink rfl (ty := .long) (by decide +kernel) rfl rfl (by simp [gfs]) (by rw [gcell_X0 (show sh 57 = (0, 0) from by decide +kernel)]; simp [gfs, wL]) wL_other hdg kk
theorem gcell_X1 {n : Nat} {r : Nat → Int32} {r2 : Nat → Int64} (h : sh n = (1, 0)) : gcell X n r r2 = .inr (1, gfs X.2.1 n r r2 1) := by unfold gcell; rw [h]; rfl
theorem recv_X1 (Γ : gC X p m meth c cc nL s args own rt) (hI : gI X σ s H locs) : ∃ cell : Cell, H[X.2.1 + 48]? = some cell ∧ cell.vm.isStatics = false ∧ s.vm.findClass RX1 = some cell.cls :=
  g_recv Γ.2.1 hI.1 (sh_lt' (show sh 48 = (1, 0) from by decide +kernel) (by decide)) (gcell_X1 (show sh 48 = (1, 0) from by decide +kernel)) (q := (RX1, TX1, 1)) rfl
theorem get_X1_seed (Γ : gC X p m meth c cc nL s args own rt) (hI : gI X σ s H locs) {index : Nat} (hlink : Cond.fieldLink own index "RingCutters$Draws" "seed" "I" ∈ GW) (hdg : decode cc pc = .ok (.getfield index, 3)) (kk : W p l e R s m args below meth c H locs cells slots Q (F0 m (pc + 3) ls (.int (σ.1 48 0) :: rest))) : W p l e R s m args below meth c H locs cells slots Q (F0 m pc ls (.ref (X.2.1 + 48) :: rest)) :=
  g_get Γ hI 48 (sh_lt' (show sh 48 = (1, 0) from by decide +kernel) (by decide)) (gcell_X1 (show sh 48 = (1, 0) from by decide +kernel)) (C := RX1) (T := TX1) (N := 1) rfl inlX1 0 (by decide) hlink rfl hdg kk
theorem put_X1_seed (Γ : gC X p m meth c cc nL s args own rt) (hI : gI X σ s H locs) {v : Int32} {index : Nat} (hlink : Cond.fieldLink own index "RingCutters$Draws" "seed" "I" ∈ GW) (hdg : decode cc pc = .ok (.putfield index, 3)) (kk : ∀ (H1 : Heap) (locs1 : List Loc), gI X (wI σ 48 0 v) s H1 locs1 → W p l e R s m args below meth c H1 locs1 cells slots Q (F0 m (pc + 3) ls rest)) : W p l e R s m args below meth c H locs cells slots Q (F0 m pc ls (.int v :: .ref (X.2.1 + 48) :: rest)) :=
  g_put Γ hI (wI σ 48 0 v) 48 (sh_lt' (show sh 48 = (1, 0) from by decide +kernel) (by decide)) (gcell_X1 (show sh 48 = (1, 0) from by decide +kernel)) (C := RX1) (T := TX1) (N := 1) tyX1 tyX1_ok nmX1 rfl inlX1 0 (by decide) hlink rfl (ty := .int) (by decide +kernel) rfl rfl (by simp [gfs]) (by rw [gcell_X1 (show sh 48 = (1, 0) from by decide +kernel)]; simp [gfs, wI]) wI_other hdg kk
theorem gcell_X2 {n : Nat} {r : Nat → Int32} {r2 : Nat → Int64} (h : sh n = (2, 0)) : gcell X n r r2 = .inr (2, gfs X.2.1 n r r2 2) := by unfold gcell; rw [h]; rfl
theorem recv_X2 {n : Nat} (hn : sh n = (2, 0)) (Γ : gC X p m meth c cc nL s args own rt) (hI : gI X σ s H locs) : ∃ cell : Cell, H[X.2.1 + n]? = some cell ∧ cell.vm.isStatics = false ∧ s.vm.findClass RX2 = some cell.cls :=
  g_recv Γ.2.1 hI.1 (sh_lt' hn (by decide)) (gcell_X2 hn) (q := (RX2, TX2, 2)) rfl
theorem get_X2_copy {n : Nat} (hn : sh n = (2, 0)) (Γ : gC X p m meth c cc nL s args own rt) (hI : gI X σ s H locs) {index : Nat} (hlink : Cond.fieldLink own index "RingCutters$Kept" "copy" "LRingCutters$Net;" ∈ GW) (hdg : decode cc pc = .ok (.getfield index, 3)) (kk : W p l e R s m args below meth c H locs cells slots Q (F0 m (pc + 3) ls (.ref (X.2.1 + (n + 1)) :: rest))) : W p l e R s m args below meth c H locs cells slots Q (F0 m pc ls (.ref (X.2.1 + n) :: rest)) :=
  g_get Γ hI n (sh_lt' hn (by decide)) (gcell_X2 hn) (C := RX2) (T := TX2) (N := 2) rfl inlX2 0 (by decide) hlink rfl hdg kk
theorem get_X2_filled {n : Nat} (hn : sh n = (2, 0)) (Γ : gC X p m meth c cc nL s args own rt) (hI : gI X σ s H locs) {index : Nat} (hlink : Cond.fieldLink own index "RingCutters$Kept" "filled" "Z" ∈ GW) (hdg : decode cc pc = .ok (.getfield index, 3)) (kk : W p l e R s m args below meth c H locs cells slots Q (F0 m (pc + 3) ls (.int (σ.1 n 1) :: rest))) : W p l e R s m args below meth c H locs cells slots Q (F0 m pc ls (.ref (X.2.1 + n) :: rest)) :=
  g_get Γ hI n (sh_lt' hn (by decide)) (gcell_X2 hn) (C := RX2) (T := TX2) (N := 2) rfl inlX2 1 (by decide) hlink rfl hdg kk
theorem put_X2_filled {n : Nat} (hn : sh n = (2, 0)) (Γ : gC X p m meth c cc nL s args own rt) (hI : gI X σ s H locs) {v : Int32} (hz : v &&& 1 = v) (hf : fits .boolean (.int v) = true) {index : Nat} (hlink : Cond.fieldLink own index "RingCutters$Kept" "filled" "Z" ∈ GW) (hdg : decode cc pc = .ok (.putfield index, 3)) (kk : ∀ (H1 : Heap) (locs1 : List Loc), gI X (wI σ n 1 v) s H1 locs1 → W p l e R s m args below meth c H1 locs1 cells slots Q (F0 m (pc + 3) ls rest)) : W p l e R s m args below meth c H locs cells slots Q (F0 m pc ls (.int v :: .ref (X.2.1 + n) :: rest)) :=
  g_put Γ hI (wI σ n 1 v) n (sh_lt' hn (by decide)) (gcell_X2 hn) (C := RX2) (T := TX2) (N := 2) tyX2 tyX2_ok nmX2 rfl inlX2 1 (by decide) hlink rfl (ty := .boolean) (by decide +kernel) (by show Value.int (v &&& 1) = .int v; rw [hz]) hf (by simp [gfs]) (by rw [gcell_X2 hn]; simp [gfs, wI]) wI_other hdg kk
theorem gcell_X3 {n : Nat} {r : Nat → Int32} {r2 : Nat → Int64} (h : sh n = (3, 0)) : gcell X n r r2 = .inr (3, gfs X.2.1 n r r2 3) := by unfold gcell; rw [h]; rfl
theorem recv_X3 {n : Nat} (hn : sh n = (3, 0)) (Γ : gC X p m meth c cc nL s args own rt) (hI : gI X σ s H locs) : ∃ cell : Cell, H[X.2.1 + n]? = some cell ∧ cell.vm.isStatics = false ∧ s.vm.findClass RX3 = some cell.cls :=
  g_recv Γ.2.1 hI.1 (sh_lt' hn (by decide)) (gcell_X3 hn) (q := (RX3, TX3, 6)) rfl
theorem get_X3_weights {n : Nat} (hn : sh n = (3, 0)) (Γ : gC X p m meth c cc nL s args own rt) (hI : gI X σ s H locs) {index : Nat} (hlink : Cond.fieldLink own index "RingCutters$Net" "weights" "[I" ∈ GW) (hdg : decode cc pc = .ok (.getfield index, 3)) (kk : W p l e R s m args below meth c H locs cells slots Q (F0 m (pc + 3) ls (.ref (X.2.1 + (n + 1)) :: rest))) : W p l e R s m args below meth c H locs cells slots Q (F0 m pc ls (.ref (X.2.1 + n) :: rest)) :=
  g_get Γ hI n (sh_lt' hn (by decide)) (gcell_X3 hn) (C := RX3) (T := TX3) (N := 6) rfl inlX3 0 (by decide) hlink rfl hdg kk
theorem get_X3_between {n : Nat} (hn : sh n = (3, 0)) (Γ : gC X p m meth c cc nL s args own rt) (hI : gI X σ s H locs) {index : Nat} (hlink : Cond.fieldLink own index "RingCutters$Net" "between" "[I" ∈ GW) (hdg : decode cc pc = .ok (.getfield index, 3)) (kk : W p l e R s m args below meth c H locs cells slots Q (F0 m (pc + 3) ls (.ref (X.2.1 + (n + 2)) :: rest))) : W p l e R s m args below meth c H locs cells slots Q (F0 m pc ls (.ref (X.2.1 + n) :: rest)) :=
  g_get Γ hI n (sh_lt' hn (by decide)) (gcell_X3 hn) (C := RX3) (T := TX3) (N := 6) rfl inlX3 1 (by decide) hlink rfl hdg kk
theorem get_X3_told {n : Nat} (hn : sh n = (3, 0)) (Γ : gC X p m meth c cc nL s args own rt) (hI : gI X σ s H locs) {index : Nat} (hlink : Cond.fieldLink own index "RingCutters$Net" "told" "I" ∈ GW) (hdg : decode cc pc = .ok (.getfield index, 3)) (kk : W p l e R s m args below meth c H locs cells slots Q (F0 m (pc + 3) ls (.int (σ.1 n 2) :: rest))) : W p l e R s m args below meth c H locs cells slots Q (F0 m pc ls (.ref (X.2.1 + n) :: rest)) :=
  g_get Γ hI n (sh_lt' hn (by decide)) (gcell_X3 hn) (C := RX3) (T := TX3) (N := 6) rfl inlX3 2 (by decide) hlink rfl hdg kk
theorem put_X3_told {n : Nat} (hn : sh n = (3, 0)) (Γ : gC X p m meth c cc nL s args own rt) (hI : gI X σ s H locs) {v : Int32} {index : Nat} (hlink : Cond.fieldLink own index "RingCutters$Net" "told" "I" ∈ GW) (hdg : decode cc pc = .ok (.putfield index, 3)) (kk : ∀ (H1 : Heap) (locs1 : List Loc), gI X (wI σ n 2 v) s H1 locs1 → W p l e R s m args below meth c H1 locs1 cells slots Q (F0 m (pc + 3) ls rest)) : W p l e R s m args below meth c H locs cells slots Q (F0 m pc ls (.int v :: .ref (X.2.1 + n) :: rest)) :=
  g_put Γ hI (wI σ n 2 v) n (sh_lt' hn (by decide)) (gcell_X3 hn) (C := RX3) (T := TX3) (N := 6) tyX3 tyX3_ok nmX3 rfl inlX3 2 (by decide) hlink rfl (ty := .int) (by decide +kernel) rfl rfl (by simp [gfs]) (by rw [gcell_X3 hn]; simp [gfs, wI]) wI_other hdg kk
theorem get_X3_there {n : Nat} (hn : sh n = (3, 0)) (Γ : gC X p m meth c cc nL s args own rt) (hI : gI X σ s H locs) {index : Nat} (hlink : Cond.fieldLink own index "RingCutters$Net" "there" "I" ∈ GW) (hdg : decode cc pc = .ok (.getfield index, 3)) (kk : W p l e R s m args below meth c H locs cells slots Q (F0 m (pc + 3) ls (.int (σ.1 n 3) :: rest))) : W p l e R s m args below meth c H locs cells slots Q (F0 m pc ls (.ref (X.2.1 + n) :: rest)) :=
  g_get Γ hI n (sh_lt' hn (by decide)) (gcell_X3 hn) (C := RX3) (T := TX3) (N := 6) rfl inlX3 3 (by decide) hlink rfl hdg kk
theorem put_X3_there {n : Nat} (hn : sh n = (3, 0)) (Γ : gC X p m meth c cc nL s args own rt) (hI : gI X σ s H locs) {v : Int32} {index : Nat} (hlink : Cond.fieldLink own index "RingCutters$Net" "there" "I" ∈ GW) (hdg : decode cc pc = .ok (.putfield index, 3)) (kk : ∀ (H1 : Heap) (locs1 : List Loc), gI X (wI σ n 3 v) s H1 locs1 → W p l e R s m args below meth c H1 locs1 cells slots Q (F0 m (pc + 3) ls rest)) : W p l e R s m args below meth c H locs cells slots Q (F0 m pc ls (.int v :: .ref (X.2.1 + n) :: rest)) :=
  g_put Γ hI (wI σ n 3 v) n (sh_lt' hn (by decide)) (gcell_X3 hn) (C := RX3) (T := TX3) (N := 6) tyX3 tyX3_ok nmX3 rfl inlX3 3 (by decide) hlink rfl (ty := .int) (by decide +kernel) rfl rfl (by simp [gfs]) (by rw [gcell_X3 hn]; simp [gfs, wI]) wI_other hdg kk
theorem get_X3_taken {n : Nat} (hn : sh n = (3, 0)) (Γ : gC X p m meth c cc nL s args own rt) (hI : gI X σ s H locs) {index : Nat} (hlink : Cond.fieldLink own index "RingCutters$Net" "taken" "I" ∈ GW) (hdg : decode cc pc = .ok (.getfield index, 3)) (kk : W p l e R s m args below meth c H locs cells slots Q (F0 m (pc + 3) ls (.int (σ.1 n 4) :: rest))) : W p l e R s m args below meth c H locs cells slots Q (F0 m pc ls (.ref (X.2.1 + n) :: rest)) :=
  g_get Γ hI n (sh_lt' hn (by decide)) (gcell_X3 hn) (C := RX3) (T := TX3) (N := 6) rfl inlX3 4 (by decide) hlink rfl hdg kk
theorem put_X3_taken {n : Nat} (hn : sh n = (3, 0)) (Γ : gC X p m meth c cc nL s args own rt) (hI : gI X σ s H locs) {v : Int32} {index : Nat} (hlink : Cond.fieldLink own index "RingCutters$Net" "taken" "I" ∈ GW) (hdg : decode cc pc = .ok (.putfield index, 3)) (kk : ∀ (H1 : Heap) (locs1 : List Loc), gI X (wI σ n 4 v) s H1 locs1 → W p l e R s m args below meth c H1 locs1 cells slots Q (F0 m (pc + 3) ls rest)) : W p l e R s m args below meth c H locs cells slots Q (F0 m pc ls (.int v :: .ref (X.2.1 + n) :: rest)) :=
  g_put Γ hI (wI σ n 4 v) n (sh_lt' hn (by decide)) (gcell_X3 hn) (C := RX3) (T := TX3) (N := 6) tyX3 tyX3_ok nmX3 rfl inlX3 4 (by decide) hlink rfl (ty := .int) (by decide +kernel) rfl rfl (by simp [gfs]) (by rw [gcell_X3 hn]; simp [gfs, wI]) wI_other hdg kk
theorem get_X3_lineCount {n : Nat} (hn : sh n = (3, 0)) (Γ : gC X p m meth c cc nL s args own rt) (hI : gI X σ s H locs) {index : Nat} (hlink : Cond.fieldLink own index "RingCutters$Net" "lineCount" "I" ∈ GW) (hdg : decode cc pc = .ok (.getfield index, 3)) (kk : W p l e R s m args below meth c H locs cells slots Q (F0 m (pc + 3) ls (.int (σ.1 n 5) :: rest))) : W p l e R s m args below meth c H locs cells slots Q (F0 m pc ls (.ref (X.2.1 + n) :: rest)) :=
  g_get Γ hI n (sh_lt' hn (by decide)) (gcell_X3 hn) (C := RX3) (T := TX3) (N := 6) rfl inlX3 5 (by decide) hlink rfl hdg kk
theorem put_X3_lineCount {n : Nat} (hn : sh n = (3, 0)) (Γ : gC X p m meth c cc nL s args own rt) (hI : gI X σ s H locs) {v : Int32} {index : Nat} (hlink : Cond.fieldLink own index "RingCutters$Net" "lineCount" "I" ∈ GW) (hdg : decode cc pc = .ok (.putfield index, 3)) (kk : ∀ (H1 : Heap) (locs1 : List Loc), gI X (wI σ n 5 v) s H1 locs1 → W p l e R s m args below meth c H1 locs1 cells slots Q (F0 m (pc + 3) ls rest)) : W p l e R s m args below meth c H locs cells slots Q (F0 m pc ls (.int v :: .ref (X.2.1 + n) :: rest)) :=
  g_put Γ hI (wI σ n 5 v) n (sh_lt' hn (by decide)) (gcell_X3 hn) (C := RX3) (T := TX3) (N := 6) tyX3 tyX3_ok nmX3 rfl inlX3 5 (by decide) hlink rfl (ty := .int) (by decide +kernel) rfl rfl (by simp [gfs]) (by rw [gcell_X3 hn]; simp [gfs, wI]) wI_other hdg kk
theorem gcell_X4 {n : Nat} {r : Nat → Int32} {r2 : Nat → Int64} (h : sh n = (4, 0)) : gcell X n r r2 = .inr (4, gfs X.2.1 n r r2 4) := by unfold gcell; rw [h]; rfl
theorem recv_X4 (Γ : gC X p m meth c cc nL s args own rt) (hI : gI X σ s H locs) : ∃ cell : Cell, H[X.2.1 + 55]? = some cell ∧ cell.vm.isStatics = false ∧ s.vm.findClass RX4 = some cell.cls :=
  g_recv Γ.2.1 hI.1 (sh_lt' (show sh 55 = (4, 0) from by decide +kernel) (by decide)) (gcell_X4 (show sh 55 = (4, 0) from by decide +kernel)) (q := (RX4, TX4, 1)) rfl
theorem get_X4_most (Γ : gC X p m meth c cc nL s args own rt) (hI : gI X σ s H locs) {index : Nat} (hlink : Cond.fieldLink own index "RingCutters$Packing" "most" "[I" ∈ GW) (hdg : decode cc pc = .ok (.getfield index, 3)) (kk : W p l e R s m args below meth c H locs cells slots Q (F0 m (pc + 3) ls (.ref (X.2.1 + 56) :: rest))) : W p l e R s m args below meth c H locs cells slots Q (F0 m pc ls (.ref (X.2.1 + 55) :: rest)) :=
  g_get Γ hI 55 (sh_lt' (show sh 55 = (4, 0) from by decide +kernel) (by decide)) (gcell_X4 (show sh 55 = (4, 0) from by decide +kernel)) (C := RX4) (T := TX4) (N := 1) rfl inlX4 0 (by decide) hlink rfl hdg kk
theorem gcell_X5 {n : Nat} {r : Nat → Int32} {r2 : Nat → Int64} (h : sh n = (5, 0)) : gcell X n r r2 = .inr (5, gfs X.2.1 n r r2 5) := by unfold gcell; rw [h]; rfl
theorem recv_X5 (Γ : gC X p m meth c cc nL s args own rt) (hI : gI X σ s H locs) : ∃ cell : Cell, H[X.2.1 + 11]? = some cell ∧ cell.vm.isStatics = false ∧ s.vm.findClass RX5 = some cell.cls :=
  g_recv Γ.2.1 hI.1 (sh_lt' (show sh 11 = (5, 0) from by decide +kernel) (by decide)) (gcell_X5 (show sh 11 = (5, 0) from by decide +kernel)) (q := (RX5, TX5, 3)) rfl
theorem get_X5_places (Γ : gC X p m meth c cc nL s args own rt) (hI : gI X σ s H locs) {index : Nat} (hlink : Cond.fieldLink own index "RingCutters$Past" "places" "[LRingCutters$Net;" ∈ GW) (hdg : decode cc pc = .ok (.getfield index, 3)) (kk : W p l e R s m args below meth c H locs cells slots Q (F0 m (pc + 3) ls (.ref (X.2.1 + 12) :: rest))) : W p l e R s m args below meth c H locs cells slots Q (F0 m pc ls (.ref (X.2.1 + 11) :: rest)) :=
  g_get Γ hI 11 (sh_lt' (show sh 11 = (5, 0) from by decide +kernel) (by decide)) (gcell_X5 (show sh 11 = (5, 0) from by decide +kernel)) (C := RX5) (T := TX5) (N := 3) rfl inlX5 0 (by decide) hlink rfl hdg kk
theorem get_X5_count (Γ : gC X p m meth c cc nL s args own rt) (hI : gI X σ s H locs) {index : Nat} (hlink : Cond.fieldLink own index "RingCutters$Past" "count" "I" ∈ GW) (hdg : decode cc pc = .ok (.getfield index, 3)) (kk : W p l e R s m args below meth c H locs cells slots Q (F0 m (pc + 3) ls (.int (σ.1 11 1) :: rest))) : W p l e R s m args below meth c H locs cells slots Q (F0 m pc ls (.ref (X.2.1 + 11) :: rest)) :=
  g_get Γ hI 11 (sh_lt' (show sh 11 = (5, 0) from by decide +kernel) (by decide)) (gcell_X5 (show sh 11 = (5, 0) from by decide +kernel)) (C := RX5) (T := TX5) (N := 3) rfl inlX5 1 (by decide) hlink rfl hdg kk
theorem put_X5_count (Γ : gC X p m meth c cc nL s args own rt) (hI : gI X σ s H locs) {v : Int32} {index : Nat} (hlink : Cond.fieldLink own index "RingCutters$Past" "count" "I" ∈ GW) (hdg : decode cc pc = .ok (.putfield index, 3)) (kk : ∀ (H1 : Heap) (locs1 : List Loc), gI X (wI σ 11 1 v) s H1 locs1 → W p l e R s m args below meth c H1 locs1 cells slots Q (F0 m (pc + 3) ls rest)) : W p l e R s m args below meth c H locs cells slots Q (F0 m pc ls (.int v :: .ref (X.2.1 + 11) :: rest)) :=
  g_put Γ hI (wI σ 11 1 v) 11 (sh_lt' (show sh 11 = (5, 0) from by decide +kernel) (by decide)) (gcell_X5 (show sh 11 = (5, 0) from by decide +kernel)) (C := RX5) (T := TX5) (N := 3) tyX5 tyX5_ok nmX5 rfl inlX5 1 (by decide) hlink rfl (ty := .int) (by decide +kernel) rfl rfl (by simp [gfs]) (by rw [gcell_X5 (show sh 11 = (5, 0) from by decide +kernel)]; simp [gfs, wI]) wI_other hdg kk
theorem get_X5_latest (Γ : gC X p m meth c cc nL s args own rt) (hI : gI X σ s H locs) {index : Nat} (hlink : Cond.fieldLink own index "RingCutters$Past" "latest" "I" ∈ GW) (hdg : decode cc pc = .ok (.getfield index, 3)) (kk : W p l e R s m args below meth c H locs cells slots Q (F0 m (pc + 3) ls (.int (σ.1 11 2) :: rest))) : W p l e R s m args below meth c H locs cells slots Q (F0 m pc ls (.ref (X.2.1 + 11) :: rest)) :=
  g_get Γ hI 11 (sh_lt' (show sh 11 = (5, 0) from by decide +kernel) (by decide)) (gcell_X5 (show sh 11 = (5, 0) from by decide +kernel)) (C := RX5) (T := TX5) (N := 3) rfl inlX5 2 (by decide) hlink rfl hdg kk
theorem put_X5_latest (Γ : gC X p m meth c cc nL s args own rt) (hI : gI X σ s H locs) {v : Int32} {index : Nat} (hlink : Cond.fieldLink own index "RingCutters$Past" "latest" "I" ∈ GW) (hdg : decode cc pc = .ok (.putfield index, 3)) (kk : ∀ (H1 : Heap) (locs1 : List Loc), gI X (wI σ 11 2 v) s H1 locs1 → W p l e R s m args below meth c H1 locs1 cells slots Q (F0 m (pc + 3) ls rest)) : W p l e R s m args below meth c H locs cells slots Q (F0 m pc ls (.int v :: .ref (X.2.1 + 11) :: rest)) :=
  g_put Γ hI (wI σ 11 2 v) 11 (sh_lt' (show sh 11 = (5, 0) from by decide +kernel) (by decide)) (gcell_X5 (show sh 11 = (5, 0) from by decide +kernel)) (C := RX5) (T := TX5) (N := 3) tyX5 tyX5_ok nmX5 rfl inlX5 2 (by decide) hlink rfl (ty := .int) (by decide +kernel) rfl rfl (by simp [gfs]) (by rw [gcell_X5 (show sh 11 = (5, 0) from by decide +kernel)]; simp [gfs, wI]) wI_other hdg kk
theorem gcell_X6 {n : Nat} {r : Nat → Int32} {r2 : Nat → Int64} (h : sh n = (6, 0)) : gcell X n r r2 = .inr (6, gfs X.2.1 n r r2 6) := by unfold gcell; rw [h]; rfl
theorem recv_X6 (Γ : gC X p m meth c cc nL s args own rt) (hI : gI X σ s H locs) : ∃ cell : Cell, H[X.2.1 + 3]? = some cell ∧ cell.vm.isStatics = false ∧ s.vm.findClass RX6 = some cell.cls :=
  g_recv Γ.2.1 hI.1 (sh_lt' (show sh 3 = (6, 0) from by decide +kernel) (by decide)) (gcell_X6 (show sh 3 = (6, 0) from by decide +kernel)) (q := (RX6, TX6, 9)) rfl
theorem get_X6_found (Γ : gC X p m meth c cc nL s args own rt) (hI : gI X σ s H locs) {index : Nat} (hlink : Cond.fieldLink own index "RingCutters$Reader" "found" "LRingCutters$Net;" ∈ GW) (hdg : decode cc pc = .ok (.getfield index, 3)) (kk : W p l e R s m args below meth c H locs cells slots Q (F0 m (pc + 3) ls (.ref (X.2.1 + 4) :: rest))) : W p l e R s m args below meth c H locs cells slots Q (F0 m pc ls (.ref (X.2.1 + 3) :: rest)) :=
  g_get Γ hI 3 (sh_lt' (show sh 3 = (6, 0) from by decide +kernel) (by decide)) (gcell_X6 (show sh 3 = (6, 0) from by decide +kernel)) (C := RX6) (T := TX6) (N := 9) rfl inlX6 0 (by decide) hlink rfl hdg kk
theorem get_X6_names (Γ : gC X p m meth c cc nL s args own rt) (hI : gI X σ s H locs) {index : Nat} (hlink : Cond.fieldLink own index "RingCutters$Reader" "names" "[J" ∈ GW) (hdg : decode cc pc = .ok (.getfield index, 3)) (kk : W p l e R s m args below meth c H locs cells slots Q (F0 m (pc + 3) ls (.ref (X.2.1 + 7) :: rest))) : W p l e R s m args below meth c H locs cells slots Q (F0 m pc ls (.ref (X.2.1 + 3) :: rest)) :=
  g_get Γ hI 3 (sh_lt' (show sh 3 = (6, 0) from by decide +kernel) (by decide)) (gcell_X6 (show sh 3 = (6, 0) from by decide +kernel)) (C := RX6) (T := TX6) (N := 9) rfl inlX6 1 (by decide) hlink rfl hdg kk
theorem get_X6_rows (Γ : gC X p m meth c cc nL s args own rt) (hI : gI X σ s H locs) {index : Nat} (hlink : Cond.fieldLink own index "RingCutters$Reader" "rows" "I" ∈ GW) (hdg : decode cc pc = .ok (.getfield index, 3)) (kk : W p l e R s m args below meth c H locs cells slots Q (F0 m (pc + 3) ls (.int (σ.1 3 2) :: rest))) : W p l e R s m args below meth c H locs cells slots Q (F0 m pc ls (.ref (X.2.1 + 3) :: rest)) :=
  g_get Γ hI 3 (sh_lt' (show sh 3 = (6, 0) from by decide +kernel) (by decide)) (gcell_X6 (show sh 3 = (6, 0) from by decide +kernel)) (C := RX6) (T := TX6) (N := 9) rfl inlX6 2 (by decide) hlink rfl hdg kk
theorem put_X6_rows (Γ : gC X p m meth c cc nL s args own rt) (hI : gI X σ s H locs) {v : Int32} {index : Nat} (hlink : Cond.fieldLink own index "RingCutters$Reader" "rows" "I" ∈ GW) (hdg : decode cc pc = .ok (.putfield index, 3)) (kk : ∀ (H1 : Heap) (locs1 : List Loc), gI X (wI σ 3 2 v) s H1 locs1 → W p l e R s m args below meth c H1 locs1 cells slots Q (F0 m (pc + 3) ls rest)) : W p l e R s m args below meth c H locs cells slots Q (F0 m pc ls (.int v :: .ref (X.2.1 + 3) :: rest)) :=
  g_put Γ hI (wI σ 3 2 v) 3 (sh_lt' (show sh 3 = (6, 0) from by decide +kernel) (by decide)) (gcell_X6 (show sh 3 = (6, 0) from by decide +kernel)) (C := RX6) (T := TX6) (N := 9) tyX6 tyX6_ok nmX6 rfl inlX6 2 (by decide) hlink rfl (ty := .int) (by decide +kernel) rfl rfl (by simp [gfs]) (by rw [gcell_X6 (show sh 3 = (6, 0) from by decide +kernel)]; simp [gfs, wI]) wI_other hdg kk
theorem get_X6_place (Γ : gC X p m meth c cc nL s args own rt) (hI : gI X σ s H locs) {index : Nat} (hlink : Cond.fieldLink own index "RingCutters$Reader" "place" "I" ∈ GW) (hdg : decode cc pc = .ok (.getfield index, 3)) (kk : W p l e R s m args below meth c H locs cells slots Q (F0 m (pc + 3) ls (.int (σ.1 3 3) :: rest))) : W p l e R s m args below meth c H locs cells slots Q (F0 m pc ls (.ref (X.2.1 + 3) :: rest)) :=
  g_get Γ hI 3 (sh_lt' (show sh 3 = (6, 0) from by decide +kernel) (by decide)) (gcell_X6 (show sh 3 = (6, 0) from by decide +kernel)) (C := RX6) (T := TX6) (N := 9) rfl inlX6 3 (by decide) hlink rfl hdg kk
theorem put_X6_place (Γ : gC X p m meth c cc nL s args own rt) (hI : gI X σ s H locs) {v : Int32} {index : Nat} (hlink : Cond.fieldLink own index "RingCutters$Reader" "place" "I" ∈ GW) (hdg : decode cc pc = .ok (.putfield index, 3)) (kk : ∀ (H1 : Heap) (locs1 : List Loc), gI X (wI σ 3 3 v) s H1 locs1 → W p l e R s m args below meth c H1 locs1 cells slots Q (F0 m (pc + 3) ls rest)) : W p l e R s m args below meth c H locs cells slots Q (F0 m pc ls (.int v :: .ref (X.2.1 + 3) :: rest)) :=
  g_put Γ hI (wI σ 3 3 v) 3 (sh_lt' (show sh 3 = (6, 0) from by decide +kernel) (by decide)) (gcell_X6 (show sh 3 = (6, 0) from by decide +kernel)) (C := RX6) (T := TX6) (N := 9) tyX6 tyX6_ok nmX6 rfl inlX6 3 (by decide) hlink rfl (ty := .int) (by decide +kernel) rfl rfl (by simp [gfs]) (by rw [gcell_X6 (show sh 3 = (6, 0) from by decide +kernel)]; simp [gfs, wI]) wI_other hdg kk
theorem get_X6_expected (Γ : gC X p m meth c cc nL s args own rt) (hI : gI X σ s H locs) {index : Nat} (hlink : Cond.fieldLink own index "RingCutters$Reader" "expected" "I" ∈ GW) (hdg : decode cc pc = .ok (.getfield index, 3)) (kk : W p l e R s m args below meth c H locs cells slots Q (F0 m (pc + 3) ls (.int (σ.1 3 4) :: rest))) : W p l e R s m args below meth c H locs cells slots Q (F0 m pc ls (.ref (X.2.1 + 3) :: rest)) :=
  g_get Γ hI 3 (sh_lt' (show sh 3 = (6, 0) from by decide +kernel) (by decide)) (gcell_X6 (show sh 3 = (6, 0) from by decide +kernel)) (C := RX6) (T := TX6) (N := 9) rfl inlX6 4 (by decide) hlink rfl hdg kk
theorem put_X6_expected (Γ : gC X p m meth c cc nL s args own rt) (hI : gI X σ s H locs) {v : Int32} {index : Nat} (hlink : Cond.fieldLink own index "RingCutters$Reader" "expected" "I" ∈ GW) (hdg : decode cc pc = .ok (.putfield index, 3)) (kk : ∀ (H1 : Heap) (locs1 : List Loc), gI X (wI σ 3 4 v) s H1 locs1 → W p l e R s m args below meth c H1 locs1 cells slots Q (F0 m (pc + 3) ls rest)) : W p l e R s m args below meth c H locs cells slots Q (F0 m pc ls (.int v :: .ref (X.2.1 + 3) :: rest)) :=
  g_put Γ hI (wI σ 3 4 v) 3 (sh_lt' (show sh 3 = (6, 0) from by decide +kernel) (by decide)) (gcell_X6 (show sh 3 = (6, 0) from by decide +kernel)) (C := RX6) (T := TX6) (N := 9) tyX6 tyX6_ok nmX6 rfl inlX6 4 (by decide) hlink rfl (ty := .int) (by decide +kernel) rfl rfl (by simp [gfs]) (by rw [gcell_X6 (show sh 3 = (6, 0) from by decide +kernel)]; simp [gfs, wI]) wI_other hdg kk
theorem get_X6_first (Γ : gC X p m meth c cc nL s args own rt) (hI : gI X σ s H locs) {index : Nat} (hlink : Cond.fieldLink own index "RingCutters$Reader" "first" "I" ∈ GW) (hdg : decode cc pc = .ok (.getfield index, 3)) (kk : W p l e R s m args below meth c H locs cells slots Q (F0 m (pc + 3) ls (.int (σ.1 3 5) :: rest))) : W p l e R s m args below meth c H locs cells slots Q (F0 m pc ls (.ref (X.2.1 + 3) :: rest)) :=
  g_get Γ hI 3 (sh_lt' (show sh 3 = (6, 0) from by decide +kernel) (by decide)) (gcell_X6 (show sh 3 = (6, 0) from by decide +kernel)) (C := RX6) (T := TX6) (N := 9) rfl inlX6 5 (by decide) hlink rfl hdg kk
theorem put_X6_first (Γ : gC X p m meth c cc nL s args own rt) (hI : gI X σ s H locs) {v : Int32} {index : Nat} (hlink : Cond.fieldLink own index "RingCutters$Reader" "first" "I" ∈ GW) (hdg : decode cc pc = .ok (.putfield index, 3)) (kk : ∀ (H1 : Heap) (locs1 : List Loc), gI X (wI σ 3 5 v) s H1 locs1 → W p l e R s m args below meth c H1 locs1 cells slots Q (F0 m (pc + 3) ls rest)) : W p l e R s m args below meth c H locs cells slots Q (F0 m pc ls (.int v :: .ref (X.2.1 + 3) :: rest)) :=
  g_put Γ hI (wI σ 3 5 v) 3 (sh_lt' (show sh 3 = (6, 0) from by decide +kernel) (by decide)) (gcell_X6 (show sh 3 = (6, 0) from by decide +kernel)) (C := RX6) (T := TX6) (N := 9) tyX6 tyX6_ok nmX6 rfl inlX6 5 (by decide) hlink rfl (ty := .int) (by decide +kernel) rfl rfl (by simp [gfs]) (by rw [gcell_X6 (show sh 3 = (6, 0) from by decide +kernel)]; simp [gfs, wI]) wI_other hdg kk
theorem get_X6_kind (Γ : gC X p m meth c cc nL s args own rt) (hI : gI X σ s H locs) {index : Nat} (hlink : Cond.fieldLink own index "RingCutters$Reader" "kind" "I" ∈ GW) (hdg : decode cc pc = .ok (.getfield index, 3)) (kk : W p l e R s m args below meth c H locs cells slots Q (F0 m (pc + 3) ls (.int (σ.1 3 6) :: rest))) : W p l e R s m args below meth c H locs cells slots Q (F0 m pc ls (.ref (X.2.1 + 3) :: rest)) :=
  g_get Γ hI 3 (sh_lt' (show sh 3 = (6, 0) from by decide +kernel) (by decide)) (gcell_X6 (show sh 3 = (6, 0) from by decide +kernel)) (C := RX6) (T := TX6) (N := 9) rfl inlX6 6 (by decide) hlink rfl hdg kk
theorem put_X6_kind (Γ : gC X p m meth c cc nL s args own rt) (hI : gI X σ s H locs) {v : Int32} {index : Nat} (hlink : Cond.fieldLink own index "RingCutters$Reader" "kind" "I" ∈ GW) (hdg : decode cc pc = .ok (.putfield index, 3)) (kk : ∀ (H1 : Heap) (locs1 : List Loc), gI X (wI σ 3 6 v) s H1 locs1 → W p l e R s m args below meth c H1 locs1 cells slots Q (F0 m (pc + 3) ls rest)) : W p l e R s m args below meth c H locs cells slots Q (F0 m pc ls (.int v :: .ref (X.2.1 + 3) :: rest)) :=
  g_put Γ hI (wI σ 3 6 v) 3 (sh_lt' (show sh 3 = (6, 0) from by decide +kernel) (by decide)) (gcell_X6 (show sh 3 = (6, 0) from by decide +kernel)) (C := RX6) (T := TX6) (N := 9) tyX6 tyX6_ok nmX6 rfl inlX6 6 (by decide) hlink rfl (ty := .int) (by decide +kernel) rfl rfl (by simp [gfs]) (by rw [gcell_X6 (show sh 3 = (6, 0) from by decide +kernel)]; simp [gfs, wI]) wI_other hdg kk
theorem get_X6_value (Γ : gC X p m meth c cc nL s args own rt) (hI : gI X σ s H locs) {index : Nat} (hlink : Cond.fieldLink own index "RingCutters$Reader" "value" "J" ∈ GW) (hdg : decode cc pc = .ok (.getfield index, 3)) (kk : W p l e R s m args below meth c H locs cells slots Q (F0 m (pc + 3) ls (.long (σ.2 3 7) :: rest))) : W p l e R s m args below meth c H locs cells slots Q (F0 m pc ls (.ref (X.2.1 + 3) :: rest)) :=
  g_get Γ hI 3 (sh_lt' (show sh 3 = (6, 0) from by decide +kernel) (by decide)) (gcell_X6 (show sh 3 = (6, 0) from by decide +kernel)) (C := RX6) (T := TX6) (N := 9) rfl inlX6 7 (by decide) hlink rfl hdg kk
theorem put_X6_value (Γ : gC X p m meth c cc nL s args own rt) (hI : gI X σ s H locs) {v : Int64} {index : Nat} (hlink : Cond.fieldLink own index "RingCutters$Reader" "value" "J" ∈ GW) (hdg : decode cc pc = .ok (.putfield index, 3)) (kk : ∀ (H1 : Heap) (locs1 : List Loc), gI X (wL σ 3 7 v) s H1 locs1 → W p l e R s m args below meth c H1 locs1 cells slots Q (F0 m (pc + 3) ls rest)) : W p l e R s m args below meth c H locs cells slots Q (F0 m pc ls (.long v :: .ref (X.2.1 + 3) :: rest)) :=
  g_put Γ hI (wL σ 3 7 v) 3 (sh_lt' (show sh 3 = (6, 0) from by decide +kernel) (by decide)) (gcell_X6 (show sh 3 = (6, 0) from by decide +kernel)) (C := RX6) (T := TX6) (N := 9) tyX6 tyX6_ok nmX6 rfl inlX6 7 (by decide) hlink rfl (ty := .long) (by decide +kernel) rfl rfl (by simp [gfs]) (by rw [gcell_X6 (show sh 3 = (6, 0) from by decide +kernel)]; simp [gfs, wL]) wL_other hdg kk
theorem get_X6_next (Γ : gC X p m meth c cc nL s args own rt) (hI : gI X σ s H locs) {index : Nat} (hlink : Cond.fieldLink own index "RingCutters$Reader" "next" "I" ∈ GW) (hdg : decode cc pc = .ok (.getfield index, 3)) (kk : W p l e R s m args below meth c H locs cells slots Q (F0 m (pc + 3) ls (.int (σ.1 3 8) :: rest))) : W p l e R s m args below meth c H locs cells slots Q (F0 m pc ls (.ref (X.2.1 + 3) :: rest)) :=
  g_get Γ hI 3 (sh_lt' (show sh 3 = (6, 0) from by decide +kernel) (by decide)) (gcell_X6 (show sh 3 = (6, 0) from by decide +kernel)) (C := RX6) (T := TX6) (N := 9) rfl inlX6 8 (by decide) hlink rfl hdg kk
theorem put_X6_next (Γ : gC X p m meth c cc nL s args own rt) (hI : gI X σ s H locs) {v : Int32} {index : Nat} (hlink : Cond.fieldLink own index "RingCutters$Reader" "next" "I" ∈ GW) (hdg : decode cc pc = .ok (.putfield index, 3)) (kk : ∀ (H1 : Heap) (locs1 : List Loc), gI X (wI σ 3 8 v) s H1 locs1 → W p l e R s m args below meth c H1 locs1 cells slots Q (F0 m (pc + 3) ls rest)) : W p l e R s m args below meth c H locs cells slots Q (F0 m pc ls (.int v :: .ref (X.2.1 + 3) :: rest)) :=
  g_put Γ hI (wI σ 3 8 v) 3 (sh_lt' (show sh 3 = (6, 0) from by decide +kernel) (by decide)) (gcell_X6 (show sh 3 = (6, 0) from by decide +kernel)) (C := RX6) (T := TX6) (N := 9) tyX6 tyX6_ok nmX6 rfl inlX6 8 (by decide) hlink rfl (ty := .int) (by decide +kernel) rfl rfl (by simp [gfs]) (by rw [gcell_X6 (show sh 3 = (6, 0) from by decide +kernel)]; simp [gfs, wI]) wI_other hdg kk
theorem gcell_X8 {n : Nat} {r : Nat → Int32} {r2 : Nat → Int64} (h : sh n = (7, 0)) : gcell X n r r2 = .inr (7, gfs X.2.1 n r r2 7) := by unfold gcell; rw [h]; rfl
theorem recv_X8 (Γ : gC X p m meth c cc nL s args own rt) (hI : gI X σ s H locs) : ∃ cell : Cell, H[X.2.1 + 49]? = some cell ∧ cell.vm.isStatics = false ∧ s.vm.findClass RX8 = some cell.cls :=
  g_recv Γ.2.1 hI.1 (sh_lt' (show sh 49 = (7, 0) from by decide +kernel) (by decide)) (gcell_X8 (show sh 49 = (7, 0) from by decide +kernel)) (q := (RX8, TX8, 6)) rfl
theorem get_X8_free (Γ : gC X p m meth c cc nL s args own rt) (hI : gI X σ s H locs) {index : Nat} (hlink : Cond.fieldLink own index "RingCutters$Rings" "free" "[Z" ∈ GW) (hdg : decode cc pc = .ok (.getfield index, 3)) (kk : W p l e R s m args below meth c H locs cells slots Q (F0 m (pc + 3) ls (.ref (X.2.1 + 50) :: rest))) : W p l e R s m args below meth c H locs cells slots Q (F0 m pc ls (.ref (X.2.1 + 49) :: rest)) :=
  g_get Γ hI 49 (sh_lt' (show sh 49 = (7, 0) from by decide +kernel) (by decide)) (gcell_X8 (show sh 49 = (7, 0) from by decide +kernel)) (C := RX8) (T := TX8) (N := 6) rfl inlX8 0 (by decide) hlink rfl hdg kk
theorem get_X8_beside (Γ : gC X p m meth c cc nL s args own rt) (hI : gI X σ s H locs) {index : Nat} (hlink : Cond.fieldLink own index "RingCutters$Rings" "beside" "[I" ∈ GW) (hdg : decode cc pc = .ok (.getfield index, 3)) (kk : W p l e R s m args below meth c H locs cells slots Q (F0 m (pc + 3) ls (.ref (X.2.1 + 51) :: rest))) : W p l e R s m args below meth c H locs cells slots Q (F0 m pc ls (.ref (X.2.1 + 49) :: rest)) :=
  g_get Γ hI 49 (sh_lt' (show sh 49 = (7, 0) from by decide +kernel) (by decide)) (gcell_X8 (show sh 49 = (7, 0) from by decide +kernel)) (C := RX8) (T := TX8) (N := 6) rfl inlX8 1 (by decide) hlink rfl hdg kk
theorem get_X8_doubled (Γ : gC X p m meth c cc nL s args own rt) (hI : gI X σ s H locs) {index : Nat} (hlink : Cond.fieldLink own index "RingCutters$Rings" "doubled" "[I" ∈ GW) (hdg : decode cc pc = .ok (.getfield index, 3)) (kk : W p l e R s m args below meth c H locs cells slots Q (F0 m (pc + 3) ls (.ref (X.2.1 + 52) :: rest))) : W p l e R s m args below meth c H locs cells slots Q (F0 m pc ls (.ref (X.2.1 + 49) :: rest)) :=
  g_get Γ hI 49 (sh_lt' (show sh 49 = (7, 0) from by decide +kernel) (by decide)) (gcell_X8 (show sh 49 = (7, 0) from by decide +kernel)) (C := RX8) (T := TX8) (N := 6) rfl inlX8 2 (by decide) hlink rfl hdg kk
theorem get_X8_ringSets (Γ : gC X p m meth c cc nL s args own rt) (hI : gI X σ s H locs) {index : Nat} (hlink : Cond.fieldLink own index "RingCutters$Rings" "ringSets" "[I" ∈ GW) (hdg : decode cc pc = .ok (.getfield index, 3)) (kk : W p l e R s m args below meth c H locs cells slots Q (F0 m (pc + 3) ls (.ref (X.2.1 + 53) :: rest))) : W p l e R s m args below meth c H locs cells slots Q (F0 m pc ls (.ref (X.2.1 + 49) :: rest)) :=
  g_get Γ hI 49 (sh_lt' (show sh 49 = (7, 0) from by decide +kernel) (by decide)) (gcell_X8 (show sh 49 = (7, 0) from by decide +kernel)) (C := RX8) (T := TX8) (N := 6) rfl inlX8 3 (by decide) hlink rfl hdg kk
theorem get_X8_starts (Γ : gC X p m meth c cc nL s args own rt) (hI : gI X σ s H locs) {index : Nat} (hlink : Cond.fieldLink own index "RingCutters$Rings" "starts" "[I" ∈ GW) (hdg : decode cc pc = .ok (.getfield index, 3)) (kk : W p l e R s m args below meth c H locs cells slots Q (F0 m (pc + 3) ls (.ref (X.2.1 + 54) :: rest))) : W p l e R s m args below meth c H locs cells slots Q (F0 m pc ls (.ref (X.2.1 + 49) :: rest)) :=
  g_get Γ hI 49 (sh_lt' (show sh 49 = (7, 0) from by decide +kernel) (by decide)) (gcell_X8 (show sh 49 = (7, 0) from by decide +kernel)) (C := RX8) (T := TX8) (N := 6) rfl inlX8 4 (by decide) hlink rfl hdg kk
theorem get_X8_many (Γ : gC X p m meth c cc nL s args own rt) (hI : gI X σ s H locs) {index : Nat} (hlink : Cond.fieldLink own index "RingCutters$Rings" "many" "I" ∈ GW) (hdg : decode cc pc = .ok (.getfield index, 3)) (kk : W p l e R s m args below meth c H locs cells slots Q (F0 m (pc + 3) ls (.int (σ.1 49 5) :: rest))) : W p l e R s m args below meth c H locs cells slots Q (F0 m pc ls (.ref (X.2.1 + 49) :: rest)) :=
  g_get Γ hI 49 (sh_lt' (show sh 49 = (7, 0) from by decide +kernel) (by decide)) (gcell_X8 (show sh 49 = (7, 0) from by decide +kernel)) (C := RX8) (T := TX8) (N := 6) rfl inlX8 5 (by decide) hlink rfl hdg kk
theorem put_X8_many (Γ : gC X p m meth c cc nL s args own rt) (hI : gI X σ s H locs) {v : Int32} {index : Nat} (hlink : Cond.fieldLink own index "RingCutters$Rings" "many" "I" ∈ GW) (hdg : decode cc pc = .ok (.putfield index, 3)) (kk : ∀ (H1 : Heap) (locs1 : List Loc), gI X (wI σ 49 5 v) s H1 locs1 → W p l e R s m args below meth c H1 locs1 cells slots Q (F0 m (pc + 3) ls rest)) : W p l e R s m args below meth c H locs cells slots Q (F0 m pc ls (.int v :: .ref (X.2.1 + 49) :: rest)) :=
  g_put Γ hI (wI σ 49 5 v) 49 (sh_lt' (show sh 49 = (7, 0) from by decide +kernel) (by decide)) (gcell_X8 (show sh 49 = (7, 0) from by decide +kernel)) (C := RX8) (T := TX8) (N := 6) tyX8 tyX8_ok nmX8 rfl inlX8 5 (by decide) hlink rfl (ty := .int) (by decide +kernel) rfl rfl (by simp [gfs]) (by rw [gcell_X8 (show sh 49 = (7, 0) from by decide +kernel)]; simp [gfs, wI]) wI_other hdg kk
theorem gcell_X10 {n : Nat} {r : Nat → Int32} {r2 : Nat → Int64} (h : sh n = (8, 0)) : gcell X n r r2 = .inr (8, gfs X.2.1 n r r2 8) := by unfold gcell; rw [h]; rfl
theorem recv_X10 (Γ : gC X p m meth c cc nL s args own rt) (hI : gI X σ s H locs) : ∃ cell : Cell, H[X.2.1 + 1]? = some cell ∧ cell.vm.isStatics = false ∧ s.vm.findClass RX10 = some cell.cls :=
  g_recv Γ.2.1 hI.1 (sh_lt' (show sh 1 = (8, 0) from by decide +kernel) (by decide)) (gcell_X10 (show sh 1 = (8, 0) from by decide +kernel)) (q := (RX10, TX10, 2)) rfl
theorem get_X10_bytes (Γ : gC X p m meth c cc nL s args own rt) (hI : gI X σ s H locs) {index : Nat} (hlink : Cond.fieldLink own index "RingCutters$Tape" "bytes" "[I" ∈ GW) (hdg : decode cc pc = .ok (.getfield index, 3)) (kk : W p l e R s m args below meth c H locs cells slots Q (F0 m (pc + 3) ls (.ref (X.2.1 + 2) :: rest))) : W p l e R s m args below meth c H locs cells slots Q (F0 m pc ls (.ref (X.2.1 + 1) :: rest)) :=
  g_get Γ hI 1 (sh_lt' (show sh 1 = (8, 0) from by decide +kernel) (by decide)) (gcell_X10 (show sh 1 = (8, 0) from by decide +kernel)) (C := RX10) (T := TX10) (N := 2) rfl inlX10 0 (by decide) hlink rfl hdg kk
theorem get_X10_length (Γ : gC X p m meth c cc nL s args own rt) (hI : gI X σ s H locs) {index : Nat} (hlink : Cond.fieldLink own index "RingCutters$Tape" "length" "I" ∈ GW) (hdg : decode cc pc = .ok (.getfield index, 3)) (kk : W p l e R s m args below meth c H locs cells slots Q (F0 m (pc + 3) ls (.int (σ.1 1 1) :: rest))) : W p l e R s m args below meth c H locs cells slots Q (F0 m pc ls (.ref (X.2.1 + 1) :: rest)) :=
  g_get Γ hI 1 (sh_lt' (show sh 1 = (8, 0) from by decide +kernel) (by decide)) (gcell_X10 (show sh 1 = (8, 0) from by decide +kernel)) (C := RX10) (T := TX10) (N := 2) rfl inlX10 1 (by decide) hlink rfl hdg kk
theorem put_X10_length (Γ : gC X p m meth c cc nL s args own rt) (hI : gI X σ s H locs) {v : Int32} {index : Nat} (hlink : Cond.fieldLink own index "RingCutters$Tape" "length" "I" ∈ GW) (hdg : decode cc pc = .ok (.putfield index, 3)) (kk : ∀ (H1 : Heap) (locs1 : List Loc), gI X (wI σ 1 1 v) s H1 locs1 → W p l e R s m args below meth c H1 locs1 cells slots Q (F0 m (pc + 3) ls rest)) : W p l e R s m args below meth c H locs cells slots Q (F0 m pc ls (.int v :: .ref (X.2.1 + 1) :: rest)) :=
  g_put Γ hI (wI σ 1 1 v) 1 (sh_lt' (show sh 1 = (8, 0) from by decide +kernel) (by decide)) (gcell_X10 (show sh 1 = (8, 0) from by decide +kernel)) (C := RX10) (T := TX10) (N := 2) tyX10 tyX10_ok nmX10 rfl inlX10 1 (by decide) hlink rfl (ty := .int) (by decide +kernel) rfl rfl (by simp [gfs]) (by rw [gcell_X10 (show sh 1 = (8, 0) from by decide +kernel)]; simp [gfs, wI]) wI_other hdg kk
theorem gcell_X11 {n : Nat} {r : Nat → Int32} {r2 : Nat → Int64} (h : sh n = (9, 0)) : gcell X n r r2 = .inr (9, gfs X.2.1 n r r2 9) := by unfold gcell; rw [h]; rfl
theorem recv_X11 (Γ : gC X p m meth c cc nL s args own rt) (hI : gI X σ s H locs) : ∃ cell : Cell, H[X.2.1 + 0]? = some cell ∧ cell.vm.isStatics = false ∧ s.vm.findClass RX11 = some cell.cls :=
  g_recv Γ.2.1 hI.1 (sh_lt' (show sh 0 = (9, 0) from by decide +kernel) (by decide)) (gcell_X11 (show sh 0 = (9, 0) from by decide +kernel)) (q := (RX11, TX11, 14)) rfl
theorem get_X11_tape (Γ : gC X p m meth c cc nL s args own rt) (hI : gI X σ s H locs) {index : Nat} (hlink : Cond.fieldLink own index "RingCutters" "tape" "LRingCutters$Tape;" ∈ GW) (hdg : decode cc pc = .ok (.getfield index, 3)) (kk : W p l e R s m args below meth c H locs cells slots Q (F0 m (pc + 3) ls (.ref (X.2.1 + 1) :: rest))) : W p l e R s m args below meth c H locs cells slots Q (F0 m pc ls (.ref (X.2.1 + 0) :: rest)) :=
  g_get Γ hI 0 (sh_lt' (show sh 0 = (9, 0) from by decide +kernel) (by decide)) (gcell_X11 (show sh 0 = (9, 0) from by decide +kernel)) (C := RX11) (T := TX11) (N := 14) rfl inlX11 0 (by decide) hlink rfl hdg kk
theorem get_X11_reader (Γ : gC X p m meth c cc nL s args own rt) (hI : gI X σ s H locs) {index : Nat} (hlink : Cond.fieldLink own index "RingCutters" "reader" "LRingCutters$Reader;" ∈ GW) (hdg : decode cc pc = .ok (.getfield index, 3)) (kk : W p l e R s m args below meth c H locs cells slots Q (F0 m (pc + 3) ls (.ref (X.2.1 + 3) :: rest))) : W p l e R s m args below meth c H locs cells slots Q (F0 m pc ls (.ref (X.2.1 + 0) :: rest)) :=
  g_get Γ hI 0 (sh_lt' (show sh 0 = (9, 0) from by decide +kernel) (by decide)) (gcell_X11 (show sh 0 = (9, 0) from by decide +kernel)) (C := RX11) (T := TX11) (N := 14) rfl inlX11 1 (by decide) hlink rfl hdg kk
theorem get_X11_net (Γ : gC X p m meth c cc nL s args own rt) (hI : gI X σ s H locs) {index : Nat} (hlink : Cond.fieldLink own index "RingCutters" "net" "LRingCutters$Net;" ∈ GW) (hdg : decode cc pc = .ok (.getfield index, 3)) (kk : W p l e R s m args below meth c H locs cells slots Q (F0 m (pc + 3) ls (.ref (X.2.1 + 8) :: rest))) : W p l e R s m args below meth c H locs cells slots Q (F0 m pc ls (.ref (X.2.1 + 0) :: rest)) :=
  g_get Γ hI 0 (sh_lt' (show sh 0 = (9, 0) from by decide +kernel) (by decide)) (gcell_X11 (show sh 0 = (9, 0) from by decide +kernel)) (C := RX11) (T := TX11) (N := 14) rfl inlX11 2 (by decide) hlink rfl hdg kk
theorem get_X11_past (Γ : gC X p m meth c cc nL s args own rt) (hI : gI X σ s H locs) {index : Nat} (hlink : Cond.fieldLink own index "RingCutters" "past" "LRingCutters$Past;" ∈ GW) (hdg : decode cc pc = .ok (.getfield index, 3)) (kk : W p l e R s m args below meth c H locs cells slots Q (F0 m (pc + 3) ls (.ref (X.2.1 + 11) :: rest))) : W p l e R s m args below meth c H locs cells slots Q (F0 m pc ls (.ref (X.2.1 + 0) :: rest)) :=
  g_get Γ hI 0 (sh_lt' (show sh 0 = (9, 0) from by decide +kernel) (by decide)) (gcell_X11 (show sh 0 = (9, 0) from by decide +kernel)) (C := RX11) (T := TX11) (N := 14) rfl inlX11 3 (by decide) hlink rfl hdg kk
theorem get_X11_imageZero (Γ : gC X p m meth c cc nL s args own rt) (hI : gI X σ s H locs) {index : Nat} (hlink : Cond.fieldLink own index "RingCutters" "imageZero" "LRingCutters$Kept;" ∈ GW) (hdg : decode cc pc = .ok (.getfield index, 3)) (kk : W p l e R s m args below meth c H locs cells slots Q (F0 m (pc + 3) ls (.ref (X.2.1 + 40) :: rest))) : W p l e R s m args below meth c H locs cells slots Q (F0 m pc ls (.ref (X.2.1 + 0) :: rest)) :=
  g_get Γ hI 0 (sh_lt' (show sh 0 = (9, 0) from by decide +kernel) (by decide)) (gcell_X11 (show sh 0 = (9, 0) from by decide +kernel)) (C := RX11) (T := TX11) (N := 14) rfl inlX11 4 (by decide) hlink rfl hdg kk
theorem get_X11_imageOne (Γ : gC X p m meth c cc nL s args own rt) (hI : gI X σ s H locs) {index : Nat} (hlink : Cond.fieldLink own index "RingCutters" "imageOne" "LRingCutters$Kept;" ∈ GW) (hdg : decode cc pc = .ok (.getfield index, 3)) (kk : W p l e R s m args below meth c H locs cells slots Q (F0 m (pc + 3) ls (.ref (X.2.1 + 44) :: rest))) : W p l e R s m args below meth c H locs cells slots Q (F0 m pc ls (.ref (X.2.1 + 0) :: rest)) :=
  g_get Γ hI 0 (sh_lt' (show sh 0 = (9, 0) from by decide +kernel) (by decide)) (gcell_X11 (show sh 0 = (9, 0) from by decide +kernel)) (C := RX11) (T := TX11) (N := 14) rfl inlX11 5 (by decide) hlink rfl hdg kk
theorem get_X11_draws (Γ : gC X p m meth c cc nL s args own rt) (hI : gI X σ s H locs) {index : Nat} (hlink : Cond.fieldLink own index "RingCutters" "draws" "LRingCutters$Draws;" ∈ GW) (hdg : decode cc pc = .ok (.getfield index, 3)) (kk : W p l e R s m args below meth c H locs cells slots Q (F0 m (pc + 3) ls (.ref (X.2.1 + 48) :: rest))) : W p l e R s m args below meth c H locs cells slots Q (F0 m pc ls (.ref (X.2.1 + 0) :: rest)) :=
  g_get Γ hI 0 (sh_lt' (show sh 0 = (9, 0) from by decide +kernel) (by decide)) (gcell_X11 (show sh 0 = (9, 0) from by decide +kernel)) (C := RX11) (T := TX11) (N := 14) rfl inlX11 6 (by decide) hlink rfl hdg kk
theorem get_X11_rings (Γ : gC X p m meth c cc nL s args own rt) (hI : gI X σ s H locs) {index : Nat} (hlink : Cond.fieldLink own index "RingCutters" "rings" "LRingCutters$Rings;" ∈ GW) (hdg : decode cc pc = .ok (.getfield index, 3)) (kk : W p l e R s m args below meth c H locs cells slots Q (F0 m (pc + 3) ls (.ref (X.2.1 + 49) :: rest))) : W p l e R s m args below meth c H locs cells slots Q (F0 m pc ls (.ref (X.2.1 + 0) :: rest)) :=
  g_get Γ hI 0 (sh_lt' (show sh 0 = (9, 0) from by decide +kernel) (by decide)) (gcell_X11 (show sh 0 = (9, 0) from by decide +kernel)) (C := RX11) (T := TX11) (N := 14) rfl inlX11 7 (by decide) hlink rfl hdg kk
theorem get_X11_packing (Γ : gC X p m meth c cc nL s args own rt) (hI : gI X σ s H locs) {index : Nat} (hlink : Cond.fieldLink own index "RingCutters" "packing" "LRingCutters$Packing;" ∈ GW) (hdg : decode cc pc = .ok (.getfield index, 3)) (kk : W p l e R s m args below meth c H locs cells slots Q (F0 m (pc + 3) ls (.ref (X.2.1 + 55) :: rest))) : W p l e R s m args below meth c H locs cells slots Q (F0 m pc ls (.ref (X.2.1 + 0) :: rest)) :=
  g_get Γ hI 0 (sh_lt' (show sh 0 = (9, 0) from by decide +kernel) (by decide)) (gcell_X11 (show sh 0 = (9, 0) from by decide +kernel)) (C := RX11) (T := TX11) (N := 14) rfl inlX11 8 (by decide) hlink rfl hdg kk
theorem get_X11_discount (Γ : gC X p m meth c cc nL s args own rt) (hI : gI X σ s H locs) {index : Nat} (hlink : Cond.fieldLink own index "RingCutters" "discount" "LRingCutters$Discount;" ∈ GW) (hdg : decode cc pc = .ok (.getfield index, 3)) (kk : W p l e R s m args below meth c H locs cells slots Q (F0 m (pc + 3) ls (.ref (X.2.1 + 57) :: rest))) : W p l e R s m args below meth c H locs cells slots Q (F0 m pc ls (.ref (X.2.1 + 0) :: rest)) :=
  g_get Γ hI 0 (sh_lt' (show sh 0 = (9, 0) from by decide +kernel) (by decide)) (gcell_X11 (show sh 0 = (9, 0) from by decide +kernel)) (C := RX11) (T := TX11) (N := 14) rfl inlX11 9 (by decide) hlink rfl hdg kk
theorem get_X11_faultKind (Γ : gC X p m meth c cc nL s args own rt) (hI : gI X σ s H locs) {index : Nat} (hlink : Cond.fieldLink own index "RingCutters" "faultKind" "I" ∈ GW) (hdg : decode cc pc = .ok (.getfield index, 3)) (kk : W p l e R s m args below meth c H locs cells slots Q (F0 m (pc + 3) ls (.int (σ.1 0 10) :: rest))) : W p l e R s m args below meth c H locs cells slots Q (F0 m pc ls (.ref (X.2.1 + 0) :: rest)) :=
  g_get Γ hI 0 (sh_lt' (show sh 0 = (9, 0) from by decide +kernel) (by decide)) (gcell_X11 (show sh 0 = (9, 0) from by decide +kernel)) (C := RX11) (T := TX11) (N := 14) rfl inlX11 10 (by decide) hlink rfl hdg kk
theorem put_X11_faultKind (Γ : gC X p m meth c cc nL s args own rt) (hI : gI X σ s H locs) {v : Int32} {index : Nat} (hlink : Cond.fieldLink own index "RingCutters" "faultKind" "I" ∈ GW) (hdg : decode cc pc = .ok (.putfield index, 3)) (kk : ∀ (H1 : Heap) (locs1 : List Loc), gI X (wI σ 0 10 v) s H1 locs1 → W p l e R s m args below meth c H1 locs1 cells slots Q (F0 m (pc + 3) ls rest)) : W p l e R s m args below meth c H locs cells slots Q (F0 m pc ls (.int v :: .ref (X.2.1 + 0) :: rest)) :=
  g_put Γ hI (wI σ 0 10 v) 0 (sh_lt' (show sh 0 = (9, 0) from by decide +kernel) (by decide)) (gcell_X11 (show sh 0 = (9, 0) from by decide +kernel)) (C := RX11) (T := TX11) (N := 14) tyX11 tyX11_ok nmX11 rfl inlX11 10 (by decide) hlink rfl (ty := .int) (by decide +kernel) rfl rfl (by simp [gfs]) (by rw [gcell_X11 (show sh 0 = (9, 0) from by decide +kernel)]; simp [gfs, wI]) wI_other hdg kk
theorem get_X11_ringsStale (Γ : gC X p m meth c cc nL s args own rt) (hI : gI X σ s H locs) {index : Nat} (hlink : Cond.fieldLink own index "RingCutters" "ringsStale" "Z" ∈ GW) (hdg : decode cc pc = .ok (.getfield index, 3)) (kk : W p l e R s m args below meth c H locs cells slots Q (F0 m (pc + 3) ls (.int (σ.1 0 11) :: rest))) : W p l e R s m args below meth c H locs cells slots Q (F0 m pc ls (.ref (X.2.1 + 0) :: rest)) :=
  g_get Γ hI 0 (sh_lt' (show sh 0 = (9, 0) from by decide +kernel) (by decide)) (gcell_X11 (show sh 0 = (9, 0) from by decide +kernel)) (C := RX11) (T := TX11) (N := 14) rfl inlX11 11 (by decide) hlink rfl hdg kk
theorem put_X11_ringsStale (Γ : gC X p m meth c cc nL s args own rt) (hI : gI X σ s H locs) {v : Int32} (hz : v &&& 1 = v) (hf : fits .boolean (.int v) = true) {index : Nat} (hlink : Cond.fieldLink own index "RingCutters" "ringsStale" "Z" ∈ GW) (hdg : decode cc pc = .ok (.putfield index, 3)) (kk : ∀ (H1 : Heap) (locs1 : List Loc), gI X (wI σ 0 11 v) s H1 locs1 → W p l e R s m args below meth c H1 locs1 cells slots Q (F0 m (pc + 3) ls rest)) : W p l e R s m args below meth c H locs cells slots Q (F0 m pc ls (.int v :: .ref (X.2.1 + 0) :: rest)) :=
  g_put Γ hI (wI σ 0 11 v) 0 (sh_lt' (show sh 0 = (9, 0) from by decide +kernel) (by decide)) (gcell_X11 (show sh 0 = (9, 0) from by decide +kernel)) (C := RX11) (T := TX11) (N := 14) tyX11 tyX11_ok nmX11 rfl inlX11 11 (by decide) hlink rfl (ty := .boolean) (by decide +kernel) (by show Value.int (v &&& 1) = .int v; rw [hz]) hf (by simp [gfs]) (by rw [gcell_X11 (show sh 0 = (9, 0) from by decide +kernel)]; simp [gfs, wI]) wI_other hdg kk
theorem get_X11_packingStale (Γ : gC X p m meth c cc nL s args own rt) (hI : gI X σ s H locs) {index : Nat} (hlink : Cond.fieldLink own index "RingCutters" "packingStale" "Z" ∈ GW) (hdg : decode cc pc = .ok (.getfield index, 3)) (kk : W p l e R s m args below meth c H locs cells slots Q (F0 m (pc + 3) ls (.int (σ.1 0 12) :: rest))) : W p l e R s m args below meth c H locs cells slots Q (F0 m pc ls (.ref (X.2.1 + 0) :: rest)) :=
  g_get Γ hI 0 (sh_lt' (show sh 0 = (9, 0) from by decide +kernel) (by decide)) (gcell_X11 (show sh 0 = (9, 0) from by decide +kernel)) (C := RX11) (T := TX11) (N := 14) rfl inlX11 12 (by decide) hlink rfl hdg kk
theorem put_X11_packingStale (Γ : gC X p m meth c cc nL s args own rt) (hI : gI X σ s H locs) {v : Int32} (hz : v &&& 1 = v) (hf : fits .boolean (.int v) = true) {index : Nat} (hlink : Cond.fieldLink own index "RingCutters" "packingStale" "Z" ∈ GW) (hdg : decode cc pc = .ok (.putfield index, 3)) (kk : ∀ (H1 : Heap) (locs1 : List Loc), gI X (wI σ 0 12 v) s H1 locs1 → W p l e R s m args below meth c H1 locs1 cells slots Q (F0 m (pc + 3) ls rest)) : W p l e R s m args below meth c H locs cells slots Q (F0 m pc ls (.int v :: .ref (X.2.1 + 0) :: rest)) :=
  g_put Γ hI (wI σ 0 12 v) 0 (sh_lt' (show sh 0 = (9, 0) from by decide +kernel) (by decide)) (gcell_X11 (show sh 0 = (9, 0) from by decide +kernel)) (C := RX11) (T := TX11) (N := 14) tyX11 tyX11_ok nmX11 rfl inlX11 12 (by decide) hlink rfl (ty := .boolean) (by decide +kernel) (by show Value.int (v &&& 1) = .int v; rw [hz]) hf (by simp [gfs]) (by rw [gcell_X11 (show sh 0 = (9, 0) from by decide +kernel)]; simp [gfs, wI]) wI_other hdg kk
theorem get_X11_discountStale (Γ : gC X p m meth c cc nL s args own rt) (hI : gI X σ s H locs) {index : Nat} (hlink : Cond.fieldLink own index "RingCutters" "discountStale" "Z" ∈ GW) (hdg : decode cc pc = .ok (.getfield index, 3)) (kk : W p l e R s m args below meth c H locs cells slots Q (F0 m (pc + 3) ls (.int (σ.1 0 13) :: rest))) : W p l e R s m args below meth c H locs cells slots Q (F0 m pc ls (.ref (X.2.1 + 0) :: rest)) :=
  g_get Γ hI 0 (sh_lt' (show sh 0 = (9, 0) from by decide +kernel) (by decide)) (gcell_X11 (show sh 0 = (9, 0) from by decide +kernel)) (C := RX11) (T := TX11) (N := 14) rfl inlX11 13 (by decide) hlink rfl hdg kk
theorem put_X11_discountStale (Γ : gC X p m meth c cc nL s args own rt) (hI : gI X σ s H locs) {v : Int32} (hz : v &&& 1 = v) (hf : fits .boolean (.int v) = true) {index : Nat} (hlink : Cond.fieldLink own index "RingCutters" "discountStale" "Z" ∈ GW) (hdg : decode cc pc = .ok (.putfield index, 3)) (kk : ∀ (H1 : Heap) (locs1 : List Loc), gI X (wI σ 0 13 v) s H1 locs1 → W p l e R s m args below meth c H1 locs1 cells slots Q (F0 m (pc + 3) ls rest)) : W p l e R s m args below meth c H locs cells slots Q (F0 m pc ls (.int v :: .ref (X.2.1 + 0) :: rest)) :=
  g_put Γ hI (wI σ 0 13 v) 0 (sh_lt' (show sh 0 = (9, 0) from by decide +kernel) (by decide)) (gcell_X11 (show sh 0 = (9, 0) from by decide +kernel)) (C := RX11) (T := TX11) (N := 14) tyX11 tyX11_ok nmX11 rfl inlX11 13 (by decide) hlink rfl (ty := .boolean) (by decide +kernel) (by show Value.int (v &&& 1) = .int v; rw [hz]) hf (by simp [gfs]) (by rw [gcell_X11 (show sh 0 = (9, 0) from by decide +kernel)]; simp [gfs, wI]) wI_other hdg kk
theorem gcell_X12 {n : Nat} {r : Nat → Int32} {r2 : Nat → Int64} (h : sh n = (10, 0)) : gcell X n r r2 = .inr (10, gfs X.2.1 n r r2 10) := by unfold gcell; rw [h]; rfl
theorem recv_X12 (Γ : gC X p m meth c cc nL s args own rt) (hI : gI X σ s H locs) : ∃ cell : Cell, H[X.2.1 + 60]? = some cell ∧ cell.vm.isStatics = false ∧ s.vm.findClass RX12 = some cell.cls :=
  g_recv Γ.2.1 hI.1 (sh_lt' (show sh 60 = (10, 0) from by decide +kernel) (by decide)) (gcell_X12 (show sh 60 = (10, 0) from by decide +kernel)) (q := (RX12, TX12, 30)) rfl
theorem get_X12_thrown (Γ : gC X p m meth c cc nL s args own rt) (hI : gI X σ s H locs) {index : Nat} (hlink : Cond.fieldLink own index "RingCuttersModel" "thrown" "I" ∈ GW) (hdg : decode cc pc = .ok (.getfield index, 3)) (kk : W p l e R s m args below meth c H locs cells slots Q (F0 m (pc + 3) ls (.int (σ.1 60 0) :: rest))) : W p l e R s m args below meth c H locs cells slots Q (F0 m pc ls (.ref (X.2.1 + 60) :: rest)) :=
  g_get Γ hI 60 (sh_lt' (show sh 60 = (10, 0) from by decide +kernel) (by decide)) (gcell_X12 (show sh 60 = (10, 0) from by decide +kernel)) (C := RX12) (T := TX12) (N := 30) rfl inlX12 0 (by decide) hlink rfl hdg kk
theorem put_X12_thrown (Γ : gC X p m meth c cc nL s args own rt) (hI : gI X σ s H locs) {v : Int32} {index : Nat} (hlink : Cond.fieldLink own index "RingCuttersModel" "thrown" "I" ∈ GW) (hdg : decode cc pc = .ok (.putfield index, 3)) (kk : ∀ (H1 : Heap) (locs1 : List Loc), gI X (wI σ 60 0 v) s H1 locs1 → W p l e R s m args below meth c H1 locs1 cells slots Q (F0 m (pc + 3) ls rest)) : W p l e R s m args below meth c H locs cells slots Q (F0 m pc ls (.int v :: .ref (X.2.1 + 60) :: rest)) :=
  g_put Γ hI (wI σ 60 0 v) 60 (sh_lt' (show sh 60 = (10, 0) from by decide +kernel) (by decide)) (gcell_X12 (show sh 60 = (10, 0) from by decide +kernel)) (C := RX12) (T := TX12) (N := 30) tyX12 tyX12_ok nmX12 rfl inlX12 0 (by decide) hlink rfl (ty := .int) (by decide +kernel) rfl rfl (by simp [gfs]) (by rw [gcell_X12 (show sh 60 = (10, 0) from by decide +kernel)]; simp [gfs, wI]) wI_other hdg kk
theorem get_X12_tape (Γ : gC X p m meth c cc nL s args own rt) (hI : gI X σ s H locs) {index : Nat} (hlink : Cond.fieldLink own index "RingCuttersModel" "tape" "[I" ∈ GW) (hdg : decode cc pc = .ok (.getfield index, 3)) (kk : W p l e R s m args below meth c H locs cells slots Q (F0 m (pc + 3) ls (.ref (X.2.1 + 61) :: rest))) : W p l e R s m args below meth c H locs cells slots Q (F0 m pc ls (.ref (X.2.1 + 60) :: rest)) :=
  g_get Γ hI 60 (sh_lt' (show sh 60 = (10, 0) from by decide +kernel) (by decide)) (gcell_X12 (show sh 60 = (10, 0) from by decide +kernel)) (C := RX12) (T := TX12) (N := 30) rfl inlX12 1 (by decide) hlink rfl hdg kk
theorem get_X12_taped (Γ : gC X p m meth c cc nL s args own rt) (hI : gI X σ s H locs) {index : Nat} (hlink : Cond.fieldLink own index "RingCuttersModel" "taped" "I" ∈ GW) (hdg : decode cc pc = .ok (.getfield index, 3)) (kk : W p l e R s m args below meth c H locs cells slots Q (F0 m (pc + 3) ls (.int (σ.1 60 2) :: rest))) : W p l e R s m args below meth c H locs cells slots Q (F0 m pc ls (.ref (X.2.1 + 60) :: rest)) :=
  g_get Γ hI 60 (sh_lt' (show sh 60 = (10, 0) from by decide +kernel) (by decide)) (gcell_X12 (show sh 60 = (10, 0) from by decide +kernel)) (C := RX12) (T := TX12) (N := 30) rfl inlX12 2 (by decide) hlink rfl hdg kk
theorem put_X12_taped (Γ : gC X p m meth c cc nL s args own rt) (hI : gI X σ s H locs) {v : Int32} {index : Nat} (hlink : Cond.fieldLink own index "RingCuttersModel" "taped" "I" ∈ GW) (hdg : decode cc pc = .ok (.putfield index, 3)) (kk : ∀ (H1 : Heap) (locs1 : List Loc), gI X (wI σ 60 2 v) s H1 locs1 → W p l e R s m args below meth c H1 locs1 cells slots Q (F0 m (pc + 3) ls rest)) : W p l e R s m args below meth c H locs cells slots Q (F0 m pc ls (.int v :: .ref (X.2.1 + 60) :: rest)) :=
  g_put Γ hI (wI σ 60 2 v) 60 (sh_lt' (show sh 60 = (10, 0) from by decide +kernel) (by decide)) (gcell_X12 (show sh 60 = (10, 0) from by decide +kernel)) (C := RX12) (T := TX12) (N := 30) tyX12 tyX12_ok nmX12 rfl inlX12 2 (by decide) hlink rfl (ty := .int) (by decide +kernel) rfl rfl (by simp [gfs]) (by rw [gcell_X12 (show sh 60 = (10, 0) from by decide +kernel)]; simp [gfs, wI]) wI_other hdg kk
theorem get_X12_size (Γ : gC X p m meth c cc nL s args own rt) (hI : gI X σ s H locs) {index : Nat} (hlink : Cond.fieldLink own index "RingCuttersModel" "size" "I" ∈ GW) (hdg : decode cc pc = .ok (.getfield index, 3)) (kk : W p l e R s m args below meth c H locs cells slots Q (F0 m (pc + 3) ls (.int (σ.1 60 3) :: rest))) : W p l e R s m args below meth c H locs cells slots Q (F0 m pc ls (.ref (X.2.1 + 60) :: rest)) :=
  g_get Γ hI 60 (sh_lt' (show sh 60 = (10, 0) from by decide +kernel) (by decide)) (gcell_X12 (show sh 60 = (10, 0) from by decide +kernel)) (C := RX12) (T := TX12) (N := 30) rfl inlX12 3 (by decide) hlink rfl hdg kk
theorem put_X12_size (Γ : gC X p m meth c cc nL s args own rt) (hI : gI X σ s H locs) {v : Int32} {index : Nat} (hlink : Cond.fieldLink own index "RingCuttersModel" "size" "I" ∈ GW) (hdg : decode cc pc = .ok (.putfield index, 3)) (kk : ∀ (H1 : Heap) (locs1 : List Loc), gI X (wI σ 60 3 v) s H1 locs1 → W p l e R s m args below meth c H1 locs1 cells slots Q (F0 m (pc + 3) ls rest)) : W p l e R s m args below meth c H locs cells slots Q (F0 m pc ls (.int v :: .ref (X.2.1 + 60) :: rest)) :=
  g_put Γ hI (wI σ 60 3 v) 60 (sh_lt' (show sh 60 = (10, 0) from by decide +kernel) (by decide)) (gcell_X12 (show sh 60 = (10, 0) from by decide +kernel)) (C := RX12) (T := TX12) (N := 30) tyX12 tyX12_ok nmX12 rfl inlX12 3 (by decide) hlink rfl (ty := .int) (by decide +kernel) rfl rfl (by simp [gfs]) (by rw [gcell_X12 (show sh 60 = (10, 0) from by decide +kernel)]; simp [gfs, wI]) wI_other hdg kk
theorem get_X12_to (Γ : gC X p m meth c cc nL s args own rt) (hI : gI X σ s H locs) {index : Nat} (hlink : Cond.fieldLink own index "RingCuttersModel" "to" "I" ∈ GW) (hdg : decode cc pc = .ok (.getfield index, 3)) (kk : W p l e R s m args below meth c H locs cells slots Q (F0 m (pc + 3) ls (.int (σ.1 60 4) :: rest))) : W p l e R s m args below meth c H locs cells slots Q (F0 m pc ls (.ref (X.2.1 + 60) :: rest)) :=
  g_get Γ hI 60 (sh_lt' (show sh 60 = (10, 0) from by decide +kernel) (by decide)) (gcell_X12 (show sh 60 = (10, 0) from by decide +kernel)) (C := RX12) (T := TX12) (N := 30) rfl inlX12 4 (by decide) hlink rfl hdg kk
theorem put_X12_to (Γ : gC X p m meth c cc nL s args own rt) (hI : gI X σ s H locs) {v : Int32} {index : Nat} (hlink : Cond.fieldLink own index "RingCuttersModel" "to" "I" ∈ GW) (hdg : decode cc pc = .ok (.putfield index, 3)) (kk : ∀ (H1 : Heap) (locs1 : List Loc), gI X (wI σ 60 4 v) s H1 locs1 → W p l e R s m args below meth c H1 locs1 cells slots Q (F0 m (pc + 3) ls rest)) : W p l e R s m args below meth c H locs cells slots Q (F0 m pc ls (.int v :: .ref (X.2.1 + 60) :: rest)) :=
  g_put Γ hI (wI σ 60 4 v) 60 (sh_lt' (show sh 60 = (10, 0) from by decide +kernel) (by decide)) (gcell_X12 (show sh 60 = (10, 0) from by decide +kernel)) (C := RX12) (T := TX12) (N := 30) tyX12 tyX12_ok nmX12 rfl inlX12 4 (by decide) hlink rfl (ty := .int) (by decide +kernel) rfl rfl (by simp [gfs]) (by rw [gcell_X12 (show sh 60 = (10, 0) from by decide +kernel)]; simp [gfs, wI]) wI_other hdg kk
theorem get_X12_from (Γ : gC X p m meth c cc nL s args own rt) (hI : gI X σ s H locs) {index : Nat} (hlink : Cond.fieldLink own index "RingCuttersModel" "from" "I" ∈ GW) (hdg : decode cc pc = .ok (.getfield index, 3)) (kk : W p l e R s m args below meth c H locs cells slots Q (F0 m (pc + 3) ls (.int (σ.1 60 5) :: rest))) : W p l e R s m args below meth c H locs cells slots Q (F0 m pc ls (.ref (X.2.1 + 60) :: rest)) :=
  g_get Γ hI 60 (sh_lt' (show sh 60 = (10, 0) from by decide +kernel) (by decide)) (gcell_X12 (show sh 60 = (10, 0) from by decide +kernel)) (C := RX12) (T := TX12) (N := 30) rfl inlX12 5 (by decide) hlink rfl hdg kk
theorem put_X12_from (Γ : gC X p m meth c cc nL s args own rt) (hI : gI X σ s H locs) {v : Int32} {index : Nat} (hlink : Cond.fieldLink own index "RingCuttersModel" "from" "I" ∈ GW) (hdg : decode cc pc = .ok (.putfield index, 3)) (kk : ∀ (H1 : Heap) (locs1 : List Loc), gI X (wI σ 60 5 v) s H1 locs1 → W p l e R s m args below meth c H1 locs1 cells slots Q (F0 m (pc + 3) ls rest)) : W p l e R s m args below meth c H locs cells slots Q (F0 m pc ls (.int v :: .ref (X.2.1 + 60) :: rest)) :=
  g_put Γ hI (wI σ 60 5 v) 60 (sh_lt' (show sh 60 = (10, 0) from by decide +kernel) (by decide)) (gcell_X12 (show sh 60 = (10, 0) from by decide +kernel)) (C := RX12) (T := TX12) (N := 30) tyX12 tyX12_ok nmX12 rfl inlX12 5 (by decide) hlink rfl (ty := .int) (by decide +kernel) rfl rfl (by simp [gfs]) (by rw [gcell_X12 (show sh 60 = (10, 0) from by decide +kernel)]; simp [gfs, wI]) wI_other hdg kk
theorem get_X12_kind (Γ : gC X p m meth c cc nL s args own rt) (hI : gI X σ s H locs) {index : Nat} (hlink : Cond.fieldLink own index "RingCuttersModel" "kind" "I" ∈ GW) (hdg : decode cc pc = .ok (.getfield index, 3)) (kk : W p l e R s m args below meth c H locs cells slots Q (F0 m (pc + 3) ls (.int (σ.1 60 6) :: rest))) : W p l e R s m args below meth c H locs cells slots Q (F0 m pc ls (.ref (X.2.1 + 60) :: rest)) :=
  g_get Γ hI 60 (sh_lt' (show sh 60 = (10, 0) from by decide +kernel) (by decide)) (gcell_X12 (show sh 60 = (10, 0) from by decide +kernel)) (C := RX12) (T := TX12) (N := 30) rfl inlX12 6 (by decide) hlink rfl hdg kk
theorem put_X12_kind (Γ : gC X p m meth c cc nL s args own rt) (hI : gI X σ s H locs) {v : Int32} {index : Nat} (hlink : Cond.fieldLink own index "RingCuttersModel" "kind" "I" ∈ GW) (hdg : decode cc pc = .ok (.putfield index, 3)) (kk : ∀ (H1 : Heap) (locs1 : List Loc), gI X (wI σ 60 6 v) s H1 locs1 → W p l e R s m args below meth c H1 locs1 cells slots Q (F0 m (pc + 3) ls rest)) : W p l e R s m args below meth c H locs cells slots Q (F0 m pc ls (.int v :: .ref (X.2.1 + 60) :: rest)) :=
  g_put Γ hI (wI σ 60 6 v) 60 (sh_lt' (show sh 60 = (10, 0) from by decide +kernel) (by decide)) (gcell_X12 (show sh 60 = (10, 0) from by decide +kernel)) (C := RX12) (T := TX12) (N := 30) tyX12 tyX12_ok nmX12 rfl inlX12 6 (by decide) hlink rfl (ty := .int) (by decide +kernel) rfl rfl (by simp [gfs]) (by rw [gcell_X12 (show sh 60 = (10, 0) from by decide +kernel)]; simp [gfs, wI]) wI_other hdg kk
theorem get_X12_number (Γ : gC X p m meth c cc nL s args own rt) (hI : gI X σ s H locs) {index : Nat} (hlink : Cond.fieldLink own index "RingCuttersModel" "number" "I" ∈ GW) (hdg : decode cc pc = .ok (.getfield index, 3)) (kk : W p l e R s m args below meth c H locs cells slots Q (F0 m (pc + 3) ls (.int (σ.1 60 7) :: rest))) : W p l e R s m args below meth c H locs cells slots Q (F0 m pc ls (.ref (X.2.1 + 60) :: rest)) :=
  g_get Γ hI 60 (sh_lt' (show sh 60 = (10, 0) from by decide +kernel) (by decide)) (gcell_X12 (show sh 60 = (10, 0) from by decide +kernel)) (C := RX12) (T := TX12) (N := 30) rfl inlX12 7 (by decide) hlink rfl hdg kk
theorem put_X12_number (Γ : gC X p m meth c cc nL s args own rt) (hI : gI X σ s H locs) {v : Int32} {index : Nat} (hlink : Cond.fieldLink own index "RingCuttersModel" "number" "I" ∈ GW) (hdg : decode cc pc = .ok (.putfield index, 3)) (kk : ∀ (H1 : Heap) (locs1 : List Loc), gI X (wI σ 60 7 v) s H1 locs1 → W p l e R s m args below meth c H1 locs1 cells slots Q (F0 m (pc + 3) ls rest)) : W p l e R s m args below meth c H locs cells slots Q (F0 m pc ls (.int v :: .ref (X.2.1 + 60) :: rest)) :=
  g_put Γ hI (wI σ 60 7 v) 60 (sh_lt' (show sh 60 = (10, 0) from by decide +kernel) (by decide)) (gcell_X12 (show sh 60 = (10, 0) from by decide +kernel)) (C := RX12) (T := TX12) (N := 30) tyX12 tyX12_ok nmX12 rfl inlX12 7 (by decide) hlink rfl (ty := .int) (by decide +kernel) rfl rfl (by simp [gfs]) (by rw [gcell_X12 (show sh 60 = (10, 0) from by decide +kernel)]; simp [gfs, wI]) wI_other hdg kk
theorem get_X12_fault (Γ : gC X p m meth c cc nL s args own rt) (hI : gI X σ s H locs) {index : Nat} (hlink : Cond.fieldLink own index "RingCuttersModel" "fault" "I" ∈ GW) (hdg : decode cc pc = .ok (.getfield index, 3)) (kk : W p l e R s m args below meth c H locs cells slots Q (F0 m (pc + 3) ls (.int (σ.1 60 8) :: rest))) : W p l e R s m args below meth c H locs cells slots Q (F0 m pc ls (.ref (X.2.1 + 60) :: rest)) :=
  g_get Γ hI 60 (sh_lt' (show sh 60 = (10, 0) from by decide +kernel) (by decide)) (gcell_X12 (show sh 60 = (10, 0) from by decide +kernel)) (C := RX12) (T := TX12) (N := 30) rfl inlX12 8 (by decide) hlink rfl hdg kk
theorem put_X12_fault (Γ : gC X p m meth c cc nL s args own rt) (hI : gI X σ s H locs) {v : Int32} {index : Nat} (hlink : Cond.fieldLink own index "RingCuttersModel" "fault" "I" ∈ GW) (hdg : decode cc pc = .ok (.putfield index, 3)) (kk : ∀ (H1 : Heap) (locs1 : List Loc), gI X (wI σ 60 8 v) s H1 locs1 → W p l e R s m args below meth c H1 locs1 cells slots Q (F0 m (pc + 3) ls rest)) : W p l e R s m args below meth c H locs cells slots Q (F0 m pc ls (.int v :: .ref (X.2.1 + 60) :: rest)) :=
  g_put Γ hI (wI σ 60 8 v) 60 (sh_lt' (show sh 60 = (10, 0) from by decide +kernel) (by decide)) (gcell_X12 (show sh 60 = (10, 0) from by decide +kernel)) (C := RX12) (T := TX12) (N := 30) tyX12 tyX12_ok nmX12 rfl inlX12 8 (by decide) hlink rfl (ty := .int) (by decide +kernel) rfl rfl (by simp [gfs]) (by rw [gcell_X12 (show sh 60 = (10, 0) from by decide +kernel)]; simp [gfs, wI]) wI_other hdg kk
theorem get_X12_place (Γ : gC X p m meth c cc nL s args own rt) (hI : gI X σ s H locs) {index : Nat} (hlink : Cond.fieldLink own index "RingCuttersModel" "place" "I" ∈ GW) (hdg : decode cc pc = .ok (.getfield index, 3)) (kk : W p l e R s m args below meth c H locs cells slots Q (F0 m (pc + 3) ls (.int (σ.1 60 9) :: rest))) : W p l e R s m args below meth c H locs cells slots Q (F0 m pc ls (.ref (X.2.1 + 60) :: rest)) :=
  g_get Γ hI 60 (sh_lt' (show sh 60 = (10, 0) from by decide +kernel) (by decide)) (gcell_X12 (show sh 60 = (10, 0) from by decide +kernel)) (C := RX12) (T := TX12) (N := 30) rfl inlX12 9 (by decide) hlink rfl hdg kk
theorem put_X12_place (Γ : gC X p m meth c cc nL s args own rt) (hI : gI X σ s H locs) {v : Int32} {index : Nat} (hlink : Cond.fieldLink own index "RingCuttersModel" "place" "I" ∈ GW) (hdg : decode cc pc = .ok (.putfield index, 3)) (kk : ∀ (H1 : Heap) (locs1 : List Loc), gI X (wI σ 60 9 v) s H1 locs1 → W p l e R s m args below meth c H1 locs1 cells slots Q (F0 m (pc + 3) ls rest)) : W p l e R s m args below meth c H locs cells slots Q (F0 m pc ls (.int v :: .ref (X.2.1 + 60) :: rest)) :=
  g_put Γ hI (wI σ 60 9 v) 60 (sh_lt' (show sh 60 = (10, 0) from by decide +kernel) (by decide)) (gcell_X12 (show sh 60 = (10, 0) from by decide +kernel)) (C := RX12) (T := TX12) (N := 30) tyX12 tyX12_ok nmX12 rfl inlX12 9 (by decide) hlink rfl (ty := .int) (by decide +kernel) rfl rfl (by simp [gfs]) (by rw [gcell_X12 (show sh 60 = (10, 0) from by decide +kernel)]; simp [gfs, wI]) wI_other hdg kk
theorem get_X12_word (Γ : gC X p m meth c cc nL s args own rt) (hI : gI X σ s H locs) {index : Nat} (hlink : Cond.fieldLink own index "RingCuttersModel" "word" "J" ∈ GW) (hdg : decode cc pc = .ok (.getfield index, 3)) (kk : W p l e R s m args below meth c H locs cells slots Q (F0 m (pc + 3) ls (.long (σ.2 60 10) :: rest))) : W p l e R s m args below meth c H locs cells slots Q (F0 m pc ls (.ref (X.2.1 + 60) :: rest)) :=
  g_get Γ hI 60 (sh_lt' (show sh 60 = (10, 0) from by decide +kernel) (by decide)) (gcell_X12 (show sh 60 = (10, 0) from by decide +kernel)) (C := RX12) (T := TX12) (N := 30) rfl inlX12 10 (by decide) hlink rfl hdg kk
theorem put_X12_word (Γ : gC X p m meth c cc nL s args own rt) (hI : gI X σ s H locs) {v : Int64} {index : Nat} (hlink : Cond.fieldLink own index "RingCuttersModel" "word" "J" ∈ GW) (hdg : decode cc pc = .ok (.putfield index, 3)) (kk : ∀ (H1 : Heap) (locs1 : List Loc), gI X (wL σ 60 10 v) s H1 locs1 → W p l e R s m args below meth c H1 locs1 cells slots Q (F0 m (pc + 3) ls rest)) : W p l e R s m args below meth c H locs cells slots Q (F0 m pc ls (.long v :: .ref (X.2.1 + 60) :: rest)) :=
  g_put Γ hI (wL σ 60 10 v) 60 (sh_lt' (show sh 60 = (10, 0) from by decide +kernel) (by decide)) (gcell_X12 (show sh 60 = (10, 0) from by decide +kernel)) (C := RX12) (T := TX12) (N := 30) tyX12 tyX12_ok nmX12 rfl inlX12 10 (by decide) hlink rfl (ty := .long) (by decide +kernel) rfl rfl (by simp [gfs]) (by rw [gcell_X12 (show sh 60 = (10, 0) from by decide +kernel)]; simp [gfs, wL]) wL_other hdg kk
theorem get_X12_now (Γ : gC X p m meth c cc nL s args own rt) (hI : gI X σ s H locs) {index : Nat} (hlink : Cond.fieldLink own index "RingCuttersModel" "now" "[I" ∈ GW) (hdg : decode cc pc = .ok (.getfield index, 3)) (kk : W p l e R s m args below meth c H locs cells slots Q (F0 m (pc + 3) ls (.ref (X.2.1 + 62) :: rest))) : W p l e R s m args below meth c H locs cells slots Q (F0 m pc ls (.ref (X.2.1 + 60) :: rest)) :=
  g_get Γ hI 60 (sh_lt' (show sh 60 = (10, 0) from by decide +kernel) (by decide)) (gcell_X12 (show sh 60 = (10, 0) from by decide +kernel)) (C := RX12) (T := TX12) (N := 30) rfl inlX12 11 (by decide) hlink rfl hdg kk
theorem get_X12_read (Γ : gC X p m meth c cc nL s args own rt) (hI : gI X σ s H locs) {index : Nat} (hlink : Cond.fieldLink own index "RingCuttersModel" "read" "[I" ∈ GW) (hdg : decode cc pc = .ok (.getfield index, 3)) (kk : W p l e R s m args below meth c H locs cells slots Q (F0 m (pc + 3) ls (.ref (X.2.1 + 63) :: rest))) : W p l e R s m args below meth c H locs cells slots Q (F0 m pc ls (.ref (X.2.1 + 60) :: rest)) :=
  g_get Γ hI 60 (sh_lt' (show sh 60 = (10, 0) from by decide +kernel) (by decide)) (gcell_X12 (show sh 60 = (10, 0) from by decide +kernel)) (C := RX12) (T := TX12) (N := 30) rfl inlX12 12 (by decide) hlink rfl hdg kk
theorem get_X12_kept (Γ : gC X p m meth c cc nL s args own rt) (hI : gI X σ s H locs) {index : Nat} (hlink : Cond.fieldLink own index "RingCuttersModel" "kept" "[I" ∈ GW) (hdg : decode cc pc = .ok (.getfield index, 3)) (kk : W p l e R s m args below meth c H locs cells slots Q (F0 m (pc + 3) ls (.ref (X.2.1 + 64) :: rest))) : W p l e R s m args below meth c H locs cells slots Q (F0 m pc ls (.ref (X.2.1 + 60) :: rest)) :=
  g_get Γ hI 60 (sh_lt' (show sh 60 = (10, 0) from by decide +kernel) (by decide)) (gcell_X12 (show sh 60 = (10, 0) from by decide +kernel)) (C := RX12) (T := TX12) (N := 30) rfl inlX12 13 (by decide) hlink rfl hdg kk
theorem get_X12_snaps (Γ : gC X p m meth c cc nL s args own rt) (hI : gI X σ s H locs) {index : Nat} (hlink : Cond.fieldLink own index "RingCuttersModel" "snaps" "[I" ∈ GW) (hdg : decode cc pc = .ok (.getfield index, 3)) (kk : W p l e R s m args below meth c H locs cells slots Q (F0 m (pc + 3) ls (.ref (X.2.1 + 65) :: rest))) : W p l e R s m args below meth c H locs cells slots Q (F0 m pc ls (.ref (X.2.1 + 60) :: rest)) :=
  g_get Γ hI 60 (sh_lt' (show sh 60 = (10, 0) from by decide +kernel) (by decide)) (gcell_X12 (show sh 60 = (10, 0) from by decide +kernel)) (C := RX12) (T := TX12) (N := 30) rfl inlX12 14 (by decide) hlink rfl hdg kk
theorem get_X12_before (Γ : gC X p m meth c cc nL s args own rt) (hI : gI X σ s H locs) {index : Nat} (hlink : Cond.fieldLink own index "RingCuttersModel" "before" "[I" ∈ GW) (hdg : decode cc pc = .ok (.getfield index, 3)) (kk : W p l e R s m args below meth c H locs cells slots Q (F0 m (pc + 3) ls (.ref (X.2.1 + 66) :: rest))) : W p l e R s m args below meth c H locs cells slots Q (F0 m pc ls (.ref (X.2.1 + 60) :: rest)) :=
  g_get Γ hI 60 (sh_lt' (show sh 60 = (10, 0) from by decide +kernel) (by decide)) (gcell_X12 (show sh 60 = (10, 0) from by decide +kernel)) (C := RX12) (T := TX12) (N := 30) rfl inlX12 15 (by decide) hlink rfl hdg kk
theorem get_X12_live (Γ : gC X p m meth c cc nL s args own rt) (hI : gI X σ s H locs) {index : Nat} (hlink : Cond.fieldLink own index "RingCuttersModel" "live" "[I" ∈ GW) (hdg : decode cc pc = .ok (.getfield index, 3)) (kk : W p l e R s m args below meth c H locs cells slots Q (F0 m (pc + 3) ls (.ref (X.2.1 + 67) :: rest))) : W p l e R s m args below meth c H locs cells slots Q (F0 m pc ls (.ref (X.2.1 + 60) :: rest)) :=
  g_get Γ hI 60 (sh_lt' (show sh 60 = (10, 0) from by decide +kernel) (by decide)) (gcell_X12 (show sh 60 = (10, 0) from by decide +kernel)) (C := RX12) (T := TX12) (N := 30) rfl inlX12 16 (by decide) hlink rfl hdg kk
theorem get_X12_names (Γ : gC X p m meth c cc nL s args own rt) (hI : gI X σ s H locs) {index : Nat} (hlink : Cond.fieldLink own index "RingCuttersModel" "names" "[J" ∈ GW) (hdg : decode cc pc = .ok (.getfield index, 3)) (kk : W p l e R s m args below meth c H locs cells slots Q (F0 m (pc + 3) ls (.ref (X.2.1 + 68) :: rest))) : W p l e R s m args below meth c H locs cells slots Q (F0 m pc ls (.ref (X.2.1 + 60) :: rest)) :=
  g_get Γ hI 60 (sh_lt' (show sh 60 = (10, 0) from by decide +kernel) (by decide)) (gcell_X12 (show sh 60 = (10, 0) from by decide +kernel)) (C := RX12) (T := TX12) (N := 30) rfl inlX12 17 (by decide) hlink rfl hdg kk
theorem get_X12_isKept (Γ : gC X p m meth c cc nL s args own rt) (hI : gI X σ s H locs) {index : Nat} (hlink : Cond.fieldLink own index "RingCuttersModel" "isKept" "[Z" ∈ GW) (hdg : decode cc pc = .ok (.getfield index, 3)) (kk : W p l e R s m args below meth c H locs cells slots Q (F0 m (pc + 3) ls (.ref (X.2.1 + 69) :: rest))) : W p l e R s m args below meth c H locs cells slots Q (F0 m pc ls (.ref (X.2.1 + 60) :: rest)) :=
  g_get Γ hI 60 (sh_lt' (show sh 60 = (10, 0) from by decide +kernel) (by decide)) (gcell_X12 (show sh 60 = (10, 0) from by decide +kernel)) (C := RX12) (T := TX12) (N := 30) rfl inlX12 18 (by decide) hlink rfl hdg kk
theorem get_X12_snapMany (Γ : gC X p m meth c cc nL s args own rt) (hI : gI X σ s H locs) {index : Nat} (hlink : Cond.fieldLink own index "RingCuttersModel" "snapMany" "I" ∈ GW) (hdg : decode cc pc = .ok (.getfield index, 3)) (kk : W p l e R s m args below meth c H locs cells slots Q (F0 m (pc + 3) ls (.int (σ.1 60 19) :: rest))) : W p l e R s m args below meth c H locs cells slots Q (F0 m pc ls (.ref (X.2.1 + 60) :: rest)) :=
  g_get Γ hI 60 (sh_lt' (show sh 60 = (10, 0) from by decide +kernel) (by decide)) (gcell_X12 (show sh 60 = (10, 0) from by decide +kernel)) (C := RX12) (T := TX12) (N := 30) rfl inlX12 19 (by decide) hlink rfl hdg kk
theorem put_X12_snapMany (Γ : gC X p m meth c cc nL s args own rt) (hI : gI X σ s H locs) {v : Int32} {index : Nat} (hlink : Cond.fieldLink own index "RingCuttersModel" "snapMany" "I" ∈ GW) (hdg : decode cc pc = .ok (.putfield index, 3)) (kk : ∀ (H1 : Heap) (locs1 : List Loc), gI X (wI σ 60 19 v) s H1 locs1 → W p l e R s m args below meth c H1 locs1 cells slots Q (F0 m (pc + 3) ls rest)) : W p l e R s m args below meth c H locs cells slots Q (F0 m pc ls (.int v :: .ref (X.2.1 + 60) :: rest)) :=
  g_put Γ hI (wI σ 60 19 v) 60 (sh_lt' (show sh 60 = (10, 0) from by decide +kernel) (by decide)) (gcell_X12 (show sh 60 = (10, 0) from by decide +kernel)) (C := RX12) (T := TX12) (N := 30) tyX12 tyX12_ok nmX12 rfl inlX12 19 (by decide) hlink rfl (ty := .int) (by decide +kernel) rfl rfl (by simp [gfs]) (by rw [gcell_X12 (show sh 60 = (10, 0) from by decide +kernel)]; simp [gfs, wI]) wI_other hdg kk
theorem get_X12_isRing (Γ : gC X p m meth c cc nL s args own rt) (hI : gI X σ s H locs) {index : Nat} (hlink : Cond.fieldLink own index "RingCuttersModel" "isRing" "[Z" ∈ GW) (hdg : decode cc pc = .ok (.getfield index, 3)) (kk : W p l e R s m args below meth c H locs cells slots Q (F0 m (pc + 3) ls (.ref (X.2.1 + 70) :: rest))) : W p l e R s m args below meth c H locs cells slots Q (F0 m pc ls (.ref (X.2.1 + 60) :: rest)) :=
  g_get Γ hI 60 (sh_lt' (show sh 60 = (10, 0) from by decide +kernel) (by decide)) (gcell_X12 (show sh 60 = (10, 0) from by decide +kernel)) (C := RX12) (T := TX12) (N := 30) rfl inlX12 20 (by decide) hlink rfl hdg kk
theorem get_X12_ringMany (Γ : gC X p m meth c cc nL s args own rt) (hI : gI X σ s H locs) {index : Nat} (hlink : Cond.fieldLink own index "RingCuttersModel" "ringMany" "J" ∈ GW) (hdg : decode cc pc = .ok (.getfield index, 3)) (kk : W p l e R s m args below meth c H locs cells slots Q (F0 m (pc + 3) ls (.long (σ.2 60 21) :: rest))) : W p l e R s m args below meth c H locs cells slots Q (F0 m pc ls (.ref (X.2.1 + 60) :: rest)) :=
  g_get Γ hI 60 (sh_lt' (show sh 60 = (10, 0) from by decide +kernel) (by decide)) (gcell_X12 (show sh 60 = (10, 0) from by decide +kernel)) (C := RX12) (T := TX12) (N := 30) rfl inlX12 21 (by decide) hlink rfl hdg kk
theorem put_X12_ringMany (Γ : gC X p m meth c cc nL s args own rt) (hI : gI X σ s H locs) {v : Int64} {index : Nat} (hlink : Cond.fieldLink own index "RingCuttersModel" "ringMany" "J" ∈ GW) (hdg : decode cc pc = .ok (.putfield index, 3)) (kk : ∀ (H1 : Heap) (locs1 : List Loc), gI X (wL σ 60 21 v) s H1 locs1 → W p l e R s m args below meth c H1 locs1 cells slots Q (F0 m (pc + 3) ls rest)) : W p l e R s m args below meth c H locs cells slots Q (F0 m pc ls (.long v :: .ref (X.2.1 + 60) :: rest)) :=
  g_put Γ hI (wL σ 60 21 v) 60 (sh_lt' (show sh 60 = (10, 0) from by decide +kernel) (by decide)) (gcell_X12 (show sh 60 = (10, 0) from by decide +kernel)) (C := RX12) (T := TX12) (N := 30) tyX12 tyX12_ok nmX12 rfl inlX12 21 (by decide) hlink rfl (ty := .long) (by decide +kernel) rfl rfl (by simp [gfs]) (by rw [gcell_X12 (show sh 60 = (10, 0) from by decide +kernel)]; simp [gfs, wL]) wL_other hdg kk
theorem get_X12_apart (Γ : gC X p m meth c cc nL s args own rt) (hI : gI X σ s H locs) {index : Nat} (hlink : Cond.fieldLink own index "RingCuttersModel" "apart" "[I" ∈ GW) (hdg : decode cc pc = .ok (.getfield index, 3)) (kk : W p l e R s m args below meth c H locs cells slots Q (F0 m (pc + 3) ls (.ref (X.2.1 + 71) :: rest))) : W p l e R s m args below meth c H locs cells slots Q (F0 m pc ls (.ref (X.2.1 + 60) :: rest)) :=
  g_get Γ hI 60 (sh_lt' (show sh 60 = (10, 0) from by decide +kernel) (by decide)) (gcell_X12 (show sh 60 = (10, 0) from by decide +kernel)) (C := RX12) (T := TX12) (N := 30) rfl inlX12 22 (by decide) hlink rfl hdg kk
theorem get_X12_above (Γ : gC X p m meth c cc nL s args own rt) (hI : gI X σ s H locs) {index : Nat} (hlink : Cond.fieldLink own index "RingCuttersModel" "above" "[J" ∈ GW) (hdg : decode cc pc = .ok (.getfield index, 3)) (kk : W p l e R s m args below meth c H locs cells slots Q (F0 m (pc + 3) ls (.ref (X.2.1 + 72) :: rest))) : W p l e R s m args below meth c H locs cells slots Q (F0 m pc ls (.ref (X.2.1 + 60) :: rest)) :=
  g_get Γ hI 60 (sh_lt' (show sh 60 = (10, 0) from by decide +kernel) (by decide)) (gcell_X12 (show sh 60 = (10, 0) from by decide +kernel)) (C := RX12) (T := TX12) (N := 30) rfl inlX12 23 (by decide) hlink rfl hdg kk
theorem get_X12_below (Γ : gC X p m meth c cc nL s args own rt) (hI : gI X σ s H locs) {index : Nat} (hlink : Cond.fieldLink own index "RingCuttersModel" "below" "[J" ∈ GW) (hdg : decode cc pc = .ok (.getfield index, 3)) (kk : W p l e R s m args below meth c H locs cells slots Q (F0 m (pc + 3) ls (.ref (X.2.1 + 73) :: rest))) : W p l e R s m args below meth c H locs cells slots Q (F0 m pc ls (.ref (X.2.1 + 60) :: rest)) :=
  g_get Γ hI 60 (sh_lt' (show sh 60 = (10, 0) from by decide +kernel) (by decide)) (gcell_X12 (show sh 60 = (10, 0) from by decide +kernel)) (C := RX12) (T := TX12) (N := 30) rfl inlX12 24 (by decide) hlink rfl hdg kk
theorem get_X12_pile (Γ : gC X p m meth c cc nL s args own rt) (hI : gI X σ s H locs) {index : Nat} (hlink : Cond.fieldLink own index "RingCuttersModel" "pile" "[I" ∈ GW) (hdg : decode cc pc = .ok (.getfield index, 3)) (kk : W p l e R s m args below meth c H locs cells slots Q (F0 m (pc + 3) ls (.ref (X.2.1 + 74) :: rest))) : W p l e R s m args below meth c H locs cells slots Q (F0 m pc ls (.ref (X.2.1 + 60) :: rest)) :=
  g_get Γ hI 60 (sh_lt' (show sh 60 = (10, 0) from by decide +kernel) (by decide)) (gcell_X12 (show sh 60 = (10, 0) from by decide +kernel)) (C := RX12) (T := TX12) (N := 30) rfl inlX12 25 (by decide) hlink rfl hdg kk
theorem get_X12_boundAbove (Γ : gC X p m meth c cc nL s args own rt) (hI : gI X σ s H locs) {index : Nat} (hlink : Cond.fieldLink own index "RingCuttersModel" "boundAbove" "J" ∈ GW) (hdg : decode cc pc = .ok (.getfield index, 3)) (kk : W p l e R s m args below meth c H locs cells slots Q (F0 m (pc + 3) ls (.long (σ.2 60 26) :: rest))) : W p l e R s m args below meth c H locs cells slots Q (F0 m pc ls (.ref (X.2.1 + 60) :: rest)) :=
  g_get Γ hI 60 (sh_lt' (show sh 60 = (10, 0) from by decide +kernel) (by decide)) (gcell_X12 (show sh 60 = (10, 0) from by decide +kernel)) (C := RX12) (T := TX12) (N := 30) rfl inlX12 26 (by decide) hlink rfl hdg kk
theorem put_X12_boundAbove (Γ : gC X p m meth c cc nL s args own rt) (hI : gI X σ s H locs) {v : Int64} {index : Nat} (hlink : Cond.fieldLink own index "RingCuttersModel" "boundAbove" "J" ∈ GW) (hdg : decode cc pc = .ok (.putfield index, 3)) (kk : ∀ (H1 : Heap) (locs1 : List Loc), gI X (wL σ 60 26 v) s H1 locs1 → W p l e R s m args below meth c H1 locs1 cells slots Q (F0 m (pc + 3) ls rest)) : W p l e R s m args below meth c H locs cells slots Q (F0 m pc ls (.long v :: .ref (X.2.1 + 60) :: rest)) :=
  g_put Γ hI (wL σ 60 26 v) 60 (sh_lt' (show sh 60 = (10, 0) from by decide +kernel) (by decide)) (gcell_X12 (show sh 60 = (10, 0) from by decide +kernel)) (C := RX12) (T := TX12) (N := 30) tyX12 tyX12_ok nmX12 rfl inlX12 26 (by decide) hlink rfl (ty := .long) (by decide +kernel) rfl rfl (by simp [gfs]) (by rw [gcell_X12 (show sh 60 = (10, 0) from by decide +kernel)]; simp [gfs, wL]) wL_other hdg kk
theorem get_X12_boundBelow (Γ : gC X p m meth c cc nL s args own rt) (hI : gI X σ s H locs) {index : Nat} (hlink : Cond.fieldLink own index "RingCuttersModel" "boundBelow" "J" ∈ GW) (hdg : decode cc pc = .ok (.getfield index, 3)) (kk : W p l e R s m args below meth c H locs cells slots Q (F0 m (pc + 3) ls (.long (σ.2 60 27) :: rest))) : W p l e R s m args below meth c H locs cells slots Q (F0 m pc ls (.ref (X.2.1 + 60) :: rest)) :=
  g_get Γ hI 60 (sh_lt' (show sh 60 = (10, 0) from by decide +kernel) (by decide)) (gcell_X12 (show sh 60 = (10, 0) from by decide +kernel)) (C := RX12) (T := TX12) (N := 30) rfl inlX12 27 (by decide) hlink rfl hdg kk
theorem put_X12_boundBelow (Γ : gC X p m meth c cc nL s args own rt) (hI : gI X σ s H locs) {v : Int64} {index : Nat} (hlink : Cond.fieldLink own index "RingCuttersModel" "boundBelow" "J" ∈ GW) (hdg : decode cc pc = .ok (.putfield index, 3)) (kk : ∀ (H1 : Heap) (locs1 : List Loc), gI X (wL σ 60 27 v) s H1 locs1 → W p l e R s m args below meth c H1 locs1 cells slots Q (F0 m (pc + 3) ls rest)) : W p l e R s m args below meth c H locs cells slots Q (F0 m pc ls (.long v :: .ref (X.2.1 + 60) :: rest)) :=
  g_put Γ hI (wL σ 60 27 v) 60 (sh_lt' (show sh 60 = (10, 0) from by decide +kernel) (by decide)) (gcell_X12 (show sh 60 = (10, 0) from by decide +kernel)) (C := RX12) (T := TX12) (N := 30) tyX12 tyX12_ok nmX12 rfl inlX12 27 (by decide) hlink rfl (ty := .long) (by decide +kernel) rfl rfl (by simp [gfs]) (by rw [gcell_X12 (show sh 60 = (10, 0) from by decide +kernel)]; simp [gfs, wL]) wL_other hdg kk
theorem get_X12_piled (Γ : gC X p m meth c cc nL s args own rt) (hI : gI X σ s H locs) {index : Nat} (hlink : Cond.fieldLink own index "RingCuttersModel" "piled" "I" ∈ GW) (hdg : decode cc pc = .ok (.getfield index, 3)) (kk : W p l e R s m args below meth c H locs cells slots Q (F0 m (pc + 3) ls (.int (σ.1 60 28) :: rest))) : W p l e R s m args below meth c H locs cells slots Q (F0 m pc ls (.ref (X.2.1 + 60) :: rest)) :=
  g_get Γ hI 60 (sh_lt' (show sh 60 = (10, 0) from by decide +kernel) (by decide)) (gcell_X12 (show sh 60 = (10, 0) from by decide +kernel)) (C := RX12) (T := TX12) (N := 30) rfl inlX12 28 (by decide) hlink rfl hdg kk
theorem put_X12_piled (Γ : gC X p m meth c cc nL s args own rt) (hI : gI X σ s H locs) {v : Int32} {index : Nat} (hlink : Cond.fieldLink own index "RingCuttersModel" "piled" "I" ∈ GW) (hdg : decode cc pc = .ok (.putfield index, 3)) (kk : ∀ (H1 : Heap) (locs1 : List Loc), gI X (wI σ 60 28 v) s H1 locs1 → W p l e R s m args below meth c H1 locs1 cells slots Q (F0 m (pc + 3) ls rest)) : W p l e R s m args below meth c H locs cells slots Q (F0 m pc ls (.int v :: .ref (X.2.1 + 60) :: rest)) :=
  g_put Γ hI (wI σ 60 28 v) 60 (sh_lt' (show sh 60 = (10, 0) from by decide +kernel) (by decide)) (gcell_X12 (show sh 60 = (10, 0) from by decide +kernel)) (C := RX12) (T := TX12) (N := 30) tyX12 tyX12_ok nmX12 rfl inlX12 28 (by decide) hlink rfl (ty := .int) (by decide +kernel) rfl rfl (by simp [gfs]) (by rw [gcell_X12 (show sh 60 = (10, 0) from by decide +kernel)]; simp [gfs, wI]) wI_other hdg kk
theorem get_X12_seed (Γ : gC X p m meth c cc nL s args own rt) (hI : gI X σ s H locs) {index : Nat} (hlink : Cond.fieldLink own index "RingCuttersModel" "seed" "I" ∈ GW) (hdg : decode cc pc = .ok (.getfield index, 3)) (kk : W p l e R s m args below meth c H locs cells slots Q (F0 m (pc + 3) ls (.int (σ.1 60 29) :: rest))) : W p l e R s m args below meth c H locs cells slots Q (F0 m pc ls (.ref (X.2.1 + 60) :: rest)) :=
  g_get Γ hI 60 (sh_lt' (show sh 60 = (10, 0) from by decide +kernel) (by decide)) (gcell_X12 (show sh 60 = (10, 0) from by decide +kernel)) (C := RX12) (T := TX12) (N := 30) rfl inlX12 29 (by decide) hlink rfl hdg kk
theorem put_X12_seed (Γ : gC X p m meth c cc nL s args own rt) (hI : gI X σ s H locs) {v : Int32} {index : Nat} (hlink : Cond.fieldLink own index "RingCuttersModel" "seed" "I" ∈ GW) (hdg : decode cc pc = .ok (.putfield index, 3)) (kk : ∀ (H1 : Heap) (locs1 : List Loc), gI X (wI σ 60 29 v) s H1 locs1 → W p l e R s m args below meth c H1 locs1 cells slots Q (F0 m (pc + 3) ls rest)) : W p l e R s m args below meth c H locs cells slots Q (F0 m pc ls (.int v :: .ref (X.2.1 + 60) :: rest)) :=
  g_put Γ hI (wI σ 60 29 v) 60 (sh_lt' (show sh 60 = (10, 0) from by decide +kernel) (by decide)) (gcell_X12 (show sh 60 = (10, 0) from by decide +kernel)) (C := RX12) (T := TX12) (N := 30) tyX12 tyX12_ok nmX12 rfl inlX12 29 (by decide) hlink rfl (ty := .int) (by decide +kernel) rfl rfl (by simp [gfs]) (by rw [gcell_X12 (show sh 60 = (10, 0) from by decide +kernel)]; simp [gfs, wI]) wI_other hdg kk
end GFIELDS
theorem mf_J6_bitCount_0f7a4 : mfS yJ6_bitCount_0f7a4 cJ6_bitCount_0f7a4 1 (some .int) 1 := ⟨⟨gw_302, gw_303, gw_304⟩, by decide +kernel, by decide +kernel, by decide +kernel⟩
theorem mf_X0_begin : mfV RX0 yX0_begin cX0_begin 3 none 1 := ⟨⟨gw_305, gw_306, gw_307, gw_308⟩, rfl, by decide +kernel, by decide +kernel, by decide +kernel⟩
theorem mf_X0_boundAbove : mfV RX0 yX0_boundAbove cX0_boundAbove 3 (some .long) 0 := ⟨⟨gw_309, gw_310, gw_311, gw_308⟩, rfl, by decide +kernel, by decide +kernel, by decide +kernel⟩
theorem mf_X0_boundBelow : mfV RX0 yX0_boundBelow cX0_boundBelow 3 (some .long) 0 := ⟨⟨gw_312, gw_313, gw_314, gw_308⟩, rfl, by decide +kernel, by decide +kernel, by decide +kernel⟩
theorem mf_X0_commonDivisor : mfV RX0 yX0_commonDivisor cX0_commonDivisor 8 (some .long) 0 := ⟨⟨gw_315, gw_316, gw_317, gw_308⟩, rfl, by decide +kernel, by decide +kernel, by decide +kernel⟩
theorem mf_X0_giveBack : mfV RX0 yX0_giveBack cX0_giveBack 5 none 2 := ⟨⟨gw_318, gw_319, gw_320, gw_308⟩, rfl, by decide +kernel, by decide +kernel, by decide +kernel⟩
theorem mf_X0_leastOpenRing : mfV RX0 yX0_leastOpenRing cX0_leastOpenRing 8 (some .int) 2 := ⟨⟨gw_321, gw_322, gw_323, gw_308⟩, rfl, by decide +kernel, by decide +kernel, by decide +kernel⟩
theorem mf_X0_pileWeightless : mfV RX0 yX0_pileWeightless cX0_pileWeightless 2 none 0 := ⟨⟨gw_324, gw_325, gw_326, gw_308⟩, rfl, by decide +kernel, by decide +kernel, by decide +kernel⟩
theorem mf_X0_run : mfV RX0 yX0_run cX0_run 5 none 2 := ⟨⟨gw_327, gw_328, gw_329, gw_308⟩, rfl, by decide +kernel, by decide +kernel, by decide +kernel⟩
theorem mf_X0_strip : mfV RX0 yX0_strip cX0_strip 5 none 1 := ⟨⟨gw_330, gw_331, gw_332, gw_308⟩, rfl, by decide +kernel, by decide +kernel, by decide +kernel⟩
theorem mf_X0_takeFromAll : mfV RX0 yX0_takeFromAll cX0_takeFromAll 7 none 1 := ⟨⟨gw_333, gw_334, gw_335, gw_308⟩, rfl, by decide +kernel, by decide +kernel, by decide +kernel⟩
theorem mf_X0_takeFromRing : mfV RX0 yX0_takeFromRing cX0_takeFromRing 5 none 1 := ⟨⟨gw_336, gw_337, gw_338, gw_308⟩, rfl, by decide +kernel, by decide +kernel, by decide +kernel⟩
theorem mf_X10_append : mfV RX10 yX10_append cX10_append 3 none 1 := ⟨⟨gw_339, gw_340, gw_341, gw_342⟩, rfl, by decide +kernel, by decide +kernel, by decide +kernel⟩
theorem mf_X10_byteAt : mfV RX10 yX10_byteAt cX10_byteAt 2 (some .int) 1 := ⟨⟨gw_343, gw_344, gw_345, gw_342⟩, rfl, by decide +kernel, by decide +kernel, by decide +kernel⟩
theorem mf_X10_hasRoom : mfV RX10 yX10_hasRoom cX10_hasRoom 1 (some .boolean) 0 := ⟨⟨gw_346, gw_347, gw_348, gw_342⟩, rfl, by decide +kernel, by decide +kernel, by decide +kernel⟩
theorem mf_X11_cuts : mfV RX11 yX11_cuts cX11_cuts 2 (some .int) 1 := ⟨⟨gw_349, gw_350, gw_351, gw_352⟩, rfl, by decide +kernel, by decide +kernel, by decide +kernel⟩
theorem mf_X11_discountNow : mfV RX11 yX11_discountNow cX11_discountNow 1 (some (.object "RingCutters$Discount")) 0 := ⟨⟨gw_353, gw_354, gw_355, gw_352⟩, rfl, by decide +kernel, by decide +kernel, by decide +kernel⟩
theorem mf_X11_doDeed : mfV RX11 yX11_doDeed cX11_doDeed 4 (some .boolean) 0 := ⟨⟨gw_356, gw_357, gw_358, gw_352⟩, rfl, by decide +kernel, by decide +kernel, by decide +kernel⟩
theorem mf_X11_drawn : mfV RX11 yX11_drawn cX11_drawn 5 (some .int) 2 := ⟨⟨gw_359, gw_360, gw_361, gw_352⟩, rfl, by decide +kernel, by decide +kernel, by decide +kernel⟩
theorem mf_X11_drop : mfV RX11 yX11_drop cX11_drop 2 (some .int) 1 := ⟨⟨gw_362, gw_363, gw_364, gw_352⟩, rfl, by decide +kernel, by decide +kernel, by decide +kernel⟩
theorem mf_X11_end : mfV RX11 yX11_end cX11_end 2 (some .boolean) 1 := ⟨⟨gw_365, gw_366, gw_367, gw_352⟩, rfl, by decide +kernel, by decide +kernel, by decide +kernel⟩
theorem mf_X11_fault : mfV RX11 yX11_fault cX11_fault 1 (some .int) 0 := ⟨⟨gw_368, gw_369, gw_370, gw_352⟩, rfl, by decide +kernel, by decide +kernel, by decide +kernel⟩
theorem mf_X11_feed : mfV RX11 yX11_feed cX11_feed 6 (some .int) 5 := ⟨⟨gw_371, gw_372, gw_373, gw_352⟩, rfl, by decide +kernel, by decide +kernel, by decide +kernel⟩
theorem mf_X11_fewest : mfV RX11 yX11_fewest cX11_fewest 2 (some .int) 1 := ⟨⟨gw_374, gw_375, gw_376, gw_352⟩, rfl, by decide +kernel, by decide +kernel, by decide +kernel⟩
theorem mf_X11_image : mfV RX11 yX11_image cX11_image 3 (some .boolean) 1 := ⟨⟨gw_377, gw_378, gw_379, gw_352⟩, rfl, by decide +kernel, by decide +kernel, by decide +kernel⟩
theorem mf_X11_join : mfV RX11 yX11_join cX11_join 3 (some .int) 2 := ⟨⟨gw_380, gw_381, gw_382, gw_352⟩, rfl, by decide +kernel, by decide +kernel, by decide +kernel⟩
theorem mf_X11_keepAct : mfV RX11 yX11_keepAct cX11_keepAct 1 none 0 := ⟨⟨gw_383, gw_384, gw_385, gw_352⟩, rfl, by decide +kernel, by decide +kernel, by decide +kernel⟩
theorem mf_X11_keptAt : mfV RX11 yX11_keptAt cX11_keptAt 2 (some (.object "RingCutters$Kept")) 1 := ⟨⟨gw_386, gw_387, gw_388, gw_352⟩, rfl, by decide +kernel, by decide +kernel, by decide +kernel⟩
theorem mf_X11_lightest : mfV RX11 yX11_lightest cX11_lightest 2 (some .int) 1 := ⟨⟨gw_389, gw_390, gw_391, gw_352⟩, rfl, by decide +kernel, by decide +kernel, by decide +kernel⟩
theorem mf_X11_lightestCut : mfV RX11 yX11_lightestCut cX11_lightestCut 6 (some .int) 0 := ⟨⟨gw_392, gw_393, gw_394, gw_352⟩, rfl, by decide +kernel, by decide +kernel, by decide +kernel⟩
theorem mf_X11_lines : mfV RX11 yX11_lines cX11_lines 3 (some .int) 2 := ⟨⟨gw_395, gw_396, gw_397, gw_352⟩, rfl, by decide +kernel, by decide +kernel, by decide +kernel⟩
theorem mf_X11_markChanged : mfV RX11 yX11_markChanged cX11_markChanged 1 none 0 := ⟨⟨gw_398, gw_399, gw_400, gw_352⟩, rfl, by decide +kernel, by decide +kernel, by decide +kernel⟩
theorem mf_X11_near : mfV RX11 yX11_near cX11_near 1 (some .int) 0 := ⟨⟨gw_401, gw_402, gw_403, gw_352⟩, rfl, by decide +kernel, by decide +kernel, by decide +kernel⟩
theorem mf_X11_net : mfV RX11 yX11_net cX11_net 1 (some .int) 0 := ⟨⟨gw_404, gw_405, gw_406, gw_352⟩, rfl, by decide +kernel, by decide +kernel, by decide +kernel⟩
theorem mf_X11_now : mfV RX11 yX11_now cX11_now 2 (some .int) 1 := ⟨⟨gw_407, gw_408, gw_409, gw_352⟩, rfl, by decide +kernel, by decide +kernel, by decide +kernel⟩
theorem mf_X11_pack : mfV RX11 yX11_pack cX11_pack 2 (some .int) 1 := ⟨⟨gw_410, gw_411, gw_412, gw_352⟩, rfl, by decide +kernel, by decide +kernel, by decide +kernel⟩
theorem mf_X11_packed : mfV RX11 yX11_packed cX11_packed 1 (some .int) 0 := ⟨⟨gw_413, gw_414, gw_415, gw_352⟩, rfl, by decide +kernel, by decide +kernel, by decide +kernel⟩
theorem mf_X11_packingNow : mfV RX11 yX11_packingNow cX11_packingNow 1 (some (.object "RingCutters$Packing")) 0 := ⟨⟨gw_416, gw_417, gw_418, gw_352⟩, rfl, by decide +kernel, by decide +kernel, by decide +kernel⟩
theorem mf_X11_part : mfV RX11 yX11_part cX11_part 3 (some .int) 2 := ⟨⟨gw_419, gw_420, gw_421, gw_352⟩, rfl, by decide +kernel, by decide +kernel, by decide +kernel⟩
theorem mf_X11_restore : mfV RX11 yX11_restore cX11_restore 3 (some .boolean) 1 := ⟨⟨gw_422, gw_423, gw_424, gw_352⟩, rfl, by decide +kernel, by decide +kernel, by decide +kernel⟩
theorem mf_X11_rings : mfV RX11 yX11_rings cX11_rings 1 (some .long) 0 := ⟨⟨gw_425, gw_426, gw_427, gw_352⟩, rfl, by decide +kernel, by decide +kernel, by decide +kernel⟩
theorem mf_X11_ringsNow : mfV RX11 yX11_ringsNow cX11_ringsNow 1 (some (.object "RingCutters$Rings")) 0 := ⟨⟨gw_428, gw_429, gw_430, gw_352⟩, rfl, by decide +kernel, by decide +kernel, by decide +kernel⟩
theorem mf_X11_shortest : mfV RX11 yX11_shortest cX11_shortest 1 (some .int) 0 := ⟨⟨gw_431, gw_432, gw_433, gw_352⟩, rfl, by decide +kernel, by decide +kernel, by decide +kernel⟩
theorem mf_X11_shrink : mfV RX11 yX11_shrink cX11_shrink 2 (some .int) 0 := ⟨⟨gw_434, gw_435, gw_436, gw_352⟩, rfl, by decide +kernel, by decide +kernel, by decide +kernel⟩
theorem mf_X11_shrinkAll : mfV RX11 yX11_shrinkAll cX11_shrinkAll 3 (some .int) 0 := ⟨⟨gw_437, gw_438, gw_439, gw_352⟩, rfl, by decide +kernel, by decide +kernel, by decide +kernel⟩
theorem mf_X11_sparing : mfV RX11 yX11_sparing cX11_sparing 2 (some .int) 1 := ⟨⟨gw_440, gw_441, gw_442, gw_352⟩, rfl, by decide +kernel, by decide +kernel, by decide +kernel⟩
theorem mf_X11_tellSet : mfV RX11 yX11_tellSet cX11_tellSet 3 (some .int) 2 := ⟨⟨gw_443, gw_444, gw_445, gw_352⟩, rfl, by decide +kernel, by decide +kernel, by decide +kernel⟩
theorem mf_X11_those : mfV RX11 yX11_those cX11_those 8 (some .int) 1 := ⟨⟨gw_446, gw_447, gw_448, gw_352⟩, rfl, by decide +kernel, by decide +kernel, by decide +kernel⟩
theorem mf_X11_undo : mfV RX11 yX11_undo cX11_undo 1 (some .int) 0 := ⟨⟨gw_449, gw_450, gw_451, gw_352⟩, rfl, by decide +kernel, by decide +kernel, by decide +kernel⟩
theorem mf_X11_upTo : mfV RX11 yX11_upTo cX11_upTo 3 (some .int) 1 := ⟨⟨gw_452, gw_453, gw_454, gw_352⟩, rfl, by decide +kernel, by decide +kernel, by decide +kernel⟩
theorem mf_X11_weigh : mfV RX11 yX11_weigh cX11_weigh 3 (some .int) 2 := ⟨⟨gw_455, gw_456, gw_457, gw_352⟩, rfl, by decide +kernel, by decide +kernel, by decide +kernel⟩
theorem mf_X12_adds : mfS yX12_adds cX12_adds 4 none 4 := ⟨⟨gw_458, gw_459, gw_460⟩, by decide +kernel, by decide +kernel, by decide +kernel⟩
theorem mf_X12_allEnds : mfS yX12_allEnds cX12_allEnds 2 (some .int) 2 := ⟨⟨gw_461, gw_462, gw_460⟩, by decide +kernel, by decide +kernel, by decide +kernel⟩
theorem mf_X12_areThere : mfV RX12 yX12_areThere cX12_areThere 2 (some .boolean) 1 := ⟨⟨gw_463, gw_464, gw_465, gw_460⟩, rfl, by decide +kernel, by decide +kernel, by decide +kernel⟩
theorem mf_X12_bad : mfV RX12 yX12_bad cX12_bad 2 (some .boolean) 1 := ⟨⟨gw_466, gw_467, gw_468, gw_460⟩, rfl, by decide +kernel, by decide +kernel, by decide +kernel⟩
theorem mf_X12_bestCut : mfV RX12 yX12_bestCut cX12_bestCut 8 (some .int) 3 := ⟨⟨gw_469, gw_470, gw_471, gw_460⟩, rfl, by decide +kernel, by decide +kernel, by decide +kernel⟩
theorem mf_X12_between : mfS yX12_between cX12_between 3 (some .int) 3 := ⟨⟨gw_472, gw_473, gw_460⟩, by decide +kernel, by decide +kernel, by decide +kernel⟩
theorem mf_X12_bits : mfS yX12_bits cX12_bits 3 (some .int) 1 := ⟨⟨gw_474, gw_475, gw_460⟩, by decide +kernel, by decide +kernel, by decide +kernel⟩
theorem mf_X12_bound : mfV RX12 yX12_bound cX12_bound 2 (some .long) 1 := ⟨⟨gw_476, gw_477, gw_478, gw_460⟩, rfl, by decide +kernel, by decide +kernel, by decide +kernel⟩
theorem mf_X12_bounds : mfV RX12 yX12_bounds cX12_bounds 12 none 3 := ⟨⟨gw_479, gw_480, gw_481, gw_460⟩, rfl, by decide +kernel, by decide +kernel, by decide +kernel⟩
theorem mf_X12_copy : mfS yX12_copy cX12_copy 5 none 4 := ⟨⟨gw_482, gw_483, gw_460⟩, by decide +kernel, by decide +kernel, by decide +kernel⟩
theorem mf_X12_cuts : mfV RX12 yX12_cuts cX12_cuts 2 (some .int) 1 := ⟨⟨gw_484, gw_485, gw_486, gw_460⟩, rfl, by decide +kernel, by decide +kernel, by decide +kernel⟩
theorem mf_X12_divisor : mfS yX12_divisor cX12_divisor 4 (some .long) 2 := ⟨⟨gw_487, gw_488, gw_460⟩, by decide +kernel, by decide +kernel, by decide +kernel⟩
theorem mf_X12_does : mfV RX12 yX12_does cX12_does 5 (some .boolean) 0 := ⟨⟨gw_489, gw_490, gw_491, gw_460⟩, rfl, by decide +kernel, by decide +kernel, by decide +kernel⟩
theorem mf_X12_draw : mfV RX12 yX12_draw cX12_draw 2 (some .int) 1 := ⟨⟨gw_492, gw_493, gw_494, gw_460⟩, rfl, by decide +kernel, by decide +kernel, by decide +kernel⟩
theorem mf_X12_drawn : mfV RX12 yX12_drawn cX12_drawn 5 (some .int) 2 := ⟨⟨gw_495, gw_496, gw_497, gw_460⟩, rfl, by decide +kernel, by decide +kernel, by decide +kernel⟩
theorem mf_X12_drop : mfV RX12 yX12_drop cX12_drop 2 (some .int) 1 := ⟨⟨gw_498, gw_499, gw_500, gw_460⟩, rfl, by decide +kernel, by decide +kernel, by decide +kernel⟩
theorem mf_X12_end : mfV RX12 yX12_end cX12_end 2 (some .boolean) 1 := ⟨⟨gw_501, gw_502, gw_503, gw_460⟩, rfl, by decide +kernel, by decide +kernel, by decide +kernel⟩
theorem mf_X12_ends : mfS yX12_ends cX12_ends 5 (some .int) 3 := ⟨⟨gw_504, gw_505, gw_460⟩, by decide +kernel, by decide +kernel, by decide +kernel⟩
theorem mf_X12_fault : mfV RX12 yX12_fault cX12_fault 1 (some .int) 0 := ⟨⟨gw_506, gw_507, gw_508, gw_460⟩, rfl, by decide +kernel, by decide +kernel, by decide +kernel⟩
theorem mf_X12_feed : mfV RX12 yX12_feed cX12_feed 6 (some .int) 5 := ⟨⟨gw_509, gw_510, gw_511, gw_460⟩, rfl, by decide +kernel, by decide +kernel, by decide +kernel⟩
theorem mf_X12_fewest : mfV RX12 yX12_fewest cX12_fewest 2 (some .int) 1 := ⟨⟨gw_512, gw_513, gw_514, gw_460⟩, rfl, by decide +kernel, by decide +kernel, by decide +kernel⟩
theorem mf_X12_first : mfV RX12 yX12_first cX12_first 3 (some .int) 1 := ⟨⟨gw_515, gw_516, gw_517, gw_460⟩, rfl, by decide +kernel, by decide +kernel, by decide +kernel⟩
theorem mf_X12_goes : mfV RX12 yX12_goes cX12_goes 8 none 4 := ⟨⟨gw_518, gw_519, gw_520, gw_460⟩, rfl, by decide +kernel, by decide +kernel, by decide +kernel⟩
theorem mf_X12_has : mfS yX12_has cX12_has 2 (some .boolean) 2 := ⟨⟨gw_521, gw_522, gw_460⟩, by decide +kernel, by decide +kernel, by decide +kernel⟩
theorem mf_X12_image : mfV RX12 yX12_image cX12_image 2 (some .boolean) 1 := ⟨⟨gw_523, gw_524, gw_525, gw_460⟩, rfl, by decide +kernel, by decide +kernel, by decide +kernel⟩
theorem mf_X12_isCut : mfV RX12 yX12_isCut cX12_isCut 3 (some .boolean) 2 := ⟨⟨gw_526, gw_527, gw_528, gw_460⟩, rfl, by decide +kernel, by decide +kernel, by decide +kernel⟩
theorem mf_X12_isDigit : mfS yX12_isDigit cX12_isDigit 1 (some .boolean) 1 := ⟨⟨gw_529, gw_530, gw_460⟩, by decide +kernel, by decide +kernel, by decide +kernel⟩
theorem mf_X12_isIn : mfS yX12_isIn cX12_isIn 3 (some .boolean) 3 := ⟨⟨gw_531, gw_532, gw_460⟩, by decide +kernel, by decide +kernel, by decide +kernel⟩
theorem mf_X12_isLetter : mfS yX12_isLetter cX12_isLetter 1 (some .boolean) 1 := ⟨⟨gw_533, gw_534, gw_460⟩, by decide +kernel, by decide +kernel, by decide +kernel⟩
theorem mf_X12_isLineWord : mfV RX12 yX12_isLineWord cX12_isLineWord 1 (some .boolean) 0 := ⟨⟨gw_535, gw_536, gw_537, gw_460⟩, rfl, by decide +kernel, by decide +kernel, by decide +kernel⟩
theorem mf_X12_isName : mfV RX12 yX12_isName cX12_isName 1 (some .boolean) 0 := ⟨⟨gw_538, gw_539, gw_540, gw_460⟩, rfl, by decide +kernel, by decide +kernel, by decide +kernel⟩
theorem mf_X12_isOpen : mfV RX12 yX12_isOpen cX12_isOpen 2 (some .boolean) 1 := ⟨⟨gw_541, gw_542, gw_543, gw_460⟩, rfl, by decide +kernel, by decide +kernel, by decide +kernel⟩
theorem mf_X12_isPointWord : mfV RX12 yX12_isPointWord cX12_isPointWord 1 (some .boolean) 0 := ⟨⟨gw_544, gw_545, gw_546, gw_460⟩, rfl, by decide +kernel, by decide +kernel, by decide +kernel⟩
theorem mf_X12_isThere : mfV RX12 yX12_isThere cX12_isThere 2 (some .boolean) 1 := ⟨⟨gw_547, gw_548, gw_549, gw_460⟩, rfl, by decide +kernel, by decide +kernel, by decide +kernel⟩
theorem mf_X12_join : mfV RX12 yX12_join cX12_join 3 (some .int) 2 := ⟨⟨gw_550, gw_551, gw_552, gw_460⟩, rfl, by decide +kernel, by decide +kernel, by decide +kernel⟩
theorem mf_X12_lay : mfV RX12 yX12_lay cX12_lay 3 none 1 := ⟨⟨gw_553, gw_554, gw_555, gw_460⟩, rfl, by decide +kernel, by decide +kernel, by decide +kernel⟩
theorem mf_X12_laysApart : mfV RX12 yX12_laysApart cX12_laysApart 5 none 0 := ⟨⟨gw_556, gw_557, gw_558, gw_460⟩, rfl, by decide +kernel, by decide +kernel, by decide +kernel⟩
theorem mf_X12_laysNear : mfV RX12 yX12_laysNear cX12_laysNear 4 (some .int) 0 := ⟨⟨gw_559, gw_560, gw_561, gw_460⟩, rfl, by decide +kernel, by decide +kernel, by decide +kernel⟩
theorem mf_X12_laysRings : mfV RX12 yX12_laysRings cX12_laysRings 4 none 0 := ⟨⟨gw_562, gw_563, gw_564, gw_460⟩, rfl, by decide +kernel, by decide +kernel, by decide +kernel⟩
theorem mf_X12_least : mfS yX12_least cX12_least 2 (some .int) 1 := ⟨⟨gw_565, gw_566, gw_460⟩, by decide +kernel, by decide +kernel, by decide +kernel⟩
theorem mf_X12_leaves : mfS yX12_leaves cX12_leaves 3 none 2 := ⟨⟨gw_567, gw_568, gw_460⟩, by decide +kernel, by decide +kernel, by decide +kernel⟩
theorem mf_X12_lightest : mfV RX12 yX12_lightest cX12_lightest 2 (some .int) 1 := ⟨⟨gw_569, gw_570, gw_571, gw_460⟩, rfl, by decide +kernel, by decide +kernel, by decide +kernel⟩
theorem mf_X12_lineMany : mfS yX12_lineMany cX12_lineMany 4 (some .int) 2 := ⟨⟨gw_572, gw_573, gw_460⟩, by decide +kernel, by decide +kernel, by decide +kernel⟩
theorem mf_X12_lines : mfV RX12 yX12_lines cX12_lines 3 (some .int) 2 := ⟨⟨gw_574, gw_575, gw_576, gw_460⟩, rfl, by decide +kernel, by decide +kernel, by decide +kernel⟩
theorem mf_X12_mayJoin : mfV RX12 yX12_mayJoin cX12_mayJoin 3 (some .boolean) 2 := ⟨⟨gw_577, gw_578, gw_579, gw_460⟩, rfl, by decide +kernel, by decide +kernel, by decide +kernel⟩
theorem mf_X12_mayStep : mfV RX12 yX12_mayStep cX12_mayStep 3 (some .boolean) 2 := ⟨⟨gw_580, gw_581, gw_582, gw_460⟩, rfl, by decide +kernel, by decide +kernel, by decide +kernel⟩
theorem mf_X12_named : mfV RX12 yX12_named cX12_named 2 (some .int) 0 := ⟨⟨gw_583, gw_584, gw_585, gw_460⟩, rfl, by decide +kernel, by decide +kernel, by decide +kernel⟩
theorem mf_X12_near : mfV RX12 yX12_near cX12_near 1 (some .int) 0 := ⟨⟨gw_586, gw_587, gw_588, gw_460⟩, rfl, by decide +kernel, by decide +kernel, by decide +kernel⟩
theorem mf_X12_net : mfV RX12 yX12_net cX12_net 3 (some .int) 0 := ⟨⟨gw_589, gw_590, gw_591, gw_460⟩, rfl, by decide +kernel, by decide +kernel, by decide +kernel⟩
theorem mf_X12_next : mfV RX12 yX12_next cX12_next 5 none 0 := ⟨⟨gw_592, gw_593, gw_594, gw_460⟩, rfl, by decide +kernel, by decide +kernel, by decide +kernel⟩
theorem mf_X12_now : mfV RX12 yX12_now cX12_now 2 (some .int) 1 := ⟨⟨gw_595, gw_596, gw_597, gw_460⟩, rfl, by decide +kernel, by decide +kernel, by decide +kernel⟩
theorem mf_X12_one : mfV RX12 yX12_one cX12_one 3 (some .int) 1 := ⟨⟨gw_598, gw_599, gw_600, gw_460⟩, rfl, by decide +kernel, by decide +kernel, by decide +kernel⟩
theorem mf_X12_other : mfV RX12 yX12_other cX12_other 3 (some .int) 1 := ⟨⟨gw_601, gw_602, gw_603, gw_460⟩, rfl, by decide +kernel, by decide +kernel, by decide +kernel⟩
theorem mf_X12_pack : mfV RX12 yX12_pack cX12_pack 5 (some .int) 1 := ⟨⟨gw_604, gw_605, gw_606, gw_460⟩, rfl, by decide +kernel, by decide +kernel, by decide +kernel⟩
theorem mf_X12_packed : mfV RX12 yX12_packed cX12_packed 1 (some .int) 0 := ⟨⟨gw_607, gw_608, gw_609, gw_460⟩, rfl, by decide +kernel, by decide +kernel, by decide +kernel⟩
theorem mf_X12_part : mfV RX12 yX12_part cX12_part 3 (some .int) 2 := ⟨⟨gw_610, gw_611, gw_612, gw_460⟩, rfl, by decide +kernel, by decide +kernel, by decide +kernel⟩
theorem mf_X12_partOf : mfV RX12 yX12_partOf cX12_partOf 7 (some .int) 2 := ⟨⟨gw_613, gw_614, gw_615, gw_460⟩, rfl, by decide +kernel, by decide +kernel, by decide +kernel⟩
theorem mf_X12_parts : mfV RX12 yX12_parts cX12_parts 4 (some .int) 1 := ⟨⟨gw_616, gw_617, gw_618, gw_460⟩, rfl, by decide +kernel, by decide +kernel, by decide +kernel⟩
theorem mf_X12_point : mfV RX12 yX12_point cX12_point 5 (some .int) 2 := ⟨⟨gw_619, gw_620, gw_621, gw_460⟩, rfl, by decide +kernel, by decide +kernel, by decide +kernel⟩
theorem mf_X12_readEnd : mfV RX12 yX12_readEnd cX12_readEnd 1 (some .boolean) 0 := ⟨⟨gw_622, gw_623, gw_624, gw_460⟩, rfl, by decide +kernel, by decide +kernel, by decide +kernel⟩
theorem mf_X12_readLine : mfV RX12 yX12_readLine cX12_readLine 3 (some .boolean) 0 := ⟨⟨gw_625, gw_626, gw_627, gw_460⟩, rfl, by decide +kernel, by decide +kernel, by decide +kernel⟩
theorem mf_X12_readPoint : mfV RX12 yX12_readPoint cX12_readPoint 2 (some .boolean) 0 := ⟨⟨gw_628, gw_629, gw_630, gw_460⟩, rfl, by decide +kernel, by decide +kernel, by decide +kernel⟩
theorem mf_X12_refuse : mfV RX12 yX12_refuse cX12_refuse 1 (some .int) 0 := ⟨⟨gw_631, gw_632, gw_633, gw_460⟩, rfl, by decide +kernel, by decide +kernel, by decide +kernel⟩
theorem mf_X12_restore : mfV RX12 yX12_restore cX12_restore 2 (some .boolean) 1 := ⟨⟨gw_634, gw_635, gw_636, gw_460⟩, rfl, by decide +kernel, by decide +kernel, by decide +kernel⟩
theorem mf_X12_rings : mfV RX12 yX12_rings cX12_rings 1 (some .long) 0 := ⟨⟨gw_637, gw_638, gw_639, gw_460⟩, rfl, by decide +kernel, by decide +kernel, by decide +kernel⟩
theorem mf_X12_shortest : mfV RX12 yX12_shortest cX12_shortest 3 (some .int) 0 := ⟨⟨gw_640, gw_641, gw_642, gw_460⟩, rfl, by decide +kernel, by decide +kernel, by decide +kernel⟩
theorem mf_X12_shrink : mfV RX12 yX12_shrink cX12_shrink 2 (some .int) 0 := ⟨⟨gw_643, gw_644, gw_645, gw_460⟩, rfl, by decide +kernel, by decide +kernel, by decide +kernel⟩
theorem mf_X12_shrinkAll : mfV RX12 yX12_shrinkAll cX12_shrinkAll 2 (some .int) 0 := ⟨⟨gw_646, gw_647, gw_648, gw_460⟩, rfl, by decide +kernel, by decide +kernel, by decide +kernel⟩
theorem mf_X12_sinks : mfV RX12 yX12_sinks cX12_sinks 11 none 1 := ⟨⟨gw_649, gw_650, gw_651, gw_460⟩, rfl, by decide +kernel, by decide +kernel, by decide +kernel⟩
theorem mf_X12_snap : mfV RX12 yX12_snap cX12_snap 2 none 0 := ⟨⟨gw_652, gw_653, gw_654, gw_460⟩, rfl, by decide +kernel, by decide +kernel, by decide +kernel⟩
theorem mf_X12_sparing : mfV RX12 yX12_sparing cX12_sparing 2 (some .int) 1 := ⟨⟨gw_655, gw_656, gw_657, gw_460⟩, rfl, by decide +kernel, by decide +kernel, by decide +kernel⟩
theorem mf_X12_spelt : mfS yX12_spelt cX12_spelt 7 (some .long) 5 := ⟨⟨gw_658, gw_659, gw_460⟩, by decide +kernel, by decide +kernel, by decide +kernel⟩
theorem mf_X12_stay : mfV RX12 yX12_stay cX12_stay 1 none 0 := ⟨⟨gw_660, gw_661, gw_662, gw_460⟩, rfl, by decide +kernel, by decide +kernel, by decide +kernel⟩
theorem mf_X12_steps : mfV RX12 yX12_steps cX12_steps 5 (some .int) 0 := ⟨⟨gw_663, gw_664, gw_665, gw_460⟩, rfl, by decide +kernel, by decide +kernel, by decide +kernel⟩
theorem mf_X12_takes : mfV RX12 yX12_takes cX12_takes 13 none 4 := ⟨⟨gw_666, gw_667, gw_668, gw_460⟩, rfl, by decide +kernel, by decide +kernel, by decide +kernel⟩
theorem mf_X12_tapeAt : mfV RX12 yX12_tapeAt cX12_tapeAt 2 (some .int) 1 := ⟨⟨gw_669, gw_670, gw_671, gw_460⟩, rfl, by decide +kernel, by decide +kernel, by decide +kernel⟩
theorem mf_X12_tellsCut : mfV RX12 yX12_tellsCut cX12_tellsCut 3 (some .int) 2 := ⟨⟨gw_672, gw_673, gw_674, gw_460⟩, rfl, by decide +kernel, by decide +kernel, by decide +kernel⟩
theorem mf_X12_there : mfV RX12 yX12_there cX12_there 1 (some .int) 0 := ⟨⟨gw_675, gw_676, gw_677, gw_460⟩, rfl, by decide +kernel, by decide +kernel, by decide +kernel⟩
theorem mf_X12_thick : mfV RX12 yX12_thick cX12_thick 3 (some .int) 1 := ⟨⟨gw_678, gw_679, gw_680, gw_460⟩, rfl, by decide +kernel, by decide +kernel, by decide +kernel⟩
theorem mf_X12_thinRing : mfV RX12 yX12_thinRing cX12_thinRing 5 (some .int) 1 := ⟨⟨gw_681, gw_682, gw_683, gw_460⟩, rfl, by decide +kernel, by decide +kernel, by decide +kernel⟩
theorem mf_X12_those : mfV RX12 yX12_those cX12_those 7 (some .int) 1 := ⟨⟨gw_684, gw_685, gw_686, gw_460⟩, rfl, by decide +kernel, by decide +kernel, by decide +kernel⟩
theorem mf_X12_thrown : mfV RX12 yX12_thrown cX12_thrown 1 (some .int) 0 := ⟨⟨gw_687, gw_688, gw_689, gw_460⟩, rfl, by decide +kernel, by decide +kernel, by decide +kernel⟩
theorem mf_X12_trimmed : mfV RX12 yX12_trimmed cX12_trimmed 5 (some .int) 1 := ⟨⟨gw_690, gw_691, gw_692, gw_460⟩, rfl, by decide +kernel, by decide +kernel, by decide +kernel⟩
theorem mf_X12_undo : mfV RX12 yX12_undo cX12_undo 1 (some .int) 0 := ⟨⟨gw_693, gw_694, gw_695, gw_460⟩, rfl, by decide +kernel, by decide +kernel, by decide +kernel⟩
theorem mf_X12_upTo : mfV RX12 yX12_upTo cX12_upTo 2 (some .int) 1 := ⟨⟨gw_696, gw_697, gw_698, gw_460⟩, rfl, by decide +kernel, by decide +kernel, by decide +kernel⟩
theorem mf_X12_weigh : mfV RX12 yX12_weigh cX12_weigh 3 (some .int) 2 := ⟨⟨gw_699, gw_700, gw_701, gw_460⟩, rfl, by decide +kernel, by decide +kernel, by decide +kernel⟩
theorem mf_X12_weightOf : mfV RX12 yX12_weightOf cX12_weightOf 4 (some .int) 1 := ⟨⟨gw_702, gw_703, gw_704, gw_460⟩, rfl, by decide +kernel, by decide +kernel, by decide +kernel⟩
theorem mf_X1_below : mfV RX1 yX1_below cX1_below 2 (some .int) 1 := ⟨⟨gw_705, gw_706, gw_707, gw_708⟩, rfl, by decide +kernel, by decide +kernel, by decide +kernel⟩
theorem mf_X3_addLine : mfV RX3 yX3_addLine cX3_addLine 4 (some .boolean) 2 := ⟨⟨gw_709, gw_710, gw_711, gw_712⟩, rfl, by decide +kernel, by decide +kernel, by decide +kernel⟩
theorem mf_X3_addPoint : mfV RX3 yX3_addPoint cX3_addPoint 1 none 0 := ⟨⟨gw_713, gw_714, gw_715, gw_712⟩, rfl, by decide +kernel, by decide +kernel, by decide +kernel⟩
theorem mf_X3_areThere : mfV RX3 yX3_areThere cX3_areThere 2 (some .boolean) 1 := ⟨⟨gw_716, gw_717, gw_718, gw_712⟩, rfl, by decide +kernel, by decide +kernel, by decide +kernel⟩
theorem mf_X3_besides : mfV RX3 yX3_besides cX3_besides 5 (some .int) 2 := ⟨⟨gw_719, gw_720, gw_721, gw_712⟩, rfl, by decide +kernel, by decide +kernel, by decide +kernel⟩
theorem mf_X3_changeWeight : mfV RX3 yX3_changeWeight cX3_changeWeight 3 (some .boolean) 2 := ⟨⟨gw_722, gw_723, gw_724, gw_712⟩, rfl, by decide +kernel, by decide +kernel, by decide +kernel⟩
theorem mf_X3_copyFrom : mfV RX3 yX3_copyFrom cX3_copyFrom 3 none 1 := ⟨⟨gw_725, gw_726, gw_727, gw_712⟩, rfl, by decide +kernel, by decide +kernel, by decide +kernel⟩
theorem mf_X3_empty : mfV RX3 yX3_empty cX3_empty 2 none 0 := ⟨⟨gw_728, gw_729, gw_730, gw_712⟩, rfl, by decide +kernel, by decide +kernel, by decide +kernel⟩
theorem mf_X3_endsIn : mfV RX3 yX3_endsIn cX3_endsIn 5 (some .int) 2 := ⟨⟨gw_731, gw_732, gw_733, gw_712⟩, rfl, by decide +kernel, by decide +kernel, by decide +kernel⟩
theorem mf_X3_holds : mfS yX3_holds cX3_holds 2 (some .boolean) 2 := ⟨⟨gw_734, gw_735, gw_712⟩, by decide +kernel, by decide +kernel, by decide +kernel⟩
theorem mf_X3_isThere : mfV RX3 yX3_isThere cX3_isThere 2 (some .boolean) 1 := ⟨⟨gw_736, gw_737, gw_738, gw_712⟩, rfl, by decide +kernel, by decide +kernel, by decide +kernel⟩
theorem mf_X3_linesIn : mfV RX3 yX3_linesIn cX3_linesIn 4 (some .int) 1 := ⟨⟨gw_739, gw_740, gw_741, gw_712⟩, rfl, by decide +kernel, by decide +kernel, by decide +kernel⟩
theorem mf_X3_linesOf : mfV RX3 yX3_linesOf cX3_linesOf 4 (some .int) 2 := ⟨⟨gw_742, gw_743, gw_744, gw_712⟩, rfl, by decide +kernel, by decide +kernel, by decide +kernel⟩
theorem mf_X3_partsIn : mfV RX3 yX3_partsIn cX3_partsIn 5 (some .int) 1 := ⟨⟨gw_745, gw_746, gw_747, gw_712⟩, rfl, by decide +kernel, by decide +kernel, by decide +kernel⟩
theorem mf_X3_reachedFrom : mfV RX3 yX3_reachedFrom cX3_reachedFrom 8 (some .int) 2 := ⟨⟨gw_748, gw_749, gw_750, gw_712⟩, rfl, by decide +kernel, by decide +kernel, by decide +kernel⟩
theorem mf_X3_remove : mfV RX3 yX3_remove cX3_remove 3 (some .boolean) 1 := ⟨⟨gw_751, gw_752, gw_753, gw_712⟩, rfl, by decide +kernel, by decide +kernel, by decide +kernel⟩
theorem mf_X3_setLines : mfV RX3 yX3_setLines cX3_setLines 6 none 3 := ⟨⟨gw_754, gw_755, gw_756, gw_712⟩, rfl, by decide +kernel, by decide +kernel, by decide +kernel⟩
theorem mf_X3_takeLine : mfV RX3 yX3_takeLine cX3_takeLine 3 (some .boolean) 2 := ⟨⟨gw_757, gw_758, gw_759, gw_712⟩, rfl, by decide +kernel, by decide +kernel, by decide +kernel⟩
theorem mf_X3_weightOf : mfV RX3 yX3_weightOf cX3_weightOf 2 (some .int) 1 := ⟨⟨gw_760, gw_761, gw_762, gw_712⟩, rfl, by decide +kernel, by decide +kernel, by decide +kernel⟩
theorem mf_X3_weightOfSet : mfV RX3 yX3_weightOfSet cX3_weightOfSet 4 (some .int) 1 := ⟨⟨gw_763, gw_764, gw_765, gw_712⟩, rfl, by decide +kernel, by decide +kernel, by decide +kernel⟩
theorem mf_X4_learn : mfV RX4 yX4_learn cX4_learn 4 none 2 := ⟨⟨gw_766, gw_767, gw_768, gw_769⟩, rfl, by decide +kernel, by decide +kernel, by decide +kernel⟩
theorem mf_X4_leastOfMost : mfV RX4 yX4_leastOfMost cX4_leastOfMost 7 (some .int) 2 := ⟨⟨gw_770, gw_771, gw_772, gw_769⟩, rfl, by decide +kernel, by decide +kernel, by decide +kernel⟩
theorem mf_X4_mostIn : mfV RX4 yX4_mostIn cX4_mostIn 2 (some .int) 1 := ⟨⟨gw_773, gw_774, gw_775, gw_769⟩, rfl, by decide +kernel, by decide +kernel, by decide +kernel⟩
theorem mf_X4_mostWithLowest : mfV RX4 yX4_mostWithLowest cX4_mostWithLowest 8 (some .int) 2 := ⟨⟨gw_776, gw_777, gw_778, gw_769⟩, rfl, by decide +kernel, by decide +kernel, by decide +kernel⟩
theorem mf_X4_ringAt : mfV RX4 yX4_ringAt cX4_ringAt 8 (some .int) 3 := ⟨⟨gw_779, gw_780, gw_781, gw_769⟩, rfl, by decide +kernel, by decide +kernel, by decide +kernel⟩
theorem mf_X5_forget : mfV RX5 yX5_forget cX5_forget 1 none 0 := ⟨⟨gw_782, gw_783, gw_784, gw_785⟩, rfl, by decide +kernel, by decide +kernel, by decide +kernel⟩
theorem mf_X5_giveLatest : mfV RX5 yX5_giveLatest cX5_giveLatest 3 (some .boolean) 1 := ⟨⟨gw_786, gw_787, gw_788, gw_785⟩, rfl, by decide +kernel, by decide +kernel, by decide +kernel⟩
theorem mf_X5_keepNoted : mfV RX5 yX5_keepNoted cX5_keepNoted 1 none 0 := ⟨⟨gw_789, gw_790, gw_791, gw_785⟩, rfl, by decide +kernel, by decide +kernel, by decide +kernel⟩
theorem mf_X5_note : mfV RX5 yX5_note cX5_note 3 none 1 := ⟨⟨gw_792, gw_793, gw_794, gw_785⟩, rfl, by decide +kernel, by decide +kernel, by decide +kernel⟩
theorem mf_X5_placeAt : mfV RX5 yX5_placeAt cX5_placeAt 2 (some (.object "RingCutters$Net")) 1 := ⟨⟨gw_795, gw_796, gw_797, gw_785⟩, rfl, by decide +kernel, by decide +kernel, by decide +kernel⟩
theorem mf_X6_beginRow : mfV RX6 yX6_beginRow cX6_beginRow 2 (some .int) 0 := ⟨⟨gw_798, gw_799, gw_800, gw_801⟩, rfl, by decide +kernel, by decide +kernel, by decide +kernel⟩
theorem mf_X6_isDigit : mfS yX6_isDigit cX6_isDigit 1 (some .boolean) 1 := ⟨⟨gw_802, gw_803, gw_801⟩, by decide +kernel, by decide +kernel, by decide +kernel⟩
theorem mf_X6_isLetter : mfS yX6_isLetter cX6_isLetter 1 (some .boolean) 1 := ⟨⟨gw_804, gw_805, gw_801⟩, by decide +kernel, by decide +kernel, by decide +kernel⟩
theorem mf_X6_isName : mfV RX6 yX6_isName cX6_isName 1 (some .boolean) 0 := ⟨⟨gw_806, gw_807, gw_808, gw_801⟩, rfl, by decide +kernel, by decide +kernel, by decide +kernel⟩
theorem mf_X6_pointNamed : mfV RX6 yX6_pointNamed cX6_pointNamed 4 (some .int) 1 := ⟨⟨gw_809, gw_810, gw_811, gw_801⟩, rfl, by decide +kernel, by decide +kernel, by decide +kernel⟩
theorem mf_X6_readAll : mfV RX6 yX6_readAll cX6_readAll 6 (some .int) 1 := ⟨⟨gw_812, gw_813, gw_814, gw_801⟩, rfl, by decide +kernel, by decide +kernel, by decide +kernel⟩
theorem mf_X6_readToken : mfV RX6 yX6_readToken cX6_readToken 7 none 1 := ⟨⟨gw_815, gw_816, gw_817, gw_801⟩, rfl, by decide +kernel, by decide +kernel, by decide +kernel⟩
theorem mf_X6_takeFirst : mfV RX6 yX6_takeFirst cX6_takeFirst 1 (some .int) 0 := ⟨⟨gw_818, gw_819, gw_820, gw_801⟩, rfl, by decide +kernel, by decide +kernel, by decide +kernel⟩
theorem mf_X6_takeName : mfV RX6 yX6_takeName cX6_takeName 2 (some .int) 0 := ⟨⟨gw_821, gw_822, gw_823, gw_801⟩, rfl, by decide +kernel, by decide +kernel, by decide +kernel⟩
theorem mf_X6_takeSecond : mfV RX6 yX6_takeSecond cX6_takeSecond 2 (some .int) 0 := ⟨⟨gw_824, gw_825, gw_826, gw_801⟩, rfl, by decide +kernel, by decide +kernel, by decide +kernel⟩
theorem mf_X6_takeSign : mfV RX6 yX6_takeSign cX6_takeSign 1 (some .int) 0 := ⟨⟨gw_827, gw_828, gw_829, gw_801⟩, rfl, by decide +kernel, by decide +kernel, by decide +kernel⟩
theorem mf_X6_takeToken : mfV RX6 yX6_takeToken cX6_takeToken 1 (some .int) 0 := ⟨⟨gw_830, gw_831, gw_832, gw_801⟩, rfl, by decide +kernel, by decide +kernel, by decide +kernel⟩
theorem mf_X6_takeWeight : mfV RX6 yX6_takeWeight cX6_takeWeight 1 (some .int) 0 := ⟨⟨gw_833, gw_834, gw_835, gw_801⟩, rfl, by decide +kernel, by decide +kernel, by decide +kernel⟩
theorem mf_X7_of : mfS yX7_of cX7_of 8 (some .long) 1 := ⟨⟨gw_836, gw_837, gw_838⟩, by decide +kernel, by decide +kernel, by decide +kernel⟩
theorem mf_X7_waysBack : mfS yX7_waysBack cX7_waysBack 9 (some .long) 5 := ⟨⟨gw_839, gw_840, gw_838⟩, by decide +kernel, by decide +kernel, by decide +kernel⟩
theorem mf_X8_fewestOf : mfV RX8 yX8_fewestOf cX8_fewestOf 6 (some .int) 2 := ⟨⟨gw_841, gw_842, gw_843, gw_844⟩, rfl, by decide +kernel, by decide +kernel, by decide +kernel⟩
theorem mf_X8_isFree : mfV RX8 yX8_isFree cX8_isFree 2 (some .boolean) 1 := ⟨⟨gw_845, gw_846, gw_847, gw_844⟩, rfl, by decide +kernel, by decide +kernel, by decide +kernel⟩
theorem mf_X8_isFreeByTip : mfV RX8 yX8_isFreeByTip cX8_isFreeByTip 4 (some .boolean) 1 := ⟨⟨gw_848, gw_849, gw_850, gw_844⟩, rfl, by decide +kernel, by decide +kernel, by decide +kernel⟩
theorem mf_X8_isLeastRing : mfV RX8 yX8_isLeastRing cX8_isLeastRing 3 (some .boolean) 1 := ⟨⟨gw_851, gw_852, gw_853, gw_844⟩, rfl, by decide +kernel, by decide +kernel, by decide +kernel⟩
theorem mf_X8_learn : mfV RX8 yX8_learn cX8_learn 4 none 1 := ⟨⟨gw_854, gw_855, gw_856, gw_844⟩, rfl, by decide +kernel, by decide +kernel, by decide +kernel⟩
theorem mf_X8_learnRings : mfV RX8 yX8_learnRings cX8_learnRings 5 none 1 := ⟨⟨gw_857, gw_858, gw_859, gw_844⟩, rfl, by decide +kernel, by decide +kernel, by decide +kernel⟩
theorem mf_X8_lowest : mfS yX8_lowest cX8_lowest 1 (some .int) 1 := ⟨⟨gw_860, gw_861, gw_844⟩, by decide +kernel, by decide +kernel, by decide +kernel⟩
theorem mf_X8_ringAt : mfV RX8 yX8_ringAt cX8_ringAt 2 (some .int) 1 := ⟨⟨gw_862, gw_863, gw_864, gw_844⟩, rfl, by decide +kernel, by decide +kernel, by decide +kernel⟩
theorem mf_X8_shortestRing : mfV RX8 yX8_shortestRing cX8_shortestRing 5 (some .int) 0 := ⟨⟨gw_865, gw_866, gw_867, gw_844⟩, rfl, by decide +kernel, by decide +kernel, by decide +kernel⟩
theorem mf_X8_startOf : mfV RX8 yX8_startOf cX8_startOf 2 (some .int) 1 := ⟨⟨gw_868, gw_869, gw_870, gw_844⟩, rfl, by decide +kernel, by decide +kernel, by decide +kernel⟩
theorem mf_X9_passBy : mfS yX9_passBy cX9_passBy 5 (some .int) 1 := ⟨⟨gw_871, gw_872, gw_873⟩, by decide +kernel, by decide +kernel, by decide +kernel⟩
theorem mf_X9_removeTip : mfS yX9_removeTip cX9_removeTip 2 (some .int) 1 := ⟨⟨gw_874, gw_875, gw_873⟩, by decide +kernel, by decide +kernel, by decide +kernel⟩
theorem mf_X9_step : mfS yX9_step cX9_step 2 (some .int) 1 := ⟨⟨gw_876, gw_877, gw_873⟩, by decide +kernel, by decide +kernel, by decide +kernel⟩
theorem mf_X9_takeLooped : mfS yX9_takeLooped cX9_takeLooped 2 (some .int) 1 := ⟨⟨gw_878, gw_879, gw_873⟩, by decide +kernel, by decide +kernel, by decide +kernel⟩
theorem mf_X9_thinLines : mfS yX9_thinLines cX9_thinLines 3 (some .int) 1 := ⟨⟨gw_880, gw_881, gw_873⟩, by decide +kernel, by decide +kernel, by decide +kernel⟩
end
section
/-! decode rows, printed by program, part 1 -/
theorem dX0_init_0 : decode cX0_init 0 = .ok (.aload_n 0, 1) := by decide +kernel
theorem dX0_init_1 : decode cX0_init 1 = .ok (.invokespecial 3, 3) := by decide +kernel
theorem dX0_init_4 : decode cX0_init 4 = .ok (.aload_n 0, 1) := by decide +kernel
theorem dX0_init_5 : decode cX0_init 5 = .ok (.bipush 12, 2) := by decide +kernel
theorem dX0_init_7 : decode cX0_init 7 = .ok (.newarray .long, 2) := by decide +kernel
theorem dX0_init_9 : decode cX0_init 9 = .ok (.putfield 9, 3) := by decide +kernel
theorem dX0_init_12 : decode cX0_init 12 = .ok (.aload_n 0, 1) := by decide +kernel
theorem dX0_init_13 : decode cX0_init 13 = .ok (.bipush 12, 2) := by decide +kernel
theorem dX0_init_15 : decode cX0_init 15 = .ok (.newarray .int, 2) := by decide +kernel
theorem dX0_init_17 : decode cX0_init 17 = .ok (.putfield 15, 3) := by decide +kernel
theorem dX0_init_20 : decode cX0_init 20 = .ok (.return_, 1) := by decide +kernel
theorem dX0_run_0 : decode cX0_run 0 = .ok (.aload_n 0, 1) := by decide +kernel
theorem dX0_run_1 : decode cX0_run 1 = .ok (.aload_n 1, 1) := by decide +kernel
theorem dX0_run_2 : decode cX0_run 2 = .ok (.invokevirtual 19, 3) := by decide +kernel
theorem dX0_run_5 : decode cX0_run 5 = .ok (.iconst 0, 1) := by decide +kernel
theorem dX0_run_6 : decode cX0_run 6 = .ok (.istore_n 3, 1) := by decide +kernel
theorem dX0_run_7 : decode cX0_run 7 = .ok (.iload_n 3, 1) := by decide +kernel
theorem dX0_run_8 : decode cX0_run 8 = .ok (.bipush 12, 2) := by decide +kernel
theorem dX0_run_10 : decode cX0_run 10 = .ok (.if_icmp .ge 59, 3) := by decide +kernel
theorem dX0_run_13 : decode cX0_run 13 = .ok (.aload_n 0, 1) := by decide +kernel
theorem dX0_run_14 : decode cX0_run 14 = .ok (.getfield 23, 3) := by decide +kernel
theorem dX0_run_17 : decode cX0_run 17 = .ok (.ifCond .eq 52, 3) := by decide +kernel
theorem dX0_run_20 : decode cX0_run 20 = .ok (.aload_n 0, 1) := by decide +kernel
theorem dX0_run_21 : decode cX0_run 21 = .ok (.aload_n 1, 1) := by decide +kernel
theorem dX0_run_22 : decode cX0_run 22 = .ok (.invokevirtual 27, 3) := by decide +kernel
theorem dX0_run_25 : decode cX0_run 25 = .ok (.aload_n 0, 1) := by decide +kernel
theorem dX0_run_26 : decode cX0_run 26 = .ok (.getfield 23, 3) := by decide +kernel
theorem dX0_run_29 : decode cX0_run 29 = .ok (.ifCond .eq 34, 3) := by decide +kernel
theorem dX0_run_32 : decode cX0_run 32 = .ok (.aload_n 0, 1) := by decide +kernel
theorem dX0_run_33 : decode cX0_run 33 = .ok (.aload_n 1, 1) := by decide +kernel
theorem dX0_run_34 : decode cX0_run 34 = .ok (.aload_n 2, 1) := by decide +kernel
theorem dX0_run_35 : decode cX0_run 35 = .ok (.invokevirtual 30, 3) := by decide +kernel
theorem dX0_run_38 : decode cX0_run 38 = .ok (.istore 4, 2) := by decide +kernel
theorem dX0_run_40 : decode cX0_run 40 = .ok (.iload 4, 2) := by decide +kernel
theorem dX0_run_42 : decode cX0_run 42 = .ok (.ifCond .eq 12, 3) := by decide +kernel
theorem dX0_run_45 : decode cX0_run 45 = .ok (.aload_n 0, 1) := by decide +kernel
theorem dX0_run_46 : decode cX0_run 46 = .ok (.iload 4, 2) := by decide +kernel
theorem dX0_run_48 : decode cX0_run 48 = .ok (.invokevirtual 34, 3) := by decide +kernel
theorem dX0_run_51 : decode cX0_run 51 = .ok (.goto 8, 3) := by decide +kernel
theorem dX0_run_54 : decode cX0_run 54 = .ok (.aload_n 0, 1) := by decide +kernel
theorem dX0_run_55 : decode cX0_run 55 = .ok (.aload_n 1, 1) := by decide +kernel
theorem dX0_run_56 : decode cX0_run 56 = .ok (.invokevirtual 38, 3) := by decide +kernel
theorem dX0_run_59 : decode cX0_run 59 = .ok (.aload_n 0, 1) := by decide +kernel
theorem dX0_run_60 : decode cX0_run 60 = .ok (.invokevirtual 41, 3) := by decide +kernel
theorem dX0_run_63 : decode cX0_run 63 = .ok (.iinc 3 1, 3) := by decide +kernel
theorem dX0_run_66 : decode cX0_run 66 = .ok (.goto (-59), 3) := by decide +kernel
theorem dX0_run_69 : decode cX0_run 69 = .ok (.aload_n 0, 1) := by decide +kernel
theorem dX0_run_70 : decode cX0_run 70 = .ok (.aload_n 1, 1) := by decide +kernel
theorem dX0_run_71 : decode cX0_run 71 = .ok (.getfield 44, 3) := by decide +kernel
theorem dX0_run_74 : decode cX0_run 74 = .ok (.aload_n 2, 1) := by decide +kernel
theorem dX0_run_75 : decode cX0_run 75 = .ok (.invokevirtual 49, 3) := by decide +kernel
theorem dX0_run_78 : decode cX0_run 78 = .ok (.return_, 1) := by decide +kernel
theorem dX0_begin_0 : decode cX0_begin 0 = .ok (.iconst 0, 1) := by decide +kernel
theorem dX0_begin_1 : decode cX0_begin 1 = .ok (.istore_n 2, 1) := by decide +kernel
theorem dX0_begin_2 : decode cX0_begin 2 = .ok (.iload_n 2, 1) := by decide +kernel
theorem dX0_begin_3 : decode cX0_begin 3 = .ok (.bipush 12, 2) := by decide +kernel
theorem dX0_begin_5 : decode cX0_begin 5 = .ok (.if_icmp .ge 21, 3) := by decide +kernel
theorem dX0_begin_8 : decode cX0_begin 8 = .ok (.aload_n 0, 1) := by decide +kernel
theorem dX0_begin_9 : decode cX0_begin 9 = .ok (.getfield 9, 3) := by decide +kernel
theorem dX0_begin_12 : decode cX0_begin 12 = .ok (.iload_n 2, 1) := by decide +kernel
theorem dX0_begin_13 : decode cX0_begin 13 = .ok (.aload_n 1, 1) := by decide +kernel
theorem dX0_begin_14 : decode cX0_begin 14 = .ok (.iload_n 2, 1) := by decide +kernel
theorem dX0_begin_15 : decode cX0_begin 15 = .ok (.invokevirtual 53, 3) := by decide +kernel
theorem dX0_begin_18 : decode cX0_begin 18 = .ok (.i2l, 1) := by decide +kernel
theorem dX0_begin_19 : decode cX0_begin 19 = .ok (.lastore, 1) := by decide +kernel
theorem dX0_begin_20 : decode cX0_begin 20 = .ok (.iinc 2 1, 3) := by decide +kernel
theorem dX0_begin_23 : decode cX0_begin 23 = .ok (.goto (-21), 3) := by decide +kernel
theorem dX0_begin_26 : decode cX0_begin 26 = .ok (.aload_n 0, 1) := by decide +kernel
theorem dX0_begin_27 : decode cX0_begin 27 = .ok (.aload_n 1, 1) := by decide +kernel
theorem dX0_begin_28 : decode cX0_begin 28 = .ok (.getfield 44, 3) := by decide +kernel
theorem dX0_begin_31 : decode cX0_begin 31 = .ok (.putfield 23, 3) := by decide +kernel
theorem dX0_begin_34 : decode cX0_begin 34 = .ok (.aload_n 0, 1) := by decide +kernel
theorem dX0_begin_35 : decode cX0_begin 35 = .ok (.iconst 0, 1) := by decide +kernel
theorem dX0_begin_36 : decode cX0_begin 36 = .ok (.putfield 57, 3) := by decide +kernel
theorem dX0_begin_39 : decode cX0_begin 39 = .ok (.aload_n 0, 1) := by decide +kernel
theorem dX0_begin_40 : decode cX0_begin 40 = .ok (.lconst 0, 1) := by decide +kernel
theorem dX0_begin_41 : decode cX0_begin 41 = .ok (.putfield 60, 3) := by decide +kernel
theorem dX0_begin_44 : decode cX0_begin 44 = .ok (.aload_n 0, 1) := by decide +kernel
theorem dX0_begin_45 : decode cX0_begin 45 = .ok (.lconst 1, 1) := by decide +kernel
theorem dX0_begin_46 : decode cX0_begin 46 = .ok (.putfield 64, 3) := by decide +kernel
theorem dX0_begin_49 : decode cX0_begin 49 = .ok (.return_, 1) := by decide +kernel
theorem dX0_strip_0 : decode cX0_strip 0 = .ok (.iconst 0, 1) := by decide +kernel
theorem dX0_strip_1 : decode cX0_strip 1 = .ok (.istore_n 2, 1) := by decide +kernel
theorem dX0_strip_2 : decode cX0_strip 2 = .ok (.iload_n 2, 1) := by decide +kernel
theorem dX0_strip_3 : decode cX0_strip 3 = .ok (.bipush 12, 2) := by decide +kernel
theorem dX0_strip_5 : decode cX0_strip 5 = .ok (.if_icmp .ge 80, 3) := by decide +kernel
theorem dX0_strip_8 : decode cX0_strip 8 = .ok (.aload_n 0, 1) := by decide +kernel
theorem dX0_strip_9 : decode cX0_strip 9 = .ok (.getfield 23, 3) := by decide +kernel
theorem dX0_strip_12 : decode cX0_strip 12 = .ok (.istore_n 3, 1) := by decide +kernel
theorem dX0_strip_13 : decode cX0_strip 13 = .ok (.iconst 0, 1) := by decide +kernel
theorem dX0_strip_14 : decode cX0_strip 14 = .ok (.istore 4, 2) := by decide +kernel
theorem dX0_strip_16 : decode cX0_strip 16 = .ok (.iload 4, 2) := by decide +kernel
theorem dX0_strip_18 : decode cX0_strip 18 = .ok (.bipush 12, 2) := by decide +kernel
theorem dX0_strip_20 : decode cX0_strip 20 = .ok (.if_icmp .ge 50, 3) := by decide +kernel
theorem dX0_strip_23 : decode cX0_strip 23 = .ok (.aload_n 0, 1) := by decide +kernel
theorem dX0_strip_24 : decode cX0_strip 24 = .ok (.getfield 23, 3) := by decide +kernel
theorem dX0_strip_27 : decode cX0_strip 27 = .ok (.iload 4, 2) := by decide +kernel
theorem dX0_strip_29 : decode cX0_strip 29 = .ok (.invokestatic 67, 3) := by decide +kernel
theorem dX0_strip_32 : decode cX0_strip 32 = .ok (.ifCond .eq 32, 3) := by decide +kernel
theorem dX0_strip_35 : decode cX0_strip 35 = .ok (.aload_n 1, 1) := by decide +kernel
theorem dX0_strip_36 : decode cX0_strip 36 = .ok (.iload 4, 2) := by decide +kernel
theorem dX0_strip_38 : decode cX0_strip 38 = .ok (.aload_n 0, 1) := by decide +kernel
theorem dX0_strip_39 : decode cX0_strip 39 = .ok (.getfield 23, 3) := by decide +kernel
theorem dX0_strip_42 : decode cX0_strip 42 = .ok (.invokevirtual 71, 3) := by decide +kernel
theorem dX0_strip_45 : decode cX0_strip 45 = .ok (.iconst 1, 1) := by decide +kernel
theorem dX0_strip_46 : decode cX0_strip 46 = .ok (.if_icmp .gt 18, 3) := by decide +kernel
theorem dX0_strip_49 : decode cX0_strip 49 = .ok (.aload_n 0, 1) := by decide +kernel
theorem dX0_strip_50 : decode cX0_strip 50 = .ok (.dup, 1) := by decide +kernel
theorem dX0_strip_51 : decode cX0_strip 51 = .ok (.getfield 23, 3) := by decide +kernel
theorem dX0_strip_54 : decode cX0_strip 54 = .ok (.iconst 1, 1) := by decide +kernel
theorem dX0_strip_55 : decode cX0_strip 55 = .ok (.iload 4, 2) := by decide +kernel
theorem dX0_strip_57 : decode cX0_strip 57 = .ok (.ishl, 1) := by decide +kernel
theorem dX0_strip_58 : decode cX0_strip 58 = .ok (.iconst (-1), 1) := by decide +kernel
theorem dX0_strip_59 : decode cX0_strip 59 = .ok (.ixor, 1) := by decide +kernel
theorem dX0_strip_60 : decode cX0_strip 60 = .ok (.iand, 1) := by decide +kernel
theorem dX0_strip_61 : decode cX0_strip 61 = .ok (.putfield 23, 3) := by decide +kernel
theorem dX0_strip_64 : decode cX0_strip 64 = .ok (.iinc 4 1, 3) := by decide +kernel
theorem dX0_strip_67 : decode cX0_strip 67 = .ok (.goto (-51), 3) := by decide +kernel
theorem dX0_strip_70 : decode cX0_strip 70 = .ok (.aload_n 0, 1) := by decide +kernel
theorem dX0_strip_71 : decode cX0_strip 71 = .ok (.getfield 23, 3) := by decide +kernel
theorem dX0_strip_74 : decode cX0_strip 74 = .ok (.iload_n 3, 1) := by decide +kernel
theorem dX0_strip_75 : decode cX0_strip 75 = .ok (.if_icmp .ne 4, 3) := by decide +kernel
theorem dX0_strip_78 : decode cX0_strip 78 = .ok (.return_, 1) := by decide +kernel
theorem dX0_strip_79 : decode cX0_strip 79 = .ok (.iinc 2 1, 3) := by decide +kernel
theorem dX0_strip_82 : decode cX0_strip 82 = .ok (.goto (-80), 3) := by decide +kernel
theorem dX0_strip_85 : decode cX0_strip 85 = .ok (.return_, 1) := by decide +kernel
theorem dX0_leastOpenRing_0 : decode cX0_leastOpenRing 0 = .ok (.iconst 0, 1) := by decide +kernel
theorem dX0_leastOpenRing_1 : decode cX0_leastOpenRing 1 = .ok (.istore_n 3, 1) := by decide +kernel
theorem dX0_leastOpenRing_2 : decode cX0_leastOpenRing 2 = .ok (.iconst 0, 1) := by decide +kernel
theorem dX0_leastOpenRing_3 : decode cX0_leastOpenRing 3 = .ok (.istore 4, 2) := by decide +kernel
theorem dX0_leastOpenRing_5 : decode cX0_leastOpenRing 5 = .ok (.iload 4, 2) := by decide +kernel
theorem dX0_leastOpenRing_7 : decode cX0_leastOpenRing 7 = .ok (.bipush 12, 2) := by decide +kernel
theorem dX0_leastOpenRing_9 : decode cX0_leastOpenRing 9 = .ok (.if_icmp .ge 42, 3) := by decide +kernel
theorem dX0_leastOpenRing_12 : decode cX0_leastOpenRing 12 = .ok (.aload_n 0, 1) := by decide +kernel
theorem dX0_leastOpenRing_13 : decode cX0_leastOpenRing 13 = .ok (.getfield 23, 3) := by decide +kernel
theorem dX0_leastOpenRing_16 : decode cX0_leastOpenRing 16 = .ok (.iload 4, 2) := by decide +kernel
theorem dX0_leastOpenRing_18 : decode cX0_leastOpenRing 18 = .ok (.invokestatic 67, 3) := by decide +kernel
theorem dX0_leastOpenRing_21 : decode cX0_leastOpenRing 21 = .ok (.ifCond .eq 24, 3) := by decide +kernel
theorem dX0_leastOpenRing_24 : decode cX0_leastOpenRing 24 = .ok (.aload_n 1, 1) := by decide +kernel
theorem dX0_leastOpenRing_25 : decode cX0_leastOpenRing 25 = .ok (.iload 4, 2) := by decide +kernel
theorem dX0_leastOpenRing_27 : decode cX0_leastOpenRing 27 = .ok (.aload_n 0, 1) := by decide +kernel
theorem dX0_leastOpenRing_28 : decode cX0_leastOpenRing 28 = .ok (.getfield 23, 3) := by decide +kernel
theorem dX0_leastOpenRing_31 : decode cX0_leastOpenRing 31 = .ok (.invokevirtual 71, 3) := by decide +kernel
theorem dX0_leastOpenRing_34 : decode cX0_leastOpenRing 34 = .ok (.iconst 2, 1) := by decide +kernel
theorem dX0_leastOpenRing_35 : decode cX0_leastOpenRing 35 = .ok (.if_icmp .le 10, 3) := by decide +kernel
theorem dX0_leastOpenRing_38 : decode cX0_leastOpenRing 38 = .ok (.iload_n 3, 1) := by decide +kernel
theorem dX0_leastOpenRing_39 : decode cX0_leastOpenRing 39 = .ok (.iconst 1, 1) := by decide +kernel
theorem dX0_leastOpenRing_40 : decode cX0_leastOpenRing 40 = .ok (.iload 4, 2) := by decide +kernel
theorem dX0_leastOpenRing_42 : decode cX0_leastOpenRing 42 = .ok (.ishl, 1) := by decide +kernel
theorem dX0_leastOpenRing_43 : decode cX0_leastOpenRing 43 = .ok (.ior, 1) := by decide +kernel
theorem dX0_leastOpenRing_44 : decode cX0_leastOpenRing 44 = .ok (.istore_n 3, 1) := by decide +kernel
theorem dX0_leastOpenRing_45 : decode cX0_leastOpenRing 45 = .ok (.iinc 4 1, 3) := by decide +kernel
theorem dX0_leastOpenRing_48 : decode cX0_leastOpenRing 48 = .ok (.goto (-43), 3) := by decide +kernel
theorem dX0_leastOpenRing_51 : decode cX0_leastOpenRing 51 = .ok (.iconst 0, 1) := by decide +kernel
theorem dX0_leastOpenRing_52 : decode cX0_leastOpenRing 52 = .ok (.istore 4, 2) := by decide +kernel
theorem dX0_leastOpenRing_54 : decode cX0_leastOpenRing 54 = .ok (.iconst 0, 1) := by decide +kernel
theorem dX0_leastOpenRing_55 : decode cX0_leastOpenRing 55 = .ok (.istore 5, 2) := by decide +kernel
theorem dX0_leastOpenRing_57 : decode cX0_leastOpenRing 57 = .ok (.iload 5, 2) := by decide +kernel
theorem dX0_leastOpenRing_59 : decode cX0_leastOpenRing 59 = .ok (.aload_n 2, 1) := by decide +kernel
theorem dX0_leastOpenRing_60 : decode cX0_leastOpenRing 60 = .ok (.getfield 75, 3) := by decide +kernel
theorem dX0_leastOpenRing_63 : decode cX0_leastOpenRing 63 = .ok (.if_icmp .ge 68, 3) := by decide +kernel
theorem dX0_leastOpenRing_66 : decode cX0_leastOpenRing 66 = .ok (.aload_n 2, 1) := by decide +kernel
theorem dX0_leastOpenRing_67 : decode cX0_leastOpenRing 67 = .ok (.iload 5, 2) := by decide +kernel
theorem dX0_leastOpenRing_69 : decode cX0_leastOpenRing 69 = .ok (.invokevirtual 80, 3) := by decide +kernel
theorem dX0_leastOpenRing_72 : decode cX0_leastOpenRing 72 = .ok (.istore 6, 2) := by decide +kernel
theorem dX0_leastOpenRing_74 : decode cX0_leastOpenRing 74 = .ok (.iload 6, 2) := by decide +kernel
theorem dX0_leastOpenRing_76 : decode cX0_leastOpenRing 76 = .ok (.aload_n 0, 1) := by decide +kernel
theorem dX0_leastOpenRing_77 : decode cX0_leastOpenRing 77 = .ok (.getfield 23, 3) := by decide +kernel
theorem dX0_leastOpenRing_80 : decode cX0_leastOpenRing 80 = .ok (.iconst (-1), 1) := by decide +kernel
theorem dX0_leastOpenRing_81 : decode cX0_leastOpenRing 81 = .ok (.ixor, 1) := by decide +kernel
theorem dX0_leastOpenRing_82 : decode cX0_leastOpenRing 82 = .ok (.iand, 1) := by decide +kernel
theorem dX0_leastOpenRing_83 : decode cX0_leastOpenRing 83 = .ok (.ifCond .ne 18, 3) := by decide +kernel
theorem dX0_leastOpenRing_86 : decode cX0_leastOpenRing 86 = .ok (.iload 6, 2) := by decide +kernel
theorem dX0_leastOpenRing_88 : decode cX0_leastOpenRing 88 = .ok (.iload_n 3, 1) := by decide +kernel
theorem dX0_leastOpenRing_89 : decode cX0_leastOpenRing 89 = .ok (.iand, 1) := by decide +kernel
theorem dX0_leastOpenRing_90 : decode cX0_leastOpenRing 90 = .ok (.invokestatic 83, 3) := by decide +kernel
theorem dX0_leastOpenRing_93 : decode cX0_leastOpenRing 93 = .ok (.iconst 1, 1) := by decide +kernel
theorem dX0_leastOpenRing_94 : decode cX0_leastOpenRing 94 = .ok (.if_icmp .gt 7, 3) := by decide +kernel
theorem dX0_leastOpenRing_97 : decode cX0_leastOpenRing 97 = .ok (.iconst 1, 1) := by decide +kernel
theorem dX0_leastOpenRing_98 : decode cX0_leastOpenRing 98 = .ok (.goto 4, 3) := by decide +kernel
theorem dX0_leastOpenRing_101 : decode cX0_leastOpenRing 101 = .ok (.iconst 0, 1) := by decide +kernel
theorem dX0_leastOpenRing_102 : decode cX0_leastOpenRing 102 = .ok (.istore 7, 2) := by decide +kernel
theorem dX0_leastOpenRing_104 : decode cX0_leastOpenRing 104 = .ok (.iload 7, 2) := by decide +kernel
theorem dX0_leastOpenRing_106 : decode cX0_leastOpenRing 106 = .ok (.ifCond .eq 19, 3) := by decide +kernel
theorem dX0_leastOpenRing_109 : decode cX0_leastOpenRing 109 = .ok (.iload 4, 2) := by decide +kernel
theorem dX0_leastOpenRing_111 : decode cX0_leastOpenRing 111 = .ok (.ifCond .eq 10, 3) := by decide +kernel
theorem dX0_leastOpenRing_114 : decode cX0_leastOpenRing 114 = .ok (.iload 6, 2) := by decide +kernel
theorem dX0_leastOpenRing_116 : decode cX0_leastOpenRing 116 = .ok (.iload 4, 2) := by decide +kernel
theorem dX0_leastOpenRing_118 : decode cX0_leastOpenRing 118 = .ok (.if_icmp .ge 7, 3) := by decide +kernel
theorem dX0_leastOpenRing_121 : decode cX0_leastOpenRing 121 = .ok (.iload 6, 2) := by decide +kernel
theorem dX0_leastOpenRing_123 : decode cX0_leastOpenRing 123 = .ok (.istore 4, 2) := by decide +kernel
theorem dX0_leastOpenRing_125 : decode cX0_leastOpenRing 125 = .ok (.iinc 5 1, 3) := by decide +kernel
theorem dX0_leastOpenRing_128 : decode cX0_leastOpenRing 128 = .ok (.goto (-71), 3) := by decide +kernel
theorem dX0_leastOpenRing_131 : decode cX0_leastOpenRing 131 = .ok (.iload 4, 2) := by decide +kernel
theorem dX0_leastOpenRing_133 : decode cX0_leastOpenRing 133 = .ok (.ireturn, 1) := by decide +kernel
theorem dX0_takeFromRing_0 : decode cX0_takeFromRing 0 = .ok (.ldc2_w 90, 3) := by decide +kernel
theorem dX0_takeFromRing_3 : decode cX0_takeFromRing 3 = .ok (.lstore_n 2, 1) := by decide +kernel
theorem dX0_takeFromRing_4 : decode cX0_takeFromRing 4 = .ok (.iconst 0, 1) := by decide +kernel
theorem dX0_takeFromRing_5 : decode cX0_takeFromRing 5 = .ok (.istore 4, 2) := by decide +kernel
theorem dX0_takeFromRing_7 : decode cX0_takeFromRing 7 = .ok (.iload 4, 2) := by decide +kernel
theorem dX0_takeFromRing_9 : decode cX0_takeFromRing 9 = .ok (.bipush 12, 2) := by decide +kernel
theorem dX0_takeFromRing_11 : decode cX0_takeFromRing 11 = .ok (.if_icmp .ge 30, 3) := by decide +kernel
theorem dX0_takeFromRing_14 : decode cX0_takeFromRing 14 = .ok (.iload_n 1, 1) := by decide +kernel
theorem dX0_takeFromRing_15 : decode cX0_takeFromRing 15 = .ok (.iload 4, 2) := by decide +kernel
theorem dX0_takeFromRing_17 : decode cX0_takeFromRing 17 = .ok (.invokestatic 67, 3) := by decide +kernel
theorem dX0_takeFromRing_20 : decode cX0_takeFromRing 20 = .ok (.ifCond .eq 15, 3) := by decide +kernel
theorem dX0_takeFromRing_23 : decode cX0_takeFromRing 23 = .ok (.lload_n 2, 1) := by decide +kernel
theorem dX0_takeFromRing_24 : decode cX0_takeFromRing 24 = .ok (.aload_n 0, 1) := by decide +kernel
theorem dX0_takeFromRing_25 : decode cX0_takeFromRing 25 = .ok (.getfield 9, 3) := by decide +kernel
theorem dX0_takeFromRing_28 : decode cX0_takeFromRing 28 = .ok (.iload 4, 2) := by decide +kernel
theorem dX0_takeFromRing_30 : decode cX0_takeFromRing 30 = .ok (.laload, 1) := by decide +kernel
theorem dX0_takeFromRing_31 : decode cX0_takeFromRing 31 = .ok (.invokestatic 92, 3) := by decide +kernel
theorem dX0_takeFromRing_34 : decode cX0_takeFromRing 34 = .ok (.lstore_n 2, 1) := by decide +kernel
theorem dX0_takeFromRing_35 : decode cX0_takeFromRing 35 = .ok (.iinc 4 1, 3) := by decide +kernel
theorem dX0_takeFromRing_38 : decode cX0_takeFromRing 38 = .ok (.goto (-31), 3) := by decide +kernel
theorem dX0_takeFromRing_41 : decode cX0_takeFromRing 41 = .ok (.iconst 0, 1) := by decide +kernel
theorem dX0_takeFromRing_42 : decode cX0_takeFromRing 42 = .ok (.istore 4, 2) := by decide +kernel
theorem dX0_takeFromRing_44 : decode cX0_takeFromRing 44 = .ok (.iload 4, 2) := by decide +kernel
theorem dX0_takeFromRing_46 : decode cX0_takeFromRing 46 = .ok (.bipush 12, 2) := by decide +kernel
theorem dX0_takeFromRing_48 : decode cX0_takeFromRing 48 = .ok (.if_icmp .ge 29, 3) := by decide +kernel
theorem dX0_takeFromRing_51 : decode cX0_takeFromRing 51 = .ok (.iload_n 1, 1) := by decide +kernel
theorem dX0_takeFromRing_52 : decode cX0_takeFromRing 52 = .ok (.iload 4, 2) := by decide +kernel
theorem dX0_takeFromRing_54 : decode cX0_takeFromRing 54 = .ok (.invokestatic 67, 3) := by decide +kernel
theorem dX0_takeFromRing_57 : decode cX0_takeFromRing 57 = .ok (.ifCond .eq 14, 3) := by decide +kernel
theorem dX0_takeFromRing_60 : decode cX0_takeFromRing 60 = .ok (.aload_n 0, 1) := by decide +kernel
theorem dX0_takeFromRing_61 : decode cX0_takeFromRing 61 = .ok (.getfield 9, 3) := by decide +kernel
theorem dX0_takeFromRing_64 : decode cX0_takeFromRing 64 = .ok (.iload 4, 2) := by decide +kernel
theorem dX0_takeFromRing_66 : decode cX0_takeFromRing 66 = .ok (.dup2, 1) := by decide +kernel
theorem dX0_takeFromRing_67 : decode cX0_takeFromRing 67 = .ok (.laload, 1) := by decide +kernel
theorem dX0_takeFromRing_68 : decode cX0_takeFromRing 68 = .ok (.lload_n 2, 1) := by decide +kernel
theorem dX0_takeFromRing_69 : decode cX0_takeFromRing 69 = .ok (.lsub, 1) := by decide +kernel
theorem dX0_takeFromRing_70 : decode cX0_takeFromRing 70 = .ok (.lastore, 1) := by decide +kernel
theorem dX0_takeFromRing_71 : decode cX0_takeFromRing 71 = .ok (.iinc 4 1, 3) := by decide +kernel
theorem dX0_takeFromRing_74 : decode cX0_takeFromRing 74 = .ok (.goto (-30), 3) := by decide +kernel
theorem dX0_takeFromRing_77 : decode cX0_takeFromRing 77 = .ok (.aload_n 0, 1) := by decide +kernel
theorem dX0_takeFromRing_78 : decode cX0_takeFromRing 78 = .ok (.dup, 1) := by decide +kernel
theorem dX0_takeFromRing_79 : decode cX0_takeFromRing 79 = .ok (.getfield 60, 3) := by decide +kernel
theorem dX0_takeFromRing_82 : decode cX0_takeFromRing 82 = .ok (.lload_n 2, 1) := by decide +kernel
theorem dX0_takeFromRing_83 : decode cX0_takeFromRing 83 = .ok (.ladd, 1) := by decide +kernel
theorem dX0_takeFromRing_84 : decode cX0_takeFromRing 84 = .ok (.putfield 60, 3) := by decide +kernel
theorem dX0_takeFromRing_87 : decode cX0_takeFromRing 87 = .ok (.return_, 1) := by decide +kernel
theorem dX0_takeFromAll_0 : decode cX0_takeFromAll 0 = .ok (.lconst 0, 1) := by decide +kernel
theorem dX0_takeFromAll_1 : decode cX0_takeFromAll 1 = .ok (.lstore_n 2, 1) := by decide +kernel
theorem dX0_takeFromAll_2 : decode cX0_takeFromAll 2 = .ok (.iconst 0, 1) := by decide +kernel
theorem dX0_takeFromAll_3 : decode cX0_takeFromAll 3 = .ok (.istore 4, 2) := by decide +kernel
theorem dX0_takeFromAll_5 : decode cX0_takeFromAll 5 = .ok (.iconst 0, 1) := by decide +kernel
theorem dX0_takeFromAll_6 : decode cX0_takeFromAll 6 = .ok (.istore 5, 2) := by decide +kernel
theorem dX0_takeFromAll_8 : decode cX0_takeFromAll 8 = .ok (.iload 5, 2) := by decide +kernel
theorem dX0_takeFromAll_10 : decode cX0_takeFromAll 10 = .ok (.bipush 12, 2) := by decide +kernel
theorem dX0_takeFromAll_12 : decode cX0_takeFromAll 12 = .ok (.if_icmp .ge 72, 3) := by decide +kernel
theorem dX0_takeFromAll_15 : decode cX0_takeFromAll 15 = .ok (.aload_n 0, 1) := by decide +kernel
theorem dX0_takeFromAll_16 : decode cX0_takeFromAll 16 = .ok (.getfield 23, 3) := by decide +kernel
theorem dX0_takeFromAll_19 : decode cX0_takeFromAll 19 = .ok (.iload 5, 2) := by decide +kernel
theorem dX0_takeFromAll_21 : decode cX0_takeFromAll 21 = .ok (.invokestatic 67, 3) := by decide +kernel
theorem dX0_takeFromAll_24 : decode cX0_takeFromAll 24 = .ok (.ifCond .eq 54, 3) := by decide +kernel
theorem dX0_takeFromAll_27 : decode cX0_takeFromAll 27 = .ok (.aload_n 1, 1) := by decide +kernel
theorem dX0_takeFromAll_28 : decode cX0_takeFromAll 28 = .ok (.iload 5, 2) := by decide +kernel
theorem dX0_takeFromAll_30 : decode cX0_takeFromAll 30 = .ok (.aload_n 0, 1) := by decide +kernel
theorem dX0_takeFromAll_31 : decode cX0_takeFromAll 31 = .ok (.getfield 23, 3) := by decide +kernel
theorem dX0_takeFromAll_34 : decode cX0_takeFromAll 34 = .ok (.invokevirtual 71, 3) := by decide +kernel
theorem dX0_takeFromAll_37 : decode cX0_takeFromAll 37 = .ok (.iconst 1, 1) := by decide +kernel
theorem dX0_takeFromAll_38 : decode cX0_takeFromAll 38 = .ok (.isub, 1) := by decide +kernel
theorem dX0_takeFromAll_39 : decode cX0_takeFromAll 39 = .ok (.istore 6, 2) := by decide +kernel
theorem dX0_takeFromAll_41 : decode cX0_takeFromAll 41 = .ok (.iload 4, 2) := by decide +kernel
theorem dX0_takeFromAll_43 : decode cX0_takeFromAll 43 = .ok (.ifCond .eq 23, 3) := by decide +kernel
theorem dX0_takeFromAll_46 : decode cX0_takeFromAll 46 = .ok (.aload_n 0, 1) := by decide +kernel
theorem dX0_takeFromAll_47 : decode cX0_takeFromAll 47 = .ok (.getfield 9, 3) := by decide +kernel
theorem dX0_takeFromAll_50 : decode cX0_takeFromAll 50 = .ok (.iload 5, 2) := by decide +kernel
theorem dX0_takeFromAll_52 : decode cX0_takeFromAll 52 = .ok (.laload, 1) := by decide +kernel
theorem dX0_takeFromAll_53 : decode cX0_takeFromAll 53 = .ok (.iload 4, 2) := by decide +kernel
theorem dX0_takeFromAll_55 : decode cX0_takeFromAll 55 = .ok (.i2l, 1) := by decide +kernel
theorem dX0_takeFromAll_56 : decode cX0_takeFromAll 56 = .ok (.lmul, 1) := by decide +kernel
theorem dX0_takeFromAll_57 : decode cX0_takeFromAll 57 = .ok (.lload_n 2, 1) := by decide +kernel
theorem dX0_takeFromAll_58 : decode cX0_takeFromAll 58 = .ok (.iload 6, 2) := by decide +kernel
theorem dX0_takeFromAll_60 : decode cX0_takeFromAll 60 = .ok (.i2l, 1) := by decide +kernel
theorem dX0_takeFromAll_61 : decode cX0_takeFromAll 61 = .ok (.lmul, 1) := by decide +kernel
theorem dX0_takeFromAll_62 : decode cX0_takeFromAll 62 = .ok (.lcmp, 1) := by decide +kernel
theorem dX0_takeFromAll_63 : decode cX0_takeFromAll 63 = .ok (.ifCond .ge 15, 3) := by decide +kernel
theorem dX0_takeFromAll_66 : decode cX0_takeFromAll 66 = .ok (.aload_n 0, 1) := by decide +kernel
theorem dX0_takeFromAll_67 : decode cX0_takeFromAll 67 = .ok (.getfield 9, 3) := by decide +kernel
theorem dX0_takeFromAll_70 : decode cX0_takeFromAll 70 = .ok (.iload 5, 2) := by decide +kernel
theorem dX0_takeFromAll_72 : decode cX0_takeFromAll 72 = .ok (.laload, 1) := by decide +kernel
theorem dX0_takeFromAll_73 : decode cX0_takeFromAll 73 = .ok (.lstore_n 2, 1) := by decide +kernel
theorem dX0_takeFromAll_74 : decode cX0_takeFromAll 74 = .ok (.iload 6, 2) := by decide +kernel
theorem dX0_takeFromAll_76 : decode cX0_takeFromAll 76 = .ok (.istore 4, 2) := by decide +kernel
theorem dX0_takeFromAll_78 : decode cX0_takeFromAll 78 = .ok (.iinc 5 1, 3) := by decide +kernel
theorem dX0_takeFromAll_81 : decode cX0_takeFromAll 81 = .ok (.goto (-73), 3) := by decide +kernel
theorem dX0_takeFromAll_84 : decode cX0_takeFromAll 84 = .ok (.aload_n 0, 1) := by decide +kernel
theorem dX0_takeFromAll_85 : decode cX0_takeFromAll 85 = .ok (.dup, 1) := by decide +kernel
theorem dX0_takeFromAll_86 : decode cX0_takeFromAll 86 = .ok (.getfield 64, 3) := by decide +kernel
theorem dX0_takeFromAll_89 : decode cX0_takeFromAll 89 = .ok (.iload 4, 2) := by decide +kernel
theorem dX0_takeFromAll_91 : decode cX0_takeFromAll 91 = .ok (.i2l, 1) := by decide +kernel
theorem dX0_takeFromAll_92 : decode cX0_takeFromAll 92 = .ok (.lmul, 1) := by decide +kernel
theorem dX0_takeFromAll_93 : decode cX0_takeFromAll 93 = .ok (.putfield 64, 3) := by decide +kernel
theorem dX0_takeFromAll_96 : decode cX0_takeFromAll 96 = .ok (.aload_n 0, 1) := by decide +kernel
theorem dX0_takeFromAll_97 : decode cX0_takeFromAll 97 = .ok (.dup, 1) := by decide +kernel
theorem dX0_takeFromAll_98 : decode cX0_takeFromAll 98 = .ok (.getfield 60, 3) := by decide +kernel
theorem dX0_takeFromAll_101 : decode cX0_takeFromAll 101 = .ok (.iload 4, 2) := by decide +kernel
theorem dX0_takeFromAll_103 : decode cX0_takeFromAll 103 = .ok (.i2l, 1) := by decide +kernel
theorem dX0_takeFromAll_104 : decode cX0_takeFromAll 104 = .ok (.lmul, 1) := by decide +kernel
theorem dX0_takeFromAll_105 : decode cX0_takeFromAll 105 = .ok (.putfield 60, 3) := by decide +kernel
theorem dX0_takeFromAll_108 : decode cX0_takeFromAll 108 = .ok (.iconst 0, 1) := by decide +kernel
theorem dX0_takeFromAll_109 : decode cX0_takeFromAll 109 = .ok (.istore 5, 2) := by decide +kernel
theorem dX0_takeFromAll_111 : decode cX0_takeFromAll 111 = .ok (.iload 5, 2) := by decide +kernel
theorem dX0_takeFromAll_113 : decode cX0_takeFromAll 113 = .ok (.bipush 12, 2) := by decide +kernel
theorem dX0_takeFromAll_115 : decode cX0_takeFromAll 115 = .ok (.if_icmp .ge 59, 3) := by decide +kernel
theorem dX0_takeFromAll_118 : decode cX0_takeFromAll 118 = .ok (.aload_n 0, 1) := by decide +kernel
theorem dX0_takeFromAll_119 : decode cX0_takeFromAll 119 = .ok (.getfield 9, 3) := by decide +kernel
theorem dX0_takeFromAll_122 : decode cX0_takeFromAll 122 = .ok (.iload 5, 2) := by decide +kernel
theorem dX0_takeFromAll_124 : decode cX0_takeFromAll 124 = .ok (.dup2, 1) := by decide +kernel
theorem dX0_takeFromAll_125 : decode cX0_takeFromAll 125 = .ok (.laload, 1) := by decide +kernel
theorem dX0_takeFromAll_126 : decode cX0_takeFromAll 126 = .ok (.iload 4, 2) := by decide +kernel
theorem dX0_takeFromAll_128 : decode cX0_takeFromAll 128 = .ok (.i2l, 1) := by decide +kernel
theorem dX0_takeFromAll_129 : decode cX0_takeFromAll 129 = .ok (.lmul, 1) := by decide +kernel
theorem dX0_takeFromAll_130 : decode cX0_takeFromAll 130 = .ok (.lastore, 1) := by decide +kernel
theorem dX0_takeFromAll_131 : decode cX0_takeFromAll 131 = .ok (.aload_n 0, 1) := by decide +kernel
theorem dX0_takeFromAll_132 : decode cX0_takeFromAll 132 = .ok (.getfield 23, 3) := by decide +kernel
theorem dX0_takeFromAll_135 : decode cX0_takeFromAll 135 = .ok (.iload 5, 2) := by decide +kernel
theorem dX0_takeFromAll_137 : decode cX0_takeFromAll 137 = .ok (.invokestatic 67, 3) := by decide +kernel
theorem dX0_takeFromAll_140 : decode cX0_takeFromAll 140 = .ok (.ifCond .eq 28, 3) := by decide +kernel
theorem dX0_takeFromAll_143 : decode cX0_takeFromAll 143 = .ok (.aload_n 0, 1) := by decide +kernel
theorem dX0_takeFromAll_144 : decode cX0_takeFromAll 144 = .ok (.getfield 9, 3) := by decide +kernel
theorem dX0_takeFromAll_147 : decode cX0_takeFromAll 147 = .ok (.iload 5, 2) := by decide +kernel
theorem dX0_takeFromAll_149 : decode cX0_takeFromAll 149 = .ok (.dup2, 1) := by decide +kernel
theorem dX0_takeFromAll_150 : decode cX0_takeFromAll 150 = .ok (.laload, 1) := by decide +kernel
theorem dX0_takeFromAll_151 : decode cX0_takeFromAll 151 = .ok (.lload_n 2, 1) := by decide +kernel
theorem dX0_takeFromAll_152 : decode cX0_takeFromAll 152 = .ok (.aload_n 1, 1) := by decide +kernel
theorem dX0_takeFromAll_153 : decode cX0_takeFromAll 153 = .ok (.iload 5, 2) := by decide +kernel
theorem dX0_takeFromAll_155 : decode cX0_takeFromAll 155 = .ok (.aload_n 0, 1) := by decide +kernel
theorem dX0_takeFromAll_156 : decode cX0_takeFromAll 156 = .ok (.getfield 23, 3) := by decide +kernel
theorem dX0_takeFromAll_159 : decode cX0_takeFromAll 159 = .ok (.invokevirtual 71, 3) := by decide +kernel
theorem dX0_takeFromAll_162 : decode cX0_takeFromAll 162 = .ok (.iconst 1, 1) := by decide +kernel
theorem dX0_takeFromAll_163 : decode cX0_takeFromAll 163 = .ok (.isub, 1) := by decide +kernel
theorem dX0_takeFromAll_164 : decode cX0_takeFromAll 164 = .ok (.i2l, 1) := by decide +kernel
theorem dX0_takeFromAll_165 : decode cX0_takeFromAll 165 = .ok (.lmul, 1) := by decide +kernel
theorem dX0_takeFromAll_166 : decode cX0_takeFromAll 166 = .ok (.lsub, 1) := by decide +kernel
theorem dX0_takeFromAll_167 : decode cX0_takeFromAll 167 = .ok (.lastore, 1) := by decide +kernel
theorem dX0_takeFromAll_168 : decode cX0_takeFromAll 168 = .ok (.iinc 5 1, 3) := by decide +kernel
theorem dX0_takeFromAll_171 : decode cX0_takeFromAll 171 = .ok (.goto (-60), 3) := by decide +kernel
theorem dX0_takeFromAll_174 : decode cX0_takeFromAll 174 = .ok (.aload_n 0, 1) := by decide +kernel
theorem dX0_takeFromAll_175 : decode cX0_takeFromAll 175 = .ok (.dup, 1) := by decide +kernel
theorem dX0_takeFromAll_176 : decode cX0_takeFromAll 176 = .ok (.getfield 60, 3) := by decide +kernel
theorem dX0_takeFromAll_179 : decode cX0_takeFromAll 179 = .ok (.lload_n 2, 1) := by decide +kernel
theorem dX0_takeFromAll_180 : decode cX0_takeFromAll 180 = .ok (.aload_n 1, 1) := by decide +kernel
theorem dX0_takeFromAll_181 : decode cX0_takeFromAll 181 = .ok (.aload_n 0, 1) := by decide +kernel
theorem dX0_takeFromAll_182 : decode cX0_takeFromAll 182 = .ok (.getfield 23, 3) := by decide +kernel
theorem dX0_takeFromAll_185 : decode cX0_takeFromAll 185 = .ok (.invokevirtual 98, 3) := by decide +kernel
theorem dX0_takeFromAll_188 : decode cX0_takeFromAll 188 = .ok (.aload_n 1, 1) := by decide +kernel
theorem dX0_takeFromAll_189 : decode cX0_takeFromAll 189 = .ok (.aload_n 0, 1) := by decide +kernel
theorem dX0_takeFromAll_190 : decode cX0_takeFromAll 190 = .ok (.getfield 23, 3) := by decide +kernel
theorem dX0_takeFromAll_193 : decode cX0_takeFromAll 193 = .ok (.invokevirtual 101, 3) := by decide +kernel
theorem dX0_takeFromAll_196 : decode cX0_takeFromAll 196 = .ok (.iadd, 1) := by decide +kernel
theorem dX0_takeFromAll_197 : decode cX0_takeFromAll 197 = .ok (.aload_n 0, 1) := by decide +kernel
theorem dX0_takeFromAll_198 : decode cX0_takeFromAll 198 = .ok (.getfield 23, 3) := by decide +kernel
theorem dX0_takeFromAll_201 : decode cX0_takeFromAll 201 = .ok (.invokestatic 83, 3) := by decide +kernel
theorem dX0_takeFromAll_204 : decode cX0_takeFromAll 204 = .ok (.isub, 1) := by decide +kernel
theorem dX0_takeFromAll_205 : decode cX0_takeFromAll 205 = .ok (.i2l, 1) := by decide +kernel
theorem dX0_takeFromAll_206 : decode cX0_takeFromAll 206 = .ok (.lmul, 1) := by decide +kernel
theorem dX0_takeFromAll_207 : decode cX0_takeFromAll 207 = .ok (.ladd, 1) := by decide +kernel
theorem dX0_takeFromAll_208 : decode cX0_takeFromAll 208 = .ok (.putfield 60, 3) := by decide +kernel
theorem dX0_takeFromAll_211 : decode cX0_takeFromAll 211 = .ok (.return_, 1) := by decide +kernel
theorem dX0_pileWeightless_0 : decode cX0_pileWeightless 0 = .ok (.bipush 11, 2) := by decide +kernel
theorem dX0_pileWeightless_2 : decode cX0_pileWeightless 2 = .ok (.istore_n 1, 1) := by decide +kernel
theorem dX0_pileWeightless_3 : decode cX0_pileWeightless 3 = .ok (.iload_n 1, 1) := by decide +kernel
theorem dX0_pileWeightless_4 : decode cX0_pileWeightless 4 = .ok (.ifCond .lt 77, 3) := by decide +kernel
theorem dX0_pileWeightless_7 : decode cX0_pileWeightless 7 = .ok (.aload_n 0, 1) := by decide +kernel
theorem dX0_pileWeightless_8 : decode cX0_pileWeightless 8 = .ok (.getfield 23, 3) := by decide +kernel
theorem dX0_pileWeightless_11 : decode cX0_pileWeightless 11 = .ok (.iload_n 1, 1) := by decide +kernel
theorem dX0_pileWeightless_12 : decode cX0_pileWeightless 12 = .ok (.invokestatic 67, 3) := by decide +kernel
theorem dX0_pileWeightless_15 : decode cX0_pileWeightless 15 = .ok (.ifCond .eq 60, 3) := by decide +kernel
theorem dX0_pileWeightless_18 : decode cX0_pileWeightless 18 = .ok (.aload_n 0, 1) := by decide +kernel
theorem dX0_pileWeightless_19 : decode cX0_pileWeightless 19 = .ok (.getfield 9, 3) := by decide +kernel
theorem dX0_pileWeightless_22 : decode cX0_pileWeightless 22 = .ok (.iload_n 1, 1) := by decide +kernel
theorem dX0_pileWeightless_23 : decode cX0_pileWeightless 23 = .ok (.laload, 1) := by decide +kernel
theorem dX0_pileWeightless_24 : decode cX0_pileWeightless 24 = .ok (.lconst 0, 1) := by decide +kernel
theorem dX0_pileWeightless_25 : decode cX0_pileWeightless 25 = .ok (.lcmp, 1) := by decide +kernel
theorem dX0_pileWeightless_26 : decode cX0_pileWeightless 26 = .ok (.ifCond .ne 49, 3) := by decide +kernel
theorem dX0_pileWeightless_29 : decode cX0_pileWeightless 29 = .ok (.aload_n 0, 1) := by decide +kernel
theorem dX0_pileWeightless_30 : decode cX0_pileWeightless 30 = .ok (.getfield 57, 3) := by decide +kernel
theorem dX0_pileWeightless_33 : decode cX0_pileWeightless 33 = .ok (.aload_n 0, 1) := by decide +kernel
theorem dX0_pileWeightless_34 : decode cX0_pileWeightless 34 = .ok (.getfield 15, 3) := by decide +kernel
theorem dX0_pileWeightless_37 : decode cX0_pileWeightless 37 = .ok (.arraylength, 1) := by decide +kernel
theorem dX0_pileWeightless_38 : decode cX0_pileWeightless 38 = .ok (.if_icmp .ge 37, 3) := by decide +kernel
theorem dX0_pileWeightless_41 : decode cX0_pileWeightless 41 = .ok (.aload_n 0, 1) := by decide +kernel
theorem dX0_pileWeightless_42 : decode cX0_pileWeightless 42 = .ok (.dup, 1) := by decide +kernel
theorem dX0_pileWeightless_43 : decode cX0_pileWeightless 43 = .ok (.getfield 23, 3) := by decide +kernel
theorem dX0_pileWeightless_46 : decode cX0_pileWeightless 46 = .ok (.iconst 1, 1) := by decide +kernel
theorem dX0_pileWeightless_47 : decode cX0_pileWeightless 47 = .ok (.iload_n 1, 1) := by decide +kernel
theorem dX0_pileWeightless_48 : decode cX0_pileWeightless 48 = .ok (.ishl, 1) := by decide +kernel
theorem dX0_pileWeightless_49 : decode cX0_pileWeightless 49 = .ok (.iconst (-1), 1) := by decide +kernel
theorem dX0_pileWeightless_50 : decode cX0_pileWeightless 50 = .ok (.ixor, 1) := by decide +kernel
theorem dX0_pileWeightless_51 : decode cX0_pileWeightless 51 = .ok (.iand, 1) := by decide +kernel
theorem dX0_pileWeightless_52 : decode cX0_pileWeightless 52 = .ok (.putfield 23, 3) := by decide +kernel
theorem dX0_pileWeightless_55 : decode cX0_pileWeightless 55 = .ok (.aload_n 0, 1) := by decide +kernel
theorem dX0_pileWeightless_56 : decode cX0_pileWeightless 56 = .ok (.getfield 15, 3) := by decide +kernel
theorem dX0_pileWeightless_59 : decode cX0_pileWeightless 59 = .ok (.aload_n 0, 1) := by decide +kernel
theorem dX0_pileWeightless_60 : decode cX0_pileWeightless 60 = .ok (.getfield 57, 3) := by decide +kernel
theorem dX0_pileWeightless_63 : decode cX0_pileWeightless 63 = .ok (.iload_n 1, 1) := by decide +kernel
theorem dX0_pileWeightless_64 : decode cX0_pileWeightless 64 = .ok (.iastore, 1) := by decide +kernel
theorem dX0_pileWeightless_65 : decode cX0_pileWeightless 65 = .ok (.aload_n 0, 1) := by decide +kernel
theorem dX0_pileWeightless_66 : decode cX0_pileWeightless 66 = .ok (.dup, 1) := by decide +kernel
theorem dX0_pileWeightless_67 : decode cX0_pileWeightless 67 = .ok (.getfield 57, 3) := by decide +kernel
theorem dX0_pileWeightless_70 : decode cX0_pileWeightless 70 = .ok (.iconst 1, 1) := by decide +kernel
theorem dX0_pileWeightless_71 : decode cX0_pileWeightless 71 = .ok (.iadd, 1) := by decide +kernel
theorem dX0_pileWeightless_72 : decode cX0_pileWeightless 72 = .ok (.putfield 57, 3) := by decide +kernel
theorem dX0_pileWeightless_75 : decode cX0_pileWeightless 75 = .ok (.iinc 1 (-1), 3) := by decide +kernel
theorem dX0_pileWeightless_78 : decode cX0_pileWeightless 78 = .ok (.goto (-75), 3) := by decide +kernel
theorem dX0_pileWeightless_81 : decode cX0_pileWeightless 81 = .ok (.return_, 1) := by decide +kernel
theorem dX0_giveBack_0 : decode cX0_giveBack 0 = .ok (.aload_n 0, 1) := by decide +kernel
theorem dX0_giveBack_1 : decode cX0_giveBack 1 = .ok (.iconst 0, 1) := by decide +kernel
theorem dX0_giveBack_2 : decode cX0_giveBack 2 = .ok (.putfield 104, 3) := by decide +kernel
theorem dX0_giveBack_5 : decode cX0_giveBack 5 = .ok (.iconst 0, 1) := by decide +kernel
theorem dX0_giveBack_6 : decode cX0_giveBack 6 = .ok (.istore_n 3, 1) := by decide +kernel
theorem dX0_giveBack_7 : decode cX0_giveBack 7 = .ok (.iload_n 3, 1) := by decide +kernel
theorem dX0_giveBack_8 : decode cX0_giveBack 8 = .ok (.aload_n 0, 1) := by decide +kernel
theorem dX0_giveBack_9 : decode cX0_giveBack 9 = .ok (.getfield 57, 3) := by decide +kernel
theorem dX0_giveBack_12 : decode cX0_giveBack 12 = .ok (.if_icmp .ge 35, 3) := by decide +kernel
theorem dX0_giveBack_15 : decode cX0_giveBack 15 = .ok (.iload_n 3, 1) := by decide +kernel
theorem dX0_giveBack_16 : decode cX0_giveBack 16 = .ok (.aload_n 0, 1) := by decide +kernel
theorem dX0_giveBack_17 : decode cX0_giveBack 17 = .ok (.getfield 15, 3) := by decide +kernel
theorem dX0_giveBack_20 : decode cX0_giveBack 20 = .ok (.arraylength, 1) := by decide +kernel
theorem dX0_giveBack_21 : decode cX0_giveBack 21 = .ok (.if_icmp .ge 26, 3) := by decide +kernel
theorem dX0_giveBack_24 : decode cX0_giveBack 24 = .ok (.aload_n 0, 1) := by decide +kernel
theorem dX0_giveBack_25 : decode cX0_giveBack 25 = .ok (.dup, 1) := by decide +kernel
theorem dX0_giveBack_26 : decode cX0_giveBack 26 = .ok (.getfield 104, 3) := by decide +kernel
theorem dX0_giveBack_29 : decode cX0_giveBack 29 = .ok (.iconst 1, 1) := by decide +kernel
theorem dX0_giveBack_30 : decode cX0_giveBack 30 = .ok (.aload_n 0, 1) := by decide +kernel
theorem dX0_giveBack_31 : decode cX0_giveBack 31 = .ok (.getfield 15, 3) := by decide +kernel
theorem dX0_giveBack_34 : decode cX0_giveBack 34 = .ok (.iload_n 3, 1) := by decide +kernel
theorem dX0_giveBack_35 : decode cX0_giveBack 35 = .ok (.iaload, 1) := by decide +kernel
theorem dX0_giveBack_36 : decode cX0_giveBack 36 = .ok (.ishl, 1) := by decide +kernel
theorem dX0_giveBack_37 : decode cX0_giveBack 37 = .ok (.ior, 1) := by decide +kernel
theorem dX0_giveBack_38 : decode cX0_giveBack 38 = .ok (.putfield 104, 3) := by decide +kernel
theorem dX0_giveBack_41 : decode cX0_giveBack 41 = .ok (.iinc 3 1, 3) := by decide +kernel
theorem dX0_giveBack_44 : decode cX0_giveBack 44 = .ok (.goto (-37), 3) := by decide +kernel
theorem dX0_giveBack_47 : decode cX0_giveBack 47 = .ok (.aload_n 0, 1) := by decide +kernel
theorem dX0_giveBack_48 : decode cX0_giveBack 48 = .ok (.getfield 57, 3) := by decide +kernel
theorem dX0_giveBack_51 : decode cX0_giveBack 51 = .ok (.aload_n 0, 1) := by decide +kernel
theorem dX0_giveBack_52 : decode cX0_giveBack 52 = .ok (.getfield 15, 3) := by decide +kernel
theorem dX0_giveBack_55 : decode cX0_giveBack 55 = .ok (.arraylength, 1) := by decide +kernel
theorem dX0_giveBack_56 : decode cX0_giveBack 56 = .ok (.invokestatic 107, 3) := by decide +kernel
theorem dX0_giveBack_59 : decode cX0_giveBack 59 = .ok (.iconst 1, 1) := by decide +kernel
theorem dX0_giveBack_60 : decode cX0_giveBack 60 = .ok (.isub, 1) := by decide +kernel
theorem dX0_giveBack_61 : decode cX0_giveBack 61 = .ok (.istore_n 3, 1) := by decide +kernel
theorem dX0_giveBack_62 : decode cX0_giveBack 62 = .ok (.iload_n 3, 1) := by decide +kernel
theorem dX0_giveBack_63 : decode cX0_giveBack 63 = .ok (.ifCond .lt 45, 3) := by decide +kernel
theorem dX0_giveBack_66 : decode cX0_giveBack 66 = .ok (.aload_n 0, 1) := by decide +kernel
theorem dX0_giveBack_67 : decode cX0_giveBack 67 = .ok (.getfield 104, 3) := by decide +kernel
theorem dX0_giveBack_70 : decode cX0_giveBack 70 = .ok (.iconst 1, 1) := by decide +kernel
theorem dX0_giveBack_71 : decode cX0_giveBack 71 = .ok (.aload_n 0, 1) := by decide +kernel
theorem dX0_giveBack_72 : decode cX0_giveBack 72 = .ok (.getfield 15, 3) := by decide +kernel
theorem dX0_giveBack_75 : decode cX0_giveBack 75 = .ok (.iload_n 3, 1) := by decide +kernel
theorem dX0_giveBack_76 : decode cX0_giveBack 76 = .ok (.iaload, 1) := by decide +kernel
theorem dX0_giveBack_77 : decode cX0_giveBack 77 = .ok (.ishl, 1) := by decide +kernel
theorem dX0_giveBack_78 : decode cX0_giveBack 78 = .ok (.iconst (-1), 1) := by decide +kernel
theorem dX0_giveBack_79 : decode cX0_giveBack 79 = .ok (.ixor, 1) := by decide +kernel
theorem dX0_giveBack_80 : decode cX0_giveBack 80 = .ok (.iand, 1) := by decide +kernel
theorem dX0_giveBack_81 : decode cX0_giveBack 81 = .ok (.istore 4, 2) := by decide +kernel
theorem dX0_giveBack_83 : decode cX0_giveBack 83 = .ok (.aload_n 2, 1) := by decide +kernel
theorem dX0_giveBack_84 : decode cX0_giveBack 84 = .ok (.iload_n 1, 1) := by decide +kernel
theorem dX0_giveBack_85 : decode cX0_giveBack 85 = .ok (.iload 4, 2) := by decide +kernel
theorem dX0_giveBack_87 : decode cX0_giveBack 87 = .ok (.iconst (-1), 1) := by decide +kernel
theorem dX0_giveBack_88 : decode cX0_giveBack 88 = .ok (.ixor, 1) := by decide +kernel
theorem dX0_giveBack_89 : decode cX0_giveBack 89 = .ok (.iand, 1) := by decide +kernel
theorem dX0_giveBack_90 : decode cX0_giveBack 90 = .ok (.invokevirtual 109, 3) := by decide +kernel
theorem dX0_giveBack_93 : decode cX0_giveBack 93 = .ok (.ifCond .eq 9, 3) := by decide +kernel
theorem dX0_giveBack_96 : decode cX0_giveBack 96 = .ok (.aload_n 0, 1) := by decide +kernel
theorem dX0_giveBack_97 : decode cX0_giveBack 97 = .ok (.iload 4, 2) := by decide +kernel
theorem dX0_giveBack_99 : decode cX0_giveBack 99 = .ok (.putfield 104, 3) := by decide +kernel
theorem dX0_giveBack_102 : decode cX0_giveBack 102 = .ok (.iinc 3 (-1), 3) := by decide +kernel
theorem dX0_giveBack_105 : decode cX0_giveBack 105 = .ok (.goto (-43), 3) := by decide +kernel
theorem dX0_giveBack_108 : decode cX0_giveBack 108 = .ok (.return_, 1) := by decide +kernel
theorem dX0_boundAbove_0 : decode cX0_boundAbove 0 = .ok (.aload_n 0, 1) := by decide +kernel
theorem dX0_boundAbove_1 : decode cX0_boundAbove 1 = .ok (.invokevirtual 113, 3) := by decide +kernel
theorem dX0_boundAbove_4 : decode cX0_boundAbove 4 = .ok (.lstore_n 1, 1) := by decide +kernel
theorem dX0_boundAbove_5 : decode cX0_boundAbove 5 = .ok (.lload_n 1, 1) := by decide +kernel
theorem dX0_boundAbove_6 : decode cX0_boundAbove 6 = .ok (.lconst 0, 1) := by decide +kernel
theorem dX0_boundAbove_7 : decode cX0_boundAbove 7 = .ok (.lcmp, 1) := by decide +kernel
theorem dX0_boundAbove_8 : decode cX0_boundAbove 8 = .ok (.ifCond .eq 12, 3) := by decide +kernel
theorem dX0_boundAbove_11 : decode cX0_boundAbove 11 = .ok (.aload_n 0, 1) := by decide +kernel
theorem dX0_boundAbove_12 : decode cX0_boundAbove 12 = .ok (.getfield 60, 3) := by decide +kernel
theorem dX0_boundAbove_15 : decode cX0_boundAbove 15 = .ok (.lload_n 1, 1) := by decide +kernel
theorem dX0_boundAbove_16 : decode cX0_boundAbove 16 = .ok (.ldiv, 1) := by decide +kernel
theorem dX0_boundAbove_17 : decode cX0_boundAbove 17 = .ok (.goto 4, 3) := by decide +kernel
theorem dX0_boundAbove_20 : decode cX0_boundAbove 20 = .ok (.lconst 0, 1) := by decide +kernel
theorem dX0_boundAbove_21 : decode cX0_boundAbove 21 = .ok (.lreturn, 1) := by decide +kernel
theorem dX0_boundBelow_0 : decode cX0_boundBelow 0 = .ok (.aload_n 0, 1) := by decide +kernel
theorem dX0_boundBelow_1 : decode cX0_boundBelow 1 = .ok (.invokevirtual 113, 3) := by decide +kernel
theorem dX0_boundBelow_4 : decode cX0_boundBelow 4 = .ok (.lstore_n 1, 1) := by decide +kernel
theorem dX0_boundBelow_5 : decode cX0_boundBelow 5 = .ok (.lload_n 1, 1) := by decide +kernel
theorem dX0_boundBelow_6 : decode cX0_boundBelow 6 = .ok (.lconst 0, 1) := by decide +kernel
theorem dX0_boundBelow_7 : decode cX0_boundBelow 7 = .ok (.lcmp, 1) := by decide +kernel
theorem dX0_boundBelow_8 : decode cX0_boundBelow 8 = .ok (.ifCond .eq 12, 3) := by decide +kernel
theorem dX0_boundBelow_11 : decode cX0_boundBelow 11 = .ok (.aload_n 0, 1) := by decide +kernel
theorem dX0_boundBelow_12 : decode cX0_boundBelow 12 = .ok (.getfield 64, 3) := by decide +kernel
theorem dX0_boundBelow_15 : decode cX0_boundBelow 15 = .ok (.lload_n 1, 1) := by decide +kernel
theorem dX0_boundBelow_16 : decode cX0_boundBelow 16 = .ok (.ldiv, 1) := by decide +kernel
theorem dX0_boundBelow_17 : decode cX0_boundBelow 17 = .ok (.goto 4, 3) := by decide +kernel
theorem dX0_boundBelow_20 : decode cX0_boundBelow 20 = .ok (.lconst 1, 1) := by decide +kernel
theorem dX0_boundBelow_21 : decode cX0_boundBelow 21 = .ok (.lreturn, 1) := by decide +kernel
theorem dX0_commonDivisor_0 : decode cX0_commonDivisor 0 = .ok (.aload_n 0, 1) := by decide +kernel
theorem dX0_commonDivisor_1 : decode cX0_commonDivisor 1 = .ok (.getfield 64, 3) := by decide +kernel
theorem dX0_commonDivisor_4 : decode cX0_commonDivisor 4 = .ok (.lstore_n 1, 1) := by decide +kernel
theorem dX0_commonDivisor_5 : decode cX0_commonDivisor 5 = .ok (.aload_n 0, 1) := by decide +kernel
theorem dX0_commonDivisor_6 : decode cX0_commonDivisor 6 = .ok (.getfield 60, 3) := by decide +kernel
theorem dX0_commonDivisor_9 : decode cX0_commonDivisor 9 = .ok (.lstore_n 3, 1) := by decide +kernel
theorem dX0_commonDivisor_10 : decode cX0_commonDivisor 10 = .ok (.iconst 0, 1) := by decide +kernel
theorem dX0_commonDivisor_11 : decode cX0_commonDivisor 11 = .ok (.istore 5, 2) := by decide +kernel
theorem dX0_commonDivisor_13 : decode cX0_commonDivisor 13 = .ok (.iload 5, 2) := by decide +kernel
theorem dX0_commonDivisor_15 : decode cX0_commonDivisor 15 = .ok (.sipush 200, 3) := by decide +kernel
theorem dX0_commonDivisor_18 : decode cX0_commonDivisor 18 = .ok (.if_icmp .ge 25, 3) := by decide +kernel
theorem dX0_commonDivisor_21 : decode cX0_commonDivisor 21 = .ok (.lload_n 3, 1) := by decide +kernel
theorem dX0_commonDivisor_22 : decode cX0_commonDivisor 22 = .ok (.lconst 0, 1) := by decide +kernel
theorem dX0_commonDivisor_23 : decode cX0_commonDivisor 23 = .ok (.lcmp, 1) := by decide +kernel
theorem dX0_commonDivisor_24 : decode cX0_commonDivisor 24 = .ok (.ifCond .eq 19, 3) := by decide +kernel
theorem dX0_commonDivisor_27 : decode cX0_commonDivisor 27 = .ok (.lload_n 1, 1) := by decide +kernel
theorem dX0_commonDivisor_28 : decode cX0_commonDivisor 28 = .ok (.lload_n 3, 1) := by decide +kernel
theorem dX0_commonDivisor_29 : decode cX0_commonDivisor 29 = .ok (.lrem, 1) := by decide +kernel
theorem dX0_commonDivisor_30 : decode cX0_commonDivisor 30 = .ok (.lstore 6, 2) := by decide +kernel
theorem dX0_commonDivisor_32 : decode cX0_commonDivisor 32 = .ok (.lload_n 3, 1) := by decide +kernel
theorem dX0_commonDivisor_33 : decode cX0_commonDivisor 33 = .ok (.lstore_n 1, 1) := by decide +kernel
theorem dX0_commonDivisor_34 : decode cX0_commonDivisor 34 = .ok (.lload 6, 2) := by decide +kernel
theorem dX0_commonDivisor_36 : decode cX0_commonDivisor 36 = .ok (.lstore_n 3, 1) := by decide +kernel
theorem dX0_commonDivisor_37 : decode cX0_commonDivisor 37 = .ok (.iinc 5 1, 3) := by decide +kernel
theorem dX0_commonDivisor_40 : decode cX0_commonDivisor 40 = .ok (.goto (-27), 3) := by decide +kernel
theorem dX0_commonDivisor_43 : decode cX0_commonDivisor 43 = .ok (.lload_n 1, 1) := by decide +kernel
theorem dX0_commonDivisor_44 : decode cX0_commonDivisor 44 = .ok (.lreturn, 1) := by decide +kernel
theorem dX1_init_0 : decode cX1_init 0 = .ok (.aload_n 0, 1) := by decide +kernel
theorem dX1_init_1 : decode cX1_init 1 = .ok (.invokespecial 1, 3) := by decide +kernel
theorem dX1_init_4 : decode cX1_init 4 = .ok (.return_, 1) := by decide +kernel
theorem dX1_below_0 : decode cX1_below 0 = .ok (.aload_n 0, 1) := by decide +kernel
theorem dX1_below_1 : decode cX1_below 1 = .ok (.aload_n 0, 1) := by decide +kernel
theorem dX1_below_2 : decode cX1_below 2 = .ok (.getfield 7, 3) := by decide +kernel
theorem dX1_below_5 : decode cX1_below 5 = .ok (.ldc 13, 2) := by decide +kernel
theorem dX1_below_7 : decode cX1_below 7 = .ok (.imul, 1) := by decide +kernel
theorem dX1_below_8 : decode cX1_below 8 = .ok (.sipush 12345, 3) := by decide +kernel
theorem dX1_below_11 : decode cX1_below 11 = .ok (.iadd, 1) := by decide +kernel
theorem dX1_below_12 : decode cX1_below 12 = .ok (.putfield 7, 3) := by decide +kernel
theorem dX1_below_15 : decode cX1_below 15 = .ok (.iload_n 1, 1) := by decide +kernel
theorem dX1_below_16 : decode cX1_below 16 = .ok (.ifCond .le 15, 3) := by decide +kernel
theorem dX1_below_19 : decode cX1_below 19 = .ok (.aload_n 0, 1) := by decide +kernel
theorem dX1_below_20 : decode cX1_below 20 = .ok (.getfield 7, 3) := by decide +kernel
theorem dX1_below_23 : decode cX1_below 23 = .ok (.bipush 8, 2) := by decide +kernel
theorem dX1_below_25 : decode cX1_below 25 = .ok (.iushr, 1) := by decide +kernel
theorem dX1_below_26 : decode cX1_below 26 = .ok (.iload_n 1, 1) := by decide +kernel
theorem dX1_below_27 : decode cX1_below 27 = .ok (.irem, 1) := by decide +kernel
theorem dX1_below_28 : decode cX1_below 28 = .ok (.goto 4, 3) := by decide +kernel
theorem dX1_below_31 : decode cX1_below 31 = .ok (.iconst 0, 1) := by decide +kernel
theorem dX1_below_32 : decode cX1_below 32 = .ok (.ireturn, 1) := by decide +kernel
theorem dX2_init_0 : decode cX2_init 0 = .ok (.aload_n 0, 1) := by decide +kernel
theorem dX2_init_1 : decode cX2_init 1 = .ok (.invokespecial 1, 3) := by decide +kernel
theorem dX2_init_4 : decode cX2_init 4 = .ok (.aload_n 0, 1) := by decide +kernel
theorem dX2_init_5 : decode cX2_init 5 = .ok (.new 7, 3) := by decide +kernel
theorem dX2_init_8 : decode cX2_init 8 = .ok (.dup, 1) := by decide +kernel
theorem dX2_init_9 : decode cX2_init 9 = .ok (.invokespecial 9, 3) := by decide +kernel
theorem dX2_init_12 : decode cX2_init 12 = .ok (.putfield 10, 3) := by decide +kernel
theorem dX2_init_15 : decode cX2_init 15 = .ok (.return_, 1) := by decide +kernel
theorem dX3_init_0 : decode cX3_init 0 = .ok (.aload_n 0, 1) := by decide +kernel
theorem dX3_init_1 : decode cX3_init 1 = .ok (.invokespecial 3, 3) := by decide +kernel
theorem dX3_init_4 : decode cX3_init 4 = .ok (.aload_n 0, 1) := by decide +kernel
theorem dX3_init_5 : decode cX3_init 5 = .ok (.bipush 12, 2) := by decide +kernel
theorem dX3_init_7 : decode cX3_init 7 = .ok (.newarray .int, 2) := by decide +kernel
theorem dX3_init_9 : decode cX3_init 9 = .ok (.putfield 9, 3) := by decide +kernel
theorem dX3_init_12 : decode cX3_init 12 = .ok (.aload_n 0, 1) := by decide +kernel
theorem dX3_init_13 : decode cX3_init 13 = .ok (.sipush 144, 3) := by decide +kernel
theorem dX3_init_16 : decode cX3_init 16 = .ok (.newarray .int, 2) := by decide +kernel
theorem dX3_init_18 : decode cX3_init 18 = .ok (.putfield 15, 3) := by decide +kernel
theorem dX3_init_21 : decode cX3_init 21 = .ok (.return_, 1) := by decide +kernel
theorem dX3_empty_0 : decode cX3_empty 0 = .ok (.aload_n 0, 1) := by decide +kernel
theorem dX3_empty_1 : decode cX3_empty 1 = .ok (.iconst 0, 1) := by decide +kernel
theorem dX3_empty_2 : decode cX3_empty 2 = .ok (.putfield 18, 3) := by decide +kernel
theorem dX3_empty_5 : decode cX3_empty 5 = .ok (.aload_n 0, 1) := by decide +kernel
theorem dX3_empty_6 : decode cX3_empty 6 = .ok (.iconst 0, 1) := by decide +kernel
theorem dX3_empty_7 : decode cX3_empty 7 = .ok (.putfield 22, 3) := by decide +kernel
theorem dX3_empty_10 : decode cX3_empty 10 = .ok (.aload_n 0, 1) := by decide +kernel
theorem dX3_empty_11 : decode cX3_empty 11 = .ok (.iconst 0, 1) := by decide +kernel
theorem dX3_empty_12 : decode cX3_empty 12 = .ok (.putfield 25, 3) := by decide +kernel
theorem dX3_empty_15 : decode cX3_empty 15 = .ok (.aload_n 0, 1) := by decide +kernel
theorem dX3_empty_16 : decode cX3_empty 16 = .ok (.iconst 0, 1) := by decide +kernel
theorem dX3_empty_17 : decode cX3_empty 17 = .ok (.putfield 28, 3) := by decide +kernel
theorem dX3_empty_20 : decode cX3_empty 20 = .ok (.iconst 0, 1) := by decide +kernel
theorem dX3_empty_21 : decode cX3_empty 21 = .ok (.istore_n 1, 1) := by decide +kernel
theorem dX3_empty_22 : decode cX3_empty 22 = .ok (.iload_n 1, 1) := by decide +kernel
theorem dX3_empty_23 : decode cX3_empty 23 = .ok (.aload_n 0, 1) := by decide +kernel
theorem dX3_empty_24 : decode cX3_empty 24 = .ok (.getfield 15, 3) := by decide +kernel
theorem dX3_empty_27 : decode cX3_empty 27 = .ok (.arraylength, 1) := by decide +kernel
theorem dX3_empty_28 : decode cX3_empty 28 = .ok (.if_icmp .ge 16, 3) := by decide +kernel
theorem dX3_empty_31 : decode cX3_empty 31 = .ok (.aload_n 0, 1) := by decide +kernel
theorem dX3_empty_32 : decode cX3_empty 32 = .ok (.getfield 15, 3) := by decide +kernel
theorem dX3_empty_35 : decode cX3_empty 35 = .ok (.iload_n 1, 1) := by decide +kernel
theorem dX3_empty_36 : decode cX3_empty 36 = .ok (.iconst 0, 1) := by decide +kernel
theorem dX3_empty_37 : decode cX3_empty 37 = .ok (.iastore, 1) := by decide +kernel
theorem dX3_empty_38 : decode cX3_empty 38 = .ok (.iinc 1 1, 3) := by decide +kernel
theorem dX3_empty_41 : decode cX3_empty 41 = .ok (.goto (-19), 3) := by decide +kernel
theorem dX3_empty_44 : decode cX3_empty 44 = .ok (.return_, 1) := by decide +kernel
theorem dX3_copyFrom_0 : decode cX3_copyFrom 0 = .ok (.aload_n 0, 1) := by decide +kernel
theorem dX3_copyFrom_1 : decode cX3_copyFrom 1 = .ok (.aload_n 1, 1) := by decide +kernel
theorem dX3_copyFrom_2 : decode cX3_copyFrom 2 = .ok (.getfield 18, 3) := by decide +kernel
theorem dX3_copyFrom_5 : decode cX3_copyFrom 5 = .ok (.putfield 18, 3) := by decide +kernel
theorem dX3_copyFrom_8 : decode cX3_copyFrom 8 = .ok (.aload_n 0, 1) := by decide +kernel
theorem dX3_copyFrom_9 : decode cX3_copyFrom 9 = .ok (.aload_n 1, 1) := by decide +kernel
theorem dX3_copyFrom_10 : decode cX3_copyFrom 10 = .ok (.getfield 22, 3) := by decide +kernel
theorem dX3_copyFrom_13 : decode cX3_copyFrom 13 = .ok (.putfield 22, 3) := by decide +kernel
theorem dX3_copyFrom_16 : decode cX3_copyFrom 16 = .ok (.aload_n 0, 1) := by decide +kernel
theorem dX3_copyFrom_17 : decode cX3_copyFrom 17 = .ok (.aload_n 1, 1) := by decide +kernel
theorem dX3_copyFrom_18 : decode cX3_copyFrom 18 = .ok (.getfield 25, 3) := by decide +kernel
theorem dX3_copyFrom_21 : decode cX3_copyFrom 21 = .ok (.putfield 25, 3) := by decide +kernel
theorem dX3_copyFrom_24 : decode cX3_copyFrom 24 = .ok (.aload_n 0, 1) := by decide +kernel
theorem dX3_copyFrom_25 : decode cX3_copyFrom 25 = .ok (.aload_n 1, 1) := by decide +kernel
theorem dX3_copyFrom_26 : decode cX3_copyFrom 26 = .ok (.getfield 28, 3) := by decide +kernel
theorem dX3_copyFrom_29 : decode cX3_copyFrom 29 = .ok (.putfield 28, 3) := by decide +kernel
theorem dX3_copyFrom_32 : decode cX3_copyFrom 32 = .ok (.iconst 0, 1) := by decide +kernel
theorem dX3_copyFrom_33 : decode cX3_copyFrom 33 = .ok (.istore_n 2, 1) := by decide +kernel
theorem dX3_copyFrom_34 : decode cX3_copyFrom 34 = .ok (.iload_n 2, 1) := by decide +kernel
theorem dX3_copyFrom_35 : decode cX3_copyFrom 35 = .ok (.aload_n 0, 1) := by decide +kernel
theorem dX3_copyFrom_36 : decode cX3_copyFrom 36 = .ok (.getfield 9, 3) := by decide +kernel
theorem dX3_copyFrom_39 : decode cX3_copyFrom 39 = .ok (.arraylength, 1) := by decide +kernel
theorem dX3_copyFrom_40 : decode cX3_copyFrom 40 = .ok (.if_icmp .ge 30, 3) := by decide +kernel
theorem dX3_copyFrom_43 : decode cX3_copyFrom 43 = .ok (.iload_n 2, 1) := by decide +kernel
theorem dX3_copyFrom_44 : decode cX3_copyFrom 44 = .ok (.aload_n 1, 1) := by decide +kernel
theorem dX3_copyFrom_45 : decode cX3_copyFrom 45 = .ok (.getfield 9, 3) := by decide +kernel
theorem dX3_copyFrom_48 : decode cX3_copyFrom 48 = .ok (.arraylength, 1) := by decide +kernel
theorem dX3_copyFrom_49 : decode cX3_copyFrom 49 = .ok (.if_icmp .ge 21, 3) := by decide +kernel
theorem dX3_copyFrom_52 : decode cX3_copyFrom 52 = .ok (.aload_n 0, 1) := by decide +kernel
theorem dX3_copyFrom_53 : decode cX3_copyFrom 53 = .ok (.getfield 9, 3) := by decide +kernel
theorem dX3_copyFrom_56 : decode cX3_copyFrom 56 = .ok (.iload_n 2, 1) := by decide +kernel
theorem dX3_copyFrom_57 : decode cX3_copyFrom 57 = .ok (.aload_n 1, 1) := by decide +kernel
theorem dX3_copyFrom_58 : decode cX3_copyFrom 58 = .ok (.getfield 9, 3) := by decide +kernel
theorem dX3_copyFrom_61 : decode cX3_copyFrom 61 = .ok (.iload_n 2, 1) := by decide +kernel
theorem dX3_copyFrom_62 : decode cX3_copyFrom 62 = .ok (.iaload, 1) := by decide +kernel
theorem dX3_copyFrom_63 : decode cX3_copyFrom 63 = .ok (.iastore, 1) := by decide +kernel
theorem dX3_copyFrom_64 : decode cX3_copyFrom 64 = .ok (.iinc 2 1, 3) := by decide +kernel
theorem dX3_copyFrom_67 : decode cX3_copyFrom 67 = .ok (.goto (-33), 3) := by decide +kernel
theorem dX3_copyFrom_70 : decode cX3_copyFrom 70 = .ok (.iconst 0, 1) := by decide +kernel
theorem dX3_copyFrom_71 : decode cX3_copyFrom 71 = .ok (.istore_n 2, 1) := by decide +kernel
theorem dX3_copyFrom_72 : decode cX3_copyFrom 72 = .ok (.iload_n 2, 1) := by decide +kernel
theorem dX3_copyFrom_73 : decode cX3_copyFrom 73 = .ok (.aload_n 0, 1) := by decide +kernel
theorem dX3_copyFrom_74 : decode cX3_copyFrom 74 = .ok (.getfield 15, 3) := by decide +kernel
theorem dX3_copyFrom_77 : decode cX3_copyFrom 77 = .ok (.arraylength, 1) := by decide +kernel
theorem dX3_copyFrom_78 : decode cX3_copyFrom 78 = .ok (.if_icmp .ge 30, 3) := by decide +kernel
theorem dX3_copyFrom_81 : decode cX3_copyFrom 81 = .ok (.iload_n 2, 1) := by decide +kernel
theorem dX3_copyFrom_82 : decode cX3_copyFrom 82 = .ok (.aload_n 1, 1) := by decide +kernel
theorem dX3_copyFrom_83 : decode cX3_copyFrom 83 = .ok (.getfield 15, 3) := by decide +kernel
theorem dX3_copyFrom_86 : decode cX3_copyFrom 86 = .ok (.arraylength, 1) := by decide +kernel
theorem dX3_copyFrom_87 : decode cX3_copyFrom 87 = .ok (.if_icmp .ge 21, 3) := by decide +kernel
theorem dX3_copyFrom_90 : decode cX3_copyFrom 90 = .ok (.aload_n 0, 1) := by decide +kernel
theorem dX3_copyFrom_91 : decode cX3_copyFrom 91 = .ok (.getfield 15, 3) := by decide +kernel
theorem dX3_copyFrom_94 : decode cX3_copyFrom 94 = .ok (.iload_n 2, 1) := by decide +kernel
theorem dX3_copyFrom_95 : decode cX3_copyFrom 95 = .ok (.aload_n 1, 1) := by decide +kernel
theorem dX3_copyFrom_96 : decode cX3_copyFrom 96 = .ok (.getfield 15, 3) := by decide +kernel
theorem dX3_copyFrom_99 : decode cX3_copyFrom 99 = .ok (.iload_n 2, 1) := by decide +kernel
theorem dX3_copyFrom_100 : decode cX3_copyFrom 100 = .ok (.iaload, 1) := by decide +kernel
theorem dX3_copyFrom_101 : decode cX3_copyFrom 101 = .ok (.iastore, 1) := by decide +kernel
theorem dX3_copyFrom_102 : decode cX3_copyFrom 102 = .ok (.iinc 2 1, 3) := by decide +kernel
theorem dX3_copyFrom_105 : decode cX3_copyFrom 105 = .ok (.goto (-33), 3) := by decide +kernel
theorem dX3_copyFrom_108 : decode cX3_copyFrom 108 = .ok (.return_, 1) := by decide +kernel
theorem dX3_holds_0 : decode cX3_holds 0 = .ok (.iload_n 1, 1) := by decide +kernel
theorem dX3_holds_1 : decode cX3_holds 1 = .ok (.ifCond .lt 21, 3) := by decide +kernel
theorem dX3_holds_4 : decode cX3_holds 4 = .ok (.iload_n 1, 1) := by decide +kernel
theorem dX3_holds_5 : decode cX3_holds 5 = .ok (.bipush 12, 2) := by decide +kernel
theorem dX3_holds_7 : decode cX3_holds 7 = .ok (.if_icmp .ge 15, 3) := by decide +kernel
theorem dX3_holds_10 : decode cX3_holds 10 = .ok (.iload_n 0, 1) := by decide +kernel
theorem dX3_holds_11 : decode cX3_holds 11 = .ok (.iload_n 1, 1) := by decide +kernel
theorem dX3_holds_12 : decode cX3_holds 12 = .ok (.ishr, 1) := by decide +kernel
theorem dX3_holds_13 : decode cX3_holds 13 = .ok (.iconst 1, 1) := by decide +kernel
theorem dX3_holds_14 : decode cX3_holds 14 = .ok (.iand, 1) := by decide +kernel
theorem dX3_holds_15 : decode cX3_holds 15 = .ok (.ifCond .eq 7, 3) := by decide +kernel
theorem dX3_holds_18 : decode cX3_holds 18 = .ok (.iconst 1, 1) := by decide +kernel
theorem dX3_holds_19 : decode cX3_holds 19 = .ok (.goto 4, 3) := by decide +kernel
theorem dX3_holds_22 : decode cX3_holds 22 = .ok (.iconst 0, 1) := by decide +kernel
theorem dX3_holds_23 : decode cX3_holds 23 = .ok (.ireturn, 1) := by decide +kernel
theorem dX3_isThere_0 : decode cX3_isThere 0 = .ok (.aload_n 0, 1) := by decide +kernel
theorem dX3_isThere_1 : decode cX3_isThere 1 = .ok (.getfield 22, 3) := by decide +kernel
theorem dX3_isThere_4 : decode cX3_isThere 4 = .ok (.iload_n 1, 1) := by decide +kernel
theorem dX3_isThere_5 : decode cX3_isThere 5 = .ok (.invokestatic 31, 3) := by decide +kernel
theorem dX3_isThere_8 : decode cX3_isThere 8 = .ok (.ireturn, 1) := by decide +kernel
theorem dX3_areThere_0 : decode cX3_areThere 0 = .ok (.iload_n 1, 1) := by decide +kernel
theorem dX3_areThere_1 : decode cX3_areThere 1 = .ok (.aload_n 0, 1) := by decide +kernel
theorem dX3_areThere_2 : decode cX3_areThere 2 = .ok (.getfield 22, 3) := by decide +kernel
theorem dX3_areThere_5 : decode cX3_areThere 5 = .ok (.iconst (-1), 1) := by decide +kernel
theorem dX3_areThere_6 : decode cX3_areThere 6 = .ok (.ixor, 1) := by decide +kernel
theorem dX3_areThere_7 : decode cX3_areThere 7 = .ok (.iand, 1) := by decide +kernel
theorem dX3_areThere_8 : decode cX3_areThere 8 = .ok (.ifCond .ne 7, 3) := by decide +kernel
theorem dX3_areThere_11 : decode cX3_areThere 11 = .ok (.iconst 1, 1) := by decide +kernel
theorem dX3_areThere_12 : decode cX3_areThere 12 = .ok (.goto 4, 3) := by decide +kernel
theorem dX3_areThere_15 : decode cX3_areThere 15 = .ok (.iconst 0, 1) := by decide +kernel
theorem dX3_areThere_16 : decode cX3_areThere 16 = .ok (.ireturn, 1) := by decide +kernel
theorem dX3_addPoint_0 : decode cX3_addPoint 0 = .ok (.aload_n 0, 1) := by decide +kernel
theorem dX3_addPoint_1 : decode cX3_addPoint 1 = .ok (.getfield 18, 3) := by decide +kernel
theorem dX3_addPoint_4 : decode cX3_addPoint 4 = .ok (.ifCond .lt 50, 3) := by decide +kernel
theorem dX3_addPoint_7 : decode cX3_addPoint 7 = .ok (.aload_n 0, 1) := by decide +kernel
theorem dX3_addPoint_8 : decode cX3_addPoint 8 = .ok (.getfield 18, 3) := by decide +kernel
theorem dX3_addPoint_11 : decode cX3_addPoint 11 = .ok (.aload_n 0, 1) := by decide +kernel
theorem dX3_addPoint_12 : decode cX3_addPoint 12 = .ok (.getfield 9, 3) := by decide +kernel
theorem dX3_addPoint_15 : decode cX3_addPoint 15 = .ok (.arraylength, 1) := by decide +kernel
theorem dX3_addPoint_16 : decode cX3_addPoint 16 = .ok (.if_icmp .ge 38, 3) := by decide +kernel
theorem dX3_addPoint_19 : decode cX3_addPoint 19 = .ok (.aload_n 0, 1) := by decide +kernel
theorem dX3_addPoint_20 : decode cX3_addPoint 20 = .ok (.getfield 9, 3) := by decide +kernel
theorem dX3_addPoint_23 : decode cX3_addPoint 23 = .ok (.aload_n 0, 1) := by decide +kernel
theorem dX3_addPoint_24 : decode cX3_addPoint 24 = .ok (.getfield 18, 3) := by decide +kernel
theorem dX3_addPoint_27 : decode cX3_addPoint 27 = .ok (.iconst 1, 1) := by decide +kernel
theorem dX3_addPoint_28 : decode cX3_addPoint 28 = .ok (.iastore, 1) := by decide +kernel
theorem dX3_addPoint_29 : decode cX3_addPoint 29 = .ok (.aload_n 0, 1) := by decide +kernel
theorem dX3_addPoint_30 : decode cX3_addPoint 30 = .ok (.dup, 1) := by decide +kernel
theorem dX3_addPoint_31 : decode cX3_addPoint 31 = .ok (.getfield 22, 3) := by decide +kernel
theorem dX3_addPoint_34 : decode cX3_addPoint 34 = .ok (.iconst 1, 1) := by decide +kernel
theorem dX3_addPoint_35 : decode cX3_addPoint 35 = .ok (.aload_n 0, 1) := by decide +kernel
theorem dX3_addPoint_36 : decode cX3_addPoint 36 = .ok (.getfield 18, 3) := by decide +kernel
theorem dX3_addPoint_39 : decode cX3_addPoint 39 = .ok (.ishl, 1) := by decide +kernel
theorem dX3_addPoint_40 : decode cX3_addPoint 40 = .ok (.ior, 1) := by decide +kernel
theorem dX3_addPoint_41 : decode cX3_addPoint 41 = .ok (.putfield 22, 3) := by decide +kernel
theorem dX3_addPoint_44 : decode cX3_addPoint 44 = .ok (.aload_n 0, 1) := by decide +kernel
theorem dX3_addPoint_45 : decode cX3_addPoint 45 = .ok (.dup, 1) := by decide +kernel
theorem dX3_addPoint_46 : decode cX3_addPoint 46 = .ok (.getfield 18, 3) := by decide +kernel
theorem dX3_addPoint_49 : decode cX3_addPoint 49 = .ok (.iconst 1, 1) := by decide +kernel
theorem dX3_addPoint_50 : decode cX3_addPoint 50 = .ok (.iadd, 1) := by decide +kernel
theorem dX3_addPoint_51 : decode cX3_addPoint 51 = .ok (.putfield 18, 3) := by decide +kernel
theorem dX3_addPoint_54 : decode cX3_addPoint 54 = .ok (.return_, 1) := by decide +kernel
theorem dX3_weightOf_0 : decode cX3_weightOf 0 = .ok (.iload_n 1, 1) := by decide +kernel
theorem dX3_weightOf_1 : decode cX3_weightOf 1 = .ok (.ifCond .lt 21, 3) := by decide +kernel
theorem dX3_weightOf_4 : decode cX3_weightOf 4 = .ok (.iload_n 1, 1) := by decide +kernel
theorem dX3_weightOf_5 : decode cX3_weightOf 5 = .ok (.aload_n 0, 1) := by decide +kernel
theorem dX3_weightOf_6 : decode cX3_weightOf 6 = .ok (.getfield 9, 3) := by decide +kernel
theorem dX3_weightOf_9 : decode cX3_weightOf 9 = .ok (.arraylength, 1) := by decide +kernel
theorem dX3_weightOf_10 : decode cX3_weightOf 10 = .ok (.if_icmp .ge 12, 3) := by decide +kernel
theorem dX3_weightOf_13 : decode cX3_weightOf 13 = .ok (.aload_n 0, 1) := by decide +kernel
theorem dX3_weightOf_14 : decode cX3_weightOf 14 = .ok (.getfield 9, 3) := by decide +kernel
theorem dX3_weightOf_17 : decode cX3_weightOf 17 = .ok (.iload_n 1, 1) := by decide +kernel
theorem dX3_weightOf_18 : decode cX3_weightOf 18 = .ok (.iaload, 1) := by decide +kernel
theorem dX3_weightOf_19 : decode cX3_weightOf 19 = .ok (.goto 4, 3) := by decide +kernel
theorem dX3_weightOf_22 : decode cX3_weightOf 22 = .ok (.iconst 0, 1) := by decide +kernel
theorem dX3_weightOf_23 : decode cX3_weightOf 23 = .ok (.ireturn, 1) := by decide +kernel
theorem dX3_weightOfSet_0 : decode cX3_weightOfSet 0 = .ok (.iconst 0, 1) := by decide +kernel
theorem dX3_weightOfSet_1 : decode cX3_weightOfSet 1 = .ok (.istore_n 2, 1) := by decide +kernel
theorem dX3_weightOfSet_2 : decode cX3_weightOfSet 2 = .ok (.iconst 0, 1) := by decide +kernel
theorem dX3_weightOfSet_3 : decode cX3_weightOfSet 3 = .ok (.istore_n 3, 1) := by decide +kernel
theorem dX3_weightOfSet_4 : decode cX3_weightOfSet 4 = .ok (.iload_n 3, 1) := by decide +kernel
theorem dX3_weightOfSet_5 : decode cX3_weightOfSet 5 = .ok (.bipush 12, 2) := by decide +kernel
theorem dX3_weightOfSet_7 : decode cX3_weightOfSet 7 = .ok (.if_icmp .ge 25, 3) := by decide +kernel
theorem dX3_weightOfSet_10 : decode cX3_weightOfSet 10 = .ok (.iload_n 1, 1) := by decide +kernel
theorem dX3_weightOfSet_11 : decode cX3_weightOfSet 11 = .ok (.iload_n 3, 1) := by decide +kernel
theorem dX3_weightOfSet_12 : decode cX3_weightOfSet 12 = .ok (.invokestatic 31, 3) := by decide +kernel
theorem dX3_weightOfSet_15 : decode cX3_weightOfSet 15 = .ok (.ifCond .eq 11, 3) := by decide +kernel
theorem dX3_weightOfSet_18 : decode cX3_weightOfSet 18 = .ok (.iload_n 2, 1) := by decide +kernel
theorem dX3_weightOfSet_19 : decode cX3_weightOfSet 19 = .ok (.aload_n 0, 1) := by decide +kernel
theorem dX3_weightOfSet_20 : decode cX3_weightOfSet 20 = .ok (.iload_n 3, 1) := by decide +kernel
theorem dX3_weightOfSet_21 : decode cX3_weightOfSet 21 = .ok (.invokevirtual 35, 3) := by decide +kernel
theorem dX3_weightOfSet_24 : decode cX3_weightOfSet 24 = .ok (.iadd, 1) := by decide +kernel
theorem dX3_weightOfSet_25 : decode cX3_weightOfSet 25 = .ok (.istore_n 2, 1) := by decide +kernel
theorem dX3_weightOfSet_26 : decode cX3_weightOfSet 26 = .ok (.iinc 3 1, 3) := by decide +kernel
theorem dX3_weightOfSet_29 : decode cX3_weightOfSet 29 = .ok (.goto (-25), 3) := by decide +kernel
theorem dX3_weightOfSet_32 : decode cX3_weightOfSet 32 = .ok (.iload_n 2, 1) := by decide +kernel
theorem dX3_weightOfSet_33 : decode cX3_weightOfSet 33 = .ok (.ireturn, 1) := by decide +kernel
theorem dX3_linesOf_0 : decode cX3_linesOf 0 = .ok (.iload_n 1, 1) := by decide +kernel
theorem dX3_linesOf_1 : decode cX3_linesOf 1 = .ok (.bipush 12, 2) := by decide +kernel
theorem dX3_linesOf_3 : decode cX3_linesOf 3 = .ok (.imul, 1) := by decide +kernel
theorem dX3_linesOf_4 : decode cX3_linesOf 4 = .ok (.iload_n 2, 1) := by decide +kernel
theorem dX3_linesOf_5 : decode cX3_linesOf 5 = .ok (.iadd, 1) := by decide +kernel
theorem dX3_linesOf_6 : decode cX3_linesOf 6 = .ok (.istore_n 3, 1) := by decide +kernel
theorem dX3_linesOf_7 : decode cX3_linesOf 7 = .ok (.iload_n 1, 1) := by decide +kernel
theorem dX3_linesOf_8 : decode cX3_linesOf 8 = .ok (.ifCond .lt 37, 3) := by decide +kernel
theorem dX3_linesOf_11 : decode cX3_linesOf 11 = .ok (.iload_n 1, 1) := by decide +kernel
theorem dX3_linesOf_12 : decode cX3_linesOf 12 = .ok (.bipush 12, 2) := by decide +kernel
theorem dX3_linesOf_14 : decode cX3_linesOf 14 = .ok (.if_icmp .ge 31, 3) := by decide +kernel
theorem dX3_linesOf_17 : decode cX3_linesOf 17 = .ok (.iload_n 2, 1) := by decide +kernel
theorem dX3_linesOf_18 : decode cX3_linesOf 18 = .ok (.ifCond .lt 27, 3) := by decide +kernel
theorem dX3_linesOf_21 : decode cX3_linesOf 21 = .ok (.iload_n 2, 1) := by decide +kernel
theorem dX3_linesOf_22 : decode cX3_linesOf 22 = .ok (.bipush 12, 2) := by decide +kernel
theorem dX3_linesOf_24 : decode cX3_linesOf 24 = .ok (.if_icmp .ge 21, 3) := by decide +kernel
theorem dX3_linesOf_27 : decode cX3_linesOf 27 = .ok (.iload_n 3, 1) := by decide +kernel
theorem dX3_linesOf_28 : decode cX3_linesOf 28 = .ok (.aload_n 0, 1) := by decide +kernel
theorem dX3_linesOf_29 : decode cX3_linesOf 29 = .ok (.getfield 15, 3) := by decide +kernel
theorem dX3_linesOf_32 : decode cX3_linesOf 32 = .ok (.arraylength, 1) := by decide +kernel
theorem dX3_linesOf_33 : decode cX3_linesOf 33 = .ok (.if_icmp .ge 12, 3) := by decide +kernel
theorem dX3_linesOf_36 : decode cX3_linesOf 36 = .ok (.aload_n 0, 1) := by decide +kernel
theorem dX3_linesOf_37 : decode cX3_linesOf 37 = .ok (.getfield 15, 3) := by decide +kernel
theorem dX3_linesOf_40 : decode cX3_linesOf 40 = .ok (.iload_n 3, 1) := by decide +kernel
theorem dX3_linesOf_41 : decode cX3_linesOf 41 = .ok (.iaload, 1) := by decide +kernel
theorem dX3_linesOf_42 : decode cX3_linesOf 42 = .ok (.goto 4, 3) := by decide +kernel
theorem dX3_linesOf_45 : decode cX3_linesOf 45 = .ok (.iconst 0, 1) := by decide +kernel
theorem dX3_linesOf_46 : decode cX3_linesOf 46 = .ok (.ireturn, 1) := by decide +kernel
theorem dX3_setLines_0 : decode cX3_setLines 0 = .ok (.iload_n 1, 1) := by decide +kernel
theorem dX3_setLines_1 : decode cX3_setLines 1 = .ok (.bipush 12, 2) := by decide +kernel
theorem dX3_setLines_3 : decode cX3_setLines 3 = .ok (.imul, 1) := by decide +kernel
theorem dX3_setLines_4 : decode cX3_setLines 4 = .ok (.iload_n 2, 1) := by decide +kernel
theorem dX3_setLines_5 : decode cX3_setLines 5 = .ok (.iadd, 1) := by decide +kernel
theorem dX3_setLines_6 : decode cX3_setLines 6 = .ok (.istore 4, 2) := by decide +kernel
theorem dX3_setLines_8 : decode cX3_setLines 8 = .ok (.iload_n 2, 1) := by decide +kernel
theorem dX3_setLines_9 : decode cX3_setLines 9 = .ok (.bipush 12, 2) := by decide +kernel
theorem dX3_setLines_11 : decode cX3_setLines 11 = .ok (.imul, 1) := by decide +kernel
theorem dX3_setLines_12 : decode cX3_setLines 12 = .ok (.iload_n 1, 1) := by decide +kernel
theorem dX3_setLines_13 : decode cX3_setLines 13 = .ok (.iadd, 1) := by decide +kernel
theorem dX3_setLines_14 : decode cX3_setLines 14 = .ok (.istore 5, 2) := by decide +kernel
theorem dX3_setLines_16 : decode cX3_setLines 16 = .ok (.aload_n 0, 1) := by decide +kernel
theorem dX3_setLines_17 : decode cX3_setLines 17 = .ok (.getfield 22, 3) := by decide +kernel
theorem dX3_setLines_20 : decode cX3_setLines 20 = .ok (.iload_n 1, 1) := by decide +kernel
theorem dX3_setLines_21 : decode cX3_setLines 21 = .ok (.invokestatic 31, 3) := by decide +kernel
theorem dX3_setLines_24 : decode cX3_setLines 24 = .ok (.ifCond .eq 68, 3) := by decide +kernel
theorem dX3_setLines_27 : decode cX3_setLines 27 = .ok (.aload_n 0, 1) := by decide +kernel
theorem dX3_setLines_28 : decode cX3_setLines 28 = .ok (.getfield 22, 3) := by decide +kernel
theorem dX3_setLines_31 : decode cX3_setLines 31 = .ok (.iload_n 2, 1) := by decide +kernel
theorem dX3_setLines_32 : decode cX3_setLines 32 = .ok (.invokestatic 31, 3) := by decide +kernel
theorem dX3_setLines_35 : decode cX3_setLines 35 = .ok (.ifCond .eq 57, 3) := by decide +kernel
theorem dX3_setLines_38 : decode cX3_setLines 38 = .ok (.iload 4, 2) := by decide +kernel
theorem dX3_setLines_40 : decode cX3_setLines 40 = .ok (.aload_n 0, 1) := by decide +kernel
theorem dX3_setLines_41 : decode cX3_setLines 41 = .ok (.getfield 15, 3) := by decide +kernel
theorem dX3_setLines_44 : decode cX3_setLines 44 = .ok (.arraylength, 1) := by decide +kernel
theorem dX3_setLines_45 : decode cX3_setLines 45 = .ok (.if_icmp .ge 47, 3) := by decide +kernel
theorem dX3_setLines_48 : decode cX3_setLines 48 = .ok (.iload 5, 2) := by decide +kernel
theorem dX3_setLines_50 : decode cX3_setLines 50 = .ok (.aload_n 0, 1) := by decide +kernel
theorem dX3_setLines_51 : decode cX3_setLines 51 = .ok (.getfield 15, 3) := by decide +kernel
theorem dX3_setLines_54 : decode cX3_setLines 54 = .ok (.arraylength, 1) := by decide +kernel
theorem dX3_setLines_55 : decode cX3_setLines 55 = .ok (.if_icmp .ge 37, 3) := by decide +kernel
theorem dX3_setLines_58 : decode cX3_setLines 58 = .ok (.aload_n 0, 1) := by decide +kernel
theorem dX3_setLines_59 : decode cX3_setLines 59 = .ok (.dup, 1) := by decide +kernel
theorem dX3_setLines_60 : decode cX3_setLines 60 = .ok (.getfield 28, 3) := by decide +kernel
theorem dX3_setLines_63 : decode cX3_setLines 63 = .ok (.iload_n 3, 1) := by decide +kernel
theorem dX3_setLines_64 : decode cX3_setLines 64 = .ok (.aload_n 0, 1) := by decide +kernel
theorem dX3_setLines_65 : decode cX3_setLines 65 = .ok (.getfield 15, 3) := by decide +kernel
theorem dX3_setLines_68 : decode cX3_setLines 68 = .ok (.iload 4, 2) := by decide +kernel
theorem dX3_setLines_70 : decode cX3_setLines 70 = .ok (.iaload, 1) := by decide +kernel
theorem dX3_setLines_71 : decode cX3_setLines 71 = .ok (.isub, 1) := by decide +kernel
theorem dX3_setLines_72 : decode cX3_setLines 72 = .ok (.iadd, 1) := by decide +kernel
theorem dX3_setLines_73 : decode cX3_setLines 73 = .ok (.putfield 28, 3) := by decide +kernel
theorem dX3_setLines_76 : decode cX3_setLines 76 = .ok (.aload_n 0, 1) := by decide +kernel
theorem dX3_setLines_77 : decode cX3_setLines 77 = .ok (.getfield 15, 3) := by decide +kernel
theorem dX3_setLines_80 : decode cX3_setLines 80 = .ok (.iload 4, 2) := by decide +kernel
theorem dX3_setLines_82 : decode cX3_setLines 82 = .ok (.iload_n 3, 1) := by decide +kernel
theorem dX3_setLines_83 : decode cX3_setLines 83 = .ok (.iastore, 1) := by decide +kernel
theorem dX3_setLines_84 : decode cX3_setLines 84 = .ok (.aload_n 0, 1) := by decide +kernel
theorem dX3_setLines_85 : decode cX3_setLines 85 = .ok (.getfield 15, 3) := by decide +kernel
theorem dX3_setLines_88 : decode cX3_setLines 88 = .ok (.iload 5, 2) := by decide +kernel
theorem dX3_setLines_90 : decode cX3_setLines 90 = .ok (.iload_n 3, 1) := by decide +kernel
theorem dX3_setLines_91 : decode cX3_setLines 91 = .ok (.iastore, 1) := by decide +kernel
theorem dX3_setLines_92 : decode cX3_setLines 92 = .ok (.return_, 1) := by decide +kernel
theorem dX3_besides_0 : decode cX3_besides 0 = .ok (.iconst 0, 1) := by decide +kernel
theorem dX3_besides_1 : decode cX3_besides 1 = .ok (.istore_n 3, 1) := by decide +kernel
theorem dX3_besides_2 : decode cX3_besides 2 = .ok (.iconst 0, 1) := by decide +kernel
theorem dX3_besides_3 : decode cX3_besides 3 = .ok (.istore 4, 2) := by decide +kernel
theorem dX3_besides_5 : decode cX3_besides 5 = .ok (.iload 4, 2) := by decide +kernel
theorem dX3_besides_7 : decode cX3_besides 7 = .ok (.bipush 12, 2) := by decide +kernel
theorem dX3_besides_9 : decode cX3_besides 9 = .ok (.if_icmp .ge 33, 3) := by decide +kernel
theorem dX3_besides_12 : decode cX3_besides 12 = .ok (.iload 4, 2) := by decide +kernel
theorem dX3_besides_14 : decode cX3_besides 14 = .ok (.iload_n 1, 1) := by decide +kernel
theorem dX3_besides_15 : decode cX3_besides 15 = .ok (.if_icmp .eq 21, 3) := by decide +kernel
theorem dX3_besides_18 : decode cX3_besides 18 = .ok (.aload_n 0, 1) := by decide +kernel
theorem dX3_besides_19 : decode cX3_besides 19 = .ok (.iload_n 1, 1) := by decide +kernel
theorem dX3_besides_20 : decode cX3_besides 20 = .ok (.iload 4, 2) := by decide +kernel
theorem dX3_besides_22 : decode cX3_besides 22 = .ok (.invokevirtual 39, 3) := by decide +kernel
theorem dX3_besides_25 : decode cX3_besides 25 = .ok (.iload_n 2, 1) := by decide +kernel
theorem dX3_besides_26 : decode cX3_besides 26 = .ok (.if_icmp .lt 10, 3) := by decide +kernel
theorem dX3_besides_29 : decode cX3_besides 29 = .ok (.iload_n 3, 1) := by decide +kernel
theorem dX3_besides_30 : decode cX3_besides 30 = .ok (.iconst 1, 1) := by decide +kernel
theorem dX3_besides_31 : decode cX3_besides 31 = .ok (.iload 4, 2) := by decide +kernel
theorem dX3_besides_33 : decode cX3_besides 33 = .ok (.ishl, 1) := by decide +kernel
theorem dX3_besides_34 : decode cX3_besides 34 = .ok (.ior, 1) := by decide +kernel
theorem dX3_besides_35 : decode cX3_besides 35 = .ok (.istore_n 3, 1) := by decide +kernel
theorem dX3_besides_36 : decode cX3_besides 36 = .ok (.iinc 4 1, 3) := by decide +kernel
theorem dX3_besides_39 : decode cX3_besides 39 = .ok (.goto (-34), 3) := by decide +kernel
theorem dX3_besides_42 : decode cX3_besides 42 = .ok (.iload_n 3, 1) := by decide +kernel
theorem dX3_besides_43 : decode cX3_besides 43 = .ok (.ireturn, 1) := by decide +kernel
theorem dX3_endsIn_0 : decode cX3_endsIn 0 = .ok (.aload_n 0, 1) := by decide +kernel
theorem dX3_endsIn_1 : decode cX3_endsIn 1 = .ok (.iload_n 1, 1) := by decide +kernel
theorem dX3_endsIn_2 : decode cX3_endsIn 2 = .ok (.iload_n 1, 1) := by decide +kernel
theorem dX3_endsIn_3 : decode cX3_endsIn 3 = .ok (.invokevirtual 39, 3) := by decide +kernel
theorem dX3_endsIn_6 : decode cX3_endsIn 6 = .ok (.istore_n 3, 1) := by decide +kernel
theorem dX3_endsIn_7 : decode cX3_endsIn 7 = .ok (.iconst 0, 1) := by decide +kernel
theorem dX3_endsIn_8 : decode cX3_endsIn 8 = .ok (.istore 4, 2) := by decide +kernel
theorem dX3_endsIn_10 : decode cX3_endsIn 10 = .ok (.iload 4, 2) := by decide +kernel
theorem dX3_endsIn_12 : decode cX3_endsIn 12 = .ok (.bipush 12, 2) := by decide +kernel
theorem dX3_endsIn_14 : decode cX3_endsIn 14 = .ok (.if_icmp .ge 28, 3) := by decide +kernel
theorem dX3_endsIn_17 : decode cX3_endsIn 17 = .ok (.iload_n 2, 1) := by decide +kernel
theorem dX3_endsIn_18 : decode cX3_endsIn 18 = .ok (.iload 4, 2) := by decide +kernel
theorem dX3_endsIn_20 : decode cX3_endsIn 20 = .ok (.invokestatic 31, 3) := by decide +kernel
theorem dX3_endsIn_23 : decode cX3_endsIn 23 = .ok (.ifCond .eq 13, 3) := by decide +kernel
theorem dX3_endsIn_26 : decode cX3_endsIn 26 = .ok (.iload_n 3, 1) := by decide +kernel
theorem dX3_endsIn_27 : decode cX3_endsIn 27 = .ok (.aload_n 0, 1) := by decide +kernel
theorem dX3_endsIn_28 : decode cX3_endsIn 28 = .ok (.iload_n 1, 1) := by decide +kernel
theorem dX3_endsIn_29 : decode cX3_endsIn 29 = .ok (.iload 4, 2) := by decide +kernel
theorem dX3_endsIn_31 : decode cX3_endsIn 31 = .ok (.invokevirtual 39, 3) := by decide +kernel
theorem dX3_endsIn_34 : decode cX3_endsIn 34 = .ok (.iadd, 1) := by decide +kernel
theorem dX3_endsIn_35 : decode cX3_endsIn 35 = .ok (.istore_n 3, 1) := by decide +kernel
theorem dX3_endsIn_36 : decode cX3_endsIn 36 = .ok (.iinc 4 1, 3) := by decide +kernel
theorem dX3_endsIn_39 : decode cX3_endsIn 39 = .ok (.goto (-29), 3) := by decide +kernel
theorem dX3_endsIn_42 : decode cX3_endsIn 42 = .ok (.iload_n 3, 1) := by decide +kernel
theorem dX3_endsIn_43 : decode cX3_endsIn 43 = .ok (.ireturn, 1) := by decide +kernel
theorem dX3_linesIn_0 : decode cX3_linesIn 0 = .ok (.iconst 0, 1) := by decide +kernel
theorem dX3_linesIn_1 : decode cX3_linesIn 1 = .ok (.istore_n 2, 1) := by decide +kernel
theorem dX3_linesIn_2 : decode cX3_linesIn 2 = .ok (.iconst 0, 1) := by decide +kernel
theorem dX3_linesIn_3 : decode cX3_linesIn 3 = .ok (.istore_n 3, 1) := by decide +kernel
theorem dX3_linesIn_4 : decode cX3_linesIn 4 = .ok (.iload_n 3, 1) := by decide +kernel
theorem dX3_linesIn_5 : decode cX3_linesIn 5 = .ok (.bipush 12, 2) := by decide +kernel
theorem dX3_linesIn_7 : decode cX3_linesIn 7 = .ok (.if_icmp .ge 26, 3) := by decide +kernel
theorem dX3_linesIn_10 : decode cX3_linesIn 10 = .ok (.iload_n 1, 1) := by decide +kernel
theorem dX3_linesIn_11 : decode cX3_linesIn 11 = .ok (.iload_n 3, 1) := by decide +kernel
theorem dX3_linesIn_12 : decode cX3_linesIn 12 = .ok (.invokestatic 31, 3) := by decide +kernel
theorem dX3_linesIn_15 : decode cX3_linesIn 15 = .ok (.ifCond .eq 12, 3) := by decide +kernel
theorem dX3_linesIn_18 : decode cX3_linesIn 18 = .ok (.iload_n 2, 1) := by decide +kernel
theorem dX3_linesIn_19 : decode cX3_linesIn 19 = .ok (.aload_n 0, 1) := by decide +kernel
theorem dX3_linesIn_20 : decode cX3_linesIn 20 = .ok (.iload_n 3, 1) := by decide +kernel
theorem dX3_linesIn_21 : decode cX3_linesIn 21 = .ok (.iload_n 1, 1) := by decide +kernel
theorem dX3_linesIn_22 : decode cX3_linesIn 22 = .ok (.invokevirtual 43, 3) := by decide +kernel
theorem dX3_linesIn_25 : decode cX3_linesIn 25 = .ok (.iadd, 1) := by decide +kernel
theorem dX3_linesIn_26 : decode cX3_linesIn 26 = .ok (.istore_n 2, 1) := by decide +kernel
theorem dX3_linesIn_27 : decode cX3_linesIn 27 = .ok (.iinc 3 1, 3) := by decide +kernel
theorem dX3_linesIn_30 : decode cX3_linesIn 30 = .ok (.goto (-26), 3) := by decide +kernel
theorem dX3_linesIn_33 : decode cX3_linesIn 33 = .ok (.iload_n 2, 1) := by decide +kernel
theorem dX3_linesIn_34 : decode cX3_linesIn 34 = .ok (.iconst 2, 1) := by decide +kernel
theorem dX3_linesIn_35 : decode cX3_linesIn 35 = .ok (.idiv, 1) := by decide +kernel
theorem dX3_linesIn_36 : decode cX3_linesIn 36 = .ok (.ireturn, 1) := by decide +kernel
theorem dX3_partsIn_0 : decode cX3_partsIn 0 = .ok (.iload_n 1, 1) := by decide +kernel
theorem dX3_partsIn_1 : decode cX3_partsIn 1 = .ok (.istore_n 2, 1) := by decide +kernel
theorem dX3_partsIn_2 : decode cX3_partsIn 2 = .ok (.iconst 0, 1) := by decide +kernel
theorem dX3_partsIn_3 : decode cX3_partsIn 3 = .ok (.istore_n 3, 1) := by decide +kernel
theorem dX3_partsIn_4 : decode cX3_partsIn 4 = .ok (.iconst 0, 1) := by decide +kernel
theorem dX3_partsIn_5 : decode cX3_partsIn 5 = .ok (.istore 4, 2) := by decide +kernel
theorem dX3_partsIn_7 : decode cX3_partsIn 7 = .ok (.iload 4, 2) := by decide +kernel
theorem dX3_partsIn_9 : decode cX3_partsIn 9 = .ok (.bipush 12, 2) := by decide +kernel
theorem dX3_partsIn_11 : decode cX3_partsIn 11 = .ok (.if_icmp .ge 33, 3) := by decide +kernel
theorem dX3_partsIn_14 : decode cX3_partsIn 14 = .ok (.iload_n 2, 1) := by decide +kernel
theorem dX3_partsIn_15 : decode cX3_partsIn 15 = .ok (.iload 4, 2) := by decide +kernel
theorem dX3_partsIn_17 : decode cX3_partsIn 17 = .ok (.invokestatic 31, 3) := by decide +kernel
theorem dX3_partsIn_20 : decode cX3_partsIn 20 = .ok (.ifCond .eq 18, 3) := by decide +kernel
theorem dX3_partsIn_23 : decode cX3_partsIn 23 = .ok (.iinc 3 1, 3) := by decide +kernel
theorem dX3_partsIn_26 : decode cX3_partsIn 26 = .ok (.iload_n 2, 1) := by decide +kernel
theorem dX3_partsIn_27 : decode cX3_partsIn 27 = .ok (.aload_n 0, 1) := by decide +kernel
theorem dX3_partsIn_28 : decode cX3_partsIn 28 = .ok (.iload 4, 2) := by decide +kernel
theorem dX3_partsIn_30 : decode cX3_partsIn 30 = .ok (.iload_n 2, 1) := by decide +kernel
theorem dX3_partsIn_31 : decode cX3_partsIn 31 = .ok (.invokevirtual 46, 3) := by decide +kernel
theorem dX3_partsIn_34 : decode cX3_partsIn 34 = .ok (.iconst (-1), 1) := by decide +kernel
theorem dX3_partsIn_35 : decode cX3_partsIn 35 = .ok (.ixor, 1) := by decide +kernel
theorem dX3_partsIn_36 : decode cX3_partsIn 36 = .ok (.iand, 1) := by decide +kernel
theorem dX3_partsIn_37 : decode cX3_partsIn 37 = .ok (.istore_n 2, 1) := by decide +kernel
theorem dX3_partsIn_38 : decode cX3_partsIn 38 = .ok (.iinc 4 1, 3) := by decide +kernel
theorem dX3_partsIn_41 : decode cX3_partsIn 41 = .ok (.goto (-34), 3) := by decide +kernel
theorem dX3_partsIn_44 : decode cX3_partsIn 44 = .ok (.iload_n 3, 1) := by decide +kernel
theorem dX3_partsIn_45 : decode cX3_partsIn 45 = .ok (.ireturn, 1) := by decide +kernel
theorem dX3_reachedFrom_0 : decode cX3_reachedFrom 0 = .ok (.iconst 1, 1) := by decide +kernel
theorem dX3_reachedFrom_1 : decode cX3_reachedFrom 1 = .ok (.iload_n 1, 1) := by decide +kernel
theorem dX3_reachedFrom_2 : decode cX3_reachedFrom 2 = .ok (.ishl, 1) := by decide +kernel
theorem dX3_reachedFrom_3 : decode cX3_reachedFrom 3 = .ok (.istore_n 3, 1) := by decide +kernel
theorem dX3_reachedFrom_4 : decode cX3_reachedFrom 4 = .ok (.iconst 0, 1) := by decide +kernel
theorem dX3_reachedFrom_5 : decode cX3_reachedFrom 5 = .ok (.istore 4, 2) := by decide +kernel
theorem dX3_reachedFrom_7 : decode cX3_reachedFrom 7 = .ok (.iconst 0, 1) := by decide +kernel
theorem dX3_reachedFrom_8 : decode cX3_reachedFrom 8 = .ok (.istore 5, 2) := by decide +kernel
theorem dX3_reachedFrom_10 : decode cX3_reachedFrom 10 = .ok (.iload 5, 2) := by decide +kernel
theorem dX3_reachedFrom_12 : decode cX3_reachedFrom 12 = .ok (.bipush 12, 2) := by decide +kernel
theorem dX3_reachedFrom_14 : decode cX3_reachedFrom 14 = .ok (.if_icmp .ge 71, 3) := by decide +kernel
theorem dX3_reachedFrom_17 : decode cX3_reachedFrom 17 = .ok (.iload_n 3, 1) := by decide +kernel
theorem dX3_reachedFrom_18 : decode cX3_reachedFrom 18 = .ok (.iload 4, 2) := by decide +kernel
theorem dX3_reachedFrom_20 : decode cX3_reachedFrom 20 = .ok (.if_icmp .eq 65, 3) := by decide +kernel
theorem dX3_reachedFrom_23 : decode cX3_reachedFrom 23 = .ok (.iload_n 3, 1) := by decide +kernel
theorem dX3_reachedFrom_24 : decode cX3_reachedFrom 24 = .ok (.iload 4, 2) := by decide +kernel
theorem dX3_reachedFrom_26 : decode cX3_reachedFrom 26 = .ok (.iconst (-1), 1) := by decide +kernel
theorem dX3_reachedFrom_27 : decode cX3_reachedFrom 27 = .ok (.ixor, 1) := by decide +kernel
theorem dX3_reachedFrom_28 : decode cX3_reachedFrom 28 = .ok (.iand, 1) := by decide +kernel
theorem dX3_reachedFrom_29 : decode cX3_reachedFrom 29 = .ok (.invokestatic 49, 3) := by decide +kernel
theorem dX3_reachedFrom_32 : decode cX3_reachedFrom 32 = .ok (.istore 6, 2) := by decide +kernel
theorem dX3_reachedFrom_34 : decode cX3_reachedFrom 34 = .ok (.iload 4, 2) := by decide +kernel
theorem dX3_reachedFrom_36 : decode cX3_reachedFrom 36 = .ok (.iconst 1, 1) := by decide +kernel
theorem dX3_reachedFrom_37 : decode cX3_reachedFrom 37 = .ok (.iload 6, 2) := by decide +kernel
theorem dX3_reachedFrom_39 : decode cX3_reachedFrom 39 = .ok (.ishl, 1) := by decide +kernel
theorem dX3_reachedFrom_40 : decode cX3_reachedFrom 40 = .ok (.ior, 1) := by decide +kernel
theorem dX3_reachedFrom_41 : decode cX3_reachedFrom 41 = .ok (.istore 4, 2) := by decide +kernel
theorem dX3_reachedFrom_43 : decode cX3_reachedFrom 43 = .ok (.iconst 0, 1) := by decide +kernel
theorem dX3_reachedFrom_44 : decode cX3_reachedFrom 44 = .ok (.istore 7, 2) := by decide +kernel
theorem dX3_reachedFrom_46 : decode cX3_reachedFrom 46 = .ok (.iload 7, 2) := by decide +kernel
theorem dX3_reachedFrom_48 : decode cX3_reachedFrom 48 = .ok (.bipush 12, 2) := by decide +kernel
theorem dX3_reachedFrom_50 : decode cX3_reachedFrom 50 = .ok (.if_icmp .ge 29, 3) := by decide +kernel
theorem dX3_reachedFrom_53 : decode cX3_reachedFrom 53 = .ok (.aload_n 0, 1) := by decide +kernel
theorem dX3_reachedFrom_54 : decode cX3_reachedFrom 54 = .ok (.iload 6, 2) := by decide +kernel
theorem dX3_reachedFrom_56 : decode cX3_reachedFrom 56 = .ok (.iload 7, 2) := by decide +kernel
theorem dX3_reachedFrom_58 : decode cX3_reachedFrom 58 = .ok (.invokevirtual 39, 3) := by decide +kernel
theorem dX3_reachedFrom_61 : decode cX3_reachedFrom 61 = .ok (.ifCond .le 12, 3) := by decide +kernel
theorem dX3_reachedFrom_64 : decode cX3_reachedFrom 64 = .ok (.iload_n 3, 1) := by decide +kernel
theorem dX3_reachedFrom_65 : decode cX3_reachedFrom 65 = .ok (.iconst 1, 1) := by decide +kernel
theorem dX3_reachedFrom_66 : decode cX3_reachedFrom 66 = .ok (.iload 7, 2) := by decide +kernel
theorem dX3_reachedFrom_68 : decode cX3_reachedFrom 68 = .ok (.ishl, 1) := by decide +kernel
theorem dX3_reachedFrom_69 : decode cX3_reachedFrom 69 = .ok (.iload_n 2, 1) := by decide +kernel
theorem dX3_reachedFrom_70 : decode cX3_reachedFrom 70 = .ok (.iand, 1) := by decide +kernel
theorem dX3_reachedFrom_71 : decode cX3_reachedFrom 71 = .ok (.ior, 1) := by decide +kernel
theorem dX3_reachedFrom_72 : decode cX3_reachedFrom 72 = .ok (.istore_n 3, 1) := by decide +kernel
theorem dX3_reachedFrom_73 : decode cX3_reachedFrom 73 = .ok (.iinc 7 1, 3) := by decide +kernel
theorem dX3_reachedFrom_76 : decode cX3_reachedFrom 76 = .ok (.goto (-30), 3) := by decide +kernel
theorem dX3_reachedFrom_79 : decode cX3_reachedFrom 79 = .ok (.iinc 5 1, 3) := by decide +kernel
theorem dX3_reachedFrom_82 : decode cX3_reachedFrom 82 = .ok (.goto (-72), 3) := by decide +kernel
theorem dX3_reachedFrom_85 : decode cX3_reachedFrom 85 = .ok (.iload_n 3, 1) := by decide +kernel
theorem dX3_reachedFrom_86 : decode cX3_reachedFrom 86 = .ok (.ireturn, 1) := by decide +kernel
theorem dX3_remove_0 : decode cX3_remove 0 = .ok (.aload_n 0, 1) := by decide +kernel
theorem dX3_remove_1 : decode cX3_remove 1 = .ok (.iload_n 1, 1) := by decide +kernel
theorem dX3_remove_2 : decode cX3_remove 2 = .ok (.invokevirtual 54, 3) := by decide +kernel
theorem dX3_remove_5 : decode cX3_remove 5 = .ok (.ifCond .ne 5, 3) := by decide +kernel
theorem dX3_remove_8 : decode cX3_remove 8 = .ok (.iconst 0, 1) := by decide +kernel
theorem dX3_remove_9 : decode cX3_remove 9 = .ok (.ireturn, 1) := by decide +kernel
theorem dX3_remove_10 : decode cX3_remove 10 = .ok (.iconst 0, 1) := by decide +kernel
theorem dX3_remove_11 : decode cX3_remove 11 = .ok (.istore_n 2, 1) := by decide +kernel
theorem dX3_remove_12 : decode cX3_remove 12 = .ok (.iload_n 2, 1) := by decide +kernel
theorem dX3_remove_13 : decode cX3_remove 13 = .ok (.bipush 12, 2) := by decide +kernel
theorem dX3_remove_15 : decode cX3_remove 15 = .ok (.if_icmp .ge 16, 3) := by decide +kernel
theorem dX3_remove_18 : decode cX3_remove 18 = .ok (.aload_n 0, 1) := by decide +kernel
theorem dX3_remove_19 : decode cX3_remove 19 = .ok (.iload_n 1, 1) := by decide +kernel
theorem dX3_remove_20 : decode cX3_remove 20 = .ok (.iload_n 2, 1) := by decide +kernel
theorem dX3_remove_21 : decode cX3_remove 21 = .ok (.iconst 0, 1) := by decide +kernel
theorem dX3_remove_22 : decode cX3_remove 22 = .ok (.invokevirtual 58, 3) := by decide +kernel
theorem dX3_remove_25 : decode cX3_remove 25 = .ok (.iinc 2 1, 3) := by decide +kernel
theorem dX3_remove_28 : decode cX3_remove 28 = .ok (.goto (-16), 3) := by decide +kernel
theorem dX3_remove_31 : decode cX3_remove 31 = .ok (.aload_n 0, 1) := by decide +kernel
theorem dX3_remove_32 : decode cX3_remove 32 = .ok (.dup, 1) := by decide +kernel
theorem dX3_remove_33 : decode cX3_remove 33 = .ok (.getfield 22, 3) := by decide +kernel
theorem dX3_remove_36 : decode cX3_remove 36 = .ok (.iconst 1, 1) := by decide +kernel
theorem dX3_remove_37 : decode cX3_remove 37 = .ok (.iload_n 1, 1) := by decide +kernel
theorem dX3_remove_38 : decode cX3_remove 38 = .ok (.ishl, 1) := by decide +kernel
theorem dX3_remove_39 : decode cX3_remove 39 = .ok (.iconst (-1), 1) := by decide +kernel
theorem dX3_remove_40 : decode cX3_remove 40 = .ok (.ixor, 1) := by decide +kernel
theorem dX3_remove_41 : decode cX3_remove 41 = .ok (.iand, 1) := by decide +kernel
theorem dX3_remove_42 : decode cX3_remove 42 = .ok (.putfield 22, 3) := by decide +kernel
theorem dX3_remove_45 : decode cX3_remove 45 = .ok (.iconst 1, 1) := by decide +kernel
theorem dX3_remove_46 : decode cX3_remove 46 = .ok (.ireturn, 1) := by decide +kernel
theorem dX3_addLine_0 : decode cX3_addLine 0 = .ok (.aload_n 0, 1) := by decide +kernel
theorem dX3_addLine_1 : decode cX3_addLine 1 = .ok (.iload_n 1, 1) := by decide +kernel
theorem dX3_addLine_2 : decode cX3_addLine 2 = .ok (.invokevirtual 54, 3) := by decide +kernel
theorem dX3_addLine_5 : decode cX3_addLine 5 = .ok (.ifCond .eq 20, 3) := by decide +kernel
theorem dX3_addLine_8 : decode cX3_addLine 8 = .ok (.aload_n 0, 1) := by decide +kernel
theorem dX3_addLine_9 : decode cX3_addLine 9 = .ok (.iload_n 2, 1) := by decide +kernel
theorem dX3_addLine_10 : decode cX3_addLine 10 = .ok (.invokevirtual 54, 3) := by decide +kernel
theorem dX3_addLine_13 : decode cX3_addLine 13 = .ok (.ifCond .eq 12, 3) := by decide +kernel
theorem dX3_addLine_16 : decode cX3_addLine 16 = .ok (.aload_n 0, 1) := by decide +kernel
theorem dX3_addLine_17 : decode cX3_addLine 17 = .ok (.getfield 28, 3) := by decide +kernel
theorem dX3_addLine_20 : decode cX3_addLine 20 = .ok (.bipush 20, 2) := by decide +kernel
theorem dX3_addLine_22 : decode cX3_addLine 22 = .ok (.if_icmp .lt 5, 3) := by decide +kernel
theorem dX3_addLine_25 : decode cX3_addLine 25 = .ok (.iconst 0, 1) := by decide +kernel
theorem dX3_addLine_26 : decode cX3_addLine 26 = .ok (.ireturn, 1) := by decide +kernel
theorem dX3_addLine_27 : decode cX3_addLine 27 = .ok (.iload_n 1, 1) := by decide +kernel
theorem dX3_addLine_28 : decode cX3_addLine 28 = .ok (.iload_n 2, 1) := by decide +kernel
theorem dX3_addLine_29 : decode cX3_addLine 29 = .ok (.if_icmp .ne 7, 3) := by decide +kernel
theorem dX3_addLine_32 : decode cX3_addLine 32 = .ok (.iconst 2, 1) := by decide +kernel
theorem dX3_addLine_33 : decode cX3_addLine 33 = .ok (.goto 4, 3) := by decide +kernel
theorem dX3_addLine_36 : decode cX3_addLine 36 = .ok (.iconst 1, 1) := by decide +kernel
theorem dX3_addLine_37 : decode cX3_addLine 37 = .ok (.istore_n 3, 1) := by decide +kernel
theorem dX3_addLine_38 : decode cX3_addLine 38 = .ok (.aload_n 0, 1) := by decide +kernel
theorem dX3_addLine_39 : decode cX3_addLine 39 = .ok (.iload_n 1, 1) := by decide +kernel
theorem dX3_addLine_40 : decode cX3_addLine 40 = .ok (.aload_n 0, 1) := by decide +kernel
theorem dX3_addLine_41 : decode cX3_addLine 41 = .ok (.getfield 22, 3) := by decide +kernel
theorem dX3_addLine_44 : decode cX3_addLine 44 = .ok (.invokevirtual 43, 3) := by decide +kernel
theorem dX3_addLine_47 : decode cX3_addLine 47 = .ok (.iload_n 3, 1) := by decide +kernel
theorem dX3_addLine_48 : decode cX3_addLine 48 = .ok (.iadd, 1) := by decide +kernel
theorem dX3_addLine_49 : decode cX3_addLine 49 = .ok (.bipush 6, 2) := by decide +kernel
theorem dX3_addLine_51 : decode cX3_addLine 51 = .ok (.if_icmp .gt 19, 3) := by decide +kernel
theorem dX3_addLine_54 : decode cX3_addLine 54 = .ok (.aload_n 0, 1) := by decide +kernel
theorem dX3_addLine_55 : decode cX3_addLine 55 = .ok (.iload_n 2, 1) := by decide +kernel
theorem dX3_addLine_56 : decode cX3_addLine 56 = .ok (.aload_n 0, 1) := by decide +kernel
theorem dX3_addLine_57 : decode cX3_addLine 57 = .ok (.getfield 22, 3) := by decide +kernel
theorem dX3_addLine_60 : decode cX3_addLine 60 = .ok (.invokevirtual 43, 3) := by decide +kernel
theorem dX3_addLine_63 : decode cX3_addLine 63 = .ok (.iload_n 3, 1) := by decide +kernel
theorem dX3_addLine_64 : decode cX3_addLine 64 = .ok (.iadd, 1) := by decide +kernel
theorem dX3_addLine_65 : decode cX3_addLine 65 = .ok (.bipush 6, 2) := by decide +kernel
theorem dX3_addLine_67 : decode cX3_addLine 67 = .ok (.if_icmp .le 5, 3) := by decide +kernel
theorem dX3_addLine_70 : decode cX3_addLine 70 = .ok (.iconst 0, 1) := by decide +kernel
theorem dX3_addLine_71 : decode cX3_addLine 71 = .ok (.ireturn, 1) := by decide +kernel
theorem dX3_addLine_72 : decode cX3_addLine 72 = .ok (.aload_n 0, 1) := by decide +kernel
theorem dX3_addLine_73 : decode cX3_addLine 73 = .ok (.iload_n 1, 1) := by decide +kernel
theorem dX3_addLine_74 : decode cX3_addLine 74 = .ok (.iload_n 2, 1) := by decide +kernel
theorem dX3_addLine_75 : decode cX3_addLine 75 = .ok (.aload_n 0, 1) := by decide +kernel
theorem dX3_addLine_76 : decode cX3_addLine 76 = .ok (.iload_n 1, 1) := by decide +kernel
theorem dX3_addLine_77 : decode cX3_addLine 77 = .ok (.iload_n 2, 1) := by decide +kernel
theorem dX3_addLine_78 : decode cX3_addLine 78 = .ok (.invokevirtual 39, 3) := by decide +kernel
theorem dX3_addLine_81 : decode cX3_addLine 81 = .ok (.iconst 1, 1) := by decide +kernel
theorem dX3_addLine_82 : decode cX3_addLine 82 = .ok (.iadd, 1) := by decide +kernel
theorem dX3_addLine_83 : decode cX3_addLine 83 = .ok (.invokevirtual 58, 3) := by decide +kernel
theorem dX3_addLine_86 : decode cX3_addLine 86 = .ok (.iconst 1, 1) := by decide +kernel
theorem dX3_addLine_87 : decode cX3_addLine 87 = .ok (.ireturn, 1) := by decide +kernel
theorem dX3_takeLine_0 : decode cX3_takeLine 0 = .ok (.aload_n 0, 1) := by decide +kernel
theorem dX3_takeLine_1 : decode cX3_takeLine 1 = .ok (.iload_n 1, 1) := by decide +kernel
theorem dX3_takeLine_2 : decode cX3_takeLine 2 = .ok (.invokevirtual 54, 3) := by decide +kernel
theorem dX3_takeLine_5 : decode cX3_takeLine 5 = .ok (.ifCond .eq 20, 3) := by decide +kernel
theorem dX3_takeLine_8 : decode cX3_takeLine 8 = .ok (.aload_n 0, 1) := by decide +kernel
theorem dX3_takeLine_9 : decode cX3_takeLine 9 = .ok (.iload_n 2, 1) := by decide +kernel
theorem dX3_takeLine_10 : decode cX3_takeLine 10 = .ok (.invokevirtual 54, 3) := by decide +kernel
theorem dX3_takeLine_13 : decode cX3_takeLine 13 = .ok (.ifCond .eq 12, 3) := by decide +kernel
theorem dX3_takeLine_16 : decode cX3_takeLine 16 = .ok (.aload_n 0, 1) := by decide +kernel
theorem dX3_takeLine_17 : decode cX3_takeLine 17 = .ok (.iload_n 1, 1) := by decide +kernel
theorem dX3_takeLine_18 : decode cX3_takeLine 18 = .ok (.iload_n 2, 1) := by decide +kernel
theorem dX3_takeLine_19 : decode cX3_takeLine 19 = .ok (.invokevirtual 39, 3) := by decide +kernel
theorem dX3_takeLine_22 : decode cX3_takeLine 22 = .ok (.ifCond .gt 5, 3) := by decide +kernel
theorem dX3_takeLine_25 : decode cX3_takeLine 25 = .ok (.iconst 0, 1) := by decide +kernel
theorem dX3_takeLine_26 : decode cX3_takeLine 26 = .ok (.ireturn, 1) := by decide +kernel
theorem dX3_takeLine_27 : decode cX3_takeLine 27 = .ok (.aload_n 0, 1) := by decide +kernel
theorem dX3_takeLine_28 : decode cX3_takeLine 28 = .ok (.iload_n 1, 1) := by decide +kernel
theorem dX3_takeLine_29 : decode cX3_takeLine 29 = .ok (.iload_n 2, 1) := by decide +kernel
theorem dX3_takeLine_30 : decode cX3_takeLine 30 = .ok (.aload_n 0, 1) := by decide +kernel
theorem dX3_takeLine_31 : decode cX3_takeLine 31 = .ok (.iload_n 1, 1) := by decide +kernel
theorem dX3_takeLine_32 : decode cX3_takeLine 32 = .ok (.iload_n 2, 1) := by decide +kernel
theorem dX3_takeLine_33 : decode cX3_takeLine 33 = .ok (.invokevirtual 39, 3) := by decide +kernel
theorem dX3_takeLine_36 : decode cX3_takeLine 36 = .ok (.iconst 1, 1) := by decide +kernel
theorem dX3_takeLine_37 : decode cX3_takeLine 37 = .ok (.isub, 1) := by decide +kernel
theorem dX3_takeLine_38 : decode cX3_takeLine 38 = .ok (.invokevirtual 58, 3) := by decide +kernel
theorem dX3_takeLine_41 : decode cX3_takeLine 41 = .ok (.iconst 1, 1) := by decide +kernel
theorem dX3_takeLine_42 : decode cX3_takeLine 42 = .ok (.ireturn, 1) := by decide +kernel
theorem dX3_changeWeight_0 : decode cX3_changeWeight 0 = .ok (.aload_n 0, 1) := by decide +kernel
theorem dX3_changeWeight_1 : decode cX3_changeWeight 1 = .ok (.iload_n 1, 1) := by decide +kernel
theorem dX3_changeWeight_2 : decode cX3_changeWeight 2 = .ok (.invokevirtual 54, 3) := by decide +kernel
theorem dX3_changeWeight_5 : decode cX3_changeWeight 5 = .ok (.ifCond .eq 22, 3) := by decide +kernel
theorem dX3_changeWeight_8 : decode cX3_changeWeight 8 = .ok (.iload_n 1, 1) := by decide +kernel
theorem dX3_changeWeight_9 : decode cX3_changeWeight 9 = .ok (.aload_n 0, 1) := by decide +kernel
theorem dX3_changeWeight_10 : decode cX3_changeWeight 10 = .ok (.getfield 9, 3) := by decide +kernel
theorem dX3_changeWeight_13 : decode cX3_changeWeight 13 = .ok (.arraylength, 1) := by decide +kernel
theorem dX3_changeWeight_14 : decode cX3_changeWeight 14 = .ok (.if_icmp .ge 13, 3) := by decide +kernel
theorem dX3_changeWeight_17 : decode cX3_changeWeight 17 = .ok (.aload_n 0, 1) := by decide +kernel
theorem dX3_changeWeight_18 : decode cX3_changeWeight 18 = .ok (.getfield 9, 3) := by decide +kernel
theorem dX3_changeWeight_21 : decode cX3_changeWeight 21 = .ok (.iload_n 1, 1) := by decide +kernel
theorem dX3_changeWeight_22 : decode cX3_changeWeight 22 = .ok (.iaload, 1) := by decide +kernel
theorem dX3_changeWeight_23 : decode cX3_changeWeight 23 = .ok (.iload_n 2, 1) := by decide +kernel
theorem dX3_changeWeight_24 : decode cX3_changeWeight 24 = .ok (.if_icmp .ne 5, 3) := by decide +kernel
theorem dX3_changeWeight_27 : decode cX3_changeWeight 27 = .ok (.iconst 0, 1) := by decide +kernel
theorem dX3_changeWeight_28 : decode cX3_changeWeight 28 = .ok (.ireturn, 1) := by decide +kernel
theorem dX3_changeWeight_29 : decode cX3_changeWeight 29 = .ok (.aload_n 0, 1) := by decide +kernel
theorem dX3_changeWeight_30 : decode cX3_changeWeight 30 = .ok (.getfield 9, 3) := by decide +kernel
theorem dX3_changeWeight_33 : decode cX3_changeWeight 33 = .ok (.iload_n 1, 1) := by decide +kernel
theorem dX3_changeWeight_34 : decode cX3_changeWeight 34 = .ok (.iload_n 2, 1) := by decide +kernel
theorem dX3_changeWeight_35 : decode cX3_changeWeight 35 = .ok (.iastore, 1) := by decide +kernel
theorem dX3_changeWeight_36 : decode cX3_changeWeight 36 = .ok (.iconst 1, 1) := by decide +kernel
theorem dX3_changeWeight_37 : decode cX3_changeWeight 37 = .ok (.ireturn, 1) := by decide +kernel
theorem dX4_init_0 : decode cX4_init 0 = .ok (.aload_n 0, 1) := by decide +kernel
theorem dX4_init_1 : decode cX4_init 1 = .ok (.invokespecial 3, 3) := by decide +kernel
theorem dX4_init_4 : decode cX4_init 4 = .ok (.aload_n 0, 1) := by decide +kernel
theorem dX4_init_5 : decode cX4_init 5 = .ok (.sipush 4096, 3) := by decide +kernel
theorem dX4_init_8 : decode cX4_init 8 = .ok (.newarray .int, 2) := by decide +kernel
theorem dX4_init_10 : decode cX4_init 10 = .ok (.putfield 9, 3) := by decide +kernel
theorem dX4_init_13 : decode cX4_init 13 = .ok (.return_, 1) := by decide +kernel
theorem dX4_learn_0 : decode cX4_learn 0 = .ok (.aload_n 0, 1) := by decide +kernel
theorem dX4_learn_1 : decode cX4_learn 1 = .ok (.getfield 9, 3) := by decide +kernel
theorem dX4_learn_4 : decode cX4_learn 4 = .ok (.iconst 0, 1) := by decide +kernel
theorem dX4_learn_5 : decode cX4_learn 5 = .ok (.iconst 0, 1) := by decide +kernel
theorem dX4_learn_6 : decode cX4_learn 6 = .ok (.iastore, 1) := by decide +kernel
theorem dX4_learn_7 : decode cX4_learn 7 = .ok (.iconst 1, 1) := by decide +kernel
theorem dX4_learn_8 : decode cX4_learn 8 = .ok (.istore_n 3, 1) := by decide +kernel
theorem dX4_learn_9 : decode cX4_learn 9 = .ok (.iload_n 3, 1) := by decide +kernel
theorem dX4_learn_10 : decode cX4_learn 10 = .ok (.iload_n 1, 1) := by decide +kernel
theorem dX4_learn_11 : decode cX4_learn 11 = .ok (.if_icmp .gt 36, 3) := by decide +kernel
theorem dX4_learn_14 : decode cX4_learn 14 = .ok (.iload_n 3, 1) := by decide +kernel
theorem dX4_learn_15 : decode cX4_learn 15 = .ok (.sipush 4096, 3) := by decide +kernel
theorem dX4_learn_18 : decode cX4_learn 18 = .ok (.if_icmp .ge 29, 3) := by decide +kernel
theorem dX4_learn_21 : decode cX4_learn 21 = .ok (.iload_n 3, 1) := by decide +kernel
theorem dX4_learn_22 : decode cX4_learn 22 = .ok (.iload_n 1, 1) := by decide +kernel
theorem dX4_learn_23 : decode cX4_learn 23 = .ok (.iconst (-1), 1) := by decide +kernel
theorem dX4_learn_24 : decode cX4_learn 24 = .ok (.ixor, 1) := by decide +kernel
theorem dX4_learn_25 : decode cX4_learn 25 = .ok (.iand, 1) := by decide +kernel
theorem dX4_learn_26 : decode cX4_learn 26 = .ok (.ifCond .ne 15, 3) := by decide +kernel
theorem dX4_learn_29 : decode cX4_learn 29 = .ok (.aload_n 0, 1) := by decide +kernel
theorem dX4_learn_30 : decode cX4_learn 30 = .ok (.getfield 9, 3) := by decide +kernel
theorem dX4_learn_33 : decode cX4_learn 33 = .ok (.iload_n 3, 1) := by decide +kernel
theorem dX4_learn_34 : decode cX4_learn 34 = .ok (.aload_n 0, 1) := by decide +kernel
theorem dX4_learn_35 : decode cX4_learn 35 = .ok (.iload_n 3, 1) := by decide +kernel
theorem dX4_learn_36 : decode cX4_learn 36 = .ok (.aload_n 2, 1) := by decide +kernel
theorem dX4_learn_37 : decode cX4_learn 37 = .ok (.invokevirtual 15, 3) := by decide +kernel
theorem dX4_learn_40 : decode cX4_learn 40 = .ok (.iastore, 1) := by decide +kernel
theorem dX4_learn_41 : decode cX4_learn 41 = .ok (.iinc 3 1, 3) := by decide +kernel
theorem dX4_learn_44 : decode cX4_learn 44 = .ok (.goto (-35), 3) := by decide +kernel
theorem dX4_learn_47 : decode cX4_learn 47 = .ok (.return_, 1) := by decide +kernel
theorem dX4_mostIn_0 : decode cX4_mostIn 0 = .ok (.iload_n 1, 1) := by decide +kernel
theorem dX4_mostIn_1 : decode cX4_mostIn 1 = .ok (.ifCond .lt 21, 3) := by decide +kernel
theorem dX4_mostIn_4 : decode cX4_mostIn 4 = .ok (.iload_n 1, 1) := by decide +kernel
theorem dX4_mostIn_5 : decode cX4_mostIn 5 = .ok (.aload_n 0, 1) := by decide +kernel
theorem dX4_mostIn_6 : decode cX4_mostIn 6 = .ok (.getfield 9, 3) := by decide +kernel
theorem dX4_mostIn_9 : decode cX4_mostIn 9 = .ok (.arraylength, 1) := by decide +kernel
theorem dX4_mostIn_10 : decode cX4_mostIn 10 = .ok (.if_icmp .ge 12, 3) := by decide +kernel
theorem dX4_mostIn_13 : decode cX4_mostIn 13 = .ok (.aload_n 0, 1) := by decide +kernel
theorem dX4_mostIn_14 : decode cX4_mostIn 14 = .ok (.getfield 9, 3) := by decide +kernel
theorem dX4_mostIn_17 : decode cX4_mostIn 17 = .ok (.iload_n 1, 1) := by decide +kernel
theorem dX4_mostIn_18 : decode cX4_mostIn 18 = .ok (.iaload, 1) := by decide +kernel
theorem dX4_mostIn_19 : decode cX4_mostIn 19 = .ok (.goto 4, 3) := by decide +kernel
theorem dX4_mostIn_22 : decode cX4_mostIn 22 = .ok (.iconst 0, 1) := by decide +kernel
theorem dX4_mostIn_23 : decode cX4_mostIn 23 = .ok (.ireturn, 1) := by decide +kernel
theorem dX4_mostWithLowest_0 : decode cX4_mostWithLowest 0 = .ok (.iload_n 1, 1) := by decide +kernel
theorem dX4_mostWithLowest_1 : decode cX4_mostWithLowest 1 = .ok (.invokestatic 19, 3) := by decide +kernel
theorem dX4_mostWithLowest_4 : decode cX4_mostWithLowest 4 = .ok (.istore_n 3, 1) := by decide +kernel
theorem dX4_mostWithLowest_5 : decode cX4_mostWithLowest 5 = .ok (.aload_n 0, 1) := by decide +kernel
theorem dX4_mostWithLowest_6 : decode cX4_mostWithLowest 6 = .ok (.iload_n 1, 1) := by decide +kernel
theorem dX4_mostWithLowest_7 : decode cX4_mostWithLowest 7 = .ok (.iload_n 1, 1) := by decide +kernel
theorem dX4_mostWithLowest_8 : decode cX4_mostWithLowest 8 = .ok (.iconst 1, 1) := by decide +kernel
theorem dX4_mostWithLowest_9 : decode cX4_mostWithLowest 9 = .ok (.isub, 1) := by decide +kernel
theorem dX4_mostWithLowest_10 : decode cX4_mostWithLowest 10 = .ok (.iand, 1) := by decide +kernel
theorem dX4_mostWithLowest_11 : decode cX4_mostWithLowest 11 = .ok (.invokevirtual 25, 3) := by decide +kernel
theorem dX4_mostWithLowest_14 : decode cX4_mostWithLowest 14 = .ok (.istore 4, 2) := by decide +kernel
theorem dX4_mostWithLowest_16 : decode cX4_mostWithLowest 16 = .ok (.aload_n 2, 1) := by decide +kernel
theorem dX4_mostWithLowest_17 : decode cX4_mostWithLowest 17 = .ok (.iload_n 3, 1) := by decide +kernel
theorem dX4_mostWithLowest_18 : decode cX4_mostWithLowest 18 = .ok (.iconst 1, 1) := by decide +kernel
theorem dX4_mostWithLowest_19 : decode cX4_mostWithLowest 19 = .ok (.iadd, 1) := by decide +kernel
theorem dX4_mostWithLowest_20 : decode cX4_mostWithLowest 20 = .ok (.invokevirtual 28, 3) := by decide +kernel
theorem dX4_mostWithLowest_23 : decode cX4_mostWithLowest 23 = .ok (.istore 5, 2) := by decide +kernel
theorem dX4_mostWithLowest_25 : decode cX4_mostWithLowest 25 = .ok (.aload_n 2, 1) := by decide +kernel
theorem dX4_mostWithLowest_26 : decode cX4_mostWithLowest 26 = .ok (.iload_n 3, 1) := by decide +kernel
theorem dX4_mostWithLowest_27 : decode cX4_mostWithLowest 27 = .ok (.invokevirtual 28, 3) := by decide +kernel
theorem dX4_mostWithLowest_30 : decode cX4_mostWithLowest 30 = .ok (.istore 6, 2) := by decide +kernel
theorem dX4_mostWithLowest_32 : decode cX4_mostWithLowest 32 = .ok (.iload 6, 2) := by decide +kernel
theorem dX4_mostWithLowest_34 : decode cX4_mostWithLowest 34 = .ok (.iload 5, 2) := by decide +kernel
theorem dX4_mostWithLowest_36 : decode cX4_mostWithLowest 36 = .ok (.if_icmp .ge 45, 3) := by decide +kernel
theorem dX4_mostWithLowest_39 : decode cX4_mostWithLowest 39 = .ok (.aload_n 2, 1) := by decide +kernel
theorem dX4_mostWithLowest_40 : decode cX4_mostWithLowest 40 = .ok (.iload 6, 2) := by decide +kernel
theorem dX4_mostWithLowest_42 : decode cX4_mostWithLowest 42 = .ok (.invokevirtual 31, 3) := by decide +kernel
theorem dX4_mostWithLowest_45 : decode cX4_mostWithLowest 45 = .ok (.istore 7, 2) := by decide +kernel
theorem dX4_mostWithLowest_47 : decode cX4_mostWithLowest 47 = .ok (.iload 7, 2) := by decide +kernel
theorem dX4_mostWithLowest_49 : decode cX4_mostWithLowest 49 = .ok (.iload_n 1, 1) := by decide +kernel
theorem dX4_mostWithLowest_50 : decode cX4_mostWithLowest 50 = .ok (.iconst (-1), 1) := by decide +kernel
theorem dX4_mostWithLowest_51 : decode cX4_mostWithLowest 51 = .ok (.ixor, 1) := by decide +kernel
theorem dX4_mostWithLowest_52 : decode cX4_mostWithLowest 52 = .ok (.iand, 1) := by decide +kernel
theorem dX4_mostWithLowest_53 : decode cX4_mostWithLowest 53 = .ok (.ifCond .ne 22, 3) := by decide +kernel
theorem dX4_mostWithLowest_56 : decode cX4_mostWithLowest 56 = .ok (.iload 4, 2) := by decide +kernel
theorem dX4_mostWithLowest_58 : decode cX4_mostWithLowest 58 = .ok (.iconst 1, 1) := by decide +kernel
theorem dX4_mostWithLowest_59 : decode cX4_mostWithLowest 59 = .ok (.aload_n 0, 1) := by decide +kernel
theorem dX4_mostWithLowest_60 : decode cX4_mostWithLowest 60 = .ok (.iload_n 1, 1) := by decide +kernel
theorem dX4_mostWithLowest_61 : decode cX4_mostWithLowest 61 = .ok (.iload 7, 2) := by decide +kernel
theorem dX4_mostWithLowest_63 : decode cX4_mostWithLowest 63 = .ok (.iconst (-1), 1) := by decide +kernel
theorem dX4_mostWithLowest_64 : decode cX4_mostWithLowest 64 = .ok (.ixor, 1) := by decide +kernel
theorem dX4_mostWithLowest_65 : decode cX4_mostWithLowest 65 = .ok (.iand, 1) := by decide +kernel
theorem dX4_mostWithLowest_66 : decode cX4_mostWithLowest 66 = .ok (.invokevirtual 25, 3) := by decide +kernel
theorem dX4_mostWithLowest_69 : decode cX4_mostWithLowest 69 = .ok (.iadd, 1) := by decide +kernel
theorem dX4_mostWithLowest_70 : decode cX4_mostWithLowest 70 = .ok (.invokestatic 34, 3) := by decide +kernel
theorem dX4_mostWithLowest_73 : decode cX4_mostWithLowest 73 = .ok (.istore 4, 2) := by decide +kernel
theorem dX4_mostWithLowest_75 : decode cX4_mostWithLowest 75 = .ok (.iinc 6 1, 3) := by decide +kernel
theorem dX4_mostWithLowest_78 : decode cX4_mostWithLowest 78 = .ok (.goto (-46), 3) := by decide +kernel
theorem dX4_mostWithLowest_81 : decode cX4_mostWithLowest 81 = .ok (.iload 4, 2) := by decide +kernel
theorem dX4_mostWithLowest_83 : decode cX4_mostWithLowest 83 = .ok (.ireturn, 1) := by decide +kernel
theorem dX4_ringAt_0 : decode cX4_ringAt 0 = .ok (.aload_n 0, 1) := by decide +kernel
theorem dX4_ringAt_1 : decode cX4_ringAt 1 = .ok (.iload_n 2, 1) := by decide +kernel
theorem dX4_ringAt_2 : decode cX4_ringAt 2 = .ok (.invokevirtual 25, 3) := by decide +kernel
theorem dX4_ringAt_5 : decode cX4_ringAt 5 = .ok (.istore 4, 2) := by decide +kernel
theorem dX4_ringAt_7 : decode cX4_ringAt 7 = .ok (.iload_n 1, 1) := by decide +kernel
theorem dX4_ringAt_8 : decode cX4_ringAt 8 = .ok (.ifCond .lt 9, 3) := by decide +kernel
theorem dX4_ringAt_11 : decode cX4_ringAt 11 = .ok (.iload_n 1, 1) := by decide +kernel
theorem dX4_ringAt_12 : decode cX4_ringAt 12 = .ok (.iload 4, 2) := by decide +kernel
theorem dX4_ringAt_14 : decode cX4_ringAt 14 = .ok (.if_icmp .lt 5, 3) := by decide +kernel
theorem dX4_ringAt_17 : decode cX4_ringAt 17 = .ok (.iconst (-1), 1) := by decide +kernel
theorem dX4_ringAt_18 : decode cX4_ringAt 18 = .ok (.ireturn, 1) := by decide +kernel
theorem dX4_ringAt_19 : decode cX4_ringAt 19 = .ok (.iload_n 2, 1) := by decide +kernel
theorem dX4_ringAt_20 : decode cX4_ringAt 20 = .ok (.istore 5, 2) := by decide +kernel
theorem dX4_ringAt_22 : decode cX4_ringAt 22 = .ok (.iconst 0, 1) := by decide +kernel
theorem dX4_ringAt_23 : decode cX4_ringAt 23 = .ok (.istore 6, 2) := by decide +kernel
theorem dX4_ringAt_25 : decode cX4_ringAt 25 = .ok (.iconst 0, 1) := by decide +kernel
theorem dX4_ringAt_26 : decode cX4_ringAt 26 = .ok (.istore 7, 2) := by decide +kernel
theorem dX4_ringAt_28 : decode cX4_ringAt 28 = .ok (.iload 7, 2) := by decide +kernel
theorem dX4_ringAt_30 : decode cX4_ringAt 30 = .ok (.iload_n 1, 1) := by decide +kernel
theorem dX4_ringAt_31 : decode cX4_ringAt 31 = .ok (.if_icmp .gt 27, 3) := by decide +kernel
theorem dX4_ringAt_34 : decode cX4_ringAt 34 = .ok (.aload_n 0, 1) := by decide +kernel
theorem dX4_ringAt_35 : decode cX4_ringAt 35 = .ok (.iload 5, 2) := by decide +kernel
theorem dX4_ringAt_37 : decode cX4_ringAt 37 = .ok (.aload_n 3, 1) := by decide +kernel
theorem dX4_ringAt_38 : decode cX4_ringAt 38 = .ok (.invokevirtual 40, 3) := by decide +kernel
theorem dX4_ringAt_41 : decode cX4_ringAt 41 = .ok (.istore 6, 2) := by decide +kernel
theorem dX4_ringAt_43 : decode cX4_ringAt 43 = .ok (.iload 5, 2) := by decide +kernel
theorem dX4_ringAt_45 : decode cX4_ringAt 45 = .ok (.iload 6, 2) := by decide +kernel
theorem dX4_ringAt_47 : decode cX4_ringAt 47 = .ok (.iconst (-1), 1) := by decide +kernel
theorem dX4_ringAt_48 : decode cX4_ringAt 48 = .ok (.ixor, 1) := by decide +kernel
theorem dX4_ringAt_49 : decode cX4_ringAt 49 = .ok (.iand, 1) := by decide +kernel
theorem dX4_ringAt_50 : decode cX4_ringAt 50 = .ok (.istore 5, 2) := by decide +kernel
theorem dX4_ringAt_52 : decode cX4_ringAt 52 = .ok (.iinc 7 1, 3) := by decide +kernel
theorem dX4_ringAt_55 : decode cX4_ringAt 55 = .ok (.goto (-27), 3) := by decide +kernel
theorem dX4_ringAt_58 : decode cX4_ringAt 58 = .ok (.iload 6, 2) := by decide +kernel
theorem dX4_ringAt_60 : decode cX4_ringAt 60 = .ok (.ireturn, 1) := by decide +kernel
theorem dX4_leastOfMost_0 : decode cX4_leastOfMost 0 = .ok (.iconst 0, 1) := by decide +kernel
theorem dX4_leastOfMost_1 : decode cX4_leastOfMost 1 = .ok (.istore_n 3, 1) := by decide +kernel
theorem dX4_leastOfMost_2 : decode cX4_leastOfMost 2 = .ok (.iconst 0, 1) := by decide +kernel
theorem dX4_leastOfMost_3 : decode cX4_leastOfMost 3 = .ok (.istore 4, 2) := by decide +kernel
theorem dX4_leastOfMost_5 : decode cX4_leastOfMost 5 = .ok (.iload 4, 2) := by decide +kernel
theorem dX4_leastOfMost_7 : decode cX4_leastOfMost 7 = .ok (.aload_n 2, 1) := by decide +kernel
theorem dX4_leastOfMost_8 : decode cX4_leastOfMost 8 = .ok (.getfield 43, 3) := by decide +kernel
theorem dX4_leastOfMost_11 : decode cX4_leastOfMost 11 = .ok (.if_icmp .ge 71, 3) := by decide +kernel
theorem dX4_leastOfMost_14 : decode cX4_leastOfMost 14 = .ok (.aload_n 2, 1) := by decide +kernel
theorem dX4_leastOfMost_15 : decode cX4_leastOfMost 15 = .ok (.iload 4, 2) := by decide +kernel
theorem dX4_leastOfMost_17 : decode cX4_leastOfMost 17 = .ok (.invokevirtual 31, 3) := by decide +kernel
theorem dX4_leastOfMost_20 : decode cX4_leastOfMost 20 = .ok (.istore 5, 2) := by decide +kernel
theorem dX4_leastOfMost_22 : decode cX4_leastOfMost 22 = .ok (.iload 5, 2) := by decide +kernel
theorem dX4_leastOfMost_24 : decode cX4_leastOfMost 24 = .ok (.iload_n 1, 1) := by decide +kernel
theorem dX4_leastOfMost_25 : decode cX4_leastOfMost 25 = .ok (.iconst (-1), 1) := by decide +kernel
theorem dX4_leastOfMost_26 : decode cX4_leastOfMost 26 = .ok (.ixor, 1) := by decide +kernel
theorem dX4_leastOfMost_27 : decode cX4_leastOfMost 27 = .ok (.iand, 1) := by decide +kernel
theorem dX4_leastOfMost_28 : decode cX4_leastOfMost 28 = .ok (.ifCond .ne 27, 3) := by decide +kernel
theorem dX4_leastOfMost_31 : decode cX4_leastOfMost 31 = .ok (.iconst 1, 1) := by decide +kernel
theorem dX4_leastOfMost_32 : decode cX4_leastOfMost 32 = .ok (.aload_n 0, 1) := by decide +kernel
theorem dX4_leastOfMost_33 : decode cX4_leastOfMost 33 = .ok (.iload_n 1, 1) := by decide +kernel
theorem dX4_leastOfMost_34 : decode cX4_leastOfMost 34 = .ok (.iload 5, 2) := by decide +kernel
theorem dX4_leastOfMost_36 : decode cX4_leastOfMost 36 = .ok (.iconst (-1), 1) := by decide +kernel
theorem dX4_leastOfMost_37 : decode cX4_leastOfMost 37 = .ok (.ixor, 1) := by decide +kernel
theorem dX4_leastOfMost_38 : decode cX4_leastOfMost 38 = .ok (.iand, 1) := by decide +kernel
theorem dX4_leastOfMost_39 : decode cX4_leastOfMost 39 = .ok (.invokevirtual 25, 3) := by decide +kernel
theorem dX4_leastOfMost_42 : decode cX4_leastOfMost 42 = .ok (.iadd, 1) := by decide +kernel
theorem dX4_leastOfMost_43 : decode cX4_leastOfMost 43 = .ok (.aload_n 0, 1) := by decide +kernel
theorem dX4_leastOfMost_44 : decode cX4_leastOfMost 44 = .ok (.iload_n 1, 1) := by decide +kernel
theorem dX4_leastOfMost_45 : decode cX4_leastOfMost 45 = .ok (.invokevirtual 25, 3) := by decide +kernel
theorem dX4_leastOfMost_48 : decode cX4_leastOfMost 48 = .ok (.if_icmp .ne 7, 3) := by decide +kernel
theorem dX4_leastOfMost_51 : decode cX4_leastOfMost 51 = .ok (.iconst 1, 1) := by decide +kernel
theorem dX4_leastOfMost_52 : decode cX4_leastOfMost 52 = .ok (.goto 4, 3) := by decide +kernel
theorem dX4_leastOfMost_55 : decode cX4_leastOfMost 55 = .ok (.iconst 0, 1) := by decide +kernel
theorem dX4_leastOfMost_56 : decode cX4_leastOfMost 56 = .ok (.istore 6, 2) := by decide +kernel
theorem dX4_leastOfMost_58 : decode cX4_leastOfMost 58 = .ok (.iload 6, 2) := by decide +kernel
theorem dX4_leastOfMost_60 : decode cX4_leastOfMost 60 = .ok (.ifCond .eq 16, 3) := by decide +kernel
theorem dX4_leastOfMost_63 : decode cX4_leastOfMost 63 = .ok (.iload_n 3, 1) := by decide +kernel
theorem dX4_leastOfMost_64 : decode cX4_leastOfMost 64 = .ok (.ifCond .eq 9, 3) := by decide +kernel
theorem dX4_leastOfMost_67 : decode cX4_leastOfMost 67 = .ok (.iload 5, 2) := by decide +kernel
theorem dX4_leastOfMost_69 : decode cX4_leastOfMost 69 = .ok (.iload_n 3, 1) := by decide +kernel
theorem dX4_leastOfMost_70 : decode cX4_leastOfMost 70 = .ok (.if_icmp .ge 6, 3) := by decide +kernel
theorem dX4_leastOfMost_73 : decode cX4_leastOfMost 73 = .ok (.iload 5, 2) := by decide +kernel
theorem dX4_leastOfMost_75 : decode cX4_leastOfMost 75 = .ok (.istore_n 3, 1) := by decide +kernel
theorem dX4_leastOfMost_76 : decode cX4_leastOfMost 76 = .ok (.iinc 4 1, 3) := by decide +kernel
theorem dX4_leastOfMost_79 : decode cX4_leastOfMost 79 = .ok (.goto (-74), 3) := by decide +kernel
theorem dX4_leastOfMost_82 : decode cX4_leastOfMost 82 = .ok (.iload_n 3, 1) := by decide +kernel
theorem dX4_leastOfMost_83 : decode cX4_leastOfMost 83 = .ok (.ireturn, 1) := by decide +kernel
theorem dX5_init_0 : decode cX5_init 0 = .ok (.aload_n 0, 1) := by decide +kernel
theorem dX5_init_1 : decode cX5_init 1 = .ok (.invokespecial 3, 3) := by decide +kernel
theorem dX5_init_4 : decode cX5_init 4 = .ok (.aload_n 0, 1) := by decide +kernel
theorem dX5_init_5 : decode cX5_init 5 = .ok (.bipush 9, 2) := by decide +kernel
theorem dX5_init_7 : decode cX5_init 7 = .ok (.anewarray 9, 3) := by decide +kernel
theorem dX5_init_10 : decode cX5_init 10 = .ok (.putfield 11, 3) := by decide +kernel
theorem dX5_init_13 : decode cX5_init 13 = .ok (.iconst 0, 1) := by decide +kernel
theorem dX5_init_14 : decode cX5_init 14 = .ok (.istore_n 1, 1) := by decide +kernel
theorem dX5_init_15 : decode cX5_init 15 = .ok (.iload_n 1, 1) := by decide +kernel
theorem dX5_init_16 : decode cX5_init 16 = .ok (.bipush 9, 2) := by decide +kernel
theorem dX5_init_18 : decode cX5_init 18 = .ok (.if_icmp .ge 22, 3) := by decide +kernel
theorem dX5_init_21 : decode cX5_init 21 = .ok (.aload_n 0, 1) := by decide +kernel
theorem dX5_init_22 : decode cX5_init 22 = .ok (.getfield 11, 3) := by decide +kernel
theorem dX5_init_25 : decode cX5_init 25 = .ok (.iload_n 1, 1) := by decide +kernel
theorem dX5_init_26 : decode cX5_init 26 = .ok (.new 9, 3) := by decide +kernel
theorem dX5_init_29 : decode cX5_init 29 = .ok (.dup, 1) := by decide +kernel
theorem dX5_init_30 : decode cX5_init 30 = .ok (.invokespecial 15, 3) := by decide +kernel
theorem dX5_init_33 : decode cX5_init 33 = .ok (.aastore, 1) := by decide +kernel
theorem dX5_init_34 : decode cX5_init 34 = .ok (.iinc 1 1, 3) := by decide +kernel
theorem dX5_init_37 : decode cX5_init 37 = .ok (.goto (-22), 3) := by decide +kernel
theorem dX5_init_40 : decode cX5_init 40 = .ok (.return_, 1) := by decide +kernel
theorem dX5_forget_0 : decode cX5_forget 0 = .ok (.aload_n 0, 1) := by decide +kernel
theorem dX5_forget_1 : decode cX5_forget 1 = .ok (.iconst 0, 1) := by decide +kernel
theorem dX5_forget_2 : decode cX5_forget 2 = .ok (.putfield 16, 3) := by decide +kernel
theorem dX5_forget_5 : decode cX5_forget 5 = .ok (.return_, 1) := by decide +kernel
theorem dX5_placeAt_0 : decode cX5_placeAt 0 = .ok (.iload_n 1, 1) := by decide +kernel
theorem dX5_placeAt_1 : decode cX5_placeAt 1 = .ok (.ifCond .lt 21, 3) := by decide +kernel
theorem dX5_placeAt_4 : decode cX5_placeAt 4 = .ok (.iload_n 1, 1) := by decide +kernel
theorem dX5_placeAt_5 : decode cX5_placeAt 5 = .ok (.aload_n 0, 1) := by decide +kernel
theorem dX5_placeAt_6 : decode cX5_placeAt 6 = .ok (.getfield 11, 3) := by decide +kernel
theorem dX5_placeAt_9 : decode cX5_placeAt 9 = .ok (.arraylength, 1) := by decide +kernel
theorem dX5_placeAt_10 : decode cX5_placeAt 10 = .ok (.if_icmp .ge 12, 3) := by decide +kernel
theorem dX5_placeAt_13 : decode cX5_placeAt 13 = .ok (.aload_n 0, 1) := by decide +kernel
theorem dX5_placeAt_14 : decode cX5_placeAt 14 = .ok (.getfield 11, 3) := by decide +kernel
theorem dX5_placeAt_17 : decode cX5_placeAt 17 = .ok (.iload_n 1, 1) := by decide +kernel
theorem dX5_placeAt_18 : decode cX5_placeAt 18 = .ok (.aaload, 1) := by decide +kernel
theorem dX5_placeAt_19 : decode cX5_placeAt 19 = .ok (.goto 4, 3) := by decide +kernel
theorem dX5_placeAt_22 : decode cX5_placeAt 22 = .ok (.aconst_null, 1) := by decide +kernel
theorem dX5_placeAt_23 : decode cX5_placeAt 23 = .ok (.areturn, 1) := by decide +kernel
theorem dX5_note_0 : decode cX5_note 0 = .ok (.aload_n 0, 1) := by decide +kernel
theorem dX5_note_1 : decode cX5_note 1 = .ok (.aload_n 0, 1) := by decide +kernel
theorem dX5_note_2 : decode cX5_note 2 = .ok (.getfield 20, 3) := by decide +kernel
theorem dX5_note_5 : decode cX5_note 5 = .ok (.iconst 1, 1) := by decide +kernel
theorem dX5_note_6 : decode cX5_note 6 = .ok (.iadd, 1) := by decide +kernel
theorem dX5_note_7 : decode cX5_note 7 = .ok (.bipush 9, 2) := by decide +kernel
theorem dX5_note_9 : decode cX5_note 9 = .ok (.irem, 1) := by decide +kernel
theorem dX5_note_10 : decode cX5_note 10 = .ok (.invokevirtual 23, 3) := by decide +kernel
theorem dX5_note_13 : decode cX5_note 13 = .ok (.astore_n 2, 1) := by decide +kernel
theorem dX5_note_14 : decode cX5_note 14 = .ok (.aload_n 2, 1) := by decide +kernel
theorem dX5_note_15 : decode cX5_note 15 = .ok (.ifnull 8, 3) := by decide +kernel
theorem dX5_note_18 : decode cX5_note 18 = .ok (.aload_n 2, 1) := by decide +kernel
theorem dX5_note_19 : decode cX5_note 19 = .ok (.aload_n 1, 1) := by decide +kernel
theorem dX5_note_20 : decode cX5_note 20 = .ok (.invokevirtual 27, 3) := by decide +kernel
theorem dX5_note_23 : decode cX5_note 23 = .ok (.return_, 1) := by decide +kernel
theorem dX5_keepNoted_0 : decode cX5_keepNoted 0 = .ok (.aload_n 0, 1) := by decide +kernel
theorem dX5_keepNoted_1 : decode cX5_keepNoted 1 = .ok (.aload_n 0, 1) := by decide +kernel
theorem dX5_keepNoted_2 : decode cX5_keepNoted 2 = .ok (.getfield 20, 3) := by decide +kernel
theorem dX5_keepNoted_5 : decode cX5_keepNoted 5 = .ok (.iconst 1, 1) := by decide +kernel
theorem dX5_keepNoted_6 : decode cX5_keepNoted 6 = .ok (.iadd, 1) := by decide +kernel
theorem dX5_keepNoted_7 : decode cX5_keepNoted 7 = .ok (.bipush 9, 2) := by decide +kernel
theorem dX5_keepNoted_9 : decode cX5_keepNoted 9 = .ok (.irem, 1) := by decide +kernel
theorem dX5_keepNoted_10 : decode cX5_keepNoted 10 = .ok (.putfield 20, 3) := by decide +kernel
theorem dX5_keepNoted_13 : decode cX5_keepNoted 13 = .ok (.aload_n 0, 1) := by decide +kernel
theorem dX5_keepNoted_14 : decode cX5_keepNoted 14 = .ok (.bipush 8, 2) := by decide +kernel
theorem dX5_keepNoted_16 : decode cX5_keepNoted 16 = .ok (.aload_n 0, 1) := by decide +kernel
theorem dX5_keepNoted_17 : decode cX5_keepNoted 17 = .ok (.getfield 16, 3) := by decide +kernel
theorem dX5_keepNoted_20 : decode cX5_keepNoted 20 = .ok (.iconst 1, 1) := by decide +kernel
theorem dX5_keepNoted_21 : decode cX5_keepNoted 21 = .ok (.iadd, 1) := by decide +kernel
theorem dX5_keepNoted_22 : decode cX5_keepNoted 22 = .ok (.invokestatic 31, 3) := by decide +kernel
theorem dX5_keepNoted_25 : decode cX5_keepNoted 25 = .ok (.putfield 16, 3) := by decide +kernel
theorem dX5_keepNoted_28 : decode cX5_keepNoted 28 = .ok (.return_, 1) := by decide +kernel
theorem dX5_giveLatest_0 : decode cX5_giveLatest 0 = .ok (.aload_n 0, 1) := by decide +kernel
theorem dX5_giveLatest_1 : decode cX5_giveLatest 1 = .ok (.aload_n 0, 1) := by decide +kernel
theorem dX5_giveLatest_2 : decode cX5_giveLatest 2 = .ok (.getfield 20, 3) := by decide +kernel
theorem dX5_giveLatest_5 : decode cX5_giveLatest 5 = .ok (.invokevirtual 23, 3) := by decide +kernel
theorem dX5_giveLatest_8 : decode cX5_giveLatest 8 = .ok (.astore_n 2, 1) := by decide +kernel
theorem dX5_giveLatest_9 : decode cX5_giveLatest 9 = .ok (.aload_n 0, 1) := by decide +kernel
theorem dX5_giveLatest_10 : decode cX5_giveLatest 10 = .ok (.getfield 16, 3) := by decide +kernel
theorem dX5_giveLatest_13 : decode cX5_giveLatest 13 = .ok (.ifCond .le 7, 3) := by decide +kernel
theorem dX5_giveLatest_16 : decode cX5_giveLatest 16 = .ok (.aload_n 2, 1) := by decide +kernel
theorem dX5_giveLatest_17 : decode cX5_giveLatest 17 = .ok (.ifnonnull 5, 3) := by decide +kernel
theorem dX5_giveLatest_20 : decode cX5_giveLatest 20 = .ok (.iconst 0, 1) := by decide +kernel
theorem dX5_giveLatest_21 : decode cX5_giveLatest 21 = .ok (.ireturn, 1) := by decide +kernel
theorem dX5_giveLatest_22 : decode cX5_giveLatest 22 = .ok (.aload_n 1, 1) := by decide +kernel
theorem dX5_giveLatest_23 : decode cX5_giveLatest 23 = .ok (.aload_n 2, 1) := by decide +kernel
theorem dX5_giveLatest_24 : decode cX5_giveLatest 24 = .ok (.invokevirtual 27, 3) := by decide +kernel
theorem dX5_giveLatest_27 : decode cX5_giveLatest 27 = .ok (.aload_n 0, 1) := by decide +kernel
theorem dX5_giveLatest_28 : decode cX5_giveLatest 28 = .ok (.aload_n 0, 1) := by decide +kernel
theorem dX5_giveLatest_29 : decode cX5_giveLatest 29 = .ok (.getfield 20, 3) := by decide +kernel
theorem dX5_giveLatest_32 : decode cX5_giveLatest 32 = .ok (.bipush 9, 2) := by decide +kernel
theorem dX5_giveLatest_34 : decode cX5_giveLatest 34 = .ok (.iadd, 1) := by decide +kernel
theorem dX5_giveLatest_35 : decode cX5_giveLatest 35 = .ok (.iconst 1, 1) := by decide +kernel
theorem dX5_giveLatest_36 : decode cX5_giveLatest 36 = .ok (.isub, 1) := by decide +kernel
theorem dX5_giveLatest_37 : decode cX5_giveLatest 37 = .ok (.bipush 9, 2) := by decide +kernel
theorem dX5_giveLatest_39 : decode cX5_giveLatest 39 = .ok (.irem, 1) := by decide +kernel
theorem dX5_giveLatest_40 : decode cX5_giveLatest 40 = .ok (.putfield 20, 3) := by decide +kernel
theorem dX5_giveLatest_43 : decode cX5_giveLatest 43 = .ok (.aload_n 0, 1) := by decide +kernel
theorem dX5_giveLatest_44 : decode cX5_giveLatest 44 = .ok (.dup, 1) := by decide +kernel
theorem dX5_giveLatest_45 : decode cX5_giveLatest 45 = .ok (.getfield 16, 3) := by decide +kernel
theorem dX5_giveLatest_48 : decode cX5_giveLatest 48 = .ok (.iconst 1, 1) := by decide +kernel
theorem dX5_giveLatest_49 : decode cX5_giveLatest 49 = .ok (.isub, 1) := by decide +kernel
theorem dX5_giveLatest_50 : decode cX5_giveLatest 50 = .ok (.putfield 16, 3) := by decide +kernel
theorem dX5_giveLatest_53 : decode cX5_giveLatest 53 = .ok (.iconst 1, 1) := by decide +kernel
theorem dX5_giveLatest_54 : decode cX5_giveLatest 54 = .ok (.ireturn, 1) := by decide +kernel
theorem dX6_init_0 : decode cX6_init 0 = .ok (.aload_n 0, 1) := by decide +kernel
theorem dX6_init_1 : decode cX6_init 1 = .ok (.invokespecial 5, 3) := by decide +kernel
theorem dX6_init_4 : decode cX6_init 4 = .ok (.aload_n 0, 1) := by decide +kernel
theorem dX6_init_5 : decode cX6_init 5 = .ok (.new 11, 3) := by decide +kernel
theorem dX6_init_8 : decode cX6_init 8 = .ok (.dup, 1) := by decide +kernel
theorem dX6_init_9 : decode cX6_init 9 = .ok (.invokespecial 13, 3) := by decide +kernel
theorem dX6_init_12 : decode cX6_init 12 = .ok (.putfield 14, 3) := by decide +kernel
theorem dX6_init_15 : decode cX6_init 15 = .ok (.aload_n 0, 1) := by decide +kernel
theorem dX6_init_16 : decode cX6_init 16 = .ok (.bipush 12, 2) := by decide +kernel
theorem dX6_init_18 : decode cX6_init 18 = .ok (.newarray .long, 2) := by decide +kernel
theorem dX6_init_20 : decode cX6_init 20 = .ok (.putfield 18, 3) := by decide +kernel
theorem dX6_init_23 : decode cX6_init 23 = .ok (.return_, 1) := by decide +kernel
theorem dX6_readAll_0 : decode cX6_readAll 0 = .ok (.aload_n 0, 1) := by decide +kernel
theorem dX6_readAll_1 : decode cX6_readAll 1 = .ok (.getfield 14, 3) := by decide +kernel
theorem dX6_readAll_4 : decode cX6_readAll 4 = .ok (.invokevirtual 22, 3) := by decide +kernel
theorem dX6_readAll_7 : decode cX6_readAll 7 = .ok (.aload_n 0, 1) := by decide +kernel
theorem dX6_readAll_8 : decode cX6_readAll 8 = .ok (.iconst 0, 1) := by decide +kernel
theorem dX6_readAll_9 : decode cX6_readAll 9 = .ok (.putfield 25, 3) := by decide +kernel
theorem dX6_readAll_12 : decode cX6_readAll 12 = .ok (.aload_n 0, 1) := by decide +kernel
theorem dX6_readAll_13 : decode cX6_readAll 13 = .ok (.iconst 0, 1) := by decide +kernel
theorem dX6_readAll_14 : decode cX6_readAll 14 = .ok (.putfield 29, 3) := by decide +kernel
theorem dX6_readAll_17 : decode cX6_readAll 17 = .ok (.aload_n 0, 1) := by decide +kernel
theorem dX6_readAll_18 : decode cX6_readAll 18 = .ok (.iconst (-1), 1) := by decide +kernel
theorem dX6_readAll_19 : decode cX6_readAll 19 = .ok (.putfield 32, 3) := by decide +kernel
theorem dX6_readAll_22 : decode cX6_readAll 22 = .ok (.aload_n 1, 1) := by decide +kernel
theorem dX6_readAll_23 : decode cX6_readAll 23 = .ok (.getfield 35, 3) := by decide +kernel
theorem dX6_readAll_26 : decode cX6_readAll 26 = .ok (.sipush 600, 3) := by decide +kernel
theorem dX6_readAll_29 : decode cX6_readAll 29 = .ok (.invokestatic 40, 3) := by decide +kernel
theorem dX6_readAll_32 : decode cX6_readAll 32 = .ok (.istore_n 2, 1) := by decide +kernel
theorem dX6_readAll_33 : decode cX6_readAll 33 = .ok (.aload_n 0, 1) := by decide +kernel
theorem dX6_readAll_34 : decode cX6_readAll 34 = .ok (.iconst 0, 1) := by decide +kernel
theorem dX6_readAll_35 : decode cX6_readAll 35 = .ok (.putfield 46, 3) := by decide +kernel
theorem dX6_readAll_38 : decode cX6_readAll 38 = .ok (.iconst 0, 1) := by decide +kernel
theorem dX6_readAll_39 : decode cX6_readAll 39 = .ok (.istore_n 3, 1) := by decide +kernel
theorem dX6_readAll_40 : decode cX6_readAll 40 = .ok (.iload_n 3, 1) := by decide +kernel
theorem dX6_readAll_41 : decode cX6_readAll 41 = .ok (.sipush 640, 3) := by decide +kernel
theorem dX6_readAll_44 : decode cX6_readAll 44 = .ok (.if_icmp .ge 78, 3) := by decide +kernel
theorem dX6_readAll_47 : decode cX6_readAll 47 = .ok (.aload_n 0, 1) := by decide +kernel
theorem dX6_readAll_48 : decode cX6_readAll 48 = .ok (.getfield 46, 3) := by decide +kernel
theorem dX6_readAll_51 : decode cX6_readAll 51 = .ok (.iload_n 2, 1) := by decide +kernel
theorem dX6_readAll_52 : decode cX6_readAll 52 = .ok (.if_icmp .ge 70, 3) := by decide +kernel
theorem dX6_readAll_55 : decode cX6_readAll 55 = .ok (.aload_n 1, 1) := by decide +kernel
theorem dX6_readAll_56 : decode cX6_readAll 56 = .ok (.aload_n 0, 1) := by decide +kernel
theorem dX6_readAll_57 : decode cX6_readAll 57 = .ok (.getfield 46, 3) := by decide +kernel
theorem dX6_readAll_60 : decode cX6_readAll 60 = .ok (.invokevirtual 49, 3) := by decide +kernel
theorem dX6_readAll_63 : decode cX6_readAll 63 = .ok (.istore 4, 2) := by decide +kernel
theorem dX6_readAll_65 : decode cX6_readAll 65 = .ok (.aload_n 0, 1) := by decide +kernel
theorem dX6_readAll_66 : decode cX6_readAll 66 = .ok (.aload_n 0, 1) := by decide +kernel
theorem dX6_readAll_67 : decode cX6_readAll 67 = .ok (.getfield 46, 3) := by decide +kernel
theorem dX6_readAll_70 : decode cX6_readAll 70 = .ok (.iconst 1, 1) := by decide +kernel
theorem dX6_readAll_71 : decode cX6_readAll 71 = .ok (.iadd, 1) := by decide +kernel
theorem dX6_readAll_72 : decode cX6_readAll 72 = .ok (.putfield 53, 3) := by decide +kernel
theorem dX6_readAll_75 : decode cX6_readAll 75 = .ok (.iload 4, 2) := by decide +kernel
theorem dX6_readAll_77 : decode cX6_readAll 77 = .ok (.bipush 32, 2) := by decide +kernel
theorem dX6_readAll_79 : decode cX6_readAll 79 = .ok (.if_icmp .eq 29, 3) := by decide +kernel
theorem dX6_readAll_82 : decode cX6_readAll 82 = .ok (.iload 4, 2) := by decide +kernel
theorem dX6_readAll_84 : decode cX6_readAll 84 = .ok (.bipush 10, 2) := by decide +kernel
theorem dX6_readAll_86 : decode cX6_readAll 86 = .ok (.if_icmp .eq 22, 3) := by decide +kernel
theorem dX6_readAll_89 : decode cX6_readAll 89 = .ok (.aload_n 0, 1) := by decide +kernel
theorem dX6_readAll_90 : decode cX6_readAll 90 = .ok (.aload_n 1, 1) := by decide +kernel
theorem dX6_readAll_91 : decode cX6_readAll 91 = .ok (.invokevirtual 56, 3) := by decide +kernel
theorem dX6_readAll_94 : decode cX6_readAll 94 = .ok (.aload_n 0, 1) := by decide +kernel
theorem dX6_readAll_95 : decode cX6_readAll 95 = .ok (.invokevirtual 60, 3) := by decide +kernel
theorem dX6_readAll_98 : decode cX6_readAll 98 = .ok (.istore 5, 2) := by decide +kernel
theorem dX6_readAll_100 : decode cX6_readAll 100 = .ok (.iload 5, 2) := by decide +kernel
theorem dX6_readAll_102 : decode cX6_readAll 102 = .ok (.ifCond .eq 6, 3) := by decide +kernel
theorem dX6_readAll_105 : decode cX6_readAll 105 = .ok (.iload 5, 2) := by decide +kernel
theorem dX6_readAll_107 : decode cX6_readAll 107 = .ok (.ireturn, 1) := by decide +kernel
theorem dX6_readAll_108 : decode cX6_readAll 108 = .ok (.aload_n 0, 1) := by decide +kernel
theorem dX6_readAll_109 : decode cX6_readAll 109 = .ok (.aload_n 0, 1) := by decide +kernel
theorem dX6_readAll_110 : decode cX6_readAll 110 = .ok (.getfield 53, 3) := by decide +kernel
theorem dX6_readAll_113 : decode cX6_readAll 113 = .ok (.putfield 46, 3) := by decide +kernel
theorem dX6_readAll_116 : decode cX6_readAll 116 = .ok (.iinc 3 1, 3) := by decide +kernel
theorem dX6_readAll_119 : decode cX6_readAll 119 = .ok (.goto (-79), 3) := by decide +kernel
theorem dX6_readAll_122 : decode cX6_readAll 122 = .ok (.aload_n 0, 1) := by decide +kernel
theorem dX6_readAll_123 : decode cX6_readAll 123 = .ok (.iload_n 2, 1) := by decide +kernel
theorem dX6_readAll_124 : decode cX6_readAll 124 = .ok (.putfield 46, 3) := by decide +kernel
theorem dX6_readAll_127 : decode cX6_readAll 127 = .ok (.aload_n 1, 1) := by decide +kernel
theorem dX6_readAll_128 : decode cX6_readAll 128 = .ok (.getfield 35, 3) := by decide +kernel
theorem dX6_readAll_131 : decode cX6_readAll 131 = .ok (.sipush 600, 3) := by decide +kernel
theorem dX6_readAll_134 : decode cX6_readAll 134 = .ok (.if_icmp .gt 10, 3) := by decide +kernel
theorem dX6_readAll_137 : decode cX6_readAll 137 = .ok (.aload_n 0, 1) := by decide +kernel
theorem dX6_readAll_138 : decode cX6_readAll 138 = .ok (.getfield 29, 3) := by decide +kernel
theorem dX6_readAll_141 : decode cX6_readAll 141 = .ok (.ifCond .eq 7, 3) := by decide +kernel
theorem dX6_readAll_144 : decode cX6_readAll 144 = .ok (.iconst 1, 1) := by decide +kernel
theorem dX6_readAll_145 : decode cX6_readAll 145 = .ok (.goto 4, 3) := by decide +kernel
theorem dX6_readAll_148 : decode cX6_readAll 148 = .ok (.iconst 0, 1) := by decide +kernel
theorem dX6_readAll_149 : decode cX6_readAll 149 = .ok (.ireturn, 1) := by decide +kernel
theorem dX6_readToken_0 : decode cX6_readToken 0 = .ok (.aload_n 1, 1) := by decide +kernel
theorem dX6_readToken_1 : decode cX6_readToken 1 = .ok (.aload_n 0, 1) := by decide +kernel
theorem dX6_readToken_2 : decode cX6_readToken 2 = .ok (.getfield 46, 3) := by decide +kernel
theorem dX6_readToken_5 : decode cX6_readToken 5 = .ok (.invokevirtual 49, 3) := by decide +kernel
theorem dX6_readToken_8 : decode cX6_readToken 8 = .ok (.istore_n 2, 1) := by decide +kernel
theorem dX6_readToken_9 : decode cX6_readToken 9 = .ok (.aload_n 0, 1) := by decide +kernel
theorem dX6_readToken_10 : decode cX6_readToken 10 = .ok (.iload_n 2, 1) := by decide +kernel
theorem dX6_readToken_11 : decode cX6_readToken 11 = .ok (.bipush 59, 2) := by decide +kernel
theorem dX6_readToken_13 : decode cX6_readToken 13 = .ok (.if_icmp .ne 7, 3) := by decide +kernel
theorem dX6_readToken_16 : decode cX6_readToken 16 = .ok (.iconst 3, 1) := by decide +kernel
theorem dX6_readToken_17 : decode cX6_readToken 17 = .ok (.goto 4, 3) := by decide +kernel
theorem dX6_readToken_20 : decode cX6_readToken 20 = .ok (.iconst 0, 1) := by decide +kernel
theorem dX6_readToken_21 : decode cX6_readToken 21 = .ok (.putfield 64, 3) := by decide +kernel
theorem dX6_readToken_24 : decode cX6_readToken 24 = .ok (.aload_n 0, 1) := by decide +kernel
theorem dX6_readToken_25 : decode cX6_readToken 25 = .ok (.lconst 0, 1) := by decide +kernel
theorem dX6_readToken_26 : decode cX6_readToken 26 = .ok (.putfield 67, 3) := by decide +kernel
theorem dX6_readToken_29 : decode cX6_readToken 29 = .ok (.iload_n 2, 1) := by decide +kernel
theorem dX6_readToken_30 : decode cX6_readToken 30 = .ok (.invokestatic 71, 3) := by decide +kernel
theorem dX6_readToken_33 : decode cX6_readToken 33 = .ok (.ifCond .ne 11, 3) := by decide +kernel
theorem dX6_readToken_36 : decode cX6_readToken 36 = .ok (.iload_n 2, 1) := by decide +kernel
theorem dX6_readToken_37 : decode cX6_readToken 37 = .ok (.invokestatic 75, 3) := by decide +kernel
theorem dX6_readToken_40 : decode cX6_readToken 40 = .ok (.ifCond .ne 4, 3) := by decide +kernel
theorem dX6_readToken_43 : decode cX6_readToken 43 = .ok (.return_, 1) := by decide +kernel
theorem dX6_readToken_44 : decode cX6_readToken 44 = .ok (.iconst 1, 1) := by decide +kernel
theorem dX6_readToken_45 : decode cX6_readToken 45 = .ok (.istore_n 3, 1) := by decide +kernel
theorem dX6_readToken_46 : decode cX6_readToken 46 = .ok (.iconst 1, 1) := by decide +kernel
theorem dX6_readToken_47 : decode cX6_readToken 47 = .ok (.istore 4, 2) := by decide +kernel
theorem dX6_readToken_49 : decode cX6_readToken 49 = .ok (.iconst 0, 1) := by decide +kernel
theorem dX6_readToken_50 : decode cX6_readToken 50 = .ok (.istore 5, 2) := by decide +kernel
theorem dX6_readToken_52 : decode cX6_readToken 52 = .ok (.aload_n 0, 1) := by decide +kernel
theorem dX6_readToken_53 : decode cX6_readToken 53 = .ok (.getfield 46, 3) := by decide +kernel
theorem dX6_readToken_56 : decode cX6_readToken 56 = .ok (.istore 6, 2) := by decide +kernel
theorem dX6_readToken_58 : decode cX6_readToken 58 = .ok (.iload 6, 2) := by decide +kernel
theorem dX6_readToken_60 : decode cX6_readToken 60 = .ok (.sipush 640, 3) := by decide +kernel
theorem dX6_readToken_63 : decode cX6_readToken 63 = .ok (.if_icmp .ge 107, 3) := by decide +kernel
theorem dX6_readToken_66 : decode cX6_readToken 66 = .ok (.aload_n 1, 1) := by decide +kernel
theorem dX6_readToken_67 : decode cX6_readToken 67 = .ok (.iload 6, 2) := by decide +kernel
theorem dX6_readToken_69 : decode cX6_readToken 69 = .ok (.invokevirtual 49, 3) := by decide +kernel
theorem dX6_readToken_72 : decode cX6_readToken 72 = .ok (.invokestatic 71, 3) := by decide +kernel
theorem dX6_readToken_75 : decode cX6_readToken 75 = .ok (.ifCond .ne 15, 3) := by decide +kernel
theorem dX6_readToken_78 : decode cX6_readToken 78 = .ok (.aload_n 1, 1) := by decide +kernel
theorem dX6_readToken_79 : decode cX6_readToken 79 = .ok (.iload 6, 2) := by decide +kernel
theorem dX6_readToken_81 : decode cX6_readToken 81 = .ok (.invokevirtual 49, 3) := by decide +kernel
theorem dX6_readToken_84 : decode cX6_readToken 84 = .ok (.invokestatic 75, 3) := by decide +kernel
theorem dX6_readToken_87 : decode cX6_readToken 87 = .ok (.ifCond .eq 83, 3) := by decide +kernel
theorem dX6_readToken_90 : decode cX6_readToken 90 = .ok (.aload_n 1, 1) := by decide +kernel
theorem dX6_readToken_91 : decode cX6_readToken 91 = .ok (.iload 6, 2) := by decide +kernel
theorem dX6_readToken_93 : decode cX6_readToken 93 = .ok (.invokevirtual 49, 3) := by decide +kernel
theorem dX6_readToken_96 : decode cX6_readToken 96 = .ok (.istore_n 2, 1) := by decide +kernel
theorem dX6_readToken_97 : decode cX6_readToken 97 = .ok (.iload_n 3, 1) := by decide +kernel
theorem dX6_readToken_98 : decode cX6_readToken 98 = .ok (.iload_n 2, 1) := by decide +kernel
theorem dX6_readToken_99 : decode cX6_readToken 99 = .ok (.invokestatic 71, 3) := by decide +kernel
theorem dX6_readToken_102 : decode cX6_readToken 102 = .ok (.iand, 1) := by decide +kernel
theorem dX6_readToken_103 : decode cX6_readToken 103 = .ok (.istore_n 3, 1) := by decide +kernel
theorem dX6_readToken_104 : decode cX6_readToken 104 = .ok (.iload 4, 2) := by decide +kernel
theorem dX6_readToken_106 : decode cX6_readToken 106 = .ok (.iload_n 2, 1) := by decide +kernel
theorem dX6_readToken_107 : decode cX6_readToken 107 = .ok (.invokestatic 75, 3) := by decide +kernel
theorem dX6_readToken_110 : decode cX6_readToken 110 = .ok (.iand, 1) := by decide +kernel
theorem dX6_readToken_111 : decode cX6_readToken 111 = .ok (.istore 4, 2) := by decide +kernel
theorem dX6_readToken_113 : decode cX6_readToken 113 = .ok (.iinc 5 1, 3) := by decide +kernel
theorem dX6_readToken_116 : decode cX6_readToken 116 = .ok (.iload 5, 2) := by decide +kernel
theorem dX6_readToken_118 : decode cX6_readToken 118 = .ok (.bipush 7, 2) := by decide +kernel
theorem dX6_readToken_120 : decode cX6_readToken 120 = .ok (.if_icmp .gt 44, 3) := by decide +kernel
theorem dX6_readToken_123 : decode cX6_readToken 123 = .ok (.aload_n 0, 1) := by decide +kernel
theorem dX6_readToken_124 : decode cX6_readToken 124 = .ok (.iload_n 3, 1) := by decide +kernel
theorem dX6_readToken_125 : decode cX6_readToken 125 = .ok (.ifCond .eq 22, 3) := by decide +kernel
theorem dX6_readToken_128 : decode cX6_readToken 128 = .ok (.aload_n 0, 1) := by decide +kernel
theorem dX6_readToken_129 : decode cX6_readToken 129 = .ok (.getfield 67, 3) := by decide +kernel
theorem dX6_readToken_132 : decode cX6_readToken 132 = .ok (.ldc2_w 78, 3) := by decide +kernel
theorem dX6_readToken_135 : decode cX6_readToken 135 = .ok (.lmul, 1) := by decide +kernel
theorem dX6_readToken_136 : decode cX6_readToken 136 = .ok (.iload_n 2, 1) := by decide +kernel
theorem dX6_readToken_137 : decode cX6_readToken 137 = .ok (.bipush 97, 2) := by decide +kernel
theorem dX6_readToken_139 : decode cX6_readToken 139 = .ok (.isub, 1) := by decide +kernel
theorem dX6_readToken_140 : decode cX6_readToken 140 = .ok (.iconst 1, 1) := by decide +kernel
theorem dX6_readToken_141 : decode cX6_readToken 141 = .ok (.iadd, 1) := by decide +kernel
theorem dX6_readToken_142 : decode cX6_readToken 142 = .ok (.i2l, 1) := by decide +kernel
theorem dX6_readToken_143 : decode cX6_readToken 143 = .ok (.ladd, 1) := by decide +kernel
theorem dX6_readToken_144 : decode cX6_readToken 144 = .ok (.goto 17, 3) := by decide +kernel
theorem dX6_readToken_147 : decode cX6_readToken 147 = .ok (.aload_n 0, 1) := by decide +kernel
theorem dX6_readToken_148 : decode cX6_readToken 148 = .ok (.getfield 67, 3) := by decide +kernel
theorem dX6_readToken_151 : decode cX6_readToken 151 = .ok (.ldc2_w 80, 3) := by decide +kernel
theorem dX6_readToken_154 : decode cX6_readToken 154 = .ok (.lmul, 1) := by decide +kernel
theorem dX6_readToken_155 : decode cX6_readToken 155 = .ok (.iload_n 2, 1) := by decide +kernel
theorem dX6_readToken_156 : decode cX6_readToken 156 = .ok (.bipush 48, 2) := by decide +kernel
theorem dX6_readToken_158 : decode cX6_readToken 158 = .ok (.isub, 1) := by decide +kernel
theorem dX6_readToken_159 : decode cX6_readToken 159 = .ok (.i2l, 1) := by decide +kernel
theorem dX6_readToken_160 : decode cX6_readToken 160 = .ok (.ladd, 1) := by decide +kernel
theorem dX6_readToken_161 : decode cX6_readToken 161 = .ok (.putfield 67, 3) := by decide +kernel
theorem dX6_readToken_164 : decode cX6_readToken 164 = .ok (.iinc 6 1, 3) := by decide +kernel
theorem dX6_readToken_167 : decode cX6_readToken 167 = .ok (.goto (-109), 3) := by decide +kernel
theorem dX6_readToken_170 : decode cX6_readToken 170 = .ok (.aload_n 0, 1) := by decide +kernel
theorem dX6_readToken_171 : decode cX6_readToken 171 = .ok (.aload_n 0, 1) := by decide +kernel
theorem dX6_readToken_172 : decode cX6_readToken 172 = .ok (.getfield 46, 3) := by decide +kernel
theorem dX6_readToken_175 : decode cX6_readToken 175 = .ok (.iload 5, 2) := by decide +kernel
theorem dX6_readToken_177 : decode cX6_readToken 177 = .ok (.iadd, 1) := by decide +kernel
theorem dX6_readToken_178 : decode cX6_readToken 178 = .ok (.putfield 53, 3) := by decide +kernel
theorem dX6_readToken_181 : decode cX6_readToken 181 = .ok (.iload_n 3, 1) := by decide +kernel
theorem dX6_readToken_182 : decode cX6_readToken 182 = .ok (.ifCond .eq 18, 3) := by decide +kernel
theorem dX6_readToken_185 : decode cX6_readToken 185 = .ok (.iload 5, 2) := by decide +kernel
theorem dX6_readToken_187 : decode cX6_readToken 187 = .ok (.bipush 7, 2) := by decide +kernel
theorem dX6_readToken_189 : decode cX6_readToken 189 = .ok (.if_icmp .gt 11, 3) := by decide +kernel
theorem dX6_readToken_192 : decode cX6_readToken 192 = .ok (.aload_n 0, 1) := by decide +kernel
theorem dX6_readToken_193 : decode cX6_readToken 193 = .ok (.iconst 1, 1) := by decide +kernel
theorem dX6_readToken_194 : decode cX6_readToken 194 = .ok (.putfield 64, 3) := by decide +kernel
theorem dX6_readToken_197 : decode cX6_readToken 197 = .ok (.goto 19, 3) := by decide +kernel
theorem dX6_readToken_200 : decode cX6_readToken 200 = .ok (.iload 4, 2) := by decide +kernel
theorem dX6_readToken_202 : decode cX6_readToken 202 = .ok (.ifCond .eq 14, 3) := by decide +kernel
theorem dX6_readToken_205 : decode cX6_readToken 205 = .ok (.iload 5, 2) := by decide +kernel
theorem dX6_readToken_207 : decode cX6_readToken 207 = .ok (.iconst 2, 1) := by decide +kernel
theorem dX6_readToken_208 : decode cX6_readToken 208 = .ok (.if_icmp .gt 8, 3) := by decide +kernel
theorem dX6_readToken_211 : decode cX6_readToken 211 = .ok (.aload_n 0, 1) := by decide +kernel
theorem dX6_readToken_212 : decode cX6_readToken 212 = .ok (.iconst 2, 1) := by decide +kernel
theorem dX6_readToken_213 : decode cX6_readToken 213 = .ok (.putfield 64, 3) := by decide +kernel
theorem dX6_readToken_216 : decode cX6_readToken 216 = .ok (.return_, 1) := by decide +kernel
theorem dX6_isLetter_0 : decode cX6_isLetter 0 = .ok (.iload_n 0, 1) := by decide +kernel
theorem dX6_isLetter_1 : decode cX6_isLetter 1 = .ok (.bipush 97, 2) := by decide +kernel
theorem dX6_isLetter_3 : decode cX6_isLetter 3 = .ok (.if_icmp .lt 13, 3) := by decide +kernel
theorem dX6_isLetter_6 : decode cX6_isLetter 6 = .ok (.iload_n 0, 1) := by decide +kernel
theorem dX6_isLetter_7 : decode cX6_isLetter 7 = .ok (.bipush 122, 2) := by decide +kernel
theorem dX6_isLetter_9 : decode cX6_isLetter 9 = .ok (.if_icmp .gt 7, 3) := by decide +kernel
theorem dX6_isLetter_12 : decode cX6_isLetter 12 = .ok (.iconst 1, 1) := by decide +kernel
theorem dX6_isLetter_13 : decode cX6_isLetter 13 = .ok (.goto 4, 3) := by decide +kernel
theorem dX6_isLetter_16 : decode cX6_isLetter 16 = .ok (.iconst 0, 1) := by decide +kernel
theorem dX6_isLetter_17 : decode cX6_isLetter 17 = .ok (.ireturn, 1) := by decide +kernel
theorem dX6_isDigit_0 : decode cX6_isDigit 0 = .ok (.iload_n 0, 1) := by decide +kernel
theorem dX6_isDigit_1 : decode cX6_isDigit 1 = .ok (.bipush 48, 2) := by decide +kernel
theorem dX6_isDigit_3 : decode cX6_isDigit 3 = .ok (.if_icmp .lt 13, 3) := by decide +kernel
theorem dX6_isDigit_6 : decode cX6_isDigit 6 = .ok (.iload_n 0, 1) := by decide +kernel
theorem dX6_isDigit_7 : decode cX6_isDigit 7 = .ok (.bipush 57, 2) := by decide +kernel
theorem dX6_isDigit_9 : decode cX6_isDigit 9 = .ok (.if_icmp .gt 7, 3) := by decide +kernel
theorem dX6_isDigit_12 : decode cX6_isDigit 12 = .ok (.iconst 1, 1) := by decide +kernel
theorem dX6_isDigit_13 : decode cX6_isDigit 13 = .ok (.goto 4, 3) := by decide +kernel
theorem dX6_isDigit_16 : decode cX6_isDigit 16 = .ok (.iconst 0, 1) := by decide +kernel
theorem dX6_isDigit_17 : decode cX6_isDigit 17 = .ok (.ireturn, 1) := by decide +kernel
theorem dX6_takeToken_0 : decode cX6_takeToken 0 = .ok (.aload_n 0, 1) := by decide +kernel
theorem dX6_takeToken_1 : decode cX6_takeToken 1 = .ok (.getfield 29, 3) := by decide +kernel
theorem dX6_takeToken_4 : decode cX6_takeToken 4 = .ok (.tableswitch 80 0 5 #[40, 45, 50, 80, 70, 75], 40) := by decide +kernel
theorem dX6_takeToken_44 : decode cX6_takeToken 44 = .ok (.aload_n 0, 1) := by decide +kernel
theorem dX6_takeToken_45 : decode cX6_takeToken 45 = .ok (.invokevirtual 82, 3) := by decide +kernel
theorem dX6_takeToken_48 : decode cX6_takeToken 48 = .ok (.ireturn, 1) := by decide +kernel
theorem dX6_takeToken_49 : decode cX6_takeToken 49 = .ok (.aload_n 0, 1) := by decide +kernel
theorem dX6_takeToken_50 : decode cX6_takeToken 50 = .ok (.invokevirtual 85, 3) := by decide +kernel
theorem dX6_takeToken_53 : decode cX6_takeToken 53 = .ok (.ireturn, 1) := by decide +kernel
theorem dX6_takeToken_54 : decode cX6_takeToken 54 = .ok (.aload_n 0, 1) := by decide +kernel
theorem dX6_takeToken_55 : decode cX6_takeToken 55 = .ok (.getfield 64, 3) := by decide +kernel
theorem dX6_takeToken_58 : decode cX6_takeToken 58 = .ok (.iconst 2, 1) := by decide +kernel
theorem dX6_takeToken_59 : decode cX6_takeToken 59 = .ok (.if_icmp .ne 10, 3) := by decide +kernel
theorem dX6_takeToken_62 : decode cX6_takeToken 62 = .ok (.aload_n 0, 1) := by decide +kernel
theorem dX6_takeToken_63 : decode cX6_takeToken 63 = .ok (.invokevirtual 88, 3) := by decide +kernel
theorem dX6_takeToken_66 : decode cX6_takeToken 66 = .ok (.goto 7, 3) := by decide +kernel
theorem dX6_takeToken_69 : decode cX6_takeToken 69 = .ok (.aload_n 0, 1) := by decide +kernel
theorem dX6_takeToken_70 : decode cX6_takeToken 70 = .ok (.invokevirtual 91, 3) := by decide +kernel
theorem dX6_takeToken_73 : decode cX6_takeToken 73 = .ok (.ireturn, 1) := by decide +kernel
theorem dX6_takeToken_74 : decode cX6_takeToken 74 = .ok (.aload_n 0, 1) := by decide +kernel
theorem dX6_takeToken_75 : decode cX6_takeToken 75 = .ok (.invokevirtual 94, 3) := by decide +kernel
theorem dX6_takeToken_78 : decode cX6_takeToken 78 = .ok (.ireturn, 1) := by decide +kernel
theorem dX6_takeToken_79 : decode cX6_takeToken 79 = .ok (.aload_n 0, 1) := by decide +kernel
theorem dX6_takeToken_80 : decode cX6_takeToken 80 = .ok (.invokevirtual 97, 3) := by decide +kernel
theorem dX6_takeToken_83 : decode cX6_takeToken 83 = .ok (.ireturn, 1) := by decide +kernel
theorem dX6_takeToken_84 : decode cX6_takeToken 84 = .ok (.aload_n 0, 1) := by decide +kernel
theorem dX6_takeToken_85 : decode cX6_takeToken 85 = .ok (.invokevirtual 91, 3) := by decide +kernel
theorem dX6_takeToken_88 : decode cX6_takeToken 88 = .ok (.ireturn, 1) := by decide +kernel
theorem dX6_beginRow_0 : decode cX6_beginRow 0 = .ok (.aload_n 0, 1) := by decide +kernel
theorem dX6_beginRow_1 : decode cX6_beginRow 1 = .ok (.getfield 64, 3) := by decide +kernel
theorem dX6_beginRow_4 : decode cX6_beginRow 4 = .ok (.iconst 1, 1) := by decide +kernel
theorem dX6_beginRow_5 : decode cX6_beginRow 5 = .ok (.if_icmp .ne 25, 3) := by decide +kernel
theorem dX6_beginRow_8 : decode cX6_beginRow 8 = .ok (.aload_n 0, 1) := by decide +kernel
theorem dX6_beginRow_9 : decode cX6_beginRow 9 = .ok (.getfield 67, 3) := by decide +kernel
theorem dX6_beginRow_12 : decode cX6_beginRow 12 = .ok (.ldc2_w 100, 3) := by decide +kernel
theorem dX6_beginRow_15 : decode cX6_beginRow 15 = .ok (.lcmp, 1) := by decide +kernel
theorem dX6_beginRow_16 : decode cX6_beginRow 16 = .ok (.ifCond .eq 16, 3) := by decide +kernel
theorem dX6_beginRow_19 : decode cX6_beginRow 19 = .ok (.aload_n 0, 1) := by decide +kernel
theorem dX6_beginRow_20 : decode cX6_beginRow 20 = .ok (.getfield 67, 3) := by decide +kernel
theorem dX6_beginRow_23 : decode cX6_beginRow 23 = .ok (.ldc2_w 102, 3) := by decide +kernel
theorem dX6_beginRow_26 : decode cX6_beginRow 26 = .ok (.lcmp, 1) := by decide +kernel
theorem dX6_beginRow_27 : decode cX6_beginRow 27 = .ok (.ifCond .eq 5, 3) := by decide +kernel
theorem dX6_beginRow_30 : decode cX6_beginRow 30 = .ok (.iconst 1, 1) := by decide +kernel
theorem dX6_beginRow_31 : decode cX6_beginRow 31 = .ok (.ireturn, 1) := by decide +kernel
theorem dX6_beginRow_32 : decode cX6_beginRow 32 = .ok (.aload_n 0, 1) := by decide +kernel
theorem dX6_beginRow_33 : decode cX6_beginRow 33 = .ok (.getfield 67, 3) := by decide +kernel
theorem dX6_beginRow_36 : decode cX6_beginRow 36 = .ok (.ldc2_w 100, 3) := by decide +kernel
theorem dX6_beginRow_39 : decode cX6_beginRow 39 = .ok (.lcmp, 1) := by decide +kernel
theorem dX6_beginRow_40 : decode cX6_beginRow 40 = .ok (.ifCond .ne 7, 3) := by decide +kernel
theorem dX6_beginRow_43 : decode cX6_beginRow 43 = .ok (.iconst 1, 1) := by decide +kernel
theorem dX6_beginRow_44 : decode cX6_beginRow 44 = .ok (.goto 4, 3) := by decide +kernel
theorem dX6_beginRow_47 : decode cX6_beginRow 47 = .ok (.iconst 0, 1) := by decide +kernel
theorem dX6_beginRow_48 : decode cX6_beginRow 48 = .ok (.istore_n 1, 1) := by decide +kernel
theorem dX6_beginRow_49 : decode cX6_beginRow 49 = .ok (.iload_n 1, 1) := by decide +kernel
theorem dX6_beginRow_50 : decode cX6_beginRow 50 = .ok (.ifCond .eq 18, 3) := by decide +kernel
theorem dX6_beginRow_53 : decode cX6_beginRow 53 = .ok (.aload_n 0, 1) := by decide +kernel
theorem dX6_beginRow_54 : decode cX6_beginRow 54 = .ok (.getfield 14, 3) := by decide +kernel
theorem dX6_beginRow_57 : decode cX6_beginRow 57 = .ok (.getfield 104, 3) := by decide +kernel
theorem dX6_beginRow_60 : decode cX6_beginRow 60 = .ok (.bipush 12, 2) := by decide +kernel
theorem dX6_beginRow_62 : decode cX6_beginRow 62 = .ok (.if_icmp .lt 20, 3) := by decide +kernel
theorem dX6_beginRow_65 : decode cX6_beginRow 65 = .ok (.goto 15, 3) := by decide +kernel
theorem dX6_beginRow_68 : decode cX6_beginRow 68 = .ok (.aload_n 0, 1) := by decide +kernel
theorem dX6_beginRow_69 : decode cX6_beginRow 69 = .ok (.getfield 14, 3) := by decide +kernel
theorem dX6_beginRow_72 : decode cX6_beginRow 72 = .ok (.getfield 107, 3) := by decide +kernel
theorem dX6_beginRow_75 : decode cX6_beginRow 75 = .ok (.bipush 20, 2) := by decide +kernel
theorem dX6_beginRow_77 : decode cX6_beginRow 77 = .ok (.if_icmp .lt 5, 3) := by decide +kernel
theorem dX6_beginRow_80 : decode cX6_beginRow 80 = .ok (.iconst 4, 1) := by decide +kernel
theorem dX6_beginRow_81 : decode cX6_beginRow 81 = .ok (.ireturn, 1) := by decide +kernel
theorem dX6_beginRow_82 : decode cX6_beginRow 82 = .ok (.aload_n 0, 1) := by decide +kernel
theorem dX6_beginRow_83 : decode cX6_beginRow 83 = .ok (.iload_n 1, 1) := by decide +kernel
theorem dX6_beginRow_84 : decode cX6_beginRow 84 = .ok (.ifCond .eq 7, 3) := by decide +kernel
theorem dX6_beginRow_87 : decode cX6_beginRow 87 = .ok (.iconst 1, 1) := by decide +kernel
theorem dX6_beginRow_88 : decode cX6_beginRow 88 = .ok (.goto 4, 3) := by decide +kernel
theorem dX6_beginRow_91 : decode cX6_beginRow 91 = .ok (.iconst 4, 1) := by decide +kernel
theorem dX6_beginRow_92 : decode cX6_beginRow 92 = .ok (.putfield 29, 3) := by decide +kernel
theorem dX6_beginRow_95 : decode cX6_beginRow 95 = .ok (.iconst 0, 1) := by decide +kernel
theorem dX6_beginRow_96 : decode cX6_beginRow 96 = .ok (.ireturn, 1) := by decide +kernel
theorem dX6_isName_0 : decode cX6_isName 0 = .ok (.aload_n 0, 1) := by decide +kernel
theorem dX6_isName_1 : decode cX6_isName 1 = .ok (.getfield 64, 3) := by decide +kernel
theorem dX6_isName_4 : decode cX6_isName 4 = .ok (.iconst 1, 1) := by decide +kernel
theorem dX6_isName_5 : decode cX6_isName 5 = .ok (.if_icmp .ne 29, 3) := by decide +kernel
theorem dX6_isName_8 : decode cX6_isName 8 = .ok (.aload_n 0, 1) := by decide +kernel
theorem dX6_isName_9 : decode cX6_isName 9 = .ok (.getfield 67, 3) := by decide +kernel
theorem dX6_isName_12 : decode cX6_isName 12 = .ok (.ldc2_w 100, 3) := by decide +kernel
theorem dX6_isName_15 : decode cX6_isName 15 = .ok (.lcmp, 1) := by decide +kernel
theorem dX6_isName_16 : decode cX6_isName 16 = .ok (.ifCond .eq 18, 3) := by decide +kernel
theorem dX6_isName_19 : decode cX6_isName 19 = .ok (.aload_n 0, 1) := by decide +kernel
theorem dX6_isName_20 : decode cX6_isName 20 = .ok (.getfield 67, 3) := by decide +kernel
theorem dX6_isName_23 : decode cX6_isName 23 = .ok (.ldc2_w 102, 3) := by decide +kernel
theorem dX6_isName_26 : decode cX6_isName 26 = .ok (.lcmp, 1) := by decide +kernel
theorem dX6_isName_27 : decode cX6_isName 27 = .ok (.ifCond .eq 7, 3) := by decide +kernel
theorem dX6_isName_30 : decode cX6_isName 30 = .ok (.iconst 1, 1) := by decide +kernel
theorem dX6_isName_31 : decode cX6_isName 31 = .ok (.goto 4, 3) := by decide +kernel
theorem dX6_isName_34 : decode cX6_isName 34 = .ok (.iconst 0, 1) := by decide +kernel
theorem dX6_isName_35 : decode cX6_isName 35 = .ok (.ireturn, 1) := by decide +kernel
theorem dX6_pointNamed_0 : decode cX6_pointNamed 0 = .ok (.iconst 0, 1) := by decide +kernel
theorem dX6_pointNamed_1 : decode cX6_pointNamed 1 = .ok (.istore_n 3, 1) := by decide +kernel
theorem dX6_pointNamed_2 : decode cX6_pointNamed 2 = .ok (.iload_n 3, 1) := by decide +kernel
theorem dX6_pointNamed_3 : decode cX6_pointNamed 3 = .ok (.aload_n 0, 1) := by decide +kernel
theorem dX6_pointNamed_4 : decode cX6_pointNamed 4 = .ok (.getfield 18, 3) := by decide +kernel
theorem dX6_pointNamed_7 : decode cX6_pointNamed 7 = .ok (.arraylength, 1) := by decide +kernel
theorem dX6_pointNamed_8 : decode cX6_pointNamed 8 = .ok (.if_icmp .ge 33, 3) := by decide +kernel
theorem dX6_pointNamed_11 : decode cX6_pointNamed 11 = .ok (.iload_n 3, 1) := by decide +kernel
theorem dX6_pointNamed_12 : decode cX6_pointNamed 12 = .ok (.aload_n 0, 1) := by decide +kernel
theorem dX6_pointNamed_13 : decode cX6_pointNamed 13 = .ok (.getfield 14, 3) := by decide +kernel
theorem dX6_pointNamed_16 : decode cX6_pointNamed 16 = .ok (.getfield 104, 3) := by decide +kernel
theorem dX6_pointNamed_19 : decode cX6_pointNamed 19 = .ok (.if_icmp .ge 22, 3) := by decide +kernel
theorem dX6_pointNamed_22 : decode cX6_pointNamed 22 = .ok (.aload_n 0, 1) := by decide +kernel
theorem dX6_pointNamed_23 : decode cX6_pointNamed 23 = .ok (.getfield 18, 3) := by decide +kernel
theorem dX6_pointNamed_26 : decode cX6_pointNamed 26 = .ok (.iload_n 3, 1) := by decide +kernel
theorem dX6_pointNamed_27 : decode cX6_pointNamed 27 = .ok (.laload, 1) := by decide +kernel
theorem dX6_pointNamed_28 : decode cX6_pointNamed 28 = .ok (.lload_n 1, 1) := by decide +kernel
theorem dX6_pointNamed_29 : decode cX6_pointNamed 29 = .ok (.lcmp, 1) := by decide +kernel
theorem dX6_pointNamed_30 : decode cX6_pointNamed 30 = .ok (.ifCond .ne 5, 3) := by decide +kernel
theorem dX6_pointNamed_33 : decode cX6_pointNamed 33 = .ok (.iload_n 3, 1) := by decide +kernel
theorem dX6_pointNamed_34 : decode cX6_pointNamed 34 = .ok (.ireturn, 1) := by decide +kernel
theorem dX6_pointNamed_35 : decode cX6_pointNamed 35 = .ok (.iinc 3 1, 3) := by decide +kernel
theorem dX6_pointNamed_38 : decode cX6_pointNamed 38 = .ok (.goto (-36), 3) := by decide +kernel
theorem dX6_pointNamed_41 : decode cX6_pointNamed 41 = .ok (.iconst (-1), 1) := by decide +kernel
theorem dX6_pointNamed_42 : decode cX6_pointNamed 42 = .ok (.ireturn, 1) := by decide +kernel
theorem dX6_takeName_0 : decode cX6_takeName 0 = .ok (.aload_n 0, 1) := by decide +kernel
theorem dX6_takeName_1 : decode cX6_takeName 1 = .ok (.invokevirtual 110, 3) := by decide +kernel
theorem dX6_takeName_4 : decode cX6_takeName 4 = .ok (.ifCond .ne 5, 3) := by decide +kernel
theorem dX6_takeName_7 : decode cX6_takeName 7 = .ok (.iconst 1, 1) := by decide +kernel
theorem dX6_takeName_8 : decode cX6_takeName 8 = .ok (.ireturn, 1) := by decide +kernel
theorem dX6_takeName_9 : decode cX6_takeName 9 = .ok (.aload_n 0, 1) := by decide +kernel
theorem dX6_takeName_10 : decode cX6_takeName 10 = .ok (.getfield 14, 3) := by decide +kernel
theorem dX6_takeName_13 : decode cX6_takeName 13 = .ok (.getfield 104, 3) := by decide +kernel
theorem dX6_takeName_16 : decode cX6_takeName 16 = .ok (.istore_n 1, 1) := by decide +kernel
theorem dX6_takeName_17 : decode cX6_takeName 17 = .ok (.aload_n 0, 1) := by decide +kernel
theorem dX6_takeName_18 : decode cX6_takeName 18 = .ok (.aload_n 0, 1) := by decide +kernel
theorem dX6_takeName_19 : decode cX6_takeName 19 = .ok (.getfield 67, 3) := by decide +kernel
theorem dX6_takeName_22 : decode cX6_takeName 22 = .ok (.invokevirtual 114, 3) := by decide +kernel
theorem dX6_takeName_25 : decode cX6_takeName 25 = .ok (.iconst (-1), 1) := by decide +kernel
theorem dX6_takeName_26 : decode cX6_takeName 26 = .ok (.if_icmp .eq 5, 3) := by decide +kernel
theorem dX6_takeName_29 : decode cX6_takeName 29 = .ok (.iconst 3, 1) := by decide +kernel
theorem dX6_takeName_30 : decode cX6_takeName 30 = .ok (.ireturn, 1) := by decide +kernel
theorem dX6_takeName_31 : decode cX6_takeName 31 = .ok (.iload_n 1, 1) := by decide +kernel
theorem dX6_takeName_32 : decode cX6_takeName 32 = .ok (.ifCond .lt 12, 3) := by decide +kernel
theorem dX6_takeName_35 : decode cX6_takeName 35 = .ok (.iload_n 1, 1) := by decide +kernel
theorem dX6_takeName_36 : decode cX6_takeName 36 = .ok (.aload_n 0, 1) := by decide +kernel
theorem dX6_takeName_37 : decode cX6_takeName 37 = .ok (.getfield 18, 3) := by decide +kernel
theorem dX6_takeName_40 : decode cX6_takeName 40 = .ok (.arraylength, 1) := by decide +kernel
theorem dX6_takeName_41 : decode cX6_takeName 41 = .ok (.if_icmp .lt 5, 3) := by decide +kernel
theorem dX6_takeName_44 : decode cX6_takeName 44 = .ok (.iconst 4, 1) := by decide +kernel
theorem dX6_takeName_45 : decode cX6_takeName 45 = .ok (.ireturn, 1) := by decide +kernel
theorem dX6_takeName_46 : decode cX6_takeName 46 = .ok (.aload_n 0, 1) := by decide +kernel
theorem dX6_takeName_47 : decode cX6_takeName 47 = .ok (.getfield 18, 3) := by decide +kernel
theorem dX6_takeName_50 : decode cX6_takeName 50 = .ok (.iload_n 1, 1) := by decide +kernel
theorem dX6_takeName_51 : decode cX6_takeName 51 = .ok (.aload_n 0, 1) := by decide +kernel
theorem dX6_takeName_52 : decode cX6_takeName 52 = .ok (.getfield 67, 3) := by decide +kernel
theorem dX6_takeName_55 : decode cX6_takeName 55 = .ok (.lastore, 1) := by decide +kernel
theorem dX6_takeName_56 : decode cX6_takeName 56 = .ok (.aload_n 0, 1) := by decide +kernel
theorem dX6_takeName_57 : decode cX6_takeName 57 = .ok (.getfield 14, 3) := by decide +kernel
theorem dX6_takeName_60 : decode cX6_takeName 60 = .ok (.invokevirtual 118, 3) := by decide +kernel
theorem dX6_takeName_63 : decode cX6_takeName 63 = .ok (.aload_n 0, 1) := by decide +kernel
theorem dX6_takeName_64 : decode cX6_takeName 64 = .ok (.iconst 2, 1) := by decide +kernel
theorem dX6_takeName_65 : decode cX6_takeName 65 = .ok (.putfield 29, 3) := by decide +kernel
theorem dX6_takeName_68 : decode cX6_takeName 68 = .ok (.iconst 0, 1) := by decide +kernel
theorem dX6_takeName_69 : decode cX6_takeName 69 = .ok (.ireturn, 1) := by decide +kernel
theorem dX6_takeWeight_0 : decode cX6_takeWeight 0 = .ok (.aload_n 0, 1) := by decide +kernel
theorem dX6_takeWeight_1 : decode cX6_takeWeight 1 = .ok (.getfield 67, 3) := by decide +kernel
theorem dX6_takeWeight_4 : decode cX6_takeWeight 4 = .ok (.lconst 1, 1) := by decide +kernel
theorem dX6_takeWeight_5 : decode cX6_takeWeight 5 = .ok (.lcmp, 1) := by decide +kernel
theorem dX6_takeWeight_6 : decode cX6_takeWeight 6 = .ok (.ifCond .lt 14, 3) := by decide +kernel
theorem dX6_takeWeight_9 : decode cX6_takeWeight 9 = .ok (.aload_n 0, 1) := by decide +kernel
theorem dX6_takeWeight_10 : decode cX6_takeWeight 10 = .ok (.getfield 67, 3) := by decide +kernel
theorem dX6_takeWeight_13 : decode cX6_takeWeight 13 = .ok (.ldc2_w 121, 3) := by decide +kernel
theorem dX6_takeWeight_16 : decode cX6_takeWeight 16 = .ok (.lcmp, 1) := by decide +kernel
theorem dX6_takeWeight_17 : decode cX6_takeWeight 17 = .ok (.ifCond .le 5, 3) := by decide +kernel
theorem dX6_takeWeight_20 : decode cX6_takeWeight 20 = .ok (.iconst 2, 1) := by decide +kernel
theorem dX6_takeWeight_21 : decode cX6_takeWeight 21 = .ok (.ireturn, 1) := by decide +kernel
theorem dX6_takeWeight_22 : decode cX6_takeWeight 22 = .ok (.aload_n 0, 1) := by decide +kernel
theorem dX6_takeWeight_23 : decode cX6_takeWeight 23 = .ok (.getfield 14, 3) := by decide +kernel
theorem dX6_takeWeight_26 : decode cX6_takeWeight 26 = .ok (.aload_n 0, 1) := by decide +kernel
theorem dX6_takeWeight_27 : decode cX6_takeWeight 27 = .ok (.getfield 14, 3) := by decide +kernel
theorem dX6_takeWeight_30 : decode cX6_takeWeight 30 = .ok (.getfield 104, 3) := by decide +kernel
theorem dX6_takeWeight_33 : decode cX6_takeWeight 33 = .ok (.iconst 1, 1) := by decide +kernel
theorem dX6_takeWeight_34 : decode cX6_takeWeight 34 = .ok (.isub, 1) := by decide +kernel
theorem dX6_takeWeight_35 : decode cX6_takeWeight 35 = .ok (.aload_n 0, 1) := by decide +kernel
theorem dX6_takeWeight_36 : decode cX6_takeWeight 36 = .ok (.getfield 67, 3) := by decide +kernel
theorem dX6_takeWeight_39 : decode cX6_takeWeight 39 = .ok (.l2i, 1) := by decide +kernel
theorem dX6_takeWeight_40 : decode cX6_takeWeight 40 = .ok (.invokevirtual 123, 3) := by decide +kernel
theorem dX6_takeWeight_43 : decode cX6_takeWeight 43 = .ok (.pop, 1) := by decide +kernel
theorem dX6_takeWeight_44 : decode cX6_takeWeight 44 = .ok (.aload_n 0, 1) := by decide +kernel
theorem dX6_takeWeight_45 : decode cX6_takeWeight 45 = .ok (.iconst 3, 1) := by decide +kernel
theorem dX6_takeWeight_46 : decode cX6_takeWeight 46 = .ok (.putfield 29, 3) := by decide +kernel
theorem dX6_takeWeight_49 : decode cX6_takeWeight 49 = .ok (.iconst 0, 1) := by decide +kernel
theorem dX6_takeWeight_50 : decode cX6_takeWeight 50 = .ok (.ireturn, 1) := by decide +kernel
theorem dX6_takeSign_0 : decode cX6_takeSign 0 = .ok (.aload_n 0, 1) := by decide +kernel
theorem dX6_takeSign_1 : decode cX6_takeSign 1 = .ok (.getfield 64, 3) := by decide +kernel
theorem dX6_takeSign_4 : decode cX6_takeSign 4 = .ok (.iconst 3, 1) := by decide +kernel
theorem dX6_takeSign_5 : decode cX6_takeSign 5 = .ok (.if_icmp .eq 5, 3) := by decide +kernel
theorem dX6_takeSign_8 : decode cX6_takeSign 8 = .ok (.iconst 1, 1) := by decide +kernel
theorem dX6_takeSign_9 : decode cX6_takeSign 9 = .ok (.ireturn, 1) := by decide +kernel
theorem dX6_takeSign_10 : decode cX6_takeSign 10 = .ok (.aload_n 0, 1) := by decide +kernel
theorem dX6_takeSign_11 : decode cX6_takeSign 11 = .ok (.dup, 1) := by decide +kernel
theorem dX6_takeSign_12 : decode cX6_takeSign 12 = .ok (.getfield 25, 3) := by decide +kernel
theorem dX6_takeSign_15 : decode cX6_takeSign 15 = .ok (.iconst 1, 1) := by decide +kernel
theorem dX6_takeSign_16 : decode cX6_takeSign 16 = .ok (.iadd, 1) := by decide +kernel
theorem dX6_takeSign_17 : decode cX6_takeSign 17 = .ok (.putfield 25, 3) := by decide +kernel
theorem dX6_takeSign_20 : decode cX6_takeSign 20 = .ok (.aload_n 0, 1) := by decide +kernel
theorem dX6_takeSign_21 : decode cX6_takeSign 21 = .ok (.iconst 0, 1) := by decide +kernel
theorem dX6_takeSign_22 : decode cX6_takeSign 22 = .ok (.putfield 29, 3) := by decide +kernel
theorem dX6_takeSign_25 : decode cX6_takeSign 25 = .ok (.iconst 0, 1) := by decide +kernel
theorem dX6_takeSign_26 : decode cX6_takeSign 26 = .ok (.ireturn, 1) := by decide +kernel
theorem dX6_takeFirst_0 : decode cX6_takeFirst 0 = .ok (.aload_n 0, 1) := by decide +kernel
theorem dX6_takeFirst_1 : decode cX6_takeFirst 1 = .ok (.invokevirtual 110, 3) := by decide +kernel
theorem dX6_takeFirst_4 : decode cX6_takeFirst 4 = .ok (.ifCond .ne 5, 3) := by decide +kernel
theorem dX6_takeFirst_7 : decode cX6_takeFirst 7 = .ok (.iconst 1, 1) := by decide +kernel
theorem dX6_takeFirst_8 : decode cX6_takeFirst 8 = .ok (.ireturn, 1) := by decide +kernel
theorem dX6_takeFirst_9 : decode cX6_takeFirst 9 = .ok (.aload_n 0, 1) := by decide +kernel
theorem dX6_takeFirst_10 : decode cX6_takeFirst 10 = .ok (.aload_n 0, 1) := by decide +kernel
theorem dX6_takeFirst_11 : decode cX6_takeFirst 11 = .ok (.aload_n 0, 1) := by decide +kernel
theorem dX6_takeFirst_12 : decode cX6_takeFirst 12 = .ok (.getfield 67, 3) := by decide +kernel
theorem dX6_takeFirst_15 : decode cX6_takeFirst 15 = .ok (.invokevirtual 114, 3) := by decide +kernel
theorem dX6_takeFirst_18 : decode cX6_takeFirst 18 = .ok (.putfield 32, 3) := by decide +kernel
theorem dX6_takeFirst_21 : decode cX6_takeFirst 21 = .ok (.aload_n 0, 1) := by decide +kernel
theorem dX6_takeFirst_22 : decode cX6_takeFirst 22 = .ok (.getfield 32, 3) := by decide +kernel
theorem dX6_takeFirst_25 : decode cX6_takeFirst 25 = .ok (.iconst (-1), 1) := by decide +kernel
theorem dX6_takeFirst_26 : decode cX6_takeFirst 26 = .ok (.if_icmp .ne 5, 3) := by decide +kernel
theorem dX6_takeFirst_29 : decode cX6_takeFirst 29 = .ok (.iconst 3, 1) := by decide +kernel
theorem dX6_takeFirst_30 : decode cX6_takeFirst 30 = .ok (.ireturn, 1) := by decide +kernel
theorem dX6_takeFirst_31 : decode cX6_takeFirst 31 = .ok (.aload_n 0, 1) := by decide +kernel
theorem dX6_takeFirst_32 : decode cX6_takeFirst 32 = .ok (.getfield 14, 3) := by decide +kernel
theorem dX6_takeFirst_35 : decode cX6_takeFirst 35 = .ok (.aload_n 0, 1) := by decide +kernel
theorem dX6_takeFirst_36 : decode cX6_takeFirst 36 = .ok (.getfield 32, 3) := by decide +kernel
theorem dX6_takeFirst_39 : decode cX6_takeFirst 39 = .ok (.aload_n 0, 1) := by decide +kernel
theorem dX6_takeFirst_40 : decode cX6_takeFirst 40 = .ok (.getfield 14, 3) := by decide +kernel
theorem dX6_takeFirst_43 : decode cX6_takeFirst 43 = .ok (.getfield 127, 3) := by decide +kernel
theorem dX6_takeFirst_46 : decode cX6_takeFirst 46 = .ok (.invokevirtual 130, 3) := by decide +kernel
theorem dX6_takeFirst_49 : decode cX6_takeFirst 49 = .ok (.bipush 6, 2) := by decide +kernel
theorem dX6_takeFirst_51 : decode cX6_takeFirst 51 = .ok (.if_icmp .lt 5, 3) := by decide +kernel
theorem dX6_takeFirst_54 : decode cX6_takeFirst 54 = .ok (.iconst 5, 1) := by decide +kernel
theorem dX6_takeFirst_55 : decode cX6_takeFirst 55 = .ok (.ireturn, 1) := by decide +kernel
theorem dX6_takeFirst_56 : decode cX6_takeFirst 56 = .ok (.aload_n 0, 1) := by decide +kernel
theorem dX6_takeFirst_57 : decode cX6_takeFirst 57 = .ok (.iconst 5, 1) := by decide +kernel
theorem dX6_takeFirst_58 : decode cX6_takeFirst 58 = .ok (.putfield 29, 3) := by decide +kernel
theorem dX6_takeFirst_61 : decode cX6_takeFirst 61 = .ok (.iconst 0, 1) := by decide +kernel
theorem dX6_takeFirst_62 : decode cX6_takeFirst 62 = .ok (.ireturn, 1) := by decide +kernel
theorem dX6_takeSecond_0 : decode cX6_takeSecond 0 = .ok (.aload_n 0, 1) := by decide +kernel
theorem dX6_takeSecond_1 : decode cX6_takeSecond 1 = .ok (.invokevirtual 110, 3) := by decide +kernel
theorem dX6_takeSecond_4 : decode cX6_takeSecond 4 = .ok (.ifCond .ne 5, 3) := by decide +kernel
theorem dX6_takeSecond_7 : decode cX6_takeSecond 7 = .ok (.iconst 1, 1) := by decide +kernel
theorem dX6_takeSecond_8 : decode cX6_takeSecond 8 = .ok (.ireturn, 1) := by decide +kernel
theorem dX6_takeSecond_9 : decode cX6_takeSecond 9 = .ok (.aload_n 0, 1) := by decide +kernel
theorem dX6_takeSecond_10 : decode cX6_takeSecond 10 = .ok (.aload_n 0, 1) := by decide +kernel
theorem dX6_takeSecond_11 : decode cX6_takeSecond 11 = .ok (.getfield 67, 3) := by decide +kernel
theorem dX6_takeSecond_14 : decode cX6_takeSecond 14 = .ok (.invokevirtual 114, 3) := by decide +kernel
theorem dX6_takeSecond_17 : decode cX6_takeSecond 17 = .ok (.istore_n 1, 1) := by decide +kernel
theorem dX6_takeSecond_18 : decode cX6_takeSecond 18 = .ok (.iload_n 1, 1) := by decide +kernel
theorem dX6_takeSecond_19 : decode cX6_takeSecond 19 = .ok (.iconst (-1), 1) := by decide +kernel
theorem dX6_takeSecond_20 : decode cX6_takeSecond 20 = .ok (.if_icmp .ne 5, 3) := by decide +kernel
theorem dX6_takeSecond_23 : decode cX6_takeSecond 23 = .ok (.iconst 3, 1) := by decide +kernel
theorem dX6_takeSecond_24 : decode cX6_takeSecond 24 = .ok (.ireturn, 1) := by decide +kernel
theorem dX6_takeSecond_25 : decode cX6_takeSecond 25 = .ok (.aload_n 0, 1) := by decide +kernel
theorem dX6_takeSecond_26 : decode cX6_takeSecond 26 = .ok (.getfield 14, 3) := by decide +kernel
theorem dX6_takeSecond_29 : decode cX6_takeSecond 29 = .ok (.aload_n 0, 1) := by decide +kernel
theorem dX6_takeSecond_30 : decode cX6_takeSecond 30 = .ok (.getfield 32, 3) := by decide +kernel
theorem dX6_takeSecond_33 : decode cX6_takeSecond 33 = .ok (.iload_n 1, 1) := by decide +kernel
theorem dX6_takeSecond_34 : decode cX6_takeSecond 34 = .ok (.invokevirtual 133, 3) := by decide +kernel
theorem dX6_takeSecond_37 : decode cX6_takeSecond 37 = .ok (.ifCond .ne 5, 3) := by decide +kernel
theorem dX6_takeSecond_40 : decode cX6_takeSecond 40 = .ok (.iconst 5, 1) := by decide +kernel
theorem dX6_takeSecond_41 : decode cX6_takeSecond 41 = .ok (.ireturn, 1) := by decide +kernel
theorem dX6_takeSecond_42 : decode cX6_takeSecond 42 = .ok (.aload_n 0, 1) := by decide +kernel
theorem dX6_takeSecond_43 : decode cX6_takeSecond 43 = .ok (.iconst 3, 1) := by decide +kernel
theorem dX6_takeSecond_44 : decode cX6_takeSecond 44 = .ok (.putfield 29, 3) := by decide +kernel
theorem dX6_takeSecond_47 : decode cX6_takeSecond 47 = .ok (.iconst 0, 1) := by decide +kernel
theorem dX6_takeSecond_48 : decode cX6_takeSecond 48 = .ok (.ireturn, 1) := by decide +kernel
theorem dX7_of_0 : decode cX7_of 0 = .ok (.lconst 0, 1) := by decide +kernel
theorem dX7_of_1 : decode cX7_of 1 = .ok (.lstore_n 1, 1) := by decide +kernel
theorem dX7_of_2 : decode cX7_of 2 = .ok (.lconst 0, 1) := by decide +kernel
theorem dX7_of_3 : decode cX7_of 3 = .ok (.lstore_n 3, 1) := by decide +kernel
theorem dX7_of_4 : decode cX7_of 4 = .ok (.iconst 0, 1) := by decide +kernel
theorem dX7_of_5 : decode cX7_of 5 = .ok (.istore 5, 2) := by decide +kernel
theorem dX7_of_7 : decode cX7_of 7 = .ok (.iload 5, 2) := by decide +kernel
theorem dX7_of_9 : decode cX7_of 9 = .ok (.bipush 12, 2) := by decide +kernel
theorem dX7_of_11 : decode cX7_of 11 = .ok (.if_icmp .ge 88, 3) := by decide +kernel
theorem dX7_of_14 : decode cX7_of 14 = .ok (.lload_n 1, 1) := by decide +kernel
theorem dX7_of_15 : decode cX7_of 15 = .ok (.aload_n 0, 1) := by decide +kernel
theorem dX7_of_16 : decode cX7_of 16 = .ok (.iload 5, 2) := by decide +kernel
theorem dX7_of_18 : decode cX7_of 18 = .ok (.iload 5, 2) := by decide +kernel
theorem dX7_of_20 : decode cX7_of 20 = .ok (.invokevirtual 9, 3) := by decide +kernel
theorem dX7_of_23 : decode cX7_of 23 = .ok (.i2l, 1) := by decide +kernel
theorem dX7_of_24 : decode cX7_of 24 = .ok (.ladd, 1) := by decide +kernel
theorem dX7_of_25 : decode cX7_of 25 = .ok (.lstore_n 1, 1) := by decide +kernel
theorem dX7_of_26 : decode cX7_of 26 = .ok (.iload 5, 2) := by decide +kernel
theorem dX7_of_28 : decode cX7_of 28 = .ok (.iconst 1, 1) := by decide +kernel
theorem dX7_of_29 : decode cX7_of 29 = .ok (.iadd, 1) := by decide +kernel
theorem dX7_of_30 : decode cX7_of 30 = .ok (.istore 6, 2) := by decide +kernel
theorem dX7_of_32 : decode cX7_of 32 = .ok (.iload 6, 2) := by decide +kernel
theorem dX7_of_34 : decode cX7_of 34 = .ok (.bipush 12, 2) := by decide +kernel
theorem dX7_of_36 : decode cX7_of 36 = .ok (.if_icmp .ge 32, 3) := by decide +kernel
theorem dX7_of_39 : decode cX7_of 39 = .ok (.aload_n 0, 1) := by decide +kernel
theorem dX7_of_40 : decode cX7_of 40 = .ok (.iload 5, 2) := by decide +kernel
theorem dX7_of_42 : decode cX7_of 42 = .ok (.iload 6, 2) := by decide +kernel
theorem dX7_of_44 : decode cX7_of 44 = .ok (.invokevirtual 9, 3) := by decide +kernel
theorem dX7_of_47 : decode cX7_of 47 = .ok (.istore 7, 2) := by decide +kernel
theorem dX7_of_49 : decode cX7_of 49 = .ok (.lload_n 1, 1) := by decide +kernel
theorem dX7_of_50 : decode cX7_of 50 = .ok (.iload 7, 2) := by decide +kernel
theorem dX7_of_52 : decode cX7_of 52 = .ok (.iload 7, 2) := by decide +kernel
theorem dX7_of_54 : decode cX7_of 54 = .ok (.iconst 1, 1) := by decide +kernel
theorem dX7_of_55 : decode cX7_of 55 = .ok (.isub, 1) := by decide +kernel
theorem dX7_of_56 : decode cX7_of 56 = .ok (.imul, 1) := by decide +kernel
theorem dX7_of_57 : decode cX7_of 57 = .ok (.iconst 2, 1) := by decide +kernel
theorem dX7_of_58 : decode cX7_of 58 = .ok (.idiv, 1) := by decide +kernel
theorem dX7_of_59 : decode cX7_of 59 = .ok (.i2l, 1) := by decide +kernel
theorem dX7_of_60 : decode cX7_of 60 = .ok (.ladd, 1) := by decide +kernel
theorem dX7_of_61 : decode cX7_of 61 = .ok (.lstore_n 1, 1) := by decide +kernel
theorem dX7_of_62 : decode cX7_of 62 = .ok (.iinc 6 1, 3) := by decide +kernel
theorem dX7_of_65 : decode cX7_of 65 = .ok (.goto (-33), 3) := by decide +kernel
theorem dX7_of_68 : decode cX7_of 68 = .ok (.aload_n 0, 1) := by decide +kernel
theorem dX7_of_69 : decode cX7_of 69 = .ok (.iload 5, 2) := by decide +kernel
theorem dX7_of_71 : decode cX7_of 71 = .ok (.invokevirtual 15, 3) := by decide +kernel
theorem dX7_of_74 : decode cX7_of 74 = .ok (.ifCond .eq 19, 3) := by decide +kernel
theorem dX7_of_77 : decode cX7_of 77 = .ok (.lload_n 3, 1) := by decide +kernel
theorem dX7_of_78 : decode cX7_of 78 = .ok (.aload_n 0, 1) := by decide +kernel
theorem dX7_of_79 : decode cX7_of 79 = .ok (.iload 5, 2) := by decide +kernel
theorem dX7_of_81 : decode cX7_of 81 = .ok (.iload 5, 2) := by decide +kernel
theorem dX7_of_83 : decode cX7_of 83 = .ok (.iconst 1, 1) := by decide +kernel
theorem dX7_of_84 : decode cX7_of 84 = .ok (.iload 5, 2) := by decide +kernel
theorem dX7_of_86 : decode cX7_of 86 = .ok (.ishl, 1) := by decide +kernel
theorem dX7_of_87 : decode cX7_of 87 = .ok (.iconst 1, 1) := by decide +kernel
theorem dX7_of_88 : decode cX7_of 88 = .ok (.invokestatic 19, 3) := by decide +kernel
theorem dX7_of_91 : decode cX7_of 91 = .ok (.ladd, 1) := by decide +kernel
theorem dX7_of_92 : decode cX7_of 92 = .ok (.lstore_n 3, 1) := by decide +kernel
theorem dX7_of_93 : decode cX7_of 93 = .ok (.iinc 5 1, 3) := by decide +kernel
theorem dX7_of_96 : decode cX7_of 96 = .ok (.goto (-89), 3) := by decide +kernel
theorem dX7_of_99 : decode cX7_of 99 = .ok (.lload_n 1, 1) := by decide +kernel
theorem dX7_of_100 : decode cX7_of 100 = .ok (.lload_n 3, 1) := by decide +kernel
theorem dX7_of_101 : decode cX7_of 101 = .ok (.ldc2_w 25, 3) := by decide +kernel
theorem dX7_of_104 : decode cX7_of 104 = .ok (.ldiv, 1) := by decide +kernel
theorem dX7_of_105 : decode cX7_of 105 = .ok (.ladd, 1) := by decide +kernel
theorem dX7_of_106 : decode cX7_of 106 = .ok (.lreturn, 1) := by decide +kernel
theorem dX7_waysBack_0 : decode cX7_waysBack 0 = .ok (.iload 4, 2) := by decide +kernel
theorem dX7_waysBack_2 : decode cX7_waysBack 2 = .ok (.bipush 12, 2) := by decide +kernel
theorem dX7_waysBack_4 : decode cX7_waysBack 4 = .ok (.if_icmp .le 5, 3) := by decide +kernel
theorem dX7_waysBack_7 : decode cX7_waysBack 7 = .ok (.lconst 0, 1) := by decide +kernel
theorem dX7_waysBack_8 : decode cX7_waysBack 8 = .ok (.lreturn, 1) := by decide +kernel
theorem dX7_waysBack_9 : decode cX7_waysBack 9 = .ok (.iload 4, 2) := by decide +kernel
theorem dX7_waysBack_11 : decode cX7_waysBack 11 = .ok (.iconst 2, 1) := by decide +kernel
theorem dX7_waysBack_12 : decode cX7_waysBack 12 = .ok (.if_icmp .le 13, 3) := by decide +kernel
theorem dX7_waysBack_15 : decode cX7_waysBack 15 = .ok (.aload_n 0, 1) := by decide +kernel
theorem dX7_waysBack_16 : decode cX7_waysBack 16 = .ok (.iload_n 2, 1) := by decide +kernel
theorem dX7_waysBack_17 : decode cX7_waysBack 17 = .ok (.iload_n 1, 1) := by decide +kernel
theorem dX7_waysBack_18 : decode cX7_waysBack 18 = .ok (.invokevirtual 9, 3) := by decide +kernel
theorem dX7_waysBack_21 : decode cX7_waysBack 21 = .ok (.i2l, 1) := by decide +kernel
theorem dX7_waysBack_22 : decode cX7_waysBack 22 = .ok (.goto 4, 3) := by decide +kernel
theorem dX7_waysBack_25 : decode cX7_waysBack 25 = .ok (.lconst 0, 1) := by decide +kernel
theorem dX7_waysBack_26 : decode cX7_waysBack 26 = .ok (.lstore 5, 2) := by decide +kernel
theorem dX7_waysBack_28 : decode cX7_waysBack 28 = .ok (.iload_n 1, 1) := by decide +kernel
theorem dX7_waysBack_29 : decode cX7_waysBack 29 = .ok (.iconst 1, 1) := by decide +kernel
theorem dX7_waysBack_30 : decode cX7_waysBack 30 = .ok (.iadd, 1) := by decide +kernel
theorem dX7_waysBack_31 : decode cX7_waysBack 31 = .ok (.istore 7, 2) := by decide +kernel
theorem dX7_waysBack_33 : decode cX7_waysBack 33 = .ok (.iload 7, 2) := by decide +kernel
theorem dX7_waysBack_35 : decode cX7_waysBack 35 = .ok (.bipush 12, 2) := by decide +kernel
theorem dX7_waysBack_37 : decode cX7_waysBack 37 = .ok (.if_icmp .ge 58, 3) := by decide +kernel
theorem dX7_waysBack_40 : decode cX7_waysBack 40 = .ok (.aload_n 0, 1) := by decide +kernel
theorem dX7_waysBack_41 : decode cX7_waysBack 41 = .ok (.iload_n 2, 1) := by decide +kernel
theorem dX7_waysBack_42 : decode cX7_waysBack 42 = .ok (.iload 7, 2) := by decide +kernel
theorem dX7_waysBack_44 : decode cX7_waysBack 44 = .ok (.invokevirtual 9, 3) := by decide +kernel
theorem dX7_waysBack_47 : decode cX7_waysBack 47 = .ok (.istore 8, 2) := by decide +kernel
theorem dX7_waysBack_49 : decode cX7_waysBack 49 = .ok (.iload 8, 2) := by decide +kernel
theorem dX7_waysBack_51 : decode cX7_waysBack 51 = .ok (.ifCond .le 38, 3) := by decide +kernel
theorem dX7_waysBack_54 : decode cX7_waysBack 54 = .ok (.iload_n 3, 1) := by decide +kernel
theorem dX7_waysBack_55 : decode cX7_waysBack 55 = .ok (.iload 7, 2) := by decide +kernel
theorem dX7_waysBack_57 : decode cX7_waysBack 57 = .ok (.invokestatic 27, 3) := by decide +kernel
theorem dX7_waysBack_60 : decode cX7_waysBack 60 = .ok (.ifCond .ne 29, 3) := by decide +kernel
theorem dX7_waysBack_63 : decode cX7_waysBack 63 = .ok (.lload 5, 2) := by decide +kernel
theorem dX7_waysBack_65 : decode cX7_waysBack 65 = .ok (.iload 8, 2) := by decide +kernel
theorem dX7_waysBack_67 : decode cX7_waysBack 67 = .ok (.i2l, 1) := by decide +kernel
theorem dX7_waysBack_68 : decode cX7_waysBack 68 = .ok (.aload_n 0, 1) := by decide +kernel
theorem dX7_waysBack_69 : decode cX7_waysBack 69 = .ok (.iload_n 1, 1) := by decide +kernel
theorem dX7_waysBack_70 : decode cX7_waysBack 70 = .ok (.iload 7, 2) := by decide +kernel
theorem dX7_waysBack_72 : decode cX7_waysBack 72 = .ok (.iload_n 3, 1) := by decide +kernel
theorem dX7_waysBack_73 : decode cX7_waysBack 73 = .ok (.iconst 1, 1) := by decide +kernel
theorem dX7_waysBack_74 : decode cX7_waysBack 74 = .ok (.iload 7, 2) := by decide +kernel
theorem dX7_waysBack_76 : decode cX7_waysBack 76 = .ok (.ishl, 1) := by decide +kernel
theorem dX7_waysBack_77 : decode cX7_waysBack 77 = .ok (.ior, 1) := by decide +kernel
theorem dX7_waysBack_78 : decode cX7_waysBack 78 = .ok (.iload 4, 2) := by decide +kernel
theorem dX7_waysBack_80 : decode cX7_waysBack 80 = .ok (.iconst 1, 1) := by decide +kernel
theorem dX7_waysBack_81 : decode cX7_waysBack 81 = .ok (.iadd, 1) := by decide +kernel
theorem dX7_waysBack_82 : decode cX7_waysBack 82 = .ok (.invokestatic 19, 3) := by decide +kernel
theorem dX7_waysBack_85 : decode cX7_waysBack 85 = .ok (.lmul, 1) := by decide +kernel
theorem dX7_waysBack_86 : decode cX7_waysBack 86 = .ok (.ladd, 1) := by decide +kernel
theorem dX7_waysBack_87 : decode cX7_waysBack 87 = .ok (.lstore 5, 2) := by decide +kernel
theorem dX7_waysBack_89 : decode cX7_waysBack 89 = .ok (.iinc 7 1, 3) := by decide +kernel
theorem dX7_waysBack_92 : decode cX7_waysBack 92 = .ok (.goto (-59), 3) := by decide +kernel
theorem dX7_waysBack_95 : decode cX7_waysBack 95 = .ok (.lload 5, 2) := by decide +kernel
theorem dX7_waysBack_97 : decode cX7_waysBack 97 = .ok (.lreturn, 1) := by decide +kernel
theorem dX8_init_0 : decode cX8_init 0 = .ok (.aload_n 0, 1) := by decide +kernel
theorem dX8_init_1 : decode cX8_init 1 = .ok (.invokespecial 3, 3) := by decide +kernel
theorem dX8_init_4 : decode cX8_init 4 = .ok (.aload_n 0, 1) := by decide +kernel
theorem dX8_init_5 : decode cX8_init 5 = .ok (.sipush 4096, 3) := by decide +kernel
theorem dX8_init_8 : decode cX8_init 8 = .ok (.newarray .boolean, 2) := by decide +kernel
theorem dX8_init_10 : decode cX8_init 10 = .ok (.putfield 9, 3) := by decide +kernel
theorem dX8_init_13 : decode cX8_init 13 = .ok (.aload_n 0, 1) := by decide +kernel
theorem dX8_init_14 : decode cX8_init 14 = .ok (.bipush 12, 2) := by decide +kernel
theorem dX8_init_16 : decode cX8_init 16 = .ok (.newarray .int, 2) := by decide +kernel
theorem dX8_init_18 : decode cX8_init 18 = .ok (.putfield 15, 3) := by decide +kernel
theorem dX8_init_21 : decode cX8_init 21 = .ok (.aload_n 0, 1) := by decide +kernel
theorem dX8_init_22 : decode cX8_init 22 = .ok (.bipush 12, 2) := by decide +kernel
theorem dX8_init_24 : decode cX8_init 24 = .ok (.newarray .int, 2) := by decide +kernel
theorem dX8_init_26 : decode cX8_init 26 = .ok (.putfield 19, 3) := by decide +kernel
theorem dX8_init_29 : decode cX8_init 29 = .ok (.aload_n 0, 1) := by decide +kernel
theorem dX8_init_30 : decode cX8_init 30 = .ok (.sipush 924, 3) := by decide +kernel
theorem dX8_init_33 : decode cX8_init 33 = .ok (.newarray .int, 2) := by decide +kernel
theorem dX8_init_35 : decode cX8_init 35 = .ok (.putfield 22, 3) := by decide +kernel
theorem dX8_init_38 : decode cX8_init 38 = .ok (.aload_n 0, 1) := by decide +kernel
theorem dX8_init_39 : decode cX8_init 39 = .ok (.bipush 13, 2) := by decide +kernel
theorem dX8_init_41 : decode cX8_init 41 = .ok (.newarray .int, 2) := by decide +kernel
theorem dX8_init_43 : decode cX8_init 43 = .ok (.putfield 25, 3) := by decide +kernel
theorem dX8_init_46 : decode cX8_init 46 = .ok (.return_, 1) := by decide +kernel
theorem dX8_lowest_0 : decode cX8_lowest 0 = .ok (.iload_n 0, 1) := by decide +kernel
theorem dX8_lowest_1 : decode cX8_lowest 1 = .ok (.ifCond .ne 7, 3) := by decide +kernel
theorem dX8_lowest_4 : decode cX8_lowest 4 = .ok (.iconst (-1), 1) := by decide +kernel
theorem dX8_lowest_5 : decode cX8_lowest 5 = .ok (.goto 12, 3) := by decide +kernel
theorem dX8_lowest_8 : decode cX8_lowest 8 = .ok (.iload_n 0, 1) := by decide +kernel
theorem dX8_lowest_9 : decode cX8_lowest 9 = .ok (.iload_n 0, 1) := by decide +kernel
theorem dX8_lowest_10 : decode cX8_lowest 10 = .ok (.ineg, 1) := by decide +kernel
theorem dX8_lowest_11 : decode cX8_lowest 11 = .ok (.iand, 1) := by decide +kernel
theorem dX8_lowest_12 : decode cX8_lowest 12 = .ok (.iconst 1, 1) := by decide +kernel
theorem dX8_lowest_13 : decode cX8_lowest 13 = .ok (.isub, 1) := by decide +kernel
theorem dX8_lowest_14 : decode cX8_lowest 14 = .ok (.invokestatic 28, 3) := by decide +kernel
theorem dX8_lowest_17 : decode cX8_lowest 17 = .ok (.ireturn, 1) := by decide +kernel
theorem dX8_learn_0 : decode cX8_learn 0 = .ok (.iconst 0, 1) := by decide +kernel
theorem dX8_learn_1 : decode cX8_learn 1 = .ok (.istore_n 2, 1) := by decide +kernel
theorem dX8_learn_2 : decode cX8_learn 2 = .ok (.iload_n 2, 1) := by decide +kernel
theorem dX8_learn_3 : decode cX8_learn 3 = .ok (.bipush 12, 2) := by decide +kernel
theorem dX8_learn_5 : decode cX8_learn 5 = .ok (.if_icmp .ge 52, 3) := by decide +kernel
theorem dX8_learn_8 : decode cX8_learn 8 = .ok (.aload_n 1, 1) := by decide +kernel
theorem dX8_learn_9 : decode cX8_learn 9 = .ok (.iload_n 2, 1) := by decide +kernel
theorem dX8_learn_10 : decode cX8_learn 10 = .ok (.iload_n 2, 1) := by decide +kernel
theorem dX8_learn_11 : decode cX8_learn 11 = .ok (.invokevirtual 34, 3) := by decide +kernel
theorem dX8_learn_14 : decode cX8_learn 14 = .ok (.ifCond .le 9, 3) := by decide +kernel
theorem dX8_learn_17 : decode cX8_learn 17 = .ok (.iconst 1, 1) := by decide +kernel
theorem dX8_learn_18 : decode cX8_learn 18 = .ok (.iload_n 2, 1) := by decide +kernel
theorem dX8_learn_19 : decode cX8_learn 19 = .ok (.ishl, 1) := by decide +kernel
theorem dX8_learn_20 : decode cX8_learn 20 = .ok (.goto 4, 3) := by decide +kernel
theorem dX8_learn_23 : decode cX8_learn 23 = .ok (.iconst 0, 1) := by decide +kernel
theorem dX8_learn_24 : decode cX8_learn 24 = .ok (.istore_n 3, 1) := by decide +kernel
theorem dX8_learn_25 : decode cX8_learn 25 = .ok (.aload_n 0, 1) := by decide +kernel
theorem dX8_learn_26 : decode cX8_learn 26 = .ok (.getfield 15, 3) := by decide +kernel
theorem dX8_learn_29 : decode cX8_learn 29 = .ok (.iload_n 2, 1) := by decide +kernel
theorem dX8_learn_30 : decode cX8_learn 30 = .ok (.aload_n 1, 1) := by decide +kernel
theorem dX8_learn_31 : decode cX8_learn 31 = .ok (.iload_n 2, 1) := by decide +kernel
theorem dX8_learn_32 : decode cX8_learn 32 = .ok (.iconst 1, 1) := by decide +kernel
theorem dX8_learn_33 : decode cX8_learn 33 = .ok (.invokevirtual 40, 3) := by decide +kernel
theorem dX8_learn_36 : decode cX8_learn 36 = .ok (.iastore, 1) := by decide +kernel
theorem dX8_learn_37 : decode cX8_learn 37 = .ok (.aload_n 0, 1) := by decide +kernel
theorem dX8_learn_38 : decode cX8_learn 38 = .ok (.getfield 19, 3) := by decide +kernel
theorem dX8_learn_41 : decode cX8_learn 41 = .ok (.iload_n 2, 1) := by decide +kernel
theorem dX8_learn_42 : decode cX8_learn 42 = .ok (.aload_n 1, 1) := by decide +kernel
theorem dX8_learn_43 : decode cX8_learn 43 = .ok (.iload_n 2, 1) := by decide +kernel
theorem dX8_learn_44 : decode cX8_learn 44 = .ok (.iconst 2, 1) := by decide +kernel
theorem dX8_learn_45 : decode cX8_learn 45 = .ok (.invokevirtual 40, 3) := by decide +kernel
theorem dX8_learn_48 : decode cX8_learn 48 = .ok (.iload_n 3, 1) := by decide +kernel
theorem dX8_learn_49 : decode cX8_learn 49 = .ok (.ior, 1) := by decide +kernel
theorem dX8_learn_50 : decode cX8_learn 50 = .ok (.iastore, 1) := by decide +kernel
theorem dX8_learn_51 : decode cX8_learn 51 = .ok (.iinc 2 1, 3) := by decide +kernel
theorem dX8_learn_54 : decode cX8_learn 54 = .ok (.goto (-52), 3) := by decide +kernel
theorem dX8_learn_57 : decode cX8_learn 57 = .ok (.aload_n 0, 1) := by decide +kernel
theorem dX8_learn_58 : decode cX8_learn 58 = .ok (.getfield 9, 3) := by decide +kernel
theorem dX8_learn_61 : decode cX8_learn 61 = .ok (.iconst 0, 1) := by decide +kernel
theorem dX8_learn_62 : decode cX8_learn 62 = .ok (.iconst 1, 1) := by decide +kernel
theorem dX8_learn_63 : decode cX8_learn 63 = .ok (.bastore, 1) := by decide +kernel
theorem dX8_learn_64 : decode cX8_learn 64 = .ok (.iconst 1, 1) := by decide +kernel
theorem dX8_learn_65 : decode cX8_learn 65 = .ok (.istore_n 2, 1) := by decide +kernel
theorem dX8_learn_66 : decode cX8_learn 66 = .ok (.iload_n 2, 1) := by decide +kernel
theorem dX8_learn_67 : decode cX8_learn 67 = .ok (.aload_n 1, 1) := by decide +kernel
theorem dX8_learn_68 : decode cX8_learn 68 = .ok (.getfield 43, 3) := by decide +kernel
theorem dX8_learn_71 : decode cX8_learn 71 = .ok (.if_icmp .gt 55, 3) := by decide +kernel
theorem dX8_learn_74 : decode cX8_learn 74 = .ok (.iload_n 2, 1) := by decide +kernel
theorem dX8_learn_75 : decode cX8_learn 75 = .ok (.sipush 4096, 3) := by decide +kernel
theorem dX8_learn_78 : decode cX8_learn 78 = .ok (.if_icmp .ge 48, 3) := by decide +kernel
theorem dX8_learn_81 : decode cX8_learn 81 = .ok (.aload_n 1, 1) := by decide +kernel
theorem dX8_learn_82 : decode cX8_learn 82 = .ok (.iload_n 2, 1) := by decide +kernel
theorem dX8_learn_83 : decode cX8_learn 83 = .ok (.invokevirtual 47, 3) := by decide +kernel
theorem dX8_learn_86 : decode cX8_learn 86 = .ok (.ifCond .eq 34, 3) := by decide +kernel
theorem dX8_learn_89 : decode cX8_learn 89 = .ok (.aload_n 0, 1) := by decide +kernel
theorem dX8_learn_90 : decode cX8_learn 90 = .ok (.getfield 9, 3) := by decide +kernel
theorem dX8_learn_93 : decode cX8_learn 93 = .ok (.iload_n 2, 1) := by decide +kernel
theorem dX8_learn_94 : decode cX8_learn 94 = .ok (.aload_n 0, 1) := by decide +kernel
theorem dX8_learn_95 : decode cX8_learn 95 = .ok (.iload_n 2, 1) := by decide +kernel
theorem dX8_learn_96 : decode cX8_learn 96 = .ok (.iload_n 2, 1) := by decide +kernel
theorem dX8_learn_97 : decode cX8_learn 97 = .ok (.iconst 1, 1) := by decide +kernel
theorem dX8_learn_98 : decode cX8_learn 98 = .ok (.isub, 1) := by decide +kernel
theorem dX8_learn_99 : decode cX8_learn 99 = .ok (.iand, 1) := by decide +kernel
theorem dX8_learn_100 : decode cX8_learn 100 = .ok (.invokevirtual 51, 3) := by decide +kernel
theorem dX8_learn_103 : decode cX8_learn 103 = .ok (.ifCond .eq 15, 3) := by decide +kernel
theorem dX8_learn_106 : decode cX8_learn 106 = .ok (.aload_n 0, 1) := by decide +kernel
theorem dX8_learn_107 : decode cX8_learn 107 = .ok (.iload_n 2, 1) := by decide +kernel
theorem dX8_learn_108 : decode cX8_learn 108 = .ok (.invokevirtual 54, 3) := by decide +kernel
theorem dX8_learn_111 : decode cX8_learn 111 = .ok (.ifCond .eq 7, 3) := by decide +kernel
theorem dX8_learn_114 : decode cX8_learn 114 = .ok (.iconst 1, 1) := by decide +kernel
theorem dX8_learn_115 : decode cX8_learn 115 = .ok (.goto 4, 3) := by decide +kernel
theorem dX8_learn_118 : decode cX8_learn 118 = .ok (.iconst 0, 1) := by decide +kernel
theorem dX8_learn_119 : decode cX8_learn 119 = .ok (.bastore, 1) := by decide +kernel
theorem dX8_learn_120 : decode cX8_learn 120 = .ok (.iinc 2 1, 3) := by decide +kernel
theorem dX8_learn_123 : decode cX8_learn 123 = .ok (.goto (-57), 3) := by decide +kernel
theorem dX8_learn_126 : decode cX8_learn 126 = .ok (.aload_n 0, 1) := by decide +kernel
theorem dX8_learn_127 : decode cX8_learn 127 = .ok (.aload_n 1, 1) := by decide +kernel
theorem dX8_learn_128 : decode cX8_learn 128 = .ok (.getfield 43, 3) := by decide +kernel
theorem dX8_learn_131 : decode cX8_learn 131 = .ok (.invokevirtual 57, 3) := by decide +kernel
theorem dX8_learn_134 : decode cX8_learn 134 = .ok (.return_, 1) := by decide +kernel
theorem dX8_isFreeByTip_0 : decode cX8_isFreeByTip 0 = .ok (.iconst 0, 1) := by decide +kernel
theorem dX8_isFreeByTip_1 : decode cX8_isFreeByTip 1 = .ok (.istore_n 2, 1) := by decide +kernel
theorem dX8_isFreeByTip_2 : decode cX8_isFreeByTip 2 = .ok (.iload_n 2, 1) := by decide +kernel
theorem dX8_isFreeByTip_3 : decode cX8_isFreeByTip 3 = .ok (.bipush 12, 2) := by decide +kernel
theorem dX8_isFreeByTip_5 : decode cX8_isFreeByTip 5 = .ok (.if_icmp .ge 57, 3) := by decide +kernel
theorem dX8_isFreeByTip_8 : decode cX8_isFreeByTip 8 = .ok (.aload_n 0, 1) := by decide +kernel
theorem dX8_isFreeByTip_9 : decode cX8_isFreeByTip 9 = .ok (.getfield 15, 3) := by decide +kernel
theorem dX8_isFreeByTip_12 : decode cX8_isFreeByTip 12 = .ok (.iload_n 2, 1) := by decide +kernel
theorem dX8_isFreeByTip_13 : decode cX8_isFreeByTip 13 = .ok (.iaload, 1) := by decide +kernel
theorem dX8_isFreeByTip_14 : decode cX8_isFreeByTip 14 = .ok (.iload_n 1, 1) := by decide +kernel
theorem dX8_isFreeByTip_15 : decode cX8_isFreeByTip 15 = .ok (.iand, 1) := by decide +kernel
theorem dX8_isFreeByTip_16 : decode cX8_isFreeByTip 16 = .ok (.istore_n 3, 1) := by decide +kernel
theorem dX8_isFreeByTip_17 : decode cX8_isFreeByTip 17 = .ok (.iload_n 1, 1) := by decide +kernel
theorem dX8_isFreeByTip_18 : decode cX8_isFreeByTip 18 = .ok (.iload_n 2, 1) := by decide +kernel
theorem dX8_isFreeByTip_19 : decode cX8_isFreeByTip 19 = .ok (.invokestatic 61, 3) := by decide +kernel
theorem dX8_isFreeByTip_22 : decode cX8_isFreeByTip 22 = .ok (.ifCond .eq 34, 3) := by decide +kernel
theorem dX8_isFreeByTip_25 : decode cX8_isFreeByTip 25 = .ok (.aload_n 0, 1) := by decide +kernel
theorem dX8_isFreeByTip_26 : decode cX8_isFreeByTip 26 = .ok (.getfield 19, 3) := by decide +kernel
theorem dX8_isFreeByTip_29 : decode cX8_isFreeByTip 29 = .ok (.iload_n 2, 1) := by decide +kernel
theorem dX8_isFreeByTip_30 : decode cX8_isFreeByTip 30 = .ok (.iaload, 1) := by decide +kernel
theorem dX8_isFreeByTip_31 : decode cX8_isFreeByTip 31 = .ok (.iload_n 1, 1) := by decide +kernel
theorem dX8_isFreeByTip_32 : decode cX8_isFreeByTip 32 = .ok (.iand, 1) := by decide +kernel
theorem dX8_isFreeByTip_33 : decode cX8_isFreeByTip 33 = .ok (.ifCond .ne 23, 3) := by decide +kernel
theorem dX8_isFreeByTip_36 : decode cX8_isFreeByTip 36 = .ok (.iload_n 3, 1) := by decide +kernel
theorem dX8_isFreeByTip_37 : decode cX8_isFreeByTip 37 = .ok (.iload_n 3, 1) := by decide +kernel
theorem dX8_isFreeByTip_38 : decode cX8_isFreeByTip 38 = .ok (.iconst 1, 1) := by decide +kernel
theorem dX8_isFreeByTip_39 : decode cX8_isFreeByTip 39 = .ok (.isub, 1) := by decide +kernel
theorem dX8_isFreeByTip_40 : decode cX8_isFreeByTip 40 = .ok (.iand, 1) := by decide +kernel
theorem dX8_isFreeByTip_41 : decode cX8_isFreeByTip 41 = .ok (.ifCond .ne 15, 3) := by decide +kernel
theorem dX8_isFreeByTip_44 : decode cX8_isFreeByTip 44 = .ok (.aload_n 0, 1) := by decide +kernel
theorem dX8_isFreeByTip_45 : decode cX8_isFreeByTip 45 = .ok (.iload_n 1, 1) := by decide +kernel
theorem dX8_isFreeByTip_46 : decode cX8_isFreeByTip 46 = .ok (.iconst 1, 1) := by decide +kernel
theorem dX8_isFreeByTip_47 : decode cX8_isFreeByTip 47 = .ok (.iload_n 2, 1) := by decide +kernel
theorem dX8_isFreeByTip_48 : decode cX8_isFreeByTip 48 = .ok (.ishl, 1) := by decide +kernel
theorem dX8_isFreeByTip_49 : decode cX8_isFreeByTip 49 = .ok (.iconst (-1), 1) := by decide +kernel
theorem dX8_isFreeByTip_50 : decode cX8_isFreeByTip 50 = .ok (.ixor, 1) := by decide +kernel
theorem dX8_isFreeByTip_51 : decode cX8_isFreeByTip 51 = .ok (.iand, 1) := by decide +kernel
theorem dX8_isFreeByTip_52 : decode cX8_isFreeByTip 52 = .ok (.invokevirtual 51, 3) := by decide +kernel
theorem dX8_isFreeByTip_55 : decode cX8_isFreeByTip 55 = .ok (.ireturn, 1) := by decide +kernel
theorem dX8_isFreeByTip_56 : decode cX8_isFreeByTip 56 = .ok (.iinc 2 1, 3) := by decide +kernel
theorem dX8_isFreeByTip_59 : decode cX8_isFreeByTip 59 = .ok (.goto (-57), 3) := by decide +kernel
theorem dX8_isFreeByTip_62 : decode cX8_isFreeByTip 62 = .ok (.iconst 0, 1) := by decide +kernel
theorem dX8_isFreeByTip_63 : decode cX8_isFreeByTip 63 = .ok (.ireturn, 1) := by decide +kernel
theorem dX8_learnRings_0 : decode cX8_learnRings 0 = .ok (.aload_n 0, 1) := by decide +kernel
theorem dX8_learnRings_1 : decode cX8_learnRings 1 = .ok (.iconst 0, 1) := by decide +kernel
theorem dX8_learnRings_2 : decode cX8_learnRings 2 = .ok (.putfield 65, 3) := by decide +kernel
theorem dX8_learnRings_5 : decode cX8_learnRings 5 = .ok (.iconst 0, 1) := by decide +kernel
theorem dX8_learnRings_6 : decode cX8_learnRings 6 = .ok (.istore_n 2, 1) := by decide +kernel
theorem dX8_learnRings_7 : decode cX8_learnRings 7 = .ok (.iload_n 2, 1) := by decide +kernel
theorem dX8_learnRings_8 : decode cX8_learnRings 8 = .ok (.bipush 12, 2) := by decide +kernel
theorem dX8_learnRings_10 : decode cX8_learnRings 10 = .ok (.if_icmp .ge 94, 3) := by decide +kernel
theorem dX8_learnRings_13 : decode cX8_learnRings 13 = .ok (.aload_n 0, 1) := by decide +kernel
theorem dX8_learnRings_14 : decode cX8_learnRings 14 = .ok (.getfield 25, 3) := by decide +kernel
theorem dX8_learnRings_17 : decode cX8_learnRings 17 = .ok (.iload_n 2, 1) := by decide +kernel
theorem dX8_learnRings_18 : decode cX8_learnRings 18 = .ok (.aload_n 0, 1) := by decide +kernel
theorem dX8_learnRings_19 : decode cX8_learnRings 19 = .ok (.getfield 65, 3) := by decide +kernel
theorem dX8_learnRings_22 : decode cX8_learnRings 22 = .ok (.iastore, 1) := by decide +kernel
theorem dX8_learnRings_23 : decode cX8_learnRings 23 = .ok (.iconst 1, 1) := by decide +kernel
theorem dX8_learnRings_24 : decode cX8_learnRings 24 = .ok (.iload_n 2, 1) := by decide +kernel
theorem dX8_learnRings_25 : decode cX8_learnRings 25 = .ok (.ishl, 1) := by decide +kernel
theorem dX8_learnRings_26 : decode cX8_learnRings 26 = .ok (.istore_n 3, 1) := by decide +kernel
theorem dX8_learnRings_27 : decode cX8_learnRings 27 = .ok (.iload_n 3, 1) := by decide +kernel
theorem dX8_learnRings_28 : decode cX8_learnRings 28 = .ok (.istore 4, 2) := by decide +kernel
theorem dX8_learnRings_30 : decode cX8_learnRings 30 = .ok (.iload 4, 2) := by decide +kernel
theorem dX8_learnRings_32 : decode cX8_learnRings 32 = .ok (.iload_n 1, 1) := by decide +kernel
theorem dX8_learnRings_33 : decode cX8_learnRings 33 = .ok (.if_icmp .gt 65, 3) := by decide +kernel
theorem dX8_learnRings_36 : decode cX8_learnRings 36 = .ok (.iload 4, 2) := by decide +kernel
theorem dX8_learnRings_38 : decode cX8_learnRings 38 = .ok (.iload_n 1, 1) := by decide +kernel
theorem dX8_learnRings_39 : decode cX8_learnRings 39 = .ok (.iconst (-1), 1) := by decide +kernel
theorem dX8_learnRings_40 : decode cX8_learnRings 40 = .ok (.ixor, 1) := by decide +kernel
theorem dX8_learnRings_41 : decode cX8_learnRings 41 = .ok (.iand, 1) := by decide +kernel
theorem dX8_learnRings_42 : decode cX8_learnRings 42 = .ok (.ifCond .ne 45, 3) := by decide +kernel
theorem dX8_learnRings_45 : decode cX8_learnRings 45 = .ok (.aload_n 0, 1) := by decide +kernel
theorem dX8_learnRings_46 : decode cX8_learnRings 46 = .ok (.iload 4, 2) := by decide +kernel
theorem dX8_learnRings_48 : decode cX8_learnRings 48 = .ok (.invokevirtual 68, 3) := by decide +kernel
theorem dX8_learnRings_51 : decode cX8_learnRings 51 = .ok (.ifCond .eq 36, 3) := by decide +kernel
theorem dX8_learnRings_54 : decode cX8_learnRings 54 = .ok (.aload_n 0, 1) := by decide +kernel
theorem dX8_learnRings_55 : decode cX8_learnRings 55 = .ok (.getfield 65, 3) := by decide +kernel
theorem dX8_learnRings_58 : decode cX8_learnRings 58 = .ok (.aload_n 0, 1) := by decide +kernel
theorem dX8_learnRings_59 : decode cX8_learnRings 59 = .ok (.getfield 22, 3) := by decide +kernel
theorem dX8_learnRings_62 : decode cX8_learnRings 62 = .ok (.arraylength, 1) := by decide +kernel
theorem dX8_learnRings_63 : decode cX8_learnRings 63 = .ok (.if_icmp .ge 24, 3) := by decide +kernel
theorem dX8_learnRings_66 : decode cX8_learnRings 66 = .ok (.aload_n 0, 1) := by decide +kernel
theorem dX8_learnRings_67 : decode cX8_learnRings 67 = .ok (.getfield 22, 3) := by decide +kernel
theorem dX8_learnRings_70 : decode cX8_learnRings 70 = .ok (.aload_n 0, 1) := by decide +kernel
theorem dX8_learnRings_71 : decode cX8_learnRings 71 = .ok (.getfield 65, 3) := by decide +kernel
theorem dX8_learnRings_74 : decode cX8_learnRings 74 = .ok (.iload 4, 2) := by decide +kernel
theorem dX8_learnRings_76 : decode cX8_learnRings 76 = .ok (.iastore, 1) := by decide +kernel
theorem dX8_learnRings_77 : decode cX8_learnRings 77 = .ok (.aload_n 0, 1) := by decide +kernel
theorem dX8_learnRings_78 : decode cX8_learnRings 78 = .ok (.dup, 1) := by decide +kernel
theorem dX8_learnRings_79 : decode cX8_learnRings 79 = .ok (.getfield 65, 3) := by decide +kernel
theorem dX8_learnRings_82 : decode cX8_learnRings 82 = .ok (.iconst 1, 1) := by decide +kernel
theorem dX8_learnRings_83 : decode cX8_learnRings 83 = .ok (.iadd, 1) := by decide +kernel
theorem dX8_learnRings_84 : decode cX8_learnRings 84 = .ok (.putfield 65, 3) := by decide +kernel
theorem dX8_learnRings_87 : decode cX8_learnRings 87 = .ok (.iload 4, 2) := by decide +kernel
theorem dX8_learnRings_89 : decode cX8_learnRings 89 = .ok (.iconst 2, 1) := by decide +kernel
theorem dX8_learnRings_90 : decode cX8_learnRings 90 = .ok (.iload_n 3, 1) := by decide +kernel
theorem dX8_learnRings_91 : decode cX8_learnRings 91 = .ok (.imul, 1) := by decide +kernel
theorem dX8_learnRings_92 : decode cX8_learnRings 92 = .ok (.iadd, 1) := by decide +kernel
theorem dX8_learnRings_93 : decode cX8_learnRings 93 = .ok (.istore 4, 2) := by decide +kernel
theorem dX8_learnRings_95 : decode cX8_learnRings 95 = .ok (.goto (-65), 3) := by decide +kernel
theorem dX8_learnRings_98 : decode cX8_learnRings 98 = .ok (.iinc 2 1, 3) := by decide +kernel
theorem dX8_learnRings_101 : decode cX8_learnRings 101 = .ok (.goto (-94), 3) := by decide +kernel
theorem dX8_learnRings_104 : decode cX8_learnRings 104 = .ok (.aload_n 0, 1) := by decide +kernel
theorem dX8_learnRings_105 : decode cX8_learnRings 105 = .ok (.getfield 25, 3) := by decide +kernel
theorem dX8_learnRings_108 : decode cX8_learnRings 108 = .ok (.bipush 12, 2) := by decide +kernel
theorem dX8_learnRings_110 : decode cX8_learnRings 110 = .ok (.aload_n 0, 1) := by decide +kernel
theorem dX8_learnRings_111 : decode cX8_learnRings 111 = .ok (.getfield 65, 3) := by decide +kernel
theorem dX8_learnRings_114 : decode cX8_learnRings 114 = .ok (.iastore, 1) := by decide +kernel
theorem dX8_learnRings_115 : decode cX8_learnRings 115 = .ok (.return_, 1) := by decide +kernel
theorem dX8_isLeastRing_0 : decode cX8_isLeastRing 0 = .ok (.aload_n 0, 1) := by decide +kernel
theorem dX8_isLeastRing_1 : decode cX8_isLeastRing 1 = .ok (.iload_n 1, 1) := by decide +kernel
theorem dX8_isLeastRing_2 : decode cX8_isLeastRing 2 = .ok (.invokevirtual 51, 3) := by decide +kernel
theorem dX8_isLeastRing_5 : decode cX8_isLeastRing 5 = .ok (.ifCond .eq 5, 3) := by decide +kernel
theorem dX8_isLeastRing_8 : decode cX8_isLeastRing 8 = .ok (.iconst 0, 1) := by decide +kernel
theorem dX8_isLeastRing_9 : decode cX8_isLeastRing 9 = .ok (.ireturn, 1) := by decide +kernel
theorem dX8_isLeastRing_10 : decode cX8_isLeastRing 10 = .ok (.iconst 0, 1) := by decide +kernel
theorem dX8_isLeastRing_11 : decode cX8_isLeastRing 11 = .ok (.istore_n 2, 1) := by decide +kernel
theorem dX8_isLeastRing_12 : decode cX8_isLeastRing 12 = .ok (.iload_n 2, 1) := by decide +kernel
theorem dX8_isLeastRing_13 : decode cX8_isLeastRing 13 = .ok (.bipush 12, 2) := by decide +kernel
theorem dX8_isLeastRing_15 : decode cX8_isLeastRing 15 = .ok (.if_icmp .ge 33, 3) := by decide +kernel
theorem dX8_isLeastRing_18 : decode cX8_isLeastRing 18 = .ok (.iload_n 1, 1) := by decide +kernel
theorem dX8_isLeastRing_19 : decode cX8_isLeastRing 19 = .ok (.iload_n 2, 1) := by decide +kernel
theorem dX8_isLeastRing_20 : decode cX8_isLeastRing 20 = .ok (.invokestatic 61, 3) := by decide +kernel
theorem dX8_isLeastRing_23 : decode cX8_isLeastRing 23 = .ok (.ifCond .eq 19, 3) := by decide +kernel
theorem dX8_isLeastRing_26 : decode cX8_isLeastRing 26 = .ok (.aload_n 0, 1) := by decide +kernel
theorem dX8_isLeastRing_27 : decode cX8_isLeastRing 27 = .ok (.iload_n 1, 1) := by decide +kernel
theorem dX8_isLeastRing_28 : decode cX8_isLeastRing 28 = .ok (.iconst 1, 1) := by decide +kernel
theorem dX8_isLeastRing_29 : decode cX8_isLeastRing 29 = .ok (.iload_n 2, 1) := by decide +kernel
theorem dX8_isLeastRing_30 : decode cX8_isLeastRing 30 = .ok (.ishl, 1) := by decide +kernel
theorem dX8_isLeastRing_31 : decode cX8_isLeastRing 31 = .ok (.iconst (-1), 1) := by decide +kernel
theorem dX8_isLeastRing_32 : decode cX8_isLeastRing 32 = .ok (.ixor, 1) := by decide +kernel
theorem dX8_isLeastRing_33 : decode cX8_isLeastRing 33 = .ok (.iand, 1) := by decide +kernel
theorem dX8_isLeastRing_34 : decode cX8_isLeastRing 34 = .ok (.invokevirtual 51, 3) := by decide +kernel
theorem dX8_isLeastRing_37 : decode cX8_isLeastRing 37 = .ok (.ifCond .ne 5, 3) := by decide +kernel
theorem dX8_isLeastRing_40 : decode cX8_isLeastRing 40 = .ok (.iconst 0, 1) := by decide +kernel
theorem dX8_isLeastRing_41 : decode cX8_isLeastRing 41 = .ok (.ireturn, 1) := by decide +kernel
theorem dX8_isLeastRing_42 : decode cX8_isLeastRing 42 = .ok (.iinc 2 1, 3) := by decide +kernel
theorem dX8_isLeastRing_45 : decode cX8_isLeastRing 45 = .ok (.goto (-33), 3) := by decide +kernel
theorem dX8_isLeastRing_48 : decode cX8_isLeastRing 48 = .ok (.iconst 1, 1) := by decide +kernel
theorem dX8_isLeastRing_49 : decode cX8_isLeastRing 49 = .ok (.ireturn, 1) := by decide +kernel
theorem dX8_isFree_0 : decode cX8_isFree 0 = .ok (.iload_n 1, 1) := by decide +kernel
theorem dX8_isFree_1 : decode cX8_isFree 1 = .ok (.ifCond .lt 25, 3) := by decide +kernel
theorem dX8_isFree_4 : decode cX8_isFree 4 = .ok (.iload_n 1, 1) := by decide +kernel
theorem dX8_isFree_5 : decode cX8_isFree 5 = .ok (.aload_n 0, 1) := by decide +kernel
theorem dX8_isFree_6 : decode cX8_isFree 6 = .ok (.getfield 9, 3) := by decide +kernel
theorem dX8_isFree_9 : decode cX8_isFree 9 = .ok (.arraylength, 1) := by decide +kernel
theorem dX8_isFree_10 : decode cX8_isFree 10 = .ok (.if_icmp .ge 16, 3) := by decide +kernel
theorem dX8_isFree_13 : decode cX8_isFree 13 = .ok (.aload_n 0, 1) := by decide +kernel
theorem dX8_isFree_14 : decode cX8_isFree 14 = .ok (.getfield 9, 3) := by decide +kernel
theorem dX8_isFree_17 : decode cX8_isFree 17 = .ok (.iload_n 1, 1) := by decide +kernel
theorem dX8_isFree_18 : decode cX8_isFree 18 = .ok (.baload, 1) := by decide +kernel
theorem dX8_isFree_19 : decode cX8_isFree 19 = .ok (.ifCond .eq 7, 3) := by decide +kernel
theorem dX8_isFree_22 : decode cX8_isFree 22 = .ok (.iconst 1, 1) := by decide +kernel
theorem dX8_isFree_23 : decode cX8_isFree 23 = .ok (.goto 4, 3) := by decide +kernel
theorem dX8_isFree_26 : decode cX8_isFree 26 = .ok (.iconst 0, 1) := by decide +kernel
theorem dX8_isFree_27 : decode cX8_isFree 27 = .ok (.ireturn, 1) := by decide +kernel
theorem dX8_ringAt_0 : decode cX8_ringAt 0 = .ok (.iload_n 1, 1) := by decide +kernel
theorem dX8_ringAt_1 : decode cX8_ringAt 1 = .ok (.ifCond .lt 29, 3) := by decide +kernel
theorem dX8_ringAt_4 : decode cX8_ringAt 4 = .ok (.iload_n 1, 1) := by decide +kernel
theorem dX8_ringAt_5 : decode cX8_ringAt 5 = .ok (.aload_n 0, 1) := by decide +kernel
theorem dX8_ringAt_6 : decode cX8_ringAt 6 = .ok (.getfield 22, 3) := by decide +kernel
theorem dX8_ringAt_9 : decode cX8_ringAt 9 = .ok (.arraylength, 1) := by decide +kernel
theorem dX8_ringAt_10 : decode cX8_ringAt 10 = .ok (.if_icmp .ge 20, 3) := by decide +kernel
theorem dX8_ringAt_13 : decode cX8_ringAt 13 = .ok (.iload_n 1, 1) := by decide +kernel
theorem dX8_ringAt_14 : decode cX8_ringAt 14 = .ok (.aload_n 0, 1) := by decide +kernel
theorem dX8_ringAt_15 : decode cX8_ringAt 15 = .ok (.getfield 65, 3) := by decide +kernel
theorem dX8_ringAt_18 : decode cX8_ringAt 18 = .ok (.if_icmp .ge 12, 3) := by decide +kernel
theorem dX8_ringAt_21 : decode cX8_ringAt 21 = .ok (.aload_n 0, 1) := by decide +kernel
theorem dX8_ringAt_22 : decode cX8_ringAt 22 = .ok (.getfield 22, 3) := by decide +kernel
theorem dX8_ringAt_25 : decode cX8_ringAt 25 = .ok (.iload_n 1, 1) := by decide +kernel
theorem dX8_ringAt_26 : decode cX8_ringAt 26 = .ok (.iaload, 1) := by decide +kernel
theorem dX8_ringAt_27 : decode cX8_ringAt 27 = .ok (.goto 4, 3) := by decide +kernel
theorem dX8_ringAt_30 : decode cX8_ringAt 30 = .ok (.iconst 0, 1) := by decide +kernel
theorem dX8_ringAt_31 : decode cX8_ringAt 31 = .ok (.ireturn, 1) := by decide +kernel
theorem dX8_startOf_0 : decode cX8_startOf 0 = .ok (.iload_n 1, 1) := by decide +kernel
theorem dX8_startOf_1 : decode cX8_startOf 1 = .ok (.ifCond .lt 21, 3) := by decide +kernel
theorem dX8_startOf_4 : decode cX8_startOf 4 = .ok (.iload_n 1, 1) := by decide +kernel
theorem dX8_startOf_5 : decode cX8_startOf 5 = .ok (.aload_n 0, 1) := by decide +kernel
theorem dX8_startOf_6 : decode cX8_startOf 6 = .ok (.getfield 25, 3) := by decide +kernel
theorem dX8_startOf_9 : decode cX8_startOf 9 = .ok (.arraylength, 1) := by decide +kernel
theorem dX8_startOf_10 : decode cX8_startOf 10 = .ok (.if_icmp .ge 12, 3) := by decide +kernel
theorem dX8_startOf_13 : decode cX8_startOf 13 = .ok (.aload_n 0, 1) := by decide +kernel
theorem dX8_startOf_14 : decode cX8_startOf 14 = .ok (.getfield 25, 3) := by decide +kernel
theorem dX8_startOf_17 : decode cX8_startOf 17 = .ok (.iload_n 1, 1) := by decide +kernel
theorem dX8_startOf_18 : decode cX8_startOf 18 = .ok (.iaload, 1) := by decide +kernel
theorem dX8_startOf_19 : decode cX8_startOf 19 = .ok (.goto 7, 3) := by decide +kernel
theorem dX8_startOf_22 : decode cX8_startOf 22 = .ok (.aload_n 0, 1) := by decide +kernel
theorem dX8_startOf_23 : decode cX8_startOf 23 = .ok (.getfield 65, 3) := by decide +kernel
theorem dX8_startOf_26 : decode cX8_startOf 26 = .ok (.ireturn, 1) := by decide +kernel
theorem dX8_fewestOf_0 : decode cX8_fewestOf 0 = .ok (.iconst (-1), 1) := by decide +kernel
theorem dX8_fewestOf_1 : decode cX8_fewestOf 1 = .ok (.istore_n 3, 1) := by decide +kernel
theorem dX8_fewestOf_2 : decode cX8_fewestOf 2 = .ok (.bipush 13, 2) := by decide +kernel
theorem dX8_fewestOf_4 : decode cX8_fewestOf 4 = .ok (.istore 4, 2) := by decide +kernel
theorem dX8_fewestOf_6 : decode cX8_fewestOf 6 = .ok (.iconst 0, 1) := by decide +kernel
theorem dX8_fewestOf_7 : decode cX8_fewestOf 7 = .ok (.istore 5, 2) := by decide +kernel
theorem dX8_fewestOf_9 : decode cX8_fewestOf 9 = .ok (.iload 5, 2) := by decide +kernel
theorem dX8_fewestOf_11 : decode cX8_fewestOf 11 = .ok (.iload_n 1, 1) := by decide +kernel
theorem dX8_fewestOf_12 : decode cX8_fewestOf 12 = .ok (.if_icmp .gt 58, 3) := by decide +kernel
theorem dX8_fewestOf_15 : decode cX8_fewestOf 15 = .ok (.iload 5, 2) := by decide +kernel
theorem dX8_fewestOf_17 : decode cX8_fewestOf 17 = .ok (.iload_n 1, 1) := by decide +kernel
theorem dX8_fewestOf_18 : decode cX8_fewestOf 18 = .ok (.iconst (-1), 1) := by decide +kernel
theorem dX8_fewestOf_19 : decode cX8_fewestOf 19 = .ok (.ixor, 1) := by decide +kernel
theorem dX8_fewestOf_20 : decode cX8_fewestOf 20 = .ok (.iand, 1) := by decide +kernel
theorem dX8_fewestOf_21 : decode cX8_fewestOf 21 = .ok (.ifCond .ne 43, 3) := by decide +kernel
theorem dX8_fewestOf_24 : decode cX8_fewestOf 24 = .ok (.iload 5, 2) := by decide +kernel
theorem dX8_fewestOf_26 : decode cX8_fewestOf 26 = .ok (.iload_n 2, 1) := by decide +kernel
theorem dX8_fewestOf_27 : decode cX8_fewestOf 27 = .ok (.iand, 1) := by decide +kernel
theorem dX8_fewestOf_28 : decode cX8_fewestOf 28 = .ok (.ifCond .ne 36, 3) := by decide +kernel
theorem dX8_fewestOf_31 : decode cX8_fewestOf 31 = .ok (.iload 5, 2) := by decide +kernel
theorem dX8_fewestOf_33 : decode cX8_fewestOf 33 = .ok (.invokestatic 28, 3) := by decide +kernel
theorem dX8_fewestOf_36 : decode cX8_fewestOf 36 = .ok (.iload 4, 2) := by decide +kernel
theorem dX8_fewestOf_38 : decode cX8_fewestOf 38 = .ok (.if_icmp .ge 26, 3) := by decide +kernel
theorem dX8_fewestOf_41 : decode cX8_fewestOf 41 = .ok (.aload_n 0, 1) := by decide +kernel
theorem dX8_fewestOf_42 : decode cX8_fewestOf 42 = .ok (.iload_n 1, 1) := by decide +kernel
theorem dX8_fewestOf_43 : decode cX8_fewestOf 43 = .ok (.iload 5, 2) := by decide +kernel
theorem dX8_fewestOf_45 : decode cX8_fewestOf 45 = .ok (.iconst (-1), 1) := by decide +kernel
theorem dX8_fewestOf_46 : decode cX8_fewestOf 46 = .ok (.ixor, 1) := by decide +kernel
theorem dX8_fewestOf_47 : decode cX8_fewestOf 47 = .ok (.iand, 1) := by decide +kernel
theorem dX8_fewestOf_48 : decode cX8_fewestOf 48 = .ok (.invokevirtual 51, 3) := by decide +kernel
theorem dX8_fewestOf_51 : decode cX8_fewestOf 51 = .ok (.ifCond .eq 13, 3) := by decide +kernel
theorem dX8_fewestOf_54 : decode cX8_fewestOf 54 = .ok (.iload 5, 2) := by decide +kernel
theorem dX8_fewestOf_56 : decode cX8_fewestOf 56 = .ok (.istore_n 3, 1) := by decide +kernel
theorem dX8_fewestOf_57 : decode cX8_fewestOf 57 = .ok (.iload 5, 2) := by decide +kernel
theorem dX8_fewestOf_59 : decode cX8_fewestOf 59 = .ok (.invokestatic 28, 3) := by decide +kernel
theorem dX8_fewestOf_62 : decode cX8_fewestOf 62 = .ok (.istore 4, 2) := by decide +kernel
theorem dX8_fewestOf_64 : decode cX8_fewestOf 64 = .ok (.iinc 5 1, 3) := by decide +kernel
theorem dX8_fewestOf_67 : decode cX8_fewestOf 67 = .ok (.goto (-58), 3) := by decide +kernel
theorem dX8_fewestOf_70 : decode cX8_fewestOf 70 = .ok (.iload_n 3, 1) := by decide +kernel
theorem dX8_fewestOf_71 : decode cX8_fewestOf 71 = .ok (.ireturn, 1) := by decide +kernel
theorem dX8_shortestRing_0 : decode cX8_shortestRing 0 = .ok (.iconst 0, 1) := by decide +kernel
theorem dX8_shortestRing_1 : decode cX8_shortestRing 1 = .ok (.istore_n 1, 1) := by decide +kernel
theorem dX8_shortestRing_2 : decode cX8_shortestRing 2 = .ok (.iconst 0, 1) := by decide +kernel
theorem dX8_shortestRing_3 : decode cX8_shortestRing 3 = .ok (.istore_n 2, 1) := by decide +kernel
theorem dX8_shortestRing_4 : decode cX8_shortestRing 4 = .ok (.iload_n 2, 1) := by decide +kernel
theorem dX8_shortestRing_5 : decode cX8_shortestRing 5 = .ok (.aload_n 0, 1) := by decide +kernel
theorem dX8_shortestRing_6 : decode cX8_shortestRing 6 = .ok (.getfield 65, 3) := by decide +kernel
theorem dX8_shortestRing_9 : decode cX8_shortestRing 9 = .ok (.if_icmp .ge 47, 3) := by decide +kernel
theorem dX8_shortestRing_12 : decode cX8_shortestRing 12 = .ok (.aload_n 0, 1) := by decide +kernel
theorem dX8_shortestRing_13 : decode cX8_shortestRing 13 = .ok (.iload_n 2, 1) := by decide +kernel
theorem dX8_shortestRing_14 : decode cX8_shortestRing 14 = .ok (.invokevirtual 71, 3) := by decide +kernel
theorem dX8_shortestRing_17 : decode cX8_shortestRing 17 = .ok (.istore_n 3, 1) := by decide +kernel
theorem dX8_shortestRing_18 : decode cX8_shortestRing 18 = .ok (.iload_n 3, 1) := by decide +kernel
theorem dX8_shortestRing_19 : decode cX8_shortestRing 19 = .ok (.invokestatic 28, 3) := by decide +kernel
theorem dX8_shortestRing_22 : decode cX8_shortestRing 22 = .ok (.iload_n 1, 1) := by decide +kernel
theorem dX8_shortestRing_23 : decode cX8_shortestRing 23 = .ok (.invokestatic 28, 3) := by decide +kernel
theorem dX8_shortestRing_26 : decode cX8_shortestRing 26 = .ok (.isub, 1) := by decide +kernel
theorem dX8_shortestRing_27 : decode cX8_shortestRing 27 = .ok (.istore 4, 2) := by decide +kernel
theorem dX8_shortestRing_29 : decode cX8_shortestRing 29 = .ok (.iload_n 1, 1) := by decide +kernel
theorem dX8_shortestRing_30 : decode cX8_shortestRing 30 = .ok (.ifCond .eq 18, 3) := by decide +kernel
theorem dX8_shortestRing_33 : decode cX8_shortestRing 33 = .ok (.iload 4, 2) := by decide +kernel
theorem dX8_shortestRing_35 : decode cX8_shortestRing 35 = .ok (.ifCond .lt 13, 3) := by decide +kernel
theorem dX8_shortestRing_38 : decode cX8_shortestRing 38 = .ok (.iload 4, 2) := by decide +kernel
theorem dX8_shortestRing_40 : decode cX8_shortestRing 40 = .ok (.ifCond .ne 10, 3) := by decide +kernel
theorem dX8_shortestRing_43 : decode cX8_shortestRing 43 = .ok (.iload_n 3, 1) := by decide +kernel
theorem dX8_shortestRing_44 : decode cX8_shortestRing 44 = .ok (.iload_n 1, 1) := by decide +kernel
theorem dX8_shortestRing_45 : decode cX8_shortestRing 45 = .ok (.if_icmp .ge 5, 3) := by decide +kernel
theorem dX8_shortestRing_48 : decode cX8_shortestRing 48 = .ok (.iload_n 3, 1) := by decide +kernel
theorem dX8_shortestRing_49 : decode cX8_shortestRing 49 = .ok (.istore_n 1, 1) := by decide +kernel
theorem dX8_shortestRing_50 : decode cX8_shortestRing 50 = .ok (.iinc 2 1, 3) := by decide +kernel
theorem dX8_shortestRing_53 : decode cX8_shortestRing 53 = .ok (.goto (-49), 3) := by decide +kernel
theorem dX8_shortestRing_56 : decode cX8_shortestRing 56 = .ok (.iload_n 1, 1) := by decide +kernel
theorem dX8_shortestRing_57 : decode cX8_shortestRing 57 = .ok (.ireturn, 1) := by decide +kernel
theorem dX9_step_0 : decode cX9_step 0 = .ok (.aload_n 0, 1) := by decide +kernel
theorem dX9_step_1 : decode cX9_step 1 = .ok (.invokestatic 9, 3) := by decide +kernel
theorem dX9_step_4 : decode cX9_step 4 = .ok (.istore_n 1, 1) := by decide +kernel
theorem dX9_step_5 : decode cX9_step 5 = .ok (.iload_n 1, 1) := by decide +kernel
theorem dX9_step_6 : decode cX9_step 6 = .ok (.iconst (-1), 1) := by decide +kernel
theorem dX9_step_7 : decode cX9_step 7 = .ok (.if_icmp .eq 5, 3) := by decide +kernel
theorem dX9_step_10 : decode cX9_step 10 = .ok (.iload_n 1, 1) := by decide +kernel
theorem dX9_step_11 : decode cX9_step 11 = .ok (.ireturn, 1) := by decide +kernel
theorem dX9_step_12 : decode cX9_step 12 = .ok (.aload_n 0, 1) := by decide +kernel
theorem dX9_step_13 : decode cX9_step 13 = .ok (.invokestatic 15, 3) := by decide +kernel
theorem dX9_step_16 : decode cX9_step 16 = .ok (.istore_n 1, 1) := by decide +kernel
theorem dX9_step_17 : decode cX9_step 17 = .ok (.iload_n 1, 1) := by decide +kernel
theorem dX9_step_18 : decode cX9_step 18 = .ok (.iconst (-1), 1) := by decide +kernel
theorem dX9_step_19 : decode cX9_step 19 = .ok (.if_icmp .eq 8, 3) := by decide +kernel
theorem dX9_step_22 : decode cX9_step 22 = .ok (.bipush 16, 2) := by decide +kernel
theorem dX9_step_24 : decode cX9_step 24 = .ok (.iload_n 1, 1) := by decide +kernel
theorem dX9_step_25 : decode cX9_step 25 = .ok (.iadd, 1) := by decide +kernel
theorem dX9_step_26 : decode cX9_step 26 = .ok (.ireturn, 1) := by decide +kernel
theorem dX9_step_27 : decode cX9_step 27 = .ok (.aload_n 0, 1) := by decide +kernel
theorem dX9_step_28 : decode cX9_step 28 = .ok (.invokestatic 18, 3) := by decide +kernel
theorem dX9_step_31 : decode cX9_step 31 = .ok (.istore_n 1, 1) := by decide +kernel
theorem dX9_step_32 : decode cX9_step 32 = .ok (.iload_n 1, 1) := by decide +kernel
theorem dX9_step_33 : decode cX9_step 33 = .ok (.iconst (-1), 1) := by decide +kernel
theorem dX9_step_34 : decode cX9_step 34 = .ok (.if_icmp .eq 8, 3) := by decide +kernel
theorem dX9_step_37 : decode cX9_step 37 = .ok (.bipush 32, 2) := by decide +kernel
theorem dX9_step_39 : decode cX9_step 39 = .ok (.iload_n 1, 1) := by decide +kernel
theorem dX9_step_40 : decode cX9_step 40 = .ok (.iadd, 1) := by decide +kernel
theorem dX9_step_41 : decode cX9_step 41 = .ok (.ireturn, 1) := by decide +kernel
theorem dX9_step_42 : decode cX9_step 42 = .ok (.aload_n 0, 1) := by decide +kernel
theorem dX9_step_43 : decode cX9_step 43 = .ok (.invokestatic 21, 3) := by decide +kernel
theorem dX9_step_46 : decode cX9_step 46 = .ok (.istore_n 1, 1) := by decide +kernel
theorem dX9_step_47 : decode cX9_step 47 = .ok (.iload_n 1, 1) := by decide +kernel
theorem dX9_step_48 : decode cX9_step 48 = .ok (.iconst (-1), 1) := by decide +kernel
theorem dX9_step_49 : decode cX9_step 49 = .ok (.if_icmp .eq 10, 3) := by decide +kernel
theorem dX9_step_52 : decode cX9_step 52 = .ok (.bipush 48, 2) := by decide +kernel
theorem dX9_step_54 : decode cX9_step 54 = .ok (.iload_n 1, 1) := by decide +kernel
theorem dX9_step_55 : decode cX9_step 55 = .ok (.iadd, 1) := by decide +kernel
theorem dX9_step_56 : decode cX9_step 56 = .ok (.goto 4, 3) := by decide +kernel
theorem dX9_step_59 : decode cX9_step 59 = .ok (.iconst (-1), 1) := by decide +kernel
theorem dX9_step_60 : decode cX9_step 60 = .ok (.ireturn, 1) := by decide +kernel
theorem dX9_takeLooped_0 : decode cX9_takeLooped 0 = .ok (.iconst 0, 1) := by decide +kernel
theorem dX9_takeLooped_1 : decode cX9_takeLooped 1 = .ok (.istore_n 1, 1) := by decide +kernel
theorem dX9_takeLooped_2 : decode cX9_takeLooped 2 = .ok (.iload_n 1, 1) := by decide +kernel
theorem dX9_takeLooped_3 : decode cX9_takeLooped 3 = .ok (.bipush 12, 2) := by decide +kernel
theorem dX9_takeLooped_5 : decode cX9_takeLooped 5 = .ok (.if_icmp .ge 46, 3) := by decide +kernel
theorem dX9_takeLooped_8 : decode cX9_takeLooped 8 = .ok (.aload_n 0, 1) := by decide +kernel
theorem dX9_takeLooped_9 : decode cX9_takeLooped 9 = .ok (.iload_n 1, 1) := by decide +kernel
theorem dX9_takeLooped_10 : decode cX9_takeLooped 10 = .ok (.invokevirtual 24, 3) := by decide +kernel
theorem dX9_takeLooped_13 : decode cX9_takeLooped 13 = .ok (.ifCond .eq 32, 3) := by decide +kernel
theorem dX9_takeLooped_16 : decode cX9_takeLooped 16 = .ok (.aload_n 0, 1) := by decide +kernel
theorem dX9_takeLooped_17 : decode cX9_takeLooped 17 = .ok (.iload_n 1, 1) := by decide +kernel
theorem dX9_takeLooped_18 : decode cX9_takeLooped 18 = .ok (.iload_n 1, 1) := by decide +kernel
theorem dX9_takeLooped_19 : decode cX9_takeLooped 19 = .ok (.invokevirtual 30, 3) := by decide +kernel
theorem dX9_takeLooped_22 : decode cX9_takeLooped 22 = .ok (.ifCond .le 23, 3) := by decide +kernel
theorem dX9_takeLooped_25 : decode cX9_takeLooped 25 = .ok (.aload_n 0, 1) := by decide +kernel
theorem dX9_takeLooped_26 : decode cX9_takeLooped 26 = .ok (.iload_n 1, 1) := by decide +kernel
theorem dX9_takeLooped_27 : decode cX9_takeLooped 27 = .ok (.invokevirtual 34, 3) := by decide +kernel
theorem dX9_takeLooped_30 : decode cX9_takeLooped 30 = .ok (.pop, 1) := by decide +kernel
theorem dX9_takeLooped_31 : decode cX9_takeLooped 31 = .ok (.aload_n 0, 1) := by decide +kernel
theorem dX9_takeLooped_32 : decode cX9_takeLooped 32 = .ok (.dup, 1) := by decide +kernel
theorem dX9_takeLooped_33 : decode cX9_takeLooped 33 = .ok (.getfield 37, 3) := by decide +kernel
theorem dX9_takeLooped_36 : decode cX9_takeLooped 36 = .ok (.iconst 1, 1) := by decide +kernel
theorem dX9_takeLooped_37 : decode cX9_takeLooped 37 = .ok (.iload_n 1, 1) := by decide +kernel
theorem dX9_takeLooped_38 : decode cX9_takeLooped 38 = .ok (.ishl, 1) := by decide +kernel
theorem dX9_takeLooped_39 : decode cX9_takeLooped 39 = .ok (.ior, 1) := by decide +kernel
theorem dX9_takeLooped_40 : decode cX9_takeLooped 40 = .ok (.putfield 37, 3) := by decide +kernel
theorem dX9_takeLooped_43 : decode cX9_takeLooped 43 = .ok (.iload_n 1, 1) := by decide +kernel
theorem dX9_takeLooped_44 : decode cX9_takeLooped 44 = .ok (.ireturn, 1) := by decide +kernel
theorem dX9_takeLooped_45 : decode cX9_takeLooped 45 = .ok (.iinc 1 1, 3) := by decide +kernel
theorem dX9_takeLooped_48 : decode cX9_takeLooped 48 = .ok (.goto (-46), 3) := by decide +kernel
theorem dX9_takeLooped_51 : decode cX9_takeLooped 51 = .ok (.iconst (-1), 1) := by decide +kernel
theorem dX9_takeLooped_52 : decode cX9_takeLooped 52 = .ok (.ireturn, 1) := by decide +kernel
theorem dX9_removeTip_0 : decode cX9_removeTip 0 = .ok (.iconst 0, 1) := by decide +kernel
theorem dX9_removeTip_1 : decode cX9_removeTip 1 = .ok (.istore_n 1, 1) := by decide +kernel
theorem dX9_removeTip_2 : decode cX9_removeTip 2 = .ok (.iload_n 1, 1) := by decide +kernel
theorem dX9_removeTip_3 : decode cX9_removeTip 3 = .ok (.bipush 12, 2) := by decide +kernel
theorem dX9_removeTip_5 : decode cX9_removeTip 5 = .ok (.if_icmp .ge 38, 3) := by decide +kernel
theorem dX9_removeTip_8 : decode cX9_removeTip 8 = .ok (.aload_n 0, 1) := by decide +kernel
theorem dX9_removeTip_9 : decode cX9_removeTip 9 = .ok (.iload_n 1, 1) := by decide +kernel
theorem dX9_removeTip_10 : decode cX9_removeTip 10 = .ok (.invokevirtual 24, 3) := by decide +kernel
theorem dX9_removeTip_13 : decode cX9_removeTip 13 = .ok (.ifCond .eq 24, 3) := by decide +kernel
theorem dX9_removeTip_16 : decode cX9_removeTip 16 = .ok (.aload_n 0, 1) := by decide +kernel
theorem dX9_removeTip_17 : decode cX9_removeTip 17 = .ok (.iload_n 1, 1) := by decide +kernel
theorem dX9_removeTip_18 : decode cX9_removeTip 18 = .ok (.aload_n 0, 1) := by decide +kernel
theorem dX9_removeTip_19 : decode cX9_removeTip 19 = .ok (.getfield 41, 3) := by decide +kernel
theorem dX9_removeTip_22 : decode cX9_removeTip 22 = .ok (.invokevirtual 44, 3) := by decide +kernel
theorem dX9_removeTip_25 : decode cX9_removeTip 25 = .ok (.iconst 1, 1) := by decide +kernel
theorem dX9_removeTip_26 : decode cX9_removeTip 26 = .ok (.if_icmp .gt 11, 3) := by decide +kernel
theorem dX9_removeTip_29 : decode cX9_removeTip 29 = .ok (.aload_n 0, 1) := by decide +kernel
theorem dX9_removeTip_30 : decode cX9_removeTip 30 = .ok (.iload_n 1, 1) := by decide +kernel
theorem dX9_removeTip_31 : decode cX9_removeTip 31 = .ok (.invokevirtual 34, 3) := by decide +kernel
theorem dX9_removeTip_34 : decode cX9_removeTip 34 = .ok (.pop, 1) := by decide +kernel
theorem dX9_removeTip_35 : decode cX9_removeTip 35 = .ok (.iload_n 1, 1) := by decide +kernel
theorem dX9_removeTip_36 : decode cX9_removeTip 36 = .ok (.ireturn, 1) := by decide +kernel
theorem dX9_removeTip_37 : decode cX9_removeTip 37 = .ok (.iinc 1 1, 3) := by decide +kernel
theorem dX9_removeTip_40 : decode cX9_removeTip 40 = .ok (.goto (-38), 3) := by decide +kernel
theorem dX9_removeTip_43 : decode cX9_removeTip 43 = .ok (.iconst (-1), 1) := by decide +kernel
theorem dX9_removeTip_44 : decode cX9_removeTip 44 = .ok (.ireturn, 1) := by decide +kernel
theorem dX9_thinLines_0 : decode cX9_thinLines 0 = .ok (.iconst 0, 1) := by decide +kernel
theorem dX9_thinLines_1 : decode cX9_thinLines 1 = .ok (.istore_n 1, 1) := by decide +kernel
theorem dX9_thinLines_2 : decode cX9_thinLines 2 = .ok (.iload_n 1, 1) := by decide +kernel
theorem dX9_thinLines_3 : decode cX9_thinLines 3 = .ok (.bipush 12, 2) := by decide +kernel
theorem dX9_thinLines_5 : decode cX9_thinLines 5 = .ok (.if_icmp .ge 44, 3) := by decide +kernel
theorem dX9_thinLines_8 : decode cX9_thinLines 8 = .ok (.iload_n 1, 1) := by decide +kernel
theorem dX9_thinLines_9 : decode cX9_thinLines 9 = .ok (.iconst 1, 1) := by decide +kernel
theorem dX9_thinLines_10 : decode cX9_thinLines 10 = .ok (.iadd, 1) := by decide +kernel
theorem dX9_thinLines_11 : decode cX9_thinLines 11 = .ok (.istore_n 2, 1) := by decide +kernel
theorem dX9_thinLines_12 : decode cX9_thinLines 12 = .ok (.iload_n 2, 1) := by decide +kernel
theorem dX9_thinLines_13 : decode cX9_thinLines 13 = .ok (.bipush 12, 2) := by decide +kernel
theorem dX9_thinLines_15 : decode cX9_thinLines 15 = .ok (.if_icmp .ge 28, 3) := by decide +kernel
theorem dX9_thinLines_18 : decode cX9_thinLines 18 = .ok (.aload_n 0, 1) := by decide +kernel
theorem dX9_thinLines_19 : decode cX9_thinLines 19 = .ok (.iload_n 1, 1) := by decide +kernel
theorem dX9_thinLines_20 : decode cX9_thinLines 20 = .ok (.iload_n 2, 1) := by decide +kernel
theorem dX9_thinLines_21 : decode cX9_thinLines 21 = .ok (.invokevirtual 30, 3) := by decide +kernel
theorem dX9_thinLines_24 : decode cX9_thinLines 24 = .ok (.iconst 2, 1) := by decide +kernel
theorem dX9_thinLines_25 : decode cX9_thinLines 25 = .ok (.if_icmp .le 12, 3) := by decide +kernel
theorem dX9_thinLines_28 : decode cX9_thinLines 28 = .ok (.aload_n 0, 1) := by decide +kernel
theorem dX9_thinLines_29 : decode cX9_thinLines 29 = .ok (.iload_n 1, 1) := by decide +kernel
theorem dX9_thinLines_30 : decode cX9_thinLines 30 = .ok (.iload_n 2, 1) := by decide +kernel
theorem dX9_thinLines_31 : decode cX9_thinLines 31 = .ok (.iconst 2, 1) := by decide +kernel
theorem dX9_thinLines_32 : decode cX9_thinLines 32 = .ok (.invokevirtual 47, 3) := by decide +kernel
theorem dX9_thinLines_35 : decode cX9_thinLines 35 = .ok (.iload_n 1, 1) := by decide +kernel
theorem dX9_thinLines_36 : decode cX9_thinLines 36 = .ok (.ireturn, 1) := by decide +kernel
theorem dX9_thinLines_37 : decode cX9_thinLines 37 = .ok (.iinc 2 1, 3) := by decide +kernel
theorem dX9_thinLines_40 : decode cX9_thinLines 40 = .ok (.goto (-28), 3) := by decide +kernel
theorem dX9_thinLines_43 : decode cX9_thinLines 43 = .ok (.iinc 1 1, 3) := by decide +kernel
theorem dX9_thinLines_46 : decode cX9_thinLines 46 = .ok (.goto (-44), 3) := by decide +kernel
theorem dX9_thinLines_49 : decode cX9_thinLines 49 = .ok (.iconst (-1), 1) := by decide +kernel
theorem dX9_thinLines_50 : decode cX9_thinLines 50 = .ok (.ireturn, 1) := by decide +kernel
theorem dX9_passBy_0 : decode cX9_passBy 0 = .ok (.iconst 0, 1) := by decide +kernel
theorem dX9_passBy_1 : decode cX9_passBy 1 = .ok (.istore_n 1, 1) := by decide +kernel
theorem dX9_passBy_2 : decode cX9_passBy 2 = .ok (.iload_n 1, 1) := by decide +kernel
theorem dX9_passBy_3 : decode cX9_passBy 3 = .ok (.bipush 12, 2) := by decide +kernel
theorem dX9_passBy_5 : decode cX9_passBy 5 = .ok (.if_icmp .ge 99, 3) := by decide +kernel
theorem dX9_passBy_8 : decode cX9_passBy 8 = .ok (.aload_n 0, 1) := by decide +kernel
theorem dX9_passBy_9 : decode cX9_passBy 9 = .ok (.iload_n 1, 1) := by decide +kernel
theorem dX9_passBy_10 : decode cX9_passBy 10 = .ok (.invokevirtual 24, 3) := by decide +kernel
theorem dX9_passBy_13 : decode cX9_passBy 13 = .ok (.ifCond .eq 85, 3) := by decide +kernel
theorem dX9_passBy_16 : decode cX9_passBy 16 = .ok (.aload_n 0, 1) := by decide +kernel
theorem dX9_passBy_17 : decode cX9_passBy 17 = .ok (.iload_n 1, 1) := by decide +kernel
theorem dX9_passBy_18 : decode cX9_passBy 18 = .ok (.aload_n 0, 1) := by decide +kernel
theorem dX9_passBy_19 : decode cX9_passBy 19 = .ok (.getfield 41, 3) := by decide +kernel
theorem dX9_passBy_22 : decode cX9_passBy 22 = .ok (.invokevirtual 44, 3) := by decide +kernel
theorem dX9_passBy_25 : decode cX9_passBy 25 = .ok (.iconst 2, 1) := by decide +kernel
theorem dX9_passBy_26 : decode cX9_passBy 26 = .ok (.if_icmp .ne 72, 3) := by decide +kernel
theorem dX9_passBy_29 : decode cX9_passBy 29 = .ok (.aload_n 0, 1) := by decide +kernel
theorem dX9_passBy_30 : decode cX9_passBy 30 = .ok (.iload_n 1, 1) := by decide +kernel
theorem dX9_passBy_31 : decode cX9_passBy 31 = .ok (.iconst 1, 1) := by decide +kernel
theorem dX9_passBy_32 : decode cX9_passBy 32 = .ok (.invokevirtual 51, 3) := by decide +kernel
theorem dX9_passBy_35 : decode cX9_passBy 35 = .ok (.istore_n 2, 1) := by decide +kernel
theorem dX9_passBy_36 : decode cX9_passBy 36 = .ok (.iload_n 2, 1) := by decide +kernel
theorem dX9_passBy_37 : decode cX9_passBy 37 = .ok (.invokestatic 54, 3) := by decide +kernel
theorem dX9_passBy_40 : decode cX9_passBy 40 = .ok (.istore_n 3, 1) := by decide +kernel
theorem dX9_passBy_41 : decode cX9_passBy 41 = .ok (.iload_n 2, 1) := by decide +kernel
theorem dX9_passBy_42 : decode cX9_passBy 42 = .ok (.iload_n 2, 1) := by decide +kernel
theorem dX9_passBy_43 : decode cX9_passBy 43 = .ok (.iconst 1, 1) := by decide +kernel
theorem dX9_passBy_44 : decode cX9_passBy 44 = .ok (.isub, 1) := by decide +kernel
theorem dX9_passBy_45 : decode cX9_passBy 45 = .ok (.iand, 1) := by decide +kernel
theorem dX9_passBy_46 : decode cX9_passBy 46 = .ok (.invokestatic 54, 3) := by decide +kernel
theorem dX9_passBy_49 : decode cX9_passBy 49 = .ok (.istore 4, 2) := by decide +kernel
theorem dX9_passBy_51 : decode cX9_passBy 51 = .ok (.iload 4, 2) := by decide +kernel
theorem dX9_passBy_53 : decode cX9_passBy 53 = .ok (.iconst (-1), 1) := by decide +kernel
theorem dX9_passBy_54 : decode cX9_passBy 54 = .ok (.if_icmp .ne 6, 3) := by decide +kernel
theorem dX9_passBy_57 : decode cX9_passBy 57 = .ok (.iload_n 3, 1) := by decide +kernel
theorem dX9_passBy_58 : decode cX9_passBy 58 = .ok (.istore 4, 2) := by decide +kernel
theorem dX9_passBy_60 : decode cX9_passBy 60 = .ok (.aload_n 0, 1) := by decide +kernel
theorem dX9_passBy_61 : decode cX9_passBy 61 = .ok (.iload_n 1, 1) := by decide +kernel
theorem dX9_passBy_62 : decode cX9_passBy 62 = .ok (.invokevirtual 60, 3) := by decide +kernel
theorem dX9_passBy_65 : decode cX9_passBy 65 = .ok (.aload_n 0, 1) := by decide +kernel
theorem dX9_passBy_66 : decode cX9_passBy 66 = .ok (.iload_n 3, 1) := by decide +kernel
theorem dX9_passBy_67 : decode cX9_passBy 67 = .ok (.invokevirtual 60, 3) := by decide +kernel
theorem dX9_passBy_70 : decode cX9_passBy 70 = .ok (.aload_n 0, 1) := by decide +kernel
theorem dX9_passBy_71 : decode cX9_passBy 71 = .ok (.iload 4, 2) := by decide +kernel
theorem dX9_passBy_73 : decode cX9_passBy 73 = .ok (.invokevirtual 60, 3) := by decide +kernel
theorem dX9_passBy_76 : decode cX9_passBy 76 = .ok (.invokestatic 63, 3) := by decide +kernel
theorem dX9_passBy_79 : decode cX9_passBy 79 = .ok (.if_icmp .lt 19, 3) := by decide +kernel
theorem dX9_passBy_82 : decode cX9_passBy 82 = .ok (.aload_n 0, 1) := by decide +kernel
theorem dX9_passBy_83 : decode cX9_passBy 83 = .ok (.iload_n 1, 1) := by decide +kernel
theorem dX9_passBy_84 : decode cX9_passBy 84 = .ok (.invokevirtual 34, 3) := by decide +kernel
theorem dX9_passBy_87 : decode cX9_passBy 87 = .ok (.pop, 1) := by decide +kernel
theorem dX9_passBy_88 : decode cX9_passBy 88 = .ok (.aload_n 0, 1) := by decide +kernel
theorem dX9_passBy_89 : decode cX9_passBy 89 = .ok (.iload_n 3, 1) := by decide +kernel
theorem dX9_passBy_90 : decode cX9_passBy 90 = .ok (.iload 4, 2) := by decide +kernel
theorem dX9_passBy_92 : decode cX9_passBy 92 = .ok (.invokevirtual 68, 3) := by decide +kernel
theorem dX9_passBy_95 : decode cX9_passBy 95 = .ok (.pop, 1) := by decide +kernel
theorem dX9_passBy_96 : decode cX9_passBy 96 = .ok (.iload_n 1, 1) := by decide +kernel
theorem dX9_passBy_97 : decode cX9_passBy 97 = .ok (.ireturn, 1) := by decide +kernel
theorem dX9_passBy_98 : decode cX9_passBy 98 = .ok (.iinc 1 1, 3) := by decide +kernel
theorem dX9_passBy_101 : decode cX9_passBy 101 = .ok (.goto (-99), 3) := by decide +kernel
theorem dX9_passBy_104 : decode cX9_passBy 104 = .ok (.iconst (-1), 1) := by decide +kernel
theorem dX9_passBy_105 : decode cX9_passBy 105 = .ok (.ireturn, 1) := by decide +kernel
theorem dX10_init_0 : decode cX10_init 0 = .ok (.aload_n 0, 1) := by decide +kernel
theorem dX10_init_1 : decode cX10_init 1 = .ok (.invokespecial 1, 3) := by decide +kernel
theorem dX10_init_4 : decode cX10_init 4 = .ok (.aload_n 0, 1) := by decide +kernel
theorem dX10_init_5 : decode cX10_init 5 = .ok (.sipush 640, 3) := by decide +kernel
theorem dX10_init_8 : decode cX10_init 8 = .ok (.newarray .int, 2) := by decide +kernel
theorem dX10_init_10 : decode cX10_init 10 = .ok (.putfield 9, 3) := by decide +kernel
theorem dX10_init_13 : decode cX10_init 13 = .ok (.return_, 1) := by decide +kernel
theorem dX10_hasRoom_0 : decode cX10_hasRoom 0 = .ok (.aload_n 0, 1) := by decide +kernel
theorem dX10_hasRoom_1 : decode cX10_hasRoom 1 = .ok (.getfield 13, 3) := by decide +kernel
theorem dX10_hasRoom_4 : decode cX10_hasRoom 4 = .ok (.sipush 620, 3) := by decide +kernel
theorem dX10_hasRoom_7 : decode cX10_hasRoom 7 = .ok (.if_icmp .gt 7, 3) := by decide +kernel
theorem dX10_hasRoom_10 : decode cX10_hasRoom 10 = .ok (.iconst 1, 1) := by decide +kernel
theorem dX10_hasRoom_11 : decode cX10_hasRoom 11 = .ok (.goto 4, 3) := by decide +kernel
theorem dX10_hasRoom_14 : decode cX10_hasRoom 14 = .ok (.iconst 0, 1) := by decide +kernel
theorem dX10_hasRoom_15 : decode cX10_hasRoom 15 = .ok (.ireturn, 1) := by decide +kernel
theorem dX10_append_0 : decode cX10_append 0 = .ok (.bipush 24, 2) := by decide +kernel
theorem dX10_append_2 : decode cX10_append 2 = .ok (.istore_n 2, 1) := by decide +kernel
theorem dX10_append_3 : decode cX10_append 3 = .ok (.iload_n 2, 1) := by decide +kernel
theorem dX10_append_4 : decode cX10_append 4 = .ok (.ifCond .lt 54, 3) := by decide +kernel
theorem dX10_append_7 : decode cX10_append 7 = .ok (.aload_n 0, 1) := by decide +kernel
theorem dX10_append_8 : decode cX10_append 8 = .ok (.getfield 13, 3) := by decide +kernel
theorem dX10_append_11 : decode cX10_append 11 = .ok (.ifCond .lt 41, 3) := by decide +kernel
theorem dX10_append_14 : decode cX10_append 14 = .ok (.aload_n 0, 1) := by decide +kernel
theorem dX10_append_15 : decode cX10_append 15 = .ok (.getfield 13, 3) := by decide +kernel
theorem dX10_append_18 : decode cX10_append 18 = .ok (.aload_n 0, 1) := by decide +kernel
theorem dX10_append_19 : decode cX10_append 19 = .ok (.getfield 9, 3) := by decide +kernel
theorem dX10_append_22 : decode cX10_append 22 = .ok (.arraylength, 1) := by decide +kernel
theorem dX10_append_23 : decode cX10_append 23 = .ok (.if_icmp .ge 29, 3) := by decide +kernel
theorem dX10_append_26 : decode cX10_append 26 = .ok (.aload_n 0, 1) := by decide +kernel
theorem dX10_append_27 : decode cX10_append 27 = .ok (.getfield 9, 3) := by decide +kernel
theorem dX10_append_30 : decode cX10_append 30 = .ok (.aload_n 0, 1) := by decide +kernel
theorem dX10_append_31 : decode cX10_append 31 = .ok (.getfield 13, 3) := by decide +kernel
theorem dX10_append_34 : decode cX10_append 34 = .ok (.iload_n 1, 1) := by decide +kernel
theorem dX10_append_35 : decode cX10_append 35 = .ok (.iload_n 2, 1) := by decide +kernel
theorem dX10_append_36 : decode cX10_append 36 = .ok (.iushr, 1) := by decide +kernel
theorem dX10_append_37 : decode cX10_append 37 = .ok (.sipush 255, 3) := by decide +kernel
theorem dX10_append_40 : decode cX10_append 40 = .ok (.iand, 1) := by decide +kernel
theorem dX10_append_41 : decode cX10_append 41 = .ok (.iastore, 1) := by decide +kernel
theorem dX10_append_42 : decode cX10_append 42 = .ok (.aload_n 0, 1) := by decide +kernel
theorem dX10_append_43 : decode cX10_append 43 = .ok (.dup, 1) := by decide +kernel
theorem dX10_append_44 : decode cX10_append 44 = .ok (.getfield 13, 3) := by decide +kernel
theorem dX10_append_47 : decode cX10_append 47 = .ok (.iconst 1, 1) := by decide +kernel
theorem dX10_append_48 : decode cX10_append 48 = .ok (.iadd, 1) := by decide +kernel
theorem dX10_append_49 : decode cX10_append 49 = .ok (.putfield 13, 3) := by decide +kernel
theorem dX10_append_52 : decode cX10_append 52 = .ok (.iinc 2 (-8), 3) := by decide +kernel
theorem dX10_append_55 : decode cX10_append 55 = .ok (.goto (-52), 3) := by decide +kernel
theorem dX10_append_58 : decode cX10_append 58 = .ok (.return_, 1) := by decide +kernel
theorem dX10_byteAt_0 : decode cX10_byteAt 0 = .ok (.iload_n 1, 1) := by decide +kernel
theorem dX10_byteAt_1 : decode cX10_byteAt 1 = .ok (.ifCond .lt 29, 3) := by decide +kernel
theorem dX10_byteAt_4 : decode cX10_byteAt 4 = .ok (.iload_n 1, 1) := by decide +kernel
theorem dX10_byteAt_5 : decode cX10_byteAt 5 = .ok (.aload_n 0, 1) := by decide +kernel
theorem dX10_byteAt_6 : decode cX10_byteAt 6 = .ok (.getfield 13, 3) := by decide +kernel
theorem dX10_byteAt_9 : decode cX10_byteAt 9 = .ok (.if_icmp .ge 21, 3) := by decide +kernel
theorem dX10_byteAt_12 : decode cX10_byteAt 12 = .ok (.iload_n 1, 1) := by decide +kernel
theorem dX10_byteAt_13 : decode cX10_byteAt 13 = .ok (.aload_n 0, 1) := by decide +kernel
theorem dX10_byteAt_14 : decode cX10_byteAt 14 = .ok (.getfield 9, 3) := by decide +kernel
theorem dX10_byteAt_17 : decode cX10_byteAt 17 = .ok (.arraylength, 1) := by decide +kernel
theorem dX10_byteAt_18 : decode cX10_byteAt 18 = .ok (.if_icmp .ge 12, 3) := by decide +kernel
theorem dX10_byteAt_21 : decode cX10_byteAt 21 = .ok (.aload_n 0, 1) := by decide +kernel
theorem dX10_byteAt_22 : decode cX10_byteAt 22 = .ok (.getfield 9, 3) := by decide +kernel
theorem dX10_byteAt_25 : decode cX10_byteAt 25 = .ok (.iload_n 1, 1) := by decide +kernel
theorem dX10_byteAt_26 : decode cX10_byteAt 26 = .ok (.iaload, 1) := by decide +kernel
theorem dX10_byteAt_27 : decode cX10_byteAt 27 = .ok (.goto 4, 3) := by decide +kernel
theorem dX10_byteAt_30 : decode cX10_byteAt 30 = .ok (.iconst 0, 1) := by decide +kernel
theorem dX10_byteAt_31 : decode cX10_byteAt 31 = .ok (.ireturn, 1) := by decide +kernel
theorem dX11_init_0 : decode cX11_init 0 = .ok (.aload_n 0, 1) := by decide +kernel
theorem dX11_init_1 : decode cX11_init 1 = .ok (.invokespecial 3, 3) := by decide +kernel
theorem dX11_init_4 : decode cX11_init 4 = .ok (.aload_n 0, 1) := by decide +kernel
theorem dX11_init_5 : decode cX11_init 5 = .ok (.new 9, 3) := by decide +kernel
theorem dX11_init_8 : decode cX11_init 8 = .ok (.dup, 1) := by decide +kernel
theorem dX11_init_9 : decode cX11_init 9 = .ok (.invokespecial 11, 3) := by decide +kernel
theorem dX11_init_12 : decode cX11_init 12 = .ok (.putfield 12, 3) := by decide +kernel
theorem dX11_init_15 : decode cX11_init 15 = .ok (.aload_n 0, 1) := by decide +kernel
theorem dX11_init_16 : decode cX11_init 16 = .ok (.new 16, 3) := by decide +kernel
theorem dX11_init_19 : decode cX11_init 19 = .ok (.dup, 1) := by decide +kernel
theorem dX11_init_20 : decode cX11_init 20 = .ok (.invokespecial 18, 3) := by decide +kernel
theorem dX11_init_23 : decode cX11_init 23 = .ok (.putfield 19, 3) := by decide +kernel
theorem dX11_init_26 : decode cX11_init 26 = .ok (.aload_n 0, 1) := by decide +kernel
theorem dX11_init_27 : decode cX11_init 27 = .ok (.new 23, 3) := by decide +kernel
theorem dX11_init_30 : decode cX11_init 30 = .ok (.dup, 1) := by decide +kernel
theorem dX11_init_31 : decode cX11_init 31 = .ok (.invokespecial 25, 3) := by decide +kernel
theorem dX11_init_34 : decode cX11_init 34 = .ok (.putfield 26, 3) := by decide +kernel
theorem dX11_init_37 : decode cX11_init 37 = .ok (.aload_n 0, 1) := by decide +kernel
theorem dX11_init_38 : decode cX11_init 38 = .ok (.new 30, 3) := by decide +kernel
theorem dX11_init_41 : decode cX11_init 41 = .ok (.dup, 1) := by decide +kernel
theorem dX11_init_42 : decode cX11_init 42 = .ok (.invokespecial 32, 3) := by decide +kernel
theorem dX11_init_45 : decode cX11_init 45 = .ok (.putfield 33, 3) := by decide +kernel
theorem dX11_init_48 : decode cX11_init 48 = .ok (.aload_n 0, 1) := by decide +kernel
theorem dX11_init_49 : decode cX11_init 49 = .ok (.new 37, 3) := by decide +kernel
theorem dX11_init_52 : decode cX11_init 52 = .ok (.dup, 1) := by decide +kernel
theorem dX11_init_53 : decode cX11_init 53 = .ok (.invokespecial 39, 3) := by decide +kernel
theorem dX11_init_56 : decode cX11_init 56 = .ok (.putfield 40, 3) := by decide +kernel
theorem dX11_init_59 : decode cX11_init 59 = .ok (.aload_n 0, 1) := by decide +kernel
theorem dX11_init_60 : decode cX11_init 60 = .ok (.new 37, 3) := by decide +kernel
theorem dX11_init_63 : decode cX11_init 63 = .ok (.dup, 1) := by decide +kernel
theorem dX11_init_64 : decode cX11_init 64 = .ok (.invokespecial 39, 3) := by decide +kernel
theorem dX11_init_67 : decode cX11_init 67 = .ok (.putfield 44, 3) := by decide +kernel
theorem dX11_init_70 : decode cX11_init 70 = .ok (.aload_n 0, 1) := by decide +kernel
theorem dX11_init_71 : decode cX11_init 71 = .ok (.new 47, 3) := by decide +kernel
theorem dX11_init_74 : decode cX11_init 74 = .ok (.dup, 1) := by decide +kernel
theorem dX11_init_75 : decode cX11_init 75 = .ok (.invokespecial 49, 3) := by decide +kernel
theorem dX11_init_78 : decode cX11_init 78 = .ok (.putfield 50, 3) := by decide +kernel
theorem dX11_init_81 : decode cX11_init 81 = .ok (.aload_n 0, 1) := by decide +kernel
theorem dX11_init_82 : decode cX11_init 82 = .ok (.new 54, 3) := by decide +kernel
theorem dX11_init_85 : decode cX11_init 85 = .ok (.dup, 1) := by decide +kernel
theorem dX11_init_86 : decode cX11_init 86 = .ok (.invokespecial 56, 3) := by decide +kernel
theorem dX11_init_89 : decode cX11_init 89 = .ok (.putfield 57, 3) := by decide +kernel
theorem dX11_init_92 : decode cX11_init 92 = .ok (.aload_n 0, 1) := by decide +kernel
theorem dX11_init_93 : decode cX11_init 93 = .ok (.new 61, 3) := by decide +kernel
theorem dX11_init_96 : decode cX11_init 96 = .ok (.dup, 1) := by decide +kernel
theorem dX11_init_97 : decode cX11_init 97 = .ok (.invokespecial 63, 3) := by decide +kernel
theorem dX11_init_100 : decode cX11_init 100 = .ok (.putfield 64, 3) := by decide +kernel
theorem dX11_init_103 : decode cX11_init 103 = .ok (.aload_n 0, 1) := by decide +kernel
theorem dX11_init_104 : decode cX11_init 104 = .ok (.new 68, 3) := by decide +kernel
theorem dX11_init_107 : decode cX11_init 107 = .ok (.dup, 1) := by decide +kernel
theorem dX11_init_108 : decode cX11_init 108 = .ok (.invokespecial 70, 3) := by decide +kernel
theorem dX11_init_111 : decode cX11_init 111 = .ok (.putfield 71, 3) := by decide +kernel
theorem dX11_init_114 : decode cX11_init 114 = .ok (.aload_n 0, 1) := by decide +kernel
theorem dX11_init_115 : decode cX11_init 115 = .ok (.iconst 1, 1) := by decide +kernel
theorem dX11_init_116 : decode cX11_init 116 = .ok (.putfield 75, 3) := by decide +kernel
theorem dX11_init_119 : decode cX11_init 119 = .ok (.aload_n 0, 1) := by decide +kernel
theorem dX11_init_120 : decode cX11_init 120 = .ok (.iconst 1, 1) := by decide +kernel
theorem dX11_init_121 : decode cX11_init 121 = .ok (.putfield 79, 3) := by decide +kernel
theorem dX11_init_124 : decode cX11_init 124 = .ok (.aload_n 0, 1) := by decide +kernel
theorem dX11_init_125 : decode cX11_init 125 = .ok (.iconst 1, 1) := by decide +kernel
theorem dX11_init_126 : decode cX11_init 126 = .ok (.putfield 82, 3) := by decide +kernel
theorem dX11_init_129 : decode cX11_init 129 = .ok (.return_, 1) := by decide +kernel
theorem dX11_feed_0 : decode cX11_feed 0 = .ok (.aload_n 0, 1) := by decide +kernel
theorem dX11_feed_1 : decode cX11_feed 1 = .ok (.getfield 12, 3) := by decide +kernel
theorem dX11_feed_4 : decode cX11_feed 4 = .ok (.invokevirtual 85, 3) := by decide +kernel
theorem dX11_feed_7 : decode cX11_feed 7 = .ok (.ifCond .ne 5, 3) := by decide +kernel
theorem dX11_feed_10 : decode cX11_feed 10 = .ok (.iconst (-1), 1) := by decide +kernel
theorem dX11_feed_11 : decode cX11_feed 11 = .ok (.ireturn, 1) := by decide +kernel
theorem dX11_feed_12 : decode cX11_feed 12 = .ok (.aload_n 0, 1) := by decide +kernel
theorem dX11_feed_13 : decode cX11_feed 13 = .ok (.getfield 12, 3) := by decide +kernel
theorem dX11_feed_16 : decode cX11_feed 16 = .ok (.iload_n 1, 1) := by decide +kernel
theorem dX11_feed_17 : decode cX11_feed 17 = .ok (.invokevirtual 89, 3) := by decide +kernel
theorem dX11_feed_20 : decode cX11_feed 20 = .ok (.aload_n 0, 1) := by decide +kernel
theorem dX11_feed_21 : decode cX11_feed 21 = .ok (.getfield 12, 3) := by decide +kernel
theorem dX11_feed_24 : decode cX11_feed 24 = .ok (.iload_n 2, 1) := by decide +kernel
theorem dX11_feed_25 : decode cX11_feed 25 = .ok (.invokevirtual 89, 3) := by decide +kernel
theorem dX11_feed_28 : decode cX11_feed 28 = .ok (.aload_n 0, 1) := by decide +kernel
theorem dX11_feed_29 : decode cX11_feed 29 = .ok (.getfield 12, 3) := by decide +kernel
theorem dX11_feed_32 : decode cX11_feed 32 = .ok (.iload_n 3, 1) := by decide +kernel
theorem dX11_feed_33 : decode cX11_feed 33 = .ok (.invokevirtual 89, 3) := by decide +kernel
theorem dX11_feed_36 : decode cX11_feed 36 = .ok (.aload_n 0, 1) := by decide +kernel
theorem dX11_feed_37 : decode cX11_feed 37 = .ok (.getfield 12, 3) := by decide +kernel
theorem dX11_feed_40 : decode cX11_feed 40 = .ok (.iload 4, 2) := by decide +kernel
theorem dX11_feed_42 : decode cX11_feed 42 = .ok (.invokevirtual 89, 3) := by decide +kernel
theorem dX11_feed_45 : decode cX11_feed 45 = .ok (.aload_n 0, 1) := by decide +kernel
theorem dX11_feed_46 : decode cX11_feed 46 = .ok (.getfield 12, 3) := by decide +kernel
theorem dX11_feed_49 : decode cX11_feed 49 = .ok (.iload 5, 2) := by decide +kernel
theorem dX11_feed_51 : decode cX11_feed 51 = .ok (.invokevirtual 89, 3) := by decide +kernel
theorem dX11_feed_54 : decode cX11_feed 54 = .ok (.aload_n 0, 1) := by decide +kernel
theorem dX11_feed_55 : decode cX11_feed 55 = .ok (.getfield 12, 3) := by decide +kernel
theorem dX11_feed_58 : decode cX11_feed 58 = .ok (.getfield 93, 3) := by decide +kernel
theorem dX11_feed_61 : decode cX11_feed 61 = .ok (.ireturn, 1) := by decide +kernel
theorem dX11_end_0 : decode cX11_end 0 = .ok (.iload_n 1, 1) := by decide +kernel
theorem dX11_end_1 : decode cX11_end 1 = .ok (.ifCond .lt 14, 3) := by decide +kernel
theorem dX11_end_4 : decode cX11_end 4 = .ok (.iload_n 1, 1) := by decide +kernel
theorem dX11_end_5 : decode cX11_end 5 = .ok (.aload_n 0, 1) := by decide +kernel
theorem dX11_end_6 : decode cX11_end 6 = .ok (.getfield 12, 3) := by decide +kernel
theorem dX11_end_9 : decode cX11_end 9 = .ok (.getfield 93, 3) := by decide +kernel
theorem dX11_end_12 : decode cX11_end 12 = .ok (.if_icmp .le 5, 3) := by decide +kernel
theorem dX11_end_15 : decode cX11_end 15 = .ok (.iconst 0, 1) := by decide +kernel
theorem dX11_end_16 : decode cX11_end 16 = .ok (.ireturn, 1) := by decide +kernel
theorem dX11_end_17 : decode cX11_end 17 = .ok (.aload_n 0, 1) := by decide +kernel
theorem dX11_end_18 : decode cX11_end 18 = .ok (.getfield 12, 3) := by decide +kernel
theorem dX11_end_21 : decode cX11_end 21 = .ok (.iload_n 1, 1) := by decide +kernel
theorem dX11_end_22 : decode cX11_end 22 = .ok (.putfield 93, 3) := by decide +kernel
theorem dX11_end_25 : decode cX11_end 25 = .ok (.iconst 1, 1) := by decide +kernel
theorem dX11_end_26 : decode cX11_end 26 = .ok (.ireturn, 1) := by decide +kernel
theorem dX11_net_0 : decode cX11_net 0 = .ok (.aload_n 0, 1) := by decide +kernel
theorem dX11_net_1 : decode cX11_net 1 = .ok (.aload_n 0, 1) := by decide +kernel
theorem dX11_net_2 : decode cX11_net 2 = .ok (.getfield 19, 3) := by decide +kernel
theorem dX11_net_5 : decode cX11_net 5 = .ok (.aload_n 0, 1) := by decide +kernel
theorem dX11_net_6 : decode cX11_net 6 = .ok (.getfield 12, 3) := by decide +kernel
theorem dX11_net_9 : decode cX11_net 9 = .ok (.invokevirtual 97, 3) := by decide +kernel
theorem dX11_net_12 : decode cX11_net 12 = .ok (.putfield 101, 3) := by decide +kernel
theorem dX11_net_15 : decode cX11_net 15 = .ok (.aload_n 0, 1) := by decide +kernel
theorem dX11_net_16 : decode cX11_net 16 = .ok (.getfield 12, 3) := by decide +kernel
theorem dX11_net_19 : decode cX11_net 19 = .ok (.iconst 0, 1) := by decide +kernel
theorem dX11_net_20 : decode cX11_net 20 = .ok (.putfield 93, 3) := by decide +kernel
theorem dX11_net_23 : decode cX11_net 23 = .ok (.aload_n 0, 1) := by decide +kernel
theorem dX11_net_24 : decode cX11_net 24 = .ok (.getfield 101, 3) := by decide +kernel
theorem dX11_net_27 : decode cX11_net 27 = .ok (.ifCond .eq 13, 3) := by decide +kernel
theorem dX11_net_30 : decode cX11_net 30 = .ok (.iconst (-1), 1) := by decide +kernel
theorem dX11_net_31 : decode cX11_net 31 = .ok (.aload_n 0, 1) := by decide +kernel
theorem dX11_net_32 : decode cX11_net 32 = .ok (.getfield 19, 3) := by decide +kernel
theorem dX11_net_35 : decode cX11_net 35 = .ok (.getfield 104, 3) := by decide +kernel
theorem dX11_net_38 : decode cX11_net 38 = .ok (.isub, 1) := by decide +kernel
theorem dX11_net_39 : decode cX11_net 39 = .ok (.ireturn, 1) := by decide +kernel
theorem dX11_net_40 : decode cX11_net 40 = .ok (.aload_n 0, 1) := by decide +kernel
theorem dX11_net_41 : decode cX11_net 41 = .ok (.getfield 26, 3) := by decide +kernel
theorem dX11_net_44 : decode cX11_net 44 = .ok (.aload_n 0, 1) := by decide +kernel
theorem dX11_net_45 : decode cX11_net 45 = .ok (.getfield 19, 3) := by decide +kernel
theorem dX11_net_48 : decode cX11_net 48 = .ok (.getfield 107, 3) := by decide +kernel
theorem dX11_net_51 : decode cX11_net 51 = .ok (.invokevirtual 110, 3) := by decide +kernel
theorem dX11_net_54 : decode cX11_net 54 = .ok (.aload_n 0, 1) := by decide +kernel
theorem dX11_net_55 : decode cX11_net 55 = .ok (.getfield 33, 3) := by decide +kernel
theorem dX11_net_58 : decode cX11_net 58 = .ok (.invokevirtual 114, 3) := by decide +kernel
theorem dX11_net_61 : decode cX11_net 61 = .ok (.aload_n 0, 1) := by decide +kernel
theorem dX11_net_62 : decode cX11_net 62 = .ok (.invokevirtual 117, 3) := by decide +kernel
theorem dX11_net_65 : decode cX11_net 65 = .ok (.aload_n 0, 1) := by decide +kernel
theorem dX11_net_66 : decode cX11_net 66 = .ok (.getfield 19, 3) := by decide +kernel
theorem dX11_net_69 : decode cX11_net 69 = .ok (.getfield 120, 3) := by decide +kernel
theorem dX11_net_72 : decode cX11_net 72 = .ok (.ireturn, 1) := by decide +kernel
theorem dX11_fault_0 : decode cX11_fault 0 = .ok (.aload_n 0, 1) := by decide +kernel
theorem dX11_fault_1 : decode cX11_fault 1 = .ok (.getfield 101, 3) := by decide +kernel
theorem dX11_fault_4 : decode cX11_fault 4 = .ok (.ireturn, 1) := by decide +kernel
theorem dX11_now_0 : decode cX11_now 0 = .ok (.iload_n 1, 1) := by decide +kernel
theorem dX11_now_1 : decode cX11_now 1 = .ok (.tableswitch 125 0 7 #[47, 55, 63, 71, 79, 94, 109, 117], 47) := by decide +kernel
theorem dX11_now_48 : decode cX11_now 48 = .ok (.aload_n 0, 1) := by decide +kernel
theorem dX11_now_49 : decode cX11_now 49 = .ok (.getfield 26, 3) := by decide +kernel
theorem dX11_now_52 : decode cX11_now 52 = .ok (.getfield 123, 3) := by decide +kernel
theorem dX11_now_55 : decode cX11_now 55 = .ok (.ireturn, 1) := by decide +kernel
theorem dX11_now_56 : decode cX11_now 56 = .ok (.aload_n 0, 1) := by decide +kernel
theorem dX11_now_57 : decode cX11_now 57 = .ok (.getfield 26, 3) := by decide +kernel
theorem dX11_now_60 : decode cX11_now 60 = .ok (.getfield 126, 3) := by decide +kernel
theorem dX11_now_63 : decode cX11_now 63 = .ok (.ireturn, 1) := by decide +kernel
theorem dX11_now_64 : decode cX11_now 64 = .ok (.aload_n 0, 1) := by decide +kernel
theorem dX11_now_65 : decode cX11_now 65 = .ok (.getfield 26, 3) := by decide +kernel
theorem dX11_now_68 : decode cX11_now 68 = .ok (.getfield 129, 3) := by decide +kernel
theorem dX11_now_71 : decode cX11_now 71 = .ok (.ireturn, 1) := by decide +kernel
theorem dX11_now_72 : decode cX11_now 72 = .ok (.aload_n 0, 1) := by decide +kernel
theorem dX11_now_73 : decode cX11_now 73 = .ok (.getfield 26, 3) := by decide +kernel
theorem dX11_now_76 : decode cX11_now 76 = .ok (.getfield 132, 3) := by decide +kernel
theorem dX11_now_79 : decode cX11_now 79 = .ok (.ireturn, 1) := by decide +kernel
theorem dX11_now_80 : decode cX11_now 80 = .ok (.aload_n 0, 1) := by decide +kernel
theorem dX11_now_81 : decode cX11_now 81 = .ok (.getfield 26, 3) := by decide +kernel
theorem dX11_now_84 : decode cX11_now 84 = .ok (.aload_n 0, 1) := by decide +kernel
theorem dX11_now_85 : decode cX11_now 85 = .ok (.getfield 26, 3) := by decide +kernel
theorem dX11_now_88 : decode cX11_now 88 = .ok (.getfield 126, 3) := by decide +kernel
theorem dX11_now_91 : decode cX11_now 91 = .ok (.invokevirtual 135, 3) := by decide +kernel
theorem dX11_now_94 : decode cX11_now 94 = .ok (.ireturn, 1) := by decide +kernel
theorem dX11_now_95 : decode cX11_now 95 = .ok (.aload_n 0, 1) := by decide +kernel
theorem dX11_now_96 : decode cX11_now 96 = .ok (.getfield 26, 3) := by decide +kernel
theorem dX11_now_99 : decode cX11_now 99 = .ok (.aload_n 0, 1) := by decide +kernel
theorem dX11_now_100 : decode cX11_now 100 = .ok (.getfield 26, 3) := by decide +kernel
theorem dX11_now_103 : decode cX11_now 103 = .ok (.getfield 126, 3) := by decide +kernel
theorem dX11_now_106 : decode cX11_now 106 = .ok (.invokevirtual 139, 3) := by decide +kernel
theorem dX11_now_109 : decode cX11_now 109 = .ok (.ireturn, 1) := by decide +kernel
theorem dX11_now_110 : decode cX11_now 110 = .ok (.aload_n 0, 1) := by decide +kernel
theorem dX11_now_111 : decode cX11_now 111 = .ok (.getfield 33, 3) := by decide +kernel
theorem dX11_now_114 : decode cX11_now 114 = .ok (.getfield 142, 3) := by decide +kernel
theorem dX11_now_117 : decode cX11_now 117 = .ok (.ireturn, 1) := by decide +kernel
theorem dX11_now_118 : decode cX11_now 118 = .ok (.aload_n 0, 1) := by decide +kernel
theorem dX11_now_119 : decode cX11_now 119 = .ok (.getfield 12, 3) := by decide +kernel
theorem dX11_now_122 : decode cX11_now 122 = .ok (.getfield 93, 3) := by decide +kernel
theorem dX11_now_125 : decode cX11_now 125 = .ok (.ireturn, 1) := by decide +kernel
theorem dX11_now_126 : decode cX11_now 126 = .ok (.iconst (-1), 1) := by decide +kernel
theorem dX11_now_127 : decode cX11_now 127 = .ok (.ireturn, 1) := by decide +kernel
theorem dX11_point_0 : decode cX11_point 0 = .ok (.aload_n 0, 1) := by decide +kernel
theorem dX11_point_1 : decode cX11_point 1 = .ok (.getfield 26, 3) := by decide +kernel
theorem dX11_point_4 : decode cX11_point 4 = .ok (.iload_n 1, 1) := by decide +kernel
theorem dX11_point_5 : decode cX11_point 5 = .ok (.invokevirtual 145, 3) := by decide +kernel
theorem dX11_point_8 : decode cX11_point 8 = .ok (.ifCond .eq 12, 3) := by decide +kernel
theorem dX11_point_11 : decode cX11_point 11 = .ok (.iload_n 2, 1) := by decide +kernel
theorem dX11_point_12 : decode cX11_point 12 = .ok (.ifCond .lt 8, 3) := by decide +kernel
theorem dX11_point_15 : decode cX11_point 15 = .ok (.iload_n 2, 1) := by decide +kernel
theorem dX11_point_16 : decode cX11_point 16 = .ok (.iconst 3, 1) := by decide +kernel
theorem dX11_point_17 : decode cX11_point 17 = .ok (.if_icmp .le 13, 3) := by decide +kernel
theorem dX11_point_20 : decode cX11_point 20 = .ok (.new 149, 3) := by decide +kernel
theorem dX11_point_23 : decode cX11_point 23 = .ok (.dup, 1) := by decide +kernel
theorem dX11_point_24 : decode cX11_point 24 = .ok (.ldc 151, 2) := by decide +kernel
theorem dX11_point_26 : decode cX11_point 26 = .ok (.invokespecial 153, 3) := by decide +kernel
theorem dX11_point_29 : decode cX11_point 29 = .ok (.athrow, 1) := by decide +kernel
theorem dX11_point_30 : decode cX11_point 30 = .ok (.iload_n 2, 1) := by decide +kernel
theorem dX11_point_31 : decode cX11_point 31 = .ok (.tableswitch 60 0 2 #[25, 34, 50], 25) := by decide +kernel
theorem dX11_point_56 : decode cX11_point 56 = .ok (.aload_n 0, 1) := by decide +kernel
theorem dX11_point_57 : decode cX11_point 57 = .ok (.getfield 26, 3) := by decide +kernel
theorem dX11_point_60 : decode cX11_point 60 = .ok (.iload_n 1, 1) := by decide +kernel
theorem dX11_point_61 : decode cX11_point 61 = .ok (.invokevirtual 156, 3) := by decide +kernel
theorem dX11_point_64 : decode cX11_point 64 = .ok (.ireturn, 1) := by decide +kernel
theorem dX11_point_65 : decode cX11_point 65 = .ok (.aload_n 0, 1) := by decide +kernel
theorem dX11_point_66 : decode cX11_point 66 = .ok (.getfield 26, 3) := by decide +kernel
theorem dX11_point_69 : decode cX11_point 69 = .ok (.iload_n 1, 1) := by decide +kernel
theorem dX11_point_70 : decode cX11_point 70 = .ok (.aload_n 0, 1) := by decide +kernel
theorem dX11_point_71 : decode cX11_point 71 = .ok (.getfield 26, 3) := by decide +kernel
theorem dX11_point_74 : decode cX11_point 74 = .ok (.getfield 126, 3) := by decide +kernel
theorem dX11_point_77 : decode cX11_point 77 = .ok (.invokevirtual 159, 3) := by decide +kernel
theorem dX11_point_80 : decode cX11_point 80 = .ok (.ireturn, 1) := by decide +kernel
theorem dX11_point_81 : decode cX11_point 81 = .ok (.aload_n 0, 1) := by decide +kernel
theorem dX11_point_82 : decode cX11_point 82 = .ok (.getfield 26, 3) := by decide +kernel
theorem dX11_point_85 : decode cX11_point 85 = .ok (.iload_n 1, 1) := by decide +kernel
theorem dX11_point_86 : decode cX11_point 86 = .ok (.iload_n 1, 1) := by decide +kernel
theorem dX11_point_87 : decode cX11_point 87 = .ok (.invokevirtual 163, 3) := by decide +kernel
theorem dX11_point_90 : decode cX11_point 90 = .ok (.ireturn, 1) := by decide +kernel
theorem dX11_point_91 : decode cX11_point 91 = .ok (.aload_n 0, 1) := by decide +kernel
theorem dX11_point_92 : decode cX11_point 92 = .ok (.getfield 26, 3) := by decide +kernel
theorem dX11_point_95 : decode cX11_point 95 = .ok (.iload_n 1, 1) := by decide +kernel
theorem dX11_point_96 : decode cX11_point 96 = .ok (.iconst 1, 1) := by decide +kernel
theorem dX11_point_97 : decode cX11_point 97 = .ok (.invokevirtual 166, 3) := by decide +kernel
theorem dX11_point_100 : decode cX11_point 100 = .ok (.ireturn, 1) := by decide +kernel
theorem dX11_lines_0 : decode cX11_lines 0 = .ok (.aload_n 0, 1) := by decide +kernel
theorem dX11_lines_1 : decode cX11_lines 1 = .ok (.getfield 26, 3) := by decide +kernel
theorem dX11_lines_4 : decode cX11_lines 4 = .ok (.iload_n 1, 1) := by decide +kernel
theorem dX11_lines_5 : decode cX11_lines 5 = .ok (.invokevirtual 145, 3) := by decide +kernel
theorem dX11_lines_8 : decode cX11_lines 8 = .ok (.ifCond .eq 26, 3) := by decide +kernel
theorem dX11_lines_11 : decode cX11_lines 11 = .ok (.aload_n 0, 1) := by decide +kernel
theorem dX11_lines_12 : decode cX11_lines 12 = .ok (.getfield 26, 3) := by decide +kernel
theorem dX11_lines_15 : decode cX11_lines 15 = .ok (.iload_n 2, 1) := by decide +kernel
theorem dX11_lines_16 : decode cX11_lines 16 = .ok (.invokevirtual 145, 3) := by decide +kernel
theorem dX11_lines_19 : decode cX11_lines 19 = .ok (.ifCond .eq 15, 3) := by decide +kernel
theorem dX11_lines_22 : decode cX11_lines 22 = .ok (.aload_n 0, 1) := by decide +kernel
theorem dX11_lines_23 : decode cX11_lines 23 = .ok (.getfield 26, 3) := by decide +kernel
theorem dX11_lines_26 : decode cX11_lines 26 = .ok (.iload_n 1, 1) := by decide +kernel
theorem dX11_lines_27 : decode cX11_lines 27 = .ok (.iload_n 2, 1) := by decide +kernel
theorem dX11_lines_28 : decode cX11_lines 28 = .ok (.invokevirtual 163, 3) := by decide +kernel
theorem dX11_lines_31 : decode cX11_lines 31 = .ok (.goto 4, 3) := by decide +kernel
theorem dX11_lines_34 : decode cX11_lines 34 = .ok (.iconst (-1), 1) := by decide +kernel
theorem dX11_lines_35 : decode cX11_lines 35 = .ok (.ireturn, 1) := by decide +kernel
theorem dX11_cuts_0 : decode cX11_cuts 0 = .ok (.aload_n 0, 1) := by decide +kernel
theorem dX11_cuts_1 : decode cX11_cuts 1 = .ok (.getfield 26, 3) := by decide +kernel
theorem dX11_cuts_4 : decode cX11_cuts 4 = .ok (.iload_n 1, 1) := by decide +kernel
theorem dX11_cuts_5 : decode cX11_cuts 5 = .ok (.invokevirtual 169, 3) := by decide +kernel
theorem dX11_cuts_8 : decode cX11_cuts 8 = .ok (.ifCond .ne 5, 3) := by decide +kernel
theorem dX11_cuts_11 : decode cX11_cuts 11 = .ok (.iconst (-1), 1) := by decide +kernel
theorem dX11_cuts_12 : decode cX11_cuts 12 = .ok (.ireturn, 1) := by decide +kernel
theorem dX11_cuts_13 : decode cX11_cuts 13 = .ok (.aload_n 0, 1) := by decide +kernel
theorem dX11_cuts_14 : decode cX11_cuts 14 = .ok (.invokevirtual 172, 3) := by decide +kernel
theorem dX11_cuts_17 : decode cX11_cuts 17 = .ok (.aload_n 0, 1) := by decide +kernel
theorem dX11_cuts_18 : decode cX11_cuts 18 = .ok (.getfield 26, 3) := by decide +kernel
theorem dX11_cuts_21 : decode cX11_cuts 21 = .ok (.getfield 126, 3) := by decide +kernel
theorem dX11_cuts_24 : decode cX11_cuts 24 = .ok (.iload_n 1, 1) := by decide +kernel
theorem dX11_cuts_25 : decode cX11_cuts 25 = .ok (.iconst (-1), 1) := by decide +kernel
theorem dX11_cuts_26 : decode cX11_cuts 26 = .ok (.ixor, 1) := by decide +kernel
theorem dX11_cuts_27 : decode cX11_cuts 27 = .ok (.iand, 1) := by decide +kernel
theorem dX11_cuts_28 : decode cX11_cuts 28 = .ok (.invokevirtual 176, 3) := by decide +kernel
theorem dX11_cuts_31 : decode cX11_cuts 31 = .ok (.ifCond .eq 7, 3) := by decide +kernel
theorem dX11_cuts_34 : decode cX11_cuts 34 = .ok (.iconst 1, 1) := by decide +kernel
theorem dX11_cuts_35 : decode cX11_cuts 35 = .ok (.goto 4, 3) := by decide +kernel
theorem dX11_cuts_38 : decode cX11_cuts 38 = .ok (.iconst 0, 1) := by decide +kernel
theorem dX11_cuts_39 : decode cX11_cuts 39 = .ok (.ireturn, 1) := by decide +kernel
theorem dX11_fewest_0 : decode cX11_fewest 0 = .ok (.iload_n 1, 1) := by decide +kernel
theorem dX11_fewest_1 : decode cX11_fewest 1 = .ok (.ifCond .lt 8, 3) := by decide +kernel
theorem dX11_fewest_4 : decode cX11_fewest 4 = .ok (.iload_n 1, 1) := by decide +kernel
theorem dX11_fewest_5 : decode cX11_fewest 5 = .ok (.iconst 2, 1) := by decide +kernel
theorem dX11_fewest_6 : decode cX11_fewest 6 = .ok (.if_icmp .le 7, 3) := by decide +kernel
theorem dX11_fewest_9 : decode cX11_fewest 9 = .ok (.iconst (-1), 1) := by decide +kernel
theorem dX11_fewest_10 : decode cX11_fewest 10 = .ok (.goto 23, 3) := by decide +kernel
theorem dX11_fewest_13 : decode cX11_fewest 13 = .ok (.aload_n 0, 1) := by decide +kernel
theorem dX11_fewest_14 : decode cX11_fewest 14 = .ok (.aload_n 0, 1) := by decide +kernel
theorem dX11_fewest_15 : decode cX11_fewest 15 = .ok (.invokevirtual 172, 3) := by decide +kernel
theorem dX11_fewest_18 : decode cX11_fewest 18 = .ok (.aload_n 0, 1) := by decide +kernel
theorem dX11_fewest_19 : decode cX11_fewest 19 = .ok (.getfield 26, 3) := by decide +kernel
theorem dX11_fewest_22 : decode cX11_fewest 22 = .ok (.getfield 126, 3) := by decide +kernel
theorem dX11_fewest_25 : decode cX11_fewest 25 = .ok (.iconst 0, 1) := by decide +kernel
theorem dX11_fewest_26 : decode cX11_fewest 26 = .ok (.invokevirtual 179, 3) := by decide +kernel
theorem dX11_fewest_29 : decode cX11_fewest 29 = .ok (.iload_n 1, 1) := by decide +kernel
theorem dX11_fewest_30 : decode cX11_fewest 30 = .ok (.invokevirtual 182, 3) := by decide +kernel
theorem dX11_fewest_33 : decode cX11_fewest 33 = .ok (.ireturn, 1) := by decide +kernel
theorem dX11_lightest_0 : decode cX11_lightest 0 = .ok (.iload_n 1, 1) := by decide +kernel
theorem dX11_lightest_1 : decode cX11_lightest 1 = .ok (.ifCond .lt 8, 3) := by decide +kernel
theorem dX11_lightest_4 : decode cX11_lightest 4 = .ok (.iload_n 1, 1) := by decide +kernel
theorem dX11_lightest_5 : decode cX11_lightest 5 = .ok (.iconst 2, 1) := by decide +kernel
theorem dX11_lightest_6 : decode cX11_lightest 6 = .ok (.if_icmp .le 7, 3) := by decide +kernel
theorem dX11_lightest_9 : decode cX11_lightest 9 = .ok (.iconst (-1), 1) := by decide +kernel
theorem dX11_lightest_10 : decode cX11_lightest 10 = .ok (.goto 12, 3) := by decide +kernel
theorem dX11_lightest_13 : decode cX11_lightest 13 = .ok (.aload_n 0, 1) := by decide +kernel
theorem dX11_lightest_14 : decode cX11_lightest 14 = .ok (.aload_n 0, 1) := by decide +kernel
theorem dX11_lightest_15 : decode cX11_lightest 15 = .ok (.invokevirtual 185, 3) := by decide +kernel
theorem dX11_lightest_18 : decode cX11_lightest 18 = .ok (.iload_n 1, 1) := by decide +kernel
theorem dX11_lightest_19 : decode cX11_lightest 19 = .ok (.invokevirtual 182, 3) := by decide +kernel
theorem dX11_lightest_22 : decode cX11_lightest 22 = .ok (.ireturn, 1) := by decide +kernel
theorem dX11_those_0 : decode cX11_those 0 = .ok (.iload_n 1, 1) := by decide +kernel
theorem dX11_those_1 : decode cX11_those 1 = .ok (.ifCond .lt 8, 3) := by decide +kernel
theorem dX11_those_4 : decode cX11_those 4 = .ok (.iload_n 1, 1) := by decide +kernel
theorem dX11_those_5 : decode cX11_those 5 = .ok (.iconst 2, 1) := by decide +kernel
theorem dX11_those_6 : decode cX11_those 6 = .ok (.if_icmp .le 5, 3) := by decide +kernel
theorem dX11_those_9 : decode cX11_those 9 = .ok (.iconst (-1), 1) := by decide +kernel
theorem dX11_those_10 : decode cX11_those 10 = .ok (.ireturn, 1) := by decide +kernel
theorem dX11_those_11 : decode cX11_those 11 = .ok (.aload_n 0, 1) := by decide +kernel
theorem dX11_those_12 : decode cX11_those 12 = .ok (.invokevirtual 172, 3) := by decide +kernel
theorem dX11_those_15 : decode cX11_those 15 = .ok (.astore_n 2, 1) := by decide +kernel
theorem dX11_those_16 : decode cX11_those 16 = .ok (.aload_n 2, 1) := by decide +kernel
theorem dX11_those_17 : decode cX11_those 17 = .ok (.aload_n 0, 1) := by decide +kernel
theorem dX11_those_18 : decode cX11_those 18 = .ok (.getfield 26, 3) := by decide +kernel
theorem dX11_those_21 : decode cX11_those 21 = .ok (.getfield 126, 3) := by decide +kernel
theorem dX11_those_24 : decode cX11_those 24 = .ok (.iconst 0, 1) := by decide +kernel
theorem dX11_those_25 : decode cX11_those 25 = .ok (.invokevirtual 179, 3) := by decide +kernel
theorem dX11_those_28 : decode cX11_those 28 = .ok (.invokestatic 189, 3) := by decide +kernel
theorem dX11_those_31 : decode cX11_those 31 = .ok (.istore_n 3, 1) := by decide +kernel
theorem dX11_those_32 : decode cX11_those 32 = .ok (.iconst 0, 1) := by decide +kernel
theorem dX11_those_33 : decode cX11_those 33 = .ok (.istore 4, 2) := by decide +kernel
theorem dX11_those_35 : decode cX11_those 35 = .ok (.aload_n 0, 1) := by decide +kernel
theorem dX11_those_36 : decode cX11_those 36 = .ok (.getfield 26, 3) := by decide +kernel
theorem dX11_those_39 : decode cX11_those 39 = .ok (.getfield 126, 3) := by decide +kernel
theorem dX11_those_42 : decode cX11_those 42 = .ok (.istore 5, 2) := by decide +kernel
theorem dX11_those_44 : decode cX11_those 44 = .ok (.iconst 0, 1) := by decide +kernel
theorem dX11_those_45 : decode cX11_those 45 = .ok (.istore 6, 2) := by decide +kernel
theorem dX11_those_47 : decode cX11_those 47 = .ok (.iconst 0, 1) := by decide +kernel
theorem dX11_those_48 : decode cX11_those 48 = .ok (.istore 7, 2) := by decide +kernel
theorem dX11_those_50 : decode cX11_those 50 = .ok (.iload 7, 2) := by decide +kernel
theorem dX11_those_52 : decode cX11_those 52 = .ok (.aload_n 0, 1) := by decide +kernel
theorem dX11_those_53 : decode cX11_those 53 = .ok (.getfield 26, 3) := by decide +kernel
theorem dX11_those_56 : decode cX11_those 56 = .ok (.getfield 126, 3) := by decide +kernel
theorem dX11_those_59 : decode cX11_those 59 = .ok (.if_icmp .gt 66, 3) := by decide +kernel
theorem dX11_those_62 : decode cX11_those 62 = .ok (.aload_n 0, 1) := by decide +kernel
theorem dX11_those_63 : decode cX11_those 63 = .ok (.getfield 26, 3) := by decide +kernel
theorem dX11_those_66 : decode cX11_those 66 = .ok (.iload 7, 2) := by decide +kernel
theorem dX11_those_68 : decode cX11_those 68 = .ok (.invokevirtual 169, 3) := by decide +kernel
theorem dX11_those_71 : decode cX11_those 71 = .ok (.ifCond .eq 48, 3) := by decide +kernel
theorem dX11_those_74 : decode cX11_those 74 = .ok (.iload 7, 2) := by decide +kernel
theorem dX11_those_76 : decode cX11_those 76 = .ok (.invokestatic 189, 3) := by decide +kernel
theorem dX11_those_79 : decode cX11_those 79 = .ok (.iload_n 3, 1) := by decide +kernel
theorem dX11_those_80 : decode cX11_those 80 = .ok (.if_icmp .ne 39, 3) := by decide +kernel
theorem dX11_those_83 : decode cX11_those 83 = .ok (.aload_n 2, 1) := by decide +kernel
theorem dX11_those_84 : decode cX11_those 84 = .ok (.aload_n 0, 1) := by decide +kernel
theorem dX11_those_85 : decode cX11_those 85 = .ok (.getfield 26, 3) := by decide +kernel
theorem dX11_those_88 : decode cX11_those 88 = .ok (.getfield 126, 3) := by decide +kernel
theorem dX11_those_91 : decode cX11_those 91 = .ok (.iload 7, 2) := by decide +kernel
theorem dX11_those_93 : decode cX11_those 93 = .ok (.iconst (-1), 1) := by decide +kernel
theorem dX11_those_94 : decode cX11_those 94 = .ok (.ixor, 1) := by decide +kernel
theorem dX11_those_95 : decode cX11_those 95 = .ok (.iand, 1) := by decide +kernel
theorem dX11_those_96 : decode cX11_those 96 = .ok (.invokevirtual 176, 3) := by decide +kernel
theorem dX11_those_99 : decode cX11_those 99 = .ok (.ifCond .eq 20, 3) := by decide +kernel
theorem dX11_those_102 : decode cX11_those 102 = .ok (.iinc 4 1, 3) := by decide +kernel
theorem dX11_those_105 : decode cX11_those 105 = .ok (.iload 5, 2) := by decide +kernel
theorem dX11_those_107 : decode cX11_those 107 = .ok (.iload 7, 2) := by decide +kernel
theorem dX11_those_109 : decode cX11_those 109 = .ok (.iand, 1) := by decide +kernel
theorem dX11_those_110 : decode cX11_those 110 = .ok (.istore 5, 2) := by decide +kernel
theorem dX11_those_112 : decode cX11_those 112 = .ok (.iload 6, 2) := by decide +kernel
theorem dX11_those_114 : decode cX11_those 114 = .ok (.iload 7, 2) := by decide +kernel
theorem dX11_those_116 : decode cX11_those 116 = .ok (.ior, 1) := by decide +kernel
theorem dX11_those_117 : decode cX11_those 117 = .ok (.istore 6, 2) := by decide +kernel
theorem dX11_those_119 : decode cX11_those 119 = .ok (.iinc 7 1, 3) := by decide +kernel
theorem dX11_those_122 : decode cX11_those 122 = .ok (.goto (-72), 3) := by decide +kernel
theorem dX11_those_125 : decode cX11_those 125 = .ok (.iload_n 1, 1) := by decide +kernel
theorem dX11_those_126 : decode cX11_those 126 = .ok (.ifCond .ne 8, 3) := by decide +kernel
theorem dX11_those_129 : decode cX11_those 129 = .ok (.iload 4, 2) := by decide +kernel
theorem dX11_those_131 : decode cX11_those 131 = .ok (.goto 15, 3) := by decide +kernel
theorem dX11_those_134 : decode cX11_those 134 = .ok (.iload_n 1, 1) := by decide +kernel
theorem dX11_those_135 : decode cX11_those 135 = .ok (.iconst 1, 1) := by decide +kernel
theorem dX11_those_136 : decode cX11_those 136 = .ok (.if_icmp .ne 8, 3) := by decide +kernel
theorem dX11_those_139 : decode cX11_those 139 = .ok (.iload 5, 2) := by decide +kernel
theorem dX11_those_141 : decode cX11_those 141 = .ok (.goto 5, 3) := by decide +kernel
theorem dX11_those_144 : decode cX11_those 144 = .ok (.iload 6, 2) := by decide +kernel
theorem dX11_those_146 : decode cX11_those 146 = .ok (.ireturn, 1) := by decide +kernel
theorem dX11_sparing_0 : decode cX11_sparing 0 = .ok (.aload_n 0, 1) := by decide +kernel
theorem dX11_sparing_1 : decode cX11_sparing 1 = .ok (.getfield 26, 3) := by decide +kernel
theorem dX11_sparing_4 : decode cX11_sparing 4 = .ok (.iload_n 1, 1) := by decide +kernel
theorem dX11_sparing_5 : decode cX11_sparing 5 = .ok (.invokevirtual 169, 3) := by decide +kernel
theorem dX11_sparing_8 : decode cX11_sparing 8 = .ok (.ifCond .eq 21, 3) := by decide +kernel
theorem dX11_sparing_11 : decode cX11_sparing 11 = .ok (.aload_n 0, 1) := by decide +kernel
theorem dX11_sparing_12 : decode cX11_sparing 12 = .ok (.invokevirtual 172, 3) := by decide +kernel
theorem dX11_sparing_15 : decode cX11_sparing 15 = .ok (.aload_n 0, 1) := by decide +kernel
theorem dX11_sparing_16 : decode cX11_sparing 16 = .ok (.getfield 26, 3) := by decide +kernel
theorem dX11_sparing_19 : decode cX11_sparing 19 = .ok (.getfield 126, 3) := by decide +kernel
theorem dX11_sparing_22 : decode cX11_sparing 22 = .ok (.iload_n 1, 1) := by decide +kernel
theorem dX11_sparing_23 : decode cX11_sparing 23 = .ok (.invokevirtual 179, 3) := by decide +kernel
theorem dX11_sparing_26 : decode cX11_sparing 26 = .ok (.goto 4, 3) := by decide +kernel
theorem dX11_sparing_29 : decode cX11_sparing 29 = .ok (.iconst (-1), 1) := by decide +kernel
theorem dX11_sparing_30 : decode cX11_sparing 30 = .ok (.ireturn, 1) := by decide +kernel
theorem dX11_upTo_0 : decode cX11_upTo 0 = .ok (.iload_n 1, 1) := by decide +kernel
theorem dX11_upTo_1 : decode cX11_upTo 1 = .ok (.ifCond .lt 20, 3) := by decide +kernel
theorem dX11_upTo_4 : decode cX11_upTo 4 = .ok (.iload_n 1, 1) := by decide +kernel
theorem dX11_upTo_5 : decode cX11_upTo 5 = .ok (.aload_n 0, 1) := by decide +kernel
theorem dX11_upTo_6 : decode cX11_upTo 6 = .ok (.getfield 26, 3) := by decide +kernel
theorem dX11_upTo_9 : decode cX11_upTo 9 = .ok (.getfield 123, 3) := by decide +kernel
theorem dX11_upTo_12 : decode cX11_upTo 12 = .ok (.if_icmp .ge 9, 3) := by decide +kernel
theorem dX11_upTo_15 : decode cX11_upTo 15 = .ok (.iload_n 1, 1) := by decide +kernel
theorem dX11_upTo_16 : decode cX11_upTo 16 = .ok (.bipush 12, 2) := by decide +kernel
theorem dX11_upTo_18 : decode cX11_upTo 18 = .ok (.if_icmp .lt 5, 3) := by decide +kernel
theorem dX11_upTo_21 : decode cX11_upTo 21 = .ok (.iconst (-1), 1) := by decide +kernel
theorem dX11_upTo_22 : decode cX11_upTo 22 = .ok (.ireturn, 1) := by decide +kernel
theorem dX11_upTo_23 : decode cX11_upTo 23 = .ok (.aload_n 0, 1) := by decide +kernel
theorem dX11_upTo_24 : decode cX11_upTo 24 = .ok (.getfield 26, 3) := by decide +kernel
theorem dX11_upTo_27 : decode cX11_upTo 27 = .ok (.getfield 126, 3) := by decide +kernel
theorem dX11_upTo_30 : decode cX11_upTo 30 = .ok (.iconst 2, 1) := by decide +kernel
theorem dX11_upTo_31 : decode cX11_upTo 31 = .ok (.iload_n 1, 1) := by decide +kernel
theorem dX11_upTo_32 : decode cX11_upTo 32 = .ok (.ishl, 1) := by decide +kernel
theorem dX11_upTo_33 : decode cX11_upTo 33 = .ok (.iconst 1, 1) := by decide +kernel
theorem dX11_upTo_34 : decode cX11_upTo 34 = .ok (.isub, 1) := by decide +kernel
theorem dX11_upTo_35 : decode cX11_upTo 35 = .ok (.iand, 1) := by decide +kernel
theorem dX11_upTo_36 : decode cX11_upTo 36 = .ok (.istore_n 2, 1) := by decide +kernel
theorem dX11_upTo_37 : decode cX11_upTo 37 = .ok (.aload_n 0, 1) := by decide +kernel
theorem dX11_upTo_38 : decode cX11_upTo 38 = .ok (.invokevirtual 172, 3) := by decide +kernel
theorem dX11_upTo_41 : decode cX11_upTo 41 = .ok (.iload_n 2, 1) := by decide +kernel
theorem dX11_upTo_42 : decode cX11_upTo 42 = .ok (.iconst 0, 1) := by decide +kernel
theorem dX11_upTo_43 : decode cX11_upTo 43 = .ok (.invokevirtual 179, 3) := by decide +kernel
theorem dX11_upTo_46 : decode cX11_upTo 46 = .ok (.invokestatic 189, 3) := by decide +kernel
theorem dX11_upTo_49 : decode cX11_upTo 49 = .ok (.ireturn, 1) := by decide +kernel
theorem dX11_rings_0 : decode cX11_rings 0 = .ok (.aload_n 0, 1) := by decide +kernel
theorem dX11_rings_1 : decode cX11_rings 1 = .ok (.getfield 26, 3) := by decide +kernel
theorem dX11_rings_4 : decode cX11_rings 4 = .ok (.invokestatic 194, 3) := by decide +kernel
theorem dX11_rings_7 : decode cX11_rings 7 = .ok (.lreturn, 1) := by decide +kernel
theorem dX11_shortest_0 : decode cX11_shortest 0 = .ok (.aload_n 0, 1) := by decide +kernel
theorem dX11_shortest_1 : decode cX11_shortest 1 = .ok (.invokevirtual 172, 3) := by decide +kernel
theorem dX11_shortest_4 : decode cX11_shortest 4 = .ok (.invokevirtual 200, 3) := by decide +kernel
theorem dX11_shortest_7 : decode cX11_shortest 7 = .ok (.ireturn, 1) := by decide +kernel
theorem dX11_packed_0 : decode cX11_packed 0 = .ok (.aload_n 0, 1) := by decide +kernel
theorem dX11_packed_1 : decode cX11_packed 1 = .ok (.invokevirtual 203, 3) := by decide +kernel
theorem dX11_packed_4 : decode cX11_packed 4 = .ok (.aload_n 0, 1) := by decide +kernel
theorem dX11_packed_5 : decode cX11_packed 5 = .ok (.getfield 26, 3) := by decide +kernel
theorem dX11_packed_8 : decode cX11_packed 8 = .ok (.getfield 126, 3) := by decide +kernel
theorem dX11_packed_11 : decode cX11_packed 11 = .ok (.invokevirtual 207, 3) := by decide +kernel
theorem dX11_packed_14 : decode cX11_packed 14 = .ok (.ireturn, 1) := by decide +kernel
theorem dX11_pack_0 : decode cX11_pack 0 = .ok (.iload_n 1, 1) := by decide +kernel
theorem dX11_pack_1 : decode cX11_pack 1 = .ok (.ifCond .ge 7, 3) := by decide +kernel
theorem dX11_pack_4 : decode cX11_pack 4 = .ok (.iconst (-1), 1) := by decide +kernel
theorem dX11_pack_5 : decode cX11_pack 5 = .ok (.goto 22, 3) := by decide +kernel
theorem dX11_pack_8 : decode cX11_pack 8 = .ok (.aload_n 0, 1) := by decide +kernel
theorem dX11_pack_9 : decode cX11_pack 9 = .ok (.invokevirtual 203, 3) := by decide +kernel
theorem dX11_pack_12 : decode cX11_pack 12 = .ok (.iload_n 1, 1) := by decide +kernel
theorem dX11_pack_13 : decode cX11_pack 13 = .ok (.aload_n 0, 1) := by decide +kernel
theorem dX11_pack_14 : decode cX11_pack 14 = .ok (.getfield 26, 3) := by decide +kernel
theorem dX11_pack_17 : decode cX11_pack 17 = .ok (.getfield 126, 3) := by decide +kernel
theorem dX11_pack_20 : decode cX11_pack 20 = .ok (.aload_n 0, 1) := by decide +kernel
theorem dX11_pack_21 : decode cX11_pack 21 = .ok (.getfield 57, 3) := by decide +kernel
theorem dX11_pack_24 : decode cX11_pack 24 = .ok (.invokevirtual 210, 3) := by decide +kernel
theorem dX11_pack_27 : decode cX11_pack 27 = .ok (.ireturn, 1) := by decide +kernel
theorem dX11_near_0 : decode cX11_near 0 = .ok (.aload_n 0, 1) := by decide +kernel
theorem dX11_near_1 : decode cX11_near 1 = .ok (.invokevirtual 214, 3) := by decide +kernel
theorem dX11_near_4 : decode cX11_near 4 = .ok (.getfield 218, 3) := by decide +kernel
theorem dX11_near_7 : decode cX11_near 7 = .ok (.ireturn, 1) := by decide +kernel
theorem dX11_bound_0 : decode cX11_bound 0 = .ok (.iload_n 1, 1) := by decide +kernel
theorem dX11_bound_1 : decode cX11_bound 1 = .ok (.ifCond .eq 18, 3) := by decide +kernel
theorem dX11_bound_4 : decode cX11_bound 4 = .ok (.iload_n 1, 1) := by decide +kernel
theorem dX11_bound_5 : decode cX11_bound 5 = .ok (.iconst 1, 1) := by decide +kernel
theorem dX11_bound_6 : decode cX11_bound 6 = .ok (.if_icmp .eq 13, 3) := by decide +kernel
theorem dX11_bound_9 : decode cX11_bound 9 = .ok (.new 149, 3) := by decide +kernel
theorem dX11_bound_12 : decode cX11_bound 12 = .ok (.dup, 1) := by decide +kernel
theorem dX11_bound_13 : decode cX11_bound 13 = .ok (.ldc 221, 2) := by decide +kernel
theorem dX11_bound_15 : decode cX11_bound 15 = .ok (.invokespecial 153, 3) := by decide +kernel
theorem dX11_bound_18 : decode cX11_bound 18 = .ok (.athrow, 1) := by decide +kernel
theorem dX11_bound_19 : decode cX11_bound 19 = .ok (.aload_n 0, 1) := by decide +kernel
theorem dX11_bound_20 : decode cX11_bound 20 = .ok (.invokevirtual 214, 3) := by decide +kernel
theorem dX11_bound_23 : decode cX11_bound 23 = .ok (.astore_n 2, 1) := by decide +kernel
theorem dX11_bound_24 : decode cX11_bound 24 = .ok (.iload_n 1, 1) := by decide +kernel
theorem dX11_bound_25 : decode cX11_bound 25 = .ok (.ifCond .ne 10, 3) := by decide +kernel
theorem dX11_bound_28 : decode cX11_bound 28 = .ok (.aload_n 2, 1) := by decide +kernel
theorem dX11_bound_29 : decode cX11_bound 29 = .ok (.invokevirtual 223, 3) := by decide +kernel
theorem dX11_bound_32 : decode cX11_bound 32 = .ok (.goto 7, 3) := by decide +kernel
theorem dX11_bound_35 : decode cX11_bound 35 = .ok (.aload_n 2, 1) := by decide +kernel
theorem dX11_bound_36 : decode cX11_bound 36 = .ok (.invokevirtual 227, 3) := by decide +kernel
theorem dX11_bound_39 : decode cX11_bound 39 = .ok (.lreturn, 1) := by decide +kernel
theorem dX11_shrink_0 : decode cX11_shrink 0 = .ok (.aload_n 0, 1) := by decide +kernel
theorem dX11_shrink_1 : decode cX11_shrink 1 = .ok (.getfield 33, 3) := by decide +kernel
theorem dX11_shrink_4 : decode cX11_shrink 4 = .ok (.aload_n 0, 1) := by decide +kernel
theorem dX11_shrink_5 : decode cX11_shrink 5 = .ok (.getfield 26, 3) := by decide +kernel
theorem dX11_shrink_8 : decode cX11_shrink 8 = .ok (.invokevirtual 230, 3) := by decide +kernel
theorem dX11_shrink_11 : decode cX11_shrink 11 = .ok (.aload_n 0, 1) := by decide +kernel
theorem dX11_shrink_12 : decode cX11_shrink 12 = .ok (.getfield 26, 3) := by decide +kernel
theorem dX11_shrink_15 : decode cX11_shrink 15 = .ok (.invokestatic 233, 3) := by decide +kernel
theorem dX11_shrink_18 : decode cX11_shrink 18 = .ok (.istore_n 1, 1) := by decide +kernel
theorem dX11_shrink_19 : decode cX11_shrink 19 = .ok (.iload_n 1, 1) := by decide +kernel
theorem dX11_shrink_20 : decode cX11_shrink 20 = .ok (.iconst (-1), 1) := by decide +kernel
theorem dX11_shrink_21 : decode cX11_shrink 21 = .ok (.if_icmp .eq 7, 3) := by decide +kernel
theorem dX11_shrink_24 : decode cX11_shrink 24 = .ok (.aload_n 0, 1) := by decide +kernel
theorem dX11_shrink_25 : decode cX11_shrink 25 = .ok (.invokevirtual 239, 3) := by decide +kernel
theorem dX11_shrink_28 : decode cX11_shrink 28 = .ok (.iload_n 1, 1) := by decide +kernel
theorem dX11_shrink_29 : decode cX11_shrink 29 = .ok (.ireturn, 1) := by decide +kernel
theorem dX11_shrinkAll_0 : decode cX11_shrinkAll 0 = .ok (.aload_n 0, 1) := by decide +kernel
theorem dX11_shrinkAll_1 : decode cX11_shrinkAll 1 = .ok (.getfield 33, 3) := by decide +kernel
theorem dX11_shrinkAll_4 : decode cX11_shrinkAll 4 = .ok (.aload_n 0, 1) := by decide +kernel
theorem dX11_shrinkAll_5 : decode cX11_shrinkAll 5 = .ok (.getfield 26, 3) := by decide +kernel
theorem dX11_shrinkAll_8 : decode cX11_shrinkAll 8 = .ok (.invokevirtual 230, 3) := by decide +kernel
theorem dX11_shrinkAll_11 : decode cX11_shrinkAll 11 = .ok (.iconst 0, 1) := by decide +kernel
theorem dX11_shrinkAll_12 : decode cX11_shrinkAll 12 = .ok (.istore_n 1, 1) := by decide +kernel
theorem dX11_shrinkAll_13 : decode cX11_shrinkAll 13 = .ok (.iconst 0, 1) := by decide +kernel
theorem dX11_shrinkAll_14 : decode cX11_shrinkAll 14 = .ok (.istore_n 2, 1) := by decide +kernel
theorem dX11_shrinkAll_15 : decode cX11_shrinkAll 15 = .ok (.iload_n 2, 1) := by decide +kernel
theorem dX11_shrinkAll_16 : decode cX11_shrinkAll 16 = .ok (.sipush 1000, 3) := by decide +kernel
theorem dX11_shrinkAll_19 : decode cX11_shrinkAll 19 = .ok (.if_icmp .ge 23, 3) := by decide +kernel
theorem dX11_shrinkAll_22 : decode cX11_shrinkAll 22 = .ok (.aload_n 0, 1) := by decide +kernel
theorem dX11_shrinkAll_23 : decode cX11_shrinkAll 23 = .ok (.getfield 26, 3) := by decide +kernel
theorem dX11_shrinkAll_26 : decode cX11_shrinkAll 26 = .ok (.invokestatic 233, 3) := by decide +kernel
theorem dX11_shrinkAll_29 : decode cX11_shrinkAll 29 = .ok (.iconst (-1), 1) := by decide +kernel
theorem dX11_shrinkAll_30 : decode cX11_shrinkAll 30 = .ok (.if_icmp .eq 12, 3) := by decide +kernel
theorem dX11_shrinkAll_33 : decode cX11_shrinkAll 33 = .ok (.iinc 1 1, 3) := by decide +kernel
theorem dX11_shrinkAll_36 : decode cX11_shrinkAll 36 = .ok (.iinc 2 1, 3) := by decide +kernel
theorem dX11_shrinkAll_39 : decode cX11_shrinkAll 39 = .ok (.goto (-24), 3) := by decide +kernel
theorem dX11_shrinkAll_42 : decode cX11_shrinkAll 42 = .ok (.iload_n 1, 1) := by decide +kernel
theorem dX11_shrinkAll_43 : decode cX11_shrinkAll 43 = .ok (.ifCond .le 7, 3) := by decide +kernel
theorem dX11_shrinkAll_46 : decode cX11_shrinkAll 46 = .ok (.aload_n 0, 1) := by decide +kernel
theorem dX11_shrinkAll_47 : decode cX11_shrinkAll 47 = .ok (.invokevirtual 239, 3) := by decide +kernel
theorem dX11_shrinkAll_50 : decode cX11_shrinkAll 50 = .ok (.iload_n 1, 1) := by decide +kernel
theorem dX11_shrinkAll_51 : decode cX11_shrinkAll 51 = .ok (.ireturn, 1) := by decide +kernel
theorem dX11_drop_0 : decode cX11_drop 0 = .ok (.aload_n 0, 1) := by decide +kernel
theorem dX11_drop_1 : decode cX11_drop 1 = .ok (.getfield 33, 3) := by decide +kernel
theorem dX11_drop_4 : decode cX11_drop 4 = .ok (.aload_n 0, 1) := by decide +kernel
theorem dX11_drop_5 : decode cX11_drop 5 = .ok (.getfield 26, 3) := by decide +kernel
theorem dX11_drop_8 : decode cX11_drop 8 = .ok (.invokevirtual 230, 3) := by decide +kernel
theorem dX11_drop_11 : decode cX11_drop 11 = .ok (.aload_n 0, 1) := by decide +kernel
theorem dX11_drop_12 : decode cX11_drop 12 = .ok (.getfield 26, 3) := by decide +kernel
theorem dX11_drop_15 : decode cX11_drop 15 = .ok (.iload_n 1, 1) := by decide +kernel
theorem dX11_drop_16 : decode cX11_drop 16 = .ok (.invokevirtual 242, 3) := by decide +kernel
theorem dX11_drop_19 : decode cX11_drop 19 = .ok (.ifCond .ne 5, 3) := by decide +kernel
theorem dX11_drop_22 : decode cX11_drop 22 = .ok (.iconst (-1), 1) := by decide +kernel
theorem dX11_drop_23 : decode cX11_drop 23 = .ok (.ireturn, 1) := by decide +kernel
theorem dX11_drop_24 : decode cX11_drop 24 = .ok (.aload_n 0, 1) := by decide +kernel
theorem dX11_drop_25 : decode cX11_drop 25 = .ok (.invokevirtual 239, 3) := by decide +kernel
theorem dX11_drop_28 : decode cX11_drop 28 = .ok (.aload_n 0, 1) := by decide +kernel
theorem dX11_drop_29 : decode cX11_drop 29 = .ok (.getfield 26, 3) := by decide +kernel
theorem dX11_drop_32 : decode cX11_drop 32 = .ok (.getfield 126, 3) := by decide +kernel
theorem dX11_drop_35 : decode cX11_drop 35 = .ok (.invokestatic 189, 3) := by decide +kernel
theorem dX11_drop_38 : decode cX11_drop 38 = .ok (.ireturn, 1) := by decide +kernel
theorem dX11_join_0 : decode cX11_join 0 = .ok (.aload_n 0, 1) := by decide +kernel
theorem dX11_join_1 : decode cX11_join 1 = .ok (.getfield 26, 3) := by decide +kernel
theorem dX11_join_4 : decode cX11_join 4 = .ok (.iload_n 1, 1) := by decide +kernel
theorem dX11_join_5 : decode cX11_join 5 = .ok (.invokevirtual 145, 3) := by decide +kernel
theorem dX11_join_8 : decode cX11_join 8 = .ok (.ifCond .eq 14, 3) := by decide +kernel
theorem dX11_join_11 : decode cX11_join 11 = .ok (.aload_n 0, 1) := by decide +kernel
theorem dX11_join_12 : decode cX11_join 12 = .ok (.getfield 26, 3) := by decide +kernel
theorem dX11_join_15 : decode cX11_join 15 = .ok (.iload_n 2, 1) := by decide +kernel
theorem dX11_join_16 : decode cX11_join 16 = .ok (.invokevirtual 145, 3) := by decide +kernel
theorem dX11_join_19 : decode cX11_join 19 = .ok (.ifCond .ne 5, 3) := by decide +kernel
theorem dX11_join_22 : decode cX11_join 22 = .ok (.iconst (-1), 1) := by decide +kernel
theorem dX11_join_23 : decode cX11_join 23 = .ok (.ireturn, 1) := by decide +kernel
theorem dX11_join_24 : decode cX11_join 24 = .ok (.aload_n 0, 1) := by decide +kernel
theorem dX11_join_25 : decode cX11_join 25 = .ok (.getfield 33, 3) := by decide +kernel
theorem dX11_join_28 : decode cX11_join 28 = .ok (.aload_n 0, 1) := by decide +kernel
theorem dX11_join_29 : decode cX11_join 29 = .ok (.getfield 26, 3) := by decide +kernel
theorem dX11_join_32 : decode cX11_join 32 = .ok (.invokevirtual 230, 3) := by decide +kernel
theorem dX11_join_35 : decode cX11_join 35 = .ok (.aload_n 0, 1) := by decide +kernel
theorem dX11_join_36 : decode cX11_join 36 = .ok (.getfield 26, 3) := by decide +kernel
theorem dX11_join_39 : decode cX11_join 39 = .ok (.iload_n 1, 1) := by decide +kernel
theorem dX11_join_40 : decode cX11_join 40 = .ok (.iload_n 2, 1) := by decide +kernel
theorem dX11_join_41 : decode cX11_join 41 = .ok (.invokevirtual 245, 3) := by decide +kernel
theorem dX11_join_44 : decode cX11_join 44 = .ok (.ifCond .ne 6, 3) := by decide +kernel
theorem dX11_join_47 : decode cX11_join 47 = .ok (.bipush (-2), 2) := by decide +kernel
theorem dX11_join_49 : decode cX11_join 49 = .ok (.ireturn, 1) := by decide +kernel
theorem dX11_join_50 : decode cX11_join 50 = .ok (.aload_n 0, 1) := by decide +kernel
theorem dX11_join_51 : decode cX11_join 51 = .ok (.invokevirtual 239, 3) := by decide +kernel
theorem dX11_join_54 : decode cX11_join 54 = .ok (.aload_n 0, 1) := by decide +kernel
theorem dX11_join_55 : decode cX11_join 55 = .ok (.getfield 26, 3) := by decide +kernel
theorem dX11_join_58 : decode cX11_join 58 = .ok (.iload_n 1, 1) := by decide +kernel
theorem dX11_join_59 : decode cX11_join 59 = .ok (.iload_n 2, 1) := by decide +kernel
theorem dX11_join_60 : decode cX11_join 60 = .ok (.invokevirtual 163, 3) := by decide +kernel
theorem dX11_join_63 : decode cX11_join 63 = .ok (.ireturn, 1) := by decide +kernel
theorem dX11_part_0 : decode cX11_part 0 = .ok (.aload_n 0, 1) := by decide +kernel
theorem dX11_part_1 : decode cX11_part 1 = .ok (.getfield 33, 3) := by decide +kernel
theorem dX11_part_4 : decode cX11_part 4 = .ok (.aload_n 0, 1) := by decide +kernel
theorem dX11_part_5 : decode cX11_part 5 = .ok (.getfield 26, 3) := by decide +kernel
theorem dX11_part_8 : decode cX11_part 8 = .ok (.invokevirtual 230, 3) := by decide +kernel
theorem dX11_part_11 : decode cX11_part 11 = .ok (.aload_n 0, 1) := by decide +kernel
theorem dX11_part_12 : decode cX11_part 12 = .ok (.getfield 26, 3) := by decide +kernel
theorem dX11_part_15 : decode cX11_part 15 = .ok (.iload_n 1, 1) := by decide +kernel
theorem dX11_part_16 : decode cX11_part 16 = .ok (.iload_n 2, 1) := by decide +kernel
theorem dX11_part_17 : decode cX11_part 17 = .ok (.invokevirtual 249, 3) := by decide +kernel
theorem dX11_part_20 : decode cX11_part 20 = .ok (.ifCond .ne 5, 3) := by decide +kernel
theorem dX11_part_23 : decode cX11_part 23 = .ok (.iconst (-1), 1) := by decide +kernel
theorem dX11_part_24 : decode cX11_part 24 = .ok (.ireturn, 1) := by decide +kernel
theorem dX11_part_25 : decode cX11_part 25 = .ok (.aload_n 0, 1) := by decide +kernel
theorem dX11_part_26 : decode cX11_part 26 = .ok (.invokevirtual 239, 3) := by decide +kernel
theorem dX11_part_29 : decode cX11_part 29 = .ok (.aload_n 0, 1) := by decide +kernel
theorem dX11_part_30 : decode cX11_part 30 = .ok (.getfield 26, 3) := by decide +kernel
theorem dX11_part_33 : decode cX11_part 33 = .ok (.iload_n 1, 1) := by decide +kernel
theorem dX11_part_34 : decode cX11_part 34 = .ok (.iload_n 2, 1) := by decide +kernel
theorem dX11_part_35 : decode cX11_part 35 = .ok (.invokevirtual 163, 3) := by decide +kernel
theorem dX11_part_38 : decode cX11_part 38 = .ok (.ireturn, 1) := by decide +kernel
theorem dX11_weigh_0 : decode cX11_weigh 0 = .ok (.aload_n 0, 1) := by decide +kernel
theorem dX11_weigh_1 : decode cX11_weigh 1 = .ok (.getfield 26, 3) := by decide +kernel
theorem dX11_weigh_4 : decode cX11_weigh 4 = .ok (.iload_n 1, 1) := by decide +kernel
theorem dX11_weigh_5 : decode cX11_weigh 5 = .ok (.invokevirtual 145, 3) := by decide +kernel
theorem dX11_weigh_8 : decode cX11_weigh 8 = .ok (.ifCond .eq 14, 3) := by decide +kernel
theorem dX11_weigh_11 : decode cX11_weigh 11 = .ok (.iload_n 2, 1) := by decide +kernel
theorem dX11_weigh_12 : decode cX11_weigh 12 = .ok (.iconst 1, 1) := by decide +kernel
theorem dX11_weigh_13 : decode cX11_weigh 13 = .ok (.if_icmp .lt 9, 3) := by decide +kernel
theorem dX11_weigh_16 : decode cX11_weigh 16 = .ok (.iload_n 2, 1) := by decide +kernel
theorem dX11_weigh_17 : decode cX11_weigh 17 = .ok (.bipush 9, 2) := by decide +kernel
theorem dX11_weigh_19 : decode cX11_weigh 19 = .ok (.if_icmp .le 5, 3) := by decide +kernel
theorem dX11_weigh_22 : decode cX11_weigh 22 = .ok (.iconst (-1), 1) := by decide +kernel
theorem dX11_weigh_23 : decode cX11_weigh 23 = .ok (.ireturn, 1) := by decide +kernel
theorem dX11_weigh_24 : decode cX11_weigh 24 = .ok (.aload_n 0, 1) := by decide +kernel
theorem dX11_weigh_25 : decode cX11_weigh 25 = .ok (.getfield 33, 3) := by decide +kernel
theorem dX11_weigh_28 : decode cX11_weigh 28 = .ok (.aload_n 0, 1) := by decide +kernel
theorem dX11_weigh_29 : decode cX11_weigh 29 = .ok (.getfield 26, 3) := by decide +kernel
theorem dX11_weigh_32 : decode cX11_weigh 32 = .ok (.invokevirtual 230, 3) := by decide +kernel
theorem dX11_weigh_35 : decode cX11_weigh 35 = .ok (.aload_n 0, 1) := by decide +kernel
theorem dX11_weigh_36 : decode cX11_weigh 36 = .ok (.getfield 26, 3) := by decide +kernel
theorem dX11_weigh_39 : decode cX11_weigh 39 = .ok (.iload_n 1, 1) := by decide +kernel
theorem dX11_weigh_40 : decode cX11_weigh 40 = .ok (.iload_n 2, 1) := by decide +kernel
theorem dX11_weigh_41 : decode cX11_weigh 41 = .ok (.invokevirtual 252, 3) := by decide +kernel
theorem dX11_weigh_44 : decode cX11_weigh 44 = .ok (.ifCond .ne 5, 3) := by decide +kernel
theorem dX11_weigh_47 : decode cX11_weigh 47 = .ok (.iconst 1, 1) := by decide +kernel
theorem dX11_weigh_48 : decode cX11_weigh 48 = .ok (.ireturn, 1) := by decide +kernel
theorem dX11_weigh_49 : decode cX11_weigh 49 = .ok (.aload_n 0, 1) := by decide +kernel
theorem dX11_weigh_50 : decode cX11_weigh 50 = .ok (.invokevirtual 239, 3) := by decide +kernel
theorem dX11_weigh_53 : decode cX11_weigh 53 = .ok (.iconst 0, 1) := by decide +kernel
theorem dX11_weigh_54 : decode cX11_weigh 54 = .ok (.ireturn, 1) := by decide +kernel
theorem dX11_drawn_0 : decode cX11_drawn 0 = .ok (.iload_n 1, 1) := by decide +kernel
theorem dX11_drawn_1 : decode cX11_drawn 1 = .ok (.iconst 1, 1) := by decide +kernel
theorem dX11_drawn_2 : decode cX11_drawn 2 = .ok (.if_icmp .lt 9, 3) := by decide +kernel
theorem dX11_drawn_5 : decode cX11_drawn 5 = .ok (.iload_n 1, 1) := by decide +kernel
theorem dX11_drawn_6 : decode cX11_drawn 6 = .ok (.bipush 60, 2) := by decide +kernel
theorem dX11_drawn_8 : decode cX11_drawn 8 = .ok (.if_icmp .le 5, 3) := by decide +kernel
theorem dX11_drawn_11 : decode cX11_drawn 11 = .ok (.iconst (-1), 1) := by decide +kernel
theorem dX11_drawn_12 : decode cX11_drawn 12 = .ok (.ireturn, 1) := by decide +kernel
theorem dX11_drawn_13 : decode cX11_drawn 13 = .ok (.aload_n 0, 1) := by decide +kernel
theorem dX11_drawn_14 : decode cX11_drawn 14 = .ok (.getfield 33, 3) := by decide +kernel
theorem dX11_drawn_17 : decode cX11_drawn 17 = .ok (.aload_n 0, 1) := by decide +kernel
theorem dX11_drawn_18 : decode cX11_drawn 18 = .ok (.getfield 26, 3) := by decide +kernel
theorem dX11_drawn_21 : decode cX11_drawn 21 = .ok (.invokevirtual 230, 3) := by decide +kernel
theorem dX11_drawn_24 : decode cX11_drawn 24 = .ok (.aload_n 0, 1) := by decide +kernel
theorem dX11_drawn_25 : decode cX11_drawn 25 = .ok (.getfield 50, 3) := by decide +kernel
theorem dX11_drawn_28 : decode cX11_drawn 28 = .ok (.iload_n 2, 1) := by decide +kernel
theorem dX11_drawn_29 : decode cX11_drawn 29 = .ok (.putfield 255, 3) := by decide +kernel
theorem dX11_drawn_32 : decode cX11_drawn 32 = .ok (.iconst 0, 1) := by decide +kernel
theorem dX11_drawn_33 : decode cX11_drawn 33 = .ok (.istore_n 3, 1) := by decide +kernel
theorem dX11_drawn_34 : decode cX11_drawn 34 = .ok (.iconst 0, 1) := by decide +kernel
theorem dX11_drawn_35 : decode cX11_drawn 35 = .ok (.istore 4, 2) := by decide +kernel
theorem dX11_drawn_37 : decode cX11_drawn 37 = .ok (.iload 4, 2) := by decide +kernel
theorem dX11_drawn_39 : decode cX11_drawn 39 = .ok (.iload_n 1, 1) := by decide +kernel
theorem dX11_drawn_40 : decode cX11_drawn 40 = .ok (.if_icmp .ge 19, 3) := by decide +kernel
theorem dX11_drawn_43 : decode cX11_drawn 43 = .ok (.aload_n 0, 1) := by decide +kernel
theorem dX11_drawn_44 : decode cX11_drawn 44 = .ok (.invokevirtual 258, 3) := by decide +kernel
theorem dX11_drawn_47 : decode cX11_drawn 47 = .ok (.ifCond .eq 6, 3) := by decide +kernel
theorem dX11_drawn_50 : decode cX11_drawn 50 = .ok (.iinc 3 1, 3) := by decide +kernel
theorem dX11_drawn_53 : decode cX11_drawn 53 = .ok (.iinc 4 1, 3) := by decide +kernel
theorem dX11_drawn_56 : decode cX11_drawn 56 = .ok (.goto (-19), 3) := by decide +kernel
theorem dX11_drawn_59 : decode cX11_drawn 59 = .ok (.iload_n 3, 1) := by decide +kernel
theorem dX11_drawn_60 : decode cX11_drawn 60 = .ok (.ifCond .le 7, 3) := by decide +kernel
theorem dX11_drawn_63 : decode cX11_drawn 63 = .ok (.aload_n 0, 1) := by decide +kernel
theorem dX11_drawn_64 : decode cX11_drawn 64 = .ok (.invokevirtual 239, 3) := by decide +kernel
theorem dX11_drawn_67 : decode cX11_drawn 67 = .ok (.iload_n 3, 1) := by decide +kernel
theorem dX11_drawn_68 : decode cX11_drawn 68 = .ok (.ireturn, 1) := by decide +kernel
theorem dX11_undo_0 : decode cX11_undo 0 = .ok (.aload_n 0, 1) := by decide +kernel
theorem dX11_undo_1 : decode cX11_undo 1 = .ok (.getfield 33, 3) := by decide +kernel
theorem dX11_undo_4 : decode cX11_undo 4 = .ok (.aload_n 0, 1) := by decide +kernel
theorem dX11_undo_5 : decode cX11_undo 5 = .ok (.getfield 26, 3) := by decide +kernel
theorem dX11_undo_8 : decode cX11_undo 8 = .ok (.invokevirtual 261, 3) := by decide +kernel
theorem dX11_undo_11 : decode cX11_undo 11 = .ok (.ifCond .ne 5, 3) := by decide +kernel
theorem dX11_undo_14 : decode cX11_undo 14 = .ok (.iconst (-1), 1) := by decide +kernel
theorem dX11_undo_15 : decode cX11_undo 15 = .ok (.ireturn, 1) := by decide +kernel
theorem dX11_undo_16 : decode cX11_undo 16 = .ok (.aload_n 0, 1) := by decide +kernel
theorem dX11_undo_17 : decode cX11_undo 17 = .ok (.invokevirtual 117, 3) := by decide +kernel
theorem dX11_undo_20 : decode cX11_undo 20 = .ok (.aload_n 0, 1) := by decide +kernel
theorem dX11_undo_21 : decode cX11_undo 21 = .ok (.getfield 33, 3) := by decide +kernel
theorem dX11_undo_24 : decode cX11_undo 24 = .ok (.getfield 142, 3) := by decide +kernel
theorem dX11_undo_27 : decode cX11_undo 27 = .ok (.ireturn, 1) := by decide +kernel
theorem dX11_image_0 : decode cX11_image 0 = .ok (.aload_n 0, 1) := by decide +kernel
theorem dX11_image_1 : decode cX11_image 1 = .ok (.iload_n 1, 1) := by decide +kernel
theorem dX11_image_2 : decode cX11_image 2 = .ok (.invokevirtual 265, 3) := by decide +kernel
theorem dX11_image_5 : decode cX11_image 5 = .ok (.astore_n 2, 1) := by decide +kernel
theorem dX11_image_6 : decode cX11_image 6 = .ok (.aload_n 2, 1) := by decide +kernel
theorem dX11_image_7 : decode cX11_image 7 = .ok (.ifnonnull 5, 3) := by decide +kernel
theorem dX11_image_10 : decode cX11_image 10 = .ok (.iconst 0, 1) := by decide +kernel
theorem dX11_image_11 : decode cX11_image 11 = .ok (.ireturn, 1) := by decide +kernel
theorem dX11_image_12 : decode cX11_image 12 = .ok (.aload_n 2, 1) := by decide +kernel
theorem dX11_image_13 : decode cX11_image 13 = .ok (.getfield 269, 3) := by decide +kernel
theorem dX11_image_16 : decode cX11_image 16 = .ok (.aload_n 0, 1) := by decide +kernel
theorem dX11_image_17 : decode cX11_image 17 = .ok (.getfield 26, 3) := by decide +kernel
theorem dX11_image_20 : decode cX11_image 20 = .ok (.invokevirtual 110, 3) := by decide +kernel
theorem dX11_image_23 : decode cX11_image 23 = .ok (.aload_n 2, 1) := by decide +kernel
theorem dX11_image_24 : decode cX11_image 24 = .ok (.iconst 1, 1) := by decide +kernel
theorem dX11_image_25 : decode cX11_image 25 = .ok (.putfield 272, 3) := by decide +kernel
theorem dX11_image_28 : decode cX11_image 28 = .ok (.iconst 1, 1) := by decide +kernel
theorem dX11_image_29 : decode cX11_image 29 = .ok (.ireturn, 1) := by decide +kernel
theorem dX11_restore_0 : decode cX11_restore 0 = .ok (.aload_n 0, 1) := by decide +kernel
theorem dX11_restore_1 : decode cX11_restore 1 = .ok (.iload_n 1, 1) := by decide +kernel
theorem dX11_restore_2 : decode cX11_restore 2 = .ok (.invokevirtual 265, 3) := by decide +kernel
theorem dX11_restore_5 : decode cX11_restore 5 = .ok (.astore_n 2, 1) := by decide +kernel
theorem dX11_restore_6 : decode cX11_restore 6 = .ok (.aload_n 2, 1) := by decide +kernel
theorem dX11_restore_7 : decode cX11_restore 7 = .ok (.ifnull 10, 3) := by decide +kernel
theorem dX11_restore_10 : decode cX11_restore 10 = .ok (.aload_n 2, 1) := by decide +kernel
theorem dX11_restore_11 : decode cX11_restore 11 = .ok (.getfield 272, 3) := by decide +kernel
theorem dX11_restore_14 : decode cX11_restore 14 = .ok (.ifCond .ne 5, 3) := by decide +kernel
theorem dX11_restore_17 : decode cX11_restore 17 = .ok (.iconst 0, 1) := by decide +kernel
theorem dX11_restore_18 : decode cX11_restore 18 = .ok (.ireturn, 1) := by decide +kernel
theorem dX11_restore_19 : decode cX11_restore 19 = .ok (.aload_n 0, 1) := by decide +kernel
theorem dX11_restore_20 : decode cX11_restore 20 = .ok (.getfield 26, 3) := by decide +kernel
theorem dX11_restore_23 : decode cX11_restore 23 = .ok (.aload_n 2, 1) := by decide +kernel
theorem dX11_restore_24 : decode cX11_restore 24 = .ok (.getfield 269, 3) := by decide +kernel
theorem dX11_restore_27 : decode cX11_restore 27 = .ok (.invokevirtual 110, 3) := by decide +kernel
theorem dX11_restore_30 : decode cX11_restore 30 = .ok (.aload_n 0, 1) := by decide +kernel
theorem dX11_restore_31 : decode cX11_restore 31 = .ok (.getfield 33, 3) := by decide +kernel
theorem dX11_restore_34 : decode cX11_restore 34 = .ok (.invokevirtual 114, 3) := by decide +kernel
theorem dX11_restore_37 : decode cX11_restore 37 = .ok (.aload_n 0, 1) := by decide +kernel
theorem dX11_restore_38 : decode cX11_restore 38 = .ok (.invokevirtual 117, 3) := by decide +kernel
theorem dX11_restore_41 : decode cX11_restore 41 = .ok (.iconst 1, 1) := by decide +kernel
theorem dX11_restore_42 : decode cX11_restore 42 = .ok (.ireturn, 1) := by decide +kernel
theorem dX11_markChanged_0 : decode cX11_markChanged 0 = .ok (.aload_n 0, 1) := by decide +kernel
theorem dX11_markChanged_1 : decode cX11_markChanged 1 = .ok (.iconst 1, 1) := by decide +kernel
theorem dX11_markChanged_2 : decode cX11_markChanged 2 = .ok (.putfield 75, 3) := by decide +kernel
theorem dX11_markChanged_5 : decode cX11_markChanged 5 = .ok (.aload_n 0, 1) := by decide +kernel
theorem dX11_markChanged_6 : decode cX11_markChanged 6 = .ok (.iconst 1, 1) := by decide +kernel
theorem dX11_markChanged_7 : decode cX11_markChanged 7 = .ok (.putfield 79, 3) := by decide +kernel
theorem dX11_markChanged_10 : decode cX11_markChanged 10 = .ok (.aload_n 0, 1) := by decide +kernel
theorem dX11_markChanged_11 : decode cX11_markChanged 11 = .ok (.iconst 1, 1) := by decide +kernel
theorem dX11_markChanged_12 : decode cX11_markChanged 12 = .ok (.putfield 82, 3) := by decide +kernel
theorem dX11_markChanged_15 : decode cX11_markChanged 15 = .ok (.return_, 1) := by decide +kernel
theorem dX11_keepAct_0 : decode cX11_keepAct 0 = .ok (.aload_n 0, 1) := by decide +kernel
theorem dX11_keepAct_1 : decode cX11_keepAct 1 = .ok (.getfield 33, 3) := by decide +kernel
theorem dX11_keepAct_4 : decode cX11_keepAct 4 = .ok (.invokevirtual 275, 3) := by decide +kernel
theorem dX11_keepAct_7 : decode cX11_keepAct 7 = .ok (.aload_n 0, 1) := by decide +kernel
theorem dX11_keepAct_8 : decode cX11_keepAct 8 = .ok (.invokevirtual 117, 3) := by decide +kernel
theorem dX11_keepAct_11 : decode cX11_keepAct 11 = .ok (.return_, 1) := by decide +kernel
theorem dX11_keptAt_0 : decode cX11_keptAt 0 = .ok (.iload_n 1, 1) := by decide +kernel
theorem dX11_keptAt_1 : decode cX11_keptAt 1 = .ok (.ifCond .ne 10, 3) := by decide +kernel
theorem dX11_keptAt_4 : decode cX11_keptAt 4 = .ok (.aload_n 0, 1) := by decide +kernel
theorem dX11_keptAt_5 : decode cX11_keptAt 5 = .ok (.getfield 40, 3) := by decide +kernel
theorem dX11_keptAt_8 : decode cX11_keptAt 8 = .ok (.goto 16, 3) := by decide +kernel
theorem dX11_keptAt_11 : decode cX11_keptAt 11 = .ok (.iload_n 1, 1) := by decide +kernel
theorem dX11_keptAt_12 : decode cX11_keptAt 12 = .ok (.iconst 1, 1) := by decide +kernel
theorem dX11_keptAt_13 : decode cX11_keptAt 13 = .ok (.if_icmp .ne 10, 3) := by decide +kernel
theorem dX11_keptAt_16 : decode cX11_keptAt 16 = .ok (.aload_n 0, 1) := by decide +kernel
theorem dX11_keptAt_17 : decode cX11_keptAt 17 = .ok (.getfield 44, 3) := by decide +kernel
theorem dX11_keptAt_20 : decode cX11_keptAt 20 = .ok (.goto 4, 3) := by decide +kernel
theorem dX11_keptAt_23 : decode cX11_keptAt 23 = .ok (.aconst_null, 1) := by decide +kernel
theorem dX11_keptAt_24 : decode cX11_keptAt 24 = .ok (.areturn, 1) := by decide +kernel
theorem dX11_ringsNow_0 : decode cX11_ringsNow 0 = .ok (.aload_n 0, 1) := by decide +kernel
theorem dX11_ringsNow_1 : decode cX11_ringsNow 1 = .ok (.getfield 75, 3) := by decide +kernel
theorem dX11_ringsNow_4 : decode cX11_ringsNow 4 = .ok (.ifCond .eq 19, 3) := by decide +kernel
theorem dX11_ringsNow_7 : decode cX11_ringsNow 7 = .ok (.aload_n 0, 1) := by decide +kernel
theorem dX11_ringsNow_8 : decode cX11_ringsNow 8 = .ok (.getfield 57, 3) := by decide +kernel
theorem dX11_ringsNow_11 : decode cX11_ringsNow 11 = .ok (.aload_n 0, 1) := by decide +kernel
theorem dX11_ringsNow_12 : decode cX11_ringsNow 12 = .ok (.getfield 26, 3) := by decide +kernel
theorem dX11_ringsNow_15 : decode cX11_ringsNow 15 = .ok (.invokevirtual 278, 3) := by decide +kernel
theorem dX11_ringsNow_18 : decode cX11_ringsNow 18 = .ok (.aload_n 0, 1) := by decide +kernel
theorem dX11_ringsNow_19 : decode cX11_ringsNow 19 = .ok (.iconst 0, 1) := by decide +kernel
theorem dX11_ringsNow_20 : decode cX11_ringsNow 20 = .ok (.putfield 75, 3) := by decide +kernel
theorem dX11_ringsNow_23 : decode cX11_ringsNow 23 = .ok (.aload_n 0, 1) := by decide +kernel
theorem dX11_ringsNow_24 : decode cX11_ringsNow 24 = .ok (.getfield 57, 3) := by decide +kernel
theorem dX11_ringsNow_27 : decode cX11_ringsNow 27 = .ok (.areturn, 1) := by decide +kernel
theorem dX11_packingNow_0 : decode cX11_packingNow 0 = .ok (.aload_n 0, 1) := by decide +kernel
theorem dX11_packingNow_1 : decode cX11_packingNow 1 = .ok (.getfield 79, 3) := by decide +kernel
theorem dX11_packingNow_4 : decode cX11_packingNow 4 = .ok (.ifCond .eq 26, 3) := by decide +kernel
theorem dX11_packingNow_7 : decode cX11_packingNow 7 = .ok (.aload_n 0, 1) := by decide +kernel
theorem dX11_packingNow_8 : decode cX11_packingNow 8 = .ok (.getfield 64, 3) := by decide +kernel
theorem dX11_packingNow_11 : decode cX11_packingNow 11 = .ok (.aload_n 0, 1) := by decide +kernel
theorem dX11_packingNow_12 : decode cX11_packingNow 12 = .ok (.getfield 26, 3) := by decide +kernel
theorem dX11_packingNow_15 : decode cX11_packingNow 15 = .ok (.getfield 126, 3) := by decide +kernel
theorem dX11_packingNow_18 : decode cX11_packingNow 18 = .ok (.aload_n 0, 1) := by decide +kernel
theorem dX11_packingNow_19 : decode cX11_packingNow 19 = .ok (.invokevirtual 172, 3) := by decide +kernel
theorem dX11_packingNow_22 : decode cX11_packingNow 22 = .ok (.invokevirtual 281, 3) := by decide +kernel
theorem dX11_packingNow_25 : decode cX11_packingNow 25 = .ok (.aload_n 0, 1) := by decide +kernel
theorem dX11_packingNow_26 : decode cX11_packingNow 26 = .ok (.iconst 0, 1) := by decide +kernel
theorem dX11_packingNow_27 : decode cX11_packingNow 27 = .ok (.putfield 79, 3) := by decide +kernel
theorem dX11_packingNow_30 : decode cX11_packingNow 30 = .ok (.aload_n 0, 1) := by decide +kernel
theorem dX11_packingNow_31 : decode cX11_packingNow 31 = .ok (.getfield 64, 3) := by decide +kernel
theorem dX11_packingNow_34 : decode cX11_packingNow 34 = .ok (.areturn, 1) := by decide +kernel
theorem dX11_discountNow_0 : decode cX11_discountNow 0 = .ok (.aload_n 0, 1) := by decide +kernel
theorem dX11_discountNow_1 : decode cX11_discountNow 1 = .ok (.getfield 82, 3) := by decide +kernel
theorem dX11_discountNow_4 : decode cX11_discountNow 4 = .ok (.ifCond .eq 23, 3) := by decide +kernel
theorem dX11_discountNow_7 : decode cX11_discountNow 7 = .ok (.aload_n 0, 1) := by decide +kernel
theorem dX11_discountNow_8 : decode cX11_discountNow 8 = .ok (.getfield 71, 3) := by decide +kernel
theorem dX11_discountNow_11 : decode cX11_discountNow 11 = .ok (.aload_n 0, 1) := by decide +kernel
theorem dX11_discountNow_12 : decode cX11_discountNow 12 = .ok (.getfield 26, 3) := by decide +kernel
theorem dX11_discountNow_15 : decode cX11_discountNow 15 = .ok (.aload_n 0, 1) := by decide +kernel
theorem dX11_discountNow_16 : decode cX11_discountNow 16 = .ok (.invokevirtual 172, 3) := by decide +kernel
theorem dX11_discountNow_19 : decode cX11_discountNow 19 = .ok (.invokevirtual 284, 3) := by decide +kernel
theorem dX11_discountNow_22 : decode cX11_discountNow 22 = .ok (.aload_n 0, 1) := by decide +kernel
theorem dX11_discountNow_23 : decode cX11_discountNow 23 = .ok (.iconst 0, 1) := by decide +kernel
theorem dX11_discountNow_24 : decode cX11_discountNow 24 = .ok (.putfield 82, 3) := by decide +kernel
theorem dX11_discountNow_27 : decode cX11_discountNow 27 = .ok (.aload_n 0, 1) := by decide +kernel
theorem dX11_discountNow_28 : decode cX11_discountNow 28 = .ok (.getfield 71, 3) := by decide +kernel
theorem dX11_discountNow_31 : decode cX11_discountNow 31 = .ok (.areturn, 1) := by decide +kernel
theorem dX11_tellSet_0 : decode cX11_tellSet 0 = .ok (.iload_n 2, 1) := by decide +kernel
theorem dX11_tellSet_1 : decode cX11_tellSet 1 = .ok (.ifCond .ne 10, 3) := by decide +kernel
theorem dX11_tellSet_4 : decode cX11_tellSet 4 = .ok (.iload_n 1, 1) := by decide +kernel
theorem dX11_tellSet_5 : decode cX11_tellSet 5 = .ok (.invokestatic 189, 3) := by decide +kernel
theorem dX11_tellSet_8 : decode cX11_tellSet 8 = .ok (.goto 20, 3) := by decide +kernel
theorem dX11_tellSet_11 : decode cX11_tellSet 11 = .ok (.iload_n 2, 1) := by decide +kernel
theorem dX11_tellSet_12 : decode cX11_tellSet 12 = .ok (.iconst 1, 1) := by decide +kernel
theorem dX11_tellSet_13 : decode cX11_tellSet 13 = .ok (.if_icmp .ne 7, 3) := by decide +kernel
theorem dX11_tellSet_16 : decode cX11_tellSet 16 = .ok (.iload_n 1, 1) := by decide +kernel
theorem dX11_tellSet_17 : decode cX11_tellSet 17 = .ok (.goto 11, 3) := by decide +kernel
theorem dX11_tellSet_20 : decode cX11_tellSet 20 = .ok (.aload_n 0, 1) := by decide +kernel
theorem dX11_tellSet_21 : decode cX11_tellSet 21 = .ok (.getfield 26, 3) := by decide +kernel
theorem dX11_tellSet_24 : decode cX11_tellSet 24 = .ok (.iload_n 1, 1) := by decide +kernel
theorem dX11_tellSet_25 : decode cX11_tellSet 25 = .ok (.invokevirtual 139, 3) := by decide +kernel
theorem dX11_tellSet_28 : decode cX11_tellSet 28 = .ok (.ireturn, 1) := by decide +kernel
theorem dX11_lightestCut_0 : decode cX11_lightestCut 0 = .ok (.aload_n 0, 1) := by decide +kernel
theorem dX11_lightestCut_1 : decode cX11_lightestCut 1 = .ok (.invokevirtual 172, 3) := by decide +kernel
theorem dX11_lightestCut_4 : decode cX11_lightestCut 4 = .ok (.astore_n 1, 1) := by decide +kernel
theorem dX11_lightestCut_5 : decode cX11_lightestCut 5 = .ok (.aload_n 0, 1) := by decide +kernel
theorem dX11_lightestCut_6 : decode cX11_lightestCut 6 = .ok (.getfield 26, 3) := by decide +kernel
theorem dX11_lightestCut_9 : decode cX11_lightestCut 9 = .ok (.getfield 126, 3) := by decide +kernel
theorem dX11_lightestCut_12 : decode cX11_lightestCut 12 = .ok (.istore_n 2, 1) := by decide +kernel
theorem dX11_lightestCut_13 : decode cX11_lightestCut 13 = .ok (.aload_n 0, 1) := by decide +kernel
theorem dX11_lightestCut_14 : decode cX11_lightestCut 14 = .ok (.getfield 26, 3) := by decide +kernel
theorem dX11_lightestCut_17 : decode cX11_lightestCut 17 = .ok (.iload_n 2, 1) := by decide +kernel
theorem dX11_lightestCut_18 : decode cX11_lightestCut 18 = .ok (.invokevirtual 139, 3) := by decide +kernel
theorem dX11_lightestCut_21 : decode cX11_lightestCut 21 = .ok (.istore_n 3, 1) := by decide +kernel
theorem dX11_lightestCut_22 : decode cX11_lightestCut 22 = .ok (.iconst 0, 1) := by decide +kernel
theorem dX11_lightestCut_23 : decode cX11_lightestCut 23 = .ok (.istore 4, 2) := by decide +kernel
theorem dX11_lightestCut_25 : decode cX11_lightestCut 25 = .ok (.iload 4, 2) := by decide +kernel
theorem dX11_lightestCut_27 : decode cX11_lightestCut 27 = .ok (.aload_n 0, 1) := by decide +kernel
theorem dX11_lightestCut_28 : decode cX11_lightestCut 28 = .ok (.getfield 26, 3) := by decide +kernel
theorem dX11_lightestCut_31 : decode cX11_lightestCut 31 = .ok (.getfield 126, 3) := by decide +kernel
theorem dX11_lightestCut_34 : decode cX11_lightestCut 34 = .ok (.if_icmp .gt 63, 3) := by decide +kernel
theorem dX11_lightestCut_37 : decode cX11_lightestCut 37 = .ok (.aload_n 0, 1) := by decide +kernel
theorem dX11_lightestCut_38 : decode cX11_lightestCut 38 = .ok (.getfield 26, 3) := by decide +kernel
theorem dX11_lightestCut_41 : decode cX11_lightestCut 41 = .ok (.iload 4, 2) := by decide +kernel
theorem dX11_lightestCut_43 : decode cX11_lightestCut 43 = .ok (.invokevirtual 169, 3) := by decide +kernel
theorem dX11_lightestCut_46 : decode cX11_lightestCut 46 = .ok (.ifCond .eq 45, 3) := by decide +kernel
theorem dX11_lightestCut_49 : decode cX11_lightestCut 49 = .ok (.aload_n 1, 1) := by decide +kernel
theorem dX11_lightestCut_50 : decode cX11_lightestCut 50 = .ok (.aload_n 0, 1) := by decide +kernel
theorem dX11_lightestCut_51 : decode cX11_lightestCut 51 = .ok (.getfield 26, 3) := by decide +kernel
theorem dX11_lightestCut_54 : decode cX11_lightestCut 54 = .ok (.getfield 126, 3) := by decide +kernel
theorem dX11_lightestCut_57 : decode cX11_lightestCut 57 = .ok (.iload 4, 2) := by decide +kernel
theorem dX11_lightestCut_59 : decode cX11_lightestCut 59 = .ok (.iconst (-1), 1) := by decide +kernel
theorem dX11_lightestCut_60 : decode cX11_lightestCut 60 = .ok (.ixor, 1) := by decide +kernel
theorem dX11_lightestCut_61 : decode cX11_lightestCut 61 = .ok (.iand, 1) := by decide +kernel
theorem dX11_lightestCut_62 : decode cX11_lightestCut 62 = .ok (.invokevirtual 176, 3) := by decide +kernel
theorem dX11_lightestCut_65 : decode cX11_lightestCut 65 = .ok (.ifCond .eq 26, 3) := by decide +kernel
theorem dX11_lightestCut_68 : decode cX11_lightestCut 68 = .ok (.aload_n 0, 1) := by decide +kernel
theorem dX11_lightestCut_69 : decode cX11_lightestCut 69 = .ok (.getfield 26, 3) := by decide +kernel
theorem dX11_lightestCut_72 : decode cX11_lightestCut 72 = .ok (.iload 4, 2) := by decide +kernel
theorem dX11_lightestCut_74 : decode cX11_lightestCut 74 = .ok (.invokevirtual 139, 3) := by decide +kernel
theorem dX11_lightestCut_77 : decode cX11_lightestCut 77 = .ok (.istore 5, 2) := by decide +kernel
theorem dX11_lightestCut_79 : decode cX11_lightestCut 79 = .ok (.iload 5, 2) := by decide +kernel
theorem dX11_lightestCut_81 : decode cX11_lightestCut 81 = .ok (.iload_n 3, 1) := by decide +kernel
theorem dX11_lightestCut_82 : decode cX11_lightestCut 82 = .ok (.if_icmp .ge 9, 3) := by decide +kernel
theorem dX11_lightestCut_85 : decode cX11_lightestCut 85 = .ok (.iload 5, 2) := by decide +kernel
theorem dX11_lightestCut_87 : decode cX11_lightestCut 87 = .ok (.istore_n 3, 1) := by decide +kernel
theorem dX11_lightestCut_88 : decode cX11_lightestCut 88 = .ok (.iload 4, 2) := by decide +kernel
theorem dX11_lightestCut_90 : decode cX11_lightestCut 90 = .ok (.istore_n 2, 1) := by decide +kernel
theorem dX11_lightestCut_91 : decode cX11_lightestCut 91 = .ok (.iinc 4 1, 3) := by decide +kernel
theorem dX11_lightestCut_94 : decode cX11_lightestCut 94 = .ok (.goto (-69), 3) := by decide +kernel
theorem dX11_lightestCut_97 : decode cX11_lightestCut 97 = .ok (.iload_n 2, 1) := by decide +kernel
theorem dX11_lightestCut_98 : decode cX11_lightestCut 98 = .ok (.ireturn, 1) := by decide +kernel
theorem dX11_doDeed_0 : decode cX11_doDeed 0 = .ok (.aload_n 0, 1) := by decide +kernel
theorem dX11_doDeed_1 : decode cX11_doDeed 1 = .ok (.getfield 50, 3) := by decide +kernel
theorem dX11_doDeed_4 : decode cX11_doDeed 4 = .ok (.bipush 8, 2) := by decide +kernel
theorem dX11_doDeed_6 : decode cX11_doDeed 6 = .ok (.invokevirtual 288, 3) := by decide +kernel
theorem dX11_doDeed_9 : decode cX11_doDeed 9 = .ok (.istore_n 1, 1) := by decide +kernel
theorem dX11_doDeed_10 : decode cX11_doDeed 10 = .ok (.aload_n 0, 1) := by decide +kernel
theorem dX11_doDeed_11 : decode cX11_doDeed 11 = .ok (.getfield 26, 3) := by decide +kernel
theorem dX11_doDeed_14 : decode cX11_doDeed 14 = .ok (.getfield 123, 3) := by decide +kernel
theorem dX11_doDeed_17 : decode cX11_doDeed 17 = .ok (.ifCond .ne 5, 3) := by decide +kernel
theorem dX11_doDeed_20 : decode cX11_doDeed 20 = .ok (.iconst 0, 1) := by decide +kernel
theorem dX11_doDeed_21 : decode cX11_doDeed 21 = .ok (.ireturn, 1) := by decide +kernel
theorem dX11_doDeed_22 : decode cX11_doDeed 22 = .ok (.aload_n 0, 1) := by decide +kernel
theorem dX11_doDeed_23 : decode cX11_doDeed 23 = .ok (.getfield 50, 3) := by decide +kernel
theorem dX11_doDeed_26 : decode cX11_doDeed 26 = .ok (.aload_n 0, 1) := by decide +kernel
theorem dX11_doDeed_27 : decode cX11_doDeed 27 = .ok (.getfield 26, 3) := by decide +kernel
theorem dX11_doDeed_30 : decode cX11_doDeed 30 = .ok (.getfield 123, 3) := by decide +kernel
theorem dX11_doDeed_33 : decode cX11_doDeed 33 = .ok (.invokevirtual 288, 3) := by decide +kernel
theorem dX11_doDeed_36 : decode cX11_doDeed 36 = .ok (.istore_n 2, 1) := by decide +kernel
theorem dX11_doDeed_37 : decode cX11_doDeed 37 = .ok (.iload_n 1, 1) := by decide +kernel
theorem dX11_doDeed_38 : decode cX11_doDeed 38 = .ok (.ifCond .ne 12, 3) := by decide +kernel
theorem dX11_doDeed_41 : decode cX11_doDeed 41 = .ok (.aload_n 0, 1) := by decide +kernel
theorem dX11_doDeed_42 : decode cX11_doDeed 42 = .ok (.getfield 26, 3) := by decide +kernel
theorem dX11_doDeed_45 : decode cX11_doDeed 45 = .ok (.iload_n 2, 1) := by decide +kernel
theorem dX11_doDeed_46 : decode cX11_doDeed 46 = .ok (.invokevirtual 242, 3) := by decide +kernel
theorem dX11_doDeed_49 : decode cX11_doDeed 49 = .ok (.ireturn, 1) := by decide +kernel
theorem dX11_doDeed_50 : decode cX11_doDeed 50 = .ok (.iload_n 1, 1) := by decide +kernel
theorem dX11_doDeed_51 : decode cX11_doDeed 51 = .ok (.iconst 1, 1) := by decide +kernel
theorem dX11_doDeed_52 : decode cX11_doDeed 52 = .ok (.if_icmp .ne 23, 3) := by decide +kernel
theorem dX11_doDeed_55 : decode cX11_doDeed 55 = .ok (.aload_n 0, 1) := by decide +kernel
theorem dX11_doDeed_56 : decode cX11_doDeed 56 = .ok (.getfield 26, 3) := by decide +kernel
theorem dX11_doDeed_59 : decode cX11_doDeed 59 = .ok (.iload_n 2, 1) := by decide +kernel
theorem dX11_doDeed_60 : decode cX11_doDeed 60 = .ok (.aload_n 0, 1) := by decide +kernel
theorem dX11_doDeed_61 : decode cX11_doDeed 61 = .ok (.getfield 50, 3) := by decide +kernel
theorem dX11_doDeed_64 : decode cX11_doDeed 64 = .ok (.bipush 9, 2) := by decide +kernel
theorem dX11_doDeed_66 : decode cX11_doDeed 66 = .ok (.invokevirtual 288, 3) := by decide +kernel
theorem dX11_doDeed_69 : decode cX11_doDeed 69 = .ok (.iconst 1, 1) := by decide +kernel
theorem dX11_doDeed_70 : decode cX11_doDeed 70 = .ok (.iadd, 1) := by decide +kernel
theorem dX11_doDeed_71 : decode cX11_doDeed 71 = .ok (.invokevirtual 252, 3) := by decide +kernel
theorem dX11_doDeed_74 : decode cX11_doDeed 74 = .ok (.ireturn, 1) := by decide +kernel
theorem dX11_doDeed_75 : decode cX11_doDeed 75 = .ok (.aload_n 0, 1) := by decide +kernel
theorem dX11_doDeed_76 : decode cX11_doDeed 76 = .ok (.getfield 50, 3) := by decide +kernel
theorem dX11_doDeed_79 : decode cX11_doDeed 79 = .ok (.aload_n 0, 1) := by decide +kernel
theorem dX11_doDeed_80 : decode cX11_doDeed 80 = .ok (.getfield 26, 3) := by decide +kernel
theorem dX11_doDeed_83 : decode cX11_doDeed 83 = .ok (.getfield 123, 3) := by decide +kernel
theorem dX11_doDeed_86 : decode cX11_doDeed 86 = .ok (.invokevirtual 288, 3) := by decide +kernel
theorem dX11_doDeed_89 : decode cX11_doDeed 89 = .ok (.istore_n 3, 1) := by decide +kernel
theorem dX11_doDeed_90 : decode cX11_doDeed 90 = .ok (.iload_n 1, 1) := by decide +kernel
theorem dX11_doDeed_91 : decode cX11_doDeed 91 = .ok (.iconst 2, 1) := by decide +kernel
theorem dX11_doDeed_92 : decode cX11_doDeed 92 = .ok (.if_icmp .ne 15, 3) := by decide +kernel
theorem dX11_doDeed_95 : decode cX11_doDeed 95 = .ok (.aload_n 0, 1) := by decide +kernel
theorem dX11_doDeed_96 : decode cX11_doDeed 96 = .ok (.getfield 26, 3) := by decide +kernel
theorem dX11_doDeed_99 : decode cX11_doDeed 99 = .ok (.iload_n 2, 1) := by decide +kernel
theorem dX11_doDeed_100 : decode cX11_doDeed 100 = .ok (.iload_n 3, 1) := by decide +kernel
theorem dX11_doDeed_101 : decode cX11_doDeed 101 = .ok (.invokevirtual 249, 3) := by decide +kernel
theorem dX11_doDeed_104 : decode cX11_doDeed 104 = .ok (.goto 12, 3) := by decide +kernel
theorem dX11_doDeed_107 : decode cX11_doDeed 107 = .ok (.aload_n 0, 1) := by decide +kernel
theorem dX11_doDeed_108 : decode cX11_doDeed 108 = .ok (.getfield 26, 3) := by decide +kernel
theorem dX11_doDeed_111 : decode cX11_doDeed 111 = .ok (.iload_n 2, 1) := by decide +kernel
theorem dX11_doDeed_112 : decode cX11_doDeed 112 = .ok (.iload_n 3, 1) := by decide +kernel
theorem dX11_doDeed_113 : decode cX11_doDeed 113 = .ok (.invokevirtual 245, 3) := by decide +kernel
theorem dX11_doDeed_116 : decode cX11_doDeed 116 = .ok (.ireturn, 1) := by decide +kernel
theorem dX12_thrown_0 : decode cX12_thrown 0 = .ok (.aload_n 0, 1) := by decide +kernel
theorem dX12_thrown_1 : decode cX12_thrown 1 = .ok (.getfield 1, 3) := by decide +kernel
theorem dX12_thrown_4 : decode cX12_thrown 4 = .ok (.ireturn, 1) := by decide +kernel
theorem dX12_refuse_0 : decode cX12_refuse 0 = .ok (.aload_n 0, 1) := by decide +kernel
theorem dX12_refuse_1 : decode cX12_refuse 1 = .ok (.iconst 1, 1) := by decide +kernel
theorem dX12_refuse_2 : decode cX12_refuse 2 = .ok (.putfield 1, 3) := by decide +kernel
theorem dX12_refuse_5 : decode cX12_refuse 5 = .ok (.iconst 0, 1) := by decide +kernel
theorem dX12_refuse_6 : decode cX12_refuse 6 = .ok (.ireturn, 1) := by decide +kernel
theorem dX12_isIn_0 : decode cX12_isIn 0 = .ok (.iload_n 0, 1) := by decide +kernel
theorem dX12_isIn_1 : decode cX12_isIn 1 = .ok (.iload_n 1, 1) := by decide +kernel
theorem dX12_isIn_2 : decode cX12_isIn 2 = .ok (.if_icmp .lt 12, 3) := by decide +kernel
theorem dX12_isIn_5 : decode cX12_isIn 5 = .ok (.iload_n 0, 1) := by decide +kernel
theorem dX12_isIn_6 : decode cX12_isIn 6 = .ok (.iload_n 2, 1) := by decide +kernel
theorem dX12_isIn_7 : decode cX12_isIn 7 = .ok (.if_icmp .gt 7, 3) := by decide +kernel
theorem dX12_isIn_10 : decode cX12_isIn 10 = .ok (.iconst 1, 1) := by decide +kernel
theorem dX12_isIn_11 : decode cX12_isIn 11 = .ok (.goto 4, 3) := by decide +kernel
theorem dX12_isIn_14 : decode cX12_isIn 14 = .ok (.iconst 0, 1) := by decide +kernel
theorem dX12_isIn_15 : decode cX12_isIn 15 = .ok (.ireturn, 1) := by decide +kernel
theorem dX12_has_0 : decode cX12_has 0 = .ok (.iload_n 0, 1) := by decide +kernel
theorem dX12_has_1 : decode cX12_has 1 = .ok (.iload_n 1, 1) := by decide +kernel
theorem dX12_has_2 : decode cX12_has 2 = .ok (.ishr, 1) := by decide +kernel
theorem dX12_has_3 : decode cX12_has 3 = .ok (.iconst 1, 1) := by decide +kernel
theorem dX12_has_4 : decode cX12_has 4 = .ok (.iand, 1) := by decide +kernel
theorem dX12_has_5 : decode cX12_has 5 = .ok (.iconst 1, 1) := by decide +kernel
theorem dX12_has_6 : decode cX12_has 6 = .ok (.if_icmp .ne 7, 3) := by decide +kernel
theorem dX12_has_9 : decode cX12_has 9 = .ok (.iconst 1, 1) := by decide +kernel
theorem dX12_has_10 : decode cX12_has 10 = .ok (.goto 4, 3) := by decide +kernel
theorem dX12_has_13 : decode cX12_has 13 = .ok (.iconst 0, 1) := by decide +kernel
theorem dX12_has_14 : decode cX12_has 14 = .ok (.ireturn, 1) := by decide +kernel
theorem dX12_bits_0 : decode cX12_bits 0 = .ok (.iconst 0, 1) := by decide +kernel
theorem dX12_bits_1 : decode cX12_bits 1 = .ok (.istore_n 1, 1) := by decide +kernel
theorem dX12_bits_2 : decode cX12_bits 2 = .ok (.iload_n 0, 1) := by decide +kernel
theorem dX12_bits_3 : decode cX12_bits 3 = .ok (.istore_n 2, 1) := by decide +kernel
theorem dX12_bits_4 : decode cX12_bits 4 = .ok (.iload_n 2, 1) := by decide +kernel
end
