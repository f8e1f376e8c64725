section
-- ===== PART A: goes FIRST, ahead of the names: the tables' words, and 'selects' of the private methods out of them =====
/-- a private method of a class that the tables say can be made, by its rows of tables_1 -/
def lw_okq (q : MethodName × Nat) : Prop := (q.1.cls ≠ "java/lang/invoke/MethodHandle" ∧ q.1.cls ≠ "java/lang/invoke/VarHandle") ∧ Cond.instantiable q.1.cls q.2 ∈ tables_1 ∧ Cond.privateMethod q.1 ∈ tables_1 ∧ Cond.instanceMethod q.1 ∈ tables_1
theorem lw_p0 : lw_okq (⟨"java/lang/Throwable", "fillInStackTrace", "(I)Ljava/lang/Throwable;"⟩, 6) := ⟨⟨by decide +kernel, by decide +kernel⟩, List.mem_of_getElem? (i := 334) (by decide +kernel), List.mem_of_getElem? (i := 332) (by decide +kernel), List.mem_of_getElem? (i := 333) (by decide +kernel)⟩
theorem lw_p1 : lw_okq (⟨"SubtitleDesk", "passOrRefuse", "(I)V"⟩, 12) := ⟨⟨by decide +kernel, by decide +kernel⟩, List.mem_of_getElem? (i := 26) (by decide +kernel), List.mem_of_getElem? (i := 384) (by decide +kernel), List.mem_of_getElem? (i := 385) (by decide +kernel)⟩
theorem lw_p2 : lw_okq (⟨"SubtitleDesk", "keepRefusal", "(II)V"⟩, 12) := ⟨⟨by decide +kernel, by decide +kernel⟩, List.mem_of_getElem? (i := 26) (by decide +kernel), List.mem_of_getElem? (i := 388) (by decide +kernel), List.mem_of_getElem? (i := 389) (by decide +kernel)⟩
theorem lw_p3 : lw_okq (⟨"SubtitleDesk$History", "rowAt", "(I)LSubtitleDesk$Film;"⟩, 3) := ⟨⟨by decide +kernel, by decide +kernel⟩, List.mem_of_getElem? (i := 161) (by decide +kernel), List.mem_of_getElem? (i := 416) (by decide +kernel), List.mem_of_getElem? (i := 417) (by decide +kernel)⟩
theorem lw_p4 : lw_okq (⟨"SubtitleDesk", "requireTrack", "(I)V"⟩, 12) := ⟨⟨by decide +kernel, by decide +kernel⟩, List.mem_of_getElem? (i := 26) (by decide +kernel), List.mem_of_getElem? (i := 696) (by decide +kernel), List.mem_of_getElem? (i := 697) (by decide +kernel)⟩
theorem lw_p5 : lw_okq (⟨"SubtitleDesk$Track", "copyRow", "(II)V"⟩, 6) := ⟨⟨by decide +kernel, by decide +kernel⟩, List.mem_of_getElem? (i := 61) (by decide +kernel), List.mem_of_getElem? (i := 736) (by decide +kernel), List.mem_of_getElem? (i := 737) (by decide +kernel)⟩
theorem lw_p6 : lw_okq (⟨"SubtitleDesk", "requireCaption", "(II)V"⟩, 12) := ⟨⟨by decide +kernel, by decide +kernel⟩, List.mem_of_getElem? (i := 26) (by decide +kernel), List.mem_of_getElem? (i := 756) (by decide +kernel), List.mem_of_getElem? (i := 757) (by decide +kernel)⟩
theorem lw_p7 : lw_okq (⟨"SubtitleDesk$Edits", "divideText", "(LSubtitleDesk$Track;II)V"⟩, 4) := ⟨⟨by decide +kernel, by decide +kernel⟩, List.mem_of_getElem? (i := 140) (by decide +kernel), List.mem_of_getElem? (i := 803) (by decide +kernel), List.mem_of_getElem? (i := 804) (by decide +kernel)⟩
theorem lw_p8 : lw_okq (⟨"SubtitleDesk$Edits", "framesOfHead", "(LSubtitleDesk$Track;II)I"⟩, 4) := ⟨⟨by decide +kernel, by decide +kernel⟩, List.mem_of_getElem? (i := 140) (by decide +kernel), List.mem_of_getElem? (i := 808) (by decide +kernel), List.mem_of_getElem? (i := 809) (by decide +kernel)⟩
theorem lw_p9 : lw_okq (⟨"SubtitleDesk$Edits", "snapped", "(I)I"⟩, 4) := ⟨⟨by decide +kernel, by decide +kernel⟩, List.mem_of_getElem? (i := 140) (by decide +kernel), List.mem_of_getElem? (i := 861) (by decide +kernel), List.mem_of_getElem? (i := 862) (by decide +kernel)⟩
theorem lw_p10 : lw_okq (⟨"SubtitleDesk$Reader", "readItem", "(I)Z"⟩, 10) := ⟨⟨by decide +kernel, by decide +kernel⟩, List.mem_of_getElem? (i := 183) (by decide +kernel), List.mem_of_getElem? (i := 1080) (by decide +kernel), List.mem_of_getElem? (i := 1081) (by decide +kernel)⟩
theorem lw_p11 : lw_okq (⟨"SubtitleDesk$Reader", "takeSign", "(I)Z"⟩, 10) := ⟨⟨by decide +kernel, by decide +kernel⟩, List.mem_of_getElem? (i := 183) (by decide +kernel), List.mem_of_getElem? (i := 1084) (by decide +kernel), List.mem_of_getElem? (i := 1085) (by decide +kernel)⟩
theorem lw_p12 : lw_okq (⟨"SubtitleDesk$Reader", "readCut", "(II)Z"⟩, 10) := ⟨⟨by decide +kernel, by decide +kernel⟩, List.mem_of_getElem? (i := 183) (by decide +kernel), List.mem_of_getElem? (i := 1089) (by decide +kernel), List.mem_of_getElem? (i := 1090) (by decide +kernel)⟩
theorem lw_p13 : lw_okq (⟨"SubtitleDesk$Reader", "readNumber", "()I"⟩, 10) := ⟨⟨by decide +kernel, by decide +kernel⟩, List.mem_of_getElem? (i := 183) (by decide +kernel), List.mem_of_getElem? (i := 1093) (by decide +kernel), List.mem_of_getElem? (i := 1094) (by decide +kernel)⟩
theorem lw_p14 : lw_okq (⟨"SubtitleDesk$Reader", "readCaption", "(I)Z"⟩, 10) := ⟨⟨by decide +kernel, by decide +kernel⟩, List.mem_of_getElem? (i := 183) (by decide +kernel), List.mem_of_getElem? (i := 1103) (by decide +kernel), List.mem_of_getElem? (i := 1104) (by decide +kernel)⟩
theorem lw_p15 : lw_okq (⟨"SubtitleDesk$Reader", "takeOneOf", "(III)I"⟩, 10) := ⟨⟨by decide +kernel, by decide +kernel⟩, List.mem_of_getElem? (i := 183) (by decide +kernel), List.mem_of_getElem? (i := 1107) (by decide +kernel), List.mem_of_getElem? (i := 1108) (by decide +kernel)⟩
def lw_privs_1 : List (MethodName × Nat) := [(⟨"java/lang/Throwable", "fillInStackTrace", "(I)Ljava/lang/Throwable;"⟩, 6), (⟨"SubtitleDesk", "passOrRefuse", "(I)V"⟩, 12), (⟨"SubtitleDesk", "keepRefusal", "(II)V"⟩, 12), (⟨"SubtitleDesk$History", "rowAt", "(I)LSubtitleDesk$Film;"⟩, 3), (⟨"SubtitleDesk", "requireTrack", "(I)V"⟩, 12), (⟨"SubtitleDesk$Track", "copyRow", "(II)V"⟩, 6), (⟨"SubtitleDesk", "requireCaption", "(II)V"⟩, 12), (⟨"SubtitleDesk$Edits", "divideText", "(LSubtitleDesk$Track;II)V"⟩, 4), (⟨"SubtitleDesk$Edits", "framesOfHead", "(LSubtitleDesk$Track;II)I"⟩, 4), (⟨"SubtitleDesk$Edits", "snapped", "(I)I"⟩, 4), (⟨"SubtitleDesk$Reader", "readItem", "(I)Z"⟩, 10), (⟨"SubtitleDesk$Reader", "takeSign", "(I)Z"⟩, 10), (⟨"SubtitleDesk$Reader", "readCut", "(II)Z"⟩, 10), (⟨"SubtitleDesk$Reader", "readNumber", "()I"⟩, 10), (⟨"SubtitleDesk$Reader", "readCaption", "(I)Z"⟩, 10), (⟨"SubtitleDesk$Reader", "takeOneOf", "(III)I"⟩, 10)]
theorem lw_r1 : ∀ q ∈ lw_privs_1, lw_okq q := List.forall_mem_cons.mpr ⟨lw_p0, List.forall_mem_cons.mpr ⟨lw_p1, List.forall_mem_cons.mpr ⟨lw_p2, List.forall_mem_cons.mpr ⟨lw_p3, List.forall_mem_cons.mpr ⟨lw_p4, List.forall_mem_cons.mpr ⟨lw_p5, List.forall_mem_cons.mpr ⟨lw_p6, List.forall_mem_cons.mpr ⟨lw_p7, List.forall_mem_cons.mpr ⟨lw_p8, List.forall_mem_cons.mpr ⟨lw_p9, List.forall_mem_cons.mpr ⟨lw_p10, List.forall_mem_cons.mpr ⟨lw_p11, List.forall_mem_cons.mpr ⟨lw_p12, List.forall_mem_cons.mpr ⟨lw_p13, List.forall_mem_cons.mpr ⟨lw_p14, List.forall_mem_cons.mpr ⟨lw_p15, fun _ h => absurd h List.not_mem_nil⟩⟩⟩⟩⟩⟩⟩⟩⟩⟩⟩⟩⟩⟩⟩⟩
theorem lw_p16 : lw_okq (⟨"SubtitleDesk$Reader", "skipWords", "()V"⟩, 10) := ⟨⟨by decide +kernel, by decide +kernel⟩, List.mem_of_getElem? (i := 183) (by decide +kernel), List.mem_of_getElem? (i := 1111) (by decide +kernel), List.mem_of_getElem? (i := 1112) (by decide +kernel)⟩
theorem lw_p17 : lw_okq (⟨"SubtitleDesk", "carryOutItems", "()Z"⟩, 12) := ⟨⟨by decide +kernel, by decide +kernel⟩, List.mem_of_getElem? (i := 26) (by decide +kernel), List.mem_of_getElem? (i := 1116) (by decide +kernel), List.mem_of_getElem? (i := 1117) (by decide +kernel)⟩
theorem lw_p18 : lw_okq (⟨"SubtitleDesk", "carryOutItem", "(I)I"⟩, 12) := ⟨⟨by decide +kernel, by decide +kernel⟩, List.mem_of_getElem? (i := 26) (by decide +kernel), List.mem_of_getElem? (i := 1121) (by decide +kernel), List.mem_of_getElem? (i := 1122) (by decide +kernel)⟩
theorem lw_p19 : lw_okq (⟨"SubtitleDeskModel", "end", "(II)I"⟩, 17) := ⟨⟨by decide +kernel, by decide +kernel⟩, List.mem_of_getElem? (i := 1209) (by decide +kernel), List.mem_of_getElem? (i := 1293) (by decide +kernel), List.mem_of_getElem? (i := 1294) (by decide +kernel)⟩
theorem lw_p20 : lw_okq (⟨"SubtitleDeskModel", "refuses", "(II)I"⟩, 17) := ⟨⟨by decide +kernel, by decide +kernel⟩, List.mem_of_getElem? (i := 1209) (by decide +kernel), List.mem_of_getElem? (i := 1300) (by decide +kernel), List.mem_of_getElem? (i := 1301) (by decide +kernel)⟩
theorem lw_p21 : lw_okq (⟨"SubtitleDeskModel", "fails", "(I)I"⟩, 17) := ⟨⟨by decide +kernel, by decide +kernel⟩, List.mem_of_getElem? (i := 1209) (by decide +kernel), List.mem_of_getElem? (i := 1304) (by decide +kernel), List.mem_of_getElem? (i := 1305) (by decide +kernel)⟩
theorem lw_p22 : lw_okq (⟨"SubtitleDeskModel", "changes", "([I)V"⟩, 17) := ⟨⟨by decide +kernel, by decide +kernel⟩, List.mem_of_getElem? (i := 1209) (by decide +kernel), List.mem_of_getElem? (i := 1308) (by decide +kernel), List.mem_of_getElem? (i := 1309) (by decide +kernel)⟩
theorem lw_p23 : lw_okq (⟨"SubtitleDeskModel", "againstCut", "(IZ)I"⟩, 17) := ⟨⟨by decide +kernel, by decide +kernel⟩, List.mem_of_getElem? (i := 1209) (by decide +kernel), List.mem_of_getElem? (i := 1323) (by decide +kernel), List.mem_of_getElem? (i := 1324) (by decide +kernel)⟩
theorem lw_p24 : lw_okq (⟨"SubtitleDeskModel", "isCut", "(I)Z"⟩, 17) := ⟨⟨by decide +kernel, by decide +kernel⟩, List.mem_of_getElem? (i := 1209) (by decide +kernel), List.mem_of_getElem? (i := 1327) (by decide +kernel), List.mem_of_getElem? (i := 1328) (by decide +kernel)⟩
theorem lw_p25 : lw_okq (⟨"SubtitleDeskModel", "cuts", "(IZ)V"⟩, 17) := ⟨⟨by decide +kernel, by decide +kernel⟩, List.mem_of_getElem? (i := 1209) (by decide +kernel), List.mem_of_getElem? (i := 1331) (by decide +kernel), List.mem_of_getElem? (i := 1332) (by decide +kernel)⟩
theorem lw_p26 : lw_okq (⟨"SubtitleDeskModel", "againstAdd", "(IIIII)I"⟩, 17) := ⟨⟨by decide +kernel, by decide +kernel⟩, List.mem_of_getElem? (i := 1209) (by decide +kernel), List.mem_of_getElem? (i := 1350) (by decide +kernel), List.mem_of_getElem? (i := 1351) (by decide +kernel)⟩
theorem lw_p27 : lw_okq (⟨"SubtitleDeskModel", "againstPlace", "(IIII)I"⟩, 17) := ⟨⟨by decide +kernel, by decide +kernel⟩, List.mem_of_getElem? (i := 1209) (by decide +kernel), List.mem_of_getElem? (i := 1354) (by decide +kernel), List.mem_of_getElem? (i := 1355) (by decide +kernel)⟩
theorem lw_p28 : lw_okq (⟨"SubtitleDeskModel", "first", "(II)I"⟩, 17) := ⟨⟨by decide +kernel, by decide +kernel⟩, List.mem_of_getElem? (i := 1209) (by decide +kernel), List.mem_of_getElem? (i := 1358) (by decide +kernel), List.mem_of_getElem? (i := 1359) (by decide +kernel)⟩
theorem lw_p29 : lw_okq (⟨"SubtitleDeskModel", "adds", "(IIIIII)I"⟩, 17) := ⟨⟨by decide +kernel, by decide +kernel⟩, List.mem_of_getElem? (i := 1209) (by decide +kernel), List.mem_of_getElem? (i := 1368) (by decide +kernel), List.mem_of_getElem? (i := 1369) (by decide +kernel)⟩
theorem lw_p30 : lw_okq (⟨"SubtitleDeskModel", "puts", "(I)I"⟩, 17) := ⟨⟨by decide +kernel, by decide +kernel⟩, List.mem_of_getElem? (i := 1209) (by decide +kernel), List.mem_of_getElem? (i := 1372) (by decide +kernel), List.mem_of_getElem? (i := 1373) (by decide +kernel)⟩
theorem lw_p31 : lw_okq (⟨"SubtitleDeskModel", "isCaption", "(II)Z"⟩, 17) := ⟨⟨by decide +kernel, by decide +kernel⟩, List.mem_of_getElem? (i := 1209) (by decide +kernel), List.mem_of_getElem? (i := 1380) (by decide +kernel), List.mem_of_getElem? (i := 1381) (by decide +kernel)⟩
def lw_privs_2 : List (MethodName × Nat) := [(⟨"SubtitleDesk$Reader", "skipWords", "()V"⟩, 10), (⟨"SubtitleDesk", "carryOutItems", "()Z"⟩, 12), (⟨"SubtitleDesk", "carryOutItem", "(I)I"⟩, 12), (⟨"SubtitleDeskModel", "end", "(II)I"⟩, 17), (⟨"SubtitleDeskModel", "refuses", "(II)I"⟩, 17), (⟨"SubtitleDeskModel", "fails", "(I)I"⟩, 17), (⟨"SubtitleDeskModel", "changes", "([I)V"⟩, 17), (⟨"SubtitleDeskModel", "againstCut", "(IZ)I"⟩, 17), (⟨"SubtitleDeskModel", "isCut", "(I)Z"⟩, 17), (⟨"SubtitleDeskModel", "cuts", "(IZ)V"⟩, 17), (⟨"SubtitleDeskModel", "againstAdd", "(IIIII)I"⟩, 17), (⟨"SubtitleDeskModel", "againstPlace", "(IIII)I"⟩, 17), (⟨"SubtitleDeskModel", "first", "(II)I"⟩, 17), (⟨"SubtitleDeskModel", "adds", "(IIIIII)I"⟩, 17), (⟨"SubtitleDeskModel", "puts", "(I)I"⟩, 17), (⟨"SubtitleDeskModel", "isCaption", "(II)Z"⟩, 17)]
theorem lw_r2 : ∀ q ∈ lw_privs_2, lw_okq q := List.forall_mem_cons.mpr ⟨lw_p16, List.forall_mem_cons.mpr ⟨lw_p17, List.forall_mem_cons.mpr ⟨lw_p18, List.forall_mem_cons.mpr ⟨lw_p19, List.forall_mem_cons.mpr ⟨lw_p20, List.forall_mem_cons.mpr ⟨lw_p21, List.forall_mem_cons.mpr ⟨lw_p22, List.forall_mem_cons.mpr ⟨lw_p23, List.forall_mem_cons.mpr ⟨lw_p24, List.forall_mem_cons.mpr ⟨lw_p25, List.forall_mem_cons.mpr ⟨lw_p26, List.forall_mem_cons.mpr ⟨lw_p27, List.forall_mem_cons.mpr ⟨lw_p28, List.forall_mem_cons.mpr ⟨lw_p29, List.forall_mem_cons.mpr ⟨lw_p30, List.forall_mem_cons.mpr ⟨lw_p31, fun _ h => absurd h List.not_mem_nil⟩⟩⟩⟩⟩⟩⟩⟩⟩⟩⟩⟩⟩⟩⟩⟩
theorem lw_p32 : lw_okq (⟨"SubtitleDeskModel", "takes", "(II)V"⟩, 17) := ⟨⟨by decide +kernel, by decide +kernel⟩, List.mem_of_getElem? (i := 1209) (by decide +kernel), List.mem_of_getElem? (i := 1384) (by decide +kernel), List.mem_of_getElem? (i := 1385) (by decide +kernel)⟩
theorem lw_p33 : lw_okq (⟨"SubtitleDeskModel", "moves", "(IIII)I"⟩, 17) := ⟨⟨by decide +kernel, by decide +kernel⟩, List.mem_of_getElem? (i := 1209) (by decide +kernel), List.mem_of_getElem? (i := 1392) (by decide +kernel), List.mem_of_getElem? (i := 1393) (by decide +kernel)⟩
theorem lw_p34 : lw_okq (⟨"SubtitleDeskModel", "owns", "(II)V"⟩, 17) := ⟨⟨by decide +kernel, by decide +kernel⟩, List.mem_of_getElem? (i := 1209) (by decide +kernel), List.mem_of_getElem? (i := 1396) (by decide +kernel), List.mem_of_getElem? (i := 1397) (by decide +kernel)⟩
theorem lw_p35 : lw_okq (⟨"SubtitleDeskModel", "againstMerge", "(II)I"⟩, 17) := ⟨⟨by decide +kernel, by decide +kernel⟩, List.mem_of_getElem? (i := 1209) (by decide +kernel), List.mem_of_getElem? (i := 1411) (by decide +kernel), List.mem_of_getElem? (i := 1412) (by decide +kernel)⟩
theorem lw_p36 : lw_okq (⟨"SubtitleDeskModel", "before", "(II)I"⟩, 17) := ⟨⟨by decide +kernel, by decide +kernel⟩, List.mem_of_getElem? (i := 1209) (by decide +kernel), List.mem_of_getElem? (i := 1415) (by decide +kernel), List.mem_of_getElem? (i := 1416) (by decide +kernel)⟩
theorem lw_p37 : lw_okq (⟨"SubtitleDeskModel", "load", "(II)I"⟩, 17) := ⟨⟨by decide +kernel, by decide +kernel⟩, List.mem_of_getElem? (i := 1209) (by decide +kernel), List.mem_of_getElem? (i := 1419) (by decide +kernel), List.mem_of_getElem? (i := 1420) (by decide +kernel)⟩
theorem lw_p38 : lw_okq (⟨"SubtitleDeskModel", "isLoose", "(I)Z"⟩, 17) := ⟨⟨by decide +kernel, by decide +kernel⟩, List.mem_of_getElem? (i := 1209) (by decide +kernel), List.mem_of_getElem? (i := 1427) (by decide +kernel), List.mem_of_getElem? (i := 1428) (by decide +kernel)⟩
theorem lw_p39 : lw_okq (⟨"SubtitleDeskModel", "nearest", "(I)I"⟩, 17) := ⟨⟨by decide +kernel, by decide +kernel⟩, List.mem_of_getElem? (i := 1209) (by decide +kernel), List.mem_of_getElem? (i := 1431) (by decide +kernel), List.mem_of_getElem? (i := 1432) (by decide +kernel)⟩
theorem lw_p40 : lw_okq (⟨"SubtitleDeskModel", "needs", "(II)I"⟩, 17) := ⟨⟨by decide +kernel, by decide +kernel⟩, List.mem_of_getElem? (i := 1209) (by decide +kernel), List.mem_of_getElem? (i := 1442) (by decide +kernel), List.mem_of_getElem? (i := 1443) (by decide +kernel)⟩
theorem lw_p41 : lw_okq (⟨"SubtitleDeskModel", "both", "()I"⟩, 17) := ⟨⟨by decide +kernel, by decide +kernel⟩, List.mem_of_getElem? (i := 1209) (by decide +kernel), List.mem_of_getElem? (i := 1463) (by decide +kernel), List.mem_of_getElem? (i := 1464) (by decide +kernel)⟩
theorem lw_p42 : lw_okq (⟨"SubtitleDeskModel", "shared", "(III)I"⟩, 17) := ⟨⟨by decide +kernel, by decide +kernel⟩, List.mem_of_getElem? (i := 1209) (by decide +kernel), List.mem_of_getElem? (i := 1467) (by decide +kernel), List.mem_of_getElem? (i := 1468) (by decide +kernel)⟩
theorem lw_p43 : lw_okq (⟨"SubtitleDeskModel", "with", "(II)I"⟩, 17) := ⟨⟨by decide +kernel, by decide +kernel⟩, List.mem_of_getElem? (i := 1209) (by decide +kernel), List.mem_of_getElem? (i := 1471) (by decide +kernel), List.mem_of_getElem? (i := 1472) (by decide +kernel)⟩
theorem lw_p44 : lw_okq (⟨"SubtitleDeskModel", "problems", "(II)I"⟩, 17) := ⟨⟨by decide +kernel, by decide +kernel⟩, List.mem_of_getElem? (i := 1209) (by decide +kernel), List.mem_of_getElem? (i := 1475) (by decide +kernel), List.mem_of_getElem? (i := 1476) (by decide +kernel)⟩
theorem lw_p45 : lw_okq (⟨"SubtitleDeskModel", "longest", "(II)I"⟩, 17) := ⟨⟨by decide +kernel, by decide +kernel⟩, List.mem_of_getElem? (i := 1209) (by decide +kernel), List.mem_of_getElem? (i := 1479) (by decide +kernel), List.mem_of_getElem? (i := 1480) (by decide +kernel)⟩
theorem lw_p46 : lw_okq (⟨"SubtitleDeskModel", "isInStep", "(II)Z"⟩, 17) := ⟨⟨by decide +kernel, by decide +kernel⟩, List.mem_of_getElem? (i := 1209) (by decide +kernel), List.mem_of_getElem? (i := 1483) (by decide +kernel), List.mem_of_getElem? (i := 1484) (by decide +kernel)⟩
theorem lw_p47 : lw_okq (⟨"SubtitleDeskModel", "partner", "(II)I"⟩, 17) := ⟨⟨by decide +kernel, by decide +kernel⟩, List.mem_of_getElem? (i := 1209) (by decide +kernel), List.mem_of_getElem? (i := 1487) (by decide +kernel), List.mem_of_getElem? (i := 1488) (by decide +kernel)⟩
def lw_privs_3 : List (MethodName × Nat) := [(⟨"SubtitleDeskModel", "takes", "(II)V"⟩, 17), (⟨"SubtitleDeskModel", "moves", "(IIII)I"⟩, 17), (⟨"SubtitleDeskModel", "owns", "(II)V"⟩, 17), (⟨"SubtitleDeskModel", "againstMerge", "(II)I"⟩, 17), (⟨"SubtitleDeskModel", "before", "(II)I"⟩, 17), (⟨"SubtitleDeskModel", "load", "(II)I"⟩, 17), (⟨"SubtitleDeskModel", "isLoose", "(I)Z"⟩, 17), (⟨"SubtitleDeskModel", "nearest", "(I)I"⟩, 17), (⟨"SubtitleDeskModel", "needs", "(II)I"⟩, 17), (⟨"SubtitleDeskModel", "both", "()I"⟩, 17), (⟨"SubtitleDeskModel", "shared", "(III)I"⟩, 17), (⟨"SubtitleDeskModel", "with", "(II)I"⟩, 17), (⟨"SubtitleDeskModel", "problems", "(II)I"⟩, 17), (⟨"SubtitleDeskModel", "longest", "(II)I"⟩, 17), (⟨"SubtitleDeskModel", "isInStep", "(II)Z"⟩, 17), (⟨"SubtitleDeskModel", "partner", "(II)I"⟩, 17)]
theorem lw_r3 : ∀ q ∈ lw_privs_3, lw_okq q := List.forall_mem_cons.mpr ⟨lw_p32, List.forall_mem_cons.mpr ⟨lw_p33, List.forall_mem_cons.mpr ⟨lw_p34, List.forall_mem_cons.mpr ⟨lw_p35, List.forall_mem_cons.mpr ⟨lw_p36, List.forall_mem_cons.mpr ⟨lw_p37, List.forall_mem_cons.mpr ⟨lw_p38, List.forall_mem_cons.mpr ⟨lw_p39, List.forall_mem_cons.mpr ⟨lw_p40, List.forall_mem_cons.mpr ⟨lw_p41, List.forall_mem_cons.mpr ⟨lw_p42, List.forall_mem_cons.mpr ⟨lw_p43, List.forall_mem_cons.mpr ⟨lw_p44, List.forall_mem_cons.mpr ⟨lw_p45, List.forall_mem_cons.mpr ⟨lw_p46, List.forall_mem_cons.mpr ⟨lw_p47, fun _ h => absurd h List.not_mem_nil⟩⟩⟩⟩⟩⟩⟩⟩⟩⟩⟩⟩⟩⟩⟩⟩
theorem lw_p48 : lw_okq (⟨"SubtitleDeskModel", "cutsWithin", "(II)I"⟩, 17) := ⟨⟨by decide +kernel, by decide +kernel⟩, List.mem_of_getElem? (i := 1209) (by decide +kernel), List.mem_of_getElem? (i := 1495) (by decide +kernel), List.mem_of_getElem? (i := 1496) (by decide +kernel)⟩
theorem lw_p49 : lw_okq (⟨"SubtitleDeskModel", "frames", "(I)I"⟩, 17) := ⟨⟨by decide +kernel, by decide +kernel⟩, List.mem_of_getElem? (i := 1209) (by decide +kernel), List.mem_of_getElem? (i := 1511) (by decide +kernel), List.mem_of_getElem? (i := 1512) (by decide +kernel)⟩
theorem lw_p50 : lw_okq (⟨"SubtitleDeskModel", "loads", "(I)I"⟩, 17) := ⟨⟨by decide +kernel, by decide +kernel⟩, List.mem_of_getElem? (i := 1209) (by decide +kernel), List.mem_of_getElem? (i := 1515) (by decide +kernel), List.mem_of_getElem? (i := 1516) (by decide +kernel)⟩
theorem lw_p51 : lw_okq (⟨"SubtitleDeskModel", "overCuts", "(I)I"⟩, 17) := ⟨⟨by decide +kernel, by decide +kernel⟩, List.mem_of_getElem? (i := 1209) (by decide +kernel), List.mem_of_getElem? (i := 1519) (by decide +kernel), List.mem_of_getElem? (i := 1520) (by decide +kernel)⟩
theorem lw_p52 : lw_okq (⟨"SubtitleDeskModel", "merging", "(I)I"⟩, 17) := ⟨⟨by decide +kernel, by decide +kernel⟩, List.mem_of_getElem? (i := 1209) (by decide +kernel), List.mem_of_getElem? (i := 1523) (by decide +kernel), List.mem_of_getElem? (i := 1524) (by decide +kernel)⟩
theorem lw_p53 : lw_okq (⟨"SubtitleDeskModel", "isItems", "()Z"⟩, 17) := ⟨⟨by decide +kernel, by decide +kernel⟩, List.mem_of_getElem? (i := 1209) (by decide +kernel), List.mem_of_getElem? (i := 1540) (by decide +kernel), List.mem_of_getElem? (i := 1541) (by decide +kernel)⟩
theorem lw_p54 : lw_okq (⟨"SubtitleDeskModel", "item", "()Z"⟩, 17) := ⟨⟨by decide +kernel, by decide +kernel⟩, List.mem_of_getElem? (i := 1209) (by decide +kernel), List.mem_of_getElem? (i := 1544) (by decide +kernel), List.mem_of_getElem? (i := 1545) (by decide +kernel)⟩
theorem lw_p55 : lw_okq (⟨"SubtitleDeskModel", "here", "()I"⟩, 17) := ⟨⟨by decide +kernel, by decide +kernel⟩, List.mem_of_getElem? (i := 1209) (by decide +kernel), List.mem_of_getElem? (i := 1548) (by decide +kernel), List.mem_of_getElem? (i := 1549) (by decide +kernel)⟩
theorem lw_p56 : lw_okq (⟨"SubtitleDeskModel", "digits", "(I)Z"⟩, 17) := ⟨⟨by decide +kernel, by decide +kernel⟩, List.mem_of_getElem? (i := 1209) (by decide +kernel), List.mem_of_getElem? (i := 1552) (by decide +kernel), List.mem_of_getElem? (i := 1553) (by decide +kernel)⟩
theorem lw_p57 : lw_okq (⟨"SubtitleDeskModel", "skips", "(I)Z"⟩, 17) := ⟨⟨by decide +kernel, by decide +kernel⟩, List.mem_of_getElem? (i := 1209) (by decide +kernel), List.mem_of_getElem? (i := 1556) (by decide +kernel), List.mem_of_getElem? (i := 1557) (by decide +kernel)⟩
theorem lw_p58 : lw_okq (⟨"SubtitleDeskModel", "words", "(I)Z"⟩, 17) := ⟨⟨by decide +kernel, by decide +kernel⟩, List.mem_of_getElem? (i := 1209) (by decide +kernel), List.mem_of_getElem? (i := 1560) (by decide +kernel), List.mem_of_getElem? (i := 1561) (by decide +kernel)⟩
theorem lw_p59 : lw_okq (⟨"SubtitleDeskModel", "does", "(I)I"⟩, 17) := ⟨⟨by decide +kernel, by decide +kernel⟩, List.mem_of_getElem? (i := 1209) (by decide +kernel), List.mem_of_getElem? (i := 1564) (by decide +kernel), List.mem_of_getElem? (i := 1565) (by decide +kernel)⟩
def lw_privs_4 : List (MethodName × Nat) := [(⟨"SubtitleDeskModel", "cutsWithin", "(II)I"⟩, 17), (⟨"SubtitleDeskModel", "frames", "(I)I"⟩, 17), (⟨"SubtitleDeskModel", "loads", "(I)I"⟩, 17), (⟨"SubtitleDeskModel", "overCuts", "(I)I"⟩, 17), (⟨"SubtitleDeskModel", "merging", "(I)I"⟩, 17), (⟨"SubtitleDeskModel", "isItems", "()Z"⟩, 17), (⟨"SubtitleDeskModel", "item", "()Z"⟩, 17), (⟨"SubtitleDeskModel", "here", "()I"⟩, 17), (⟨"SubtitleDeskModel", "digits", "(I)Z"⟩, 17), (⟨"SubtitleDeskModel", "skips", "(I)Z"⟩, 17), (⟨"SubtitleDeskModel", "words", "(I)Z"⟩, 17), (⟨"SubtitleDeskModel", "does", "(I)I"⟩, 17)]
theorem lw_r4 : ∀ q ∈ lw_privs_4, lw_okq q := List.forall_mem_cons.mpr ⟨lw_p48, List.forall_mem_cons.mpr ⟨lw_p49, List.forall_mem_cons.mpr ⟨lw_p50, List.forall_mem_cons.mpr ⟨lw_p51, List.forall_mem_cons.mpr ⟨lw_p52, List.forall_mem_cons.mpr ⟨lw_p53, List.forall_mem_cons.mpr ⟨lw_p54, List.forall_mem_cons.mpr ⟨lw_p55, List.forall_mem_cons.mpr ⟨lw_p56, List.forall_mem_cons.mpr ⟨lw_p57, List.forall_mem_cons.mpr ⟨lw_p58, List.forall_mem_cons.mpr ⟨lw_p59, fun _ h => absurd h List.not_mem_nil⟩⟩⟩⟩⟩⟩⟩⟩⟩⟩⟩⟩
def lw_privs : List (MethodName × Nat) := lw_privs_1 ++ (lw_privs_2 ++ (lw_privs_3 ++ (lw_privs_4)))
def lw_tbl : List Cond := k2_sels lw_privs ++ tables_1
theorem lw_privs_ok : ∀ q ∈ lw_privs, lw_okq q := by
  show ∀ q ∈ lw_privs_1 ++ (lw_privs_2 ++ (lw_privs_3 ++ (lw_privs_4))), lw_okq q
  exact List.forall_mem_append.mpr ⟨lw_r1, List.forall_mem_append.mpr ⟨lw_r2, List.forall_mem_append.mpr ⟨lw_r3, lw_r4⟩⟩⟩
/-- the streams that the claim lets the run draw from -/
abbrev lw_cs : List Choice := [Jvm.Choice.named "NaN.bits"]
theorem lw_bits : nanBits ∈ lw_cs := by first | decide | exact List.mem_cons_self | simp [lw_cs, nanBits]
-- ===== end of PART A; then your names; then what follows =====
end
section
/-! ===== BEGIN words of one list among another's, by their places ===== -/
theorem goodIn_r {big : List Cond} (ws : List Cond) (ps : List Nat) (hp : ws = ps.filterMap (fun i => big[i]?)) (h : ws.all goodWord = true) : GoodIn big ws := by
  intro w hw
  have h1 := List.all_eq_true.mp h w hw
  rw [hp] at hw
  obtain ⟨i, -, hi⟩ := List.mem_filterMap.mp hw
  have hm : w ∈ big := by first | exact List.mem_of_getElem? hi | exact List.getElem?_mem hi
  exact ⟨hm, good_of_word h1⟩
theorem goodIn_app {big a b : List Cond} (ha : GoodIn big a) (hb : GoodIn big b) : GoodIn big (a ++ b) := fun w h => (List.mem_append.mp h).elim (ha w) (hb w)
theorem goodIn_ca {big a b : List Cond} {c : Cond} (ha : GoodIn big (c :: a)) (hb : GoodIn big b) : GoodIn big (c :: (a ++ b)) := fun w h => (List.mem_cons.mp h).elim (fun e => ha w (List.mem_cons.mpr (Or.inl e))) (fun h => (List.mem_append.mp h).elim (fun h => ha w (List.mem_cons.mpr (Or.inr h))) (hb w))
theorem goodIn_sub {big ws : List Cond} (hm : ∀ w ∈ ws, w ∈ big) (h : ws.all goodWord = true) : GoodIn big ws := fun w hw => ⟨hm w hw, good_of_word (List.all_eq_true.mp h w hw)⟩
/-! ===== END ===== -/

/-! ===== BEGIN exceptions that leave a method, and their catching by the caller (launches without stack traces) ===== -/
section VXA
/-! The laws vx_back, vx_callV, vx_callS, vx_callSW, vx_throw0, vx_throwS follow proofs of the library, with one case more: JvmDerived/Free/Laws.lean (Back.of_free), Shelf42/LK1.lean (callV, callS), Shelf/KitTraced.lean (throwNew0V, throwNewS). -/
/-- where a method has thrown q: the class by its name, the cell, what was written, the world -/
def vx_T (XC : String → State → State → Prop) (st : State) (q : Addr) (t : State) (mc ms : Nat) (free : Addr → Prop) : Prop :=
  ∃ (E : String) (ce : Cell) (L : List Loc), XC E st t ∧ t.heap[q]? = some ce ∧ ce.vm = .none ∧ st.vm.findClass E = some ce.cls ∧ st.WarmedH t.vm ∧ st.sameButNew ({ t with vm := st.vm } : State) L mc ms ∧ ∀ z ∈ L, free z.base
def vx_Q (Qc : Array Value → State → Outcome → State → Prop) (XC : String → State → State → Prop) (mc ms : Nat) (free : Addr → Prop) : Array Value → State → Outcome → State → Prop := fun a st o t =>
  (Qc a st o t ∧ ∃ L, FrameEnd st o t L mc ms ∧ ∀ q ∈ L, free q.base) ∨ ∃ q, o = .threw q ∧ vx_T XC st q t mc ms free
/-- a callee that returns or throws -/
def vx_Met (l : Launch) (y : MethodName) (ws : List Cond) (rm : Room) (Pc : Array Value → State → Prop) (Qc : Array Value → State → Outcome → State → Prop) (XC : String → State → State → Prop) (mc ms : Nat) (free : Addr → Prop) : Prop :=
  MetFree l y (headSpec ws rm) Pc (fun _ _ _ _ _ => True) (vx_Q Qc XC mc ms free)
def vx_Post (XC : String → State → State → Prop) (mc ms : Nat) (free : Addr → Prop) : Pt → Array Value → Addr → Pt → Prop := fun A a q B =>
  ∃ (g : JFrame) (mk : MethodId) (t : State) (L : List Loc) (E : String) (ce : Cell), B.U.heap = t.heap ∧ B.U.vm = t.vm ∧ XC E (A.U.calling g mk a) t ∧ t.heap[q]? = some ce ∧ ce.vm = .none ∧ A.U.vm.findClass E = some ce.cls ∧ B.locs = A.locs ++ L ∧ (∀ z ∈ L, free z.base) ∧ B.cells = A.cells + mc ∧ B.slots = A.slots + ms
def vx_Back (l : Launch) (R : Room) (p : Program) (e : Env) (below : List Frame) (s : State) (sargs : Array Value) (y : MethodName) (len W9 : Nat)
    (Pre : Pt → Array Value → Prop) (Post : Pt → Array Value → Option Value → Pt → Prop) (PostX : Pt → Array Value → Addr → Pt → Prop) : Prop :=
  ∀ (m : MethodId) (meth : Method) (c : Code) (A : Pt) (g : JFrame) (ig : Instr) (mk : MethodId) (a : Array Value),
    Stand p l e R s m sargs below meth c A.U A.locs A.cells A.slots → g.method = m → g.locals.size = c.maxLocals → decode c.code g.pc = .ok (ig, len) →
    2 * g.monitorRoom + (g.stack.map fun v => v.category).sum ≤ W9 → A.U.methodNamed? y = some mk → Pre A a →
    (∃ (v : Option Value) (B : Pt), Stand p l e R s m sargs below meth c B.U B.locs B.cells B.slots ∧ Post A a v B ∧
      Steps p.tables e below (doInvoke e (A.U.setTop g) [] mk a).1 (B.U.setTop { g with pc := g.pc + len, stack := v.toList ++ g.stack })) ∨
    (∃ (q : Addr) (B : Pt), Stand p l e R s m sargs below meth c B.U B.locs B.cells B.slots ∧ PostX A a q B ∧
      Steps p.tables e below (doInvoke e (A.U.setTop g) [] mk a).1 ((B.U.setTop g).pushFrame (.throwing q)))
section Payer
variable {l : Launch} {R : Room} {p : Program} {e : Env} {below : List Frame} {s : State} {sargs : Array Value} {y : MethodName} {len W9 : Nat}
theorem vx_back {ws : List Cond} {rm : Room} {Pc : Array Value → State → Prop} {Qc : Array Value → State → Outcome → State → Prop} {XC : String → State → State → Prop} {mc ms : Nat} {free : Addr → Prop} {bytes : ByteArray} {maxL : Nat} {ret : Option FieldType}
    (hM : vx_Met l y ws rm Pc Qc XC mc ms free) (hblind : FrameBlind Pc) (hrc : rm.cells = mc) (hrs : rm.slots = ms)
    (hframes : rm.frames + 1 ≤ R.frames) (hlocals : W9 + (maxL + 11) + rm.locals ≤ R.locals)
    (hws : ∀ w ∈ ws, ∀ a' U, s.WarmedH U.vm → w.before a' U = true) (hcode : Cond.code y bytes maxL ret ∈ ws) (hinit : ∀ a' U, s.WarmedH U.vm → (Cond.initialized y.cls).before a' U = true) :
    vx_Back l R p e below s sargs y len W9 (PreOf R mc ms Pc) (PostOf Qc mc ms free) (vx_Post XC mc ms free) := by
  intro m meth c A g ig mk a X hg hsize hdg hW hn hp
  have h1 : (headSpec ws rm).pre.before a A.U = true := atoms_intro fun w hw => hws w hw _ _ X.warmed
  have h2 : (Cond.code y bytes maxL ret).before a A.U = true := hws _ hcode _ _ X.warmed
  have h3 : (Cond.initialized y.cls).before a A.U = true := hinit _ _ X.warmed
  have h4 : A.cells + (headSpec ws rm).room.cells ≤ R.cells := by rw [show (headSpec ws rm).room.cells = mc from hrc]; exact hp.1
  have h5 : A.slots + (headSpec ws rm).room.slots ≤ R.slots := by rw [show (headSpec ws rm).room.slots = ms from hrs]; exact hp.2.1
  have hPc : Pc a (A.U.calling g mk a) := hblind _ _ _ _ hp.2.2
  obtain ⟨U, Ls, c0, s0⟩ := A
  dsimp only [Pt.U, Pt.locs, Pt.cells, Pt.slots] at h1 h2 h3 h4 h5 X hn hPc ⊢
  obtain ⟨methY, cY, hmY, hcY, -, hlY, -, -, -, -⟩ := Cond.code_spec hn h2
  obtain ⟨kY, hkY, -⟩ := className_of_methodNamed hn
  have hinitY : kY.init = .initialized := Cond.initialized_spec (findClass_of_methodNamed hn) hkY h3
  have h : At U g.method c below := by rw [hg]; exact X.here
  have hlocals9 : W9 + (maxL + 11) + (headSpec ws rm).room.locals ≤ R.locals := hlocals
  have happ : (headSpec ws rm).appliesLoose y e.platform (U.calling g mk a) = true :=
    Spec.appliesLoose_calling (g := g) h hdg hn hkY hinitY
      (X.room_calling (g := g) (R' := (headSpec ws rm).room) hsize hmY hcY hframes (by rw [hlY]; omega) h4 h5) h1
  obtain ⟨mid, hmid⟩ := h.above
  have hfr : (U.setTop g).frames = (.java g :: mid) ++ below := by rw [State.frames_setTop' g h.top, hmid]; rfl
  obtain ⟨o, s₂, hsteps, -, hend, hq⟩ := Steps.callFree hM p X.admits X.cas X.clock (acts := []) hfr happ hPc trivial
  have hq' : vx_Q Qc XC mc ms free a (U.calling g mk a) o s₂ := hq
  rw [State.frames_setTop' g h.top] at hend
  obtain ⟨g₀, hg0⟩ := Option.isSome_iff_exists.mp h.top
  obtain ⟨r, hr⟩ := State.topJava?_eq_some.mp hg0
  have hr' : (({ U with heap := s₂.heap, slotsUsed := s₂.slotsUsed } : State).setVm s₂.vm).frames = .java g₀ :: r := hr
  rcases hq' with ⟨hqc, L, hfe, hL⟩ | ⟨q, rfl, E, ce, L, hx, hce, hcv, hcl, hW₂, hsm, hL⟩
  · obtain ⟨⟨v, rfl⟩, hW₂, e2, q2, q3, q4, q5, q6⟩ := id hfe
    have e3 : s₂ = ({ (U.calling g mk a).setFrames s₂.frames with heap := s₂.heap, slotsUsed := s₂.slotsUsed } : State).setVm s₂.vm := by
      have : s₂ = ({ s₂ with vm := (U.calling g mk a).vm } : State).setVm s₂.vm := rfl
      rw [e2] at this
      exact this
    obtain ⟨c₂, i₂, len₂, hc₂, hd₂, hf₂⟩ := hend
    have hW' : U.WarmedH s₂.vm := hW₂
    have hcc : c₂ = c := by
      have h1 : s₂.code? g.method = U.code? g.method := by
        rw [State.code?_eq, State.code?_eq, hW'.alike.method?]
      exact Option.some.inj (hc₂.symm.trans (h1.trans h.code))
    subst hcc
    have hlen : len₂ = len := by rw [hdg] at hd₂; cases hd₂; rfl
    subst hlen
    have hs₂ : s₂ = (({ U with heap := s₂.heap, slotsUsed := s₂.slotsUsed } : State).setVm s₂.vm).setTop { g with pc := g.pc + len₂, stack := v.toList ++ g.stack } := by
      refine e3.trans ?_
      rw [hf₂, State.calling_eq h.top, State.setFrames_setFrames, State.setTop_of_frames _ hr', hr]
      rfl
    have hsame : U.sameButNew ({ U with heap := s₂.heap, slotsUsed := s₂.slotsUsed } : State) L mc ms := by
      refine ⟨?_, q2, q3, q4, q5, q6⟩
      obtain ⟨t, ht, -⟩ := State.frames_cons hr
      show ({ U with heap := s₂.heap, slotsUsed := s₂.slotsUsed } : State) = { U.setFrames U.frames with heap := s₂.heap, slotsUsed := s₂.slotsUsed }
      rw [State.setFrames_self ht]
    subst hg
    refine Or.inl ⟨v, ⟨(({ U with heap := s₂.heap, slotsUsed := s₂.slotsUsed } : State).setVm s₂.vm), Ls ++ L, c0 + mc, s0 + ms⟩,
      ⟨X.admits, X.cas, X.clock, X.frames, X.room, X.hears, X.method, X.code, (X.here.setHeapUsed s₂.heap s₂.slotsUsed).setVm hW'.alike, X.tail, State.WarmedH.trans X.warmed hW', X.limits, X.bytes, X.same.trans (hsame.setVm s.vm)⟩,
      ⟨g, mk, s₂, L, rfl, rfl, hqc, rfl, hL, rfl, rfl⟩, ?_⟩
    show Steps p.tables e below _ ((({ U with heap := s₂.heap, slotsUsed := s₂.slotsUsed } : State).setVm s₂.vm).setTop { g with pc := g.pc + len₂, stack := v.toList ++ g.stack })
    rw [← hs₂]
    exact hsteps
  · obtain ⟨e2, q2, q3, q4, q5, q6⟩ := id hsm
    have e3 : s₂ = ({ (U.calling g mk a).setFrames s₂.frames with heap := s₂.heap, slotsUsed := s₂.slotsUsed } : State).setVm s₂.vm := by
      have : s₂ = ({ s₂ with vm := (U.calling g mk a).vm } : State).setVm s₂.vm := rfl
      rw [e2] at this
      exact this
    have hf₂ : s₂.frames = .throwing q :: .java g :: U.frames.tail := hend
    have hW' : U.WarmedH s₂.vm := hW₂
    have hs₂ : s₂ = ((({ U with heap := s₂.heap, slotsUsed := s₂.slotsUsed } : State).setVm s₂.vm).setTop g).pushFrame (.throwing q) := by
      refine e3.trans ?_
      rw [hf₂, State.calling_eq h.top, State.setFrames_setFrames, State.pushFrame, State.frames_setTop _ hr', State.setTop_of_frames _ hr', State.setFrames_setFrames, hr]
      rfl
    have hsame : U.sameButNew ({ U with heap := s₂.heap, slotsUsed := s₂.slotsUsed } : State) L mc ms := by
      refine ⟨?_, q2, q3, q4, q5, q6⟩
      obtain ⟨t, ht, -⟩ := State.frames_cons hr
      show ({ U with heap := s₂.heap, slotsUsed := s₂.slotsUsed } : State) = { U.setFrames U.frames with heap := s₂.heap, slotsUsed := s₂.slotsUsed }
      rw [State.setFrames_self ht]
    subst hg
    refine Or.inr ⟨q, ⟨(({ U with heap := s₂.heap, slotsUsed := s₂.slotsUsed } : State).setVm s₂.vm), Ls ++ L, c0 + mc, s0 + ms⟩,
      ⟨X.admits, X.cas, X.clock, X.frames, X.room, X.hears, X.method, X.code, (X.here.setHeapUsed s₂.heap s₂.slotsUsed).setVm hW'.alike, X.tail, State.WarmedH.trans X.warmed hW', X.limits, X.bytes, X.same.trans (hsame.setVm s.vm)⟩,
      ⟨g, mk, s₂, L, E, ce, rfl, rfl, hx, hce, hcv, hcl, rfl, hL, rfl, rfl⟩, ?_⟩
    show Steps p.tables e below _ (((({ U with heap := s₂.heap, slotsUsed := s₂.slotsUsed } : State).setVm s₂.vm).setTop g).pushFrame (.throwing q))
    rw [← hs₂]
    exact hsteps
end Payer
section Calls
variable {p : Program} {l : Launch} {e : Env} {R : Room} {s : State} {m : MethodId} {args : Array Value} {below : List Frame} {meth : Method} {c : Code} {T : State} {locs : List Loc} {cells slots : Nat}
theorem vx_callV (X : Stand p l e R s m args below meth c T locs cells slots) (hexec : p.tables.exec = Jvm.exec) {own C : String} {index : Nat} {y : MethodName} {bytes : ByteArray} {maxL : Nat} {ret : Option FieldType}
    (hown : s.vm.findClass own = some m.cls) (hlink : (Cond.methodLink own index y).before args s = true) (hinst : (Cond.instanceMethod y).before args s = true) (hsel : (Cond.selects C y y).before args s = true)
    (hcode : (Cond.code y bytes maxL ret).before args s = true) (hy : y.cls ≠ "java/lang/invoke/MethodHandle" ∧ y.cls ≠ "java/lang/invoke/VarHandle")
    {W9 : Nat} {Pre : Pt → Array Value → Prop} {Post : Pt → Array Value → Option Value → Pt → Prop} {PostX : Pt → Array Value → Addr → Pt → Prop} (hK : vx_Back l R p e below s args y 3 W9 Pre Post PostX)
    {b : Addr} {cellB : Cell} (hcell : T.heap[b]? = some cellB) (hobj : cellB.vm.isStatics = false) (hcls : s.vm.findClass C = some cellB.cls)
    {g : JFrame} (hg : g.method = m) (hsize : g.locals.size = c.maxLocals) {argsL rest : List Value} (hlen : ∀ sig, parseMethodDescriptor y.desc = some sig → argsL.length = sig.parameters.length)
    (hstack : g.stack = argsL.reverse ++ .ref b :: rest) (hW : 2 * g.monitorRoom + (rest.map fun v => v.category).sum ≤ W9) (hdg : decode c.code g.pc = .ok (.invokevirtual index, 3))
    (hpre : ∀ vm₁, s.WarmedH vm₁ → Pre ⟨T.setVm vm₁, locs, cells, slots⟩ (Value.ref b :: argsL).toArray) :
    (∃ (v : Option Value) (vm₁ : Vm) (B : Pt), s.WarmedH vm₁ ∧ Stand p l e R s m args below meth c B.U B.locs B.cells B.slots ∧ Post ⟨T.setVm vm₁, locs, cells, slots⟩ (Value.ref b :: argsL).toArray v B ∧
      ∀ target, Steps p.tables e below (B.U.setTop { g with pc := g.pc + 3, stack := v.toList ++ rest }) target → Steps p.tables e below (T.setTop g) target) ∨
    (∃ (q : Addr) (vm₁ : Vm) (B : Pt), s.WarmedH vm₁ ∧ Stand p l e R s m args below meth c B.U B.locs B.cells B.slots ∧ PostX ⟨T.setVm vm₁, locs, cells, slots⟩ (Value.ref b :: argsL).toArray q B ∧
      Steps p.tables e below (T.setTop g) ((B.U.setTop { g with stack := rest }).pushFrame (.throwing q))) := by
  obtain ⟨mk, methM, hnamed, hmethM, hstM, habM⟩ := Cond.instanceMethod_spec hinst
  obtain ⟨methM', cM, hmethM', -, -, -, -, -, -, hsigM⟩ := Cond.code_spec hnamed hcode
  cases hmethM.symm.trans hmethM'
  obtain ⟨c2, r2, m2, q1, q2, q3, q4, kP, hkP, hkPi⟩ := Cond.selects_spec hsel
  cases hcls.symm.trans q1
  cases (State.methodFound?_of_named hnamed hy).symm.trans q2
  cases hnamed.symm.trans q3
  have hselP : selectMethod e.platform s.vm cellB.cls mk = .method mk := by rw [Launch.admits_selectMethod X.admits]; exact q4
  obtain ⟨vm₁, X₁, hstep₁⟩ := X.invokevirtual hexec hown hlink hnamed hmethM hstM hkP hkPi hy (a := b) (cell := cellB) hcell
    (fun z h => by rw [h] at hobj; cases hobj) hselP hmethM habM hkP hkPi (g := g) hg (argsL := argsL) (rest := rest) (hlen _ hsigM) hstack hdg
  rcases hK m meth c ⟨T.setVm vm₁, locs, cells, slots⟩ { g with stack := rest } (.invokevirtual index) mk (Value.ref b :: argsL).toArray X₁ hg hsize hdg hW (X₁.named hnamed) (hpre vm₁ X₁.warmed) with ⟨v, B, X', hpost, hsteps⟩ | ⟨q, B, X', hpost, hsteps⟩
  · exact Or.inl ⟨v, vm₁, B, X₁.warmed, X', hpost, fun target h => hstep₁ _ fun acts => by rw [doInvoke_state]; exact hsteps.trans h⟩
  · exact Or.inr ⟨q, vm₁, B, X₁.warmed, X', hpost, hstep₁ _ fun acts => by rw [doInvoke_state]; exact hsteps⟩
theorem vx_callS (X : Stand p l e R s m args below meth c T locs cells slots) (hexec : p.tables.exec = Jvm.exec) {own : String} {index : Nat} {y : MethodName} {bytes : ByteArray} {maxL : Nat} {ret : Option FieldType}
    (hown : s.vm.findClass own = some m.cls) (hlink : (Cond.methodLink own index y).before args s = true) (hstat : (Cond.static y).before args s = true) (hinit : (Cond.initialized y.cls).before args s = true)
    (hcode : (Cond.code y bytes maxL ret).before args s = true) (hy : y.cls ≠ "java/lang/invoke/MethodHandle" ∧ y.cls ≠ "java/lang/invoke/VarHandle")
    {W9 : Nat} {Pre : Pt → Array Value → Prop} {Post : Pt → Array Value → Option Value → Pt → Prop} {PostX : Pt → Array Value → Addr → Pt → Prop} (hK : vx_Back l R p e below s args y 3 W9 Pre Post PostX)
    {g : JFrame} (hg : g.method = m) (hsize : g.locals.size = c.maxLocals) {argsL rest : List Value} (hlen : ∀ sig, parseMethodDescriptor y.desc = some sig → argsL.length = sig.parameters.length)
    (hstack : g.stack = argsL.reverse ++ rest) (hW : 2 * g.monitorRoom + (rest.map fun v => v.category).sum ≤ W9) (hdg : decode c.code g.pc = .ok (.invokestatic index, 3))
    (hpre : ∀ vm₁, s.WarmedH vm₁ → Pre ⟨T.setVm vm₁, locs, cells, slots⟩ argsL.toArray) :
    (∃ (v : Option Value) (vm₁ : Vm) (B : Pt), s.WarmedH vm₁ ∧ Stand p l e R s m args below meth c B.U B.locs B.cells B.slots ∧ Post ⟨T.setVm vm₁, locs, cells, slots⟩ argsL.toArray v B ∧
      ∀ target, Steps p.tables e below (B.U.setTop { g with pc := g.pc + 3, stack := v.toList ++ rest }) target → Steps p.tables e below (T.setTop g) target) ∨
    (∃ (q : Addr) (vm₁ : Vm) (B : Pt), s.WarmedH vm₁ ∧ Stand p l e R s m args below meth c B.U B.locs B.cells B.slots ∧ PostX ⟨T.setVm vm₁, locs, cells, slots⟩ argsL.toArray q B ∧
      Steps p.tables e below (T.setTop g) ((B.U.setTop { g with stack := rest }).pushFrame (.throwing q))) := by
  obtain ⟨mk, hnamed⟩ := Cond.code_named hcode
  obtain ⟨methM, cM, hmethM, -, -, -, -, -, -, hsigM⟩ := Cond.code_spec hnamed hcode
  have hstatic : methM.isStatic = true := Cond.static_spec hnamed hmethM hstat
  obtain ⟨kP, hkP, -⟩ := className_of_methodNamed hnamed
  have hinitP : kP.init = .initialized := Cond.initialized_spec (findClass_of_methodNamed hnamed) hkP hinit
  obtain ⟨vm₁, X₁, hstep₁⟩ := X.invokestatic hexec hown hlink hnamed hmethM hstatic hkP hinitP hy (g := g) hg (argsL := argsL) (rest := rest) (hlen _ hsigM) hstack hdg
  rcases hK m meth c ⟨T.setVm vm₁, locs, cells, slots⟩ { g with stack := rest } (.invokestatic index) mk argsL.toArray X₁ hg hsize hdg hW (X₁.named hnamed) (hpre vm₁ X₁.warmed) with ⟨v, B, X', hpost, hsteps⟩ | ⟨q, B, X', hpost, hsteps⟩
  · exact Or.inl ⟨v, vm₁, B, X₁.warmed, X', hpost, fun target h => hstep₁ _ fun acts => by rw [doInvoke_state]; exact hsteps.trans h⟩
  · exact Or.inr ⟨q, vm₁, B, X₁.warmed, X', hpost, hstep₁ _ fun acts => by rw [doInvoke_state]; exact hsteps⟩
end Calls
theorem vx_cls {s : State} {T : State} {vm₁ : Vm} {E : String} {k : ClassId} (hW : s.WarmedH vm₁) (h : (T.setVm vm₁).vm.findClass E = some k) : s.vm.findClass E = some k := by
  have h1 : vm₁.findClass E = some k := h
  rw [hW.alike.findClass] at h1
  exact h1
/-- the method's frame g, with q thrown over it -/
def vx_W (p : Program) (l : Launch) (e : Env) (R : Room) (s : State) (m : MethodId) (args : Array Value) (below : List Frame) (meth : Method) (c : Code) (H : Heap) (locs : List Loc) (cells slots : Nat) (Q : State → Prop) (g : JFrame) (q : Addr) : Prop :=
  ∀ T : State, T.heap = H → Stand p l e R s m args below meth c T locs cells slots → ∃ t, Steps p.tables e below ((T.setTop g).pushFrame (.throwing q)) t ∧ Q t
def vx_Run (p : Program) (l : Launch) (e : Env) (R : Room) (s : State) (m : MethodId) (args : Array Value) (below : List Frame) (meth : Method) (c : Code) (H : Heap) (locs : List Loc) (cells slots mc ms : Nat) (g : JFrame) (rest : List Value) (Qa : State → Outcome → State → Prop) (XC : String → State → State → Prop) (free : Addr → Prop) : Prop :=
  ∀ T : State, T.heap = H → Stand p l e R s m args below meth c T locs cells slots →
    (∃ (v : Option Value) (st₀ t T' : State) (L : List Loc), st₀.heap = H ∧ Stand p l e R s m args below meth c T' (locs ++ L) (cells + mc) (slots + ms) ∧ (∀ q ∈ L, free q.base) ∧ T'.heap = t.heap ∧ T'.vm = t.vm ∧ Qa st₀ (.returned v) t ∧
      Goes p e below T g T' { g with pc := g.pc + 3, stack := v.toList ++ rest }) ∨
    (∃ (q : Addr) (st₀ t T' : State) (L : List Loc) (E : String) (ce : Cell), st₀.heap = H ∧ Stand p l e R s m args below meth c T' (locs ++ L) (cells + mc) (slots + ms) ∧ (∀ z ∈ L, free z.base) ∧ T'.heap = t.heap ∧ T'.vm = t.vm ∧ XC E st₀ t ∧ t.heap[q]? = some ce ∧ ce.vm = .none ∧ s.vm.findClass E = some ce.cls ∧
      Steps p.tables e below (T.setTop g) ((T'.setTop { g with stack := rest }).pushFrame (.throwing q)))
def vx_X {S : Type} (px : S → Prop) (B : String → S → State → Prop) (A : Nat → Prop) : String → State → State → Prop := fun E st t => ∃ u : S, px u ∧ B E u t ∧ va_F A st t
section Runs
variable {p : Program} {l : Launch} {e : Env} {R : Room} {s : State} {m : MethodId} {args : Array Value} {below : List Frame} {meth : Method} {c : Code} {H : Heap} {locs : List Loc} {cells slots : Nat}
variable {y : MethodName} {bytes cc : ByteArray} {maxL nL mc ms n index : Nat} {ret : Option FieldType} {ws : List Cond} {rm : Room} {Pc : Array Value → State → Prop} {Qc : Array Value → State → Outcome → State → Prop} {XC : String → State → State → Prop} {free : Addr → Prop} {Ts : List Cond} {own C : String} {b : Addr} {As rest : List Value} {g : JFrame}
theorem vx_callBack (cb : CallB R s args own index y bytes maxL ret ws rm mc ms n) (hM : vx_Met l y ws rm Pc Qc XC mc ms free) (hbl : FrameBlind Pc) : vx_Back l R p e below s args y 3 8 (PreOf R mc ms Pc) (PostOf Qc mc ms free) (vx_Post XC mc ms free) := by
  obtain ⟨hrc, hrs, hfr, hlo, hws, hcw, -, hini, -⟩ := cb
  exact vx_back (bytes := bytes) (maxL := maxL) (ret := ret) hM hbl hrc hrs hfr hlo hws hcw (fun a' U hW => word_at hW (Or.inl (by first | rfl | simp [Cond.onTables, Cond.keeps, Cond.steady])) hini)
theorem vx_runV (S : CallFix p m c cc nL s args Ts own) (hM : vx_Met l y ws rm Pc Qc XC mc ms free) (cw : CallW R s args own C index y bytes maxL ret ws rm mc ms n) (hp : PreV s H C b Pc As)
    (hg : g.method = m) (hn : As.length = n) (hsize : g.locals.size = nL) (hstack : g.stack = As.reverse ++ .ref b :: rest) (hW : 2 * g.monitorRoom + (rest.map fun v => v.category).sum ≤ 8) (hdg : decode cc g.pc = .ok (.invokevirtual index, 3)) (hf : cells + mc ≤ R.cells ∧ slots + ms ≤ R.slots) :
    vx_Run p l e R s m args below meth c H locs cells slots mc ms g rest (Qc (Value.ref b :: As).toArray) XC free := by
  have hK : vx_Back l R p e below s args y 3 8 (PreOf R mc ms Pc) (PostOf Qc mc ms free) (vx_Post XC mc ms free) := vx_callBack cw.1 hM hp.1
  obtain ⟨⟨-, -, -, -, -, -, hcode, -, hy, hlen, hl⟩, hin, hse⟩ := cw
  obtain ⟨hx, hb, hml, ho, -⟩ := S
  obtain ⟨-, ⟨cellB, hcB, hoB, hclB⟩, hPc⟩ := hp
  intro T hT X
  rcases vx_callV X hx (C := C) (bytes := bytes) (maxL := maxL) (ret := ret) ho hl hin hse hcode hy hK (by rw [hT]; exact hcB) hoB hclB hg (hsize.trans hml.symm) (argsL := As) (rest := rest) (fun sig h => hn.trans (hlen sig h)) hstack hW (by rw [hb]; exact hdg)
    (fun vm₁ hW₁ => ⟨hf.1, hf.2, hPc (T.setVm vm₁) hT hW₁⟩) with ⟨v, vm₁, ⟨U', l2, c2, s2⟩, hW₁, X', ⟨g', mk, t, L, e1, e2, hq, h1, hL, h2, h3⟩, st⟩ | ⟨q, vm₁, ⟨U', l2, c2, s2⟩, hW₁, X', ⟨g', mk, t, L, E, ce, e1, e2, hq, hce, hcv, hcl, h1, hL, h2, h3⟩, st⟩
  · dsimp only [Pt.U, Pt.locs, Pt.cells, Pt.slots] at X' e1 e2 h1 h2 h3 st
    subst h1; subst h2; subst h3
    exact Or.inl ⟨v, (T.setVm vm₁).calling g' mk (Value.ref b :: As).toArray, t, U', L, hT, X', hL, e1, e2, hq, st⟩
  · dsimp only [Pt.U, Pt.locs, Pt.cells, Pt.slots] at X' e1 e2 h1 h2 h3 st hcl
    subst h1; subst h2; subst h3
    exact Or.inr ⟨q, (T.setVm vm₁).calling g' mk (Value.ref b :: As).toArray, t, U', L, E, ce, hT, X', hL, e1, e2, hq, hce, hcv, vx_cls hW₁ hcl, st⟩
theorem vx_runS (S : CallFix p m c cc nL s args Ts own) (hM : vx_Met l y ws rm Pc Qc XC mc ms free) (cw : CallB R s args own index y bytes maxL ret ws rm mc ms n ∧ (Cond.static y).before args s = true) (hp : PreS s H Pc As)
    (hg : g.method = m) (hn : As.length = n) (hsize : g.locals.size = nL) (hstack : g.stack = As.reverse ++ rest) (hW : 2 * g.monitorRoom + (rest.map fun v => v.category).sum ≤ 8) (hdg : decode cc g.pc = .ok (.invokestatic index, 3)) (hf : cells + mc ≤ R.cells ∧ slots + ms ≤ R.slots) :
    vx_Run p l e R s m args below meth c H locs cells slots mc ms g rest (Qc As.toArray) XC free := by
  have hK : vx_Back l R p e below s args y 3 8 (PreOf R mc ms Pc) (PostOf Qc mc ms free) (vx_Post XC mc ms free) := vx_callBack cw.1 hM hp.1
  obtain ⟨⟨-, -, -, -, -, -, hcode, hini, hy, hlen, hl⟩, hstt⟩ := cw
  obtain ⟨hx, hb, hml, ho, -⟩ := S
  intro T hT X
  rcases vx_callS X hx (bytes := bytes) (maxL := maxL) (ret := ret) ho hl hstt hini hcode hy hK hg (hsize.trans hml.symm) (argsL := As) (rest := rest) (fun sig h => hn.trans (hlen sig h)) hstack hW (by rw [hb]; exact hdg)
    (fun vm₁ hW₁ => ⟨hf.1, hf.2, hp.2 (T.setVm vm₁) hT hW₁⟩) with ⟨v, vm₁, ⟨U', l2, c2, s2⟩, hW₁, X', ⟨g', mk, t, L, e1, e2, hq, h1, hL, h2, h3⟩, st⟩ | ⟨q, vm₁, ⟨U', l2, c2, s2⟩, hW₁, X', ⟨g', mk, t, L, E, ce, e1, e2, hq, hce, hcv, hcl, h1, hL, h2, h3⟩, st⟩
  · dsimp only [Pt.U, Pt.locs, Pt.cells, Pt.slots] at X' e1 e2 h1 h2 h3 st
    subst h1; subst h2; subst h3
    exact Or.inl ⟨v, (T.setVm vm₁).calling g' mk As.toArray, t, U', L, hT, X', hL, e1, e2, hq, st⟩
  · dsimp only [Pt.U, Pt.locs, Pt.cells, Pt.slots] at X' e1 e2 h1 h2 h3 st hcl
    subst h1; subst h2; subst h3
    exact Or.inr ⟨q, (T.setVm vm₁).calling g' mk As.toArray, t, U', L, E, ce, hT, X', hL, e1, e2, hq, hce, hcv, vx_cls hW₁ hcl, st⟩
end Runs
section Rows
variable {p : Program} {l : Launch} {e : Env} {R : Room} {s : State} {m : MethodId} {args : Array Value} {below : List Frame} {meth : Method} {c : Code} {H : Heap} {locs : List Loc} {cells slots : Nat} {Q : State → Prop}
variable {mc ms : Nat} {free : Addr → Prop} {A0 A1 : Nat → Prop} {H0 : Heap} {a : Array Value} {pc : Nat} {ls : Array Slot} {st0 rest : List Value}
theorem vx_keep {st₀ t T' : State} {L : List Loc} (h0 : st₀.heap = H) (e1 : T'.heap = t.heap) (hS : va_S A0 H0 H locs) (hA : ∀ q, q < H.size → A1 q → A0 q) (hf : ∀ q, free q → A0 q) (hL : ∀ q ∈ L, free q.base) (hF : va_F A1 st₀ t) :
    H.size ≤ T'.heap.size ∧ (∀ q : Nat, q < H.size → ¬ A1 q → T'.heap[q]? = H[q]?) ∧ va_S A0 H0 T'.heap (locs ++ L) := by
  obtain ⟨hz, hk⟩ := hF
  rw [h0] at hz hk
  exact ⟨by rw [e1]; exact hz, fun q h1 h2 => by rw [e1]; exact hk q h1 h2,
    ⟨Nat.le_trans hS.1 (by rw [e1]; exact hz), fun q h1 h2 => by rw [e1, hk q (Nat.lt_of_lt_of_le h1 hS.1) (fun z => h2 (hA q (Nat.lt_of_lt_of_le h1 hS.1) z))]; exact hS.2.1 q h1 h2, fun q hq => by
      rcases List.mem_append.mp hq with h | h
      · exact hS.2.2 q h
      · exact hf _ (hL q h)⟩⟩
theorem vx_calli {S SX : Type} {post : Int32 → S → Prop} {px : SX → Prop} {B : S → State → Prop} {BX : String → SX → State → Prop} {AX : Nat → Prop} (hr : vx_Run p l e R s m args below meth c H locs cells slots mc ms (F0 m pc ls st0) rest (va_Qi post B A1 a) (vx_X px BX AX) free) (hS : va_S A0 H0 H locs) (hA : ∀ q, q < H.size → A1 q → A0 q) (hf : ∀ q, free q → A0 q) (hAX : ∀ q, q < H.size → AX q → A0 q)
    (kx : ∀ (E : String) (ce : Cell) (q9 : Addr) (u : SX) (t : State) (H1 : Heap) (locs1 : List Loc), t.heap = H1 → s.vm.Alike t.vm → px u → BX E u t → H.size ≤ H1.size → (∀ q : Nat, q < H.size → ¬ AX q → H1[q]? = H[q]?) → va_S A0 H0 H1 locs1 → H1[q9]? = some ce → ce.vm = .none → s.vm.findClass E = some ce.cls → vx_W p l e R s m args below meth c H1 locs1 (cells + mc) (slots + ms) Q (F0 m pc ls rest) q9)
    (kk : ∀ (r : Int32) (u : S) (t : State) (H1 : Heap) (locs1 : List Loc), t.heap = H1 → s.vm.Alike t.vm → post r u → B u t → H.size ≤ H1.size → (∀ q : Nat, q < H.size → ¬ A1 q → H1[q]? = H[q]?) → va_S A0 H0 H1 locs1 → W p l e R s m args below meth c H1 locs1 (cells + mc) (slots + ms) Q (F0 m (pc + 3) ls (.int r :: rest))) : W p l e R s m args below meth c H locs cells slots Q (F0 m pc ls st0) := by
  intro T hT X
  rcases hr T hT X with ⟨v, st₀, t, T', L, h0, X', hL, e1, e2, ⟨⟨r, u, hv, hp, hb⟩, hF⟩, st⟩ | ⟨q, st₀, t, T', L, E, ce, h0, X', hL, e1, e2, ⟨u, hp, hb, hF⟩, hce, hcv, hcl, st⟩
  · cases hv
    obtain ⟨k1, k2, k3⟩ := vx_keep h0 e1 hS hA hf hL hF
    obtain ⟨t2, a1, b1⟩ := kk r u t T'.heap (locs ++ L) e1.symm (by rw [← e2]; exact X'.warmed.alike) hp hb k1 k2 k3 T' rfl X'
    exact ⟨t2, st t2 a1, b1⟩
  · obtain ⟨k1, k2, k3⟩ := vx_keep h0 e1 hS hAX hf hL hF
    obtain ⟨t2, a1, b1⟩ := kx E ce q u t T'.heap (locs ++ L) e1.symm (by rw [← e2]; exact X'.warmed.alike) hp hb k1 k2 k3 (by rw [e1]; exact hce) hcv hcl T' rfl X'
    exact ⟨t2, st.trans a1, b1⟩
theorem vx_calll {S SX : Type} {post : Int64 → S → Prop} {px : SX → Prop} {B : S → State → Prop} {BX : String → SX → State → Prop} {AX : Nat → Prop} (hr : vx_Run p l e R s m args below meth c H locs cells slots mc ms (F0 m pc ls st0) rest (va_Ql post B A1 a) (vx_X px BX AX) free) (hS : va_S A0 H0 H locs) (hA : ∀ q, q < H.size → A1 q → A0 q) (hf : ∀ q, free q → A0 q) (hAX : ∀ q, q < H.size → AX q → A0 q)
    (kx : ∀ (E : String) (ce : Cell) (q9 : Addr) (u : SX) (t : State) (H1 : Heap) (locs1 : List Loc), t.heap = H1 → s.vm.Alike t.vm → px u → BX E u t → H.size ≤ H1.size → (∀ q : Nat, q < H.size → ¬ AX q → H1[q]? = H[q]?) → va_S A0 H0 H1 locs1 → H1[q9]? = some ce → ce.vm = .none → s.vm.findClass E = some ce.cls → vx_W p l e R s m args below meth c H1 locs1 (cells + mc) (slots + ms) Q (F0 m pc ls rest) q9)
    (kk : ∀ (r : Int64) (u : S) (t : State) (H1 : Heap) (locs1 : List Loc), t.heap = H1 → s.vm.Alike t.vm → post r u → B u t → H.size ≤ H1.size → (∀ q : Nat, q < H.size → ¬ A1 q → H1[q]? = H[q]?) → va_S A0 H0 H1 locs1 → W p l e R s m args below meth c H1 locs1 (cells + mc) (slots + ms) Q (F0 m (pc + 3) ls (.long r :: rest))) : W p l e R s m args below meth c H locs cells slots Q (F0 m pc ls st0) := by
  intro T hT X
  rcases hr T hT X with ⟨v, st₀, t, T', L, h0, X', hL, e1, e2, ⟨⟨r, u, hv, hp, hb⟩, hF⟩, st⟩ | ⟨q, st₀, t, T', L, E, ce, h0, X', hL, e1, e2, ⟨u, hp, hb, hF⟩, hce, hcv, hcl, st⟩
  · cases hv
    obtain ⟨k1, k2, k3⟩ := vx_keep h0 e1 hS hA hf hL hF
    obtain ⟨t2, a1, b1⟩ := kk r u t T'.heap (locs ++ L) e1.symm (by rw [← e2]; exact X'.warmed.alike) hp hb k1 k2 k3 T' rfl X'
    exact ⟨t2, st t2 a1, b1⟩
  · obtain ⟨k1, k2, k3⟩ := vx_keep h0 e1 hS hAX hf hL hF
    obtain ⟨t2, a1, b1⟩ := kx E ce q u t T'.heap (locs ++ L) e1.symm (by rw [← e2]; exact X'.warmed.alike) hp hb k1 k2 k3 (by rw [e1]; exact hce) hcv hcl T' rfl X'
    exact ⟨t2, st.trans a1, b1⟩
theorem vx_callf {S SX : Type} {post : UInt32 → S → Prop} {px : SX → Prop} {B : S → State → Prop} {BX : String → SX → State → Prop} {AX : Nat → Prop} (hr : vx_Run p l e R s m args below meth c H locs cells slots mc ms (F0 m pc ls st0) rest (va_Qf post B A1 a) (vx_X px BX AX) free) (hS : va_S A0 H0 H locs) (hA : ∀ q, q < H.size → A1 q → A0 q) (hf : ∀ q, free q → A0 q) (hAX : ∀ q, q < H.size → AX q → A0 q)
    (kx : ∀ (E : String) (ce : Cell) (q9 : Addr) (u : SX) (t : State) (H1 : Heap) (locs1 : List Loc), t.heap = H1 → s.vm.Alike t.vm → px u → BX E u t → H.size ≤ H1.size → (∀ q : Nat, q < H.size → ¬ AX q → H1[q]? = H[q]?) → va_S A0 H0 H1 locs1 → H1[q9]? = some ce → ce.vm = .none → s.vm.findClass E = some ce.cls → vx_W p l e R s m args below meth c H1 locs1 (cells + mc) (slots + ms) Q (F0 m pc ls rest) q9)
    (kk : ∀ (r : UInt32) (u : S) (t : State) (H1 : Heap) (locs1 : List Loc), t.heap = H1 → s.vm.Alike t.vm → post r u → B u t → H.size ≤ H1.size → (∀ q : Nat, q < H.size → ¬ A1 q → H1[q]? = H[q]?) → va_S A0 H0 H1 locs1 → W p l e R s m args below meth c H1 locs1 (cells + mc) (slots + ms) Q (F0 m (pc + 3) ls (.float r :: rest))) : W p l e R s m args below meth c H locs cells slots Q (F0 m pc ls st0) := by
  intro T hT X
  rcases hr T hT X with ⟨v, st₀, t, T', L, h0, X', hL, e1, e2, ⟨⟨r, u, hv, hp, hb⟩, hF⟩, st⟩ | ⟨q, st₀, t, T', L, E, ce, h0, X', hL, e1, e2, ⟨u, hp, hb, hF⟩, hce, hcv, hcl, st⟩
  · cases hv
    obtain ⟨k1, k2, k3⟩ := vx_keep h0 e1 hS hA hf hL hF
    obtain ⟨t2, a1, b1⟩ := kk r u t T'.heap (locs ++ L) e1.symm (by rw [← e2]; exact X'.warmed.alike) hp hb k1 k2 k3 T' rfl X'
    exact ⟨t2, st t2 a1, b1⟩
  · obtain ⟨k1, k2, k3⟩ := vx_keep h0 e1 hS hAX hf hL hF
    obtain ⟨t2, a1, b1⟩ := kx E ce q u t T'.heap (locs ++ L) e1.symm (by rw [← e2]; exact X'.warmed.alike) hp hb k1 k2 k3 (by rw [e1]; exact hce) hcv hcl T' rfl X'
    exact ⟨t2, st.trans a1, b1⟩
theorem vx_calld {S SX : Type} {post : UInt64 → S → Prop} {px : SX → Prop} {B : S → State → Prop} {BX : String → SX → State → Prop} {AX : Nat → Prop} (hr : vx_Run p l e R s m args below meth c H locs cells slots mc ms (F0 m pc ls st0) rest (va_Qd post B A1 a) (vx_X px BX AX) free) (hS : va_S A0 H0 H locs) (hA : ∀ q, q < H.size → A1 q → A0 q) (hf : ∀ q, free q → A0 q) (hAX : ∀ q, q < H.size → AX q → A0 q)
    (kx : ∀ (E : String) (ce : Cell) (q9 : Addr) (u : SX) (t : State) (H1 : Heap) (locs1 : List Loc), t.heap = H1 → s.vm.Alike t.vm → px u → BX E u t → H.size ≤ H1.size → (∀ q : Nat, q < H.size → ¬ AX q → H1[q]? = H[q]?) → va_S A0 H0 H1 locs1 → H1[q9]? = some ce → ce.vm = .none → s.vm.findClass E = some ce.cls → vx_W p l e R s m args below meth c H1 locs1 (cells + mc) (slots + ms) Q (F0 m pc ls rest) q9)
    (kk : ∀ (r : UInt64) (u : S) (t : State) (H1 : Heap) (locs1 : List Loc), t.heap = H1 → s.vm.Alike t.vm → post r u → B u t → H.size ≤ H1.size → (∀ q : Nat, q < H.size → ¬ A1 q → H1[q]? = H[q]?) → va_S A0 H0 H1 locs1 → W p l e R s m args below meth c H1 locs1 (cells + mc) (slots + ms) Q (F0 m (pc + 3) ls (.double r :: rest))) : W p l e R s m args below meth c H locs cells slots Q (F0 m pc ls st0) := by
  intro T hT X
  rcases hr T hT X with ⟨v, st₀, t, T', L, h0, X', hL, e1, e2, ⟨⟨r, u, hv, hp, hb⟩, hF⟩, st⟩ | ⟨q, st₀, t, T', L, E, ce, h0, X', hL, e1, e2, ⟨u, hp, hb, hF⟩, hce, hcv, hcl, st⟩
  · cases hv
    obtain ⟨k1, k2, k3⟩ := vx_keep h0 e1 hS hA hf hL hF
    obtain ⟨t2, a1, b1⟩ := kk r u t T'.heap (locs ++ L) e1.symm (by rw [← e2]; exact X'.warmed.alike) hp hb k1 k2 k3 T' rfl X'
    exact ⟨t2, st t2 a1, b1⟩
  · obtain ⟨k1, k2, k3⟩ := vx_keep h0 e1 hS hAX hf hL hF
    obtain ⟨t2, a1, b1⟩ := kx E ce q u t T'.heap (locs ++ L) e1.symm (by rw [← e2]; exact X'.warmed.alike) hp hb k1 k2 k3 (by rw [e1]; exact hce) hcv hcl T' rfl X'
    exact ⟨t2, st.trans a1, b1⟩
theorem vx_callv {S SX : Type} {post : S → Prop} {px : SX → Prop} {B : S → State → Prop} {BX : String → SX → State → Prop} {AX : Nat → Prop} (hr : vx_Run p l e R s m args below meth c H locs cells slots mc ms (F0 m pc ls st0) rest (va_Qv post B A1 a) (vx_X px BX AX) free) (hS : va_S A0 H0 H locs) (hA : ∀ q, q < H.size → A1 q → A0 q) (hf : ∀ q, free q → A0 q) (hAX : ∀ q, q < H.size → AX q → A0 q)
    (kx : ∀ (E : String) (ce : Cell) (q9 : Addr) (u : SX) (t : State) (H1 : Heap) (locs1 : List Loc), t.heap = H1 → s.vm.Alike t.vm → px u → BX E u t → H.size ≤ H1.size → (∀ q : Nat, q < H.size → ¬ AX q → H1[q]? = H[q]?) → va_S A0 H0 H1 locs1 → H1[q9]? = some ce → ce.vm = .none → s.vm.findClass E = some ce.cls → vx_W p l e R s m args below meth c H1 locs1 (cells + mc) (slots + ms) Q (F0 m pc ls rest) q9)
    (kk : ∀ (u : S) (t : State) (H1 : Heap) (locs1 : List Loc), t.heap = H1 → s.vm.Alike t.vm → post u → B u t → H.size ≤ H1.size → (∀ q : Nat, q < H.size → ¬ A1 q → H1[q]? = H[q]?) → va_S A0 H0 H1 locs1 → W p l e R s m args below meth c H1 locs1 (cells + mc) (slots + ms) Q (F0 m (pc + 3) ls (rest))) : W p l e R s m args below meth c H locs cells slots Q (F0 m pc ls st0) := by
  intro T hT X
  rcases hr T hT X with ⟨v, st₀, t, T', L, h0, X', hL, e1, e2, ⟨⟨u, hv, hp, hb⟩, hF⟩, st⟩ | ⟨q, st₀, t, T', L, E, ce, h0, X', hL, e1, e2, ⟨u, hp, hb, hF⟩, hce, hcv, hcl, st⟩
  · cases hv
    obtain ⟨k1, k2, k3⟩ := vx_keep h0 e1 hS hA hf hL hF
    obtain ⟨t2, a1, b1⟩ := kk u t T'.heap (locs ++ L) e1.symm (by rw [← e2]; exact X'.warmed.alike) hp hb k1 k2 k3 T' rfl X'
    exact ⟨t2, st t2 a1, b1⟩
  · obtain ⟨k1, k2, k3⟩ := vx_keep h0 e1 hS hAX hf hL hF
    obtain ⟨t2, a1, b1⟩ := kx E ce q u t T'.heap (locs ++ L) e1.symm (by rw [← e2]; exact X'.warmed.alike) hp hb k1 k2 k3 (by rw [e1]; exact hce) hcv hcl T' rfl X'
    exact ⟨t2, st.trans a1, b1⟩
/-- caught by the row x of this method's table; the rows ahead don't take it -/
theorem vx_catch {own name : String} {E : String} {ce : Cell} {q : Addr} (hown : s.vm.findClass own = some m.cls) (pre : List ExceptionTableEntry) (x : ExceptionTableEntry) (suf : List ExceptionTableEntry) (hsplit : c.exceptionTable.toList = pre ++ x :: suf)
    (hpass : ∀ z ∈ pre, covers z pc = false ∨ (z.catchType ≠ 0 ∧ ∃ nm : String, (Cond.classLink own z.catchType nm).before args s = true ∧ va_Nc E nm s)) (hx : covers x pc = true) (h0 : x.catchType ≠ 0)
    (hlink : (Cond.classLink own x.catchType name).before args s = true) (hcast : (Cond.castable E name).before args s = true) (hcell : H[q]? = some ce) (hv : ce.vm = .none) (hcl : s.vm.findClass E = some ce.cls)
    (kk : W p l e R s m args below meth c H locs cells slots Q (F0 m x.handlerPc ls [.ref q])) : vx_W p l e R s m args below meth c H locs cells slots Q (F0 m pc ls rest) q := by
  intro T hT X
  have hpl : e.platform.magicAccessors = ({} : Platform).magicAccessors := by rw [X.admits.platform]
  obtain ⟨c3, c4, hc3, hc4, hasg⟩ := Cond.castable_spec hcast
  cases Option.some.inj (hc3.symm.trans hcl)
  obtain ⟨c5, hc5, hcl5⟩ := Cond.classLink_spec hown hlink e.platform hpl
  cases Option.some.inj (hc4.symm.trans hc5)
  obtain ⟨vm', X', st⟩ := X.thenCaughtThrough q (g := F0 m pc ls rest) rfl (Steps.refl _) (by rw [hT]; exact hcell) (by rw [hv]; rfl) (by obtain ⟨k9, h9, -⟩ := Vm.findClass_spec hcl; exact ⟨k9, h9⟩) pre x suf hsplit
    (fun z hz => by
      rcases hpass z hz with h | ⟨hz0, nm, hl1, hn1⟩
      · exact Or.inl h
      · obtain ⟨c6, hc6, hcl6⟩ := Cond.classLink_spec hown hl1 e.platform hpl
        obtain ⟨a8, b8, h1, h2, h3⟩ := hn1
        cases Option.some.inj (h1.symm.trans hcl)
        cases Option.some.inj (h2.symm.trans hc6)
        exact Or.inr ⟨hz0, _, hcl6, h3⟩) hx (Or.inr ⟨h0, c4, hcl5, hasg⟩)
  obtain ⟨t, a1, b1⟩ := kk (T.setVm vm') hT X'
  exact ⟨t, st.trans a1, b1⟩
end Rows
section Ends
variable {p : Program} {l : Launch} {e : Env} {R : Room} {s : State} {m : MethodId} {args : Array Value} {below : List Frame} {meth : Method} {c : Code} {H : Heap} {locs : List Loc} {cells slots : Nat} {Q : State → Prop}
variable {mc ms : Nat} {free : Addr → Prop} {A0 A1 : Nat → Prop} {H0 : Heap} {a : Array Value} {ls : Array Slot} {st0 rest : List Value}
variable {Qc : Array Value → State → Outcome → State → Prop} {XC : String → State → State → Prop}
/-- what a body that may throw owes at its end -/
def vx_MQ (below : List Frame) (Qc : Array Value → State → Outcome → State → Prop) (XC : String → State → State → Prop) (a : Array Value) (s : State) (mc ms : Nat) (free : Addr → Prop) : State → Prop := fun t =>
  ∃ o, t.status = .running ∧ Ended t below o ∧ vx_Q Qc XC mc ms free a s o t
theorem vx_ret {g : JFrame} {mc ms : Nat} (k : W p l e R s m args below meth c H locs cells slots (MQ below Qc args s mc ms free) g) : W p l e R s m args below meth c H locs cells slots (vx_MQ below Qc XC args s mc ms free) g := by
  intro T hT X
  obtain ⟨t, a1, o, b1, b2, b3, b4⟩ := k T hT X
  exact ⟨t, a1, o, b1, b2, Or.inl ⟨b3, b4⟩⟩
/-- not caught here: it goes on to the caller -/
theorem vx_widen {g : JFrame} {q : Addr} {k n : Nat} (h1 : cells ≤ k) (h2 : slots ≤ n) (kk : vx_W p l e R s m args below meth c H locs k n Q g q) : vx_W p l e R s m args below meth c H locs cells slots Q g q := fun T hT X => kk T hT (stand_widen X h1 h2)
theorem vx_out {pc : Nat} {E : String} {ce : Cell} {q : Addr} {mc ms : Nat} (hout : ∀ x ∈ c.exceptionTable.toList, covers x pc = false) (hlocks : meth.locks = false) (hcell : H[q]? = some ce) (hv : ce.vm = .none) (hcl : s.vm.findClass E = some ce.cls)
    (hx : ∀ t : State, t.heap = H → s.vm.Alike t.vm → XC E s t) (hf : ∀ z ∈ locs, free z.base) (hc : cells ≤ mc) (hs : slots ≤ ms) :
    vx_W p l e R s m args below meth c H locs cells slots (vx_MQ below Qc XC args s mc ms free) (F0 m pc ls rest) q := by
  intro T hT X
  obtain ⟨st1, hrun, hend, hW, hsm⟩ := X.leaveThrown q (g := F0 m pc ls rest) rfl rfl rfl hout hlocks
  have hcell9 : (T.setFrames (.throwing q :: below)).heap[q]? = some ce := by
    show T.heap[q]? = some ce
    rw [hT]; exact hcell
  exact ⟨_, st1, .threw q, hrun, hend, Or.inr ⟨q, rfl, E, ce, locs, hx _ hT hW.alike, hcell9, hv, hcl, hW, hsm.mono hc hs, hf⟩⟩
theorem vx_frame {U : State} {k n : Nat} (h : s.sameButNew ({ U with vm := s.vm } : State) locs k n) : s.heap.size ≤ U.heap.size ∧ ∀ q : Nat, q < s.heap.size → (∀ z ∈ locs, z.base ≠ q) → U.heap[q]? = s.heap[q]? := by
  obtain ⟨-, h2, -, -, -, h6⟩ := h
  refine ⟨h2, fun q hq hz => ?_⟩
  obtain ⟨c9, e1, e2, e3, e4⟩ := h6 q _ (Array.getElem?_eq_getElem hq)
  have hs : c9.slots = (s.heap[q]).slots := Array.ext_getElem? fun i => e4 i fun hm => hz _ hm rfl
  have h9 : c9 = s.heap[q] := by
    rw [hs] at e2
    exact e2
  have e5 : U.heap[q]? = some c9 := e1
  rw [e5, h9, Array.getElem?_eq_getElem hq]
/-- the words of a throw but the four that speak of the heap -/
def vx_no (w : Cond) : Bool := decide (w ≠ .isRef (.static Bundle.tN "UNASSIGNED_STACK" Bundle.steD)) && decide (w ≠ .isRef (.static Bundle.tN "SUPPRESSED_SENTINEL" Bundle.listD)) && decide (w ≠ .laysStatic Bundle.tN "UNASSIGNED_STACK" Bundle.steD) && decide (w ≠ .laysStatic Bundle.tN "SUPPRESSED_SENTINEL" Bundle.listD)
def vx_at0 (own : String) (ic : Nat) (X : String) (names : List String) : List Cond := (Bundle.ownAtoms0 own ic X names).filter vx_no
def vx_atS (own : String) (ic : Nat) (X : String) (names : List String) : List Cond := (Bundle.ownAtoms own ic X names).filter vx_no
/-- a word that the tables alone decide, or a good one -/
def vx_ot (w : Cond) : Bool := w.onTables || goodWord w
theorem vx_ot_at {args a' : Array Value} {s U : State} {w : Cond} (hW : s.WarmedH U.vm) (hvm : s.vm = U.vm) (hg : vx_ot w = true) (h : w.before args s = true) : w.before a' U = true := by
  simp only [vx_ot, Bool.or_eq_true] at hg
  rcases hg with hg | hg
  · exact va_tabs hg hvm h
  · exact word_at hW (good_of_word hg) h
/-- a list's words: the good ones out of the method's own list, the others by premises of their own -/
theorem vx_hat {args : Array Value} {s : State} {L B : List Cond} (h1 : ∀ w ∈ L.filter goodWord, w.before args s = true) (h2 : ∀ w ∈ L.filter (fun w => !goodWord w), w ∈ B) (h3 : ∀ w ∈ B, w.before args s = true) : ∀ w ∈ L, w.before args s = true := by
  intro w hw
  by_cases g : goodWord w = true
  · exact h1 w (List.mem_filter.mpr ⟨hw, g⟩)
  · refine h3 w (h2 w (List.mem_filter.mpr ⟨hw, ?_⟩))
    show (!goodWord w) = true
    cases hgw : goodWord w
    · rfl
    · exact absurd hgw g
theorem vx_c {args : Array Value} {s : State} {w : Cond} {B : List Cond} (h : w.before args s = true) (t : ∀ w ∈ B, w.before args s = true) : ∀ w' ∈ w :: B, w'.before args s = true := fun w' h' => (List.mem_cons.mp h').elim (fun e => by rw [e]; exact h) (t w')
theorem vx_n {args : Array Value} {s : State} : ∀ w ∈ ([] : List Cond), w.before args s = true := fun _ h => nomatch h
theorem vx_own {args : Array Value} {s : State} {L : List Cond} (h1 : ∀ w ∈ L.filter vx_no, w.before args s = true)
    (hU : (Cond.isRef (.static Bundle.tN "UNASSIGNED_STACK" Bundle.steD)).before args s = true) (hN : (Cond.isRef (.static Bundle.tN "SUPPRESSED_SENTINEL" Bundle.listD)).before args s = true)
    (lU : (Cond.laysStatic Bundle.tN "UNASSIGNED_STACK" Bundle.steD).before args s = true) (lN : (Cond.laysStatic Bundle.tN "SUPPRESSED_SENTINEL" Bundle.listD).before args s = true) : ∀ w ∈ L, w.before args s = true := by
  intro w hw
  by_cases e1 : w = .isRef (.static Bundle.tN "UNASSIGNED_STACK" Bundle.steD)
  · rw [e1]; exact hU
  · by_cases e2 : w = .isRef (.static Bundle.tN "SUPPRESSED_SENTINEL" Bundle.listD)
    · rw [e2]; exact hN
    · by_cases e3 : w = .laysStatic Bundle.tN "UNASSIGNED_STACK" Bundle.steD
      · rw [e3]; exact lU
      · by_cases e4 : w = .laysStatic Bundle.tN "SUPPRESSED_SENTINEL" Bundle.listD
        · rw [e4]; exact lN
        · exact h1 w (List.mem_filter.mpr ⟨hw, by unfold vx_no; rw [decide_eq_true e1, decide_eq_true e2, decide_eq_true e3, decide_eq_true e4]; rfl⟩)
/-- where a static field lies, its class's statics cell in H -/
def vx_L (C n d : String) (A : Nat → Prop) (U : State) (H : Heap) : Prop := ∃ (c : ClassId) (k : Class) (i : Nat) (f : Field) (a : Nat) (cell : Cell), U.vm.findClass C = some c ∧ U.fieldFound? C n d = some (c, k, i, f) ∧ f.isStatic = true ∧ k.statics = some a ∧ H[a]? = some cell ∧ cell.vm.isStatics = true ∧ cell.cls = c ∧ f.slot < cell.slots.size ∧ k.staticTypes[f.slot]? = some f.type ∧ ¬ A a
theorem vx_L.moved {C n d : String} {A : Nat → Prop} {u U : State} {H : Heap} (hvm : u.vm.Alike U.vm) (h : vx_L C n d A u H) : vx_L C n d A U H := by
  obtain ⟨c, k, i, f, a, cell, h1, h2, h3, h4, h5, h6, h7, h8, h9, h10⟩ := h
  obtain ⟨k', hi', he⟩ := State.fieldFound?_setVm hvm h2
  exact ⟨c, k', i, f, a, cell, by rw [hvm.findClass]; exact h1, hi', h3, by rw [he]; exact h4, h5, h6, h7, h8, by rw [he]; exact h9, h10⟩
theorem vx_L.kept {C n d : String} {A : Nat → Prop} {U : State} {H H1 : Heap} (h : vx_L C n d A U H) (hq : ∀ a : Nat, a < H.size → ¬ A a → H1[a]? = H[a]?) : vx_L C n d A U H1 := by
  obtain ⟨c, k, i, f, a, cell, h1, h2, h3, h4, h5, h6, h7, h8, h9, h10⟩ := h
  exact ⟨c, k, i, f, a, cell, h1, h2, h3, h4, by rw [hq a (Array.getElem?_eq_some_iff.mp h5).1 h10]; exact h5, h6, h7, h8, h9, h10⟩
theorem vx_L.narrow {C n d : String} {A B : Nat → Prop} {U : State} {H : Heap} (h : vx_L C n d A U H) (hAB : ∀ q, B q → A q) : vx_L C n d B U H := by
  obtain ⟨c, k, i, f, a, cell, h1, h2, h3, h4, h5, h6, h7, h8, h9, h10⟩ := h
  exact ⟨c, k, i, f, a, cell, h1, h2, h3, h4, h5, h6, h7, h8, h9, fun z => h10 (hAB _ z)⟩
theorem vx_L.word {C n d : String} {A : Nat → Prop} {s : State} {args : Array Value} (h : vx_L C n d A s s.heap) : (Cond.laysStatic C n d).before args s = true := by
  obtain ⟨c, k, i, f, a, cell, h1, h2, h3, h4, h5, h6, h7, h8, h9, -⟩ := h
  show (Cond.laysStatic C n d).holds args s none s [] = true
  exact Cond.laysStatic_of h1 h2 h3 h4 h5 h6 h7 h8 h9
/-- .. and what it holds: null or some reference -/
def vx_Zq (C n d : String) (A : Nat → Prop) (U : State) (H : Heap) : Prop := va_Zq C n d A U H ∧ vx_L C n d A U H
theorem vx_Zq.moved {C n d : String} {A : Nat → Prop} {u U : State} {H : Heap} (hvm : u.vm.Alike U.vm) (h : vx_Zq C n d A u H) : vx_Zq C n d A U H := ⟨va_Zq.moved hvm h.1, vx_L.moved hvm h.2⟩
theorem vx_Zq.kept {C n d : String} {A : Nat → Prop} {U : State} {H H1 : Heap} (h : vx_Zq C n d A U H) (hq : ∀ a : Nat, a < H.size → ¬ A a → H1[a]? = H[a]?) : vx_Zq C n d A U H1 := ⟨va_Zq.kept h.1 hq, vx_L.kept h.2 hq⟩
theorem vx_Zq.narrow {C n d : String} {A B : Nat → Prop} {U : State} {H : Heap} (h : vx_Zq C n d A U H) (hAB : ∀ q, B q → A q) : vx_Zq C n d B U H := ⟨va_Zq.narrow h.1 hAB, vx_L.narrow h.2 hAB⟩
theorem vx_Zqof {args : Array Value} {s : State} {C n d : String} {A : Nat → Prop} (hl : (Cond.laysStatic C n d).before args s = true) (hini : (Cond.initialized C).before args s = true) (h : (Cond.isRef (.static C n d)).before args s = true) (hA : ∀ a : Nat, a < s.heap.size → ¬ A a) : vx_Zq C n d A s s.heap := by
  refine ⟨va_Zqof hl hini h hA, ?_⟩
  obtain ⟨c, k, i, f, a, cell, h1, h2, h3, h4, h5, h6, h7, h8, h9⟩ := Cond.laysStatic_spec hl
  exact ⟨c, k, i, f, a, cell, h1, h2, h3, h4, h5, h6, h7, h8, h9, hA a (Array.getElem?_eq_some_iff.mp h5).1⟩
theorem vx_isRef {C n d : String} {v : Value} {A : Nat → Prop} {s : State} {args : Array Value} (h : va_Z C n d v A s s.heap) (hv : v.isRef = true) : (Cond.isRef (.static C n d)).before args s = true := by
  obtain ⟨cf, kf, fi, f, a, cell, h1, h2, h3, h4, h5, h6, h7, -⟩ := h
  have he : (Term.static C n d).eval args s none [] s = some v := by
    simp [Term.eval, State.fieldNamed?, h1, h2, h4, h5, h6, h7]
  simp only [Cond.before, Cond.holds, Cond.value, he]
  cases v <;> simp_all [Value.isRef]
theorem vx_isRefq {C n d : String} {A : Nat → Prop} {s : State} {args : Array Value} (h : va_Zq C n d A s s.heap) : (Cond.isRef (.static C n d)).before args s = true := by
  rcases h with h | ⟨t, h⟩
  · exact vx_isRef h rfl
  · exact vx_isRef h rfl
/-- the same frame, seen from here: as if the method were called anew in this heap -/
theorem vx_rebase {T : State} (X : Stand p l e R s m args below meth c T locs cells slots) {R' : Room} (hf : R'.frames ≤ R.frames) (hl : R'.locals ≤ R.locals) (hc : cells + R'.cells ≤ R.cells) (hs : slots + R'.slots ≤ R.slots) :
    Stand p l e R' ((T.setVm s.vm).setFrames (.invoking m args :: below)) m args below meth c T [] 0 0 := by
  have htop : (T.setVm s.vm).topJava?.isSome := X.here.top
  have hF : ((T.setVm s.vm).setFrames (.invoking m args :: below)).frames = .invoking m args :: below := State.frames_setFrames _ (State.cur_lt_of_top htop)
  obtain ⟨g₀, hg0⟩ := Option.isSome_iff_exists.mp htop
  obtain ⟨r, hr⟩ := State.topJava?_eq_some.mp hg0
  have hl9 : e.platform.stackLimits (T.setVm s.vm).me = e.platform.stackLimits s.me := X.limits
  have hb9 : (T.setVm s.vm).me.stackBytes = s.me.stackBytes := X.bytes
  refine ⟨X.admits, X.cas, X.clock, hF, ?_, X.hears, X.method, X.code, X.here, X.tail, X.warmed, ?_, ?_, ?_⟩
  · have h := X.room
    have hU : ((T.setVm s.vm).setFrames (.invoking m args :: below)).localsInUse = s.localsInUse := by
      rw [State.localsInUse_invoking hF (meth := meth) (c := c) X.method X.code, State.localsInUse_invoking X.frames X.method X.code]
    simp only [State.hasRoom, Bool.and_eq_true, decide_eq_true_eq] at h ⊢
    obtain ⟨⟨⟨⟨h1, h2, h3, h4, h5, h6⟩, h7⟩, h8⟩, h9⟩ := h
    rw [X.frames, List.length_cons] at h2 h3
    have q1 := X.heapSize
    have q2 := X.used
    simp only [hF, hU, List.length_cons, State.stackLimits_setFrames, State.stackBytes_setFrames, hl9, hb9]
    refine ⟨⟨⟨⟨by omega, by omega, by omega, by omega, by omega, h6⟩, ?_⟩, ?_⟩, X.book⟩
    · show T.heap.size + R'.cells ≤ e.platform.maxCells
      omega
    · show T.slotsUsed + R'.slots ≤ e.platform.maxSlots
      omega
  · rw [State.stackLimits_setFrames]; rfl
  · rw [State.stackBytes_setFrames]; rfl
  · refine ⟨?_, Nat.le_refl _, Nat.le_refl _, ?_, ?_, fun a c9 h9 => ⟨c9, h9, rfl, rfl, fun _ _ => rfl⟩⟩
    · obtain ⟨t, ht, -⟩ := State.frames_cons hr
      show T.setVm s.vm = { ((T.setVm s.vm).setFrames (.invoking m args :: below)).setFrames (T.setVm s.vm).frames with heap := T.heap, slotsUsed := T.slotsUsed }
      rw [State.setFrames_setFrames, State.setFrames_self ht]
      rfl
    · show T.slotsUsed = T.slotsUsed + ((T.heap.toList.drop T.heap.size).map (·.slots.size)).sum
      rw [List.drop_eq_nil_of_le (Nat.le_of_eq Array.length_toList)]
      rfl
    · show ((T.heap.toList.drop T.heap.size).map (·.slots.size)).sum ≤ 0
      rw [List.drop_eq_nil_of_le (Nat.le_of_eq Array.length_toList)]
      exact Nat.le_refl _
/-- 'throw new E()': new; dup; invokespecial; athrow -/
theorem vx_throw0 {cc : ByteArray} {pc : Nat} (hexec : p.tables.exec = Jvm.exec) (hb : c.code = cc) (hl : l.stackTraces = false) {own cls : String} {names : List String} {ik ic mc ms : Nat} {A : Nat → Prop}
    (hown : s.vm.findClass own = some m.cls) (hcls : Bundle.fit cls = true) (hnames : ∀ n ∈ names, Bundle.fit n = true)
    (hk : (Cond.classLink own ik cls).before args s = true) (hini : (Cond.initialized cls).before args s = true) (hat : ∀ w ∈ vx_at0 own ic cls names, w.before args s = true)
    (hgood : ∀ w ∈ Cond.classLink own ik cls :: Cond.initialized cls :: vx_at0 own ic cls names, vx_ot w = true)
    (hU : vx_Zq Bundle.tN "UNASSIGNED_STACK" Bundle.steD A s s.heap) (hN : vx_Zq Bundle.tN "SUPPRESSED_SENTINEL" Bundle.listD A s s.heap) (hS : va_S A s.heap H locs) (hsize : ls.size = c.maxLocals)
    (d0 : decode cc pc = .ok (.new ik, 3)) (d3 : decode cc (pc + 3) = .ok (.dup, 1)) (d4 : decode cc (pc + 4) = .ok (.invokespecial ic, 3)) (d7 : decode cc (pc + 7) = .ok (.athrow, 1))
    (hout : ∀ x ∈ c.exceptionTable.toList, covers x (pc + 7) = false)
    (hRframes : names.length + 3 < R.frames) (hRlocals : (rest.map fun v => v.category).sum + (13 * (names.length + 1) + 42) ≤ R.locals) (hRcells : cells + 1 ≤ R.cells) (hRslots : slots + 6 ≤ R.slots) (hlocks : meth.locks = false)
    (hx : ∀ t : State, s.vm.Alike t.vm → H.size ≤ t.heap.size → (∀ q : Nat, q < H.size → t.heap[q]? = H[q]?) → XC cls s t)
    (hf : ∀ z ∈ locs, free z.base) (hc : cells + 1 ≤ mc) (hs : slots + 6 ≤ ms) :
    W p l e R s m args below meth c H locs cells slots (vx_MQ below Qc XC args s mc ms free) (F0 m pc ls rest) := by
  intro T hT X
  have htr : e.platform.stackTraces = false := (show e.platform.stackTraces = l.stackTraces by rw [X.admits.platform]).trans hl
  have Y := vx_rebase X (R' := { frames := R.frames, locals := R.locals, cells := 1, slots := 6 }) (Nat.le_refl _) (Nat.le_refl _) hRcells hRslots
  obtain ⟨s', hA⟩ : ∃ z, z = (T.setVm s.vm).setFrames (.invoking m args :: below) := ⟨_, rfl⟩
  rw [← hA] at Y
  have hvm : s'.vm = s.vm := by rw [hA]; rfl
  have hhp : s'.heap = H := by rw [hA]; exact hT
  have hW0 : s.WarmedH s'.vm := by rw [hvm]; exact State.WarmedH.refl s
  have hat' : ∀ w ∈ vx_at0 own ic cls names, w.before args s' = true := fun w hw => vx_ot_at hW0 hvm.symm (hgood w (List.mem_cons_of_mem _ (List.mem_cons_of_mem _ hw))) (hat w hw)
  have hk' : (Cond.classLink own ik cls).before args s' = true := vx_ot_at hW0 hvm.symm (hgood _ List.mem_cons_self) hk
  have hini' : (Cond.initialized cls).before args s' = true := vx_ot_at hW0 hvm.symm (hgood _ (List.mem_cons_of_mem _ List.mem_cons_self)) hini
  have hU' : vx_Zq Bundle.tN "UNASSIGNED_STACK" Bundle.steD A s' s'.heap := by rw [hhp]; exact vx_Zq.moved hW0.alike (hU.kept hS.2.1)
  have hN' : vx_Zq Bundle.tN "SUPPRESSED_SENTINEL" Bundle.listD A s' s'.heap := by rw [hhp]; exact vx_Zq.moved hW0.alike (hN.kept hS.2.1)
  have h : ∀ w ∈ Bundle.ownAtoms0 own ic cls names, w.before args s' = true := vx_own hat' (vx_isRefq hU'.1) (vx_isRefq hN'.1) hU'.2.word hN'.2.word
  have hown' : s'.vm.findClass own = some m.cls := by rw [hvm]; exact hown
  have hins : (Cond.instantiable cls 6).before args s' = true := h _ (by simp [Bundle.ownAtoms0])
  obtain ⟨vm₁, cX, kX, hfX, hkX, -, -, X₁, st1⟩ := Y.newCold hexec (own := own) (C := cls) (index := ik) (n := 6) hown' hk' hins hini'
    (g := F0 m pc ls rest) rfl (by rw [hb]; exact d0) (Nat.le_refl _) (Nat.le_refl _)
  generalize hT1 : (T.setVm vm₁).pushCell { cls := cX, slots := kX.instanceTypes.map defaultValue, vm := .none } = T1 at X₁ st1
  have hcat : (Value.ref T.heap.size).category = 1 := rfl
  have hcellA : T1.heap[T.heap.size]? = some (freshCell cX kX) := by rw [← hT1]; exact State.heap_pushCell_size _ _
  have d3' : decode c.code (pc + 3) = .ok (.dup, 1) := by rw [hb]; exact d3
  obtain ⟨U, hsteps, hrun, hend, hW, hsame, ce, hce, hO⟩ := X₁.ctorThrow0 hexec htr (own := own) (cls := cls) (names := names) (ic := ic) hown' hcls hnames h (fun x hx => nomatch hx) hfX hkX hcellA (by rw [hhp, hT]; exact Nat.le_refl _)
    (g := { method := m, pc := pc + 4, locals := ls, stack := .ref T.heap.size :: .ref T.heap.size :: rest, locked := none }) rfl hsize rfl rfl (rest := rest) rfl
    (by rw [hb]; exact d4) (by rw [hb]; exact d7) hout hRframes (by simp only [List.map_cons, List.sum_cons, hcat]; omega) hlocks
  obtain ⟨f1, f2⟩ := vx_frame hsame
  rw [hhp] at f1 f2
  have hWs : s.WarmedH U.vm := State.WarmedH.trans hW0 hW
  have hcl : s.vm.findClass cls = some ce.cls := by
    have h9 := hO.cls
    rw [hvm] at h9
    exact h9
  have hall : s.sameButNew ({ U with vm := s.vm } : State) locs mc ms := by
    subst hA
    obtain ⟨e1, e2⟩ := hsame
    rw [State.setFrames_setFrames] at e1
    have h2 : (T.setVm s.vm).sameButNew ({ U with vm := s.vm } : State) [] (0 + 1) (0 + 6) := ⟨e1, e2⟩
    have h3 := X.same.trans h2
    rw [List.append_nil] at h3
    exact h3.mono hc hs
  refine ⟨U, ?_, .threw T.heap.size, hrun, hend, Or.inr ⟨T.heap.size, rfl, cls, ce, locs, hx U hWs.alike f1 (fun q hq => f2 q hq (fun z hz => nomatch hz)), hce, hO.vm, hcl, hWs, hall, hf⟩⟩
  refine st1 _ ?_
  show Steps p.tables e below (T1.setTop { method := m, pc := pc + 3, locals := ls, stack := .ref T.heap.size :: rest, locked := none }) _
  jvm_step X₁.here [X₁.here.top, hexec, d3', Value.category]
  exact hsteps
/-- 'throw new E("text")': new; dup; ldc; invokespecial; athrow -/
theorem vx_throwS {cc : ByteArray} {pc : Nat} (hexec : p.tables.exec = Jvm.exec) (hb : c.code = cc) (hl : l.stackTraces = false) {own cls text : String} {names : List String} {ik is ic mc ms sa : Nat} {A : Nat → Prop}
    (hown : s.vm.findClass own = some m.cls) (hcls : Bundle.fit cls = true) (hnames : ∀ n ∈ names, Bundle.fit n = true)
    (hk : (Cond.classLink own ik cls).before args s = true) (hini : (Cond.initialized cls).before args s = true) (hstr : vk_R own is text sa s) (hat : ∀ w ∈ vx_atS own ic cls names, w.before args s = true)
    (hgood : ∀ w ∈ Cond.classLink own ik cls :: Cond.initialized cls :: vx_atS own ic cls names, vx_ot w = true)
    (hU : vx_Zq Bundle.tN "UNASSIGNED_STACK" Bundle.steD A s s.heap) (hN : vx_Zq Bundle.tN "SUPPRESSED_SENTINEL" Bundle.listD A s s.heap) (hS : va_S A s.heap H locs) (hsize : ls.size = c.maxLocals)
    (d0 : decode cc pc = .ok (.new ik, 3)) (d3 : decode cc (pc + 3) = .ok (.dup, 1)) (d4 : decode cc (pc + 4) = .ok (.ldc is, 2)) (d6 : decode cc (pc + 6) = .ok (.invokespecial ic, 3)) (d9 : decode cc (pc + 9) = .ok (.athrow, 1))
    (hout : ∀ x ∈ c.exceptionTable.toList, covers x (pc + 9) = false)
    (hRframes : names.length + 3 < R.frames) (hRlocals : (rest.map fun v => v.category).sum + (13 * (names.length + 1) + 43) ≤ R.locals) (hRcells : cells + 1 ≤ R.cells) (hRslots : slots + 6 ≤ R.slots) (hlocks : meth.locks = false)
    (hx : ∀ t : State, s.vm.Alike t.vm → H.size ≤ t.heap.size → (∀ q : Nat, q < H.size → t.heap[q]? = H[q]?) → XC cls s t)
    (hf : ∀ z ∈ locs, free z.base) (hc : cells + 1 ≤ mc) (hs : slots + 6 ≤ ms) :
    W p l e R s m args below meth c H locs cells slots (vx_MQ below Qc XC args s mc ms free) (F0 m pc ls rest) := by
  intro T hT X
  have htr : e.platform.stackTraces = false := (show e.platform.stackTraces = l.stackTraces by rw [X.admits.platform]).trans hl
  have Y := vx_rebase X (R' := { frames := R.frames, locals := R.locals, cells := 1, slots := 6 }) (Nat.le_refl _) (Nat.le_refl _) hRcells hRslots
  obtain ⟨s', hA⟩ : ∃ z, z = (T.setVm s.vm).setFrames (.invoking m args :: below) := ⟨_, rfl⟩
  rw [← hA] at Y
  have hvm : s'.vm = s.vm := by rw [hA]; rfl
  have hhp : s'.heap = H := by rw [hA]; exact hT
  have hW0 : s.WarmedH s'.vm := by rw [hvm]; exact State.WarmedH.refl s
  have hat' : ∀ w ∈ vx_atS own ic cls names, w.before args s' = true := fun w hw => vx_ot_at hW0 hvm.symm (hgood w (List.mem_cons_of_mem _ (List.mem_cons_of_mem _ hw))) (hat w hw)
  have hk' : (Cond.classLink own ik cls).before args s' = true := vx_ot_at hW0 hvm.symm (hgood _ List.mem_cons_self) hk
  have hini' : (Cond.initialized cls).before args s' = true := vx_ot_at hW0 hvm.symm (hgood _ (List.mem_cons_of_mem _ List.mem_cons_self)) hini
  have hU' : vx_Zq Bundle.tN "UNASSIGNED_STACK" Bundle.steD A s' s'.heap := by rw [hhp]; exact vx_Zq.moved hW0.alike (hU.kept hS.2.1)
  have hN' : vx_Zq Bundle.tN "SUPPRESSED_SENTINEL" Bundle.listD A s' s'.heap := by rw [hhp]; exact vx_Zq.moved hW0.alike (hN.kept hS.2.1)
  have h : ∀ w ∈ Bundle.ownAtoms own ic cls names, w.before args s' = true := vx_own hat' (vx_isRefq hU'.1) (vx_isRefq hN'.1) hU'.2.word hN'.2.word
  have hown' : s'.vm.findClass own = some m.cls := by rw [hvm]; exact hown
  have hins : (Cond.instantiable cls 6).before args s' = true := h _ (by simp [Bundle.ownAtoms])
  obtain ⟨vm₁, cX, kX, hfX, hkX, -, -, X₁, st1⟩ := Y.newCold hexec (own := own) (C := cls) (index := ik) (n := 6) hown' hk' hins hini'
    (g := F0 m pc ls rest) rfl (by rw [hb]; exact d0) (Nat.le_refl _) (Nat.le_refl _)
  generalize hT1 : (T.setVm vm₁).pushCell { cls := cX, slots := kX.instanceTypes.map defaultValue, vm := .none } = T1 at X₁ st1
  have hcat : (Value.ref T.heap.size).category = 1 := rfl
  have hcellA : T1.heap[T.heap.size]? = some (freshCell cX kX) := by rw [← hT1]; exact State.heap_pushCell_size _ _
  have d3' : decode c.code (pc + 3) = .ok (.dup, 1) := by rw [hb]; exact d3
  have d4' : decode c.code (pc + 4) = .ok (.ldc is, 2) := by rw [hb]; exact d4
  have hstr' : vk_R own is text sa s' := vk_R.warm hW0 hstr
  obtain ⟨U, hsteps, hrun, hend, hW, hsame, ce, hce, hO⟩ := X₁.ctorThrowS hexec htr (own := own) (cls := cls) (names := names) (ic := ic) hown' hcls hnames h (fun x hx => nomatch hx) hfX hkX hcellA (by rw [hhp, hT]; exact Nat.le_refl _) (msg := .ref sa) rfl
    (g := { method := m, pc := pc + 6, locals := ls, stack := .ref sa :: .ref T.heap.size :: .ref T.heap.size :: rest, locked := none }) rfl hsize rfl rfl (rest := rest) rfl
    (by rw [hb]; exact d6) (by rw [hb]; exact d9) hout hRframes (by simp only [List.map_cons, List.sum_cons, hcat]; omega) hlocks
  obtain ⟨f1, f2⟩ := vx_frame hsame
  rw [hhp] at f1 f2
  have hWs : s.WarmedH U.vm := State.WarmedH.trans hW0 hW
  have hcl : s.vm.findClass cls = some ce.cls := by
    have h9 := hO.cls
    rw [hvm] at h9
    exact h9
  have hall : s.sameButNew ({ U with vm := s.vm } : State) locs mc ms := by
    subst hA
    obtain ⟨e1, e2⟩ := hsame
    rw [State.setFrames_setFrames] at e1
    have h2 : (T.setVm s.vm).sameButNew ({ U with vm := s.vm } : State) [] (0 + 1) (0 + 6) := ⟨e1, e2⟩
    have h3 := X.same.trans h2
    rw [List.append_nil] at h3
    exact h3.mono hc hs
  refine ⟨U, ?_, .threw T.heap.size, hrun, hend, Or.inr ⟨T.heap.size, rfl, cls, ce, locs, hx U hWs.alike f1 (fun q hq => f2 q hq (fun z hz => nomatch hz)), hce, hO.vm, hcl, hWs, hall, hf⟩⟩
  refine st1 _ ?_
  show Steps p.tables e below (T1.setTop { method := m, pc := pc + 3, locals := ls, stack := .ref T.heap.size :: rest, locked := none }) _
  jvm_step X₁.here [X₁.here.top, hexec, d3', Value.category]
  exact X₁.ldcString hexec (own := own) (text := text) (index := is) (a := sa) hown' hstr'.1 hstr'.2
    (g := { method := m, pc := pc + 4, locals := ls, stack := .ref T.heap.size :: .ref T.heap.size :: rest, locked := none }) rfl d4' _ hsteps
/-- 'throw new E("text")', the text by a wide index -/
theorem vx_throwSW {cc : ByteArray} {pc : Nat} (hexec : p.tables.exec = Jvm.exec) (hb : c.code = cc) (hl : l.stackTraces = false) {own cls text : String} {names : List String} {ik is ic mc ms sa : Nat} {A : Nat → Prop}
    (hown : s.vm.findClass own = some m.cls) (hcls : Bundle.fit cls = true) (hnames : ∀ n ∈ names, Bundle.fit n = true)
    (hk : (Cond.classLink own ik cls).before args s = true) (hini : (Cond.initialized cls).before args s = true) (hstr : vk_R own is text sa s) (hat : ∀ w ∈ vx_atS own ic cls names, w.before args s = true)
    (hgood : ∀ w ∈ Cond.classLink own ik cls :: Cond.initialized cls :: vx_atS own ic cls names, vx_ot w = true)
    (hU : vx_Zq Bundle.tN "UNASSIGNED_STACK" Bundle.steD A s s.heap) (hN : vx_Zq Bundle.tN "SUPPRESSED_SENTINEL" Bundle.listD A s s.heap) (hS : va_S A s.heap H locs) (hsize : ls.size = c.maxLocals)
    (d0 : decode cc pc = .ok (.new ik, 3)) (d3 : decode cc (pc + 3) = .ok (.dup, 1)) (d4 : decode cc (pc + 4) = .ok (.ldc_w is, 3)) (d7 : decode cc (pc + 7) = .ok (.invokespecial ic, 3)) (d10 : decode cc (pc + 10) = .ok (.athrow, 1))
    (hout : ∀ x ∈ c.exceptionTable.toList, covers x (pc + 10) = false)
    (hRframes : names.length + 3 < R.frames) (hRlocals : (rest.map fun v => v.category).sum + (13 * (names.length + 1) + 43) ≤ R.locals) (hRcells : cells + 1 ≤ R.cells) (hRslots : slots + 6 ≤ R.slots) (hlocks : meth.locks = false)
    (hx : ∀ t : State, s.vm.Alike t.vm → H.size ≤ t.heap.size → (∀ q : Nat, q < H.size → t.heap[q]? = H[q]?) → XC cls s t)
    (hf : ∀ z ∈ locs, free z.base) (hc : cells + 1 ≤ mc) (hs : slots + 6 ≤ ms) :
    W p l e R s m args below meth c H locs cells slots (vx_MQ below Qc XC args s mc ms free) (F0 m pc ls rest) := by
  intro T hT X
  have htr : e.platform.stackTraces = false := (show e.platform.stackTraces = l.stackTraces by rw [X.admits.platform]).trans hl
  have Y := vx_rebase X (R' := { frames := R.frames, locals := R.locals, cells := 1, slots := 6 }) (Nat.le_refl _) (Nat.le_refl _) hRcells hRslots
  obtain ⟨s', hA⟩ : ∃ z, z = (T.setVm s.vm).setFrames (.invoking m args :: below) := ⟨_, rfl⟩
  rw [← hA] at Y
  have hvm : s'.vm = s.vm := by rw [hA]; rfl
  have hhp : s'.heap = H := by rw [hA]; exact hT
  have hW0 : s.WarmedH s'.vm := by rw [hvm]; exact State.WarmedH.refl s
  have hat' : ∀ w ∈ vx_atS own ic cls names, w.before args s' = true := fun w hw => vx_ot_at hW0 hvm.symm (hgood w (List.mem_cons_of_mem _ (List.mem_cons_of_mem _ hw))) (hat w hw)
  have hk' : (Cond.classLink own ik cls).before args s' = true := vx_ot_at hW0 hvm.symm (hgood _ List.mem_cons_self) hk
  have hini' : (Cond.initialized cls).before args s' = true := vx_ot_at hW0 hvm.symm (hgood _ (List.mem_cons_of_mem _ List.mem_cons_self)) hini
  have hU' : vx_Zq Bundle.tN "UNASSIGNED_STACK" Bundle.steD A s' s'.heap := by rw [hhp]; exact vx_Zq.moved hW0.alike (hU.kept hS.2.1)
  have hN' : vx_Zq Bundle.tN "SUPPRESSED_SENTINEL" Bundle.listD A s' s'.heap := by rw [hhp]; exact vx_Zq.moved hW0.alike (hN.kept hS.2.1)
  have h : ∀ w ∈ Bundle.ownAtoms own ic cls names, w.before args s' = true := vx_own hat' (vx_isRefq hU'.1) (vx_isRefq hN'.1) hU'.2.word hN'.2.word
  have hown' : s'.vm.findClass own = some m.cls := by rw [hvm]; exact hown
  have hins : (Cond.instantiable cls 6).before args s' = true := h _ (by simp [Bundle.ownAtoms])
  obtain ⟨vm₁, cX, kX, hfX, hkX, -, -, X₁, st1⟩ := Y.newCold hexec (own := own) (C := cls) (index := ik) (n := 6) hown' hk' hins hini'
    (g := F0 m pc ls rest) rfl (by rw [hb]; exact d0) (Nat.le_refl _) (Nat.le_refl _)
  generalize hT1 : (T.setVm vm₁).pushCell { cls := cX, slots := kX.instanceTypes.map defaultValue, vm := .none } = T1 at X₁ st1
  have hcat : (Value.ref T.heap.size).category = 1 := rfl
  have hcellA : T1.heap[T.heap.size]? = some (freshCell cX kX) := by rw [← hT1]; exact State.heap_pushCell_size _ _
  have d3' : decode c.code (pc + 3) = .ok (.dup, 1) := by rw [hb]; exact d3
  have d4' : decode c.code (pc + 4) = .ok (.ldc_w is, 3) := by rw [hb]; exact d4
  have hstr' : vk_R own is text sa s' := vk_R.warm hW0 hstr
  obtain ⟨U, hsteps, hrun, hend, hW, hsame, ce, hce, hO⟩ := X₁.ctorThrowS hexec htr (own := own) (cls := cls) (names := names) (ic := ic) hown' hcls hnames h (fun x hx => nomatch hx) hfX hkX hcellA (by rw [hhp, hT]; exact Nat.le_refl _) (msg := .ref sa) rfl
    (g := { method := m, pc := pc + 7, locals := ls, stack := .ref sa :: .ref T.heap.size :: .ref T.heap.size :: rest, locked := none }) rfl hsize rfl rfl (rest := rest) rfl
    (by rw [hb]; exact d7) (by rw [hb]; exact d10) hout hRframes (by simp only [List.map_cons, List.sum_cons, hcat]; omega) hlocks
  obtain ⟨f1, f2⟩ := vx_frame hsame
  rw [hhp] at f1 f2
  have hWs : s.WarmedH U.vm := State.WarmedH.trans hW0 hW
  have hcl : s.vm.findClass cls = some ce.cls := by
    have h9 := hO.cls
    rw [hvm] at h9
    exact h9
  have hall : s.sameButNew ({ U with vm := s.vm } : State) locs mc ms := by
    subst hA
    obtain ⟨e1, e2⟩ := hsame
    rw [State.setFrames_setFrames] at e1
    have h2 : (T.setVm s.vm).sameButNew ({ U with vm := s.vm } : State) [] (0 + 1) (0 + 6) := ⟨e1, e2⟩
    have h3 := X.same.trans h2
    rw [List.append_nil] at h3
    exact h3.mono hc hs
  refine ⟨U, ?_, .threw T.heap.size, hrun, hend, Or.inr ⟨T.heap.size, rfl, cls, ce, locs, hx U hWs.alike f1 (fun q hq => f2 q hq (fun z hz => nomatch hz)), hce, hO.vm, hcl, hWs, hall, hf⟩⟩
  refine st1 _ ?_
  show Steps p.tables e below (T1.setTop { method := m, pc := pc + 3, locals := ls, stack := .ref T.heap.size :: rest, locked := none }) _
  jvm_step X₁.here [X₁.here.top, hexec, d3', Value.category]
  exact X₁.ldcStringW hexec (own := own) (text := text) (index := is) (a := sa) hown' hstr'.1 hstr'.2
    (g := { method := m, pc := pc + 4, locals := ls, stack := .ref T.heap.size :: .ref T.heap.size :: rest, locked := none }) rfl d4' _ hsteps
end Ends
section Bodies
variable {l : Launch}
theorem vx_ofW {y : MethodName} {ws ws' : List Cond} {rm : Room} {Pc : Array Value → State → Prop} {Qc : Array Value → State → Outcome → State → Prop} {XC : String → State → State → Prop} {mc ms : Nat} {free : Addr → Prop} {cc : ByteArray} {maxL : Nat} {ret : Option FieldType}
    (hy : plainName y.cls = true) (hw : ws = Cond.code y cc maxL ret :: ws')
    (body : ∀ p e s m args below meth c s₁, BodyLoose p l y (headSpec ws rm) cc maxL ret e s m args below meth c s₁ → c.maxLocals = maxL → (∀ x ∈ c.exceptionTable.toList, False) → Pc args s →
      W p l e (headSpec ws rm).room s m args below meth c s.heap [] 0 0 (vx_MQ below Qc XC args s mc ms free) (entryFrame m args maxL)) : vx_Met l y ws rm Pc Qc XC mc ms free := by
  refine MetFree.of_bodyS (code := cc) (maxLocals := maxL) (ret := ret) hy ?_ ?_
  · intro args s m h hn
    obtain ⟨meth, c, h1, h2, h3, h4, h5, h6, -, -⟩ := Cond.code_spec hn (atoms_spec (ws := ws) h _ (by rw [hw]; exact List.mem_cons_self))
    exact ⟨meth, c, h1, h2, h3, h4, h5, h6⟩
  · intro p e s m args below meth c s₁ B hml hP _
    have hh0 : s₁.heap = s.heap := by rw [B.state]; rfl
    have ht : ∀ x ∈ c.exceptionTable.toList, False := by
      obtain ⟨meth9, c9, h1, h2, -, -, -, -, h7, -⟩ := Cond.code_spec B.named (atoms_spec (ws := ws) B.pre _ (by rw [hw]; exact List.mem_cons_self))
      cases Option.some.inj (h1.symm.trans B.method)
      cases Option.some.inj (h2.symm.trans (Stand.of_body B).code)
      intro x hx
      rw [Array.isEmpty_iff.mp h7] at hx
      cases hx
    obtain ⟨t, a1, o, b1, b2, b3⟩ := body p e s m args below meth c s₁ B hml ht hP s₁ hh0 (Stand.of_body B)
    exact ⟨t, o, a1, b1, b2, b3⟩
/-- the table of a body with handlers -/
theorem vx_table {p : Program} {x y : MethodName} {S : Spec} {cc bytes : ByteArray} {maxL maxL' : Nat} {ret ret' : Option FieldType} {e : Env} {s s₁ : State} {m : MethodId} {args : Array Value} {below : List Frame} {meth : Method} {c : Code} {hh : List (Nat × Nat × Nat × Nat)}
    (B : BodyLoose p l y S cc maxL ret e s m args below meth c s₁) (h : (Cond.codeWith y bytes maxL' ret' hh).before args s = true) : c.exceptionTable.toList = tableOf hh := by
  obtain ⟨m9, meth9, c9, hn9, h1, h2, -, -, h6, -⟩ := Cond.codeWith_spec h
  cases Option.some.inj (hn9.symm.trans B.named)
  cases Option.some.inj (h1.symm.trans B.method)
  cases Option.some.inj (h2.symm.trans (Stand.of_body B).code)
  rw [← h6, table_eq]
end Bodies
end VXA
/-! ===== END ===== -/
/-! ===== BEGIN a static call of a method with an exception table ===== -/
section VXS
variable {p : Program} {l : Launch} {e : Env} {R : Room} {s : State} {m : MethodId} {args : Array Value} {below : List Frame} {meth : Method} {c : Code} {T : State} {H : Heap} {locs : List Loc} {cells slots : Nat}
abbrev vx_CSW (R : Room) (s : State) (args : Array Value) (own : String) (index : Nat) (y : MethodName) (bytes : ByteArray) (maxL : Nat) (ret : Option FieldType) (hh : List (Nat × Nat × Nat × Nat)) (ws : List Cond) (rm : Room) (mc ms n : Nat) : Prop :=
  (rm.cells = mc ∧ rm.slots = ms ∧ rm.frames + 1 ≤ R.frames ∧ 8 + (maxL + 11) + rm.locals ≤ R.locals ∧ (∀ w ∈ ws, ∀ (a' : Array Value) (U : State), s.WarmedH U.vm → w.before a' U = true) ∧ Cond.codeWith y bytes maxL ret hh ∈ ws) ∧
  (Cond.codeWith y bytes maxL ret hh).before args s = true ∧ (Cond.initialized y.cls).before args s = true ∧ (y.cls ≠ "java/lang/invoke/MethodHandle" ∧ y.cls ≠ "java/lang/invoke/VarHandle") ∧
  (∀ sig, parseMethodDescriptor y.desc = some sig → n = sig.parameters.length) ∧ (Cond.methodLink own index y).before args s = true ∧ (Cond.static y).before args s = true
theorem vx_cwSW {own : String} {index maxL mc ms : Nat} {y : MethodName} {bytes : ByteArray} {ret : Option FieldType} {hh : List (Nat × Nat × Nat × Nat)} {Ts ws ws' : List Cond} {rm : Room} (n : Nat) (ht : ∀ w ∈ Ts, w.before args s = true) (hT : GoodIn Ts (va_wsS own index y ws)) (hw : ws = Cond.codeWith y bytes maxL ret hh :: ws') (hrc : rm.cells = mc) (hrs : rm.slots = ms)
    (hd : y.cls ≠ "java/lang/invoke/MethodHandle" ∧ y.cls ≠ "java/lang/invoke/VarHandle" ∧ (parseMethodDescriptor y.desc).map (fun d => d.parameters.length) = some n) (hR : rm.frames + 1 ≤ R.frames ∧ 8 + (maxL + 11) + rm.locals ≤ R.locals) :
    vx_CSW R s args own index y bytes maxL ret hh ws rm mc ms n := by
  have ok : ∀ w ∈ va_wsS own index y ws, w.before args s = true := fun w h => ht w (hT w h).1
  have hG : GoodIn Ts ws := fun w h => hT w (by unfold va_wsS; exact List.mem_append_right _ h)
  have hc : Cond.codeWith y bytes maxL ret hh ∈ ws := by rw [hw]; exact List.mem_cons_self
  refine ⟨⟨hrc, hrs, hR.1, hR.2, pay_in ht hG, hc⟩, ht _ (hG _ hc).1, ok _ (by simp [va_wsS]), ⟨hd.1, hd.2.1⟩, fun sig h => ?_, ok _ (by simp [va_wsS]), ok _ (by simp [va_wsS])⟩
  have h2 := hd.2.2
  rw [h] at h2
  exact (Option.some.inj h2).symm
theorem vx_callSW (X : Stand p l e R s m args below meth c T locs cells slots) (hexec : p.tables.exec = Jvm.exec) {own : String} {index : Nat} {y : MethodName} {bytes : ByteArray} {maxL : Nat} {ret : Option FieldType} {hh : List (Nat × Nat × Nat × Nat)}
    (hown : s.vm.findClass own = some m.cls) (hlink : (Cond.methodLink own index y).before args s = true) (hstat : (Cond.static y).before args s = true) (hinit : (Cond.initialized y.cls).before args s = true)
    (hcode : (Cond.codeWith y bytes maxL ret hh).before args s = true) (hy : y.cls ≠ "java/lang/invoke/MethodHandle" ∧ y.cls ≠ "java/lang/invoke/VarHandle")
    {W9 : Nat} {Pre : Pt → Array Value → Prop} {Post : Pt → Array Value → Option Value → Pt → Prop} (hK : Back l R p e below s args y 3 W9 Pre Post)
    {g : JFrame} (hg : g.method = m) (hsize : g.locals.size = c.maxLocals) {argsL rest : List Value} (hlen : ∀ sig, parseMethodDescriptor y.desc = some sig → argsL.length = sig.parameters.length)
    (hstack : g.stack = argsL.reverse ++ rest) (hW : 2 * g.monitorRoom + (rest.map fun v => v.category).sum ≤ W9) (hdg : decode c.code g.pc = .ok (.invokestatic index, 3))
    (hpre : ∀ vm₁, s.WarmedH vm₁ → Pre ⟨T.setVm vm₁, locs, cells, slots⟩ argsL.toArray) :
    ∃ (v : Option Value) (vm₁ : Vm) (B : Pt), s.WarmedH vm₁ ∧ Stand p l e R s m args below meth c B.U B.locs B.cells B.slots ∧ Post ⟨T.setVm vm₁, locs, cells, slots⟩ argsL.toArray v B ∧
      ∀ target, Steps p.tables e below (B.U.setTop { g with pc := g.pc + 3, stack := v.toList ++ rest }) target → Steps p.tables e below (T.setTop g) target := by
  obtain ⟨mk, methM, cM, hnamed, hmethM, -, -, -, -, -, -, hsigM⟩ := Cond.codeWith_spec hcode
  have hstatic : methM.isStatic = true := Cond.static_spec hnamed hmethM hstat
  obtain ⟨kP, hkP, -⟩ := className_of_methodNamed hnamed
  have hinitP : kP.init = .initialized := Cond.initialized_spec (findClass_of_methodNamed hnamed) hkP hinit
  obtain ⟨vm₁, X₁, hstep₁⟩ := X.invokestatic hexec hown hlink hnamed hmethM hstatic hkP hinitP hy (g := g) hg (argsL := argsL) (rest := rest) (hlen _ hsigM) hstack hdg
  obtain ⟨v, B, X', hpost, hsteps⟩ := hK m meth c ⟨T.setVm vm₁, locs, cells, slots⟩ { g with stack := rest } (.invokestatic index) mk argsL.toArray X₁ hg hsize hdg hW (X₁.named hnamed) (hpre vm₁ X₁.warmed)
  exact ⟨v, vm₁, B, X₁.warmed, X', hpost, fun target h => hstep₁ _ fun acts => by rw [doInvoke_state]; exact hsteps.trans h⟩
theorem vx_runSW {y : MethodName} {bytes cc : ByteArray} {maxL nL mc ms n index : Nat} {ret : Option FieldType} {hh : List (Nat × Nat × Nat × Nat)} {ws : List Cond} {rm : Room} {Pc : Array Value → State → Prop} {Qc : Array Value → State → Outcome → State → Prop} {free : Addr → Prop} {Ts : List Cond} {own : String} {As rest : List Value} {g : JFrame}
    (S : CallFix p m c cc nL s args Ts own) (hM : Met l y ws rm Pc Qc mc ms free) (cw : vx_CSW R s args own index y bytes maxL ret hh ws rm mc ms n) (hp : PreS s H Pc As)
    (hg : g.method = m) (hn : As.length = n) (hsize : g.locals.size = nL) (hstack : g.stack = As.reverse ++ rest) (hW : 2 * g.monitorRoom + (rest.map fun v => v.category).sum ≤ 8) (hdg : decode cc g.pc = .ok (.invokestatic index, 3)) (hf : cells + mc ≤ R.cells ∧ slots + ms ≤ R.slots) :
    va_Run p l e R s m args below meth c H locs cells slots mc ms g rest (Qc As.toArray) (free) := by
  obtain ⟨⟨hrc, hrs, hfr, hlo, hws, hcw⟩, hcode, hini, hy, hlen, hl, hstt⟩ := cw
  have hK : Back l R p e below s args y 3 8 (PreOf R mc ms Pc) (PostOf Qc mc ms free) := va_backW (hh := hh) (bytes := bytes) (maxL := maxL) (ret := ret) hM hp.1 hrc hrs hfr hlo hws hcw (fun a' U hW => word_at hW (Or.inl (by first | rfl | simp [Cond.onTables, Cond.keeps, Cond.steady])) hini)
  obtain ⟨hx, hb, hml, ho, -⟩ := S
  intro T hT X
  obtain ⟨v, vm₁, ⟨U', l2, c2, s2⟩, hW₁, X', ⟨g', mk, t, L, e1, e2, hq, h1, hL, h2, h3⟩, st⟩ := vx_callSW X hx (hh := hh) (bytes := bytes) (maxL := maxL) (ret := ret) ho hl hstt hini hcode hy hK hg (hsize.trans hml.symm) (argsL := As) (rest := rest) (fun sig h => hn.trans (hlen sig h)) hstack hW (by rw [hb]; exact hdg)
    (fun vm₁ hW₁ => ⟨hf.1, hf.2, hp.2 (T.setVm vm₁) hT hW₁⟩)
  dsimp only [Pt.U, Pt.locs, Pt.cells, Pt.slots] at X' e1 e2 h1 h2 h3 st
  subst h1; subst h2; subst h3
  exact ⟨v, (T.setVm vm₁).calling g' mk As.toArray, t, U', L, hT, X', hL, e1, e2, hq, st⟩
/-- not caught here, past rows that name other classes: it goes on to the caller -/
theorem vx_outP {p : Program} {l : Launch} {e : Env} {R : Room} {s : State} {m : MethodId} {args : Array Value} {below : List Frame} {meth : Method} {c : Code} {H : Heap} {locs : List Loc} {cells slots : Nat} {free : Addr → Prop} {ls : Array Slot} {rest : List Value} {Qc : Array Value → State → Outcome → State → Prop} {XC : String → State → State → Prop}
    {pc : Nat} {own E : String} {ce : Cell} {q : Addr} {mc ms : Nat} (hown : s.vm.findClass own = some m.cls) (hlocks : meth.locks = false)
    (hpass : ∀ z ∈ c.exceptionTable.toList, covers z pc = false ∨ (z.catchType ≠ 0 ∧ ∃ nm : String, (Cond.classLink own z.catchType nm).before args s = true ∧ va_Nc E nm s)) (hcell : H[q]? = some ce) (hv : ce.vm = .none) (hcl : s.vm.findClass E = some ce.cls)
    (hx : ∀ t : State, t.heap = H → s.vm.Alike t.vm → XC E s t) (hf : ∀ z ∈ locs, free z.base) (hc : cells ≤ mc) (hs : slots ≤ ms) :
    vx_W p l e R s m args below meth c H locs cells slots (vx_MQ below Qc XC args s mc ms free) (F0 m pc ls rest) q := by
  intro T hT X
  have hpl : e.platform.magicAccessors = ({} : Platform).magicAccessors := by rw [X.admits.platform]
  obtain ⟨vm', hW', X', st⟩ := X.outThrough hlocks q (g := F0 m pc ls rest) rfl rfl rfl (cell := ce) (by rw [hT]; exact hcell) (by rw [hv]; rfl)
    (by obtain ⟨k9, h9, -⟩ := Vm.findClass_spec hcl; exact ⟨k9, h9⟩) (fun z hz => by
      rcases hpass z hz with h | ⟨hz0, nm, hl1, hn1⟩
      · exact Or.inl h
      · obtain ⟨c6, hc6, hcl6⟩ := Cond.classLink_spec hown hl1 e.platform hpl
        obtain ⟨a8, b8, h1, h2, h3⟩ := hn1
        cases Option.some.inj (h1.symm.trans hcl)
        cases Option.some.inj (h2.symm.trans hc6)
        exact Or.inr ⟨hz0, _, hcl6, h3⟩)
  obtain ⟨g₀, hfr⟩ := X'.frames_eq
  have hcell9 : ((T.setVm vm').setFrames (.throwing q :: below)).heap[q]? = some ce := by
    show T.heap[q]? = some ce
    rw [hT]; exact hcell
  have hend : Ended ((T.setVm vm').setFrames (.throwing q :: below)) below (.threw q) := State.frames_setFrames _ (State.cur_lt_of_frames hfr)
  refine ⟨(T.setVm vm').setFrames (.throwing q :: below), ?_, .threw q, X'.here.running, hend, Or.inr ⟨q, rfl, E, ce, locs, hx _ hT (X'.ends _).1.alike, hcell9, hv, hcl, (X'.ends _).1, (X'.ends _).2.mono hc hs, hf⟩⟩
  rw [X.pushThrowing_eq]
  exact st
/-- a thing of a world lies in the heap -/
theorem vx_lt {D : va_G} {cl : List vw_C} {ws : va_W} {H1 : Heap} (h : va_P D cl ws H1) {k : Nat} {q : Nat × va_E} (hk : ws[k]? = some q) : q.1 < H1.size := (h k q hk).lt
end VXS
/-! ===== END ===== -/
/-! ===== BEGIN methods with a table of their own: called by a name, returning or throwing ===== -/
section VXH
/-! vx_backW, vx_callVX, vx_callSX, vx_callVW, vx_runVW, vx_runVX, vx_runSX, vx_ofWH follow the same proofs as their sisters above (Free/Laws.lean, Shelf42/LK1.lean); vx_outP calls Shelf42/NT130.lean (outThrough). -/
section
variable {l : Launch} {R : Room} {p : Program} {e : Env} {below : List Frame} {s : State} {sargs : Array Value} {y : MethodName} {len W9 : Nat}
theorem vx_backW {ws : List Cond} {rm : Room} {Pc : Array Value → State → Prop} {Qc : Array Value → State → Outcome → State → Prop} {XC : String → State → State → Prop} {mc ms : Nat} {free : Addr → Prop} {bytes : ByteArray} {maxL : Nat} {ret : Option FieldType} {hh : List (Nat × Nat × Nat × Nat)}
    (hM : vx_Met l y ws rm Pc Qc XC mc ms free) (hblind : FrameBlind Pc) (hrc : rm.cells = mc) (hrs : rm.slots = ms)
    (hframes : rm.frames + 1 ≤ R.frames) (hlocals : W9 + (maxL + 11) + rm.locals ≤ R.locals)
    (hws : ∀ w ∈ ws, ∀ a' U, s.WarmedH U.vm → w.before a' U = true) (hcode : Cond.codeWith y bytes maxL ret hh ∈ ws) (hinit : ∀ a' U, s.WarmedH U.vm → (Cond.initialized y.cls).before a' U = true) :
    vx_Back l R p e below s sargs y len W9 (PreOf R mc ms Pc) (PostOf Qc mc ms free) (vx_Post XC mc ms free) := by
  intro m meth c A g ig mk a X hg hsize hdg hW hn hp
  have h1 : (headSpec ws rm).pre.before a A.U = true := atoms_intro fun w hw => hws w hw _ _ X.warmed
  have h2 : (Cond.codeWith y bytes maxL ret hh).before a A.U = true := hws _ hcode _ _ X.warmed
  have h3 : (Cond.initialized y.cls).before a A.U = true := hinit _ _ X.warmed
  have h4 : A.cells + (headSpec ws rm).room.cells ≤ R.cells := by rw [show (headSpec ws rm).room.cells = mc from hrc]; exact hp.1
  have h5 : A.slots + (headSpec ws rm).room.slots ≤ R.slots := by rw [show (headSpec ws rm).room.slots = ms from hrs]; exact hp.2.1
  have hPc : Pc a (A.U.calling g mk a) := hblind _ _ _ _ hp.2.2
  obtain ⟨U, Ls, c0, s0⟩ := A
  dsimp only [Pt.U, Pt.locs, Pt.cells, Pt.slots] at h1 h2 h3 h4 h5 X hn hPc ⊢
  obtain ⟨m9, methY, cY, hn9, hmY, hcY, -, hlY, -⟩ := Cond.codeWith_spec h2
  cases Option.some.inj (hn9.symm.trans hn)
  obtain ⟨kY, hkY, -⟩ := className_of_methodNamed hn
  have hinitY : kY.init = .initialized := Cond.initialized_spec (findClass_of_methodNamed hn) hkY h3
  have h : At U g.method c below := by rw [hg]; exact X.here
  have hlocals9 : W9 + (maxL + 11) + (headSpec ws rm).room.locals ≤ R.locals := hlocals
  have happ : (headSpec ws rm).appliesLoose y e.platform (U.calling g mk a) = true :=
    Spec.appliesLoose_calling (g := g) h hdg hn hkY hinitY
      (X.room_calling (g := g) (R' := (headSpec ws rm).room) hsize hmY hcY hframes (by rw [hlY]; omega) h4 h5) h1
  obtain ⟨mid, hmid⟩ := h.above
  have hfr : (U.setTop g).frames = (.java g :: mid) ++ below := by rw [State.frames_setTop' g h.top, hmid]; rfl
  obtain ⟨o, s₂, hsteps, -, hend, hq⟩ := Steps.callFree hM p X.admits X.cas X.clock (acts := []) hfr happ hPc trivial
  have hq' : vx_Q Qc XC mc ms free a (U.calling g mk a) o s₂ := hq
  rw [State.frames_setTop' g h.top] at hend
  obtain ⟨g₀, hg0⟩ := Option.isSome_iff_exists.mp h.top
  obtain ⟨r, hr⟩ := State.topJava?_eq_some.mp hg0
  have hr' : (({ U with heap := s₂.heap, slotsUsed := s₂.slotsUsed } : State).setVm s₂.vm).frames = .java g₀ :: r := hr
  rcases hq' with ⟨hqc, L, hfe, hL⟩ | ⟨q, rfl, E, ce, L, hx, hce, hcv, hcl, hW₂, hsm, hL⟩
  · obtain ⟨⟨v, rfl⟩, hW₂, e2, q2, q3, q4, q5, q6⟩ := id hfe
    have e3 : s₂ = ({ (U.calling g mk a).setFrames s₂.frames with heap := s₂.heap, slotsUsed := s₂.slotsUsed } : State).setVm s₂.vm := by
      have : s₂ = ({ s₂ with vm := (U.calling g mk a).vm } : State).setVm s₂.vm := rfl
      rw [e2] at this
      exact this
    obtain ⟨c₂, i₂, len₂, hc₂, hd₂, hf₂⟩ := hend
    have hW' : U.WarmedH s₂.vm := hW₂
    have hcc : c₂ = c := by
      have h1 : s₂.code? g.method = U.code? g.method := by
        rw [State.code?_eq, State.code?_eq, hW'.alike.method?]
      exact Option.some.inj (hc₂.symm.trans (h1.trans h.code))
    subst hcc
    have hlen : len₂ = len := by rw [hdg] at hd₂; cases hd₂; rfl
    subst hlen
    have hs₂ : s₂ = (({ U with heap := s₂.heap, slotsUsed := s₂.slotsUsed } : State).setVm s₂.vm).setTop { g with pc := g.pc + len₂, stack := v.toList ++ g.stack } := by
      refine e3.trans ?_
      rw [hf₂, State.calling_eq h.top, State.setFrames_setFrames, State.setTop_of_frames _ hr', hr]
      rfl
    have hsame : U.sameButNew ({ U with heap := s₂.heap, slotsUsed := s₂.slotsUsed } : State) L mc ms := by
      refine ⟨?_, q2, q3, q4, q5, q6⟩
      obtain ⟨t, ht, -⟩ := State.frames_cons hr
      show ({ U with heap := s₂.heap, slotsUsed := s₂.slotsUsed } : State) = { U.setFrames U.frames with heap := s₂.heap, slotsUsed := s₂.slotsUsed }
      rw [State.setFrames_self ht]
    subst hg
    refine Or.inl ⟨v, ⟨(({ U with heap := s₂.heap, slotsUsed := s₂.slotsUsed } : State).setVm s₂.vm), Ls ++ L, c0 + mc, s0 + ms⟩,
      ⟨X.admits, X.cas, X.clock, X.frames, X.room, X.hears, X.method, X.code, (X.here.setHeapUsed s₂.heap s₂.slotsUsed).setVm hW'.alike, X.tail, State.WarmedH.trans X.warmed hW', X.limits, X.bytes, X.same.trans (hsame.setVm s.vm)⟩,
      ⟨g, mk, s₂, L, rfl, rfl, hqc, rfl, hL, rfl, rfl⟩, ?_⟩
    show Steps p.tables e below _ ((({ U with heap := s₂.heap, slotsUsed := s₂.slotsUsed } : State).setVm s₂.vm).setTop { g with pc := g.pc + len₂, stack := v.toList ++ g.stack })
    rw [← hs₂]
    exact hsteps
  · obtain ⟨e2, q2, q3, q4, q5, q6⟩ := id hsm
    have e3 : s₂ = ({ (U.calling g mk a).setFrames s₂.frames with heap := s₂.heap, slotsUsed := s₂.slotsUsed } : State).setVm s₂.vm := by
      have : s₂ = ({ s₂ with vm := (U.calling g mk a).vm } : State).setVm s₂.vm := rfl
      rw [e2] at this
      exact this
    have hf₂ : s₂.frames = .throwing q :: .java g :: U.frames.tail := hend
    have hW' : U.WarmedH s₂.vm := hW₂
    have hs₂ : s₂ = ((({ U with heap := s₂.heap, slotsUsed := s₂.slotsUsed } : State).setVm s₂.vm).setTop g).pushFrame (.throwing q) := by
      refine e3.trans ?_
      rw [hf₂, State.calling_eq h.top, State.setFrames_setFrames, State.pushFrame, State.frames_setTop _ hr', State.setTop_of_frames _ hr', State.setFrames_setFrames, hr]
      rfl
    have hsame : U.sameButNew ({ U with heap := s₂.heap, slotsUsed := s₂.slotsUsed } : State) L mc ms := by
      refine ⟨?_, q2, q3, q4, q5, q6⟩
      obtain ⟨t, ht, -⟩ := State.frames_cons hr
      show ({ U with heap := s₂.heap, slotsUsed := s₂.slotsUsed } : State) = { U.setFrames U.frames with heap := s₂.heap, slotsUsed := s₂.slotsUsed }
      rw [State.setFrames_self ht]
    subst hg
    refine Or.inr ⟨q, ⟨(({ U with heap := s₂.heap, slotsUsed := s₂.slotsUsed } : State).setVm s₂.vm), Ls ++ L, c0 + mc, s0 + ms⟩,
      ⟨X.admits, X.cas, X.clock, X.frames, X.room, X.hears, X.method, X.code, (X.here.setHeapUsed s₂.heap s₂.slotsUsed).setVm hW'.alike, X.tail, State.WarmedH.trans X.warmed hW', X.limits, X.bytes, X.same.trans (hsame.setVm s.vm)⟩,
      ⟨g, mk, s₂, L, E, ce, rfl, rfl, hx, hce, hcv, hcl, rfl, hL, rfl, rfl⟩, ?_⟩
    show Steps p.tables e below _ (((({ U with heap := s₂.heap, slotsUsed := s₂.slotsUsed } : State).setVm s₂.vm).setTop g).pushFrame (.throwing q))
    rw [← hs₂]
    exact hsteps
end
variable {p : Program} {l : Launch} {e : Env} {R : Room} {s : State} {m : MethodId} {args : Array Value} {below : List Frame} {meth : Method} {c : Code} {T : State} {H : Heap} {locs : List Loc} {cells slots : Nat}
theorem vx_callVX (X : Stand p l e R s m args below meth c T locs cells slots) (hexec : p.tables.exec = Jvm.exec) {own C : String} {index : Nat} {y : MethodName} {bytes : ByteArray} {maxL : Nat} {ret : Option FieldType} {hh : List (Nat × Nat × Nat × Nat)}
    (hown : s.vm.findClass own = some m.cls) (hlink : (Cond.methodLink own index y).before args s = true) (hinst : (Cond.instanceMethod y).before args s = true) (hsel : (Cond.selects C y y).before args s = true)
    (hcode : (Cond.codeWith y bytes maxL ret hh).before args s = true) (hy : y.cls ≠ "java/lang/invoke/MethodHandle" ∧ y.cls ≠ "java/lang/invoke/VarHandle")
    {W9 : Nat} {Pre : Pt → Array Value → Prop} {Post : Pt → Array Value → Option Value → Pt → Prop} {PostX : Pt → Array Value → Addr → Pt → Prop} (hK : vx_Back l R p e below s args y 3 W9 Pre Post PostX)
    {b : Addr} {cellB : Cell} (hcell : T.heap[b]? = some cellB) (hobj : cellB.vm.isStatics = false) (hcls : s.vm.findClass C = some cellB.cls)
    {g : JFrame} (hg : g.method = m) (hsize : g.locals.size = c.maxLocals) {argsL rest : List Value} (hlen : ∀ sig, parseMethodDescriptor y.desc = some sig → argsL.length = sig.parameters.length)
    (hstack : g.stack = argsL.reverse ++ .ref b :: rest) (hW : 2 * g.monitorRoom + (rest.map fun v => v.category).sum ≤ W9) (hdg : decode c.code g.pc = .ok (.invokevirtual index, 3))
    (hpre : ∀ vm₁, s.WarmedH vm₁ → Pre ⟨T.setVm vm₁, locs, cells, slots⟩ (Value.ref b :: argsL).toArray) :
    (∃ (v : Option Value) (vm₁ : Vm) (B : Pt), s.WarmedH vm₁ ∧ Stand p l e R s m args below meth c B.U B.locs B.cells B.slots ∧ Post ⟨T.setVm vm₁, locs, cells, slots⟩ (Value.ref b :: argsL).toArray v B ∧
      ∀ target, Steps p.tables e below (B.U.setTop { g with pc := g.pc + 3, stack := v.toList ++ rest }) target → Steps p.tables e below (T.setTop g) target) ∨
    (∃ (q : Addr) (vm₁ : Vm) (B : Pt), s.WarmedH vm₁ ∧ Stand p l e R s m args below meth c B.U B.locs B.cells B.slots ∧ PostX ⟨T.setVm vm₁, locs, cells, slots⟩ (Value.ref b :: argsL).toArray q B ∧
      Steps p.tables e below (T.setTop g) ((B.U.setTop { g with stack := rest }).pushFrame (.throwing q))) := by
  obtain ⟨mk, methM, hnamed, hmethM, hstM, habM⟩ := Cond.instanceMethod_spec hinst
  obtain ⟨m8, methM', cM, hn8, hmethM', -, -, -, -, -, -, hsigM⟩ := Cond.codeWith_spec hcode
  cases Option.some.inj (hn8.symm.trans hnamed)
  cases hmethM.symm.trans hmethM'
  obtain ⟨c2, r2, m2, q1, q2, q3, q4, kP, hkP, hkPi⟩ := Cond.selects_spec hsel
  cases hcls.symm.trans q1
  cases (State.methodFound?_of_named hnamed hy).symm.trans q2
  cases hnamed.symm.trans q3
  have hselP : selectMethod e.platform s.vm cellB.cls mk = .method mk := by rw [Launch.admits_selectMethod X.admits]; exact q4
  obtain ⟨vm₁, X₁, hstep₁⟩ := X.invokevirtual hexec hown hlink hnamed hmethM hstM hkP hkPi hy (a := b) (cell := cellB) hcell
    (fun z h => by rw [h] at hobj; cases hobj) hselP hmethM habM hkP hkPi (g := g) hg (argsL := argsL) (rest := rest) (hlen _ hsigM) hstack hdg
  rcases hK m meth c ⟨T.setVm vm₁, locs, cells, slots⟩ { g with stack := rest } (.invokevirtual index) mk (Value.ref b :: argsL).toArray X₁ hg hsize hdg hW (X₁.named hnamed) (hpre vm₁ X₁.warmed) with ⟨v, B, X', hpost, hsteps⟩ | ⟨q, B, X', hpost, hsteps⟩
  · exact Or.inl ⟨v, vm₁, B, X₁.warmed, X', hpost, fun target h => hstep₁ _ fun acts => by rw [doInvoke_state]; exact hsteps.trans h⟩
  · exact Or.inr ⟨q, vm₁, B, X₁.warmed, X', hpost, hstep₁ _ fun acts => by rw [doInvoke_state]; exact hsteps⟩
theorem vx_callSX (X : Stand p l e R s m args below meth c T locs cells slots) (hexec : p.tables.exec = Jvm.exec) {own : String} {index : Nat} {y : MethodName} {bytes : ByteArray} {maxL : Nat} {ret : Option FieldType} {hh : List (Nat × Nat × Nat × Nat)}
    (hown : s.vm.findClass own = some m.cls) (hlink : (Cond.methodLink own index y).before args s = true) (hstat : (Cond.static y).before args s = true) (hinit : (Cond.initialized y.cls).before args s = true)
    (hcode : (Cond.codeWith y bytes maxL ret hh).before args s = true) (hy : y.cls ≠ "java/lang/invoke/MethodHandle" ∧ y.cls ≠ "java/lang/invoke/VarHandle")
    {W9 : Nat} {Pre : Pt → Array Value → Prop} {Post : Pt → Array Value → Option Value → Pt → Prop} {PostX : Pt → Array Value → Addr → Pt → Prop} (hK : vx_Back l R p e below s args y 3 W9 Pre Post PostX)
    {g : JFrame} (hg : g.method = m) (hsize : g.locals.size = c.maxLocals) {argsL rest : List Value} (hlen : ∀ sig, parseMethodDescriptor y.desc = some sig → argsL.length = sig.parameters.length)
    (hstack : g.stack = argsL.reverse ++ rest) (hW : 2 * g.monitorRoom + (rest.map fun v => v.category).sum ≤ W9) (hdg : decode c.code g.pc = .ok (.invokestatic index, 3))
    (hpre : ∀ vm₁, s.WarmedH vm₁ → Pre ⟨T.setVm vm₁, locs, cells, slots⟩ argsL.toArray) :
    (∃ (v : Option Value) (vm₁ : Vm) (B : Pt), s.WarmedH vm₁ ∧ Stand p l e R s m args below meth c B.U B.locs B.cells B.slots ∧ Post ⟨T.setVm vm₁, locs, cells, slots⟩ argsL.toArray v B ∧
      ∀ target, Steps p.tables e below (B.U.setTop { g with pc := g.pc + 3, stack := v.toList ++ rest }) target → Steps p.tables e below (T.setTop g) target) ∨
    (∃ (q : Addr) (vm₁ : Vm) (B : Pt), s.WarmedH vm₁ ∧ Stand p l e R s m args below meth c B.U B.locs B.cells B.slots ∧ PostX ⟨T.setVm vm₁, locs, cells, slots⟩ argsL.toArray q B ∧
      Steps p.tables e below (T.setTop g) ((B.U.setTop { g with stack := rest }).pushFrame (.throwing q))) := by
  obtain ⟨mk, methM, cM, hnamed, hmethM, -, -, -, -, -, -, hsigM⟩ := Cond.codeWith_spec hcode
  have hstatic : methM.isStatic = true := Cond.static_spec hnamed hmethM hstat
  obtain ⟨kP, hkP, -⟩ := className_of_methodNamed hnamed
  have hinitP : kP.init = .initialized := Cond.initialized_spec (findClass_of_methodNamed hnamed) hkP hinit
  obtain ⟨vm₁, X₁, hstep₁⟩ := X.invokestatic hexec hown hlink hnamed hmethM hstatic hkP hinitP hy (g := g) hg (argsL := argsL) (rest := rest) (hlen _ hsigM) hstack hdg
  rcases hK m meth c ⟨T.setVm vm₁, locs, cells, slots⟩ { g with stack := rest } (.invokestatic index) mk argsL.toArray X₁ hg hsize hdg hW (X₁.named hnamed) (hpre vm₁ X₁.warmed) with ⟨v, B, X', hpost, hsteps⟩ | ⟨q, B, X', hpost, hsteps⟩
  · exact Or.inl ⟨v, vm₁, B, X₁.warmed, X', hpost, fun target h => hstep₁ _ fun acts => by rw [doInvoke_state]; exact hsteps.trans h⟩
  · exact Or.inr ⟨q, vm₁, B, X₁.warmed, X', hpost, hstep₁ _ fun acts => by rw [doInvoke_state]; exact hsteps⟩
theorem vx_callVW (X : Stand p l e R s m args below meth c T locs cells slots) (hexec : p.tables.exec = Jvm.exec) {own C : String} {index : Nat} {y : MethodName} {bytes : ByteArray} {maxL : Nat} {ret : Option FieldType} {hh : List (Nat × Nat × Nat × Nat)}
    (hown : s.vm.findClass own = some m.cls) (hlink : (Cond.methodLink own index y).before args s = true) (hinst : (Cond.instanceMethod y).before args s = true) (hsel : (Cond.selects C y y).before args s = true)
    (hcode : (Cond.codeWith y bytes maxL ret hh).before args s = true) (hy : y.cls ≠ "java/lang/invoke/MethodHandle" ∧ y.cls ≠ "java/lang/invoke/VarHandle")
    {W9 : Nat} {Pre : Pt → Array Value → Prop} {Post : Pt → Array Value → Option Value → Pt → Prop} (hK : Back l R p e below s args y 3 W9 Pre Post)
    {b : Addr} {cellB : Cell} (hcell : T.heap[b]? = some cellB) (hobj : cellB.vm.isStatics = false) (hcls : s.vm.findClass C = some cellB.cls)
    {g : JFrame} (hg : g.method = m) (hsize : g.locals.size = c.maxLocals) {argsL rest : List Value} (hlen : ∀ sig, parseMethodDescriptor y.desc = some sig → argsL.length = sig.parameters.length)
    (hstack : g.stack = argsL.reverse ++ .ref b :: rest) (hW : 2 * g.monitorRoom + (rest.map fun v => v.category).sum ≤ W9) (hdg : decode c.code g.pc = .ok (.invokevirtual index, 3))
    (hpre : ∀ vm₁, s.WarmedH vm₁ → Pre ⟨T.setVm vm₁, locs, cells, slots⟩ (Value.ref b :: argsL).toArray) :
    ∃ (v : Option Value) (vm₁ : Vm) (B : Pt), s.WarmedH vm₁ ∧ Stand p l e R s m args below meth c B.U B.locs B.cells B.slots ∧ Post ⟨T.setVm vm₁, locs, cells, slots⟩ (Value.ref b :: argsL).toArray v B ∧
      ∀ target, Steps p.tables e below (B.U.setTop { g with pc := g.pc + 3, stack := v.toList ++ rest }) target → Steps p.tables e below (T.setTop g) target := by
  obtain ⟨mk, methM, hnamed, hmethM, hstM, habM⟩ := Cond.instanceMethod_spec hinst
  obtain ⟨m8, methM', cM, hn8, hmethM', -, -, -, -, -, -, hsigM⟩ := Cond.codeWith_spec hcode
  cases Option.some.inj (hn8.symm.trans hnamed)
  cases hmethM.symm.trans hmethM'
  obtain ⟨c2, r2, m2, q1, q2, q3, q4, kP, hkP, hkPi⟩ := Cond.selects_spec hsel
  cases hcls.symm.trans q1
  cases (State.methodFound?_of_named hnamed hy).symm.trans q2
  cases hnamed.symm.trans q3
  have hselP : selectMethod e.platform s.vm cellB.cls mk = .method mk := by rw [Launch.admits_selectMethod X.admits]; exact q4
  obtain ⟨vm₁, X₁, hstep₁⟩ := X.invokevirtual hexec hown hlink hnamed hmethM hstM hkP hkPi hy (a := b) (cell := cellB) hcell
    (fun z h => by rw [h] at hobj; cases hobj) hselP hmethM habM hkP hkPi (g := g) hg (argsL := argsL) (rest := rest) (hlen _ hsigM) hstack hdg
  obtain ⟨v, B, X', hpost, hsteps⟩ := hK m meth c ⟨T.setVm vm₁, locs, cells, slots⟩ { g with stack := rest } (.invokevirtual index) mk (Value.ref b :: argsL).toArray X₁ hg hsize hdg hW (X₁.named hnamed) (hpre vm₁ X₁.warmed)
  exact ⟨v, vm₁, B, X₁.warmed, X', hpost, fun target h => hstep₁ _ fun acts => by rw [doInvoke_state]; exact hsteps.trans h⟩
abbrev vx_CVW (R : Room) (s : State) (args : Array Value) (own C : String) (index : Nat) (y : MethodName) (bytes : ByteArray) (maxL : Nat) (ret : Option FieldType) (hh : List (Nat × Nat × Nat × Nat)) (ws : List Cond) (rm : Room) (mc ms n : Nat) : Prop :=
  (rm.cells = mc ∧ rm.slots = ms ∧ rm.frames + 1 ≤ R.frames ∧ 8 + (maxL + 11) + rm.locals ≤ R.locals ∧ (∀ w ∈ ws, ∀ (a' : Array Value) (U : State), s.WarmedH U.vm → w.before a' U = true) ∧ Cond.codeWith y bytes maxL ret hh ∈ ws) ∧
  (Cond.codeWith y bytes maxL ret hh).before args s = true ∧ (Cond.initialized y.cls).before args s = true ∧ (y.cls ≠ "java/lang/invoke/MethodHandle" ∧ y.cls ≠ "java/lang/invoke/VarHandle") ∧
  (∀ sig, parseMethodDescriptor y.desc = some sig → n = sig.parameters.length) ∧ (Cond.methodLink own index y).before args s = true ∧ (Cond.instanceMethod y).before args s = true ∧ (Cond.selects C y y).before args s = true
theorem vx_cwVW {own C : String} {index maxL mc ms : Nat} {y : MethodName} {bytes : ByteArray} {ret : Option FieldType} {hh : List (Nat × Nat × Nat × Nat)} {Ts ws ws' : List Cond} {rm : Room} (n : Nat) (ht : ∀ w ∈ Ts, w.before args s = true) (hT : GoodIn Ts (wsV own index C y ws)) (hw : ws = Cond.codeWith y bytes maxL ret hh :: ws') (hrc : rm.cells = mc) (hrs : rm.slots = ms)
    (hd : y.cls = C ∧ y.cls ≠ "java/lang/invoke/MethodHandle" ∧ y.cls ≠ "java/lang/invoke/VarHandle" ∧ (parseMethodDescriptor y.desc).map (fun d => d.parameters.length) = some n) (hR : rm.frames + 1 ≤ R.frames ∧ 8 + (maxL + 11) + rm.locals ≤ R.locals) :
    vx_CVW R s args own C index y bytes maxL ret hh ws rm mc ms n := by
  obtain ⟨hC, hd⟩ := hd
  subst hC
  have ok : ∀ w ∈ wsV own index y.cls y ws, w.before args s = true := fun w h => ht w (hT w h).1
  have hG : GoodIn Ts ws := fun w h => hT w (by unfold wsV; exact List.mem_append_right _ h)
  have hc : Cond.codeWith y bytes maxL ret hh ∈ ws := by rw [hw]; exact List.mem_cons_self
  refine ⟨⟨hrc, hrs, hR.1, hR.2, pay_in ht hG, hc⟩, ht _ (hG _ hc).1, ok _ (by simp [wsV]), ⟨hd.1, hd.2.1⟩, fun sig h => ?_, ok _ (by simp [wsV]), ok _ (by simp [wsV]), ok _ (by simp [wsV])⟩
  have h2 := hd.2.2
  rw [h] at h2
  exact (Option.some.inj h2).symm
theorem vx_runVW {y : MethodName} {bytes cc : ByteArray} {maxL nL mc ms n index : Nat} {ret : Option FieldType} {hh : List (Nat × Nat × Nat × Nat)} {ws : List Cond} {rm : Room} {Pc : Array Value → State → Prop} {Qc : Array Value → State → Outcome → State → Prop} {free : Addr → Prop} {Ts : List Cond} {own C : String} {b : Addr} {As rest : List Value} {g : JFrame}
    (S : CallFix p m c cc nL s args Ts own) (hM : Met l y ws rm Pc Qc mc ms free) (cw : vx_CVW R s args own C index y bytes maxL ret hh ws rm mc ms n) (hp : PreV s H C b Pc As)
    (hg : g.method = m) (hn : As.length = n) (hsize : g.locals.size = nL) (hstack : g.stack = As.reverse ++ .ref b :: rest) (hW : 2 * g.monitorRoom + (rest.map fun v => v.category).sum ≤ 8) (hdg : decode cc g.pc = .ok (.invokevirtual index, 3)) (hf : cells + mc ≤ R.cells ∧ slots + ms ≤ R.slots) :
    va_Run p l e R s m args below meth c H locs cells slots mc ms g rest (Qc (Value.ref b :: As).toArray) free := by
  obtain ⟨⟨hrc, hrs, hfr, hlo, hws, hcw⟩, hcode, hini, hy, hlen, hl, hin, hse⟩ := cw
  have hK : Back l R p e below s args y 3 8 (PreOf R mc ms Pc) (PostOf Qc mc ms free) := va_backW (hh := hh) (bytes := bytes) (maxL := maxL) (ret := ret) hM hp.1 hrc hrs hfr hlo hws hcw (fun a' U hW => word_at hW (Or.inl (by first | rfl | simp [Cond.onTables, Cond.keeps, Cond.steady])) hini)
  obtain ⟨hx, hb, hml, ho, -⟩ := S
  obtain ⟨-, ⟨cellB, hcB, hoB, hclB⟩, hPc⟩ := hp
  intro T hT X
  obtain ⟨v, vm₁, ⟨U', l2, c2, s2⟩, hW₁, X', ⟨g', mk, t, L, e1, e2, hq, h1, hL, h2, h3⟩, st⟩ := vx_callVW X hx (C := C) (hh := hh) (bytes := bytes) (maxL := maxL) (ret := ret) ho hl hin hse hcode hy hK (by rw [hT]; exact hcB) hoB hclB hg (hsize.trans hml.symm) (argsL := As) (rest := rest) (fun sig h => hn.trans (hlen sig h)) hstack hW (by rw [hb]; exact hdg)
    (fun vm₁ hW₁ => ⟨hf.1, hf.2, hPc (T.setVm vm₁) hT hW₁⟩)
  dsimp only [Pt.U, Pt.locs, Pt.cells, Pt.slots] at X' e1 e2 h1 h2 h3 st
  subst h1; subst h2; subst h3
  exact ⟨v, (T.setVm vm₁).calling g' mk (Value.ref b :: As).toArray, t, U', L, hT, X', hL, e1, e2, hq, st⟩
section
variable {y : MethodName} {bytes cc : ByteArray} {maxL nL mc ms n index : Nat} {ret : Option FieldType} {ws : List Cond} {rm : Room} {Pc : Array Value → State → Prop} {Qc : Array Value → State → Outcome → State → Prop} {XC : String → State → State → Prop} {free : Addr → Prop} {Ts : List Cond} {own C : String} {b : Addr} {As rest : List Value} {g : JFrame}
theorem vx_runVX {hh : List (Nat × Nat × Nat × Nat)} (S : CallFix p m c cc nL s args Ts own) (hM : vx_Met l y ws rm Pc Qc XC mc ms free) (cw : vx_CVW R s args own C index y bytes maxL ret hh ws rm mc ms n) (hp : PreV s H C b Pc As)
    (hg : g.method = m) (hn : As.length = n) (hsize : g.locals.size = nL) (hstack : g.stack = As.reverse ++ .ref b :: rest) (hW : 2 * g.monitorRoom + (rest.map fun v => v.category).sum ≤ 8) (hdg : decode cc g.pc = .ok (.invokevirtual index, 3)) (hf : cells + mc ≤ R.cells ∧ slots + ms ≤ R.slots) :
    vx_Run p l e R s m args below meth c H locs cells slots mc ms g rest (Qc (Value.ref b :: As).toArray) XC free := by
  obtain ⟨⟨hrc, hrs, hfr, hlo, hws, hcw⟩, hcode, hini, hy, hlen, hl, hin, hse⟩ := cw
  have hK : vx_Back l R p e below s args y 3 8 (PreOf R mc ms Pc) (PostOf Qc mc ms free) (vx_Post XC mc ms free) := vx_backW (hh := hh) (bytes := bytes) (maxL := maxL) (ret := ret) hM hp.1 hrc hrs hfr hlo hws hcw (fun a' U hW => word_at hW (Or.inl (by first | rfl | simp [Cond.onTables, Cond.keeps, Cond.steady])) hini)
  obtain ⟨hx, hb, hml, ho, -⟩ := S
  obtain ⟨-, ⟨cellB, hcB, hoB, hclB⟩, hPc⟩ := hp
  intro T hT X
  rcases vx_callVX X hx (C := C) (hh := hh) (bytes := bytes) (maxL := maxL) (ret := ret) ho hl hin hse hcode hy hK (by rw [hT]; exact hcB) hoB hclB hg (hsize.trans hml.symm) (argsL := As) (rest := rest) (fun sig h => hn.trans (hlen sig h)) hstack hW (by rw [hb]; exact hdg)
    (fun vm₁ hW₁ => ⟨hf.1, hf.2, hPc (T.setVm vm₁) hT hW₁⟩) with ⟨v, vm₁, ⟨U', l2, c2, s2⟩, hW₁, X', ⟨g', mk, t, L, e1, e2, hq, h1, hL, h2, h3⟩, st⟩ | ⟨q, vm₁, ⟨U', l2, c2, s2⟩, hW₁, X', ⟨g', mk, t, L, E, ce, e1, e2, hq, hce, hcv, hcl, h1, hL, h2, h3⟩, st⟩
  · dsimp only [Pt.U, Pt.locs, Pt.cells, Pt.slots] at X' e1 e2 h1 h2 h3 st
    subst h1; subst h2; subst h3
    exact Or.inl ⟨v, (T.setVm vm₁).calling g' mk (Value.ref b :: As).toArray, t, U', L, hT, X', hL, e1, e2, hq, st⟩
  · dsimp only [Pt.U, Pt.locs, Pt.cells, Pt.slots] at X' e1 e2 h1 h2 h3 st hcl
    subst h1; subst h2; subst h3
    exact Or.inr ⟨q, (T.setVm vm₁).calling g' mk (Value.ref b :: As).toArray, t, U', L, E, ce, hT, X', hL, e1, e2, hq, hce, hcv, vx_cls hW₁ hcl, st⟩
theorem vx_runSX {hh : List (Nat × Nat × Nat × Nat)} (S : CallFix p m c cc nL s args Ts own) (hM : vx_Met l y ws rm Pc Qc XC mc ms free) (cw : vx_CSW R s args own index y bytes maxL ret hh ws rm mc ms n) (hp : PreS s H Pc As)
    (hg : g.method = m) (hn : As.length = n) (hsize : g.locals.size = nL) (hstack : g.stack = As.reverse ++ rest) (hW : 2 * g.monitorRoom + (rest.map fun v => v.category).sum ≤ 8) (hdg : decode cc g.pc = .ok (.invokestatic index, 3)) (hf : cells + mc ≤ R.cells ∧ slots + ms ≤ R.slots) :
    vx_Run p l e R s m args below meth c H locs cells slots mc ms g rest (Qc As.toArray) XC free := by
  obtain ⟨⟨hrc, hrs, hfr, hlo, hws, hcw⟩, hcode, hini, hy, hlen, hl, hstt⟩ := cw
  have hK : vx_Back l R p e below s args y 3 8 (PreOf R mc ms Pc) (PostOf Qc mc ms free) (vx_Post XC mc ms free) := vx_backW (hh := hh) (bytes := bytes) (maxL := maxL) (ret := ret) hM hp.1 hrc hrs hfr hlo hws hcw (fun a' U hW => word_at hW (Or.inl (by first | rfl | simp [Cond.onTables, Cond.keeps, Cond.steady])) hini)
  obtain ⟨hx, hb, hml, ho, -⟩ := S
  intro T hT X
  rcases vx_callSX X hx (hh := hh) (bytes := bytes) (maxL := maxL) (ret := ret) ho hl hstt hini hcode hy hK hg (hsize.trans hml.symm) (argsL := As) (rest := rest) (fun sig h => hn.trans (hlen sig h)) hstack hW (by rw [hb]; exact hdg)
    (fun vm₁ hW₁ => ⟨hf.1, hf.2, hp.2 (T.setVm vm₁) hT hW₁⟩) with ⟨v, vm₁, ⟨U', l2, c2, s2⟩, hW₁, X', ⟨g', mk, t, L, e1, e2, hq, h1, hL, h2, h3⟩, st⟩ | ⟨q, vm₁, ⟨U', l2, c2, s2⟩, hW₁, X', ⟨g', mk, t, L, E, ce, e1, e2, hq, hce, hcv, hcl, h1, hL, h2, h3⟩, st⟩
  · dsimp only [Pt.U, Pt.locs, Pt.cells, Pt.slots] at X' e1 e2 h1 h2 h3 st
    subst h1; subst h2; subst h3
    exact Or.inl ⟨v, (T.setVm vm₁).calling g' mk As.toArray, t, U', L, hT, X', hL, e1, e2, hq, st⟩
  · dsimp only [Pt.U, Pt.locs, Pt.cells, Pt.slots] at X' e1 e2 h1 h2 h3 st hcl
    subst h1; subst h2; subst h3
    exact Or.inr ⟨q, (T.setVm vm₁).calling g' mk As.toArray, t, U', L, E, ce, hT, X', hL, e1, e2, hq, hce, hcv, vx_cls hW₁ hcl, st⟩
end
end VXH
theorem vx_ofWH {l : Launch} {y : MethodName} {ws ws' : List Cond} {rm : Room} {Pc : Array Value → State → Prop} {Qc : Array Value → State → Outcome → State → Prop} {XC : String → State → State → Prop} {mc ms : Nat} {free : Addr → Prop} {cc : ByteArray} {maxL : Nat} {ret : Option FieldType} {hh : List (Nat × Nat × Nat × Nat)}
    (hy : plainName y.cls = true) (hw : ws = Cond.codeWith y cc maxL ret hh :: ws')
    (body : ∀ p e s m args below meth c s₁, BodyLoose p l y (headSpec ws rm) cc maxL ret e s m args below meth c s₁ → c.maxLocals = maxL → Pc args s →
      W p l e (headSpec ws rm).room s m args below meth c s.heap [] 0 0 (vx_MQ below Qc XC args s mc ms free) (entryFrame m args maxL)) : vx_Met l y ws rm Pc Qc XC mc ms free := by
  refine MetFree.of_bodyS (code := cc) (maxLocals := maxL) (ret := ret) hy ?_ ?_
  · intro args s m h hn
    obtain ⟨m9, meth, c, hn9, h1, h2, h3, h4, -, h5, h6, -⟩ := Cond.codeWith_spec (atoms_spec (ws := ws) h _ (by rw [hw]; exact List.mem_cons_self))
    cases hn.symm.trans hn9
    exact ⟨meth, c, h1, h2, h3, h4, h5, h6⟩
  · intro p e s m args below meth c s₁ B hml hP _
    have hh0 : s₁.heap = s.heap := by rw [B.state]; rfl
    obtain ⟨t, a1, o, b1, b2, b3⟩ := body p e s m args below meth c s₁ B hml hP s₁ hh0 (Stand.of_body B)
    exact ⟨t, o, a1, b1, b2, b3⟩
/-! ===== END ===== -/

/-! ===== BEGIN what the machine throws by itself, no traces kept ===== -/
section VXM
set_option maxHeartbeats 1000000 in
/-- the machine throws cls with the message text, no traces kept: from its note over the frame g to 'throwing' over the same frame (follows the proofs of Stand.vmThrowsMessage, Shelf/KitTracedVmS.lean, and Stand.throwsMessageColdBareV, StandMessageColdV.lean, without the step out of the frame) -/
theorem vx_vmAt {p : Program} {l : Launch} {e : Env} {R : Room} {s : State} {m₀ : MethodId} {args : Array Value} {below : List Frame} {meth : Method} {c : Code} {W : State} {locs : List Loc} {cells slots : Nat}
    (X : Stand p l e R s m₀ args below meth c W locs cells slots) (hexec : p.tables.exec = Jvm.exec) (htr : e.platform.stackTraces = false) {cls : String} {names : List String} {text : String}
    (hcls : Bundle.fit cls = true) (hnames : ∀ n ∈ names, Bundle.fit n = true) (hsoe : (cls == "java/lang/StackOverflowError") = false) (hoom : (cls == "java/lang/OutOfMemoryError") = false)
    (h : ∀ a ∈ Bundle.messageArmAtoms cls names, a.before args s = true)
    (hlocs : ∀ x ∈ locs, ∀ cell, s.heap[x.base]? = some cell → cell.vm.isStatics = false)
    (htext : (text == notModelled) = false) (hlimit : ¬ (stringBytes (stringToUtf16 text)).size > e.platform.arrayLengthLimit) (hheap : ¬ (stringBytes (stringToUtf16 text)).size * componentBytes .byte > e.platform.maxHeapBytes)
    {g : JFrame} (hg : g.method = m₀) (hsize : g.locals.size = c.maxLocals)
    (hRframes : names.length + 4 < R.frames) (hRlocals : 2 * g.monitorRoom + (g.stack.map fun v => v.category).sum + 10240 ≤ R.locals) (hshort : 13 * names.length + 55 ≤ 10240)
    (hRcells : cells + 3 ≤ R.cells) (hRslots : slots + ((stringBytes (stringToUtf16 text)).size + 4 + 6) ≤ R.slots) (hlocks : meth.locks = false) :
    ∃ (S : State) (q : Addr) (ce : Cell), (∀ target, Steps p.tables e below ((S.setTop g).pushFrame (.throwing q)) target → Steps p.tables e below ((W.setTop g).pushFrame (.throwNew cls (some text) none)) target) ∧
      Stand p l e R s m₀ args below meth c S locs (cells + 3) (slots + ((stringBytes (stringToUtf16 text)).size + 4 + 6)) ∧ S.heap[q]? = some ce ∧ s.vm.findClass cls = some ce.cls ∧ ce.vm = .none := by
  have howns : e.platform.frameOwnsMonitors = true := by rw [X.admits.platform]
  have hfin : e.platform.finalization = false := by rw [X.admits.platform]
  have hpl : e.platform.magicAccessors = ({} : Platform).magicAccessors := by rw [X.admits.platform]
  have a : ∀ x, x ∈ Bundle.messageArmAtoms cls names → x.holds args s none s [] = true := fun x hx => h x hx
  obtain ⟨T, Z0, L, -, Y⟩ := ThrowableC.of_atoms (args := args) howns hfin hpl (fun x hx => h x (by simp [Bundle.messageArmAtoms, hx]))
  obtain ⟨Z, M, LZ, LM, hnZ⟩ := Init0T.ofS_atoms (args := args) hpl L Y (fun x hx => h x (by simp [Bundle.messageArmAtoms, hx]))
  obtain ⟨P1, Ps, hlen, L1, hL, hP1m, hlink1, hlink⟩ := Bundle.chainS (args := args) hpl hnZ names cls hcls hnames (fun x hx => h x (by simp [Bundle.messageArmAtoms, hx]))
  obtain ⟨Zs, LZs, hn4, hfitv, hfitc⟩ := StringT.of_atoms (args := args) (fun x hx => h x (by simp [Bundle.messageArmAtoms, hx]))
  have hfound : s.vm.findClass cls = some P1.m.cls := findClass_of_methodNamed hP1m
  obtain ⟨c1, kX, hc1, hk, hord, -, -, hn6⟩ := Cond.instantiable_spec (a (.instantiable cls 6) (by simp [Bundle.messageArmAtoms]))
  cases Option.some.inj (hc1.symm.trans hfound)
  have hinit := Cond.initialized_spec hfound hk (a (.initialized cls) (by simp [Bundle.messageArmAtoms]))
  have hctor : kX.findMethod "<init>" "(Ljava/lang/String;)V" = some P1.m.idx := findMethod_of_methodNamed hP1m hk
  have hsel0 : selectMethod e.platform s.vm P1.m.cls T.fill0 = .method T.fill0 := by
    obtain ⟨c2, r2, m2, q1, q2, q3, q4, -⟩ := Cond.selects_spec (a (.selects cls Bundle.tFill0 Bundle.tFill0) (by simp [Bundle.messageArmAtoms]))
    cases Option.some.inj (q1.symm.trans hfound)
    cases Option.some.inj (q2.symm.trans (State.methodFound?_of_named Y.fill0 (by decide)))
    cases Option.some.inj (q3.symm.trans Y.fill0)
    rw [Launch.admits_selectMethod X.admits]; exact q4
  have hselF : selectMethod e.platform s.vm P1.m.cls T.fill = .method T.fill := by
    obtain ⟨c2, r2, m2, q1, q2, q3, q4, -⟩ := Cond.selects_spec (a (.selects cls Bundle.tFill Bundle.tFill) (by simp [Bundle.messageArmAtoms]))
    cases Option.some.inj (q1.symm.trans hfound)
    cases Option.some.inj (q2.symm.trans (State.methodFound?_of_named Y.fill (by decide)))
    cases Option.some.inj (q3.symm.trans Y.fill)
    rw [Launch.admits_selectMethod X.admits]; exact q4
  obtain ⟨cellS0, hcS0, hiss⟩ := Y.statics
  obtain ⟨u0, hu0⟩ := Cond.staticRefV Y.unassigned L.unassignedStatic L.statics hcS0 hiss (a (.isRef (.static Bundle.tN "UNASSIGNED_STACK" Bundle.steD)) (by simp [Bundle.messageArmAtoms]))
  obtain ⟨sen, hsen⟩ := Cond.staticRefV Y.sentinel L.sentinelStatic L.statics hcS0 hiss (a (.isRef (.static Bundle.tN "SUPPRESSED_SENTINEL" Bundle.listD)) (by simp [Bundle.messageArmAtoms]))
  obtain ⟨ci198, i198, fB, hk198, hg198, ha198, hsB, -, hnB, htB, hffB⟩ := Cond.ownField (t := .object "java/lang/Object") Y.found L.cls (by decide +kernel) (a (.fieldLink Bundle.tN 198 Bundle.tN "backtrace" "Ljava/lang/Object;") (by simp [Bundle.messageArmAtoms])) (a (.lays Bundle.tN Bundle.tN "backtrace" "Ljava/lang/Object;") (by simp [Bundle.messageArmAtoms])) e.platform hpl
  obtain ⟨cellS, hcS', heS, -, hkeep⟩ := X.same.2.2.2.2.2 T.aS cellS0 hcS0
  have hcellS : W.heap[T.aS]? = some cellS := hcS'
  have hout' : ∀ i, (⟨T.aS, i⟩ : Loc) ∉ locs := fun i hmem => by
    have := hlocs _ hmem cellS0 hcS0
    rw [hiss] at this; cases this
  have hknownS : cellS.vm ≠ .unknown := by
    rw [heS]; intro hu
    rw [show cellS0.vm = .unknown from hu] at hiss
    cases hiss
  have hvU : cellS.slots[T.fUnassigned.slot]? = some u0.v := by rw [hkeep _ (hout' _)]; exact hu0
  have hvSen : cellS.slots[T.fSentinel.slot]? = some sen.v := by rw [hkeep _ (hout' _)]; exact hsen
  obtain ⟨iM, hffM⟩ := Y.msg
  obtain ⟨tyC, dC, hdC, hdnC⟩ := Cond.laysAt hfound hk Y.cause (a (.lays cls Bundle.tN "cause" "Ljava/lang/Throwable;") (by simp [Bundle.messageArmAtoms]))
  obtain ⟨tyS, dS, hdS, hdnS⟩ := Cond.laysAt hfound hk Y.stack (a (.lays cls Bundle.tN "stackTrace" Bundle.steD) (by simp [Bundle.messageArmAtoms]))
  obtain ⟨tyP, dP, hdP, hdnP⟩ := Cond.laysAt hfound hk Y.supp (a (.lays cls Bundle.tN "suppressedExceptions" Bundle.listD) (by simp [Bundle.messageArmAtoms]))
  obtain ⟨tyM, dM, hdM, hdnM⟩ := Cond.laysAt hfound hk hffM (a (.lays cls Bundle.tN "detailMessage" "Ljava/lang/String;") (by simp [Bundle.messageArmAtoms]))
  obtain ⟨tyB, dB, hdB, hdnB⟩ := Cond.laysAt hfound hk hffB (a (.lays cls Bundle.tN "backtrace" "Ljava/lang/Object;") (by simp [Bundle.messageArmAtoms]))
  have bC := Cond.laysApart hdB hdC hdnB hdnC (by rw [hnB, Y.causeName]; decide)
  have bS := Cond.laysApart hdB hdS hdnB hdnS (by rw [hnB, Y.stackName]; decide)
  have bP := Cond.laysApart hdB hdP hdnB hdnP (by rw [hnB, Y.suppName]; decide)
  have hbk : ((preparedCellV T.toThrowableT (freshCell P1.m.cls kX) (W.heap.size + 2) u0 sen).withEntry W.cur).slots[fB.slot]? = some .null := by
    have := fresh_default (c := P1.m.cls) tyB
    rw [htB] at this
    simpa [preparedCellV, Cell.setSlot, Cell.withEntry, Array.getElem?_setIfInBounds, bC, bS, bP, bC.symm, bS.symm, bP.symm, defaultValue] using this
  have tkC := Takes.of_laid (v := .ref (W.heap.size + 2)) hk hord tyC (by rw [Y.causeType]; rfl)
  have tkS := Takes.of_laid (v := u0.v) hk hord tyS (by rw [Y.stackType]; exact fits_refV_array _ u0)
  have tkP := Takes.of_laid (v := sen.v) hk hord tyP (by rw [Y.suppType]; exact fits_refV_object _ sen)
  have tkM := Takes.of_laid (v := .ref (W.heap.size + 1)) hk hord tyM (by rw [Y.msgType]; rfl)
  have hskip : SkipFacts T e.platform s (fun u => u) u0 ((preparedCellV T.toThrowableT (freshCell P1.m.cls kX) (W.heap.size + 2) u0 sen).withEntry W.cur) := ⟨{ ci198 := ci198, i198 := i198, fBack := fB }, ⟨hk198, hg198, ha198, hsB⟩, hbk, fun _ _ => rfl⟩
  have h0 : At W g.method c below := by rw [hg]; exact X.here
  obtain ⟨hbeyond, hfreeW⟩ := X.vmMayThrow hsize (.throwNew cls (some text) none) (fun f hf => by cases hf) rfl hRlocals
  have hfr' : W.frames.length + Ps.length + 4 < (e.platform.stackLimits W.me).1 := by have := X.framesAbove hRframes; omega
  have hwd' : (stackUse (.java g :: W.frames.tail)).2 + 13 * Ps.length + 55 ≤ (e.platform.stackLimits W.me).2 := by have := X.stackAbove hsize (K := 13 * Ps.length + 55) (by omega); omega
  have hslots : W.slotsUsed + (stringBytes (stringToUtf16 text)).size + Zs.kS.instanceTypes.size + kX.instanceTypes.size ≤ e.platform.maxSlots := by
    have := X.slotsAbove hRslots
    rw [hn4, hn6]
    omega
  obtain ⟨vm', hW', st⟩ := Steps.vmThrowsMessageColdByV p (s₀ := s) (S := W) (g := g) h0 hexec T L Z LZ M LM X.warmed (t := W.cur) rfl Zs LZs P1 L1 Ps hL hlink1 hlink hsoe hoom hfound hk hinit hord hctor
    (Launch.admits_hotImplicitExceptions X.admits) hbeyond hfreeW htext hlimit hheap (X.cellsAbove hRcells) hslots (hfitv _) (hfitc _)
    (Nn := fun u => u) heapOnly_id (fun _ _ => rfl) (fun _ => rfl) (fun u x y => setCell_twice _ _ _ _) (fun _ => Nat.le_refl _) (cN := ((preparedCellV T.toThrowableT (freshCell P1.m.cls kX) (W.heap.size + 2) u0 sen).withEntry W.cur))
    hsel0 hcellS hknownS hvU tkS (fun _ hu => hu) (fun _ hu => hu) rfl rfl rfl (by simp [preparedCellV, Cell.setSlot, Cell.withEntry]) hskip (fun _ _ hA hW _ hroom _ hrest => L.nativeOff p htr hA hW hroom hrest) hselF hvSen tkC tkP tkM Y.objLocals rfl hfr' hwd'
  rw [plainBareV_eq T.toThrowableT (W.heap.size + 2) u0 sen (.ref (W.heap.size + 1)) W.cur rfl rfl] at st
  obtain ⟨-, -, w3, w4, -, -, -⟩ := withThrown_facts e.platform W Zs text P1.m.cls kX
  have X3 := ((X.pushed (bytesOf Zs.cB (stringToUtf16 text))).pushed (stringAt Zs.cS Zs.kS Zs.fv Zs.fc (stringToUtf16 text) W.heap.size)).pushed (freshCell P1.m.cls kX)
  rw [← withString_eq] at X3
  have X4 := X3.noted hW'
  have ha : (W.heap.size + 2) < ((withThrown W Zs text P1.m.cls kX).setVm vm').heap.size := by show _ < (withThrown W Zs text P1.m.cls kX).heap.size; rw [w3]; omega
  have hcell : ((withThrown W Zs text P1.m.cls kX).setVm vm').heap[(W.heap.size + 2)]? = some (freshCell P1.m.cls kX) := w4
  have X5 := ((((X4.stored hcell T.fCause.slot (.ref (W.heap.size + 2))).storedAgain ha T.fStack.slot u0.v).storedAgain ha T.fSupp.slot sen.v).storedAgain ha T.fStack.slot u0.v).storedAgain ha T.fMsg.slot (.ref (W.heap.size + 1))
  obtain ⟨g₁, hfrM⟩ := X5.frames_eq
  have hU : ((((withThrown W Zs text P1.m.cls kX).setVm vm').setCell (W.heap.size + 2) (plainBareV T.toThrowableT (freshCell P1.m.cls kX) (W.heap.size + 2) u0 sen (.ref (W.heap.size + 1)))).setTop g).pushFrame (.throwing (W.heap.size + 2)) = (((withThrown W Zs text P1.m.cls kX).setVm vm').setCell (W.heap.size + 2) (plainBareV T.toThrowableT (freshCell P1.m.cls kX) (W.heap.size + 2) u0 sen (.ref (W.heap.size + 1)))).setFrames (.throwing (W.heap.size + 2) :: .java g :: below) := by
    rw [State.pushFrame, State.frames_setTop _ hfrM, State.setTop_of_frames _ hfrM, State.setFrames_setFrames]
  have b1 : (bytesOf Zs.cB (stringToUtf16 text)).slots.size = (stringBytes (stringToUtf16 text)).size := by
    rw [(Cell.writeAll_facts _ _).2.2]; simp [bytes0]
  have b2 : (stringAt Zs.cS Zs.kS Zs.fv Zs.fc (stringToUtf16 text) W.heap.size).slots.size = 4 := by simp [string0, Cell.setSlot, hn4]
  have b3 : (freshCell P1.m.cls kX).slots.size = 6 := by simp [hn6]
  rw [b1, b2, b3] at X5
  have e9 : slots + (stringBytes (stringToUtf16 text)).size + 4 + 6 = slots + ((stringBytes (stringToUtf16 text)).size + 4 + 6) := by omega
  rw [e9] at X5
  simp only [List.append_assoc, List.cons_append, List.nil_append] at X5
  refine ⟨((withThrown W Zs text P1.m.cls kX).setVm vm').setCell (W.heap.size + 2) (plainBareV T.toThrowableT (freshCell P1.m.cls kX) (W.heap.size + 2) u0 sen (.ref (W.heap.size + 1))), W.heap.size + 2, _, fun target ht => st _ (by rw [X.tail, ← hU]; exact ht),
    X5.forget (fun y hy => ?_), heapAt_setCell_self _ ha, hfound, rfl⟩
  simp only [List.mem_cons, List.not_mem_nil, or_false] at hy
  have hge : s.heap.size ≤ W.heap.size := X.same.2.1
  rcases hy with rfl | rfl | rfl | rfl | rfl <;> exact Nat.le_trans hge (Nat.le_add_right _ 2)
set_option maxHeartbeats 1000000 in
/-- the machine throws NullPointerException, no traces kept: from its note over the frame g to 'throwing' over the same frame (follows the proof of Stand.vmThrowsNpe, Shelf42/KT2.lean; throwsNpeColdBareVAt, Shelf42/NT91.lean, called) -/
theorem vx_npeAt {p : Program} {l : Launch} {e : Env} {R : Room} {s : State} {m₀ : MethodId} {args : Array Value} {below : List Frame} {meth : Method} {c : Code} {W : State} {locs : List Loc} {cells slots : Nat}
    (X : Stand p l e R s m₀ args below meth c W locs cells slots) (hexec : p.tables.exec = Jvm.exec) (htr : e.platform.stackTraces = false) {n : Nat}
    (h : ∀ a ∈ Bundle.npeArmAtoms n, a.before args s = true)
    (hlocs : ∀ x ∈ locs, ∀ cell, s.heap[x.base]? = some cell → cell.vm.isStatics = false)
    {g : JFrame} (hg : g.method = m₀) (hsize : g.locals.size = c.maxLocals)
    (hRframes : 7 < R.frames) (hRlocals : 2 * g.monitorRoom + (g.stack.map fun v => v.category).sum + 10240 ≤ R.locals)
    (hRcells : cells + 1 ≤ R.cells) (hRslots : slots + n ≤ R.slots) (hlocks : meth.locks = false) :
    ∃ (S : State) (q : Addr) (ce : Cell), (∀ target, Steps p.tables e below ((S.setTop g).pushFrame (.throwing q)) target → Steps p.tables e below ((W.setTop g).pushFrame (.throwNew "java/lang/NullPointerException" none none)) target) ∧
      Stand p l e R s m₀ args below meth c S locs (cells + 1) (slots + n) ∧ S.heap[q]? = some ce ∧ s.vm.findClass "java/lang/NullPointerException" = some ce.cls ∧ ce.vm = .none := by
  have howns : e.platform.frameOwnsMonitors = true := by rw [X.admits.platform]
  have hfin : e.platform.finalization = false := by rw [X.admits.platform]
  have hpl : e.platform.magicAccessors = ({} : Platform).magicAccessors := by rw [X.admits.platform]
  have hpl2 : e.platform.arrayCloneIsPublic = true := by rw [X.admits.platform]
  have a' : ∀ x, x ∈ Bundle.npeArmAtoms n → x.holds args s none s [] = true := fun x hx => h x hx
  obtain ⟨T, Z, L, LZ, Y⟩ := ThrowableC.of_atoms (args := args) howns hfin hpl (fun x hx => h x (by simp [Bundle.npeArmAtoms, hx]))
  obtain ⟨N, LN, hcN, hnNF, hordN, hffS⟩ := NpeC.of_atoms (args := args) hpl hpl2 L Y (fun x hx => h x (by simp [Bundle.npeArmAtoms, hx]))
  obtain ⟨P1, L1, hP1m, hP1s⟩ := PassC.of_atoms (args := args) (s := s) hpl (X := Bundle.nN) (Y := Bundle.rN) (by decide) (by decide) LibCode.NullPointerException.Init0.at_0 LibCode.NullPointerException.Init0.at_1 LibCode.NullPointerException.Init0.at_4 (fun x hx => h x (by simp [Bundle.npeArmAtoms, hx]))
  obtain ⟨PR, LR, hPRm, hPRs⟩ := PassC.of_atoms (args := args) (s := s) hpl (X := Bundle.rN) (Y := Bundle.eN) (by decide) (by decide) LibCode.RuntimeException.Init0.at_0 LibCode.RuntimeException.Init0.at_1 LibCode.RuntimeException.Init0.at_4 (fun x hx => h x (by simp [Bundle.npeArmAtoms, hx]))
  obtain ⟨PE, LEx, hPEm, hPEs⟩ := PassC.of_atoms (args := args) (s := s) hpl (X := Bundle.eN) (Y := Bundle.tN) (by decide) (by decide) LibCode.Exception.Init0.at_0 LibCode.Exception.Init0.at_1 LibCode.Exception.Init0.at_4 (fun x hx => h x (by simp [Bundle.npeArmAtoms, hx]))
  have hfound : s.vm.findClass Bundle.nN = some P1.m.cls := findClass_of_methodNamed hP1m
  have ecls : N.cN = P1.m.cls := Option.some.inj (hcN.symm.trans hfound)
  have hk : s.vm.classes[P1.m.cls]? = some N.kN := by rw [← ecls]; exact LN.cls
  have hinit := Cond.initialized_spec hfound hk (a' (.initialized Bundle.nN) (by simp [Bundle.npeArmAtoms]))
  have hctor : N.kN.findMethod "<init>" "()V" = some P1.m.idx := findMethod_of_methodNamed hP1m hk
  obtain ⟨c1, k1, hc1, hk1, -, -, -, hn⟩ := Cond.instantiable_spec (a' (.instantiable Bundle.nN n) (by simp [Bundle.npeArmAtoms]))
  cases Option.some.inj (hc1.symm.trans hfound)
  cases Option.some.inj (hk1.symm.trans hk)
  have hfsz : (freshCell P1.m.cls N.kN).slots.size = n := by simp [hn]
  have hlink1 : P1.sup = PR.m := Option.some.inj (hP1s.symm.trans hPRm)
  have hlinkR : PR.sup = PE.m := Option.some.inj (hPRs.symm.trans hPEm)
  have hlinkE : PE.sup = Z.m T.toThrowableT := Option.some.inj (hPEs.symm.trans Y.init0)
  have hLs : ∀ P, P ∈ [PR, PE] → P.Links0 e.platform s := fun P hP => by
    simp only [List.mem_cons, List.not_mem_nil, or_false] at hP
    rcases hP with rfl | rfl
    · exact LR
    · exact LEx
  have hsel0 : selectMethod e.platform s.vm P1.m.cls T.fill0 = .method T.fill0 := by
    obtain ⟨c2, r2, m2, q1, q2, q3, q4, -⟩ := Cond.selects_spec (a' (.selects Bundle.nN Bundle.tFill0 Bundle.tFill0) (by simp [Bundle.npeArmAtoms]))
    cases Option.some.inj (q1.symm.trans hfound)
    cases Option.some.inj (q2.symm.trans (State.methodFound?_of_named Y.fill0 (by decide)))
    cases Option.some.inj (q3.symm.trans Y.fill0)
    rw [Launch.admits_selectMethod X.admits]; exact q4
  have hselF : selectMethod e.platform s.vm P1.m.cls T.fill = .method N.fill := by
    obtain ⟨c2, r2, m2, q1, q2, q3, q4, -⟩ := Cond.selects_spec (a' (.selects Bundle.nN Bundle.tFill Bundle.nFill) (by simp [Bundle.npeArmAtoms]))
    cases Option.some.inj (q1.symm.trans hfound)
    cases Option.some.inj (q2.symm.trans (State.methodFound?_of_named Y.fill (by decide)))
    cases Option.some.inj (q3.symm.trans hnNF)
    rw [Launch.admits_selectMethod X.admits]; exact q4
  obtain ⟨cellS0, hcS0, hiss⟩ := Y.statics
  obtain ⟨u0, hu0⟩ := Cond.staticRefV Y.unassigned L.unassignedStatic L.statics hcS0 hiss (a' (.isRef (.static Bundle.tN "UNASSIGNED_STACK" Bundle.steD)) (by simp [Bundle.npeArmAtoms]))
  obtain ⟨sen, hsen⟩ := Cond.staticRefV Y.sentinel L.sentinelStatic L.statics hcS0 hiss (a' (.isRef (.static Bundle.tN "SUPPRESSED_SENTINEL" Bundle.listD)) (by simp [Bundle.npeArmAtoms]))
  obtain ⟨ci198, i198, fB, hk198, hg198, ha198, hsB, -, hnB, htB, hffB⟩ := Cond.ownField (t := .object "java/lang/Object") Y.found L.cls (by decide +kernel) (a' (.fieldLink Bundle.tN 198 Bundle.tN "backtrace" Bundle.objD) (by simp [Bundle.npeArmAtoms])) (a' (.lays Bundle.tN Bundle.tN "backtrace" Bundle.objD) (by simp [Bundle.npeArmAtoms])) e.platform hpl
  obtain ⟨cellS, hcS', heS, -, hkeep⟩ := X.same.2.2.2.2.2 T.aS cellS0 hcS0
  have hcellS : W.heap[T.aS]? = some cellS := hcS'
  have hout' : ∀ i, (⟨T.aS, i⟩ : Loc) ∉ locs := fun i hmem => by
    have := hlocs _ hmem cellS0 hcS0
    rw [hiss] at this; cases this
  have hknownS : cellS.vm ≠ .unknown := by
    rw [heS]; intro hu
    rw [show cellS0.vm = .unknown from hu] at hiss
    cases hiss
  have hvU : cellS.slots[T.fUnassigned.slot]? = some u0.v := by rw [hkeep _ (hout' _)]; exact hu0
  have hvSen : cellS.slots[T.fSentinel.slot]? = some sen.v := by rw [hkeep _ (hout' _)]; exact hsen
  obtain ⟨tyC, dC, hdC, hdnC⟩ := Cond.laysAt hfound hk Y.cause (a' (.lays Bundle.nN Bundle.tN "cause" "Ljava/lang/Throwable;") (by simp [Bundle.npeArmAtoms]))
  obtain ⟨tyS, dS, hdS, hdnS⟩ := Cond.laysAt hfound hk Y.stack (a' (.lays Bundle.nN Bundle.tN "stackTrace" Bundle.steD) (by simp [Bundle.npeArmAtoms]))
  obtain ⟨tyP, dP, hdP, hdnP⟩ := Cond.laysAt hfound hk Y.supp (a' (.lays Bundle.nN Bundle.tN "suppressedExceptions" Bundle.listD) (by simp [Bundle.npeArmAtoms]))
  obtain ⟨tyX, dX, hdX, hdnX⟩ := Cond.laysAt hfound hk hffS (a' (.lays Bundle.nN Bundle.nN "extendedMessageState" "I") (by simp [Bundle.npeArmAtoms, Bundle.npeAtoms]))
  obtain ⟨hnX, htX⟩ := State.fieldFound?_type hffS (t := .int) (by decide +kernel)
  have xC := Cond.laysApart hdC hdX hdnC hdnX (by rw [hnX, Y.causeName]; decide)
  have xS := Cond.laysApart hdS hdX hdnS hdnX (by rw [hnX, Y.stackName]; decide)
  have xP := Cond.laysApart hdP hdX hdnP hdnX (by rw [hnX, Y.suppName]; decide)
  have hv0 : (freshCell P1.m.cls N.kN).slots[N.fState.slot]? = some (.int 0) := by
    have := fresh_default (c := P1.m.cls) tyX
    rw [htX] at this; exact this
  obtain ⟨tyB, dB, hdB, hdnB⟩ := Cond.laysAt hfound hk hffB (a' (.lays Bundle.nN Bundle.tN "backtrace" Bundle.objD) (by simp [Bundle.npeArmAtoms]))
  have bC := Cond.laysApart hdB hdC hdnB hdnC (by rw [hnB, Y.causeName]; decide)
  have bS := Cond.laysApart hdB hdS hdnB hdnS (by rw [hnB, Y.stackName]; decide)
  have bP := Cond.laysApart hdB hdP hdnB hdnP (by rw [hnB, Y.suppName]; decide)
  have bX := Cond.laysApart hdB hdX hdnB hdnX (by rw [hnB, hnX]; decide)
  have hbk : ((npeCell N.toNpeT (preparedCellV T.toThrowableT (freshCell P1.m.cls N.kN) W.heap.size u0 sen) W.cur).withEntry W.cur).slots[fB.slot]? = some .null := by
    have := fresh_default (c := P1.m.cls) tyB
    rw [htB] at this
    simpa [npeCell, preparedCellV, Cell.setSlot, Cell.withEntry, Array.getElem?_setIfInBounds, bC, bS, bP, bX, bC.symm, bS.symm, bP.symm, bX.symm, defaultValue] using this
  have tkC := Takes.of_laid (v := .ref W.heap.size) hk hordN tyC (by rw [Y.causeType]; rfl)
  have tkS := Takes.of_laid (v := u0.v) hk hordN tyS (by rw [Y.stackType]; exact fits_refV_array _ u0)
  have tkP := Takes.of_laid (v := sen.v) hk hordN tyP (by rw [Y.suppType]; exact fits_refV_object _ sen)
  have tkX := Takes.of_laid (v := .int 1) hk hordN tyX (by rw [htX]; rfl)
  have hskip : SkipFacts T e.platform s (fun u => u) u0 ((npeCell N.toNpeT (preparedCellV T.toThrowableT (freshCell P1.m.cls N.kN) W.heap.size u0 sen) W.cur).withEntry W.cur) := ⟨{ ci198 := ci198, i198 := i198, fBack := fB }, ⟨hk198, hg198, ha198, hsB⟩, hbk, fun _ _ => rfl⟩
  obtain ⟨vm', X3, st, -⟩ := X.throwsNpeColdBareVAt hexec hg hsize T L Z LZ N LN P1 L1 [PR, PE] hLs hlink1 ⟨hlinkR, hlinkE, trivial⟩ hfound hk hinit hordN hctor hsel0 hselF hcellS hknownS hvU hvSen
    hv0 xC xS xP tkC tkS tkP tkX Y.objLocals hskip (fun _ _ hA hW _ hroom _ hrest => L.nativeOff p htr hA hW hroom hrest) (by simpa using hRframes) hRlocals (by simp) hRcells (by rw [hn]; exact hRslots)
  have hlt : W.heap.size < ((W.pushCell (freshCell P1.m.cls N.kN)).setVm vm').heap.size := by
    show W.heap.size < (W.pushCell (freshCell P1.m.cls N.kN)).heap.size
    rw [State.heap_size_pushCell]; omega
  rw [hfsz] at X3
  obtain ⟨g₁, hfrM⟩ := X3.frames_eq
  have hU : ((((W.pushCell (freshCell P1.m.cls N.kN)).setVm vm').setCell W.heap.size (npeBareV T.toThrowableT N.toNpeT (freshCell P1.m.cls N.kN) W.heap.size u0 sen)).setTop g).pushFrame (.throwing W.heap.size) = (((W.pushCell (freshCell P1.m.cls N.kN)).setVm vm').setCell W.heap.size (npeBareV T.toThrowableT N.toNpeT (freshCell P1.m.cls N.kN) W.heap.size u0 sen)).setFrames (.throwing W.heap.size :: .java g :: below) := by
    rw [State.pushFrame, State.frames_setTop _ hfrM, State.setTop_of_frames _ hfrM, State.setFrames_setFrames]
  refine ⟨_, W.heap.size, _, fun target ht => st.trans (by rw [← hU]; exact ht), X3.forget (fun y hy => ?_), heapAt_setCell_self _ hlt, hfound, rfl⟩
  simp only [List.mem_cons, List.not_mem_nil, or_false] at hy
  have hge : s.heap.size ≤ W.heap.size := X.same.2.1
  rcases hy with rfl | rfl | rfl | rfl | rfl <;> exact hge
/-- the words of a machine's NullPointerException, but the four that speak of the heap -/
def vx_atN (n : Nat) : List Cond := (Bundle.npeArmAtoms n).filter vx_no
/-- the words of a machine's throw with a message, but the four that speak of the heap -/
def vx_atM (X : String) (names : List String) : List Cond := (Bundle.messageArmAtoms X names).filter vx_no
section
variable {p : Program} {l : Launch} {e : Env} {R : Room} {s : State} {m : MethodId} {args : Array Value} {below : List Frame} {meth : Method} {c : Code} {H : Heap} {locs : List Loc} {cells slots : Nat}
/-- a frame seen from a rebased start, seen from the first start again -/
theorem vx_back9 {T S : State} {R' : Room} {k n : Nat} (X : Stand p l e R s m args below meth c T locs cells slots) (Y : Stand p l e R' ((T.setVm s.vm).setFrames (.invoking m args :: below)) m args below meth c T [] 0 0) (Z : Stand p l e R' ((T.setVm s.vm).setFrames (.invoking m args :: below)) m args below meth c S [] k n) :
    Stand p l e R s m args below meth c S locs (cells + k) (slots + n) := by
  have hW0 : s.WarmedH ((T.setVm s.vm).setFrames (.invoking m args :: below)).vm := State.WarmedH.refl s
  refine { admits := X.admits, cas := X.cas, clock := X.clock, frames := X.frames, room := X.room, hears := X.hears, method := X.method, code := X.code, here := Z.here, tail := Z.tail, warmed := State.WarmedH.trans hW0 Z.warmed, limits := Z.limits.trans (Y.limits.symm.trans X.limits), bytes := Z.bytes.trans (Y.bytes.symm.trans X.bytes), same := ?_ }
  obtain ⟨e1, e2⟩ := Z.same
  rw [State.setFrames_setFrames] at e1
  have h2 : (T.setVm s.vm).sameButNew (S.setVm s.vm) [] k n := ⟨e1, e2⟩
  have h3 := X.same.trans h2
  rw [List.append_nil] at h3
  exact h3
/-- from the machine's note that E is thrown here with this text -/
def vx_Note (p : Program) (l : Launch) (e : Env) (R : Room) (s : State) (m : MethodId) (args : Array Value) (below : List Frame) (meth : Method) (c : Code) (H : Heap) (locs : List Loc) (cells slots : Nat) (Q : State → Prop) (g : JFrame) (E text : String) : Prop :=
  ∀ T : State, T.heap = H → Stand p l e R s m args below meth c T locs cells slots → ∃ t, Steps p.tables e below ((T.setTop g).pushFrame (.throwNew E (some text) none)) t ∧ Q t
theorem vx_vm {pc : Nat} {ls : Array Slot} {rest : List Value} {Q : State → Prop} (hexec : p.tables.exec = Jvm.exec) (hl : l.stackTraces = false) {cls text : String} {names : List String} {nb : Nat} {A : Nat → Prop}
    (hcls : Bundle.fit cls = true) (hnames : ∀ n ∈ names, Bundle.fit n = true) (hsoe : (cls == "java/lang/StackOverflowError") = false) (hoom : (cls == "java/lang/OutOfMemoryError") = false)
    (hat : ∀ w ∈ vx_atM cls names, w.before args s = true) (hgood : ∀ w ∈ vx_atM cls names, vx_ot w = true)
    (hU : vx_Zq Bundle.tN "UNASSIGNED_STACK" Bundle.steD A s s.heap) (hN : vx_Zq Bundle.tN "SUPPRESSED_SENTINEL" Bundle.listD A s s.heap) (hS : va_S A s.heap H locs) (hsize : ls.size = c.maxLocals)
    (htext : (text == notModelled) = false) (hnb : (stringBytes (stringToUtf16 text)).size ≤ nb) (hnb1 : nb ≤ 1000)
    (hRframes : names.length + 4 < R.frames) (hRlocals : (rest.map fun v => v.category).sum + 10240 ≤ R.locals) (hshort : 13 * names.length + 55 ≤ 10240) (hRcells : cells + 3 ≤ R.cells) (hRslots : slots + (nb + 10) ≤ R.slots) (hlocks : meth.locks = false)
    (k : ∀ (H1 : Heap) (q9 : Addr) (ce : Cell), H.size ≤ H1.size → (∀ q : Nat, q < H.size → H1[q]? = H[q]?) → va_S A s.heap H1 locs → H1[q9]? = some ce → ce.vm = .none → s.vm.findClass cls = some ce.cls → vx_W p l e R s m args below meth c H1 locs (cells + 3) (slots + (nb + 10)) Q (F0 m pc ls rest) q9) :
    vx_Note p l e R s m args below meth c H locs cells slots Q (F0 m pc ls rest) cls text := by
  intro T hT X
  have htr : e.platform.stackTraces = false := (show e.platform.stackTraces = l.stackTraces by rw [X.admits.platform]).trans hl
  have Y := vx_rebase X (R' := { frames := R.frames, locals := R.locals, cells := 3, slots := nb + 10 }) (Nat.le_refl _) (Nat.le_refl _) hRcells hRslots
  have hhp : ((T.setVm s.vm).setFrames (.invoking m args :: below)).heap = H := hT
  have hW0 : s.WarmedH ((T.setVm s.vm).setFrames (.invoking m args :: below)).vm := State.WarmedH.refl s
  have hat' : ∀ w ∈ vx_atM cls names, w.before args ((T.setVm s.vm).setFrames (.invoking m args :: below)) = true := fun w hw => vx_ot_at hW0 rfl (hgood w hw) (hat w hw)
  have hU' : vx_Zq Bundle.tN "UNASSIGNED_STACK" Bundle.steD A ((T.setVm s.vm).setFrames (.invoking m args :: below)) ((T.setVm s.vm).setFrames (.invoking m args :: below)).heap := by rw [hhp]; exact vx_Zq.moved hW0.alike (hU.kept hS.2.1)
  have hN' : vx_Zq Bundle.tN "SUPPRESSED_SENTINEL" Bundle.listD A ((T.setVm s.vm).setFrames (.invoking m args :: below)) ((T.setVm s.vm).setFrames (.invoking m args :: below)).heap := by rw [hhp]; exact vx_Zq.moved hW0.alike (hN.kept hS.2.1)
  obtain ⟨S, q, ce, st, Z, hce, hcl', hv⟩ := vx_vmAt Y hexec htr (cls := cls) (names := names) (text := text) hcls hnames hsoe hoom (vx_own hat' (vx_isRefq hU'.1) (vx_isRefq hN'.1) hU'.2.word hN'.2.word) (fun x hx => nomatch hx) htext
    (by rw [Launch.admits_arrayLengthLimit X.admits]; omega) (by rw [Launch.admits_maxHeapBytes X.admits]; simp only [componentBytes]; omega)
    (g := F0 m pc ls rest) rfl hsize hRframes (by show 2 * 0 + (rest.map fun v => v.category).sum + 10240 ≤ R.locals; omega) hshort (by show 0 + 3 ≤ 3; omega) (by show 0 + (_ + 4 + 6) ≤ nb + 10; omega) hlocks
  obtain ⟨f1, f2⟩ := vx_frame Z.same
  have f1' : H.size ≤ S.heap.size := by rw [← hT]; exact f1
  have f2' : ∀ q : Nat, q < H.size → S.heap[q]? = H[q]? := fun q hq => by
    rw [← hT]
    exact f2 q (by rw [← hT] at hq; exact hq) (fun z hz => nomatch hz)
  have X5 := vx_back9 X Y Z
  have X6 : Stand p l e R s m args below meth c S locs (cells + 3) (slots + (nb + 10)) := { X5 with same := X5.same.mono (by omega) (by omega) }
  obtain ⟨t, a1, b1⟩ := k S.heap q ce f1' f2' ⟨Nat.le_trans hS.1 f1', fun q h1 h2 => (f2' q (Nat.lt_of_lt_of_le h1 hS.1)).trans (hS.2.1 q h1 h2), hS.2.2⟩ hce hv hcl' S rfl X6
  exact ⟨t, st t a1, b1⟩
/-- from the machine's note that NullPointerException is thrown here -/
def vx_NoteN (p : Program) (l : Launch) (e : Env) (R : Room) (s : State) (m : MethodId) (args : Array Value) (below : List Frame) (meth : Method) (c : Code) (H : Heap) (locs : List Loc) (cells slots : Nat) (Q : State → Prop) (g : JFrame) : Prop :=
  ∀ T : State, T.heap = H → Stand p l e R s m args below meth c T locs cells slots → ∃ t, Steps p.tables e below ((T.setTop g).pushFrame (.throwNew "java/lang/NullPointerException" none none)) t ∧ Q t
theorem vx_npe {pc : Nat} {ls : Array Slot} {rest : List Value} {Q : State → Prop} (hexec : p.tables.exec = Jvm.exec) (hl : l.stackTraces = false) {nb : Nat} {A : Nat → Prop}
    (hat : ∀ w ∈ vx_atN nb, w.before args s = true) (hgood : ∀ w ∈ vx_atN nb, vx_ot w = true)
    (hU : vx_Zq Bundle.tN "UNASSIGNED_STACK" Bundle.steD A s s.heap) (hN : vx_Zq Bundle.tN "SUPPRESSED_SENTINEL" Bundle.listD A s s.heap) (hS : va_S A s.heap H locs) (hsize : ls.size = c.maxLocals)
    (hRframes : 7 < R.frames) (hRlocals : (rest.map fun v => v.category).sum + 10240 ≤ R.locals) (hRcells : cells + 1 ≤ R.cells) (hRslots : slots + nb ≤ R.slots) (hlocks : meth.locks = false)
    (k : ∀ (H1 : Heap) (q9 : Addr) (ce : Cell), H.size ≤ H1.size → (∀ q : Nat, q < H.size → H1[q]? = H[q]?) → va_S A s.heap H1 locs → H1[q9]? = some ce → ce.vm = .none → s.vm.findClass "java/lang/NullPointerException" = some ce.cls → vx_W p l e R s m args below meth c H1 locs (cells + 1) (slots + nb) Q (F0 m pc ls rest) q9) :
    vx_NoteN p l e R s m args below meth c H locs cells slots Q (F0 m pc ls rest) := by
  intro T hT X
  have htr : e.platform.stackTraces = false := (show e.platform.stackTraces = l.stackTraces by rw [X.admits.platform]).trans hl
  have Y := vx_rebase X (R' := { frames := R.frames, locals := R.locals, cells := 1, slots := nb }) (Nat.le_refl _) (Nat.le_refl _) hRcells hRslots
  have hhp : ((T.setVm s.vm).setFrames (.invoking m args :: below)).heap = H := hT
  have hW0 : s.WarmedH ((T.setVm s.vm).setFrames (.invoking m args :: below)).vm := State.WarmedH.refl s
  have hat' : ∀ w ∈ vx_atN nb, w.before args ((T.setVm s.vm).setFrames (.invoking m args :: below)) = true := fun w hw => vx_ot_at hW0 rfl (hgood w hw) (hat w hw)
  have hU' : vx_Zq Bundle.tN "UNASSIGNED_STACK" Bundle.steD A ((T.setVm s.vm).setFrames (.invoking m args :: below)) ((T.setVm s.vm).setFrames (.invoking m args :: below)).heap := by rw [hhp]; exact vx_Zq.moved hW0.alike (hU.kept hS.2.1)
  have hN' : vx_Zq Bundle.tN "SUPPRESSED_SENTINEL" Bundle.listD A ((T.setVm s.vm).setFrames (.invoking m args :: below)) ((T.setVm s.vm).setFrames (.invoking m args :: below)).heap := by rw [hhp]; exact vx_Zq.moved hW0.alike (hN.kept hS.2.1)
  obtain ⟨S, q, ce, st, Z, hce, hcl', hv⟩ := vx_npeAt Y hexec htr (n := nb) (vx_own hat' (vx_isRefq hU'.1) (vx_isRefq hN'.1) hU'.2.word hN'.2.word) (fun x hx => nomatch hx)
    (g := F0 m pc ls rest) rfl hsize hRframes (by show 2 * 0 + (rest.map fun v => v.category).sum + 10240 ≤ R.locals; omega) (by show 0 + 1 ≤ 1; omega) (by show 0 + nb ≤ nb; omega) hlocks
  obtain ⟨f1, f2⟩ := vx_frame Z.same
  have f1' : H.size ≤ S.heap.size := by rw [← hT]; exact f1
  have f2' : ∀ q : Nat, q < H.size → S.heap[q]? = H[q]? := fun q hq => by
    rw [← hT]
    exact f2 q (by rw [← hT] at hq; exact hq) (fun z hz => nomatch hz)
  have X5 := vx_back9 X Y Z
  have X6 : Stand p l e R s m args below meth c S locs (cells + 1) (slots + nb) := { X5 with same := X5.same.mono (by omega) (by omega) }
  obtain ⟨t, a1, b1⟩ := k S.heap q ce f1' f2' ⟨Nat.le_trans hS.1 f1', fun q h1 h2 => (f2' q (Nat.lt_of_lt_of_le h1 hS.1)).trans (hS.2.1 q h1 h2), hS.2.2⟩ hce hv hcl' S rfl X6
  exact ⟨t, st t a1, b1⟩
variable {Q : State → Prop} {cc : ByteArray} {pc : Nat} {ls : Array Slot} {rest : List Value}
theorem vx_idivZ (hexec : p.tables.exec = Jvm.exec) (hb : c.code = cc) {a b : Int32} (h0 : b = 0) (d : decode cc pc = .ok (.idiv, 1)) (k : vx_Note p l e R s m args below meth c H locs cells slots Q (F0 m pc ls rest) "java/lang/ArithmeticException" "/ by zero") :
    W p l e R s m args below meth c H locs cells slots Q (F0 m pc ls (.int b :: .int a :: rest)) := by
  intro T hT X
  obtain ⟨t, st, q⟩ := k T hT X
  exact ⟨t, X.idivZero hexec (g := F0 m pc ls (.int b :: .int a :: rest)) rfl (a := a) (rest := rest) (by rw [h0]) (by rw [hb]; exact d) t st, q⟩
theorem vx_iremZ (hexec : p.tables.exec = Jvm.exec) (hb : c.code = cc) {a b : Int32} (h0 : b = 0) (d : decode cc pc = .ok (.irem, 1)) (k : vx_Note p l e R s m args below meth c H locs cells slots Q (F0 m pc ls rest) "java/lang/ArithmeticException" "/ by zero") :
    W p l e R s m args below meth c H locs cells slots Q (F0 m pc ls (.int b :: .int a :: rest)) := by
  intro T hT X
  obtain ⟨t, st, q⟩ := k T hT X
  exact ⟨t, X.iremZero hexec (g := F0 m pc ls (.int b :: .int a :: rest)) rfl (a := a) (rest := rest) (by rw [h0]) (by rw [hb]; exact d) t st, q⟩
theorem vx_ldivZ (hexec : p.tables.exec = Jvm.exec) (hb : c.code = cc) {a b : Int64} (h0 : b = 0) (d : decode cc pc = .ok (.ldiv, 1)) (k : vx_Note p l e R s m args below meth c H locs cells slots Q (F0 m pc ls rest) "java/lang/ArithmeticException" "/ by zero") :
    W p l e R s m args below meth c H locs cells slots Q (F0 m pc ls (.long b :: .long a :: rest)) := by
  intro T hT X
  obtain ⟨t, st, q⟩ := k T hT X
  exact ⟨t, X.ldivZero hexec (g := F0 m pc ls (.long b :: .long a :: rest)) rfl (a := a) (rest := rest) (by rw [h0]) (by rw [hb]; exact d) t st, q⟩
theorem vx_lremZ (hexec : p.tables.exec = Jvm.exec) (hb : c.code = cc) {a b : Int64} (h0 : b = 0) (d : decode cc pc = .ok (.lrem, 1)) (k : vx_Note p l e R s m args below meth c H locs cells slots Q (F0 m pc ls rest) "java/lang/ArithmeticException" "/ by zero") :
    W p l e R s m args below meth c H locs cells slots Q (F0 m pc ls (.long b :: .long a :: rest)) := by
  intro T hT X
  obtain ⟨t, st, q⟩ := k T hT X
  exact ⟨t, X.lremZero hexec (g := F0 m pc ls (.long b :: .long a :: rest)) rfl (a := a) (rest := rest) (by rw [h0]) (by rw [hb]; exact d) t st, q⟩
theorem vx_ialdZ {D : va_G} {cl : List vw_C} {ws : va_W} {tys : List (ClassId × FieldType)} {a : Nat} (hexec : p.tables.exec = Jvm.exec) (hb : c.code = cc) (hK : va_K D cl tys s) (hP : va_P D cl ws H) (q0 t0 : Nat) {cA : ClassId} {n : Nat} {f : Nat → Int32} (ha : ws[q0]? = some (a, .inl (cA, n, .inl f))) (ht : tys[t0]? = some (cA, .int)) {i : Int32} (hout : ¬ vp_in i n) (hdg : decode cc pc = .ok (.iaload, 1))
    (k : ∀ tx : String, tx = (toString "Index " ++ toString i ++ toString " out of bounds for length " ++ toString n : String) → vx_Note p l e R s m args below meth c H locs cells slots Q (F0 m pc ls rest) "java/lang/ArrayIndexOutOfBoundsException" tx) : W p l e R s m args below meth c H locs cells slots Q (F0 m pc ls (.int i :: .ref a :: rest)) := by
  intro T hT X
  obtain ⟨t, st, q⟩ := k _ rfl T hT X
  refine ⟨t, ?_, q⟩
  have h1 := X.ialoadOut hexec (by rw [hT]; exact hP q0 _ ha) ((hK.2 t0 _ ht).1 n (fun j => .int (f j))) (j := i) (by show (i < 0 ∨ (arrV _ _ _).slots.size ≤ _); rw [arrV_size]; exact Classical.byContradiction hout) (g := F0 m pc ls (.int i :: .ref a :: rest)) rfl (rest := rest) rfl (by rw [hb]; exact hdg) t
  simp only [arrV_size] at h1
  exact h1 st
theorem vx_iastZ {D : va_G} {cl : List vw_C} {ws : va_W} {tys : List (ClassId × FieldType)} {a : Nat} (hexec : p.tables.exec = Jvm.exec) (hb : c.code = cc) (hK : va_K D cl tys s) (hP : va_P D cl ws H) (q0 t0 : Nat) {cA : ClassId} {n : Nat} {f : Nat → Int32} (ha : ws[q0]? = some (a, .inl (cA, n, .inl f))) (ht : tys[t0]? = some (cA, .int)) {i : Int32} {x : Int32} (hout : ¬ vp_in i n) (hdg : decode cc pc = .ok (.iastore, 1))
    (k : ∀ tx : String, tx = (toString "Index " ++ toString i ++ toString " out of bounds for length " ++ toString n : String) → vx_Note p l e R s m args below meth c H locs cells slots Q (F0 m pc ls rest) "java/lang/ArrayIndexOutOfBoundsException" tx) : W p l e R s m args below meth c H locs cells slots Q (F0 m pc ls (.int x :: .int i :: .ref a :: rest)) := by
  intro T hT X
  obtain ⟨t, st, q⟩ := k _ rfl T hT X
  refine ⟨t, ?_, q⟩
  have h1 := X.iastoreOut hexec (by rw [hT]; exact hP q0 _ ha) ((hK.2 t0 _ ht).1 n (fun j => .int (f j))) (j := i) (by show (i < 0 ∨ (arrV _ _ _).slots.size ≤ _); rw [arrV_size]; exact Classical.byContradiction hout) (g := F0 m pc ls (.int x :: .int i :: .ref a :: rest)) rfl (rest := rest) rfl (by rw [hb]; exact hdg) t
  simp only [arrV_size] at h1
  exact h1 st
theorem vx_baldZ {D : va_G} {cl : List vw_C} {ws : va_W} {tys : List (ClassId × FieldType)} {a : Nat} (hexec : p.tables.exec = Jvm.exec) (hb : c.code = cc) (hK : va_K D cl tys s) (hP : va_P D cl ws H) (q0 t0 : Nat) {cA : ClassId} {n : Nat} {f : Nat → Int32} (ha : ws[q0]? = some (a, .inl (cA, n, .inl f))) (ht : tys[t0]? = some (cA, .byte)) {i : Int32} (hout : ¬ vp_in i n) (hdg : decode cc pc = .ok (.baload, 1))
    (k : ∀ tx : String, tx = (toString "Index " ++ toString i ++ toString " out of bounds for length " ++ toString n : String) → vx_Note p l e R s m args below meth c H locs cells slots Q (F0 m pc ls rest) "java/lang/ArrayIndexOutOfBoundsException" tx) : W p l e R s m args below meth c H locs cells slots Q (F0 m pc ls (.int i :: .ref a :: rest)) := by
  intro T hT X
  obtain ⟨t, st, q⟩ := k _ rfl T hT X
  refine ⟨t, ?_, q⟩
  have h1 := X.baloadOut hexec (by rw [hT]; exact hP q0 _ ha) ((hK.2 t0 _ ht).1 n (fun j => .int (f j))) (j := i) (by show (i < 0 ∨ (arrV _ _ _).slots.size ≤ _); rw [arrV_size]; exact Classical.byContradiction hout) (g := F0 m pc ls (.int i :: .ref a :: rest)) rfl (rest := rest) rfl (by rw [hb]; exact hdg) t
  simp only [arrV_size] at h1
  exact h1 st
theorem vx_bastZ {D : va_G} {cl : List vw_C} {ws : va_W} {tys : List (ClassId × FieldType)} {a : Nat} (hexec : p.tables.exec = Jvm.exec) (hb : c.code = cc) (hK : va_K D cl tys s) (hP : va_P D cl ws H) (q0 t0 : Nat) {cA : ClassId} {n : Nat} {f : Nat → Int32} (ha : ws[q0]? = some (a, .inl (cA, n, .inl f))) (ht : tys[t0]? = some (cA, .byte)) {i : Int32} {x : Int32} (hout : ¬ vp_in i n) (hdg : decode cc pc = .ok (.bastore, 1))
    (k : ∀ tx : String, tx = (toString "Index " ++ toString i ++ toString " out of bounds for length " ++ toString n : String) → vx_Note p l e R s m args below meth c H locs cells slots Q (F0 m pc ls rest) "java/lang/ArrayIndexOutOfBoundsException" tx) : W p l e R s m args below meth c H locs cells slots Q (F0 m pc ls (.int x :: .int i :: .ref a :: rest)) := by
  intro T hT X
  obtain ⟨t, st, q⟩ := k _ rfl T hT X
  refine ⟨t, ?_, q⟩
  have h1 := X.bastoreOut hexec (by rw [hT]; exact hP q0 _ ha) ((hK.2 t0 _ ht).1 n (fun j => .int (f j))) (j := i) (by show (i < 0 ∨ (arrV _ _ _).slots.size ≤ _); rw [arrV_size]; exact Classical.byContradiction hout) (g := F0 m pc ls (.int x :: .int i :: .ref a :: rest)) rfl (rest := rest) rfl (by rw [hb]; exact hdg) t
  simp only [arrV_size] at h1
  exact h1 st
theorem vx_zaldZ {D : va_G} {cl : List vw_C} {ws : va_W} {tys : List (ClassId × FieldType)} {a : Nat} (hexec : p.tables.exec = Jvm.exec) (hb : c.code = cc) (hK : va_K D cl tys s) (hP : va_P D cl ws H) (q0 t0 : Nat) {cA : ClassId} {n : Nat} {f : Nat → Int32} (ha : ws[q0]? = some (a, .inl (cA, n, .inl f))) (ht : tys[t0]? = some (cA, .boolean)) {i : Int32} (hout : ¬ vp_in i n) (hdg : decode cc pc = .ok (.baload, 1))
    (k : ∀ tx : String, tx = (toString "Index " ++ toString i ++ toString " out of bounds for length " ++ toString n : String) → vx_Note p l e R s m args below meth c H locs cells slots Q (F0 m pc ls rest) "java/lang/ArrayIndexOutOfBoundsException" tx) : W p l e R s m args below meth c H locs cells slots Q (F0 m pc ls (.int i :: .ref a :: rest)) := by
  intro T hT X
  obtain ⟨t, st, q⟩ := k _ rfl T hT X
  refine ⟨t, ?_, q⟩
  have h1 := X.baloadOut hexec (by rw [hT]; exact hP q0 _ ha) ((hK.2 t0 _ ht).1 n (fun j => .int (f j))) (j := i) (by show (i < 0 ∨ (arrV _ _ _).slots.size ≤ _); rw [arrV_size]; exact Classical.byContradiction hout) (g := F0 m pc ls (.int i :: .ref a :: rest)) rfl (rest := rest) rfl (by rw [hb]; exact hdg) t
  simp only [arrV_size] at h1
  exact h1 st
theorem vx_zastZ {D : va_G} {cl : List vw_C} {ws : va_W} {tys : List (ClassId × FieldType)} {a : Nat} (hexec : p.tables.exec = Jvm.exec) (hb : c.code = cc) (hK : va_K D cl tys s) (hP : va_P D cl ws H) (q0 t0 : Nat) {cA : ClassId} {n : Nat} {f : Nat → Int32} (ha : ws[q0]? = some (a, .inl (cA, n, .inl f))) (ht : tys[t0]? = some (cA, .boolean)) {i : Int32} {x : Int32} (hout : ¬ vp_in i n) (hdg : decode cc pc = .ok (.bastore, 1))
    (k : ∀ tx : String, tx = (toString "Index " ++ toString i ++ toString " out of bounds for length " ++ toString n : String) → vx_Note p l e R s m args below meth c H locs cells slots Q (F0 m pc ls rest) "java/lang/ArrayIndexOutOfBoundsException" tx) : W p l e R s m args below meth c H locs cells slots Q (F0 m pc ls (.int x :: .int i :: .ref a :: rest)) := by
  intro T hT X
  obtain ⟨t, st, q⟩ := k _ rfl T hT X
  refine ⟨t, ?_, q⟩
  have h1 := X.bastoreOut hexec (by rw [hT]; exact hP q0 _ ha) ((hK.2 t0 _ ht).1 n (fun j => .int (f j))) (j := i) (by show (i < 0 ∨ (arrV _ _ _).slots.size ≤ _); rw [arrV_size]; exact Classical.byContradiction hout) (g := F0 m pc ls (.int x :: .int i :: .ref a :: rest)) rfl (rest := rest) rfl (by rw [hb]; exact hdg) t
  simp only [arrV_size] at h1
  exact h1 st
theorem vx_caldZ {D : va_G} {cl : List vw_C} {ws : va_W} {tys : List (ClassId × FieldType)} {a : Nat} (hexec : p.tables.exec = Jvm.exec) (hb : c.code = cc) (hK : va_K D cl tys s) (hP : va_P D cl ws H) (q0 t0 : Nat) {cA : ClassId} {n : Nat} {f : Nat → Int32} (ha : ws[q0]? = some (a, .inl (cA, n, .inl f))) (ht : tys[t0]? = some (cA, .char)) {i : Int32} (hout : ¬ vp_in i n) (hdg : decode cc pc = .ok (.caload, 1))
    (k : ∀ tx : String, tx = (toString "Index " ++ toString i ++ toString " out of bounds for length " ++ toString n : String) → vx_Note p l e R s m args below meth c H locs cells slots Q (F0 m pc ls rest) "java/lang/ArrayIndexOutOfBoundsException" tx) : W p l e R s m args below meth c H locs cells slots Q (F0 m pc ls (.int i :: .ref a :: rest)) := by
  intro T hT X
  obtain ⟨t, st, q⟩ := k _ rfl T hT X
  refine ⟨t, ?_, q⟩
  have h1 := X.caloadOut hexec (by rw [hT]; exact hP q0 _ ha) ((hK.2 t0 _ ht).1 n (fun j => .int (f j))) (j := i) (by show (i < 0 ∨ (arrV _ _ _).slots.size ≤ _); rw [arrV_size]; exact Classical.byContradiction hout) (g := F0 m pc ls (.int i :: .ref a :: rest)) rfl (rest := rest) rfl (by rw [hb]; exact hdg) t
  simp only [arrV_size] at h1
  exact h1 st
theorem vx_castZ {D : va_G} {cl : List vw_C} {ws : va_W} {tys : List (ClassId × FieldType)} {a : Nat} (hexec : p.tables.exec = Jvm.exec) (hb : c.code = cc) (hK : va_K D cl tys s) (hP : va_P D cl ws H) (q0 t0 : Nat) {cA : ClassId} {n : Nat} {f : Nat → Int32} (ha : ws[q0]? = some (a, .inl (cA, n, .inl f))) (ht : tys[t0]? = some (cA, .char)) {i : Int32} {x : Int32} (hout : ¬ vp_in i n) (hdg : decode cc pc = .ok (.castore, 1))
    (k : ∀ tx : String, tx = (toString "Index " ++ toString i ++ toString " out of bounds for length " ++ toString n : String) → vx_Note p l e R s m args below meth c H locs cells slots Q (F0 m pc ls rest) "java/lang/ArrayIndexOutOfBoundsException" tx) : W p l e R s m args below meth c H locs cells slots Q (F0 m pc ls (.int x :: .int i :: .ref a :: rest)) := by
  intro T hT X
  obtain ⟨t, st, q⟩ := k _ rfl T hT X
  refine ⟨t, ?_, q⟩
  have h1 := X.castoreOut hexec (by rw [hT]; exact hP q0 _ ha) ((hK.2 t0 _ ht).1 n (fun j => .int (f j))) (j := i) (by show (i < 0 ∨ (arrV _ _ _).slots.size ≤ _); rw [arrV_size]; exact Classical.byContradiction hout) (g := F0 m pc ls (.int x :: .int i :: .ref a :: rest)) rfl (rest := rest) rfl (by rw [hb]; exact hdg) t
  simp only [arrV_size] at h1
  exact h1 st
theorem vx_saldZ {D : va_G} {cl : List vw_C} {ws : va_W} {tys : List (ClassId × FieldType)} {a : Nat} (hexec : p.tables.exec = Jvm.exec) (hb : c.code = cc) (hK : va_K D cl tys s) (hP : va_P D cl ws H) (q0 t0 : Nat) {cA : ClassId} {n : Nat} {f : Nat → Int32} (ha : ws[q0]? = some (a, .inl (cA, n, .inl f))) (ht : tys[t0]? = some (cA, .short)) {i : Int32} (hout : ¬ vp_in i n) (hdg : decode cc pc = .ok (.saload, 1))
    (k : ∀ tx : String, tx = (toString "Index " ++ toString i ++ toString " out of bounds for length " ++ toString n : String) → vx_Note p l e R s m args below meth c H locs cells slots Q (F0 m pc ls rest) "java/lang/ArrayIndexOutOfBoundsException" tx) : W p l e R s m args below meth c H locs cells slots Q (F0 m pc ls (.int i :: .ref a :: rest)) := by
  intro T hT X
  obtain ⟨t, st, q⟩ := k _ rfl T hT X
  refine ⟨t, ?_, q⟩
  have h1 := X.saloadOut hexec (by rw [hT]; exact hP q0 _ ha) ((hK.2 t0 _ ht).1 n (fun j => .int (f j))) (j := i) (by show (i < 0 ∨ (arrV _ _ _).slots.size ≤ _); rw [arrV_size]; exact Classical.byContradiction hout) (g := F0 m pc ls (.int i :: .ref a :: rest)) rfl (rest := rest) rfl (by rw [hb]; exact hdg) t
  simp only [arrV_size] at h1
  exact h1 st
theorem vx_sastZ {D : va_G} {cl : List vw_C} {ws : va_W} {tys : List (ClassId × FieldType)} {a : Nat} (hexec : p.tables.exec = Jvm.exec) (hb : c.code = cc) (hK : va_K D cl tys s) (hP : va_P D cl ws H) (q0 t0 : Nat) {cA : ClassId} {n : Nat} {f : Nat → Int32} (ha : ws[q0]? = some (a, .inl (cA, n, .inl f))) (ht : tys[t0]? = some (cA, .short)) {i : Int32} {x : Int32} (hout : ¬ vp_in i n) (hdg : decode cc pc = .ok (.sastore, 1))
    (k : ∀ tx : String, tx = (toString "Index " ++ toString i ++ toString " out of bounds for length " ++ toString n : String) → vx_Note p l e R s m args below meth c H locs cells slots Q (F0 m pc ls rest) "java/lang/ArrayIndexOutOfBoundsException" tx) : W p l e R s m args below meth c H locs cells slots Q (F0 m pc ls (.int x :: .int i :: .ref a :: rest)) := by
  intro T hT X
  obtain ⟨t, st, q⟩ := k _ rfl T hT X
  refine ⟨t, ?_, q⟩
  have h1 := X.sastoreOut hexec (by rw [hT]; exact hP q0 _ ha) ((hK.2 t0 _ ht).1 n (fun j => .int (f j))) (j := i) (by show (i < 0 ∨ (arrV _ _ _).slots.size ≤ _); rw [arrV_size]; exact Classical.byContradiction hout) (g := F0 m pc ls (.int x :: .int i :: .ref a :: rest)) rfl (rest := rest) rfl (by rw [hb]; exact hdg) t
  simp only [arrV_size] at h1
  exact h1 st
theorem vx_laldZ {D : va_G} {cl : List vw_C} {ws : va_W} {tys : List (ClassId × FieldType)} {a : Nat} (hexec : p.tables.exec = Jvm.exec) (hb : c.code = cc) (hK : va_K D cl tys s) (hP : va_P D cl ws H) (q0 t0 : Nat) {cA : ClassId} {n : Nat} {f : Nat → Int64} (ha : ws[q0]? = some (a, .inl (cA, n, .inr (.inl f)))) (ht : tys[t0]? = some (cA, .long)) {i : Int32} (hout : ¬ vp_in i n) (hdg : decode cc pc = .ok (.laload, 1))
    (k : ∀ tx : String, tx = (toString "Index " ++ toString i ++ toString " out of bounds for length " ++ toString n : String) → vx_Note p l e R s m args below meth c H locs cells slots Q (F0 m pc ls rest) "java/lang/ArrayIndexOutOfBoundsException" tx) : W p l e R s m args below meth c H locs cells slots Q (F0 m pc ls (.int i :: .ref a :: rest)) := by
  intro T hT X
  obtain ⟨t, st, q⟩ := k _ rfl T hT X
  refine ⟨t, ?_, q⟩
  have h1 := X.laloadOut hexec (by rw [hT]; exact hP q0 _ ha) ((hK.2 t0 _ ht).1 n (fun j => .long (f j))) (j := i) (by show (i < 0 ∨ (arrV _ _ _).slots.size ≤ _); rw [arrV_size]; exact Classical.byContradiction hout) (g := F0 m pc ls (.int i :: .ref a :: rest)) rfl (rest := rest) rfl (by rw [hb]; exact hdg) t
  simp only [arrV_size] at h1
  exact h1 st
theorem vx_lastZ {D : va_G} {cl : List vw_C} {ws : va_W} {tys : List (ClassId × FieldType)} {a : Nat} (hexec : p.tables.exec = Jvm.exec) (hb : c.code = cc) (hK : va_K D cl tys s) (hP : va_P D cl ws H) (q0 t0 : Nat) {cA : ClassId} {n : Nat} {f : Nat → Int64} (ha : ws[q0]? = some (a, .inl (cA, n, .inr (.inl f)))) (ht : tys[t0]? = some (cA, .long)) {i : Int32} {x : Int64} (hout : ¬ vp_in i n) (hdg : decode cc pc = .ok (.lastore, 1))
    (k : ∀ tx : String, tx = (toString "Index " ++ toString i ++ toString " out of bounds for length " ++ toString n : String) → vx_Note p l e R s m args below meth c H locs cells slots Q (F0 m pc ls rest) "java/lang/ArrayIndexOutOfBoundsException" tx) : W p l e R s m args below meth c H locs cells slots Q (F0 m pc ls (.long x :: .int i :: .ref a :: rest)) := by
  intro T hT X
  obtain ⟨t, st, q⟩ := k _ rfl T hT X
  refine ⟨t, ?_, q⟩
  have h1 := X.lastoreOut hexec (by rw [hT]; exact hP q0 _ ha) ((hK.2 t0 _ ht).1 n (fun j => .long (f j))) (j := i) (by show (i < 0 ∨ (arrV _ _ _).slots.size ≤ _); rw [arrV_size]; exact Classical.byContradiction hout) (g := F0 m pc ls (.long x :: .int i :: .ref a :: rest)) rfl (rest := rest) rfl (by rw [hb]; exact hdg) t
  simp only [arrV_size] at h1
  exact h1 st
theorem vx_faldZ {D : va_G} {cl : List vw_C} {ws : va_W} {tys : List (ClassId × FieldType)} {a : Nat} (hexec : p.tables.exec = Jvm.exec) (hb : c.code = cc) (hK : va_K D cl tys s) (hP : va_P D cl ws H) (q0 t0 : Nat) {cA : ClassId} {n : Nat} {f : Nat → UInt32} (ha : ws[q0]? = some (a, .inl (cA, n, .inr (.inr (.inl f))))) (ht : tys[t0]? = some (cA, .float)) {i : Int32} (hout : ¬ vp_in i n) (hdg : decode cc pc = .ok (.faload, 1))
    (k : ∀ tx : String, tx = (toString "Index " ++ toString i ++ toString " out of bounds for length " ++ toString n : String) → vx_Note p l e R s m args below meth c H locs cells slots Q (F0 m pc ls rest) "java/lang/ArrayIndexOutOfBoundsException" tx) : W p l e R s m args below meth c H locs cells slots Q (F0 m pc ls (.int i :: .ref a :: rest)) := by
  intro T hT X
  obtain ⟨t, st, q⟩ := k _ rfl T hT X
  refine ⟨t, ?_, q⟩
  have h1 := X.faloadOut hexec (by rw [hT]; exact hP q0 _ ha) ((hK.2 t0 _ ht).1 n (fun j => .float (f j))) (j := i) (by show (i < 0 ∨ (arrV _ _ _).slots.size ≤ _); rw [arrV_size]; exact Classical.byContradiction hout) (g := F0 m pc ls (.int i :: .ref a :: rest)) rfl (rest := rest) rfl (by rw [hb]; exact hdg) t
  simp only [arrV_size] at h1
  exact h1 st
theorem vx_fastZ {D : va_G} {cl : List vw_C} {ws : va_W} {tys : List (ClassId × FieldType)} {a : Nat} (hexec : p.tables.exec = Jvm.exec) (hb : c.code = cc) (hK : va_K D cl tys s) (hP : va_P D cl ws H) (q0 t0 : Nat) {cA : ClassId} {n : Nat} {f : Nat → UInt32} (ha : ws[q0]? = some (a, .inl (cA, n, .inr (.inr (.inl f))))) (ht : tys[t0]? = some (cA, .float)) {i : Int32} {x : UInt32} (hout : ¬ vp_in i n) (hdg : decode cc pc = .ok (.fastore, 1))
    (k : ∀ tx : String, tx = (toString "Index " ++ toString i ++ toString " out of bounds for length " ++ toString n : String) → vx_Note p l e R s m args below meth c H locs cells slots Q (F0 m pc ls rest) "java/lang/ArrayIndexOutOfBoundsException" tx) : W p l e R s m args below meth c H locs cells slots Q (F0 m pc ls (.float x :: .int i :: .ref a :: rest)) := by
  intro T hT X
  obtain ⟨t, st, q⟩ := k _ rfl T hT X
  refine ⟨t, ?_, q⟩
  have h1 := X.fastoreOut hexec (by rw [hT]; exact hP q0 _ ha) ((hK.2 t0 _ ht).1 n (fun j => .float (f j))) (j := i) (by show (i < 0 ∨ (arrV _ _ _).slots.size ≤ _); rw [arrV_size]; exact Classical.byContradiction hout) (g := F0 m pc ls (.float x :: .int i :: .ref a :: rest)) rfl (rest := rest) rfl (by rw [hb]; exact hdg) t
  simp only [arrV_size] at h1
  exact h1 st
theorem vx_daldZ {D : va_G} {cl : List vw_C} {ws : va_W} {tys : List (ClassId × FieldType)} {a : Nat} (hexec : p.tables.exec = Jvm.exec) (hb : c.code = cc) (hK : va_K D cl tys s) (hP : va_P D cl ws H) (q0 t0 : Nat) {cA : ClassId} {n : Nat} {f : Nat → UInt64} (ha : ws[q0]? = some (a, .inl (cA, n, .inr (.inr (.inr (.inl f)))))) (ht : tys[t0]? = some (cA, .double)) {i : Int32} (hout : ¬ vp_in i n) (hdg : decode cc pc = .ok (.daload, 1))
    (k : ∀ tx : String, tx = (toString "Index " ++ toString i ++ toString " out of bounds for length " ++ toString n : String) → vx_Note p l e R s m args below meth c H locs cells slots Q (F0 m pc ls rest) "java/lang/ArrayIndexOutOfBoundsException" tx) : W p l e R s m args below meth c H locs cells slots Q (F0 m pc ls (.int i :: .ref a :: rest)) := by
  intro T hT X
  obtain ⟨t, st, q⟩ := k _ rfl T hT X
  refine ⟨t, ?_, q⟩
  have h1 := X.daloadOut hexec (by rw [hT]; exact hP q0 _ ha) ((hK.2 t0 _ ht).1 n (fun j => .double (f j))) (j := i) (by show (i < 0 ∨ (arrV _ _ _).slots.size ≤ _); rw [arrV_size]; exact Classical.byContradiction hout) (g := F0 m pc ls (.int i :: .ref a :: rest)) rfl (rest := rest) rfl (by rw [hb]; exact hdg) t
  simp only [arrV_size] at h1
  exact h1 st
theorem vx_dastZ {D : va_G} {cl : List vw_C} {ws : va_W} {tys : List (ClassId × FieldType)} {a : Nat} (hexec : p.tables.exec = Jvm.exec) (hb : c.code = cc) (hK : va_K D cl tys s) (hP : va_P D cl ws H) (q0 t0 : Nat) {cA : ClassId} {n : Nat} {f : Nat → UInt64} (ha : ws[q0]? = some (a, .inl (cA, n, .inr (.inr (.inr (.inl f)))))) (ht : tys[t0]? = some (cA, .double)) {i : Int32} {x : UInt64} (hout : ¬ vp_in i n) (hdg : decode cc pc = .ok (.dastore, 1))
    (k : ∀ tx : String, tx = (toString "Index " ++ toString i ++ toString " out of bounds for length " ++ toString n : String) → vx_Note p l e R s m args below meth c H locs cells slots Q (F0 m pc ls rest) "java/lang/ArrayIndexOutOfBoundsException" tx) : W p l e R s m args below meth c H locs cells slots Q (F0 m pc ls (.double x :: .int i :: .ref a :: rest)) := by
  intro T hT X
  obtain ⟨t, st, q⟩ := k _ rfl T hT X
  refine ⟨t, ?_, q⟩
  have h1 := X.dastoreOut hexec (by rw [hT]; exact hP q0 _ ha) ((hK.2 t0 _ ht).1 n (fun j => .double (f j))) (j := i) (by show (i < 0 ∨ (arrV _ _ _).slots.size ≤ _); rw [arrV_size]; exact Classical.byContradiction hout) (g := F0 m pc ls (.double x :: .int i :: .ref a :: rest)) rfl (rest := rest) rfl (by rw [hb]; exact hdg) t
  simp only [arrV_size] at h1
  exact h1 st
theorem vx_arraylengthN (hexec : p.tables.exec = Jvm.exec) (hb : c.code = cc) (hdg : decode cc pc = .ok (.arraylength, 1)) (k : vx_NoteN p l e R s m args below meth c H locs cells slots Q (F0 m pc ls rest)) : W p l e R s m args below meth c H locs cells slots Q (F0 m pc ls (.null :: rest)) := by
  intro T hT X
  obtain ⟨t, st, q⟩ := k T hT X
  exact ⟨t, X.arraylengthNull hexec (g := F0 m pc ls (.null :: rest)) rfl (rest := rest) rfl (by rw [hb]; exact hdg) t st, q⟩
theorem vx_ialoadN (hexec : p.tables.exec = Jvm.exec) (hb : c.code = cc) {i : Int32} (hdg : decode cc pc = .ok (.iaload, 1)) (k : vx_NoteN p l e R s m args below meth c H locs cells slots Q (F0 m pc ls rest)) : W p l e R s m args below meth c H locs cells slots Q (F0 m pc ls (.int i :: .null :: rest)) := by
  intro T hT X
  obtain ⟨t, st, q⟩ := k T hT X
  exact ⟨t, X.ialoadNull hexec (g := F0 m pc ls (.int i :: .null :: rest)) rfl (rest := rest) rfl (by rw [hb]; exact hdg) t st, q⟩
theorem vx_laloadN (hexec : p.tables.exec = Jvm.exec) (hb : c.code = cc) {i : Int32} (hdg : decode cc pc = .ok (.laload, 1)) (k : vx_NoteN p l e R s m args below meth c H locs cells slots Q (F0 m pc ls rest)) : W p l e R s m args below meth c H locs cells slots Q (F0 m pc ls (.int i :: .null :: rest)) := by
  intro T hT X
  obtain ⟨t, st, q⟩ := k T hT X
  exact ⟨t, X.laloadNull hexec (g := F0 m pc ls (.int i :: .null :: rest)) rfl (rest := rest) rfl (by rw [hb]; exact hdg) t st, q⟩
theorem vx_faloadN (hexec : p.tables.exec = Jvm.exec) (hb : c.code = cc) {i : Int32} (hdg : decode cc pc = .ok (.faload, 1)) (k : vx_NoteN p l e R s m args below meth c H locs cells slots Q (F0 m pc ls rest)) : W p l e R s m args below meth c H locs cells slots Q (F0 m pc ls (.int i :: .null :: rest)) := by
  intro T hT X
  obtain ⟨t, st, q⟩ := k T hT X
  exact ⟨t, X.faloadNull hexec (g := F0 m pc ls (.int i :: .null :: rest)) rfl (rest := rest) rfl (by rw [hb]; exact hdg) t st, q⟩
theorem vx_daloadN (hexec : p.tables.exec = Jvm.exec) (hb : c.code = cc) {i : Int32} (hdg : decode cc pc = .ok (.daload, 1)) (k : vx_NoteN p l e R s m args below meth c H locs cells slots Q (F0 m pc ls rest)) : W p l e R s m args below meth c H locs cells slots Q (F0 m pc ls (.int i :: .null :: rest)) := by
  intro T hT X
  obtain ⟨t, st, q⟩ := k T hT X
  exact ⟨t, X.daloadNull hexec (g := F0 m pc ls (.int i :: .null :: rest)) rfl (rest := rest) rfl (by rw [hb]; exact hdg) t st, q⟩
theorem vx_aaloadN (hexec : p.tables.exec = Jvm.exec) (hb : c.code = cc) {i : Int32} (hdg : decode cc pc = .ok (.aaload, 1)) (k : vx_NoteN p l e R s m args below meth c H locs cells slots Q (F0 m pc ls rest)) : W p l e R s m args below meth c H locs cells slots Q (F0 m pc ls (.int i :: .null :: rest)) := by
  intro T hT X
  obtain ⟨t, st, q⟩ := k T hT X
  exact ⟨t, X.aaloadNull hexec (g := F0 m pc ls (.int i :: .null :: rest)) rfl (rest := rest) rfl (by rw [hb]; exact hdg) t st, q⟩
theorem vx_baloadN (hexec : p.tables.exec = Jvm.exec) (hb : c.code = cc) {i : Int32} (hdg : decode cc pc = .ok (.baload, 1)) (k : vx_NoteN p l e R s m args below meth c H locs cells slots Q (F0 m pc ls rest)) : W p l e R s m args below meth c H locs cells slots Q (F0 m pc ls (.int i :: .null :: rest)) := by
  intro T hT X
  obtain ⟨t, st, q⟩ := k T hT X
  exact ⟨t, X.baloadNull hexec (g := F0 m pc ls (.int i :: .null :: rest)) rfl (rest := rest) rfl (by rw [hb]; exact hdg) t st, q⟩
theorem vx_caloadN (hexec : p.tables.exec = Jvm.exec) (hb : c.code = cc) {i : Int32} (hdg : decode cc pc = .ok (.caload, 1)) (k : vx_NoteN p l e R s m args below meth c H locs cells slots Q (F0 m pc ls rest)) : W p l e R s m args below meth c H locs cells slots Q (F0 m pc ls (.int i :: .null :: rest)) := by
  intro T hT X
  obtain ⟨t, st, q⟩ := k T hT X
  exact ⟨t, X.caloadNull hexec (g := F0 m pc ls (.int i :: .null :: rest)) rfl (rest := rest) rfl (by rw [hb]; exact hdg) t st, q⟩
theorem vx_saloadN (hexec : p.tables.exec = Jvm.exec) (hb : c.code = cc) {i : Int32} (hdg : decode cc pc = .ok (.saload, 1)) (k : vx_NoteN p l e R s m args below meth c H locs cells slots Q (F0 m pc ls rest)) : W p l e R s m args below meth c H locs cells slots Q (F0 m pc ls (.int i :: .null :: rest)) := by
  intro T hT X
  obtain ⟨t, st, q⟩ := k T hT X
  exact ⟨t, X.saloadNull hexec (g := F0 m pc ls (.int i :: .null :: rest)) rfl (rest := rest) rfl (by rw [hb]; exact hdg) t st, q⟩
theorem vx_iastoreN (hexec : p.tables.exec = Jvm.exec) (hb : c.code = cc) {x : Int32} {i : Int32} (hdg : decode cc pc = .ok (.iastore, 1)) (k : vx_NoteN p l e R s m args below meth c H locs cells slots Q (F0 m pc ls rest)) : W p l e R s m args below meth c H locs cells slots Q (F0 m pc ls (.int x :: .int i :: .null :: rest)) := by
  intro T hT X
  obtain ⟨t, st, q⟩ := k T hT X
  exact ⟨t, X.iastoreNull hexec (g := F0 m pc ls (.int x :: .int i :: .null :: rest)) rfl (rest := rest) rfl (by rw [hb]; exact hdg) t st, q⟩
theorem vx_lastoreN (hexec : p.tables.exec = Jvm.exec) (hb : c.code = cc) {x : Int64} {i : Int32} (hdg : decode cc pc = .ok (.lastore, 1)) (k : vx_NoteN p l e R s m args below meth c H locs cells slots Q (F0 m pc ls rest)) : W p l e R s m args below meth c H locs cells slots Q (F0 m pc ls (.long x :: .int i :: .null :: rest)) := by
  intro T hT X
  obtain ⟨t, st, q⟩ := k T hT X
  exact ⟨t, X.lastoreNull hexec (g := F0 m pc ls (.long x :: .int i :: .null :: rest)) rfl (rest := rest) rfl (by rw [hb]; exact hdg) t st, q⟩
theorem vx_fastoreN (hexec : p.tables.exec = Jvm.exec) (hb : c.code = cc) {x : UInt32} {i : Int32} (hdg : decode cc pc = .ok (.fastore, 1)) (k : vx_NoteN p l e R s m args below meth c H locs cells slots Q (F0 m pc ls rest)) : W p l e R s m args below meth c H locs cells slots Q (F0 m pc ls (.float x :: .int i :: .null :: rest)) := by
  intro T hT X
  obtain ⟨t, st, q⟩ := k T hT X
  exact ⟨t, X.fastoreNull hexec (g := F0 m pc ls (.float x :: .int i :: .null :: rest)) rfl (rest := rest) rfl (by rw [hb]; exact hdg) t st, q⟩
theorem vx_dastoreN (hexec : p.tables.exec = Jvm.exec) (hb : c.code = cc) {x : UInt64} {i : Int32} (hdg : decode cc pc = .ok (.dastore, 1)) (k : vx_NoteN p l e R s m args below meth c H locs cells slots Q (F0 m pc ls rest)) : W p l e R s m args below meth c H locs cells slots Q (F0 m pc ls (.double x :: .int i :: .null :: rest)) := by
  intro T hT X
  obtain ⟨t, st, q⟩ := k T hT X
  exact ⟨t, X.dastoreNull hexec (g := F0 m pc ls (.double x :: .int i :: .null :: rest)) rfl (rest := rest) rfl (by rw [hb]; exact hdg) t st, q⟩
theorem vx_bastoreN (hexec : p.tables.exec = Jvm.exec) (hb : c.code = cc) {x : Int32} {i : Int32} (hdg : decode cc pc = .ok (.bastore, 1)) (k : vx_NoteN p l e R s m args below meth c H locs cells slots Q (F0 m pc ls rest)) : W p l e R s m args below meth c H locs cells slots Q (F0 m pc ls (.int x :: .int i :: .null :: rest)) := by
  intro T hT X
  obtain ⟨t, st, q⟩ := k T hT X
  exact ⟨t, X.bastoreNull hexec (g := F0 m pc ls (.int x :: .int i :: .null :: rest)) rfl (rest := rest) rfl (by rw [hb]; exact hdg) t st, q⟩
theorem vx_castoreN (hexec : p.tables.exec = Jvm.exec) (hb : c.code = cc) {x : Int32} {i : Int32} (hdg : decode cc pc = .ok (.castore, 1)) (k : vx_NoteN p l e R s m args below meth c H locs cells slots Q (F0 m pc ls rest)) : W p l e R s m args below meth c H locs cells slots Q (F0 m pc ls (.int x :: .int i :: .null :: rest)) := by
  intro T hT X
  obtain ⟨t, st, q⟩ := k T hT X
  exact ⟨t, X.castoreNull hexec (g := F0 m pc ls (.int x :: .int i :: .null :: rest)) rfl (rest := rest) rfl (by rw [hb]; exact hdg) t st, q⟩
theorem vx_sastoreN (hexec : p.tables.exec = Jvm.exec) (hb : c.code = cc) {x : Int32} {i : Int32} (hdg : decode cc pc = .ok (.sastore, 1)) (k : vx_NoteN p l e R s m args below meth c H locs cells slots Q (F0 m pc ls rest)) : W p l e R s m args below meth c H locs cells slots Q (F0 m pc ls (.int x :: .int i :: .null :: rest)) := by
  intro T hT X
  obtain ⟨t, st, q⟩ := k T hT X
  exact ⟨t, X.sastoreNull hexec (g := F0 m pc ls (.int x :: .int i :: .null :: rest)) rfl (rest := rest) rfl (by rw [hb]; exact hdg) t st, q⟩
theorem vx_invokeN {own C : String} {index maxL : Nat} {y : MethodName} {bytes : ByteArray} {ret : Option FieldType} (hexec : p.tables.exec = Jvm.exec) (hb : c.code = cc) (hown : s.vm.findClass own = some m.cls) (hlink : (Cond.methodLink own index y).before args s = true) (hinst : (Cond.instanceMethod y).before args s = true) (hcode : (Cond.code y bytes maxL ret).before args s = true) (hsel : (Cond.selects C y y).before args s = true)
    (hx : y.cls ≠ "java/lang/invoke/MethodHandle" ∧ y.cls ≠ "java/lang/invoke/VarHandle") {As : List Value} (hlen : (parseMethodDescriptor y.desc).map (fun d => d.parameters.length) = some As.length) (hdg : decode cc pc = .ok (.invokevirtual index, 3))
    (k : vx_NoteN p l e R s m args below meth c H locs cells slots Q (F0 m pc ls rest)) {st0 : List Value} (hst : st0 = As.reverse ++ .null :: rest) : W p l e R s m args below meth c H locs cells slots Q (F0 m pc ls st0) := by
  intro T hT X
  obtain ⟨r0, r, hn, hrm, hstR, hsigR⟩ := va_Decl.of hinst hcode
  obtain ⟨c2, r2, m2, q1, q2, q3, q4, kP, hkP, hkPi⟩ := Cond.selects_spec hsel
  cases hn.symm.trans q3
  have hl9 : As.length = r.sig.parameters.length := by
    rw [hsigR] at hlen
    exact (Option.some.inj hlen).symm
  obtain ⟨vm', X1, st1⟩ := X.invokevirtualNull hexec hown hlink hn hrm hstR hkP hkPi hx (g := F0 m pc ls st0) rfl (argsL := As) (rest := rest) hl9 hst (by rw [hb]; exact hdg)
  obtain ⟨t, st, q⟩ := k (T.setVm vm') hT X1
  exact ⟨t, st1 t st, q⟩
theorem vx_newarrayZ {atype : ArrayType} (hexec : p.tables.exec = Jvm.exec) (hb : c.code = cc) {n : Int32} (h0 : n < 0) (hdg : decode cc pc = .ok (.newarray atype, 2)) (k : ∀ tx : String, tx = toString n → vx_Note p l e R s m args below meth c H locs cells slots Q (F0 m pc ls rest) "java/lang/NegativeArraySizeException" tx) : W p l e R s m args below meth c H locs cells slots Q (F0 m pc ls (.int n :: rest)) := by
  intro T hT X
  obtain ⟨t, st, q⟩ := k _ rfl T hT X
  exact ⟨t, X.newarrayNegative hexec (g := F0 m pc ls (.int n :: rest)) rfl h0 (rest := rest) rfl (by rw [hb]; exact hdg) t st, q⟩
end
end VXM
/-! ===== END ===== -/
end
section
def RX0 : String := "SubtitleDesk$Cuts"
def TX0 : u_T := fun k => match k with
  | 0 => ("SubtitleDesk$Cuts", "frames", "[I", true)
  | _ => ("SubtitleDesk$Cuts", "count", "I", false)
def tyX0 : Nat → FieldType := fun k => match k with
  | 0 => .array .int
  | _ => .int
theorem nmX0 : ∀ a, a < 2 → ∀ b, b < 2 → a ≠ b → (TX0 a).2.1 ≠ (TX0 b).2.1 := by decide +kernel
theorem tyX0_ok : ∀ k, k < 2 → parseFieldDescriptor (TX0 k).2.2.1 = some (tyX0 k) := by decide +kernel
abbrev cX0_init : ByteArray := prog_2_method_1_code
def yX0_init : MethodName := ⟨RX0, "<init>", "()V"⟩
abbrev cX0_copyFrom : ByteArray := prog_2_method_2_code
def yX0_copyFrom : MethodName := ⟨RX0, "copyFrom", "(LSubtitleDesk$Cuts;)V"⟩
abbrev cX0_at : ByteArray := prog_2_method_3_code
def yX0_at : MethodName := ⟨RX0, "at", "(I)I"⟩
abbrev cX0_upTo : ByteArray := prog_2_method_4_code
def yX0_upTo : MethodName := ⟨RX0, "upTo", "(I)I"⟩
abbrev cX0_holds : ByteArray := prog_2_method_5_code
def yX0_holds : MethodName := ⟨RX0, "holds", "(I)Z"⟩
abbrev cX0_firstFrom : ByteArray := prog_2_method_6_code
def yX0_firstFrom : MethodName := ⟨RX0, "firstFrom", "(I)I"⟩
abbrev cX0_nearest : ByteArray := prog_2_method_7_code
def yX0_nearest : MethodName := ⟨RX0, "nearest", "(I)I"⟩
abbrev cX0_lacksRoomFor : ByteArray := prog_2_method_8_code
def yX0_lacksRoomFor : MethodName := ⟨RX0, "lacksRoomFor", "(I)Z"⟩
abbrev cX0_make : ByteArray := prog_2_method_9_code
def yX0_make : MethodName := ⟨RX0, "make", "(I)V"⟩
abbrev cX0_takeAway : ByteArray := prog_2_method_10_code
def yX0_takeAway : MethodName := ⟨RX0, "takeAway", "(I)V"⟩
def RX1 : String := "SubtitleDesk$Edits"
def TX1 : u_T := fun k => match k with
  | 0 => ("SubtitleDesk$Edits", "film", "LSubtitleDesk$Film;", true)
  | 1 => ("SubtitleDesk$Edits", "figures", "LSubtitleDesk$Figures;", true)
  | 2 => ("SubtitleDesk$Edits", "head", "LSubtitleDesk$Text;", true)
  | _ => ("SubtitleDesk$Edits", "tail", "LSubtitleDesk$Text;", true)
def tyX1 : Nat → FieldType := fun k => match k with
  | 0 => .object "SubtitleDesk$Film"
  | 1 => .object "SubtitleDesk$Figures"
  | 2 => .object "SubtitleDesk$Text"
  | _ => .object "SubtitleDesk$Text"
theorem nmX1 : ∀ a, a < 4 → ∀ b, b < 4 → a ≠ b → (TX1 a).2.1 ≠ (TX1 b).2.1 := by decide +kernel
theorem tyX1_ok : ∀ k, k < 4 → parseFieldDescriptor (TX1 k).2.2.1 = some (tyX1 k) := by decide +kernel
abbrev cX1_init : ByteArray := prog_3_method_1_code
def yX1_init : MethodName := ⟨RX1, "<init>", "(LSubtitleDesk$Film;LSubtitleDesk$Figures;)V"⟩
abbrev cX1_placeCaption : ByteArray := prog_3_method_2_code
def yX1_placeCaption : MethodName := ⟨RX1, "placeCaption", "(IIII)I"⟩
abbrev cX1_splitRefusal : ByteArray := prog_3_method_3_code
def yX1_splitRefusal : MethodName := ⟨RX1, "splitRefusal", "(III)I"⟩
abbrev cX1_splitCaption : ByteArray := prog_3_method_4_code
def yX1_splitCaption : MethodName := ⟨RX1, "splitCaption", "(III)I"⟩
abbrev cX1_divideText : ByteArray := prog_3_method_5_code
def yX1_divideText : MethodName := ⟨RX1, "divideText", "(LSubtitleDesk$Track;II)V"⟩
abbrev cX1_framesOfHead : ByteArray := prog_3_method_6_code
def yX1_framesOfHead : MethodName := ⟨RX1, "framesOfHead", "(LSubtitleDesk$Track;II)I"⟩
abbrev cX1_mergeCaption : ByteArray := prog_3_method_7_code
def yX1_mergeCaption : MethodName := ⟨RX1, "mergeCaption", "(II)I"⟩
abbrev cX1_snapped : ByteArray := prog_3_method_8_code
def yX1_snapped : MethodName := ⟨RX1, "snapped", "(I)I"⟩
abbrev cX1_snapRefusal : ByteArray := prog_3_method_9_code
def yX1_snapRefusal : MethodName := ⟨RX1, "snapRefusal", "(II)I"⟩
abbrev cX1_snapCaption : ByteArray := prog_3_method_10_code
def yX1_snapCaption : MethodName := ⟨RX1, "snapCaption", "(II)I"⟩
abbrev cX1_fitCaption : ByteArray := prog_3_method_11_code
def yX1_fitCaption : MethodName := ⟨RX1, "fitCaption", "(II)I"⟩
abbrev cX1_retimeRefusal : ByteArray := prog_3_method_12_code
def yX1_retimeRefusal : MethodName := ⟨RX1, "retimeRefusal", "(ILSubtitleDesk$Retiming;)I"⟩
abbrev cX1_retimeCaptions : ByteArray := prog_3_method_13_code
def yX1_retimeCaptions : MethodName := ⟨RX1, "retimeCaptions", "(ILSubtitleDesk$Retiming;)I"⟩
abbrev cX1_isMeant : ByteArray := prog_3_method_14_code
def yX1_isMeant : MethodName := ⟨RX1, "isMeant", "(II)Z"⟩
abbrev cX1_carryOutCut : ByteArray := prog_3_method_15_code
def yX1_carryOutCut : MethodName := ⟨RX1, "carryOutCut", "(IZ)I"⟩
def RX2 : String := "SubtitleDesk$Figures"
def TX2 : u_T := fun k => match k with
  | 0 => ("SubtitleDesk$Figures", "film", "LSubtitleDesk$Film;", true)
  | _ => ("SubtitleDesk$Figures", "joined", "LSubtitleDesk$Text;", true)
def tyX2 : Nat → FieldType := fun k => match k with
  | 0 => .object "SubtitleDesk$Film"
  | _ => .object "SubtitleDesk$Text"
theorem nmX2 : ∀ a, a < 2 → ∀ b, b < 2 → a ≠ b → (TX2 a).2.1 ≠ (TX2 b).2.1 := by decide +kernel
theorem tyX2_ok : ∀ k, k < 2 → parseFieldDescriptor (TX2 k).2.2.1 = some (tyX2 k) := by decide +kernel
abbrev cX2_init : ByteArray := prog_4_method_1_code
def yX2_init : MethodName := ⟨RX2, "<init>", "(LSubtitleDesk$Film;)V"⟩
abbrev cX2_needs : ByteArray := prog_4_method_2_code
def yX2_needs : MethodName := ⟨RX2, "needs", "(II)I"⟩
abbrev cX2_partner : ByteArray := prog_4_method_3_code
def yX2_partner : MethodName := ⟨RX2, "partner", "(II)I"⟩
abbrev cX2_sharedWithPartner : ByteArray := prog_4_method_4_code
def yX2_sharedWithPartner : MethodName := ⟨RX2, "sharedWithPartner", "(II)I"⟩
abbrev cX2_isInStep : ByteArray := prog_4_method_5_code
def yX2_isInStep : MethodName := ⟨RX2, "isInStep", "(II)Z"⟩
abbrev cX2_isTight : ByteArray := prog_4_method_6_code
def yX2_isTight : MethodName := ⟨RX2, "isTight", "(II)Z"⟩
abbrev cX2_problems : ByteArray := prog_4_method_7_code
def yX2_problems : MethodName := ⟨RX2, "problems", "(II)I"⟩
abbrev cX2_captionsWith : ByteArray := prog_4_method_8_code
def yX2_captionsWith : MethodName := ⟨RX2, "captionsWith", "(II)I"⟩
abbrev cX2_cutsWithin : ByteArray := prog_4_method_9_code
def yX2_cutsWithin : MethodName := ⟨RX2, "cutsWithin", "(II)I"⟩
abbrev cX2_captionsOverCuts : ByteArray := prog_4_method_10_code
def yX2_captionsOverCuts : MethodName := ⟨RX2, "captionsOverCuts", "(I)I"⟩
abbrev cX2_captionsToMerge : ByteArray := prog_4_method_11_code
def yX2_captionsToMerge : MethodName := ⟨RX2, "captionsToMerge", "(I)I"⟩
abbrev cX2_framesOfBoth : ByteArray := prog_4_method_12_code
def yX2_framesOfBoth : MethodName := ⟨RX2, "framesOfBoth", "()I"⟩
abbrev cX2_mergeRefusal : ByteArray := prog_4_method_13_code
def yX2_mergeRefusal : MethodName := ⟨RX2, "mergeRefusal", "(II)I"⟩
abbrev cX2_joinWithNext : ByteArray := prog_4_method_14_code
def yX2_joinWithNext : MethodName := ⟨RX2, "joinWithNext", "(II)LSubtitleDesk$Text;"⟩
def RX3 : String := "SubtitleDesk$Film"
def TX3 : u_T := fun k => match k with
  | 0 => ("SubtitleDesk$Film", "length", "I", false)
  | 1 => ("SubtitleDesk$Film", "settings", "[I", true)
  | 2 => ("SubtitleDesk$Film", "cuts", "LSubtitleDesk$Cuts;", true)
  | 3 => ("SubtitleDesk$Film", "trackZero", "LSubtitleDesk$Track;", true)
  | _ => ("SubtitleDesk$Film", "trackOne", "LSubtitleDesk$Track;", true)
def tyX3 : Nat → FieldType := fun k => match k with
  | 0 => .int
  | 1 => .array .int
  | 2 => .object "SubtitleDesk$Cuts"
  | 3 => .object "SubtitleDesk$Track"
  | _ => .object "SubtitleDesk$Track"
theorem nmX3 : ∀ a, a < 5 → ∀ b, b < 5 → a ≠ b → (TX3 a).2.1 ≠ (TX3 b).2.1 := by decide +kernel
theorem tyX3_ok : ∀ k, k < 5 → parseFieldDescriptor (TX3 k).2.2.1 = some (tyX3 k) := by decide +kernel
abbrev cX3_init : ByteArray := prog_5_method_1_code
def yX3_init : MethodName := ⟨RX3, "<init>", "()V"⟩
abbrev cX3_copyFrom : ByteArray := prog_5_method_2_code
def yX3_copyFrom : MethodName := ⟨RX3, "copyFrom", "(LSubtitleDesk$Film;)V"⟩
abbrev cX3_trackOf : ByteArray := prog_5_method_3_code
def yX3_trackOf : MethodName := ⟨RX3, "trackOf", "(I)LSubtitleDesk$Track;"⟩
abbrev cX3_trackBeside : ByteArray := prog_5_method_4_code
def yX3_trackBeside : MethodName := ⟨RX3, "trackBeside", "(I)LSubtitleDesk$Track;"⟩
abbrev cX3_captionCount : ByteArray := prog_5_method_5_code
def yX3_captionCount : MethodName := ⟨RX3, "captionCount", "()I"⟩
abbrev cX3_setting : ByteArray := prog_5_method_6_code
def yX3_setting : MethodName := ⟨RX3, "setting", "(I)I"⟩
abbrev cX3_changeSetting : ByteArray := prog_5_method_7_code
def yX3_changeSetting : MethodName := ⟨RX3, "changeSetting", "(II)I"⟩
abbrev cX3_hasFrame : ByteArray := prog_5_method_8_code
def yX3_hasFrame : MethodName := ⟨RX3, "hasFrame", "(I)Z"⟩
abbrev cX3_canBeCut : ByteArray := prog_5_method_9_code
def yX3_canBeCut : MethodName := ⟨RX3, "canBeCut", "(I)Z"⟩
abbrev cX3_isLoose : ByteArray := prog_5_method_10_code
def yX3_isLoose : MethodName := ⟨RX3, "isLoose", "(I)Z"⟩
abbrev cX3_lengthRefusal : ByteArray := prog_5_method_11_code
def yX3_lengthRefusal : MethodName := ⟨RX3, "lengthRefusal", "(I)I"⟩
abbrev cX3_spanRefusal : ByteArray := prog_5_method_12_code
def yX3_spanRefusal : MethodName := ⟨RX3, "spanRefusal", "(II)I"⟩
abbrev cX3_placeRefusal : ByteArray := prog_5_method_13_code
def yX3_placeRefusal : MethodName := ⟨RX3, "placeRefusal", "(IIII)I"⟩
abbrev cX3_addRefusal : ByteArray := prog_5_method_14_code
def yX3_addRefusal : MethodName := ⟨RX3, "addRefusal", "(IIILSubtitleDesk$Text;)I"⟩
def RX4 : String := "SubtitleDesk$History"
def TX4 : u_T := fun k => match k with
  | 0 => ("SubtitleDesk$History", "before", "[LSubtitleDesk$Film;", true)
  | 1 => ("SubtitleDesk$History", "count", "I", false)
  | _ => ("SubtitleDesk$History", "next", "I", false)
def tyX4 : Nat → FieldType := fun k => match k with
  | 0 => .array (.object "SubtitleDesk$Film")
  | 1 => .int
  | _ => .int
theorem nmX4 : ∀ a, a < 3 → ∀ b, b < 3 → a ≠ b → (TX4 a).2.1 ≠ (TX4 b).2.1 := by decide +kernel
theorem tyX4_ok : ∀ k, k < 3 → parseFieldDescriptor (TX4 k).2.2.1 = some (tyX4 k) := by decide +kernel
abbrev cX4_init : ByteArray := prog_6_method_1_code
def yX4_init : MethodName := ⟨RX4, "<init>", "()V"⟩
abbrev cX4_keep : ByteArray := prog_6_method_2_code
def yX4_keep : MethodName := ⟨RX4, "keep", "(LSubtitleDesk$Film;)V"⟩
abbrev cX4_prepare : ByteArray := prog_6_method_3_code
def yX4_prepare : MethodName := ⟨RX4, "prepare", "(LSubtitleDesk$Film;)V"⟩
abbrev cX4_commit : ByteArray := prog_6_method_4_code
def yX4_commit : MethodName := ⟨RX4, "commit", "()V"⟩
abbrev cX4_takeBackInto : ByteArray := prog_6_method_5_code
def yX4_takeBackInto : MethodName := ⟨RX4, "takeBackInto", "(LSubtitleDesk$Film;)V"⟩
abbrev cX4_undoInto : ByteArray := prog_6_method_6_code
def yX4_undoInto : MethodName := ⟨RX4, "undoInto", "(LSubtitleDesk$Film;)V"⟩
abbrev cX4_forgetAll : ByteArray := prog_6_method_7_code
def yX4_forgetAll : MethodName := ⟨RX4, "forgetAll", "()V"⟩
abbrev cX4_rowAt : ByteArray := prog_6_method_8_code
def yX4_rowAt : MethodName := ⟨RX4, "rowAt", "(I)LSubtitleDesk$Film;"⟩
def RX5 : String := "SubtitleDesk$Reader"
def TX5 : u_T := fun k => match k with
  | 0 => ("SubtitleDesk$Reader", "whats", "[I", true)
  | 1 => ("SubtitleDesk$Reader", "tracks", "[I", true)
  | 2 => ("SubtitleDesk$Reader", "kinds", "[I", true)
  | 3 => ("SubtitleDesk$Reader", "firsts", "[I", true)
  | 4 => ("SubtitleDesk$Reader", "ends", "[I", true)
  | 5 => ("SubtitleDesk$Reader", "wordsFroms", "[I", true)
  | 6 => ("SubtitleDesk$Reader", "wordsTos", "[I", true)
  | 7 => ("SubtitleDesk$Reader", "count", "I", false)
  | 8 => ("SubtitleDesk$Reader", "position", "I", false)
  | _ => ("SubtitleDesk$Reader", "text", "LSubtitleDesk$Text;", false)
def tyX5 : Nat → FieldType := fun k => match k with
  | 0 => .array .int
  | 1 => .array .int
  | 2 => .array .int
  | 3 => .array .int
  | 4 => .array .int
  | 5 => .array .int
  | 6 => .array .int
  | 7 => .int
  | 8 => .int
  | _ => .object "SubtitleDesk$Text"
theorem nmX5 : ∀ a, a < 10 → ∀ b, b < 10 → a ≠ b → (TX5 a).2.1 ≠ (TX5 b).2.1 := by decide +kernel
theorem tyX5_ok : ∀ k, k < 10 → parseFieldDescriptor (TX5 k).2.2.1 = some (tyX5 k) := by decide +kernel
abbrev cX5_init : ByteArray := prog_7_method_1_code
def yX5_init : MethodName := ⟨RX5, "<init>", "()V"⟩
abbrev cX5_isItem : ByteArray := prog_7_method_2_code
def yX5_isItem : MethodName := ⟨RX5, "isItem", "(I)Z"⟩
abbrev cX5_what : ByteArray := prog_7_method_3_code
def yX5_what : MethodName := ⟨RX5, "what", "(I)I"⟩
abbrev cX5_trackOfItem : ByteArray := prog_7_method_4_code
def yX5_trackOfItem : MethodName := ⟨RX5, "trackOfItem", "(I)I"⟩
abbrev cX5_kind : ByteArray := prog_7_method_5_code
def yX5_kind : MethodName := ⟨RX5, "kind", "(I)I"⟩
abbrev cX5_first : ByteArray := prog_7_method_6_code
def yX5_first : MethodName := ⟨RX5, "first", "(I)I"⟩
abbrev cX5_end : ByteArray := prog_7_method_7_code
def yX5_end : MethodName := ⟨RX5, "end", "(I)I"⟩
abbrev cX5_wordsFrom : ByteArray := prog_7_method_8_code
def yX5_wordsFrom : MethodName := ⟨RX5, "wordsFrom", "(I)I"⟩
abbrev cX5_wordsTo : ByteArray := prog_7_method_9_code
def yX5_wordsTo : MethodName := ⟨RX5, "wordsTo", "(I)I"⟩
abbrev cX5_readText : ByteArray := prog_7_method_10_code
def yX5_readText : MethodName := ⟨RX5, "readText", "(LSubtitleDesk$Text;)Z"⟩
abbrev cX5_readItem : ByteArray := prog_7_method_11_code
def yX5_readItem : MethodName := ⟨RX5, "readItem", "(I)Z"⟩
abbrev cX5_readCut : ByteArray := prog_7_method_12_code
def yX5_readCut : MethodName := ⟨RX5, "readCut", "(II)Z"⟩
abbrev cX5_readCaption : ByteArray := prog_7_method_13_code
def yX5_readCaption : MethodName := ⟨RX5, "readCaption", "(I)Z"⟩
abbrev cX5_takeSign : ByteArray := prog_7_method_14_code
def yX5_takeSign : MethodName := ⟨RX5, "takeSign", "(I)Z"⟩
abbrev cX5_takeOneOf : ByteArray := prog_7_method_15_code
def yX5_takeOneOf : MethodName := ⟨RX5, "takeOneOf", "(III)I"⟩
abbrev cX5_readNumber : ByteArray := prog_7_method_16_code
def yX5_readNumber : MethodName := ⟨RX5, "readNumber", "()I"⟩
abbrev cX5_skipWords : ByteArray := prog_7_method_17_code
def yX5_skipWords : MethodName := ⟨RX5, "skipWords", "()V"⟩
abbrev cX5_isDigit : ByteArray := prog_7_method_18_code
def yX5_isDigit : MethodName := ⟨RX5, "isDigit", "(I)Z"⟩
def RX6 : String := "SubtitleDesk$Retiming"
def TX6 : u_T := fun k => match k with
  | 0 => ("SubtitleDesk$Retiming", "from", "I", true)
  | 1 => ("SubtitleDesk$Retiming", "to", "I", true)
  | 2 => ("SubtitleDesk$Retiming", "rise", "I", true)
  | _ => ("SubtitleDesk$Retiming", "run", "I", true)
def tyX6 : Nat → FieldType := fun k => match k with
  | 0 => .int
  | 1 => .int
  | 2 => .int
  | _ => .int
theorem nmX6 : ∀ a, a < 4 → ∀ b, b < 4 → a ≠ b → (TX6 a).2.1 ≠ (TX6 b).2.1 := by decide +kernel
theorem tyX6_ok : ∀ k, k < 4 → parseFieldDescriptor (TX6 k).2.2.1 = some (tyX6 k) := by decide +kernel
abbrev cX6_init : ByteArray := prog_8_method_1_code
def yX6_init : MethodName := ⟨RX6, "<init>", "(IIII)V"⟩
abbrev cX6_frameFor : ByteArray := prog_8_method_2_code
def yX6_frameFor : MethodName := ⟨RX6, "frameFor", "(I)I"⟩
def RX7 : String := "SubtitleDesk$Text"
def TX7 : u_T := fun k => match k with
  | 0 => ("SubtitleDesk$Text", "signs", "[I", true)
  | _ => ("SubtitleDesk$Text", "size", "I", false)
def tyX7 : Nat → FieldType := fun k => match k with
  | 0 => .array .int
  | _ => .int
theorem nmX7 : ∀ a, a < 2 → ∀ b, b < 2 → a ≠ b → (TX7 a).2.1 ≠ (TX7 b).2.1 := by decide +kernel
theorem tyX7_ok : ∀ k, k < 2 → parseFieldDescriptor (TX7 k).2.2.1 = some (tyX7 k) := by decide +kernel
abbrev cX7_init : ByteArray := prog_9_method_1_code
def yX7_init : MethodName := ⟨RX7, "<init>", "()V"⟩
abbrev cX7_clear : ByteArray := prog_9_method_2_code
def yX7_clear : MethodName := ⟨RX7, "clear", "()V"⟩
abbrev cX7_append : ByteArray := prog_9_method_3_code
def yX7_append : MethodName := ⟨RX7, "append", "(I)Z"⟩
abbrev cX7_appendPart : ByteArray := prog_9_method_4_code
def yX7_appendPart : MethodName := ⟨RX7, "appendPart", "(LSubtitleDesk$Text;II)V"⟩
abbrev cX7_signAt : ByteArray := prog_9_method_5_code
def yX7_signAt : MethodName := ⟨RX7, "signAt", "(I)I"⟩
abbrev cX7_isValid : ByteArray := prog_9_method_6_code
def yX7_isValid : MethodName := ⟨RX7, "isValid", "()Z"⟩
def RX8 : String := "SubtitleDesk$Track"
def TX8 : u_T := fun k => match k with
  | 0 => ("SubtitleDesk$Track", "firsts", "[I", true)
  | 1 => ("SubtitleDesk$Track", "ends", "[I", true)
  | 2 => ("SubtitleDesk$Track", "kinds", "[I", true)
  | 3 => ("SubtitleDesk$Track", "sizes", "[I", true)
  | 4 => ("SubtitleDesk$Track", "signs", "[I", true)
  | _ => ("SubtitleDesk$Track", "count", "I", false)
def tyX8 : Nat → FieldType := fun k => match k with
  | 0 => .array .int
  | 1 => .array .int
  | 2 => .array .int
  | 3 => .array .int
  | 4 => .array .int
  | _ => .int
theorem nmX8 : ∀ a, a < 6 → ∀ b, b < 6 → a ≠ b → (TX8 a).2.1 ≠ (TX8 b).2.1 := by decide +kernel
theorem tyX8_ok : ∀ k, k < 6 → parseFieldDescriptor (TX8 k).2.2.1 = some (tyX8 k) := by decide +kernel
abbrev cX8_init : ByteArray := prog_10_method_1_code
def yX8_init : MethodName := ⟨RX8, "<init>", "()V"⟩
abbrev cX8_copyFrom : ByteArray := prog_10_method_2_code
def yX8_copyFrom : MethodName := ⟨RX8, "copyFrom", "(LSubtitleDesk$Track;)V"⟩
abbrev cX8_has : ByteArray := prog_10_method_3_code
def yX8_has : MethodName := ⟨RX8, "has", "(I)Z"⟩
abbrev cX8_first : ByteArray := prog_10_method_4_code
def yX8_first : MethodName := ⟨RX8, "first", "(I)I"⟩
abbrev cX8_end : ByteArray := prog_10_method_5_code
def yX8_end : MethodName := ⟨RX8, "end", "(I)I"⟩
abbrev cX8_kind : ByteArray := prog_10_method_6_code
def yX8_kind : MethodName := ⟨RX8, "kind", "(I)I"⟩
abbrev cX8_size : ByteArray := prog_10_method_7_code
def yX8_size : MethodName := ⟨RX8, "size", "(I)I"⟩
abbrev cX8_frames : ByteArray := prog_10_method_8_code
def yX8_frames : MethodName := ⟨RX8, "frames", "(I)I"⟩
abbrev cX8_signAt : ByteArray := prog_10_method_9_code
def yX8_signAt : MethodName := ⟨RX8, "signAt", "(II)I"⟩
abbrev cX8_load : ByteArray := prog_10_method_10_code
def yX8_load : MethodName := ⟨RX8, "load", "(I)I"⟩
abbrev cX8_loadBetween : ByteArray := prog_10_method_11_code
def yX8_loadBetween : MethodName := ⟨RX8, "loadBetween", "(III)I"⟩
abbrev cX8_longestLine : ByteArray := prog_10_method_12_code
def yX8_longestLine : MethodName := ⟨RX8, "longestLine", "(I)I"⟩
abbrev cX8_gapBefore : ByteArray := prog_10_method_13_code
def yX8_gapBefore : MethodName := ⟨RX8, "gapBefore", "(I)I"⟩
abbrev cX8_shared : ByteArray := prog_10_method_14_code
def yX8_shared : MethodName := ⟨RX8, "shared", "(III)I"⟩
abbrev cX8_sharesWithOthers : ByteArray := prog_10_method_15_code
def yX8_sharesWithOthers : MethodName := ⟨RX8, "sharesWithOthers", "(III)Z"⟩
abbrev cX8_captionOn : ByteArray := prog_10_method_16_code
def yX8_captionOn : MethodName := ⟨RX8, "captionOn", "(I)I"⟩
abbrev cX8_allFrames : ByteArray := prog_10_method_17_code
def yX8_allFrames : MethodName := ⟨RX8, "allFrames", "()I"⟩
abbrev cX8_allLoad : ByteArray := prog_10_method_18_code
def yX8_allLoad : MethodName := ⟨RX8, "allLoad", "()I"⟩
abbrev cX8_densest : ByteArray := prog_10_method_19_code
def yX8_densest : MethodName := ⟨RX8, "densest", "()I"⟩
abbrev cX8_appendTextTo : ByteArray := prog_10_method_20_code
def yX8_appendTextTo : MethodName := ⟨RX8, "appendTextTo", "(LSubtitleDesk$Text;III)V"⟩
abbrev cX8_setFrames : ByteArray := prog_10_method_21_code
def yX8_setFrames : MethodName := ⟨RX8, "setFrames", "(III)V"⟩
abbrev cX8_setText : ByteArray := prog_10_method_22_code
def yX8_setText : MethodName := ⟨RX8, "setText", "(ILSubtitleDesk$Text;)V"⟩
abbrev cX8_insertCaption : ByteArray := prog_10_method_23_code
def yX8_insertCaption : MethodName := ⟨RX8, "insertCaption", "(IIILSubtitleDesk$Text;)I"⟩
abbrev cX8_closeRow : ByteArray := prog_10_method_24_code
def yX8_closeRow : MethodName := ⟨RX8, "closeRow", "(I)V"⟩
abbrev cX8_copyRow : ByteArray := prog_10_method_25_code
def yX8_copyRow : MethodName := ⟨RX8, "copyRow", "(II)V"⟩
abbrev cX8_isRow : ByteArray := prog_10_method_26_code
def yX8_isRow : MethodName := ⟨RX8, "isRow", "(I)Z"⟩
def RX9 : String := "SubtitleDesk"
def TX9 : u_T := fun k => match k with
  | 0 => ("SubtitleDesk", "film", "LSubtitleDesk$Film;", true)
  | 1 => ("SubtitleDesk", "figures", "LSubtitleDesk$Figures;", true)
  | 2 => ("SubtitleDesk", "edits", "LSubtitleDesk$Edits;", true)
  | 3 => ("SubtitleDesk", "history", "LSubtitleDesk$History;", true)
  | 4 => ("SubtitleDesk", "snapshot", "LSubtitleDesk$Film;", true)
  | 5 => ("SubtitleDesk", "hasSnapshot", "Z", false)
  | 6 => ("SubtitleDesk", "input", "LSubtitleDesk$Text;", true)
  | 7 => ("SubtitleDesk", "words", "LSubtitleDesk$Text;", true)
  | 8 => ("SubtitleDesk", "reader", "LSubtitleDesk$Reader;", true)
  | 9 => ("SubtitleDesk", "faultKept", "I", false)
  | 10 => ("SubtitleDesk", "reasonKept", "I", false)
  | _ => ("SubtitleDesk", "itemKept", "I", false)
def tyX9 : Nat → FieldType := fun k => match k with
  | 0 => .object "SubtitleDesk$Film"
  | 1 => .object "SubtitleDesk$Figures"
  | 2 => .object "SubtitleDesk$Edits"
  | 3 => .object "SubtitleDesk$History"
  | 4 => .object "SubtitleDesk$Film"
  | 5 => .boolean
  | 6 => .object "SubtitleDesk$Text"
  | 7 => .object "SubtitleDesk$Text"
  | 8 => .object "SubtitleDesk$Reader"
  | 9 => .int
  | 10 => .int
  | _ => .int
theorem nmX9 : ∀ a, a < 12 → ∀ b, b < 12 → a ≠ b → (TX9 a).2.1 ≠ (TX9 b).2.1 := by decide +kernel
theorem tyX9_ok : ∀ k, k < 12 → parseFieldDescriptor (TX9 k).2.2.1 = some (tyX9 k) := by decide +kernel
abbrev cX9_init : ByteArray := prog_1_method_1_code
def yX9_init : MethodName := ⟨RX9, "<init>", "()V"⟩
abbrev cX9_film : ByteArray := prog_1_method_2_code
def yX9_film : MethodName := ⟨RX9, "film", "(I)I"⟩
abbrev cX9_set : ByteArray := prog_1_method_3_code
def yX9_set : MethodName := ⟨RX9, "set", "(II)I"⟩
abbrev cX9_cut : ByteArray := prog_1_method_4_code
def yX9_cut : MethodName := ⟨RX9, "cut", "(IZ)I"⟩
abbrev cX9_number : ByteArray := prog_1_method_5_code
def yX9_number : MethodName := ⟨RX9, "number", "(I)I"⟩
abbrev cX9_shot : ByteArray := prog_1_method_6_code
def yX9_shot : MethodName := ⟨RX9, "shot", "(I)I"⟩
abbrev cX9_feed : ByteArray := prog_1_method_7_code
def yX9_feed : MethodName := ⟨RX9, "feed", "(C)I"⟩
abbrev cX9_add : ByteArray := prog_1_method_8_code
def yX9_add : MethodName := ⟨RX9, "add", "(IIII)I"⟩
abbrev cX9_remove : ByteArray := prog_1_method_9_code
def yX9_remove : MethodName := ⟨RX9, "remove", "(II)I"⟩
abbrev cX9_move : ByteArray := prog_1_method_10_code
def yX9_move : MethodName := ⟨RX9, "move", "(IIII)I"⟩
abbrev cX9_split : ByteArray := prog_1_method_11_code
def yX9_split : MethodName := ⟨RX9, "split", "(III)I"⟩
abbrev cX9_merge : ByteArray := prog_1_method_12_code
def yX9_merge : MethodName := ⟨RX9, "merge", "(II)I"⟩
abbrev cX9_snap : ByteArray := prog_1_method_13_code
def yX9_snap : MethodName := ⟨RX9, "snap", "(II)I"⟩
abbrev cX9_fit : ByteArray := prog_1_method_14_code
def yX9_fit : MethodName := ⟨RX9, "fit", "(II)I"⟩
abbrev cX9_retime : ByteArray := prog_1_method_15_code
def yX9_retime : MethodName := ⟨RX9, "retime", "(IIIII)I"⟩
abbrev cX9_caption : ByteArray := prog_1_method_16_code
def yX9_caption : MethodName := ⟨RX9, "caption", "(III)I"⟩
abbrev cX9_letter : ByteArray := prog_1_method_17_code
def yX9_letter : MethodName := ⟨RX9, "letter", "(III)C"⟩
abbrev cX9_shown : ByteArray := prog_1_method_18_code
def yX9_shown : MethodName := ⟨RX9, "shown", "(II)I"⟩
abbrev cX9_track : ByteArray := prog_1_method_19_code
def yX9_track : MethodName := ⟨RX9, "track", "(II)I"⟩
abbrev cX9_fastest : ByteArray := prog_1_method_20_code
def yX9_fastest : MethodName := ⟨RX9, "fastest", "(I)I"⟩
abbrev cX9_speed : ByteArray := prog_1_method_21_code
def yX9_speed : MethodName := ⟨RX9, "speed", "(I)D"⟩
abbrev cX9_read : ByteArray := prog_1_method_22_code
def yX9_read : MethodName := ⟨RX9, "read", "()I"⟩
abbrev cX9_faultPosition : ByteArray := prog_1_method_23_code
def yX9_faultPosition : MethodName := ⟨RX9, "faultPosition", "()I"⟩
abbrev cX9_refusal : ByteArray := prog_1_method_24_code
def yX9_refusal : MethodName := ⟨RX9, "refusal", "(Z)I"⟩
abbrev cX9_undo : ByteArray := prog_1_method_25_code
def yX9_undo : MethodName := ⟨RX9, "undo", "()I"⟩
abbrev cX9_saveSnapshot : ByteArray := prog_1_method_26_code
def yX9_saveSnapshot : MethodName := ⟨RX9, "saveSnapshot", "()I"⟩
abbrev cX9_restoreSnapshot : ByteArray := prog_1_method_27_code
def yX9_restoreSnapshot : MethodName := ⟨RX9, "restoreSnapshot", "()I"⟩
abbrev cX9_requireTrack : ByteArray := prog_1_method_28_code
def yX9_requireTrack : MethodName := ⟨RX9, "requireTrack", "(I)V"⟩
abbrev cX9_requireCaption : ByteArray := prog_1_method_29_code
def yX9_requireCaption : MethodName := ⟨RX9, "requireCaption", "(II)V"⟩
abbrev cX9_passOrRefuse : ByteArray := prog_1_method_30_code
def yX9_passOrRefuse : MethodName := ⟨RX9, "passOrRefuse", "(I)V"⟩
abbrev cX9_keepRefusal : ByteArray := prog_1_method_31_code
def yX9_keepRefusal : MethodName := ⟨RX9, "keepRefusal", "(II)V"⟩
abbrev cX9_carryOutItems : ByteArray := prog_1_method_32_code
def yX9_carryOutItems : MethodName := ⟨RX9, "carryOutItems", "()Z"⟩
abbrev cX9_carryOutItem : ByteArray := prog_1_method_33_code
def yX9_carryOutItem : MethodName := ⟨RX9, "carryOutItem", "(I)I"⟩
abbrev cX9_isTrack : ByteArray := prog_1_method_34_code
def yX9_isTrack : MethodName := ⟨RX9, "isTrack", "(I)Z"⟩
abbrev cX9_isSetting : ByteArray := prog_1_method_35_code
def yX9_isSetting : MethodName := ⟨RX9, "isSetting", "(I)Z"⟩
abbrev cX9_isSettingValue : ByteArray := prog_1_method_36_code
def yX9_isSettingValue : MethodName := ⟨RX9, "isSettingValue", "(II)Z"⟩
abbrev cX9_arePoints : ByteArray := prog_1_method_37_code
def yX9_arePoints : MethodName := ⟨RX9, "arePoints", "(IIII)Z"⟩
abbrev cX9_isPointFrame : ByteArray := prog_1_method_38_code
def yX9_isPointFrame : MethodName := ⟨RX9, "isPointFrame", "(I)Z"⟩
abbrev cX9_isWordSign : ByteArray := prog_1_method_39_code
def yX9_isWordSign : MethodName := ⟨RX9, "isWordSign", "(I)Z"⟩
abbrev cX9_distance : ByteArray := prog_1_method_40_code
def yX9_distance : MethodName := ⟨RX9, "distance", "(II)I"⟩
abbrev cX9_dividedUp : ByteArray := prog_1_method_41_code
def yX9_dividedUp : MethodName := ⟨RX9, "dividedUp", "(II)I"⟩
def RX10 : String := "SubtitleDeskModel"
def TX10 : u_T := fun k => match k with
  | 0 => ("SubtitleDeskModel", "g", "[I", true)
  | 1 => ("SubtitleDeskModel", "kept", "[I", true)
  | 2 => ("SubtitleDeskModel", "ahead", "[I", true)
  | 3 => ("SubtitleDeskModel", "hasKept", "Z", false)
  | 4 => ("SubtitleDeskModel", "past", "[I", true)
  | 5 => ("SubtitleDeskModel", "pasts", "I", false)
  | 6 => ("SubtitleDeskModel", "own", "[I", true)
  | 7 => ("SubtitleDeskModel", "refused", "I", false)
  | 8 => ("SubtitleDeskModel", "refusedAt", "I", false)
  | 9 => ("SubtitleDeskModel", "wrong", "I", false)
  | 10 => ("SubtitleDeskModel", "thrown", "I", false)
  | 11 => ("SubtitleDeskModel", "text", "[I", true)
  | 12 => ("SubtitleDeskModel", "length", "I", false)
  | 13 => ("SubtitleDeskModel", "spot", "I", false)
  | 14 => ("SubtitleDeskModel", "value", "I", false)
  | 15 => ("SubtitleDeskModel", "told", "[I", true)
  | _ => ("SubtitleDeskModel", "tolds", "I", false)
def tyX10 : Nat → FieldType := fun k => match k with
  | 0 => .array .int
  | 1 => .array .int
  | 2 => .array .int
  | 3 => .boolean
  | 4 => .array .int
  | 5 => .int
  | 6 => .array .int
  | 7 => .int
  | 8 => .int
  | 9 => .int
  | 10 => .int
  | 11 => .array .int
  | 12 => .int
  | 13 => .int
  | 14 => .int
  | 15 => .array .int
  | _ => .int
theorem nmX10 : ∀ a, a < 17 → ∀ b, b < 17 → a ≠ b → (TX10 a).2.1 ≠ (TX10 b).2.1 := by decide +kernel
theorem tyX10_ok : ∀ k, k < 17 → parseFieldDescriptor (TX10 k).2.2.1 = some (tyX10 k) := by decide +kernel
abbrev cX10_init : ByteArray := prog_12_method_1_code
def yX10_init : MethodName := ⟨RX10, "<init>", "()V"⟩
abbrev cX10_thrown : ByteArray := prog_12_method_2_code
def yX10_thrown : MethodName := ⟨RX10, "thrown", "()I"⟩
abbrev cX10_fails : ByteArray := prog_12_method_3_code
def yX10_fails : MethodName := ⟨RX10, "fails", "(I)I"⟩
abbrev cX10_refuses : ByteArray := prog_12_method_4_code
def yX10_refuses : MethodName := ⟨RX10, "refuses", "(II)I"⟩
abbrev cX10_in : ByteArray := prog_12_method_5_code
def yX10_in : MethodName := ⟨RX10, "in", "(III)Z"⟩
abbrev cX10_isTrack : ByteArray := prog_12_method_6_code
def yX10_isTrack : MethodName := ⟨RX10, "isTrack", "(I)Z"⟩
abbrev cX10_isCaption : ByteArray := prog_12_method_7_code
def yX10_isCaption : MethodName := ⟨RX10, "isCaption", "(II)Z"⟩
abbrev cX10_at : ByteArray := prog_12_method_8_code
def yX10_at : MethodName := ⟨RX10, "at", "(III)I"⟩
abbrev cX10_first : ByteArray := prog_12_method_9_code
def yX10_first : MethodName := ⟨RX10, "first", "(II)I"⟩
abbrev cX10_end : ByteArray := prog_12_method_10_code
def yX10_end : MethodName := ⟨RX10, "end", "(II)I"⟩
abbrev cX10_copies : ByteArray := prog_12_method_11_code
def yX10_copies : MethodName := ⟨RX10, "copies", "([II[II)V"⟩
abbrev cX10_changes : ByteArray := prog_12_method_12_code
def yX10_changes : MethodName := ⟨RX10, "changes", "([I)V"⟩
abbrev cX10_undo : ByteArray := prog_12_method_13_code
def yX10_undo : MethodName := ⟨RX10, "undo", "()I"⟩
abbrev cX10_saveSnapshot : ByteArray := prog_12_method_14_code
def yX10_saveSnapshot : MethodName := ⟨RX10, "saveSnapshot", "()I"⟩
abbrev cX10_restoreSnapshot : ByteArray := prog_12_method_15_code
def yX10_restoreSnapshot : MethodName := ⟨RX10, "restoreSnapshot", "()I"⟩
abbrev cX10_film : ByteArray := prog_12_method_16_code
def yX10_film : MethodName := ⟨RX10, "film", "(I)I"⟩
abbrev cX10_maySet : ByteArray := prog_12_method_17_code
def yX10_maySet : MethodName := ⟨RX10, "maySet", "(II)Z"⟩
abbrev cX10_set : ByteArray := prog_12_method_18_code
def yX10_set : MethodName := ⟨RX10, "set", "(II)I"⟩
abbrev cX10_isCut : ByteArray := prog_12_method_19_code
def yX10_isCut : MethodName := ⟨RX10, "isCut", "(I)Z"⟩
abbrev cX10_againstCut : ByteArray := prog_12_method_20_code
def yX10_againstCut : MethodName := ⟨RX10, "againstCut", "(IZ)I"⟩
abbrev cX10_cuts : ByteArray := prog_12_method_21_code
def yX10_cuts : MethodName := ⟨RX10, "cuts", "(IZ)V"⟩
abbrev cX10_cut : ByteArray := prog_12_method_22_code
def yX10_cut : MethodName := ⟨RX10, "cut", "(IZ)I"⟩
abbrev cX10_shot : ByteArray := prog_12_method_23_code
def yX10_shot : MethodName := ⟨RX10, "shot", "(I)I"⟩
abbrev cX10_isLoose : ByteArray := prog_12_method_24_code
def yX10_isLoose : MethodName := ⟨RX10, "isLoose", "(I)Z"⟩
abbrev cX10_nearest : ByteArray := prog_12_method_25_code
def yX10_nearest : MethodName := ⟨RX10, "nearest", "(I)I"⟩
abbrev cX10_far : ByteArray := prog_12_method_26_code
def yX10_far : MethodName := ⟨RX10, "far", "(II)I"⟩
abbrev cX10_isLetter : ByteArray := prog_12_method_27_code
def yX10_isLetter : MethodName := ⟨RX10, "isLetter", "(I)Z"⟩
abbrev cX10_isText : ByteArray := prog_12_method_28_code
def yX10_isText : MethodName := ⟨RX10, "isText", "([III)Z"⟩
abbrev cX10_bars : ByteArray := prog_12_method_29_code
def yX10_bars : MethodName := ⟨RX10, "bars", "([III)I"⟩
abbrev cX10_load : ByteArray := prog_12_method_30_code
def yX10_load : MethodName := ⟨RX10, "load", "(II)I"⟩
abbrev cX10_up : ByteArray := prog_12_method_31_code
def yX10_up : MethodName := ⟨RX10, "up", "(II)I"⟩
abbrev cX10_needs : ByteArray := prog_12_method_32_code
def yX10_needs : MethodName := ⟨RX10, "needs", "(II)I"⟩
abbrev cX10_longest : ByteArray := prog_12_method_33_code
def yX10_longest : MethodName := ⟨RX10, "longest", "(II)I"⟩
abbrev cX10_shared : ByteArray := prog_12_method_34_code
def yX10_shared : MethodName := ⟨RX10, "shared", "(III)I"⟩
abbrev cX10_partner : ByteArray := prog_12_method_35_code
def yX10_partner : MethodName := ⟨RX10, "partner", "(II)I"⟩
abbrev cX10_isInStep : ByteArray := prog_12_method_36_code
def yX10_isInStep : MethodName := ⟨RX10, "isInStep", "(II)Z"⟩
abbrev cX10_before : ByteArray := prog_12_method_37_code
def yX10_before : MethodName := ⟨RX10, "before", "(II)I"⟩
abbrev cX10_problems : ByteArray := prog_12_method_38_code
def yX10_problems : MethodName := ⟨RX10, "problems", "(II)I"⟩
abbrev cX10_cutsWithin : ByteArray := prog_12_method_39_code
def yX10_cutsWithin : MethodName := ⟨RX10, "cutsWithin", "(II)I"⟩
abbrev cX10_feed : ByteArray := prog_12_method_40_code
def yX10_feed : MethodName := ⟨RX10, "feed", "(C)I"⟩
abbrev cX10_againstPlace : ByteArray := prog_12_method_41_code
def yX10_againstPlace : MethodName := ⟨RX10, "againstPlace", "(IIII)I"⟩
abbrev cX10_againstAdd : ByteArray := prog_12_method_42_code
def yX10_againstAdd : MethodName := ⟨RX10, "againstAdd", "(IIIII)I"⟩
abbrev cX10_puts : ByteArray := prog_12_method_43_code
def yX10_puts : MethodName := ⟨RX10, "puts", "(I)I"⟩
abbrev cX10_takes : ByteArray := prog_12_method_44_code
def yX10_takes : MethodName := ⟨RX10, "takes", "(II)V"⟩
abbrev cX10_owns : ByteArray := prog_12_method_45_code
def yX10_owns : MethodName := ⟨RX10, "owns", "(II)V"⟩
abbrev cX10_adds : ByteArray := prog_12_method_46_code
def yX10_adds : MethodName := ⟨RX10, "adds", "(IIIIII)I"⟩
abbrev cX10_add : ByteArray := prog_12_method_47_code
def yX10_add : MethodName := ⟨RX10, "add", "(IIII)I"⟩
abbrev cX10_remove : ByteArray := prog_12_method_48_code
def yX10_remove : MethodName := ⟨RX10, "remove", "(II)I"⟩
abbrev cX10_moves : ByteArray := prog_12_method_49_code
def yX10_moves : MethodName := ⟨RX10, "moves", "(IIII)I"⟩
abbrev cX10_move : ByteArray := prog_12_method_50_code
def yX10_move : MethodName := ⟨RX10, "move", "(IIII)I"⟩
abbrev cX10_split : ByteArray := prog_12_method_51_code
def yX10_split : MethodName := ⟨RX10, "split", "(III)I"⟩
abbrev cX10_againstMerge : ByteArray := prog_12_method_52_code
def yX10_againstMerge : MethodName := ⟨RX10, "againstMerge", "(II)I"⟩
abbrev cX10_merge : ByteArray := prog_12_method_53_code
def yX10_merge : MethodName := ⟨RX10, "merge", "(II)I"⟩
abbrev cX10_snap : ByteArray := prog_12_method_54_code
def yX10_snap : MethodName := ⟨RX10, "snap", "(II)I"⟩
abbrev cX10_fit : ByteArray := prog_12_method_55_code
def yX10_fit : MethodName := ⟨RX10, "fit", "(II)I"⟩
abbrev cX10_floor : ByteArray := prog_12_method_56_code
def yX10_floor : MethodName := ⟨RX10, "floor", "(II)I"⟩
abbrev cX10_retimed : ByteArray := prog_12_method_57_code
def yX10_retimed : MethodName := ⟨RX10, "retimed", "(IIIII)I"⟩
abbrev cX10_retime : ByteArray := prog_12_method_58_code
def yX10_retime : MethodName := ⟨RX10, "retime", "(IIIII)I"⟩
abbrev cX10_both : ByteArray := prog_12_method_59_code
def yX10_both : MethodName := ⟨RX10, "both", "()I"⟩
abbrev cX10_with : ByteArray := prog_12_method_60_code
def yX10_with : MethodName := ⟨RX10, "with", "(II)I"⟩
abbrev cX10_number : ByteArray := prog_12_method_61_code
def yX10_number : MethodName := ⟨RX10, "number", "(I)I"⟩
abbrev cX10_caption : ByteArray := prog_12_method_62_code
def yX10_caption : MethodName := ⟨RX10, "caption", "(III)I"⟩
abbrev cX10_letter : ByteArray := prog_12_method_63_code
def yX10_letter : MethodName := ⟨RX10, "letter", "(III)C"⟩
abbrev cX10_shown : ByteArray := prog_12_method_64_code
def yX10_shown : MethodName := ⟨RX10, "shown", "(II)I"⟩
abbrev cX10_frames : ByteArray := prog_12_method_65_code
def yX10_frames : MethodName := ⟨RX10, "frames", "(I)I"⟩
abbrev cX10_loads : ByteArray := prog_12_method_66_code
def yX10_loads : MethodName := ⟨RX10, "loads", "(I)I"⟩
abbrev cX10_overCuts : ByteArray := prog_12_method_67_code
def yX10_overCuts : MethodName := ⟨RX10, "overCuts", "(I)I"⟩
abbrev cX10_merging : ByteArray := prog_12_method_68_code
def yX10_merging : MethodName := ⟨RX10, "merging", "(I)I"⟩
abbrev cX10_track : ByteArray := prog_12_method_69_code
def yX10_track : MethodName := ⟨RX10, "track", "(II)I"⟩
abbrev cX10_fastest : ByteArray := prog_12_method_70_code
def yX10_fastest : MethodName := ⟨RX10, "fastest", "(I)I"⟩
abbrev cX10_speed : ByteArray := prog_12_method_71_code
def yX10_speed : MethodName := ⟨RX10, "speed", "(I)D"⟩
abbrev cX10_here : ByteArray := prog_12_method_72_code
def yX10_here : MethodName := ⟨RX10, "here", "()I"⟩
abbrev cX10_skips : ByteArray := prog_12_method_73_code
def yX10_skips : MethodName := ⟨RX10, "skips", "(I)Z"⟩
abbrev cX10_digits : ByteArray := prog_12_method_74_code
def yX10_digits : MethodName := ⟨RX10, "digits", "(I)Z"⟩
abbrev cX10_words : ByteArray := prog_12_method_75_code
def yX10_words : MethodName := ⟨RX10, "words", "(I)Z"⟩
abbrev cX10_item : ByteArray := prog_12_method_76_code
def yX10_item : MethodName := ⟨RX10, "item", "()Z"⟩
abbrev cX10_isItems : ByteArray := prog_12_method_77_code
def yX10_isItems : MethodName := ⟨RX10, "isItems", "()Z"⟩
abbrev cX10_does : ByteArray := prog_12_method_78_code
def yX10_does : MethodName := ⟨RX10, "does", "(I)I"⟩
abbrev cX10_read : ByteArray := prog_12_method_79_code
def yX10_read : MethodName := ⟨RX10, "read", "()I"⟩
abbrev cX10_faultPosition : ByteArray := prog_12_method_80_code
def yX10_faultPosition : MethodName := ⟨RX10, "faultPosition", "()I"⟩
abbrev cX10_refusal : ByteArray := prog_12_method_81_code
def yX10_refusal : MethodName := ⟨RX10, "refusal", "(Z)I"⟩
def RJx145de : String := "java/io/Serializable"
def RJx00060 : String := "java/lang/ArrayIndexOutOfBoundsException"
def RJ9 : String := "java/lang/Math"
abbrev cJ9_floorDiv_7cf53 : ByteArray := prog_20_method_47_code
def yJ9_floorDiv_7cf53 : MethodName := ⟨RJ9, "floorDiv", "(II)I"⟩
abbrev cJ9_abs_0f7a4 : ByteArray := prog_20_method_59_code
def yJ9_abs_0f7a4 : MethodName := ⟨RJ9, "abs", "(I)I"⟩
abbrev cJ9_max_7cf53 : ByteArray := prog_20_method_65_code
def yJ9_max_7cf53 : MethodName := ⟨RJ9, "max", "(II)I"⟩
abbrev cJ9_min_7cf53 : ByteArray := prog_20_method_69_code
def yJ9_min_7cf53 : MethodName := ⟨RJ9, "min", "(II)I"⟩
def RJ0 : String := "java/lang/String"
def RJ10 : String := "java/lang/System"
def RL : String := "SubtitleDeskLaw"
abbrev cL_film : ByteArray := method_3_code
def yL_film : MethodName := ⟨RL, "film", "(LSubtitleDesk;I[J)I"⟩
abbrev cL_set : ByteArray := method_4_code
def yL_set : MethodName := ⟨RL, "set", "(LSubtitleDesk;II[J)I"⟩
abbrev cL_cut : ByteArray := method_5_code
def yL_cut : MethodName := ⟨RL, "cut", "(LSubtitleDesk;IZ[J)I"⟩
abbrev cL_number : ByteArray := method_6_code
def yL_number : MethodName := ⟨RL, "number", "(LSubtitleDesk;I[J)I"⟩
abbrev cL_shot : ByteArray := method_7_code
def yL_shot : MethodName := ⟨RL, "shot", "(LSubtitleDesk;I[J)I"⟩
abbrev cL_feed : ByteArray := method_8_code
def yL_feed : MethodName := ⟨RL, "feed", "(LSubtitleDesk;C[J)I"⟩
abbrev cL_add : ByteArray := method_9_code
def yL_add : MethodName := ⟨RL, "add", "(LSubtitleDesk;IIII[J)I"⟩
abbrev cL_remove : ByteArray := method_10_code
def yL_remove : MethodName := ⟨RL, "remove", "(LSubtitleDesk;II[J)I"⟩
abbrev cL_move : ByteArray := method_11_code
def yL_move : MethodName := ⟨RL, "move", "(LSubtitleDesk;IIII[J)I"⟩
abbrev cL_split : ByteArray := method_12_code
def yL_split : MethodName := ⟨RL, "split", "(LSubtitleDesk;III[J)I"⟩
abbrev cL_merge : ByteArray := method_13_code
def yL_merge : MethodName := ⟨RL, "merge", "(LSubtitleDesk;II[J)I"⟩
abbrev cL_snap : ByteArray := method_14_code
def yL_snap : MethodName := ⟨RL, "snap", "(LSubtitleDesk;II[J)I"⟩
abbrev cL_fit : ByteArray := method_15_code
def yL_fit : MethodName := ⟨RL, "fit", "(LSubtitleDesk;II[J)I"⟩
abbrev cL_retime : ByteArray := method_16_code
def yL_retime : MethodName := ⟨RL, "retime", "(LSubtitleDesk;IIIII[J)I"⟩
abbrev cL_caption : ByteArray := method_17_code
def yL_caption : MethodName := ⟨RL, "caption", "(LSubtitleDesk;III[J)I"⟩
abbrev cL_letter : ByteArray := method_18_code
def yL_letter : MethodName := ⟨RL, "letter", "(LSubtitleDesk;III[J)I"⟩
abbrev cL_shown : ByteArray := method_19_code
def yL_shown : MethodName := ⟨RL, "shown", "(LSubtitleDesk;II[J)I"⟩
abbrev cL_track : ByteArray := method_20_code
def yL_track : MethodName := ⟨RL, "track", "(LSubtitleDesk;II[J)I"⟩
abbrev cL_fastest : ByteArray := method_21_code
def yL_fastest : MethodName := ⟨RL, "fastest", "(LSubtitleDesk;I[J)I"⟩
abbrev cL_speed : ByteArray := method_22_code
def yL_speed : MethodName := ⟨RL, "speed", "(LSubtitleDesk;I[D)I"⟩
abbrev cL_read : ByteArray := method_23_code
def yL_read : MethodName := ⟨RL, "read", "(LSubtitleDesk;[J)I"⟩
abbrev cL_faultPosition : ByteArray := method_24_code
def yL_faultPosition : MethodName := ⟨RL, "faultPosition", "(LSubtitleDesk;[J)I"⟩
abbrev cL_refusal : ByteArray := method_25_code
def yL_refusal : MethodName := ⟨RL, "refusal", "(LSubtitleDesk;Z[J)I"⟩
abbrev cL_undo : ByteArray := method_26_code
def yL_undo : MethodName := ⟨RL, "undo", "(LSubtitleDesk;[J)I"⟩
abbrev cL_restoreSnapshot : ByteArray := method_27_code
def yL_restoreSnapshot : MethodName := ⟨RL, "restoreSnapshot", "(LSubtitleDesk;[J)I"⟩
abbrev cL_law : ByteArray := code
def yL_law : MethodName := ⟨RL, "law", "([I)Z"⟩
end
section
/-! ===== one list of words for every method ===== -/
def lwg : List Cond := lw_tbl.filter goodWord
theorem gq {w : Cond} (i : Nat) (h : lw_tbl[i]? = some w) (hg : goodWord w = true) : w ∈ lwg := List.mem_filter.mpr ⟨List.mem_of_getElem? h, hg⟩
theorem lwg_good : GoodIn lwg lwg := fun w h => ⟨h, good_of_word (List.mem_filter.mp h).2⟩
theorem lwg_of {args : Array Value} {s : State} (h : ∀ w ∈ lw_tbl, w.before args s = true) : ∀ w ∈ lwg, w.before args s = true := fun w hw => h w (List.mem_filter.mp hw).1
abbrev gwm (y : MethodName) (b : ByteArray) (n : Nat) (rt : Option FieldType) : List Cond := .code y b n rt :: lwg
theorem gwm_in {y : MethodName} {b : ByteArray} {n : Nat} {rt : Option FieldType} (h : Cond.code y b n rt ∈ lwg) : GoodIn lwg (gwm y b n rt) := fun w hw => (List.mem_cons.mp hw).elim (fun e => lwg_good w (e ▸ h)) (lwg_good w)
/-- the words that a warmer machine keeps by laws of their own -/
def gBadOk : Cond → Bool
  | .methodLinkNest .. => true
  | .fieldLinkNest .. => true
  | .castable .. => true
  | .declares .. => true
  | _ => false
def gBad : List Cond := tables_1.filter gBadOk
theorem gb {w : Cond} (i : Nat) (h : tables_1[i]? = some w) (hg : gBadOk w = true) : w ∈ gBad := List.mem_filter.mpr ⟨List.mem_of_getElem? h, hg⟩
theorem gNw_warm {s U : State} (hW : s.WarmedH U.vm) {w : Cond} (h : gBadOk w = true) (hw : va_Nw w s) : va_Nw w U := by
  cases w <;> first | exact va_Nw.warmM hW hw | exact va_Nw.warmF hW hw | exact va_Nw.warmC hW hw | exact va_Nw.warmD hW hw | (simp [gBadOk] at h; done)
/-! ===== worlds: cells by number, at addresses by number, each holding a row of numbers ===== -/
abbrev gSt : Type := Nat → Nat → Int32
abbrev gG : Type := va_G × ClassId × ClassId × ClassId
abbrev gCell : Type := gG → (Nat → Nat) → Nat → (Nat → Int32) → va_E
def gCl : List vw_C := [(RX0, TX0, 2), (RX1, TX1, 4), (RX2, TX2, 2), (RX3, TX3, 5), (RX4, TX4, 3), (RX5, TX5, 10), (RX6, TX6, 4), (RX7, TX7, 2), (RX8, TX8, 6), (RX9, TX9, 12), (RX10, TX10, 17)]
def gT (Γ : gG) : List (ClassId × FieldType) := [(Γ.2.1, .int), (Γ.2.2.1, .object RX3), (Γ.2.2.2, .long)]
def gws (cel : gCell) (Γ : gG) (ad : Nat → Nat) (N : Nat) (σ : gSt) : va_W := (List.range N).map (fun k => (ad k, cel Γ ad k (σ k)))
theorem gws_get {cel : gCell} {Γ : gG} {ad : Nat → Nat} {N : Nat} {σ : gSt} {k : Nat} (h : k < N) : (gws cel Γ ad N σ)[k]? = some (ad k, cel Γ ad k (σ k)) := by
  rw [gws, List.getElem?_map, List.getElem?_range h]; rfl
theorem gws_e {cel : gCell} {Γ : gG} {ad : Nat → Nat} {N : Nat} {σ : gSt} {k : Nat} {e : va_E} (h : k < N) (he : cel Γ ad k (σ k) = e) : (gws cel Γ ad N σ)[k]? = some (ad k, e) := by
  rw [gws_get h, he]
theorem gws_inv {cel : gCell} {Γ : gG} {ad : Nat → Nat} {N : Nat} {σ : gSt} {k : Nat} {q : Nat × va_E} (h : (gws cel Γ ad N σ)[k]? = some q) : k < N ∧ q = (ad k, cel Γ ad k (σ k)) := by
  by_cases hk : k < N
  · rw [gws_get hk] at h
    exact ⟨hk, (Option.some.inj h).symm⟩
  · have : (gws cel Γ ad N σ)[k]? = none := by
      rw [List.getElem?_eq_none_iff]; simp [gws]; omega
    rw [this] at h; cases h
theorem gws_set {cel : gCell} {Γ : gG} {ad : Nat → Nat} {N : Nat} {σ : gSt} {k : Nat} (h : k < N) (r : Nat → Int32) {e : va_E} (he : cel Γ ad k r = e) : (gws cel Γ ad N σ).set k (ad k, e) = gws cel Γ ad N (va_up σ k r) := by
  apply List.ext_getElem?
  intro i
  by_cases hi : i = k
  · subst hi
    rw [List.getElem?_set_self (by simp [gws]; exact h), gws_get h, ← he]
    simp [va_up]
  · rw [List.getElem?_set_ne (Ne.symm hi)]
    by_cases hN : i < N
    · rw [gws_get hN, gws_get hN]; simp [va_up, hi]
    · have h1 : ∀ τ : gSt, (gws cel Γ ad N τ)[i]? = none := fun τ => by
        rw [List.getElem?_eq_none_iff]; simp [gws]; omega
      rw [h1, h1]
def gInj (ad : Nat → Nat) (N : Nat) : Prop := ∀ i j, i < N → j < N → ad i = ad j → i = j
def gA (ad : Nat → Nat) (N sz : Nat) : Nat → Prop := fun q => (∃ k, k < N ∧ q = ad k) ∨ sz ≤ q
theorem gA_le {ad : Nat → Nat} {N a b : Nat} (h : a ≤ b) : ∀ q, gA ad N b q → gA ad N a q := fun _ hq => hq.elim Or.inl (fun h1 => Or.inr (Nat.le_trans h h1))
theorem gD_of {cel : gCell} {Γ : gG} {ad : Nat → Nat} {N sz : Nat} {σ : gSt} (h : gInj ad N) : va_D (gA ad N sz) (gws cel Γ ad N σ) := by
  refine ⟨fun i j p q hp hq e => ?_, fun k q hk => ?_⟩
  · obtain ⟨h1, rfl⟩ := gws_inv hp
    obtain ⟨h2, rfl⟩ := gws_inv hq
    exact h i j h1 h2 e
  · obtain ⟨h1, rfl⟩ := gws_inv hk
    exact Or.inl ⟨k, h1, rfl⟩
/-- what the run finds made: links of nest mates, Throwable's two statics, the texts of exceptions, the three tables of settings -/
def gStr : List (String × Nat × String) := (tables_1.filterMap fun w => match w with | .stringRef C k t => some (C, k, t) | _ => none)
def gFrom : Nat → Int32 := fun j => if j = 0 then 5 else if j = 5 then 5 else 0
def gTo : Nat → Int32 := fun j => if j = 0 then 30 else if j = 1 then 12 else if j = 2 then 9 else if j = 3 then 25 else if j = 4 then 25 else 24
def gFirst : Nat → Int32 := fun j => if j = 0 then 15 else if j = 1 then 3 else if j = 2 then 2 else if j = 3 then 5 else if j = 4 then 5 else 16
def gTab (n : String) (f : Nat → Int32) (A : Nat → Prop) (U : State) (H : Heap) : Prop := ∃ t, va_Z RX9 n "[I" (.ref t) A U H ∧ va_T .int t 6 (fun j => .int (f j)) A U H
def gF (A : Nat → Prop) (U : State) (H : Heap) : Prop :=
  (∀ w ∈ gBad, va_Nw w U) ∧ vx_Zq Bundle.tN "UNASSIGNED_STACK" Bundle.steD A U H ∧ vx_Zq Bundle.tN "SUPPRESSED_SENTINEL" Bundle.listD A U H ∧ (∀ q ∈ gStr, ∃ sa, vk_R q.1 q.2.1 q.2.2 sa U) ∧
  gTab "SETTING_AT_FIRST" gFirst A U H ∧ gTab "SETTING_FROM" gFrom A U H ∧ gTab "SETTING_TO" gTo A U H
theorem gTab.warm {n : String} {f : Nat → Int32} {A : Nat → Prop} {s U : State} {H : Heap} (hW : s.WarmedH U.vm) (h : gTab n f A s H) : gTab n f A U H := by
  obtain ⟨t, h1, h2⟩ := h
  exact ⟨t, h1.moved hW.alike, h2.moved hW.alike⟩
theorem gTab.kept {n : String} {f : Nat → Int32} {A : Nat → Prop} {s : State} {H H1 : Heap} (h : gTab n f A s H) (hq : ∀ a : Nat, a < H.size → ¬ A a → H1[a]? = H[a]?) : gTab n f A s H1 := by
  obtain ⟨t, h1, h2⟩ := h
  exact ⟨t, h1.kept hq, h2.kept hq⟩
theorem gTab.narrow {n : String} {f : Nat → Int32} {A B : Nat → Prop} {s : State} {H : Heap} (h : gTab n f A s H) (hAB : ∀ q, B q → A q) : gTab n f B s H := by
  obtain ⟨t, h1, h2⟩ := h
  exact ⟨t, h1.narrow hAB, h2.narrow hAB⟩
theorem gF.warm {A : Nat → Prop} {s U : State} {H : Heap} (hW : s.WarmedH U.vm) (h : gF A s H) : gF A U H := by
  obtain ⟨h1, h2, h3, h4, h5, h6, h7⟩ := h
  refine ⟨fun w hw => gNw_warm hW (List.mem_filter.mp hw).2 (h1 w hw), h2.moved hW.alike, h3.moved hW.alike, fun q hq => ?_, h5.warm hW, h6.warm hW, h7.warm hW⟩
  obtain ⟨sa, h⟩ := h4 q hq
  exact ⟨sa, h.warm hW⟩
theorem gF.kept {A : Nat → Prop} {s : State} {H H1 : Heap} (h : gF A s H) (hq : ∀ a : Nat, a < H.size → ¬ A a → H1[a]? = H[a]?) : gF A s H1 := by
  obtain ⟨h1, h2, h3, h4, h5, h6, h7⟩ := h
  exact ⟨h1, h2.kept hq, h3.kept hq, h4, h5.kept hq, h6.kept hq, h7.kept hq⟩
theorem gF.narrow {A B : Nat → Prop} {s : State} {H : Heap} (h : gF A s H) (hAB : ∀ q, B q → A q) : gF B s H := by
  obtain ⟨h1, h2, h3, h4, h5, h6, h7⟩ := h
  exact ⟨h1, h2.narrow hAB, h3.narrow hAB, h4, h5.narrow hAB, h6.narrow hAB, h7.narrow hAB⟩
/-! ===== a method's frame, its world as it walks, its contract ===== -/
def gX (cel : gCell) (Γ : gG) (ad : Nat → Nat) (N : Nat) (own : String) (cc : ByteArray) (nL : Nat) (rt : Option FieldType) (p : Program) (s : State) (m : MethodId) (args : Array Value) (meth : Method) (c : Code) : Prop :=
  p.tables.exec = Jvm.exec ∧ c.code = cc ∧ c.maxLocals = nL ∧ s.vm.findClass own = some m.cls ∧ (∀ w ∈ lwg, w.before args s = true) ∧ meth.sig.returnType = rt ∧ meth.locks = false ∧ va_K Γ.1 gCl (gT Γ) s ∧ gInj ad N ∧ gF (gA ad N s.heap.size) s s.heap
def gS (cel : gCell) (Γ : gG) (ad : Nat → Nat) (N : Nat) (σ : gSt) (s : State) (H : Heap) (locs : List Loc) : Prop :=
  va_P Γ.1 gCl (gws cel Γ ad N σ) H ∧ va_S (gA ad N s.heap.size) s.heap H locs
def gI (cel : gCell) (Γ : gG) (ad : Nat → Nat) (N sz : Nat) (σ : gSt) (U : State) : Prop :=
  U.heap.size = sz ∧ va_P Γ.1 gCl (gws cel Γ ad N σ) U.heap ∧ va_K Γ.1 gCl (gT Γ) U ∧ gInj ad N ∧ gF (gA ad N sz) U U.heap
def gO (cel : gCell) (Γ : gG) (ad : Nat → Nat) (N : Nat) (σ : gSt) (t : State) : Prop := va_P Γ.1 gCl (gws cel Γ ad N σ) t.heap
abbrev gPc (cel : gCell) (Γ : gG) (ad : Nat → Nat) (N : Nat) (σ : gSt) (as : List Value) (sz : Nat) : Array Value → State → Prop := va_Pc as (gI cel Γ ad N sz σ)
abbrev gQci (cel : gCell) (Γ : gG) (ad : Nat → Nat) (N : Nat) (r : Int32) (σ : gSt) (sz : Nat) : Array Value → State → Outcome → State → Prop := va_Qi (fun r' (_ : Unit) => r' = r) (fun _ t => gO cel Γ ad N σ t) (gA ad N sz)
abbrev gQcv (cel : gCell) (Γ : gG) (ad : Nat → Nat) (N : Nat) (σ : gSt) (sz : Nat) : Array Value → State → Outcome → State → Prop := va_Qv (fun (_ : Unit) => True) (fun _ t => gO cel Γ ad N σ t) (gA ad N sz)
abbrev gQcr (cel : gCell) (Γ : gG) (ad : Nat → Nat) (N : Nat) (r : Option Nat) (σ : gSt) (sz : Nat) : Array Value → State → Outcome → State → Prop := va_Qe ad (fun r' (_ : Unit) => r' = r) (fun _ t => gO cel Γ ad N σ t) (gA ad N sz)
def gMi (l : Launch) (cel : gCell) (Γ : gG) (ad : Nat → Nat) (N : Nat) (y : MethodName) (b : ByteArray) (n : Nat) (rt : Option FieldType) (rm : Room) (as : List Value) (σ : gSt) (r : Int32) (σ' : gSt) : Prop :=
  ∀ sz, Met l y (gwm y b n rt) rm (gPc cel Γ ad N σ as sz) (gQci cel Γ ad N r σ' sz) 0 0 (gA ad N sz)
def gMv (l : Launch) (cel : gCell) (Γ : gG) (ad : Nat → Nat) (N : Nat) (y : MethodName) (b : ByteArray) (n : Nat) (rt : Option FieldType) (rm : Room) (as : List Value) (σ σ' : gSt) : Prop :=
  ∀ sz, Met l y (gwm y b n rt) rm (gPc cel Γ ad N σ as sz) (gQcv cel Γ ad N σ' sz) 0 0 (gA ad N sz)
def gMr (l : Launch) (cel : gCell) (Γ : gG) (ad : Nat → Nat) (N : Nat) (y : MethodName) (b : ByteArray) (n : Nat) (rt : Option FieldType) (rm : Room) (as : List Value) (σ : gSt) (r : Option Nat) (σ' : gSt) : Prop :=
  ∀ sz, Met l y (gwm y b n rt) rm (gPc cel Γ ad N σ as sz) (gQcr cel Γ ad N r σ' sz) 0 0 (gA ad N sz)
abbrev gQi (cel : gCell) (Γ : gG) (ad : Nat → Nat) (N : Nat) (r : Int32) (σ : gSt) (below : List Frame) (args : Array Value) (s : State) : State → Prop := MQ below (gQci cel Γ ad N r σ s.heap.size) args s 0 0 (gA ad N s.heap.size)
abbrev gQv (cel : gCell) (Γ : gG) (ad : Nat → Nat) (N : Nat) (σ : gSt) (below : List Frame) (args : Array Value) (s : State) : State → Prop := MQ below (gQcv cel Γ ad N σ s.heap.size) args s 0 0 (gA ad N s.heap.size)
abbrev gQr (cel : gCell) (Γ : gG) (ad : Nat → Nat) (N : Nat) (r : Option Nat) (σ : gSt) (below : List Frame) (args : Array Value) (s : State) : State → Prop := MQ below (gQcr cel Γ ad N r σ s.heap.size) args s 0 0 (gA ad N s.heap.size)
abbrev gR (h mc ms : Nat) : Room := { frames := h, cells := mc, slots := ms, locals := 60 * h }
section GOF
variable {l : Launch} {cel : gCell} {Γ : gG} {ad : Nat → Nat} {N : Nat} {y : MethodName} {b : ByteArray} {n : Nat} {rt : Option FieldType} {rm : Room} {as : List Value} {σ σ' : gSt}
theorem gI_blind {sz : Nat} : FrameBlind (gPc cel Γ ad N σ as sz) := by
  intro a U g mk q
  obtain ⟨q0, q1, qP, qK, qI, qF⟩ := q
  exact ⟨q0, q1, qP, va_K.moved (u := U) (U := U.calling g mk a) (Vm.Alike.refl U.vm) qK, qI, gF.warm (s := U) (U := U.calling g mk a) (State.WarmedH.refl U) qF⟩
theorem gOf {Qc : Nat → Array Value → State → Outcome → State → Prop} {sz : Nat} (own : String) (hy : plainName y.cls = true) (hown : y.cls = own) (hlen : (lg_sl as).length ≤ n)
    (body : ∀ p e s m args below meth c H locs ls, gX cel Γ ad N own b n rt p s m args meth c → gS cel Γ ad N σ s H locs → lv_has ls n (lv_args 0 as) →
      W p l e rm s m args below meth c H locs 0 0 (MQ below (Qc s.heap.size) args s 0 0 (gA ad N s.heap.size)) (F0 m 0 ls [])) :
    Met l y (gwm y b n rt) rm (gPc cel Γ ad N σ as sz) (Qc sz) 0 0 (gA ad N sz) := by
  refine Met.ofW (cc := b) (maxL := n) (ret := rt) hy rfl ?_
  intro p e s m args below meth c s₁ B hml hv
  obtain ⟨rfl, rfl, hP, hK, hI, hF⟩ := hv
  rw [lg_entry_eq]
  have hts := atoms_spec (ws := gwm y b n rt) B.pre
  exact body p e s m _ below meth c s.heap [] _ ⟨B.exec, B.bytes, hml, hown ▸ findClass_of_methodNamed B.named, fun w hw => hts w (List.mem_cons_of_mem _ hw), B.returns, B.notSynchronized, hK, hI, hF⟩ ⟨hP, va_S.rf⟩ (lv_entry as hlen)
end GOF
end
section
/-! ===== partial operations over a world's numbers, and what they say ===== -/
def up2 (σ : gSt) (k j : Nat) (v : Int32) : gSt := va_up σ k (upd (σ k) j v)
def gald (σ : gSt) (k len : Nat) (i : Int32) : Option Int32 := if 0 ≤ i.toInt ∧ i.toInt < (len : Int) then some (σ k i.toNatClampNeg) else none
def gast (σ : gSt) (k len : Nat) (i x : Int32) : Option gSt := if 0 ≤ i.toInt ∧ i.toInt < (len : Int) then some (up2 σ k i.toNatClampNeg x) else none
def gset (σ : gSt) (k j : Nat) (x : Int32) : Option gSt := some (up2 σ k j x)
def gtl (f : Nat → Int32) (n : Nat) (i : Int32) : Option Int32 := if 0 ≤ i.toInt ∧ i.toInt < (n : Int) then some (f i.toNatClampNeg) else none
def gdiv (x y : Int32) : Option Int32 := if y = 0 then none else some (x / y)
def grem (x y : Int32) : Option Int32 := if y = 0 then none else some (x - x / y * y)
def gcpy (σ : gSt) (k0 l0 k1 l1 : Nat) (sp dp n : Int32) : Option gSt := if 0 ≤ sp.toInt ∧ 0 ≤ dp.toInt ∧ 0 ≤ n.toInt ∧ sp.toInt + n.toInt ≤ (l0 : Int) ∧ dp.toInt + n.toInt ≤ (l1 : Int) then some (va_up σ k1 (va_cpy (σ k0) (σ k1) sp.toNatClampNeg dp.toNatClampNeg n.toNatClampNeg)) else none
def gzb (x : Int32) : Option Int32 := if x = 0 ∨ x = 1 then some x else none
def g_k1 {α β : Type} (o : Option α) (k : α → Option β) : Option β := match o with
  | none => none
  | some a => k a
def g_k2 {α1 α2 β : Type} (o : Option (α1 × α2)) (k : α1 → α2 → Option β) : Option β := match o with
  | none => none
  | some (a, b) => k a b
def g_k3 {α1 α2 α3 β : Type} (o : Option (α1 × α2 × α3)) (k : α1 → α2 → α3 → Option β) : Option β := match o with
  | none => none
  | some (a, b, c) => k a b c
def g_k4 {α1 α2 α3 α4 β : Type} (o : Option (α1 × α2 × α3 × α4)) (k : α1 → α2 → α3 → α4 → Option β) : Option β := match o with
  | none => none
  | some (a, b, c, d) => k a b c d
theorem g_s1 {α β : Type} {o : Option α} {k : α → Option β} {r : β} (h : g_k1 o k = some r) : ∃ a, o = some a ∧ k a = some r := by
  cases o with
  | none => cases h
  | some a => exact ⟨a, rfl, h⟩
theorem g_s2 {α1 α2 β : Type} {o : Option (α1 × α2)} {k : α1 → α2 → Option β} {r : β} (h : g_k2 o k = some r) : ∃ a b, o = some (a, b) ∧ k a b = some r := by
  cases o with
  | none => cases h
  | some a => exact ⟨a.1, a.2, rfl, h⟩
theorem g_s3 {α1 α2 α3 β : Type} {o : Option (α1 × α2 × α3)} {k : α1 → α2 → α3 → Option β} {r : β} (h : g_k3 o k = some r) : ∃ a b c, o = some (a, b, c) ∧ k a b c = some r := by
  cases o with
  | none => cases h
  | some a => exact ⟨a.1, a.2.1, a.2.2, rfl, h⟩
theorem g_s4 {α1 α2 α3 α4 β : Type} {o : Option (α1 × α2 × α3 × α4)} {k : α1 → α2 → α3 → α4 → Option β} {r : β} (h : g_k4 o k = some r) : ∃ a b c d, o = some (a, b, c, d) ∧ k a b c d = some r := by
  cases o with
  | none => cases h
  | some a => exact ⟨a.1, a.2.1, a.2.2.1, a.2.2.2, rfl, h⟩
/-- a call that may throw: its code (0: none), its answer, the state; behind a throw nothing more is done -/
def g_x2 {β : Type} (o : Option (Nat × gSt)) (th : Nat → gSt → β) (k : gSt → Option β) : Option β := match o with
  | none => none
  | some (x, s) => if x = 0 then k s else some (th x s)
theorem g_sx2 {β : Type} {o : Option (Nat × gSt)} {th : Nat → gSt → β} {k : gSt → Option β} {r : β} (h : g_x2 o th k = some r) : ∃ x s, o = some (x, s) ∧ (x = 0 → k s = some r) ∧ (¬ x = 0 → th x s = r) := by
  cases o with
  | none => cases h
  | some a =>
    obtain ⟨x, s⟩ := a
    refine ⟨x, s, rfl, fun h0 => ?_, fun h0 => ?_⟩
    · simpa [g_x2, h0] using h
    · simpa [g_x2, h0] using h
noncomputable def FU : Nat := Classical.choose (⟨100000, Nat.le_refl _⟩ : ∃ n : Nat, 100000 ≤ n)
theorem FU_ge : 100000 ≤ FU := Classical.choose_spec (⟨100000, Nat.le_refl _⟩ : ∃ n : Nat, 100000 ≤ n)
theorem gald_some {σ : gSt} {k len : Nat} {i v : Int32} (h : gald σ k len i = some v) : vp_in i len ∧ σ k i.toNatClampNeg = v := by
  unfold gald at h
  split at h
  · rename_i h1
    exact ⟨vp_in_iff.mpr h1, Option.some.inj h⟩
  · cases h
theorem gast_some {σ σ' : gSt} {k len : Nat} {i x : Int32} (h : gast σ k len i x = some σ') : vp_in i len ∧ up2 σ k i.toNatClampNeg x = σ' := by
  unfold gast at h
  split at h
  · rename_i h1
    exact ⟨vp_in_iff.mpr h1, Option.some.inj h⟩
  · cases h
theorem gtl_some {f : Nat → Int32} {n : Nat} {i v : Int32} (h : gtl f n i = some v) : vp_in i n ∧ f i.toNatClampNeg = v := by
  unfold gtl at h
  split at h
  · rename_i h1
    exact ⟨vp_in_iff.mpr h1, Option.some.inj h⟩
  · cases h
theorem gdiv_some {x y v : Int32} (h : gdiv x y = some v) : ¬ y = 0 ∧ x / y = v := by
  unfold gdiv at h
  split at h
  · cases h
  · rename_i h1
    exact ⟨h1, Option.some.inj h⟩
theorem grem_some {x y v : Int32} (h : grem x y = some v) : ¬ y = 0 ∧ x - x / y * y = v := by
  unfold grem at h
  split at h
  · cases h
  · rename_i h1
    exact ⟨h1, Option.some.inj h⟩
theorem gzb_some {x v : Int32} (h : gzb x = some v) : narrow .boolean (.int v) = .int v ∧ x = v := by
  unfold gzb at h
  split at h
  · rename_i h1
    cases h
    rcases h1 with rfl | rfl
    · exact ⟨by decide +kernel, rfl⟩
    · exact ⟨by decide +kernel, rfl⟩
  · cases h
theorem g_toInt0 {x : Int32} : ¬ x < 0 ↔ 0 ≤ x.toInt := by rw [Int32.not_lt]; exact Int32.le_iff_toInt_le
theorem g_clamp {x : Int32} (h : 0 ≤ x.toInt) : (x.toNatClampNeg : Int) = x.toInt := by
  show ((x.toInt.toNat : Nat) : Int) = x.toInt
  omega
theorem gcpy_some {σ σ' : gSt} {k0 l0 k1 l1 : Nat} {sp dp n : Int32} (h : gcpy σ k0 l0 k1 l1 sp dp n = some σ') : (¬ sp < 0 ∧ ¬ dp < 0 ∧ ¬ n < 0 ∧ sp.toNatClampNeg + n.toNatClampNeg ≤ l0 ∧ dp.toNatClampNeg + n.toNatClampNeg ≤ l1) ∧ va_up σ k1 (va_cpy (σ k0) (σ k1) sp.toNatClampNeg dp.toNatClampNeg n.toNatClampNeg) = σ' := by
  unfold gcpy at h
  split at h
  · rename_i h1
    obtain ⟨a, b, c, d, e⟩ := h1
    have a' := g_clamp a
    have b' := g_clamp b
    have c' := g_clamp c
    exact ⟨⟨g_toInt0.mpr a, g_toInt0.mpr b, g_toInt0.mpr c, by omega, by omega⟩, Option.some.inj h⟩
  · cases h
/-! ===== rows over a world ===== -/
section GROWS
variable {l : Launch} {cel : gCell} {Γ : gG} {ad : Nat → Nat} {N : Nat} {own : String} {cc : ByteArray} {nL : Nat} {rt : Option FieldType} {p : Program} {e : Env} {R : Room} {s : State} {m : MethodId} {args : Array Value} {below : List Frame} {meth : Method} {c : Code} {H : Heap} {locs : List Loc} {cells slots : Nat} {Q : State → Prop} {pc : Nat} {ls : Array Slot} {rest st0 : List Value} {σ σ' σ1 : gSt}
theorem gX.w (X : gX cel Γ ad N own cc nL rt p s m args meth c) : ∀ w ∈ lwg, w.before args s = true := X.2.2.2.2.1
theorem gX.ow (X : gX cel Γ ad N own cc nL rt p s m args meth c) : s.vm.findClass own = some m.cls := X.2.2.2.1
theorem gX.ml (X : gX cel Γ ad N own cc nL rt p s m args meth c) : c.maxLocals = nL := X.2.2.1
theorem gX.r (X : gX cel Γ ad N own cc nL rt p s m args meth c) : meth.sig.returnType = rt := X.2.2.2.2.2.1
theorem gX.lk (X : gX cel Γ ad N own cc nL rt p s m args meth c) : meth.locks = false := X.2.2.2.2.2.2.1
theorem gX.K (X : gX cel Γ ad N own cc nL rt p s m args meth c) : va_K Γ.1 gCl (gT Γ) s := X.2.2.2.2.2.2.2.1
theorem gX.I (X : gX cel Γ ad N own cc nL rt p s m args meth c) : gInj ad N := X.2.2.2.2.2.2.2.2.1
theorem gX.F (X : gX cel Γ ad N own cc nL rt p s m args meth c) : gF (gA ad N s.heap.size) s s.heap := X.2.2.2.2.2.2.2.2.2
theorem gX.fix (X : gX cel Γ ad N own cc nL rt p s m args meth c) : CallFix p m c cc nL s args lwg own := ⟨X.1, X.2.1, X.ml, X.ow, X.w⟩
theorem g_get (X : gX cel Γ ad N own cc nL rt p s m args meth c) (S : gS cel Γ ad N σ s H locs) {C : String} {T : u_T} {n ci index k : Nat} {fs : List Value} (hk : k < N) (he : cel Γ ad k (σ k) = .inr (ci, fs)) (hc : gCl[ci]? = some (C, T, n)) (hin : ∀ w ∈ u_ws C T n, w ∈ lwg) (j : Nat) (hj : j < n) (hlink : Cond.fieldLink own index (T j).1 (T j).2.1 (T j).2.2.1 ∈ lwg) {v : Value} (hv : fs[j]? = some v) (hdg : decode cc pc = .ok (.getfield index, 3))
    (kk : W p l e R s m args below meth c H locs cells slots Q (F0 m (pc + 3) ls (v :: rest))) : W p l e R s m args below meth c H locs cells slots Q (F0 m pc ls (.ref (ad k) :: rest)) :=
  va_get (D := Γ.1) (tys := gT Γ) X.1 X.2.1 X.w hin X.ow X.K S.1 k (gws_e hk he) hc j hj (X.w _ hlink) (fun _ h => h) hv hdg kk
theorem g_put (X : gX cel Γ ad N own cc nL rt p s m args meth c) (S : gS cel Γ ad N σ s H locs) {C : String} {T : u_T} {n ci index k : Nat} {fs : List Value} (hk : k < N) (he : cel Γ ad k (σ k) = .inr (ci, fs)) (hc : gCl[ci]? = some (C, T, n)) (hin : ∀ w ∈ u_ws C T n, w ∈ lwg) (ty0 : Nat → FieldType) (hty : ∀ k, k < n → parseFieldDescriptor (T k).2.2.1 = some (ty0 k)) (hnm : ∀ a, a < n → ∀ b, b < n → a ≠ b → (T a).2.1 ≠ (T b).2.1)
    (j : Nat) (hj : j < n) (hlink : Cond.fieldLink own index (T j).1 (T j).2.1 (T j).2.2.1 ∈ lwg) (hfin : (T j).2.2.2 = false) {v : Value} {row : Nat → Int32} (hn : narrow (ty0 j) v = v) (hfit : fits (ty0 j) v = true) (hl : j < fs.length) (he2 : cel Γ ad k row = .inr (ci, fs.set j v)) (hσ : va_up σ k row = σ1) (hdg : decode cc pc = .ok (.putfield index, 3))
    (kk : ∀ (H : Heap) (locs : List Loc), gS cel Γ ad N σ1 s H locs → W p l e R s m args below meth c H locs cells slots Q (F0 m (pc + 3) ls rest)) : W p l e R s m args below meth c H locs cells slots Q (F0 m pc ls (v :: .ref (ad k) :: rest)) := by
  refine va_put (D := Γ.1) (tys := gT Γ) X.1 X.2.1 X.w hin ty0 hty hnm X.ow X.K S.1 (gD_of X.I) S.2 k (gws_e hk he) hc j hj (X.w _ hlink) (fun _ h => h) hfin (hty j hj) hn hfit hl hdg (fun H1 locs1 hP _ hS => kk H1 locs1 ⟨?_, hS⟩)
  rw [gws_set hk row he2, hσ] at hP
  exact hP
theorem g_iald (X : gX cel Γ ad N own cc nL rt p s m args meth c) (S : gS cel Γ ad N σ s H locs) {k len : Nat} {i v : Int32} (hk : k < N) (he : ∀ r : Nat → Int32, cel Γ ad k r = .inl (Γ.2.1, len, .inl r)) (h : gald σ k len i = some v) (hdg : decode cc pc = .ok (.iaload, 1))
    (kk : W p l e R s m args below meth c H locs cells slots Q (F0 m (pc + 1) ls (.int v :: rest))) : W p l e R s m args below meth c H locs cells slots Q (F0 m pc ls (.int i :: .ref (ad k) :: rest)) := by
  obtain ⟨hin, rfl⟩ := gald_some h
  exact va_iald (D := Γ.1) (tys := gT Γ) X.1 X.2.1 X.K S.1 k 0 (gws_e hk (he _)) rfl hin hdg kk
theorem g_ialdC (X : gX cel Γ ad N own cc nL rt p s m args meth c) (S : gS cel Γ ad N σ s H locs) {k len : Nat} {i : Int32} (hk : k < N) (he : ∀ r : Nat → Int32, cel Γ ad k r = .inl (Γ.2.1, len, .inl r)) (j : Nat) (hi : i.toInt = (j : Int)) (hj : j < len) (hdg : decode cc pc = .ok (.iaload, 1))
    (kk : W p l e R s m args below meth c H locs cells slots Q (F0 m (pc + 1) ls (.int (σ k j) :: rest))) : W p l e R s m args below meth c H locs cells slots Q (F0 m pc ls (.int i :: .ref (ad k) :: rest)) := by
  have h1 : i.toNatClampNeg = j := by show i.toInt.toNat = j; omega
  refine g_iald X S hk he (v := σ k j) ?_ hdg kk
  unfold gald
  rw [if_pos (by omega), h1]
theorem g_iast (X : gX cel Γ ad N own cc nL rt p s m args meth c) (S : gS cel Γ ad N σ s H locs) {k len : Nat} {i x : Int32} (hk : k < N) (he : ∀ r : Nat → Int32, cel Γ ad k r = .inl (Γ.2.1, len, .inl r)) (h : gast σ k len i x = some σ1) (hdg : decode cc pc = .ok (.iastore, 1))
    (kk : ∀ (H : Heap) (locs : List Loc), gS cel Γ ad N σ1 s H locs → W p l e R s m args below meth c H locs cells slots Q (F0 m (pc + 1) ls rest)) : W p l e R s m args below meth c H locs cells slots Q (F0 m pc ls (.int x :: .int i :: .ref (ad k) :: rest)) := by
  obtain ⟨hin, h1⟩ := gast_some h
  refine va_iast (D := Γ.1) (tys := gT Γ) X.1 X.2.1 X.K S.1 (gD_of X.I) S.2 k 0 (gws_e hk (he _)) rfl hin hdg (fun H1 locs1 hP _ hS => kk H1 locs1 ⟨?_, hS⟩)
  rw [gws_set hk _ (he _)] at hP
  rw [← h1]
  exact hP
theorem g_iastC (X : gX cel Γ ad N own cc nL rt p s m args meth c) (S : gS cel Γ ad N σ s H locs) {k len : Nat} {i x : Int32} (hk : k < N) (he : ∀ r : Nat → Int32, cel Γ ad k r = .inl (Γ.2.1, len, .inl r)) (j : Nat) (hi : i.toInt = (j : Int)) (hj : j < len) (h : gset σ k j x = some σ1) (hdg : decode cc pc = .ok (.iastore, 1))
    (kk : ∀ (H : Heap) (locs : List Loc), gS cel Γ ad N σ1 s H locs → W p l e R s m args below meth c H locs cells slots Q (F0 m (pc + 1) ls rest)) : W p l e R s m args below meth c H locs cells slots Q (F0 m pc ls (.int x :: .int i :: .ref (ad k) :: rest)) := by
  have h1 : i.toNatClampNeg = j := by show i.toInt.toNat = j; omega
  refine g_iast X S hk he (σ1 := σ1) ?_ hdg kk
  unfold gast
  rw [if_pos (by omega), h1]
  exact h
theorem g_alen (X : gX cel Γ ad N own cc nL rt p s m args meth c) (S : gS cel Γ ad N σ s H locs) {k len : Nat} {v : Int32} (hk : k < N) (he : ∀ r : Nat → Int32, cel Γ ad k r = .inl (Γ.2.1, len, .inl r)) (hv : Int32.ofNat len = v) (hdg : decode cc pc = .ok (.arraylength, 1))
    (kk : W p l e R s m args below meth c H locs cells slots Q (F0 m (pc + 1) ls (.int v :: rest))) : W p l e R s m args below meth c H locs cells slots Q (F0 m pc ls (.ref (ad k) :: rest)) :=
  va_alen (D := Γ.1) (tys := gT Γ) (ty := .int) X.1 X.2.1 X.K S.1 k 0 (gws_e hk (he _)) rfl hv hdg kk
theorem g_copy (X : gX cel Γ ad N own cc nL rt p s m args meth c) (S : gS cel Γ ad N σ s H locs) {idx k0 k1 l0 l1 : Nat} {sp dp n : Int32} (hls : ls.size = nL) (hlink : Cond.methodLink own idx arraycopyName ∈ lwg) (hnat : Cond.native arraycopyName ∈ lwg) (hstat : Cond.static arraycopyName ∈ lwg) (hini : Cond.initialized "java/lang/System" ∈ lwg) (hk0 : k0 < N) (hk1 : k1 < N)
    (he0 : ∀ r : Nat → Int32, cel Γ ad k0 r = .inl (Γ.2.1, l0, .inl r)) (he1 : ∀ r : Nat → Int32, cel Γ ad k1 r = .inl (Γ.2.1, l1, .inl r)) (h : gcpy σ k0 l0 k1 l1 sp dp n = some σ1) (hframes : 1 ≤ R.frames) (hlocals : (rest.map fun v => v.category).sum + (nativeFrameWords "java/lang/System" "arraycopy" 5 + 11) ≤ R.locals) (hdg : decode cc pc = .ok (.invokestatic idx, 3))
    (kk : ∀ (H : Heap) (locs : List Loc), gS cel Γ ad N σ1 s H locs → W p l e R s m args below meth c H locs cells slots Q (F0 m (pc + 3) ls rest)) : W p l e R s m args below meth c H locs cells slots Q (F0 m pc ls (.int n :: .int dp :: .ref (ad k1) :: .int sp :: .ref (ad k0) :: rest)) := by
  obtain ⟨⟨h1, h2, h3, h4, h5⟩, h6⟩ := gcpy_some h
  refine va_copyi (D := Γ.1) (tys := gT Γ) (ty := .int) X.1 X.2.1 (X.ml.trans hls.symm) X.ow (X.w _ hlink) (X.w _ hnat) (X.w _ hstat) (X.w _ hini) X.K S.1 (gD_of X.I) S.2 k0 k1 0 0 (gws_e hk0 (he0 _)) (gws_e hk1 (he1 _)) rfl rfl rfl h1 h2 h3 h4 h5 (fun i _ => rfl) hframes hlocals hdg (fun H1 locs1 hP _ hS => kk H1 locs1 ⟨?_, hS⟩)
  rw [gws_set hk1 _ (he1 _), h6] at hP
  exact hP
theorem g_max (X : gX cel Γ ad N own cc nL rt p s m args meth c) {idx : Nat} (hls : ls.size = nL) (hw : Cond.methodLink own idx Lib.Math.max.name ∈ lwg ∧ Cond.static Lib.Math.max.name ∈ lwg ∧ Cond.initialized "java/lang/Math" ∈ lwg ∧ Cond.code Lib.Math.max.name Lib.Math.max.code 2 (some .int) ∈ lwg) (hR : (1 ≤ R.frames ∧ (rest.map fun v => v.category).sum + 13 ≤ R.locals) ∧ cells ≤ R.cells ∧ slots ≤ R.slots) {x y : Int32} (hdg : decode cc pc = .ok (.invokestatic idx, 3))
    (kk : W p l e R s m args below meth c H locs cells slots Q (F0 m (pc + 3) ls (.int (if x < y then y else x) :: rest))) : W p l e R s m args below meth c H locs cells slots Q (F0 m pc ls (.int y :: .int x :: rest)) :=
  va_mmax X.1 X.2.1 (X.ml.trans hls.symm) X.ow (X.w _ hw.1) (X.w _ hw.2.1) (X.w _ hw.2.2.1) (X.w _ hw.2.2.2) hR.1.1 hR.1.2 hR.2.1 hR.2.2 hdg kk
theorem g_min (X : gX cel Γ ad N own cc nL rt p s m args meth c) {idx : Nat} (hls : ls.size = nL) (hw : Cond.methodLink own idx Lib.Math.min.name ∈ lwg ∧ Cond.static Lib.Math.min.name ∈ lwg ∧ Cond.initialized "java/lang/Math" ∈ lwg ∧ Cond.code Lib.Math.min.name Lib.Math.min.code 2 (some .int) ∈ lwg) (hR : (1 ≤ R.frames ∧ (rest.map fun v => v.category).sum + 13 ≤ R.locals) ∧ cells ≤ R.cells ∧ slots ≤ R.slots) {x y : Int32} (hdg : decode cc pc = .ok (.invokestatic idx, 3))
    (kk : W p l e R s m args below meth c H locs cells slots Q (F0 m (pc + 3) ls (.int (if y < x then y else x) :: rest))) : W p l e R s m args below meth c H locs cells slots Q (F0 m pc ls (.int y :: .int x :: rest)) :=
  va_mmin X.1 X.2.1 (X.ml.trans hls.symm) X.ow (X.w _ hw.1) (X.w _ hw.2.1) (X.w _ hw.2.2.1) (X.w _ hw.2.2.2) hR.1.1 hR.1.2 hR.2.1 hR.2.2 hdg kk
theorem g_abs (X : gX cel Γ ad N own cc nL rt p s m args meth c) {idx : Nat} (hls : ls.size = nL) (hw : Cond.methodLink own idx Lib.Math.abs.name ∈ lwg ∧ Cond.static Lib.Math.abs.name ∈ lwg ∧ Cond.initialized "java/lang/Math" ∈ lwg ∧ Cond.code Lib.Math.abs.name Lib.Math.abs.code 1 (some .int) ∈ lwg) (hR : (1 ≤ R.frames ∧ (rest.map fun v => v.category).sum + 13 ≤ R.locals) ∧ cells ≤ R.cells ∧ slots ≤ R.slots) {x : Int32} (hdg : decode cc pc = .ok (.invokestatic idx, 3))
    (kk : W p l e R s m args below meth c H locs cells slots Q (F0 m (pc + 3) ls (.int (if 0 ≤ x then x else 0 - x) :: rest))) : W p l e R s m args below meth c H locs cells slots Q (F0 m pc ls (.int x :: rest)) :=
  va_mabs X.1 X.2.1 (X.ml.trans hls.symm) X.ow (X.w _ hw.1) (X.w _ hw.2.1) (X.w _ hw.2.2.1) (X.w _ hw.2.2.2) hR.1.1 hR.1.2 hR.2.1 hR.2.2 hdg kk
/-- a static table of numbers that nobody writes -/
theorem g_tab (X : gX cel Γ ad N own cc nL rt p s m args meth c) (S : gS cel Γ ad N σ s H locs) {n : String} {f : Nat → Int32} {idx : Nat} (hT : gTab n f (gA ad N s.heap.size) s s.heap) (hlink : Cond.fieldLink own idx RX9 n "[I" ∈ lwg) (hdg : decode cc pc = .ok (.getstatic idx, 3))
    (kk : ∀ t : Nat, va_T .int t 6 (fun j => .int (f j)) (gA ad N s.heap.size) s s.heap → W p l e R s m args below meth c H locs cells slots Q (F0 m (pc + 3) ls (.ref t :: rest))) : W p l e R s m args below meth c H locs cells slots Q (F0 m pc ls rest) := by
  obtain ⟨t, h1, h2⟩ := hT
  exact va_gets X.1 X.2.1 h1 S.2 X.ow (X.w _ hlink) (fun _ h => h) hdg (kk t h2)
theorem g_tald (X : gX cel Γ ad N own cc nL rt p s m args meth c) (S : gS cel Γ ad N σ s H locs) {t : Nat} {f : Nat → Int32} (hT : va_T .int t 6 (fun j => .int (f j)) (gA ad N s.heap.size) s s.heap) {i v : Int32} (h : gtl f 6 i = some v) (hdg : decode cc pc = .ok (.iaload, 1))
    (kk : W p l e R s m args below meth c H locs cells slots Q (F0 m (pc + 1) ls (.int v :: rest))) : W p l e R s m args below meth c H locs cells slots Q (F0 m pc ls (.int i :: .ref t :: rest)) := by
  obtain ⟨h1, rfl⟩ := gtl_some h
  exact va_ti X.1 X.2.1 hT S.2 h1 rfl hdg kk
/-! ===== ends ===== -/
theorem g_reti {ty : FieldType} {r : Int32} (X : gX cel Γ ad N own cc nL (some ty) p s m args meth c) (S : gS cel Γ ad N σ s H locs) (hn : narrow ty (.int r) = .int r) (hdg : decode cc pc = .ok (.ireturn, 1)) : W p l e R s m args below meth c H locs 0 0 (gQi cel Γ ad N r σ below args s) (F0 m pc ls [.int r]) :=
  W.zret (v := r) X.1 X.2.1 X.r hn (fun t ht _ => ⟨⟨r, (), rfl, rfl, by subst ht; exact S.1⟩, S.2.F ht⟩) S.2.2.2 hdg X.lk
theorem g_retv (X : gX cel Γ ad N own cc nL none p s m args meth c) (S : gS cel Γ ad N σ s H locs) (hdg : decode cc pc = .ok (.return_, 1)) : W p l e R s m args below meth c H locs 0 0 (gQv cel Γ ad N σ below args s) (F0 m pc ls []) :=
  W.vret X.1 X.2.1 X.r (fun t ht _ => ⟨⟨(), rfl, trivial, by subst ht; exact S.1⟩, S.2.F ht⟩) S.2.2.2 hdg X.lk
theorem g_retr {C : String} {r : Nat} (X : gX cel Γ ad N own cc nL (some (.object C)) p s m args meth c) (S : gS cel Γ ad N σ s H locs) (hdg : decode cc pc = .ok (.areturn, 1)) : W p l e R s m args below meth c H locs 0 0 (gQr cel Γ ad N (some r) σ below args s) (F0 m pc ls [.ref (ad r)]) :=
  W.aret (v := .ref (ad r)) X.1 X.2.1 X.r (Or.inl ⟨_, rfl⟩) (Or.inr ⟨_, rfl⟩) (fun t ht _ => ⟨⟨some r, (), rfl, rfl, by subst ht; exact S.1⟩, S.2.F ht⟩) S.2.2.2 hdg X.lk
theorem g_retn {C : String} (X : gX cel Γ ad N own cc nL (some (.object C)) p s m args meth c) (S : gS cel Γ ad N σ s H locs) (hdg : decode cc pc = .ok (.areturn, 1)) : W p l e R s m args below meth c H locs 0 0 (gQr cel Γ ad N none σ below args s) (F0 m pc ls [.null]) :=
  W.aret (v := .null) X.1 X.2.1 X.r (Or.inl ⟨_, rfl⟩) (Or.inl rfl) (fun t ht _ => ⟨⟨none, (), rfl, rfl, by subst ht; exact S.1⟩, S.2.F ht⟩) S.2.2.2 hdg X.lk
/-! ===== calls ===== -/
def gCV (y : MethodName) (b : ByteArray) (n : Nat) (rt : Option FieldType) (na : Nat) : Prop :=
  (y.cls ≠ "java/lang/invoke/MethodHandle" ∧ y.cls ≠ "java/lang/invoke/VarHandle" ∧ (parseMethodDescriptor y.desc).map (fun d => d.parameters.length) = some na) ∧ Cond.code y b n rt ∈ lwg ∧ Cond.initialized y.cls ∈ lwg ∧ Cond.instanceMethod y ∈ lwg ∧ Cond.selects y.cls y y ∈ lwg
def gCS (y : MethodName) (b : ByteArray) (n : Nat) (rt : Option FieldType) (na : Nat) : Prop :=
  (y.cls ≠ "java/lang/invoke/MethodHandle" ∧ y.cls ≠ "java/lang/invoke/VarHandle" ∧ (parseMethodDescriptor y.desc).map (fun d => d.parameters.length) = some na) ∧ Cond.code y b n rt ∈ lwg ∧ Cond.initialized y.cls ∈ lwg ∧ Cond.static y ∈ lwg
theorem gPre (X : gX cel Γ ad N own cc nL rt p s m args meth c) (S : gS cel Γ ad N σ s H locs) (As : List Value) : PreS s H (gPc cel Γ ad N σ As H.size) As :=
  ⟨gI_blind, fun U hU hW => ⟨rfl, by rw [hU], by rw [hU]; exact S.1, va_K.moved hW.alike X.K, X.I, by rw [hU]; exact ((X.F.kept S.2.2.1).narrow (gA_le S.2.1)).warm hW⟩⟩
variable {y : MethodName} {b' : ByteArray} {n' na idx mc ms : Nat} {rt' : Option FieldType} {rm : Room} {As : List Value} {Qc : Array Value → State → Outcome → State → Prop}
abbrev gRoom (rm R : Room) (n' cells slots mc ms : Nat) : Prop := (rm.cells = mc ∧ rm.slots = ms) ∧ (rm.frames + 1 ≤ R.frames ∧ 8 + (n' + 11) + rm.locals ≤ R.locals) ∧ (cells + mc ≤ R.cells ∧ slots + ms ≤ R.slots)
theorem g_runV (X : gX cel Γ ad N own cc nL rt p s m args meth c) (S : gS cel Γ ad N σ s H locs) {k : Nat} (hM : Met l y (gwm y b' n' rt') rm (gPc cel Γ ad N σ (.ref (ad k) :: As) H.size) Qc mc ms (gA ad N H.size)) (hc : gCV y b' n' rt' na) (hw : Cond.methodLink own idx y ∈ lwg)
    (hk : k < N) {ci nn : Nat} {T : u_T} {fs : List Value} (he : cel Γ ad k (σ k) = .inr (ci, fs)) (hcl : gCl[ci]? = some (y.cls, T, nn)) (hn : As.length = na) (hst : st0 = As.reverse ++ .ref (ad k) :: rest) (hls : ls.size = nL) (hcat : (rest.map fun v => v.category).sum ≤ 8) (hR : gRoom rm R n' cells slots mc ms) (hdg : decode cc pc = .ok (.invokevirtual idx, 3)) :
    va_Run p l e R s m args below meth c H locs cells slots mc ms (F0 m pc ls st0) rest (Qc (Value.ref (ad k) :: As).toArray) (gA ad N H.size) :=
  va_runV (As := As) (rest := rest) X.fix hM ⟨callB_of na X.w (gwm_in hc.2.1) rfl hR.1.1 hR.1.2 (X.w _ hc.2.2.1) (X.w _ hw) hc.1 hR.2.1, X.w _ hc.2.2.2.1, X.w _ hc.2.2.2.2⟩
    ⟨(gPre X S _).1, va_recv X.K S.1 hcl (gws_e hk he), (gPre X S _).2⟩ rfl hn hls hst (lv_room (pc := pc) (ls := ls) (rest := st0) (m := m) hcat) hdg hR.2.2
theorem g_runS (X : gX cel Γ ad N own cc nL rt p s m args meth c) (S : gS cel Γ ad N σ s H locs) (hM : Met l y (gwm y b' n' rt') rm (gPc cel Γ ad N σ As H.size) Qc mc ms (gA ad N H.size)) (hc : gCS y b' n' rt' na) (hw : Cond.methodLink own idx y ∈ lwg)
    (hn : As.length = na) (hst : st0 = As.reverse ++ rest) (hls : ls.size = nL) (hcat : (rest.map fun v => v.category).sum ≤ 8) (hR : gRoom rm R n' cells slots mc ms) (hdg : decode cc pc = .ok (.invokestatic idx, 3)) :
    va_Run p l e R s m args below meth c H locs cells slots mc ms (F0 m pc ls st0) rest (Qc As.toArray) (gA ad N H.size) :=
  va_runS (As := As) (rest := rest) X.fix hM ⟨callB_of na X.w (gwm_in hc.2.1) rfl hR.1.1 hR.1.2 (X.w _ hc.2.2.1) (X.w _ hw) hc.1 hR.2.1, X.w _ hc.2.2.2⟩
    (gPre X S _) rfl hn hls hst (lv_room (pc := pc) (ls := ls) (rest := st0) (m := m) hcat) hdg hR.2.2
theorem g_runN (X : gX cel Γ ad N own cc nL rt p s m args meth c) (S : gS cel Γ ad N σ s H locs) {host : String} (hM : Met l y (gwm y b' n' rt') rm (gPc cel Γ ad N σ As H.size) Qc mc ms (gA ad N H.size)) (hc : gCS y b' n' rt' na) (hw : Cond.methodLinkNest own idx y host ∈ gBad)
    (hn : As.length = na) (hst : st0 = As.reverse ++ rest) (hls : ls.size = nL) (hcat : (rest.map fun v => v.category).sum ≤ 8) (hR : gRoom rm R n' cells slots mc ms) (hdg : decode cc pc = .ok (.invokestatic idx, 3)) :
    va_Run p l e R s m args below meth c H locs cells slots mc ms (F0 m pc ls st0) rest (Qc As.toArray) (gA ad N H.size) :=
  va_runSN (As := As) (rest := rest) X.fix hM ⟨va_cnB na X.w (gwm_in hc.2.1) rfl hR.1.1 hR.1.2 (X.F.1 _ hw) (X.w _ hc.2.2.1) hc.1 hR.2.1, X.w _ hc.2.2.2, trivial⟩
    (gPre X S _) rfl hn hls hst (lv_room (pc := pc) (ls := ls) (rest := st0) (m := m) hcat) hdg hR.2.2
theorem g_ki {r : Int32} {a : Array Value} (S : gS cel Γ ad N σ s H locs) (h : va_Run p l e R s m args below meth c H locs cells slots 0 0 (F0 m pc ls st0) rest (gQci cel Γ ad N r σ' H.size a) (gA ad N H.size))
    (kk : ∀ (H : Heap) (locs : List Loc), gS cel Γ ad N σ' s H locs → W p l e R s m args below meth c H locs cells slots Q (F0 m (pc + 3) ls (.int r :: rest))) : W p l e R s m args below meth c H locs cells slots Q (F0 m pc ls st0) :=
  va_calli h S.2 (fun q _ hq => gA_le S.2.1 q hq) (gA_le S.2.1) (fun r' u t H1 locs1 ht _ hw hB _ _ hS => by
    subst hw; subst ht
    exact kk _ _ ⟨hB, hS⟩)
theorem g_kv {a : Array Value} (S : gS cel Γ ad N σ s H locs) (h : va_Run p l e R s m args below meth c H locs cells slots 0 0 (F0 m pc ls st0) rest (gQcv cel Γ ad N σ' H.size a) (gA ad N H.size))
    (kk : ∀ (H : Heap) (locs : List Loc), gS cel Γ ad N σ' s H locs → W p l e R s m args below meth c H locs cells slots Q (F0 m (pc + 3) ls rest)) : W p l e R s m args below meth c H locs cells slots Q (F0 m pc ls st0) :=
  va_callv h S.2 (fun q _ hq => gA_le S.2.1 q hq) (gA_le S.2.1) (fun u t H1 locs1 ht _ _ hB _ _ hS => by
    subst ht
    exact kk _ _ ⟨hB, hS⟩)
theorem g_kr {r : Option Nat} {a : Array Value} (S : gS cel Γ ad N σ s H locs) (h : va_Run p l e R s m args below meth c H locs cells slots 0 0 (F0 m pc ls st0) rest (gQcr cel Γ ad N r σ' H.size a) (gA ad N H.size))
    (kk : ∀ (H : Heap) (locs : List Loc), gS cel Γ ad N σ' s H locs → W p l e R s m args below meth c H locs cells slots Q (F0 m (pc + 3) ls (va_re ad r :: rest))) : W p l e R s m args below meth c H locs cells slots Q (F0 m pc ls st0) :=
  va_calle h S.2 (fun q _ hq => gA_le S.2.1 q hq) (gA_le S.2.1) (fun r' u t H1 locs1 ht _ hw hB _ _ hS => by
    subst hw; subst ht
    exact kk _ _ ⟨hB, hS⟩)
end GROWS
end
section
/-! ===== the cells of the class, by number: what kind each is, what it holds ===== -/
def gkdL : List Nat := [9, 3, 106, 0, 120, 8, 116, 116, 116, 116, 484, 8, 116, 116, 116, 116, 484, 2, 7, 160, 1, 7, 160, 7, 160, 4, 209, 3, 106, 0, 120, 8, 116, 116, 116, 116, 484, 8, 116, 116, 116, 116, 484, 3, 106, 0, 120, 8, 116, 116, 116, 116, 484, 8, 116, 116, 116, 116, 484, 3, 106, 0, 120, 8, 116, 116, 116, 116, 484, 8, 116, 116, 116, 116, 484, 3, 106, 0, 120, 8, 116, 116, 116, 116, 484, 8, 116, 116, 116, 116, 484, 3, 106, 0, 120, 8, 116, 116, 116, 116, 484, 8, 116, 116, 116, 116, 484, 3, 106, 0, 120, 8, 116, 116, 116, 116, 484, 8, 116, 116, 116, 116, 484, 3, 106, 0, 120, 8, 116, 116, 116, 116, 484, 8, 116, 116, 116, 116, 484, 3, 106, 0, 120, 8, 116, 116, 116, 116, 484, 8, 116, 116, 116, 116, 484, 3, 106, 0, 120, 8, 116, 116, 116, 116, 484, 8, 116, 116, 116, 116, 484, 3, 106, 0, 120, 8, 116, 116, 116, 116, 484, 8, 116, 116, 116, 116, 484, 7, 160, 7, 160, 5, 130, 130, 130, 130, 130, 130, 130, 7, 160, 30, 6]
def gkd (k : Nat) : Nat := gkdL.getD k 99
def gFx (j : Nat) : Nat := 27 + 16 * j
def celC : gCell := fun Γ ad k r => match gkd k with
  | 0 => .inr (0, [.ref (ad (k + 1)), .int (r 1)])
  | 1 => .inr (1, [.ref (ad 1), .ref (ad 17), .ref (ad 21), .ref (ad 23)])
  | 2 => .inr (2, [.ref (ad 1), .ref (ad 18)])
  | 3 => .inr (3, [.int (r 0), .ref (ad (k + 1)), .ref (ad (k + 2)), .ref (ad (k + 4)), .ref (ad (k + 10))])
  | 4 => .inr (4, [.ref (ad 26), .int (r 1), .int (r 2)])
  | 5 => .inr (5, [.ref (ad 192), .ref (ad 193), .ref (ad 194), .ref (ad 195), .ref (ad 196), .ref (ad 197), .ref (ad 198), .int (r 7), .int (r 8), .ref (ad ((r 9).toNatClampNeg))])
  | 6 => .inr (6, [.int (r 0), .int (r 1), .int (r 2), .int (r 3)])
  | 7 => .inr (7, [.ref (ad (k + 1)), .int (r 1)])
  | 8 => .inr (8, [.ref (ad (k + 1)), .ref (ad (k + 2)), .ref (ad (k + 3)), .ref (ad (k + 4)), .ref (ad (k + 5)), .int (r 5)])
  | 9 => .inr (9, [.ref (ad 1), .ref (ad 17), .ref (ad 20), .ref (ad 25), .ref (ad 171), .int (r 5), .ref (ad 187), .ref (ad 189), .ref (ad 191), .int (r 9), .int (r 10), .int (r 11)])
  | 30 => .inl (Γ.2.2.2, 1, .inr (.inl (fun j => (r j).toInt64)))
  | 106 => .inl (Γ.2.1, 6, .inl r)
  | 116 => .inl (Γ.2.1, 16, .inl r)
  | 120 => .inl (Γ.2.1, 20, .inl r)
  | 130 => .inl (Γ.2.1, 30, .inl r)
  | 160 => .inl (Γ.2.1, 60, .inl r)
  | 484 => .inl (Γ.2.1, 384, .inl r)
  | 209 => .inl (Γ.2.2.1, 9, .inr (.inr (.inr (.inr (fun j => some (ad (gFx j)))))))
  | _ => .inr (0, [])
theorem ceC_0 {Γ : gG} {ad : Nat → Nat} {k : Nat} (h : gkd k = 0) (r : Nat → Int32) : celC Γ ad k r = .inr (0, [.ref (ad (k + 1)), .int (r 1)]) := by simp only [celC, h]
theorem ceC_1 {Γ : gG} {ad : Nat → Nat} {k : Nat} (h : gkd k = 1) (r : Nat → Int32) : celC Γ ad k r = .inr (1, [.ref (ad 1), .ref (ad 17), .ref (ad 21), .ref (ad 23)]) := by simp only [celC, h]
theorem ceC_2 {Γ : gG} {ad : Nat → Nat} {k : Nat} (h : gkd k = 2) (r : Nat → Int32) : celC Γ ad k r = .inr (2, [.ref (ad 1), .ref (ad 18)]) := by simp only [celC, h]
theorem ceC_3 {Γ : gG} {ad : Nat → Nat} {k : Nat} (h : gkd k = 3) (r : Nat → Int32) : celC Γ ad k r = .inr (3, [.int (r 0), .ref (ad (k + 1)), .ref (ad (k + 2)), .ref (ad (k + 4)), .ref (ad (k + 10))]) := by simp only [celC, h]
theorem ceC_4 {Γ : gG} {ad : Nat → Nat} {k : Nat} (h : gkd k = 4) (r : Nat → Int32) : celC Γ ad k r = .inr (4, [.ref (ad 26), .int (r 1), .int (r 2)]) := by simp only [celC, h]
theorem ceC_5 {Γ : gG} {ad : Nat → Nat} {k : Nat} (h : gkd k = 5) (r : Nat → Int32) : celC Γ ad k r = .inr (5, [.ref (ad 192), .ref (ad 193), .ref (ad 194), .ref (ad 195), .ref (ad 196), .ref (ad 197), .ref (ad 198), .int (r 7), .int (r 8), .ref (ad ((r 9).toNatClampNeg))]) := by simp only [celC, h]
theorem ceC_6 {Γ : gG} {ad : Nat → Nat} {k : Nat} (h : gkd k = 6) (r : Nat → Int32) : celC Γ ad k r = .inr (6, [.int (r 0), .int (r 1), .int (r 2), .int (r 3)]) := by simp only [celC, h]
theorem ceC_7 {Γ : gG} {ad : Nat → Nat} {k : Nat} (h : gkd k = 7) (r : Nat → Int32) : celC Γ ad k r = .inr (7, [.ref (ad (k + 1)), .int (r 1)]) := by simp only [celC, h]
theorem ceC_8 {Γ : gG} {ad : Nat → Nat} {k : Nat} (h : gkd k = 8) (r : Nat → Int32) : celC Γ ad k r = .inr (8, [.ref (ad (k + 1)), .ref (ad (k + 2)), .ref (ad (k + 3)), .ref (ad (k + 4)), .ref (ad (k + 5)), .int (r 5)]) := by simp only [celC, h]
theorem ceC_9 {Γ : gG} {ad : Nat → Nat} {k : Nat} (h : gkd k = 9) (r : Nat → Int32) : celC Γ ad k r = .inr (9, [.ref (ad 1), .ref (ad 17), .ref (ad 20), .ref (ad 25), .ref (ad 171), .int (r 5), .ref (ad 187), .ref (ad 189), .ref (ad 191), .int (r 9), .int (r 10), .int (r 11)]) := by simp only [celC, h]
theorem ceC_106 {Γ : gG} {ad : Nat → Nat} {k : Nat} (h : gkd k = 106) (r : Nat → Int32) : celC Γ ad k r = .inl (Γ.2.1, 6, .inl r) := by simp only [celC, h]
theorem ceC_116 {Γ : gG} {ad : Nat → Nat} {k : Nat} (h : gkd k = 116) (r : Nat → Int32) : celC Γ ad k r = .inl (Γ.2.1, 16, .inl r) := by simp only [celC, h]
theorem ceC_120 {Γ : gG} {ad : Nat → Nat} {k : Nat} (h : gkd k = 120) (r : Nat → Int32) : celC Γ ad k r = .inl (Γ.2.1, 20, .inl r) := by simp only [celC, h]
theorem ceC_130 {Γ : gG} {ad : Nat → Nat} {k : Nat} (h : gkd k = 130) (r : Nat → Int32) : celC Γ ad k r = .inl (Γ.2.1, 30, .inl r) := by simp only [celC, h]
theorem ceC_160 {Γ : gG} {ad : Nat → Nat} {k : Nat} (h : gkd k = 160) (r : Nat → Int32) : celC Γ ad k r = .inl (Γ.2.1, 60, .inl r) := by simp only [celC, h]
theorem ceC_484 {Γ : gG} {ad : Nat → Nat} {k : Nat} (h : gkd k = 484) (r : Nat → Int32) : celC Γ ad k r = .inl (Γ.2.1, 384, .inl r) := by simp only [celC, h]
theorem ceC_30 {Γ : gG} {ad : Nat → Nat} {k : Nat} (h : gkd k = 30) (r : Nat → Int32) : celC Γ ad k r = .inl (Γ.2.2.2, 1, .inr (.inl (fun j => (r j).toInt64))) := by simp only [celC, h]
theorem ceC_209 {Γ : gG} {ad : Nat → Nat} {k : Nat} (h : gkd k = 209) (r : Nat → Int32) : celC Γ ad k r = .inl (Γ.2.2.1, 9, .inr (.inr (.inr (.inr (fun j => some (ad (gFx j))))))) := by simp only [celC, h]
theorem kd_lt {k c : Nat} (h : gkd k = c) (hc : c ≠ 99) : k < 203 := by
  rcases Nat.lt_or_ge k 203 with q | q
  · exact q
  · exfalso; apply hc; rw [← h]; unfold gkd; rw [List.getD_eq_getElem?_getD, List.getElem?_eq_none (by show 203 ≤ k; exact q)]; rfl
theorem kd_N {k c N : Nat} (h : gkd k = c) (hc : c ≠ 99 ∧ c ≠ 6) (hN : 202 ≤ N) : k < N := by
  have h1 := kd_lt h hc.1
  rcases Nat.lt_or_ge k 202 with q | q
  · omega
  · have : k = 202 := by omega
    subst this; exact absurd h.symm (by rw [show gkd 202 = 6 from rfl]; exact hc.2)
theorem kd_3_1 {k : Nat} (h : gkd k = 3) : gkd (k + 1) = 106 := by
  have h1 := kd_lt h (by decide)
  exact (by decide +kernel : ∀ k, k < 203 → gkd k = 3 → gkd (k + 1) = 106) k h1 h
theorem kd_3_2 {k : Nat} (h : gkd k = 3) : gkd (k + 2) = 0 := by
  have h1 := kd_lt h (by decide)
  exact (by decide +kernel : ∀ k, k < 203 → gkd k = 3 → gkd (k + 2) = 0) k h1 h
theorem kd_3_3 {k : Nat} (h : gkd k = 3) : gkd (k + 3) = 120 := by
  have h1 := kd_lt h (by decide)
  exact (by decide +kernel : ∀ k, k < 203 → gkd k = 3 → gkd (k + 3) = 120) k h1 h
theorem kd_3_4 {k : Nat} (h : gkd k = 3) : gkd (k + 4) = 8 := by
  have h1 := kd_lt h (by decide)
  exact (by decide +kernel : ∀ k, k < 203 → gkd k = 3 → gkd (k + 4) = 8) k h1 h
theorem kd_3_10 {k : Nat} (h : gkd k = 3) : gkd (k + 10) = 8 := by
  have h1 := kd_lt h (by decide)
  exact (by decide +kernel : ∀ k, k < 203 → gkd k = 3 → gkd (k + 10) = 8) k h1 h
theorem kd_0_1 {k : Nat} (h : gkd k = 0) : gkd (k + 1) = 120 := by
  have h1 := kd_lt h (by decide)
  exact (by decide +kernel : ∀ k, k < 203 → gkd k = 0 → gkd (k + 1) = 120) k h1 h
theorem kd_7_1 {k : Nat} (h : gkd k = 7) : gkd (k + 1) = 160 := by
  have h1 := kd_lt h (by decide)
  exact (by decide +kernel : ∀ k, k < 203 → gkd k = 7 → gkd (k + 1) = 160) k h1 h
theorem kd_8_1 {k : Nat} (h : gkd k = 8) : gkd (k + 1) = 116 := by
  have h1 := kd_lt h (by decide)
  exact (by decide +kernel : ∀ k, k < 203 → gkd k = 8 → gkd (k + 1) = 116) k h1 h
theorem kd_8_2 {k : Nat} (h : gkd k = 8) : gkd (k + 2) = 116 := by
  have h1 := kd_lt h (by decide)
  exact (by decide +kernel : ∀ k, k < 203 → gkd k = 8 → gkd (k + 2) = 116) k h1 h
theorem kd_8_3 {k : Nat} (h : gkd k = 8) : gkd (k + 3) = 116 := by
  have h1 := kd_lt h (by decide)
  exact (by decide +kernel : ∀ k, k < 203 → gkd k = 8 → gkd (k + 3) = 116) k h1 h
theorem kd_8_4 {k : Nat} (h : gkd k = 8) : gkd (k + 4) = 116 := by
  have h1 := kd_lt h (by decide)
  exact (by decide +kernel : ∀ k, k < 203 → gkd k = 8 → gkd (k + 4) = 116) k h1 h
theorem kd_8_5 {k : Nat} (h : gkd k = 8) : gkd (k + 5) = 484 := by
  have h1 := kd_lt h (by decide)
  exact (by decide +kernel : ∀ k, k < 203 → gkd k = 8 → gkd (k + 5) = 484) k h1 h
theorem kd_s0 : gkd 0 = 9 := by decide +kernel
theorem kd_s1 : gkd 1 = 3 := by decide +kernel
theorem kd_s17 : gkd 17 = 2 := by decide +kernel
theorem kd_s18 : gkd 18 = 7 := by decide +kernel
theorem kd_s20 : gkd 20 = 1 := by decide +kernel
theorem kd_s21 : gkd 21 = 7 := by decide +kernel
theorem kd_s23 : gkd 23 = 7 := by decide +kernel
theorem kd_s25 : gkd 25 = 4 := by decide +kernel
theorem kd_s26 : gkd 26 = 209 := by decide +kernel
theorem kd_s171 : gkd 171 = 3 := by decide +kernel
theorem kd_s187 : gkd 187 = 7 := by decide +kernel
theorem kd_s189 : gkd 189 = 7 := by decide +kernel
theorem kd_s191 : gkd 191 = 5 := by decide +kernel
theorem kd_s192 : gkd 192 = 130 := by decide +kernel
theorem kd_s193 : gkd 193 = 130 := by decide +kernel
theorem kd_s194 : gkd 194 = 130 := by decide +kernel
theorem kd_s195 : gkd 195 = 130 := by decide +kernel
theorem kd_s196 : gkd 196 = 130 := by decide +kernel
theorem kd_s197 : gkd 197 = 130 := by decide +kernel
theorem kd_s198 : gkd 198 = 130 := by decide +kernel
theorem kd_s199 : gkd 199 = 7 := by decide +kernel
theorem kd_s201 : gkd 201 = 30 := by decide +kernel
theorem kd_s202 : gkd 202 = 6 := by decide +kernel
theorem kd_fx {j : Nat} (h : j < 9) : gkd (gFx j) = 3 := (by decide +kernel : ∀ j, j < 9 → gkd (gFx j) = 3) j h
/-! ===== the cells of the reference: 0 the object, 1 g, 2 kept, 3 ahead, 4 past, 5 own, 6 text, 7 told ===== -/
def gkm (k : Nat) : Nat := [10, 1026, 1026, 1026, 7508, 128, 160, 280].getD k 99
def celM : gCell := fun Γ ad k r => match gkm k with
  | 10 => .inr (10, [.ref (ad 1), .ref (ad 2), .ref (ad 3), .int (r 3), .ref (ad 4), .int (r 5), .ref (ad 5), .int (r 7), .int (r 8), .int (r 9), .int (r 10), .ref (ad 6), .int (r 12), .int (r 13), .int (r 14), .ref (ad 7), .int (r 16)])
  | 1026 => .inl (Γ.2.1, 926, .inl r)
  | 7508 => .inl (Γ.2.1, 7408, .inl r)
  | 128 => .inl (Γ.2.1, 28, .inl r)
  | 160 => .inl (Γ.2.1, 60, .inl r)
  | 280 => .inl (Γ.2.1, 180, .inl r)
  | _ => .inr (0, [])
theorem ceM_10 {Γ : gG} {ad : Nat → Nat} (r : Nat → Int32) : celM Γ ad 0 r = .inr (10, [.ref (ad 1), .ref (ad 2), .ref (ad 3), .int (r 3), .ref (ad 4), .int (r 5), .ref (ad 5), .int (r 7), .int (r 8), .int (r 9), .int (r 10), .ref (ad 6), .int (r 12), .int (r 13), .int (r 14), .ref (ad 7), .int (r 16)]) := rfl
/-- a row of numbers of the reference, and how long it is -/
def gma (k : Nat) : Bool := decide (1 ≤ k ∧ k ≤ 7)
def gml (k : Nat) : Nat := gkm k - 100
theorem ceM_a {Γ : gG} {ad : Nat → Nat} {k : Nat} (h : gma k = true) (r : Nat → Int32) : celM Γ ad k r = .inl (Γ.2.1, gml k, .inl r) := by
  have h1 := of_decide_eq_true h
  rcases (show k = 1 ∨ k = 2 ∨ k = 3 ∨ k = 4 ∨ k = 5 ∨ k = 6 ∨ k = 7 by omega) with rfl | rfl | rfl | rfl | rfl | rfl | rfl <;> rfl
theorem km_N {k N : Nat} (h : gma k = true) (hN : 8 ≤ N) : k < N := by have h1 := of_decide_eq_true h; omega
/-! ===== words ===== -/
theorem inX0 : ∀ w ∈ u_ws RX0 TX0 2, w ∈ lwg := by decide +kernel
theorem inX1 : ∀ w ∈ u_ws RX1 TX1 4, w ∈ lwg := by decide +kernel
theorem inX2 : ∀ w ∈ u_ws RX2 TX2 2, w ∈ lwg := by decide +kernel
theorem inX3 : ∀ w ∈ u_ws RX3 TX3 5, w ∈ lwg := by decide +kernel
theorem inX4 : ∀ w ∈ u_ws RX4 TX4 3, w ∈ lwg := by decide +kernel
theorem inX5 : ∀ w ∈ u_ws RX5 TX5 10, w ∈ lwg := by decide +kernel
theorem inX6 : ∀ w ∈ u_ws RX6 TX6 4, w ∈ lwg := by decide +kernel
theorem inX7 : ∀ w ∈ u_ws RX7 TX7 2, w ∈ lwg := by decide +kernel
theorem inX8 : ∀ w ∈ u_ws RX8 TX8 6, w ∈ lwg := by decide +kernel
theorem inX9 : ∀ w ∈ u_ws RX9 TX9 12, w ∈ lwg := by decide +kernel
theorem inX10 : ∀ w ∈ u_ws RX10 TX10 17, w ∈ lwg := by decide +kernel
theorem mlX9_1 : Cond.methodLink RX9 1 objectInit ∈ lwg := gq 90 (by decide +kernel) rfl
theorem mlX9_9 : Cond.methodLink RX9 9 yX3_init ∈ lwg := gq 95 (by decide +kernel) rfl
theorem mlX9_18 : Cond.methodLink RX9 18 yX2_init ∈ lwg := gq 172 (by decide +kernel) rfl
theorem mlX9_27 : Cond.methodLink RX9 27 yX1_init ∈ lwg := gq 201 (by decide +kernel) rfl
theorem mlX9_36 : Cond.methodLink RX9 36 yX4_init ∈ lwg := gq 222 (by decide +kernel) rfl
theorem mlX9_50 : Cond.methodLink RX9 50 yX7_init ∈ lwg := gq 241 (by decide +kernel) rfl
theorem mlX9_60 : Cond.methodLink RX9 60 yX5_init ∈ lwg := gq 244 (by decide +kernel) rfl
theorem mlX9_82 : Cond.methodLink RX9 82 yX3_lengthRefusal ∈ lwg := gq 423 (by decide +kernel) rfl
theorem mlX9_86 : Cond.methodLink RX9 86 yX9_passOrRefuse ∈ lwg := gq 443 (by decide +kernel) rfl
theorem mlX9_90 : Cond.methodLink RX9 90 yX4_keep ∈ lwg := gq 467 (by decide +kernel) rfl
theorem mlX9_96 : Cond.methodLink RX9 96 yX9_isSettingValue ∈ lwg := gq 494 (by decide +kernel) rfl
theorem mlX9_102 : Cond.methodLink RX9 102 yX3_changeSetting ∈ lwg := gq 505 (by decide +kernel) rfl
theorem mlX9_106 : Cond.methodLink RX9 106 yX3_canBeCut ∈ lwg := gq 546 (by decide +kernel) rfl
theorem mlX9_119 : Cond.methodLink RX9 119 yX0_lacksRoomFor ∈ lwg := gq 563 (by decide +kernel) rfl
theorem mlX9_129 : Cond.methodLink RX9 129 yX0_make ∈ lwg := gq 591 (by decide +kernel) rfl
theorem mlX9_132 : Cond.methodLink RX9 132 yX0_takeAway ∈ lwg := gq 595 (by decide +kernel) rfl
theorem mlX9_138 : Cond.methodLink RX9 138 yX3_trackOf ∈ lwg := gq 606 (by decide +kernel) rfl
theorem mlX9_145 : Cond.methodLink RX9 145 yX2_framesOfBoth ∈ lwg := gq 607 (by decide +kernel) rfl
theorem mlX9_149 : Cond.methodLink RX9 149 yX2_captionsWith ∈ lwg := gq 629 (by decide +kernel) rfl
theorem mlX9_156 : Cond.methodLink RX9 156 yX9_isSetting ∈ lwg := gq 497 (by decide +kernel) rfl
theorem mlX9_161 : Cond.methodLink RX9 161 yX3_setting ∈ lwg := gq 709 (by decide +kernel) rfl
theorem mlX9_164 : Cond.methodLink RX9 164 yX3_hasFrame ∈ lwg := gq 717 (by decide +kernel) rfl
theorem mlX9_169 : Cond.methodLink RX9 169 yX0_upTo ∈ lwg := gq 722 (by decide +kernel) rfl
theorem mlX9_172 : Cond.methodLink RX9 172 yX7_append ∈ lwg := gq 730 (by decide +kernel) rfl
theorem mlX9_177 : Cond.methodLink RX9 177 yX7_clear ∈ lwg := gq 742 (by decide +kernel) rfl
theorem mlX9_180 : Cond.methodLink RX9 180 yX7_appendPart ∈ lwg := gq 746 (by decide +kernel) rfl
theorem mlX9_184 : Cond.methodLink RX9 184 yX9_requireTrack ∈ lwg := gq 755 (by decide +kernel) rfl
theorem mlX9_189 : Cond.methodLink RX9 189 yX3_addRefusal ∈ lwg := gq 764 (by decide +kernel) rfl
theorem mlX9_193 : Cond.methodLink RX9 193 yX8_insertCaption ∈ lwg := gq 788 (by decide +kernel) rfl
theorem mlX9_196 : Cond.methodLink RX9 196 yX9_requireCaption ∈ lwg := gq 815 (by decide +kernel) rfl
theorem mlX9_200 : Cond.methodLink RX9 200 yX8_closeRow ∈ lwg := gq 821 (by decide +kernel) rfl
theorem mlX9_203 : Cond.methodLink RX9 203 yX3_placeRefusal ∈ lwg := gq 832 (by decide +kernel) rfl
theorem mlX9_207 : Cond.methodLink RX9 207 yX1_placeCaption ∈ lwg := gq 833 (by decide +kernel) rfl
theorem mlX9_210 : Cond.methodLink RX9 210 yX8_size ∈ lwg := gq 855 (by decide +kernel) rfl
theorem mlX9_214 : Cond.methodLink RX9 214 yX1_splitRefusal ∈ lwg := gq 857 (by decide +kernel) rfl
theorem mlX9_218 : Cond.methodLink RX9 218 yX1_splitCaption ∈ lwg := gq 874 (by decide +kernel) rfl
theorem mlX9_221 : Cond.methodLink RX9 221 yX2_mergeRefusal ∈ lwg := gq 889 (by decide +kernel) rfl
theorem mlX9_224 : Cond.methodLink RX9 224 yX1_mergeCaption ∈ lwg := gq 903 (by decide +kernel) rfl
theorem mlX9_227 : Cond.methodLink RX9 227 yX1_snapRefusal ∈ lwg := gq 916 (by decide +kernel) rfl
theorem mlX9_230 : Cond.methodLink RX9 230 yX1_snapCaption ∈ lwg := gq 927 (by decide +kernel) rfl
theorem mlX9_233 : Cond.methodLink RX9 233 yX1_fitCaption ∈ lwg := gq 939 (by decide +kernel) rfl
theorem mlX9_236 : Cond.methodLink RX9 236 yX9_arePoints ∈ lwg := gq 958 (by decide +kernel) rfl
theorem mlX9_244 : Cond.methodLink RX9 244 yX6_init ∈ lwg := gq 967 (by decide +kernel) rfl
theorem mlX9_247 : Cond.methodLink RX9 247 yX1_retimeRefusal ∈ lwg := gq 985 (by decide +kernel) rfl
theorem mlX9_251 : Cond.methodLink RX9 251 yX1_retimeCaptions ∈ lwg := gq 1000 (by decide +kernel) rfl
theorem mlX9_254 : Cond.methodLink RX9 254 yX8_first ∈ lwg := gq 1011 (by decide +kernel) rfl
theorem mlX9_257 : Cond.methodLink RX9 257 yX8_end ∈ lwg := gq 1012 (by decide +kernel) rfl
theorem mlX9_260 : Cond.methodLink RX9 260 yX8_kind ∈ lwg := gq 1013 (by decide +kernel) rfl
theorem mlX9_263 : Cond.methodLink RX9 263 yX8_load ∈ lwg := gq 1014 (by decide +kernel) rfl
theorem mlX9_266 : Cond.methodLink RX9 266 yX2_needs ∈ lwg := gq 1015 (by decide +kernel) rfl
theorem mlX9_269 : Cond.methodLink RX9 269 yX2_problems ∈ lwg := gq 1016 (by decide +kernel) rfl
theorem mlX9_272 : Cond.methodLink RX9 272 yX2_partner ∈ lwg := gq 1017 (by decide +kernel) rfl
theorem mlX9_275 : Cond.methodLink RX9 275 yX8_longestLine ∈ lwg := gq 1018 (by decide +kernel) rfl
theorem mlX9_278 : Cond.methodLink RX9 278 yX2_cutsWithin ∈ lwg := gq 1019 (by decide +kernel) rfl
theorem mlX9_281 : Cond.methodLink RX9 281 yX8_gapBefore ∈ lwg := gq 1024 (by decide +kernel) rfl
theorem mlX9_284 : Cond.methodLink RX9 284 yX2_sharedWithPartner ∈ lwg := gq 1025 (by decide +kernel) rfl
theorem mlX9_287 : Cond.methodLink RX9 287 yX8_signAt ∈ lwg := gq 1037 (by decide +kernel) rfl
theorem mlX9_293 : Cond.methodLink RX9 293 yX8_captionOn ∈ lwg := gq 1060 (by decide +kernel) rfl
theorem mlX9_298 : Cond.methodLink RX9 298 yX8_allFrames ∈ lwg := gq 1072 (by decide +kernel) rfl
theorem mlX9_301 : Cond.methodLink RX9 301 yX8_allLoad ∈ lwg := gq 1077 (by decide +kernel) rfl
theorem mlX9_304 : Cond.methodLink RX9 304 yX2_captionsOverCuts ∈ lwg := gq 1082 (by decide +kernel) rfl
theorem mlX9_307 : Cond.methodLink RX9 307 yX2_captionsToMerge ∈ lwg := gq 1087 (by decide +kernel) rfl
theorem mlX9_310 : Cond.methodLink RX9 310 yX8_densest ∈ lwg := gq 1099 (by decide +kernel) rfl
theorem mlX9_320 : Cond.methodLink RX9 320 yX5_readText ∈ lwg := gq 1135 (by decide +kernel) rfl
theorem mlX9_324 : Cond.methodLink RX9 324 yX9_carryOutItems ∈ lwg := gq 1175 (by decide +kernel) rfl
theorem mlX9_345 : Cond.methodLink RX9 345 yX4_undoInto ∈ lwg := gq 1251 (by decide +kernel) rfl
theorem mlX9_348 : Cond.methodLink RX9 348 yX3_copyFrom ∈ lwg := gq 324 (by decide +kernel) rfl
theorem mlX9_351 : Cond.methodLink RX9 351 yX3_captionCount ∈ lwg := gq 338 (by decide +kernel) rfl
theorem mlX9_356 : Cond.methodLink RX9 356 yX4_forgetAll ∈ lwg := gq 1264 (by decide +kernel) rfl
theorem mlX9_359 : Cond.methodLink RX9 359 yX9_isTrack ∈ lwg := gq 759 (by decide +kernel) rfl
theorem mlX9_364 : Cond.methodLink RX9 364 yX8_has ∈ lwg := gq 819 (by decide +kernel) rfl
theorem mlX9_369 : Cond.methodLink RX9 369 yX9_keepRefusal ∈ lwg := gq 447 (by decide +kernel) rfl
theorem mlX9_374 : Cond.methodLink RX9 374 yX4_prepare ∈ lwg := gq 1179 (by decide +kernel) rfl
theorem mlX9_377 : Cond.methodLink RX9 377 yX9_carryOutItem ∈ lwg := gq 1180 (by decide +kernel) rfl
theorem mlX9_380 : Cond.methodLink RX9 380 yX4_takeBackInto ∈ lwg := gq 1220 (by decide +kernel) rfl
theorem mlX9_383 : Cond.methodLink RX9 383 yX4_commit ∈ lwg := gq 1224 (by decide +kernel) rfl
theorem mlX9_386 : Cond.methodLink RX9 386 yX5_what ∈ lwg := gq 1184 (by decide +kernel) rfl
theorem mlX9_389 : Cond.methodLink RX9 389 yX5_first ∈ lwg := gq 1188 (by decide +kernel) rfl
theorem mlX9_390 : Cond.methodLink RX9 390 yX1_carryOutCut ∈ lwg := gq 1192 (by decide +kernel) rfl
theorem mlX9_394 : Cond.methodLink RX9 394 yX5_wordsFrom ∈ lwg := gq 1200 (by decide +kernel) rfl
theorem mlX9_397 : Cond.methodLink RX9 397 yX5_wordsTo ∈ lwg := gq 1204 (by decide +kernel) rfl
theorem mlX9_400 : Cond.methodLink RX9 400 yX5_trackOfItem ∈ lwg := gq 1208 (by decide +kernel) rfl
theorem mlX9_403 : Cond.methodLink RX9 403 yX5_end ∈ lwg := gq 1212 (by decide +kernel) rfl
theorem mlX9_404 : Cond.methodLink RX9 404 yX5_kind ∈ lwg := gq 1216 (by decide +kernel) rfl
theorem mlX9_412 : Cond.methodLink RX9 412 yX9_isPointFrame ∈ lwg := gq 961 (by decide +kernel) rfl
theorem mlX9_415 : Cond.methodLink RX9 415 Lib.Math.abs.name ∈ lwg := gq 683 (by decide +kernel) rfl
theorem mlX0_3 : Cond.methodLink RX0 3 objectInit ∈ lwg := gq 109 (by decide +kernel) rfl
theorem mlX0_19 : Cond.methodLink RX0 19 arraycopyName ∈ lwg := gq 332 (by decide +kernel) rfl
theorem mlX0_25 : Cond.methodLink RX0 25 yX0_upTo ∈ lwg := gq 571 (by decide +kernel) rfl
theorem mlX0_29 : Cond.methodLink RX0 29 yX0_at ∈ lwg := gq 679 (by decide +kernel) rfl
theorem mlX0_36 : Cond.methodLink RX0 36 yX0_holds ∈ lwg := gq 567 (by decide +kernel) rfl
theorem mlX1_3 : Cond.methodLink RX1 3 objectInit ∈ lwg := gq 204 (by decide +kernel) rfl
theorem mlX1_21 : Cond.methodLink RX1 21 yX7_init ∈ lwg := gq 206 (by decide +kernel) rfl
theorem mlX1_29 : Cond.methodLink RX1 29 yX3_trackOf ∈ lwg := gq 837 (by decide +kernel) rfl
theorem mlX1_35 : Cond.methodLink RX1 35 yX8_kind ∈ lwg := gq 838 (by decide +kernel) rfl
theorem mlX1_41 : Cond.methodLink RX1 41 yX7_clear ∈ lwg := gq 839 (by decide +kernel) rfl
theorem mlX1_44 : Cond.methodLink RX1 44 yX8_size ∈ lwg := gq 840 (by decide +kernel) rfl
theorem mlX1_47 : Cond.methodLink RX1 47 yX8_appendTextTo ∈ lwg := gq 841 (by decide +kernel) rfl
theorem mlX1_51 : Cond.methodLink RX1 51 yX8_closeRow ∈ lwg := gq 846 (by decide +kernel) rfl
theorem mlX1_55 : Cond.methodLink RX1 55 yX8_insertCaption ∈ lwg := gq 847 (by decide +kernel) rfl
theorem mlX1_59 : Cond.methodLink RX1 59 yX8_signAt ∈ lwg := gq 861 (by decide +kernel) rfl
theorem mlX1_63 : Cond.methodLink RX1 63 yX1_divideText ∈ lwg := gq 862 (by decide +kernel) rfl
theorem mlX1_67 : Cond.methodLink RX1 67 yX7_isValid ∈ lwg := gq 866 (by decide +kernel) rfl
theorem mlX1_71 : Cond.methodLink RX1 71 yX1_framesOfHead ∈ lwg := gq 867 (by decide +kernel) rfl
theorem mlX1_75 : Cond.methodLink RX1 75 yX8_frames ∈ lwg := gq 872 (by decide +kernel) rfl
theorem mlX1_82 : Cond.methodLink RX1 82 yX8_first ∈ lwg := gq 878 (by decide +kernel) rfl
theorem mlX1_85 : Cond.methodLink RX1 85 yX8_end ∈ lwg := gq 879 (by decide +kernel) rfl
theorem mlX1_88 : Cond.methodLink RX1 88 yX8_setFrames ∈ lwg := gq 880 (by decide +kernel) rfl
theorem mlX1_92 : Cond.methodLink RX1 92 yX8_setText ∈ lwg := gq 881 (by decide +kernel) rfl
theorem mlX1_96 : Cond.methodLink RX1 96 yX8_loadBetween ∈ lwg := gq 871 (by decide +kernel) rfl
theorem mlX1_100 : Cond.methodLink RX1 100 Lib.Math.max.name ∈ lwg := gq 873 (by decide +kernel) rfl
theorem mlX1_105 : Cond.methodLink RX1 105 yX2_joinWithNext ∈ lwg := gq 907 (by decide +kernel) rfl
theorem mlX1_111 : Cond.methodLink RX1 111 yX8_load ∈ lwg := gq 908 (by decide +kernel) rfl
theorem mlX1_114 : Cond.methodLink RX1 114 yX3_isLoose ∈ lwg := gq 924 (by decide +kernel) rfl
theorem mlX1_122 : Cond.methodLink RX1 122 yX0_nearest ∈ lwg := gq 925 (by decide +kernel) rfl
theorem mlX1_127 : Cond.methodLink RX1 127 yX1_snapped ∈ lwg := gq 920 (by decide +kernel) rfl
theorem mlX1_130 : Cond.methodLink RX1 130 yX3_placeRefusal ∈ lwg := gq 926 (by decide +kernel) rfl
theorem mlX1_134 : Cond.methodLink RX1 134 yX1_placeCaption ∈ lwg := gq 931 (by decide +kernel) rfl
theorem mlX1_140 : Cond.methodLink RX1 140 yX2_needs ∈ lwg := gq 943 (by decide +kernel) rfl
theorem mlX1_143 : Cond.methodLink RX1 143 Lib.Math.min.name ∈ lwg := gq 944 (by decide +kernel) rfl
theorem mlX1_146 : Cond.methodLink RX1 146 yX8_has ∈ lwg := gq 945 (by decide +kernel) rfl
theorem mlX1_149 : Cond.methodLink RX1 149 yX3_setting ∈ lwg := gq 946 (by decide +kernel) rfl
theorem mlX1_152 : Cond.methodLink RX1 152 yX0_firstFrom ∈ lwg := gq 947 (by decide +kernel) rfl
theorem mlX1_155 : Cond.methodLink RX1 155 yX1_isMeant ∈ lwg := gq 989 (by decide +kernel) rfl
theorem mlX1_159 : Cond.methodLink RX1 159 yX6_frameFor ∈ lwg := gq 992 (by decide +kernel) rfl
theorem mlX1_164 : Cond.methodLink RX1 164 yX3_spanRefusal ∈ lwg := gq 999 (by decide +kernel) rfl
theorem mlX1_167 : Cond.methodLink RX1 167 yX3_canBeCut ∈ lwg := gq 1196 (by decide +kernel) rfl
theorem mlX1_170 : Cond.methodLink RX1 170 yX0_takeAway ∈ lwg := gq 1197 (by decide +kernel) rfl
theorem mlX1_173 : Cond.methodLink RX1 173 yX0_lacksRoomFor ∈ lwg := gq 1198 (by decide +kernel) rfl
theorem mlX1_176 : Cond.methodLink RX1 176 yX0_make ∈ lwg := gq 1199 (by decide +kernel) rfl
theorem mlX2_3 : Cond.methodLink RX2 3 objectInit ∈ lwg := gq 175 (by decide +kernel) rfl
theorem mlX2_17 : Cond.methodLink RX2 17 yX7_init ∈ lwg := gq 178 (by decide +kernel) rfl
theorem mlX2_22 : Cond.methodLink RX2 22 yX3_trackOf ∈ lwg := gq 611 (by decide +kernel) rfl
theorem mlX2_28 : Cond.methodLink RX2 28 yX8_kind ∈ lwg := gq 647 (by decide +kernel) rfl
theorem mlX2_34 : Cond.methodLink RX2 34 yX8_load ∈ lwg := gq 651 (by decide +kernel) rfl
theorem mlX2_37 : Cond.methodLink RX2 37 yX3_setting ∈ lwg := gq 667 (by decide +kernel) rfl
theorem mlX2_44 : Cond.methodLink RX2 44 yX3_trackBeside ∈ lwg := gq 612 (by decide +kernel) rfl
theorem mlX2_51 : Cond.methodLink RX2 51 yX8_first ∈ lwg := gq 616 (by decide +kernel) rfl
theorem mlX2_54 : Cond.methodLink RX2 54 yX8_end ∈ lwg := gq 620 (by decide +kernel) rfl
theorem mlX2_57 : Cond.methodLink RX2 57 yX8_shared ∈ lwg := gq 621 (by decide +kernel) rfl
theorem mlX2_61 : Cond.methodLink RX2 61 yX2_partner ∈ lwg := gq 703 (by decide +kernel) rfl
theorem mlX2_67 : Cond.methodLink RX2 67 yX8_gapBefore ∈ lwg := gq 691 (by decide +kernel) rfl
theorem mlX2_70 : Cond.methodLink RX2 70 yX8_frames ∈ lwg := gq 637 (by decide +kernel) rfl
theorem mlX2_73 : Cond.methodLink RX2 73 yX2_needs ∈ lwg := gq 643 (by decide +kernel) rfl
theorem mlX2_76 : Cond.methodLink RX2 76 yX3_isLoose ∈ lwg := gq 671 (by decide +kernel) rfl
theorem mlX2_80 : Cond.methodLink RX2 80 yX2_isTight ∈ lwg := gq 687 (by decide +kernel) rfl
theorem mlX2_84 : Cond.methodLink RX2 84 yX8_longestLine ∈ lwg := gq 695 (by decide +kernel) rfl
theorem mlX2_87 : Cond.methodLink RX2 87 yX2_isInStep ∈ lwg := gq 699 (by decide +kernel) rfl
theorem mlX2_90 : Cond.methodLink RX2 90 yX2_problems ∈ lwg := gq 633 (by decide +kernel) rfl
theorem mlX2_97 : Cond.methodLink RX2 97 yX0_upTo ∈ lwg := gq 1023 (by decide +kernel) rfl
theorem mlX2_102 : Cond.methodLink RX2 102 yX2_cutsWithin ∈ lwg := gq 1086 (by decide +kernel) rfl
theorem mlX2_105 : Cond.methodLink RX2 105 yX2_mergeRefusal ∈ lwg := gq 1091 (by decide +kernel) rfl
theorem mlX2_108 : Cond.methodLink RX2 108 yX8_has ∈ lwg := gq 893 (by decide +kernel) rfl
theorem mlX2_111 : Cond.methodLink RX2 111 yX2_joinWithNext ∈ lwg := gq 894 (by decide +kernel) rfl
theorem mlX2_115 : Cond.methodLink RX2 115 yX7_isValid ∈ lwg := gq 902 (by decide +kernel) rfl
theorem mlX2_119 : Cond.methodLink RX2 119 yX7_clear ∈ lwg := gq 898 (by decide +kernel) rfl
theorem mlX2_122 : Cond.methodLink RX2 122 yX8_size ∈ lwg := gq 899 (by decide +kernel) rfl
theorem mlX2_125 : Cond.methodLink RX2 125 yX8_appendTextTo ∈ lwg := gq 900 (by decide +kernel) rfl
theorem mlX2_129 : Cond.methodLink RX2 129 yX7_append ∈ lwg := gq 901 (by decide +kernel) rfl
theorem mlX3_3 : Cond.methodLink RX3 3 objectInit ∈ lwg := gq 98 (by decide +kernel) rfl
theorem mlX3_22 : Cond.methodLink RX3 22 arraycopyName ∈ lwg := gq 101 (by decide +kernel) rfl
theorem mlX3_30 : Cond.methodLink RX3 30 yX0_init ∈ lwg := gq 106 (by decide +kernel) rfl
theorem mlX3_37 : Cond.methodLink RX3 37 yX8_init ∈ lwg := gq 122 (by decide +kernel) rfl
theorem mlX3_45 : Cond.methodLink RX3 45 yX0_copyFrom ∈ lwg := gq 328 (by decide +kernel) rfl
theorem mlX3_49 : Cond.methodLink RX3 49 yX8_copyFrom ∈ lwg := gq 333 (by decide +kernel) rfl
theorem mlX3_59 : Cond.methodLink RX3 59 yX3_setting ∈ lwg := gq 509 (by decide +kernel) rfl
theorem mlX3_63 : Cond.methodLink RX3 63 yX0_nearest ∈ lwg := gq 675 (by decide +kernel) rfl
theorem mlX3_70 : Cond.methodLink RX3 70 yX3_trackOf ∈ lwg := gq 427 (by decide +kernel) rfl
theorem mlX3_74 : Cond.methodLink RX3 74 yX8_end ∈ lwg := gq 431 (by decide +kernel) rfl
theorem mlX3_78 : Cond.methodLink RX3 78 yX0_at ∈ lwg := gq 439 (by decide +kernel) rfl
theorem mlX3_81 : Cond.methodLink RX3 81 yX3_spanRefusal ∈ lwg := gq 772 (by decide +kernel) rfl
theorem mlX3_84 : Cond.methodLink RX3 84 yX8_sharesWithOthers ∈ lwg := gq 776 (by decide +kernel) rfl
theorem mlX3_88 : Cond.methodLink RX3 88 yX3_placeRefusal ∈ lwg := gq 768 (by decide +kernel) rfl
theorem mlX3_92 : Cond.methodLink RX3 92 yX7_isValid ∈ lwg := gq 781 (by decide +kernel) rfl
theorem mlX4_3 : Cond.methodLink RX4 3 objectInit ∈ lwg := gq 225 (by decide +kernel) rfl
theorem mlX4_17 : Cond.methodLink RX4 17 yX3_init ∈ lwg := gq 228 (by decide +kernel) rfl
theorem mlX4_25 : Cond.methodLink RX4 25 yX4_prepare ∈ lwg := gq 471 (by decide +kernel) rfl
theorem mlX4_29 : Cond.methodLink RX4 29 yX4_commit ∈ lwg := gq 480 (by decide +kernel) rfl
theorem mlX4_32 : Cond.methodLink RX4 32 yX4_rowAt ∈ lwg := gq 475 (by decide +kernel) rfl
theorem mlX4_36 : Cond.methodLink RX4 36 yX3_copyFrom ∈ lwg := gq 479 (by decide +kernel) rfl
theorem mlX4_39 : Cond.methodLink RX4 39 Lib.Math.min.name ∈ lwg := gq 484 (by decide +kernel) rfl
theorem mlX4_45 : Cond.methodLink RX4 45 yX4_takeBackInto ∈ lwg := gq 1255 (by decide +kernel) rfl
theorem mlX5_3 : Cond.methodLink RX5 3 objectInit ∈ lwg := gq 247 (by decide +kernel) rfl
theorem mlX5_42 : Cond.methodLink RX5 42 yX7_init ∈ lwg := gq 249 (by decide +kernel) rfl
theorem mlX5_47 : Cond.methodLink RX5 47 yX5_isItem ∈ lwg := gq 1159 (by decide +kernel) rfl
theorem mlX5_51 : Cond.methodLink RX5 51 yX5_readItem ∈ lwg := gq 1139 (by decide +kernel) rfl
theorem mlX5_57 : Cond.methodLink RX5 57 yX5_takeSign ∈ lwg := gq 1143 (by decide +kernel) rfl
theorem mlX5_60 : Cond.methodLink RX5 60 yX5_readCut ∈ lwg := gq 1148 (by decide +kernel) rfl
theorem mlX5_64 : Cond.methodLink RX5 64 yX5_readCaption ∈ lwg := gq 1162 (by decide +kernel) rfl
theorem mlX5_67 : Cond.methodLink RX5 67 yX5_readNumber ∈ lwg := gq 1152 (by decide +kernel) rfl
theorem mlX5_71 : Cond.methodLink RX5 71 yX5_takeOneOf ∈ lwg := gq 1166 (by decide +kernel) rfl
theorem mlX5_75 : Cond.methodLink RX5 75 yX5_skipWords ∈ lwg := gq 1170 (by decide +kernel) rfl
theorem mlX5_78 : Cond.methodLink RX5 78 yX7_signAt ∈ lwg := gq 1147 (by decide +kernel) rfl
theorem mlX5_82 : Cond.methodLink RX5 82 yX5_isDigit ∈ lwg := gq 1156 (by decide +kernel) rfl
theorem mlX6_1 : Cond.methodLink RX6 1 objectInit ∈ lwg := gq 970 (by decide +kernel) rfl
theorem mlX6_16 : Cond.methodLink RX6 16 Lib.Math.abs.name ∈ lwg := gq 971 (by decide +kernel) rfl
theorem mlX6_28 : Cond.methodLink RX6 28 yJ9_floorDiv_7cf53 ∈ lwg := gq 996 (by decide +kernel) rfl
theorem mlX7_3 : Cond.methodLink RX7 3 objectInit ∈ lwg := gq 181 (by decide +kernel) rfl
theorem mlX7_19 : Cond.methodLink RX7 19 yX7_signAt ∈ lwg := gq 750 (by decide +kernel) rfl
theorem mlX7_23 : Cond.methodLink RX7 23 yX7_append ∈ lwg := gq 754 (by decide +kernel) rfl
theorem mlX8_3 : Cond.methodLink RX8 3 objectInit ∈ lwg := gq 125 (by decide +kernel) rfl
theorem mlX8_31 : Cond.methodLink RX8 31 arraycopyName ∈ lwg := gq 337 (by decide +kernel) rfl
theorem mlX8_37 : Cond.methodLink RX8 37 yX8_has ∈ lwg := gq 435 (by decide +kernel) rfl
theorem mlX8_41 : Cond.methodLink RX8 41 yX8_end ∈ lwg := gq 641 (by decide +kernel) rfl
theorem mlX8_45 : Cond.methodLink RX8 45 yX8_first ∈ lwg := gq 642 (by decide +kernel) rfl
theorem mlX8_48 : Cond.methodLink RX8 48 yX8_size ∈ lwg := gq 655 (by decide +kernel) rfl
theorem mlX8_51 : Cond.methodLink RX8 51 yX8_loadBetween ∈ lwg := gq 659 (by decide +kernel) rfl
theorem mlX8_55 : Cond.methodLink RX8 55 yX8_signAt ∈ lwg := gq 663 (by decide +kernel) rfl
theorem mlX8_59 : Cond.methodLink RX8 59 Lib.Math.max.name ∈ lwg := gq 626 (by decide +kernel) rfl
theorem mlX8_64 : Cond.methodLink RX8 64 Lib.Math.min.name ∈ lwg := gq 625 (by decide +kernel) rfl
theorem mlX8_67 : Cond.methodLink RX8 67 yX8_shared ∈ lwg := gq 780 (by decide +kernel) rfl
theorem mlX8_70 : Cond.methodLink RX8 70 yX8_frames ∈ lwg := gq 1076 (by decide +kernel) rfl
theorem mlX8_73 : Cond.methodLink RX8 73 yX8_load ∈ lwg := gq 1081 (by decide +kernel) rfl
theorem mlX8_76 : Cond.methodLink RX8 76 yX7_append ∈ lwg := gq 845 (by decide +kernel) rfl
theorem mlX8_83 : Cond.methodLink RX8 83 yX7_signAt ∈ lwg := gq 807 (by decide +kernel) rfl
theorem mlX8_85 : Cond.methodLink RX8 85 yX8_isRow ∈ lwg := gq 792 (by decide +kernel) rfl
theorem mlX8_88 : Cond.methodLink RX8 88 yX8_copyRow ∈ lwg := gq 795 (by decide +kernel) rfl
theorem mlX8_92 : Cond.methodLink RX8 92 yX8_setFrames ∈ lwg := gq 799 (by decide +kernel) rfl
theorem mlX8_96 : Cond.methodLink RX8 96 yX8_setText ∈ lwg := gq 803 (by decide +kernel) rfl
theorem mlL_7 : Cond.methodLink RL 7 yX9_film ∈ lwg := gq 347 (by decide +kernel) rfl
theorem mlL_17 : Cond.methodLink RL 17 yX9_set ∈ lwg := gq 490 (by decide +kernel) rfl
theorem mlL_21 : Cond.methodLink RL 21 yX9_cut ∈ lwg := gq 542 (by decide +kernel) rfl
theorem mlL_29 : Cond.methodLink RL 29 yX9_number ∈ lwg := gq 602 (by decide +kernel) rfl
theorem mlL_32 : Cond.methodLink RL 32 yX9_shot ∈ lwg := gq 713 (by decide +kernel) rfl
theorem mlL_35 : Cond.methodLink RL 35 yX9_feed ∈ lwg := gq 726 (by decide +kernel) rfl
theorem mlL_39 : Cond.methodLink RL 39 yX9_add ∈ lwg := gq 738 (by decide +kernel) rfl
theorem mlL_43 : Cond.methodLink RL 43 yX9_remove ∈ lwg := gq 811 (by decide +kernel) rfl
theorem mlL_46 : Cond.methodLink RL 46 yX9_move ∈ lwg := gq 828 (by decide +kernel) rfl
theorem mlL_49 : Cond.methodLink RL 49 yX9_split ∈ lwg := gq 851 (by decide +kernel) rfl
theorem mlL_53 : Cond.methodLink RL 53 yX9_merge ∈ lwg := gq 885 (by decide +kernel) rfl
theorem mlL_56 : Cond.methodLink RL 56 yX9_snap ∈ lwg := gq 912 (by decide +kernel) rfl
theorem mlL_59 : Cond.methodLink RL 59 yX9_fit ∈ lwg := gq 935 (by decide +kernel) rfl
theorem mlL_62 : Cond.methodLink RL 62 yX9_retime ∈ lwg := gq 954 (by decide +kernel) rfl
theorem mlL_66 : Cond.methodLink RL 66 yX9_caption ∈ lwg := gq 1007 (by decide +kernel) rfl
theorem mlL_69 : Cond.methodLink RL 69 yX9_letter ∈ lwg := gq 1033 (by decide +kernel) rfl
theorem mlL_75 : Cond.methodLink RL 75 yX9_shown ∈ lwg := gq 1056 (by decide +kernel) rfl
theorem mlL_78 : Cond.methodLink RL 78 yX9_track ∈ lwg := gq 1068 (by decide +kernel) rfl
theorem mlL_81 : Cond.methodLink RL 81 yX9_fastest ∈ lwg := gq 1095 (by decide +kernel) rfl
theorem mlL_84 : Cond.methodLink RL 84 yX9_speed ∈ lwg := gq 1121 (by decide +kernel) rfl
theorem mlL_90 : Cond.methodLink RL 90 yX9_read ∈ lwg := gq 1131 (by decide +kernel) rfl
theorem mlL_94 : Cond.methodLink RL 94 yX9_faultPosition ∈ lwg := gq 1230 (by decide +kernel) rfl
theorem mlL_97 : Cond.methodLink RL 97 yX9_refusal ∈ lwg := gq 1238 (by decide +kernel) rfl
theorem mlL_101 : Cond.methodLink RL 101 yX9_undo ∈ lwg := gq 1246 (by decide +kernel) rfl
theorem mlL_104 : Cond.methodLink RL 104 yX9_restoreSnapshot ∈ lwg := gq 1259 (by decide +kernel) rfl
theorem mlL_107 : Cond.methodLink RL 107 yX9_init ∈ lwg := gq 87 (by decide +kernel) rfl
theorem mlL_110 : Cond.methodLink RL 110 yX10_init ∈ lwg := gq 1270 (by decide +kernel) rfl
theorem mlL_111 : Cond.methodLink RL 111 yL_film ∈ lwg := gq 342 (by decide +kernel) rfl
theorem mlL_116 : Cond.methodLink RL 116 yX10_film ∈ lwg := gq 1345 (by decide +kernel) rfl
theorem mlL_117 : Cond.methodLink RL 117 yX10_thrown ∈ lwg := gq 1326 (by decide +kernel) rfl
theorem mlL_120 : Cond.methodLink RL 120 yL_set ∈ lwg := gq 487 (by decide +kernel) rfl
theorem mlL_123 : Cond.methodLink RL 123 yX10_set ∈ lwg := gq 1371 (by decide +kernel) rfl
theorem mlL_124 : Cond.methodLink RL 124 yL_cut ∈ lwg := gq 514 (by decide +kernel) rfl
theorem mlL_127 : Cond.methodLink RL 127 yX10_cut ∈ lwg := gq 1378 (by decide +kernel) rfl
theorem mlL_128 : Cond.methodLink RL 128 yL_number ∈ lwg := gq 599 (by decide +kernel) rfl
theorem mlL_130 : Cond.methodLink RL 130 yX10_number ∈ lwg := gq 1518 (by decide +kernel) rfl
theorem mlL_131 : Cond.methodLink RL 131 yL_shot ∈ lwg := gq 710 (by decide +kernel) rfl
theorem mlL_133 : Cond.methodLink RL 133 yX10_shot ∈ lwg := gq 1394 (by decide +kernel) rfl
theorem mlL_134 : Cond.methodLink RL 134 yL_feed ∈ lwg := gq 723 (by decide +kernel) rfl
theorem mlL_137 : Cond.methodLink RL 137 yX10_feed ∈ lwg := gq 1398 (by decide +kernel) rfl
theorem mlL_138 : Cond.methodLink RL 138 yL_add ∈ lwg := gq 735 (by decide +kernel) rfl
theorem mlL_141 : Cond.methodLink RL 141 yX10_add ∈ lwg := gq 1402 (by decide +kernel) rfl
theorem mlL_142 : Cond.methodLink RL 142 yL_remove ∈ lwg := gq 808 (by decide +kernel) rfl
theorem mlL_144 : Cond.methodLink RL 144 yX10_remove ∈ lwg := gq 1435 (by decide +kernel) rfl
theorem mlL_145 : Cond.methodLink RL 145 yL_move ∈ lwg := gq 825 (by decide +kernel) rfl
theorem mlL_147 : Cond.methodLink RL 147 yX10_move ∈ lwg := gq 1447 (by decide +kernel) rfl
theorem mlL_148 : Cond.methodLink RL 148 yL_split ∈ lwg := gq 848 (by decide +kernel) rfl
theorem mlL_151 : Cond.methodLink RL 151 yX10_split ∈ lwg := gq 1459 (by decide +kernel) rfl
theorem mlL_152 : Cond.methodLink RL 152 yL_merge ∈ lwg := gq 882 (by decide +kernel) rfl
theorem mlL_154 : Cond.methodLink RL 154 yX10_merge ∈ lwg := gq 1466 (by decide +kernel) rfl
theorem mlL_155 : Cond.methodLink RL 155 yL_snap ∈ lwg := gq 909 (by decide +kernel) rfl
theorem mlL_157 : Cond.methodLink RL 157 yX10_snap ∈ lwg := gq 1482 (by decide +kernel) rfl
theorem mlL_158 : Cond.methodLink RL 158 yL_fit ∈ lwg := gq 932 (by decide +kernel) rfl
theorem mlL_160 : Cond.methodLink RL 160 yX10_fit ∈ lwg := gq 1497 (by decide +kernel) rfl
theorem mlL_161 : Cond.methodLink RL 161 yL_retime ∈ lwg := gq 951 (by decide +kernel) rfl
theorem mlL_164 : Cond.methodLink RL 164 yX10_retime ∈ lwg := gq 1508 (by decide +kernel) rfl
theorem mlL_165 : Cond.methodLink RL 165 yL_caption ∈ lwg := gq 1004 (by decide +kernel) rfl
theorem mlL_167 : Cond.methodLink RL 167 yX10_caption ∈ lwg := gq 1550 (by decide +kernel) rfl
theorem mlL_168 : Cond.methodLink RL 168 yL_letter ∈ lwg := gq 1029 (by decide +kernel) rfl
theorem mlL_170 : Cond.methodLink RL 170 yX10_letter ∈ lwg := gq 1558 (by decide +kernel) rfl
theorem mlL_171 : Cond.methodLink RL 171 yL_shown ∈ lwg := gq 1053 (by decide +kernel) rfl
theorem mlL_173 : Cond.methodLink RL 173 yX10_shown ∈ lwg := gq 1562 (by decide +kernel) rfl
theorem mlL_174 : Cond.methodLink RL 174 yL_track ∈ lwg := gq 1065 (by decide +kernel) rfl
theorem mlL_176 : Cond.methodLink RL 176 yX10_track ∈ lwg := gq 1566 (by decide +kernel) rfl
theorem mlL_177 : Cond.methodLink RL 177 yL_fastest ∈ lwg := gq 1092 (by decide +kernel) rfl
theorem mlL_179 : Cond.methodLink RL 179 yX10_fastest ∈ lwg := gq 1586 (by decide +kernel) rfl
theorem mlL_180 : Cond.methodLink RL 180 yL_speed ∈ lwg := gq 1104 (by decide +kernel) rfl
theorem mlL_183 : Cond.methodLink RL 183 yX10_speed ∈ lwg := gq 1590 (by decide +kernel) rfl
theorem mlL_184 : Cond.methodLink RL 184 yL_read ∈ lwg := gq 1128 (by decide +kernel) rfl
theorem mlL_187 : Cond.methodLink RL 187 yX10_read ∈ lwg := gq 1595 (by decide +kernel) rfl
theorem mlL_188 : Cond.methodLink RL 188 yL_faultPosition ∈ lwg := gq 1227 (by decide +kernel) rfl
theorem mlL_190 : Cond.methodLink RL 190 yX10_faultPosition ∈ lwg := gq 1627 (by decide +kernel) rfl
theorem mlL_191 : Cond.methodLink RL 191 yL_refusal ∈ lwg := gq 1235 (by decide +kernel) rfl
theorem mlL_194 : Cond.methodLink RL 194 yX10_refusal ∈ lwg := gq 1631 (by decide +kernel) rfl
theorem mlL_195 : Cond.methodLink RL 195 yL_undo ∈ lwg := gq 1243 (by decide +kernel) rfl
theorem mlL_197 : Cond.methodLink RL 197 yX10_undo ∈ lwg := gq 1330 (by decide +kernel) rfl
theorem mlL_198 : Cond.methodLink RL 198 yX9_saveSnapshot ∈ lwg := gq 320 (by decide +kernel) rfl
theorem mlL_201 : Cond.methodLink RL 201 yX10_saveSnapshot ∈ lwg := gq 1337 (by decide +kernel) rfl
theorem mlL_202 : Cond.methodLink RL 202 yL_restoreSnapshot ∈ lwg := gq 1256 (by decide +kernel) rfl
theorem mlL_204 : Cond.methodLink RL 204 yX10_restoreSnapshot ∈ lwg := gq 1341 (by decide +kernel) rfl
theorem mlX10_1 : Cond.methodLink RX10 1 objectInit ∈ lwg := gq 1273 (by decide +kernel) rfl
theorem mlX10_44 : Cond.methodLink RX10 44 yX10_fails ∈ lwg := gq 1363 (by decide +kernel) rfl
theorem mlX10_48 : Cond.methodLink RX10 48 yX10_in ∈ lwg := gq 1349 (by decide +kernel) rfl
theorem mlX10_52 : Cond.methodLink RX10 52 yX10_isTrack ∈ lwg := gq 1406 (by decide +kernel) rfl
theorem mlX10_56 : Cond.methodLink RX10 56 yX10_at ∈ lwg := gq 1356 (by decide +kernel) rfl
theorem mlX10_63 : Cond.methodLink RX10 63 yX10_copies ∈ lwg := gq 1334 (by decide +kernel) rfl
theorem mlX10_71 : Cond.methodLink RX10 71 yX10_end ∈ lwg := gq 1352 (by decide +kernel) rfl
theorem mlX10_75 : Cond.methodLink RX10 75 yX10_refuses ∈ lwg := gq 1359 (by decide +kernel) rfl
theorem mlX10_78 : Cond.methodLink RX10 78 yX10_changes ∈ lwg := gq 1367 (by decide +kernel) rfl
theorem mlX10_82 : Cond.methodLink RX10 82 yX10_maySet ∈ lwg := gq 1375 (by decide +kernel) rfl
theorem mlX10_86 : Cond.methodLink RX10 86 yX10_isCut ∈ lwg := gq 1386 (by decide +kernel) rfl
theorem mlX10_89 : Cond.methodLink RX10 89 yX10_againstCut ∈ lwg := gq 1382 (by decide +kernel) rfl
theorem mlX10_93 : Cond.methodLink RX10 93 yX10_cuts ∈ lwg := gq 1390 (by decide +kernel) rfl
theorem mlX10_97 : Cond.methodLink RX10 97 yX10_far ∈ lwg := gq 1494 (by decide +kernel) rfl
theorem mlX10_100 : Cond.methodLink RX10 100 yX10_isLetter ∈ lwg := gq 1424 (by decide +kernel) rfl
theorem mlX10_103 : Cond.methodLink RX10 103 yX10_bars ∈ lwg := gq 1463 (by decide +kernel) rfl
theorem mlX10_107 : Cond.methodLink RX10 107 yX10_load ∈ lwg := gq 1478 (by decide +kernel) rfl
theorem mlX10_110 : Cond.methodLink RX10 110 yX10_up ∈ lwg := gq 1505 (by decide +kernel) rfl
theorem mlX10_113 : Cond.methodLink RX10 113 yX10_first ∈ lwg := gq 1417 (by decide +kernel) rfl
theorem mlX10_116 : Cond.methodLink RX10 116 yX10_shared ∈ lwg := gq 1526 (by decide +kernel) rfl
theorem mlX10_119 : Cond.methodLink RX10 119 yX10_partner ∈ lwg := gq 1546 (by decide +kernel) rfl
theorem mlX10_122 : Cond.methodLink RX10 122 yX10_needs ∈ lwg := gq 1501 (by decide +kernel) rfl
theorem mlX10_125 : Cond.methodLink RX10 125 yX10_isLoose ∈ lwg := gq 1486 (by decide +kernel) rfl
theorem mlX10_128 : Cond.methodLink RX10 128 yX10_before ∈ lwg := gq 1474 (by decide +kernel) rfl
theorem mlX10_131 : Cond.methodLink RX10 131 yX10_longest ∈ lwg := gq 1538 (by decide +kernel) rfl
theorem mlX10_134 : Cond.methodLink RX10 134 yX10_isInStep ∈ lwg := gq 1542 (by decide +kernel) rfl
theorem mlX10_140 : Cond.methodLink RX10 140 yX10_againstPlace ∈ lwg := gq 1413 (by decide +kernel) rfl
theorem mlX10_144 : Cond.methodLink RX10 144 yX10_isText ∈ lwg := gq 1421 (by decide +kernel) rfl
theorem mlX10_148 : Cond.methodLink RX10 148 yX10_puts ∈ lwg := gq 1431 (by decide +kernel) rfl
theorem mlX10_151 : Cond.methodLink RX10 151 yX10_againstAdd ∈ lwg := gq 1409 (by decide +kernel) rfl
theorem mlX10_155 : Cond.methodLink RX10 155 yX10_adds ∈ lwg := gq 1427 (by decide +kernel) rfl
theorem mlX10_159 : Cond.methodLink RX10 159 yX10_isCaption ∈ lwg := gq 1439 (by decide +kernel) rfl
theorem mlX10_162 : Cond.methodLink RX10 162 yX10_takes ∈ lwg := gq 1443 (by decide +kernel) rfl
theorem mlX10_166 : Cond.methodLink RX10 166 yX10_owns ∈ lwg := gq 1455 (by decide +kernel) rfl
theorem mlX10_169 : Cond.methodLink RX10 169 yX10_moves ∈ lwg := gq 1451 (by decide +kernel) rfl
theorem mlX10_172 : Cond.methodLink RX10 172 yX10_againstMerge ∈ lwg := gq 1470 (by decide +kernel) rfl
theorem mlX10_175 : Cond.methodLink RX10 175 yX10_nearest ∈ lwg := gq 1490 (by decide +kernel) rfl
theorem mlX10_178 : Cond.methodLink RX10 178 yX10_floor ∈ lwg := gq 1515 (by decide +kernel) rfl
theorem mlX10_181 : Cond.methodLink RX10 181 yX10_retimed ∈ lwg := gq 1512 (by decide +kernel) rfl
theorem mlX10_184 : Cond.methodLink RX10 184 yX10_problems ∈ lwg := gq 1534 (by decide +kernel) rfl
theorem mlX10_187 : Cond.methodLink RX10 187 yX10_both ∈ lwg := gq 1522 (by decide +kernel) rfl
theorem mlX10_191 : Cond.methodLink RX10 191 yX10_with ∈ lwg := gq 1530 (by decide +kernel) rfl
theorem mlX10_194 : Cond.methodLink RX10 194 yX10_cutsWithin ∈ lwg := gq 1554 (by decide +kernel) rfl
theorem mlX10_197 : Cond.methodLink RX10 197 yX10_frames ∈ lwg := gq 1570 (by decide +kernel) rfl
theorem mlX10_200 : Cond.methodLink RX10 200 yX10_loads ∈ lwg := gq 1574 (by decide +kernel) rfl
theorem mlX10_203 : Cond.methodLink RX10 203 yX10_overCuts ∈ lwg := gq 1578 (by decide +kernel) rfl
theorem mlX10_206 : Cond.methodLink RX10 206 yX10_merging ∈ lwg := gq 1582 (by decide +kernel) rfl
theorem mlX10_214 : Cond.methodLink RX10 214 yX10_here ∈ lwg := gq 1607 (by decide +kernel) rfl
theorem mlX10_223 : Cond.methodLink RX10 223 yX10_digits ∈ lwg := gq 1611 (by decide +kernel) rfl
theorem mlX10_226 : Cond.methodLink RX10 226 yX10_skips ∈ lwg := gq 1615 (by decide +kernel) rfl
theorem mlX10_229 : Cond.methodLink RX10 229 yX10_words ∈ lwg := gq 1619 (by decide +kernel) rfl
theorem mlX10_232 : Cond.methodLink RX10 232 yX10_item ∈ lwg := gq 1603 (by decide +kernel) rfl
theorem mlX10_236 : Cond.methodLink RX10 236 yX10_isItems ∈ lwg := gq 1599 (by decide +kernel) rfl
theorem mlX10_239 : Cond.methodLink RX10 239 yX10_does ∈ lwg := gq 1623 (by decide +kernel) rfl
theorem mnX0_32 : Cond.methodLinkNest RX0 32 yX9_distance RX9 ∈ gBad := gb 620 (by decide +kernel) rfl
theorem mnX2_40 : Cond.methodLinkNest RX2 40 yX9_dividedUp RX9 ∈ gBad := gb 608 (by decide +kernel) rfl
theorem mnX2_64 : Cond.methodLinkNest RX2 64 yX9_distance RX9 ∈ gBad := gb 647 (by decide +kernel) rfl
theorem mnX3_55 : Cond.methodLinkNest RX3 55 yX9_isSetting RX9 ∈ gBad := gb 453 (by decide +kernel) rfl
theorem mnX3_66 : Cond.methodLinkNest RX3 66 yX9_distance RX9 ∈ gBad := gb 626 (by decide +kernel) rfl
theorem mnX5_85 : Cond.methodLinkNest RX5 85 yX9_isWordSign RX9 ∈ gBad := gb 1114 (by decide +kernel) rfl
theorem mnX7_27 : Cond.methodLinkNest RX7 27 yX9_isWordSign RX9 ∈ gBad := gb 725 (by decide +kernel) rfl
theorem csJ9_floorDiv_7cf53 : gCS yJ9_floorDiv_7cf53 cJ9_floorDiv_7cf53 3 (some .int) 2 := ⟨⟨by decide +kernel, by decide +kernel, by decide +kernel⟩, gq 998 (by decide +kernel) rfl, gq 77 (by decide +kernel) rfl, gq 997 (by decide +kernel) rfl⟩
theorem cvX0_at : gCV yX0_at cX0_at 2 (some .int) 1 := ⟨⟨by decide +kernel, by decide +kernel, by decide +kernel⟩, gq 442 (by decide +kernel) rfl, gq 64 (by decide +kernel) rfl, gq 440 (by decide +kernel) rfl, gq 441 (by decide +kernel) rfl⟩
theorem cvX0_copyFrom : gCV yX0_copyFrom cX0_copyFrom 2 none 1 := ⟨⟨by decide +kernel, by decide +kernel, by decide +kernel⟩, gq 331 (by decide +kernel) rfl, gq 64 (by decide +kernel) rfl, gq 329 (by decide +kernel) rfl, gq 330 (by decide +kernel) rfl⟩
theorem cvX0_firstFrom : gCV yX0_firstFrom cX0_firstFrom 2 (some .int) 1 := ⟨⟨by decide +kernel, by decide +kernel, by decide +kernel⟩, gq 950 (by decide +kernel) rfl, gq 64 (by decide +kernel) rfl, gq 948 (by decide +kernel) rfl, gq 949 (by decide +kernel) rfl⟩
theorem cvX0_holds : gCV yX0_holds cX0_holds 2 (some .boolean) 1 := ⟨⟨by decide +kernel, by decide +kernel, by decide +kernel⟩, gq 570 (by decide +kernel) rfl, gq 64 (by decide +kernel) rfl, gq 568 (by decide +kernel) rfl, gq 569 (by decide +kernel) rfl⟩
theorem cvX0_lacksRoomFor : gCV yX0_lacksRoomFor cX0_lacksRoomFor 2 (some .boolean) 1 := ⟨⟨by decide +kernel, by decide +kernel, by decide +kernel⟩, gq 566 (by decide +kernel) rfl, gq 64 (by decide +kernel) rfl, gq 564 (by decide +kernel) rfl, gq 565 (by decide +kernel) rfl⟩
theorem cvX0_make : gCV yX0_make cX0_make 3 none 1 := ⟨⟨by decide +kernel, by decide +kernel, by decide +kernel⟩, gq 594 (by decide +kernel) rfl, gq 64 (by decide +kernel) rfl, gq 592 (by decide +kernel) rfl, gq 593 (by decide +kernel) rfl⟩
theorem cvX0_nearest : gCV yX0_nearest cX0_nearest 4 (some .int) 1 := ⟨⟨by decide +kernel, by decide +kernel, by decide +kernel⟩, gq 678 (by decide +kernel) rfl, gq 64 (by decide +kernel) rfl, gq 676 (by decide +kernel) rfl, gq 677 (by decide +kernel) rfl⟩
theorem cvX0_takeAway : gCV yX0_takeAway cX0_takeAway 3 none 1 := ⟨⟨by decide +kernel, by decide +kernel, by decide +kernel⟩, gq 598 (by decide +kernel) rfl, gq 64 (by decide +kernel) rfl, gq 596 (by decide +kernel) rfl, gq 597 (by decide +kernel) rfl⟩
theorem cvX0_upTo : gCV yX0_upTo cX0_upTo 4 (some .int) 1 := ⟨⟨by decide +kernel, by decide +kernel, by decide +kernel⟩, gq 574 (by decide +kernel) rfl, gq 64 (by decide +kernel) rfl, gq 572 (by decide +kernel) rfl, gq 573 (by decide +kernel) rfl⟩
theorem cvX10_add : gCV yX10_add cX10_add 7 (some .int) 4 := ⟨⟨by decide +kernel, by decide +kernel, by decide +kernel⟩, gq 1405 (by decide +kernel) rfl, gq 71 (by decide +kernel) rfl, gq 1403 (by decide +kernel) rfl, gq 1404 (by decide +kernel) rfl⟩
theorem cvX10_adds : gCV yX10_adds cX10_adds 8 (some .int) 6 := ⟨⟨by decide +kernel, by decide +kernel, by decide +kernel⟩, gq 1430 (by decide +kernel) rfl, gq 71 (by decide +kernel) rfl, gq 1429 (by decide +kernel) rfl, gq 29 (by decide +kernel) rfl⟩
theorem cvX10_againstAdd : gCV yX10_againstAdd cX10_againstAdd 7 (some .int) 5 := ⟨⟨by decide +kernel, by decide +kernel, by decide +kernel⟩, gq 1412 (by decide +kernel) rfl, gq 71 (by decide +kernel) rfl, gq 1411 (by decide +kernel) rfl, gq 26 (by decide +kernel) rfl⟩
theorem cvX10_againstCut : gCV yX10_againstCut cX10_againstCut 3 (some .int) 2 := ⟨⟨by decide +kernel, by decide +kernel, by decide +kernel⟩, gq 1385 (by decide +kernel) rfl, gq 71 (by decide +kernel) rfl, gq 1384 (by decide +kernel) rfl, gq 23 (by decide +kernel) rfl⟩
theorem cvX10_againstMerge : gCV yX10_againstMerge cX10_againstMerge 5 (some .int) 2 := ⟨⟨by decide +kernel, by decide +kernel, by decide +kernel⟩, gq 1473 (by decide +kernel) rfl, gq 71 (by decide +kernel) rfl, gq 1472 (by decide +kernel) rfl, gq 35 (by decide +kernel) rfl⟩
theorem cvX10_againstPlace : gCV yX10_againstPlace cX10_againstPlace 6 (some .int) 4 := ⟨⟨by decide +kernel, by decide +kernel, by decide +kernel⟩, gq 1416 (by decide +kernel) rfl, gq 71 (by decide +kernel) rfl, gq 1415 (by decide +kernel) rfl, gq 27 (by decide +kernel) rfl⟩
theorem csX10_at : gCS yX10_at cX10_at 3 (some .int) 3 := ⟨⟨by decide +kernel, by decide +kernel, by decide +kernel⟩, gq 1358 (by decide +kernel) rfl, gq 71 (by decide +kernel) rfl, gq 1357 (by decide +kernel) rfl⟩
theorem csX10_bars : gCS yX10_bars cX10_bars 5 (some .int) 3 := ⟨⟨by decide +kernel, by decide +kernel, by decide +kernel⟩, gq 1465 (by decide +kernel) rfl, gq 71 (by decide +kernel) rfl, gq 1464 (by decide +kernel) rfl⟩
theorem cvX10_before : gCV yX10_before cX10_before 3 (some .int) 2 := ⟨⟨by decide +kernel, by decide +kernel, by decide +kernel⟩, gq 1477 (by decide +kernel) rfl, gq 71 (by decide +kernel) rfl, gq 1476 (by decide +kernel) rfl, gq 36 (by decide +kernel) rfl⟩
theorem cvX10_both : gCV yX10_both cX10_both 4 (some .int) 0 := ⟨⟨by decide +kernel, by decide +kernel, by decide +kernel⟩, gq 1525 (by decide +kernel) rfl, gq 71 (by decide +kernel) rfl, gq 1524 (by decide +kernel) rfl, gq 41 (by decide +kernel) rfl⟩
theorem cvX10_caption : gCV yX10_caption cX10_caption 4 (some .int) 3 := ⟨⟨by decide +kernel, by decide +kernel, by decide +kernel⟩, gq 1553 (by decide +kernel) rfl, gq 71 (by decide +kernel) rfl, gq 1551 (by decide +kernel) rfl, gq 1552 (by decide +kernel) rfl⟩
theorem cvX10_changes : gCV yX10_changes cX10_changes 3 none 1 := ⟨⟨by decide +kernel, by decide +kernel, by decide +kernel⟩, gq 1370 (by decide +kernel) rfl, gq 71 (by decide +kernel) rfl, gq 1369 (by decide +kernel) rfl, gq 22 (by decide +kernel) rfl⟩
theorem csX10_copies : gCS yX10_copies cX10_copies 5 none 4 := ⟨⟨by decide +kernel, by decide +kernel, by decide +kernel⟩, gq 1336 (by decide +kernel) rfl, gq 71 (by decide +kernel) rfl, gq 1335 (by decide +kernel) rfl⟩
theorem cvX10_cut : gCV yX10_cut cX10_cut 4 (some .int) 2 := ⟨⟨by decide +kernel, by decide +kernel, by decide +kernel⟩, gq 1381 (by decide +kernel) rfl, gq 71 (by decide +kernel) rfl, gq 1379 (by decide +kernel) rfl, gq 1380 (by decide +kernel) rfl⟩
theorem cvX10_cuts : gCV yX10_cuts cX10_cuts 4 none 2 := ⟨⟨by decide +kernel, by decide +kernel, by decide +kernel⟩, gq 1393 (by decide +kernel) rfl, gq 71 (by decide +kernel) rfl, gq 1392 (by decide +kernel) rfl, gq 25 (by decide +kernel) rfl⟩
theorem cvX10_cutsWithin : gCV yX10_cutsWithin cX10_cutsWithin 5 (some .int) 2 := ⟨⟨by decide +kernel, by decide +kernel, by decide +kernel⟩, gq 1557 (by decide +kernel) rfl, gq 71 (by decide +kernel) rfl, gq 1556 (by decide +kernel) rfl, gq 48 (by decide +kernel) rfl⟩
theorem cvX10_digits : gCV yX10_digits cX10_digits 3 (some .boolean) 1 := ⟨⟨by decide +kernel, by decide +kernel, by decide +kernel⟩, gq 1614 (by decide +kernel) rfl, gq 71 (by decide +kernel) rfl, gq 1613 (by decide +kernel) rfl, gq 56 (by decide +kernel) rfl⟩
theorem cvX10_does : gCV yX10_does cX10_does 5 (some .int) 1 := ⟨⟨by decide +kernel, by decide +kernel, by decide +kernel⟩, gq 1626 (by decide +kernel) rfl, gq 71 (by decide +kernel) rfl, gq 1625 (by decide +kernel) rfl, gq 59 (by decide +kernel) rfl⟩
theorem cvX10_end : gCV yX10_end cX10_end 3 (some .int) 2 := ⟨⟨by decide +kernel, by decide +kernel, by decide +kernel⟩, gq 1355 (by decide +kernel) rfl, gq 71 (by decide +kernel) rfl, gq 1354 (by decide +kernel) rfl, gq 19 (by decide +kernel) rfl⟩
theorem cvX10_fails : gCV yX10_fails cX10_fails 2 (some .int) 1 := ⟨⟨by decide +kernel, by decide +kernel, by decide +kernel⟩, gq 1366 (by decide +kernel) rfl, gq 71 (by decide +kernel) rfl, gq 1365 (by decide +kernel) rfl, gq 21 (by decide +kernel) rfl⟩
theorem csX10_far : gCS yX10_far cX10_far 2 (some .int) 2 := ⟨⟨by decide +kernel, by decide +kernel, by decide +kernel⟩, gq 1496 (by decide +kernel) rfl, gq 71 (by decide +kernel) rfl, gq 1495 (by decide +kernel) rfl⟩
theorem cvX10_fastest : gCV yX10_fastest cX10_fastest 4 (some .int) 1 := ⟨⟨by decide +kernel, by decide +kernel, by decide +kernel⟩, gq 1589 (by decide +kernel) rfl, gq 71 (by decide +kernel) rfl, gq 1587 (by decide +kernel) rfl, gq 1588 (by decide +kernel) rfl⟩
theorem cvX10_faultPosition : gCV yX10_faultPosition cX10_faultPosition 1 (some .int) 0 := ⟨⟨by decide +kernel, by decide +kernel, by decide +kernel⟩, gq 1630 (by decide +kernel) rfl, gq 71 (by decide +kernel) rfl, gq 1628 (by decide +kernel) rfl, gq 1629 (by decide +kernel) rfl⟩
theorem cvX10_feed : gCV yX10_feed cX10_feed 2 (some .int) 1 := ⟨⟨by decide +kernel, by decide +kernel, by decide +kernel⟩, gq 1401 (by decide +kernel) rfl, gq 71 (by decide +kernel) rfl, gq 1399 (by decide +kernel) rfl, gq 1400 (by decide +kernel) rfl⟩
theorem cvX10_film : gCV yX10_film cX10_film 4 (some .int) 1 := ⟨⟨by decide +kernel, by decide +kernel, by decide +kernel⟩, gq 1348 (by decide +kernel) rfl, gq 71 (by decide +kernel) rfl, gq 1346 (by decide +kernel) rfl, gq 1347 (by decide +kernel) rfl⟩
theorem cvX10_first : gCV yX10_first cX10_first 3 (some .int) 2 := ⟨⟨by decide +kernel, by decide +kernel, by decide +kernel⟩, gq 1420 (by decide +kernel) rfl, gq 71 (by decide +kernel) rfl, gq 1419 (by decide +kernel) rfl, gq 28 (by decide +kernel) rfl⟩
theorem cvX10_fit : gCV yX10_fit cX10_fit 5 (some .int) 2 := ⟨⟨by decide +kernel, by decide +kernel, by decide +kernel⟩, gq 1500 (by decide +kernel) rfl, gq 71 (by decide +kernel) rfl, gq 1498 (by decide +kernel) rfl, gq 1499 (by decide +kernel) rfl⟩
theorem csX10_floor : gCS yX10_floor cX10_floor 2 (some .int) 2 := ⟨⟨by decide +kernel, by decide +kernel, by decide +kernel⟩, gq 1517 (by decide +kernel) rfl, gq 71 (by decide +kernel) rfl, gq 1516 (by decide +kernel) rfl⟩
theorem cvX10_frames : gCV yX10_frames cX10_frames 4 (some .int) 1 := ⟨⟨by decide +kernel, by decide +kernel, by decide +kernel⟩, gq 1573 (by decide +kernel) rfl, gq 71 (by decide +kernel) rfl, gq 1572 (by decide +kernel) rfl, gq 49 (by decide +kernel) rfl⟩
theorem cvX10_here : gCV yX10_here cX10_here 1 (some .int) 0 := ⟨⟨by decide +kernel, by decide +kernel, by decide +kernel⟩, gq 1610 (by decide +kernel) rfl, gq 71 (by decide +kernel) rfl, gq 1609 (by decide +kernel) rfl, gq 55 (by decide +kernel) rfl⟩
theorem csX10_in : gCS yX10_in cX10_in 3 (some .boolean) 3 := ⟨⟨by decide +kernel, by decide +kernel, by decide +kernel⟩, gq 1351 (by decide +kernel) rfl, gq 71 (by decide +kernel) rfl, gq 1350 (by decide +kernel) rfl⟩
theorem cvX10_isCaption : gCV yX10_isCaption cX10_isCaption 3 (some .boolean) 2 := ⟨⟨by decide +kernel, by decide +kernel, by decide +kernel⟩, gq 1442 (by decide +kernel) rfl, gq 71 (by decide +kernel) rfl, gq 1441 (by decide +kernel) rfl, gq 31 (by decide +kernel) rfl⟩
theorem cvX10_isCut : gCV yX10_isCut cX10_isCut 3 (some .boolean) 1 := ⟨⟨by decide +kernel, by decide +kernel, by decide +kernel⟩, gq 1389 (by decide +kernel) rfl, gq 71 (by decide +kernel) rfl, gq 1388 (by decide +kernel) rfl, gq 24 (by decide +kernel) rfl⟩
theorem cvX10_isInStep : gCV yX10_isInStep cX10_isInStep 4 (some .boolean) 2 := ⟨⟨by decide +kernel, by decide +kernel, by decide +kernel⟩, gq 1545 (by decide +kernel) rfl, gq 71 (by decide +kernel) rfl, gq 1544 (by decide +kernel) rfl, gq 46 (by decide +kernel) rfl⟩
theorem cvX10_isItems : gCV yX10_isItems cX10_isItems 1 (some .boolean) 0 := ⟨⟨by decide +kernel, by decide +kernel, by decide +kernel⟩, gq 1602 (by decide +kernel) rfl, gq 71 (by decide +kernel) rfl, gq 1601 (by decide +kernel) rfl, gq 53 (by decide +kernel) rfl⟩
theorem csX10_isLetter : gCS yX10_isLetter cX10_isLetter 1 (some .boolean) 1 := ⟨⟨by decide +kernel, by decide +kernel, by decide +kernel⟩, gq 1426 (by decide +kernel) rfl, gq 71 (by decide +kernel) rfl, gq 1425 (by decide +kernel) rfl⟩
theorem cvX10_isLoose : gCV yX10_isLoose cX10_isLoose 4 (some .boolean) 1 := ⟨⟨by decide +kernel, by decide +kernel, by decide +kernel⟩, gq 1489 (by decide +kernel) rfl, gq 71 (by decide +kernel) rfl, gq 1488 (by decide +kernel) rfl, gq 38 (by decide +kernel) rfl⟩
theorem csX10_isText : gCS yX10_isText cX10_isText 5 (some .boolean) 3 := ⟨⟨by decide +kernel, by decide +kernel, by decide +kernel⟩, gq 1423 (by decide +kernel) rfl, gq 71 (by decide +kernel) rfl, gq 1422 (by decide +kernel) rfl⟩
theorem csX10_isTrack : gCS yX10_isTrack cX10_isTrack 1 (some .boolean) 1 := ⟨⟨by decide +kernel, by decide +kernel, by decide +kernel⟩, gq 1408 (by decide +kernel) rfl, gq 71 (by decide +kernel) rfl, gq 1407 (by decide +kernel) rfl⟩
theorem cvX10_item : gCV yX10_item cX10_item 4 (some .boolean) 0 := ⟨⟨by decide +kernel, by decide +kernel, by decide +kernel⟩, gq 1606 (by decide +kernel) rfl, gq 71 (by decide +kernel) rfl, gq 1605 (by decide +kernel) rfl, gq 54 (by decide +kernel) rfl⟩
theorem cvX10_letter : gCV yX10_letter cX10_letter 4 (some .char) 3 := ⟨⟨by decide +kernel, by decide +kernel, by decide +kernel⟩, gq 1561 (by decide +kernel) rfl, gq 71 (by decide +kernel) rfl, gq 1559 (by decide +kernel) rfl, gq 1560 (by decide +kernel) rfl⟩
theorem cvX10_load : gCV yX10_load cX10_load 3 (some .int) 2 := ⟨⟨by decide +kernel, by decide +kernel, by decide +kernel⟩, gq 1481 (by decide +kernel) rfl, gq 71 (by decide +kernel) rfl, gq 1480 (by decide +kernel) rfl, gq 37 (by decide +kernel) rfl⟩
theorem cvX10_loads : gCV yX10_loads cX10_loads 4 (some .int) 1 := ⟨⟨by decide +kernel, by decide +kernel, by decide +kernel⟩, gq 1577 (by decide +kernel) rfl, gq 71 (by decide +kernel) rfl, gq 1576 (by decide +kernel) rfl, gq 50 (by decide +kernel) rfl⟩
theorem cvX10_longest : gCV yX10_longest cX10_longest 5 (some .int) 2 := ⟨⟨by decide +kernel, by decide +kernel, by decide +kernel⟩, gq 1541 (by decide +kernel) rfl, gq 71 (by decide +kernel) rfl, gq 1540 (by decide +kernel) rfl, gq 45 (by decide +kernel) rfl⟩
theorem csX10_maySet : gCS yX10_maySet cX10_maySet 2 (some .boolean) 2 := ⟨⟨by decide +kernel, by decide +kernel, by decide +kernel⟩, gq 1377 (by decide +kernel) rfl, gq 71 (by decide +kernel) rfl, gq 1376 (by decide +kernel) rfl⟩
theorem cvX10_merge : gCV yX10_merge cX10_merge 7 (some .int) 2 := ⟨⟨by decide +kernel, by decide +kernel, by decide +kernel⟩, gq 1469 (by decide +kernel) rfl, gq 71 (by decide +kernel) rfl, gq 1467 (by decide +kernel) rfl, gq 1468 (by decide +kernel) rfl⟩
theorem cvX10_merging : gCV yX10_merging cX10_merging 4 (some .int) 1 := ⟨⟨by decide +kernel, by decide +kernel, by decide +kernel⟩, gq 1585 (by decide +kernel) rfl, gq 71 (by decide +kernel) rfl, gq 1584 (by decide +kernel) rfl, gq 52 (by decide +kernel) rfl⟩
theorem cvX10_move : gCV yX10_move cX10_move 6 (some .int) 4 := ⟨⟨by decide +kernel, by decide +kernel, by decide +kernel⟩, gq 1450 (by decide +kernel) rfl, gq 71 (by decide +kernel) rfl, gq 1448 (by decide +kernel) rfl, gq 1449 (by decide +kernel) rfl⟩
theorem cvX10_moves : gCV yX10_moves cX10_moves 5 (some .int) 4 := ⟨⟨by decide +kernel, by decide +kernel, by decide +kernel⟩, gq 1454 (by decide +kernel) rfl, gq 71 (by decide +kernel) rfl, gq 1453 (by decide +kernel) rfl, gq 33 (by decide +kernel) rfl⟩
theorem cvX10_nearest : gCV yX10_nearest cX10_nearest 4 (some .int) 1 := ⟨⟨by decide +kernel, by decide +kernel, by decide +kernel⟩, gq 1493 (by decide +kernel) rfl, gq 71 (by decide +kernel) rfl, gq 1492 (by decide +kernel) rfl, gq 39 (by decide +kernel) rfl⟩
theorem cvX10_needs : gCV yX10_needs cX10_needs 5 (some .int) 2 := ⟨⟨by decide +kernel, by decide +kernel, by decide +kernel⟩, gq 1504 (by decide +kernel) rfl, gq 71 (by decide +kernel) rfl, gq 1503 (by decide +kernel) rfl, gq 40 (by decide +kernel) rfl⟩
theorem cvX10_number : gCV yX10_number cX10_number 2 (some .int) 1 := ⟨⟨by decide +kernel, by decide +kernel, by decide +kernel⟩, gq 1521 (by decide +kernel) rfl, gq 71 (by decide +kernel) rfl, gq 1519 (by decide +kernel) rfl, gq 1520 (by decide +kernel) rfl⟩
theorem cvX10_overCuts : gCV yX10_overCuts cX10_overCuts 4 (some .int) 1 := ⟨⟨by decide +kernel, by decide +kernel, by decide +kernel⟩, gq 1581 (by decide +kernel) rfl, gq 71 (by decide +kernel) rfl, gq 1580 (by decide +kernel) rfl, gq 51 (by decide +kernel) rfl⟩
theorem cvX10_owns : gCV yX10_owns cX10_owns 4 none 2 := ⟨⟨by decide +kernel, by decide +kernel, by decide +kernel⟩, gq 1458 (by decide +kernel) rfl, gq 71 (by decide +kernel) rfl, gq 1457 (by decide +kernel) rfl, gq 34 (by decide +kernel) rfl⟩
theorem cvX10_partner : gCV yX10_partner cX10_partner 5 (some .int) 2 := ⟨⟨by decide +kernel, by decide +kernel, by decide +kernel⟩, gq 1549 (by decide +kernel) rfl, gq 71 (by decide +kernel) rfl, gq 1548 (by decide +kernel) rfl, gq 47 (by decide +kernel) rfl⟩
theorem cvX10_problems : gCV yX10_problems cX10_problems 4 (some .int) 2 := ⟨⟨by decide +kernel, by decide +kernel, by decide +kernel⟩, gq 1537 (by decide +kernel) rfl, gq 71 (by decide +kernel) rfl, gq 1536 (by decide +kernel) rfl, gq 44 (by decide +kernel) rfl⟩
theorem cvX10_puts : gCV yX10_puts cX10_puts 4 (some .int) 1 := ⟨⟨by decide +kernel, by decide +kernel, by decide +kernel⟩, gq 1434 (by decide +kernel) rfl, gq 71 (by decide +kernel) rfl, gq 1433 (by decide +kernel) rfl, gq 30 (by decide +kernel) rfl⟩
theorem cvX10_read : gCV yX10_read cX10_read 4 (some .int) 0 := ⟨⟨by decide +kernel, by decide +kernel, by decide +kernel⟩, gq 1598 (by decide +kernel) rfl, gq 71 (by decide +kernel) rfl, gq 1596 (by decide +kernel) rfl, gq 1597 (by decide +kernel) rfl⟩
theorem cvX10_refusal : gCV yX10_refusal cX10_refusal 2 (some .int) 1 := ⟨⟨by decide +kernel, by decide +kernel, by decide +kernel⟩, gq 1634 (by decide +kernel) rfl, gq 71 (by decide +kernel) rfl, gq 1632 (by decide +kernel) rfl, gq 1633 (by decide +kernel) rfl⟩
theorem cvX10_refuses : gCV yX10_refuses cX10_refuses 3 (some .int) 2 := ⟨⟨by decide +kernel, by decide +kernel, by decide +kernel⟩, gq 1362 (by decide +kernel) rfl, gq 71 (by decide +kernel) rfl, gq 1361 (by decide +kernel) rfl, gq 20 (by decide +kernel) rfl⟩
theorem cvX10_remove : gCV yX10_remove cX10_remove 3 (some .int) 2 := ⟨⟨by decide +kernel, by decide +kernel, by decide +kernel⟩, gq 1438 (by decide +kernel) rfl, gq 71 (by decide +kernel) rfl, gq 1436 (by decide +kernel) rfl, gq 1437 (by decide +kernel) rfl⟩
theorem cvX10_restoreSnapshot : gCV yX10_restoreSnapshot cX10_restoreSnapshot 1 (some .int) 0 := ⟨⟨by decide +kernel, by decide +kernel, by decide +kernel⟩, gq 1344 (by decide +kernel) rfl, gq 71 (by decide +kernel) rfl, gq 1342 (by decide +kernel) rfl, gq 1343 (by decide +kernel) rfl⟩
theorem cvX10_retime : gCV yX10_retime cX10_retime 12 (some .int) 5 := ⟨⟨by decide +kernel, by decide +kernel, by decide +kernel⟩, gq 1511 (by decide +kernel) rfl, gq 71 (by decide +kernel) rfl, gq 1509 (by decide +kernel) rfl, gq 1510 (by decide +kernel) rfl⟩
theorem csX10_retimed : gCS yX10_retimed cX10_retimed 7 (some .int) 5 := ⟨⟨by decide +kernel, by decide +kernel, by decide +kernel⟩, gq 1514 (by decide +kernel) rfl, gq 71 (by decide +kernel) rfl, gq 1513 (by decide +kernel) rfl⟩
theorem cvX10_saveSnapshot : gCV yX10_saveSnapshot cX10_saveSnapshot 1 (some .int) 0 := ⟨⟨by decide +kernel, by decide +kernel, by decide +kernel⟩, gq 1340 (by decide +kernel) rfl, gq 71 (by decide +kernel) rfl, gq 1338 (by decide +kernel) rfl, gq 1339 (by decide +kernel) rfl⟩
theorem cvX10_set : gCV yX10_set cX10_set 4 (some .int) 2 := ⟨⟨by decide +kernel, by decide +kernel, by decide +kernel⟩, gq 1374 (by decide +kernel) rfl, gq 71 (by decide +kernel) rfl, gq 1372 (by decide +kernel) rfl, gq 1373 (by decide +kernel) rfl⟩
theorem cvX10_shared : gCV yX10_shared cX10_shared 6 (some .int) 3 := ⟨⟨by decide +kernel, by decide +kernel, by decide +kernel⟩, gq 1529 (by decide +kernel) rfl, gq 71 (by decide +kernel) rfl, gq 1528 (by decide +kernel) rfl, gq 42 (by decide +kernel) rfl⟩
theorem cvX10_shot : gCV yX10_shot cX10_shot 4 (some .int) 1 := ⟨⟨by decide +kernel, by decide +kernel, by decide +kernel⟩, gq 1397 (by decide +kernel) rfl, gq 71 (by decide +kernel) rfl, gq 1395 (by decide +kernel) rfl, gq 1396 (by decide +kernel) rfl⟩
theorem cvX10_shown : gCV yX10_shown cX10_shown 4 (some .int) 2 := ⟨⟨by decide +kernel, by decide +kernel, by decide +kernel⟩, gq 1565 (by decide +kernel) rfl, gq 71 (by decide +kernel) rfl, gq 1563 (by decide +kernel) rfl, gq 1564 (by decide +kernel) rfl⟩
theorem cvX10_skips : gCV yX10_skips cX10_skips 3 (some .boolean) 1 := ⟨⟨by decide +kernel, by decide +kernel, by decide +kernel⟩, gq 1618 (by decide +kernel) rfl, gq 71 (by decide +kernel) rfl, gq 1617 (by decide +kernel) rfl, gq 57 (by decide +kernel) rfl⟩
theorem cvX10_snap : gCV yX10_snap cX10_snap 7 (some .int) 2 := ⟨⟨by decide +kernel, by decide +kernel, by decide +kernel⟩, gq 1485 (by decide +kernel) rfl, gq 71 (by decide +kernel) rfl, gq 1483 (by decide +kernel) rfl, gq 1484 (by decide +kernel) rfl⟩
theorem cvX10_speed : gCV yX10_speed cX10_speed 2 (some .double) 1 := ⟨⟨by decide +kernel, by decide +kernel, by decide +kernel⟩, gq 1593 (by decide +kernel) rfl, gq 71 (by decide +kernel) rfl, gq 1591 (by decide +kernel) rfl, gq 1592 (by decide +kernel) rfl⟩
theorem cvX10_split : gCV yX10_split cX10_split 12 (some .int) 3 := ⟨⟨by decide +kernel, by decide +kernel, by decide +kernel⟩, gq 1462 (by decide +kernel) rfl, gq 71 (by decide +kernel) rfl, gq 1460 (by decide +kernel) rfl, gq 1461 (by decide +kernel) rfl⟩
theorem cvX10_takes : gCV yX10_takes cX10_takes 5 none 2 := ⟨⟨by decide +kernel, by decide +kernel, by decide +kernel⟩, gq 1446 (by decide +kernel) rfl, gq 71 (by decide +kernel) rfl, gq 1445 (by decide +kernel) rfl, gq 32 (by decide +kernel) rfl⟩
theorem cvX10_thrown : gCV yX10_thrown cX10_thrown 1 (some .int) 0 := ⟨⟨by decide +kernel, by decide +kernel, by decide +kernel⟩, gq 1329 (by decide +kernel) rfl, gq 71 (by decide +kernel) rfl, gq 1327 (by decide +kernel) rfl, gq 1328 (by decide +kernel) rfl⟩
theorem cvX10_track : gCV yX10_track cX10_track 3 (some .int) 2 := ⟨⟨by decide +kernel, by decide +kernel, by decide +kernel⟩, gq 1569 (by decide +kernel) rfl, gq 71 (by decide +kernel) rfl, gq 1567 (by decide +kernel) rfl, gq 1568 (by decide +kernel) rfl⟩
theorem cvX10_undo : gCV yX10_undo cX10_undo 1 (some .int) 0 := ⟨⟨by decide +kernel, by decide +kernel, by decide +kernel⟩, gq 1333 (by decide +kernel) rfl, gq 71 (by decide +kernel) rfl, gq 1331 (by decide +kernel) rfl, gq 1332 (by decide +kernel) rfl⟩
theorem csX10_up : gCS yX10_up cX10_up 2 (some .int) 2 := ⟨⟨by decide +kernel, by decide +kernel, by decide +kernel⟩, gq 1507 (by decide +kernel) rfl, gq 71 (by decide +kernel) rfl, gq 1506 (by decide +kernel) rfl⟩
theorem cvX10_with : gCV yX10_with cX10_with 5 (some .int) 2 := ⟨⟨by decide +kernel, by decide +kernel, by decide +kernel⟩, gq 1533 (by decide +kernel) rfl, gq 71 (by decide +kernel) rfl, gq 1532 (by decide +kernel) rfl, gq 43 (by decide +kernel) rfl⟩
theorem cvX10_words : gCV yX10_words cX10_words 2 (some .boolean) 1 := ⟨⟨by decide +kernel, by decide +kernel, by decide +kernel⟩, gq 1622 (by decide +kernel) rfl, gq 71 (by decide +kernel) rfl, gq 1621 (by decide +kernel) rfl, gq 58 (by decide +kernel) rfl⟩
theorem cvX1_carryOutCut : gCV yX1_carryOutCut cX1_carryOutCut 3 (some .int) 2 := ⟨⟨by decide +kernel, by decide +kernel, by decide +kernel⟩, gq 1195 (by decide +kernel) rfl, gq 68 (by decide +kernel) rfl, gq 1193 (by decide +kernel) rfl, gq 1194 (by decide +kernel) rfl⟩
theorem cvX1_divideText : gCV yX1_divideText cX1_divideText 4 none 3 := ⟨⟨by decide +kernel, by decide +kernel, by decide +kernel⟩, gq 865 (by decide +kernel) rfl, gq 68 (by decide +kernel) rfl, gq 864 (by decide +kernel) rfl, gq 7 (by decide +kernel) rfl⟩
theorem cvX1_fitCaption : gCV yX1_fitCaption cX1_fitCaption 8 (some .int) 2 := ⟨⟨by decide +kernel, by decide +kernel, by decide +kernel⟩, gq 942 (by decide +kernel) rfl, gq 68 (by decide +kernel) rfl, gq 940 (by decide +kernel) rfl, gq 941 (by decide +kernel) rfl⟩
theorem cvX1_framesOfHead : gCV yX1_framesOfHead cX1_framesOfHead 6 (some .int) 3 := ⟨⟨by decide +kernel, by decide +kernel, by decide +kernel⟩, gq 870 (by decide +kernel) rfl, gq 68 (by decide +kernel) rfl, gq 869 (by decide +kernel) rfl, gq 8 (by decide +kernel) rfl⟩
theorem csX1_isMeant : gCS yX1_isMeant cX1_isMeant 2 (some .boolean) 2 := ⟨⟨by decide +kernel, by decide +kernel, by decide +kernel⟩, gq 991 (by decide +kernel) rfl, gq 68 (by decide +kernel) rfl, gq 990 (by decide +kernel) rfl⟩
theorem cvX1_mergeCaption : gCV yX1_mergeCaption cX1_mergeCaption 5 (some .int) 2 := ⟨⟨by decide +kernel, by decide +kernel, by decide +kernel⟩, gq 906 (by decide +kernel) rfl, gq 68 (by decide +kernel) rfl, gq 904 (by decide +kernel) rfl, gq 905 (by decide +kernel) rfl⟩
theorem cvX1_placeCaption : gCV yX1_placeCaption cX1_placeCaption 7 (some .int) 4 := ⟨⟨by decide +kernel, by decide +kernel, by decide +kernel⟩, gq 836 (by decide +kernel) rfl, gq 68 (by decide +kernel) rfl, gq 834 (by decide +kernel) rfl, gq 835 (by decide +kernel) rfl⟩
theorem cvX1_retimeCaptions : gCV yX1_retimeCaptions cX1_retimeCaptions 9 (some .int) 2 := ⟨⟨by decide +kernel, by decide +kernel, by decide +kernel⟩, gq 1003 (by decide +kernel) rfl, gq 68 (by decide +kernel) rfl, gq 1001 (by decide +kernel) rfl, gq 1002 (by decide +kernel) rfl⟩
theorem cvX1_retimeRefusal : gCV yX1_retimeRefusal cX1_retimeRefusal 8 (some .int) 2 := ⟨⟨by decide +kernel, by decide +kernel, by decide +kernel⟩, gq 988 (by decide +kernel) rfl, gq 68 (by decide +kernel) rfl, gq 986 (by decide +kernel) rfl, gq 987 (by decide +kernel) rfl⟩
theorem cvX1_snapCaption : gCV yX1_snapCaption cX1_snapCaption 7 (some .int) 2 := ⟨⟨by decide +kernel, by decide +kernel, by decide +kernel⟩, gq 930 (by decide +kernel) rfl, gq 68 (by decide +kernel) rfl, gq 928 (by decide +kernel) rfl, gq 929 (by decide +kernel) rfl⟩
theorem cvX1_snapRefusal : gCV yX1_snapRefusal cX1_snapRefusal 4 (some .int) 2 := ⟨⟨by decide +kernel, by decide +kernel, by decide +kernel⟩, gq 919 (by decide +kernel) rfl, gq 68 (by decide +kernel) rfl, gq 917 (by decide +kernel) rfl, gq 918 (by decide +kernel) rfl⟩
theorem cvX1_snapped : gCV yX1_snapped cX1_snapped 2 (some .int) 1 := ⟨⟨by decide +kernel, by decide +kernel, by decide +kernel⟩, gq 923 (by decide +kernel) rfl, gq 68 (by decide +kernel) rfl, gq 922 (by decide +kernel) rfl, gq 9 (by decide +kernel) rfl⟩
theorem cvX1_splitCaption : gCV yX1_splitCaption cX1_splitCaption 8 (some .int) 3 := ⟨⟨by decide +kernel, by decide +kernel, by decide +kernel⟩, gq 877 (by decide +kernel) rfl, gq 68 (by decide +kernel) rfl, gq 875 (by decide +kernel) rfl, gq 876 (by decide +kernel) rfl⟩
theorem cvX1_splitRefusal : gCV yX1_splitRefusal cX1_splitRefusal 6 (some .int) 3 := ⟨⟨by decide +kernel, by decide +kernel, by decide +kernel⟩, gq 860 (by decide +kernel) rfl, gq 68 (by decide +kernel) rfl, gq 858 (by decide +kernel) rfl, gq 859 (by decide +kernel) rfl⟩
theorem cvX2_captionsOverCuts : gCV yX2_captionsOverCuts cX2_captionsOverCuts 4 (some .int) 1 := ⟨⟨by decide +kernel, by decide +kernel, by decide +kernel⟩, gq 1085 (by decide +kernel) rfl, gq 66 (by decide +kernel) rfl, gq 1083 (by decide +kernel) rfl, gq 1084 (by decide +kernel) rfl⟩
theorem cvX2_captionsToMerge : gCV yX2_captionsToMerge cX2_captionsToMerge 4 (some .int) 1 := ⟨⟨by decide +kernel, by decide +kernel, by decide +kernel⟩, gq 1090 (by decide +kernel) rfl, gq 66 (by decide +kernel) rfl, gq 1088 (by decide +kernel) rfl, gq 1089 (by decide +kernel) rfl⟩
theorem cvX2_captionsWith : gCV yX2_captionsWith cX2_captionsWith 5 (some .int) 2 := ⟨⟨by decide +kernel, by decide +kernel, by decide +kernel⟩, gq 632 (by decide +kernel) rfl, gq 66 (by decide +kernel) rfl, gq 630 (by decide +kernel) rfl, gq 631 (by decide +kernel) rfl⟩
theorem cvX2_cutsWithin : gCV yX2_cutsWithin cX2_cutsWithin 4 (some .int) 2 := ⟨⟨by decide +kernel, by decide +kernel, by decide +kernel⟩, gq 1022 (by decide +kernel) rfl, gq 66 (by decide +kernel) rfl, gq 1020 (by decide +kernel) rfl, gq 1021 (by decide +kernel) rfl⟩
theorem cvX2_framesOfBoth : gCV yX2_framesOfBoth cX2_framesOfBoth 6 (some .int) 0 := ⟨⟨by decide +kernel, by decide +kernel, by decide +kernel⟩, gq 610 (by decide +kernel) rfl, gq 66 (by decide +kernel) rfl, gq 608 (by decide +kernel) rfl, gq 609 (by decide +kernel) rfl⟩
theorem cvX2_isInStep : gCV yX2_isInStep cX2_isInStep 7 (some .boolean) 2 := ⟨⟨by decide +kernel, by decide +kernel, by decide +kernel⟩, gq 702 (by decide +kernel) rfl, gq 66 (by decide +kernel) rfl, gq 700 (by decide +kernel) rfl, gq 701 (by decide +kernel) rfl⟩
theorem cvX2_isTight : gCV yX2_isTight cX2_isTight 4 (some .boolean) 2 := ⟨⟨by decide +kernel, by decide +kernel, by decide +kernel⟩, gq 690 (by decide +kernel) rfl, gq 66 (by decide +kernel) rfl, gq 688 (by decide +kernel) rfl, gq 689 (by decide +kernel) rfl⟩
theorem cvX2_joinWithNext : gCV yX2_joinWithNext cX2_joinWithNext 4 (some (.object "SubtitleDesk$Text")) 2 := ⟨⟨by decide +kernel, by decide +kernel, by decide +kernel⟩, gq 897 (by decide +kernel) rfl, gq 66 (by decide +kernel) rfl, gq 895 (by decide +kernel) rfl, gq 896 (by decide +kernel) rfl⟩
theorem cvX2_mergeRefusal : gCV yX2_mergeRefusal cX2_mergeRefusal 4 (some .int) 2 := ⟨⟨by decide +kernel, by decide +kernel, by decide +kernel⟩, gq 892 (by decide +kernel) rfl, gq 66 (by decide +kernel) rfl, gq 890 (by decide +kernel) rfl, gq 891 (by decide +kernel) rfl⟩
theorem cvX2_needs : gCV yX2_needs cX2_needs 6 (some .int) 2 := ⟨⟨by decide +kernel, by decide +kernel, by decide +kernel⟩, gq 646 (by decide +kernel) rfl, gq 66 (by decide +kernel) rfl, gq 644 (by decide +kernel) rfl, gq 645 (by decide +kernel) rfl⟩
theorem cvX2_partner : gCV yX2_partner cX2_partner 9 (some .int) 2 := ⟨⟨by decide +kernel, by decide +kernel, by decide +kernel⟩, gq 706 (by decide +kernel) rfl, gq 66 (by decide +kernel) rfl, gq 704 (by decide +kernel) rfl, gq 705 (by decide +kernel) rfl⟩
theorem cvX2_problems : gCV yX2_problems cX2_problems 5 (some .int) 2 := ⟨⟨by decide +kernel, by decide +kernel, by decide +kernel⟩, gq 636 (by decide +kernel) rfl, gq 66 (by decide +kernel) rfl, gq 634 (by decide +kernel) rfl, gq 635 (by decide +kernel) rfl⟩
theorem cvX2_sharedWithPartner : gCV yX2_sharedWithPartner cX2_sharedWithPartner 5 (some .int) 2 := ⟨⟨by decide +kernel, by decide +kernel, by decide +kernel⟩, gq 1028 (by decide +kernel) rfl, gq 66 (by decide +kernel) rfl, gq 1026 (by decide +kernel) rfl, gq 1027 (by decide +kernel) rfl⟩
theorem cvX3_addRefusal : gCV yX3_addRefusal cX3_addRefusal 6 (some .int) 4 := ⟨⟨by decide +kernel, by decide +kernel, by decide +kernel⟩, gq 767 (by decide +kernel) rfl, gq 62 (by decide +kernel) rfl, gq 765 (by decide +kernel) rfl, gq 766 (by decide +kernel) rfl⟩
theorem cvX3_canBeCut : gCV yX3_canBeCut cX3_canBeCut 2 (some .boolean) 1 := ⟨⟨by decide +kernel, by decide +kernel, by decide +kernel⟩, gq 549 (by decide +kernel) rfl, gq 62 (by decide +kernel) rfl, gq 547 (by decide +kernel) rfl, gq 548 (by decide +kernel) rfl⟩
theorem cvX3_captionCount : gCV yX3_captionCount cX3_captionCount 1 (some .int) 0 := ⟨⟨by decide +kernel, by decide +kernel, by decide +kernel⟩, gq 341 (by decide +kernel) rfl, gq 62 (by decide +kernel) rfl, gq 339 (by decide +kernel) rfl, gq 340 (by decide +kernel) rfl⟩
theorem cvX3_changeSetting : gCV yX3_changeSetting cX3_changeSetting 4 (some .int) 2 := ⟨⟨by decide +kernel, by decide +kernel, by decide +kernel⟩, gq 508 (by decide +kernel) rfl, gq 62 (by decide +kernel) rfl, gq 506 (by decide +kernel) rfl, gq 507 (by decide +kernel) rfl⟩
theorem cvX3_copyFrom : gCV yX3_copyFrom cX3_copyFrom 2 none 1 := ⟨⟨by decide +kernel, by decide +kernel, by decide +kernel⟩, gq 327 (by decide +kernel) rfl, gq 62 (by decide +kernel) rfl, gq 325 (by decide +kernel) rfl, gq 326 (by decide +kernel) rfl⟩
theorem cvX3_hasFrame : gCV yX3_hasFrame cX3_hasFrame 2 (some .boolean) 1 := ⟨⟨by decide +kernel, by decide +kernel, by decide +kernel⟩, gq 720 (by decide +kernel) rfl, gq 62 (by decide +kernel) rfl, gq 718 (by decide +kernel) rfl, gq 719 (by decide +kernel) rfl⟩
theorem cvX3_isLoose : gCV yX3_isLoose cX3_isLoose 3 (some .boolean) 1 := ⟨⟨by decide +kernel, by decide +kernel, by decide +kernel⟩, gq 674 (by decide +kernel) rfl, gq 62 (by decide +kernel) rfl, gq 672 (by decide +kernel) rfl, gq 673 (by decide +kernel) rfl⟩
theorem cvX3_lengthRefusal : gCV yX3_lengthRefusal cX3_lengthRefusal 4 (some .int) 1 := ⟨⟨by decide +kernel, by decide +kernel, by decide +kernel⟩, gq 426 (by decide +kernel) rfl, gq 62 (by decide +kernel) rfl, gq 424 (by decide +kernel) rfl, gq 425 (by decide +kernel) rfl⟩
theorem cvX3_placeRefusal : gCV yX3_placeRefusal cX3_placeRefusal 6 (some .int) 4 := ⟨⟨by decide +kernel, by decide +kernel, by decide +kernel⟩, gq 771 (by decide +kernel) rfl, gq 62 (by decide +kernel) rfl, gq 769 (by decide +kernel) rfl, gq 770 (by decide +kernel) rfl⟩
theorem cvX3_setting : gCV yX3_setting cX3_setting 2 (some .int) 1 := ⟨⟨by decide +kernel, by decide +kernel, by decide +kernel⟩, gq 512 (by decide +kernel) rfl, gq 62 (by decide +kernel) rfl, gq 510 (by decide +kernel) rfl, gq 511 (by decide +kernel) rfl⟩
theorem cvX3_spanRefusal : gCV yX3_spanRefusal cX3_spanRefusal 3 (some .int) 2 := ⟨⟨by decide +kernel, by decide +kernel, by decide +kernel⟩, gq 775 (by decide +kernel) rfl, gq 62 (by decide +kernel) rfl, gq 773 (by decide +kernel) rfl, gq 774 (by decide +kernel) rfl⟩
theorem cvX3_trackBeside : gCV yX3_trackBeside cX3_trackBeside 2 (some (.object "SubtitleDesk$Track")) 1 := ⟨⟨by decide +kernel, by decide +kernel, by decide +kernel⟩, gq 615 (by decide +kernel) rfl, gq 62 (by decide +kernel) rfl, gq 613 (by decide +kernel) rfl, gq 614 (by decide +kernel) rfl⟩
theorem cvX3_trackOf : gCV yX3_trackOf cX3_trackOf 2 (some (.object "SubtitleDesk$Track")) 1 := ⟨⟨by decide +kernel, by decide +kernel, by decide +kernel⟩, gq 430 (by decide +kernel) rfl, gq 62 (by decide +kernel) rfl, gq 428 (by decide +kernel) rfl, gq 429 (by decide +kernel) rfl⟩
theorem cvX4_commit : gCV yX4_commit cX4_commit 1 none 0 := ⟨⟨by decide +kernel, by decide +kernel, by decide +kernel⟩, gq 483 (by decide +kernel) rfl, gq 69 (by decide +kernel) rfl, gq 481 (by decide +kernel) rfl, gq 482 (by decide +kernel) rfl⟩
theorem cvX4_forgetAll : gCV yX4_forgetAll cX4_forgetAll 1 none 0 := ⟨⟨by decide +kernel, by decide +kernel, by decide +kernel⟩, gq 1267 (by decide +kernel) rfl, gq 69 (by decide +kernel) rfl, gq 1265 (by decide +kernel) rfl, gq 1266 (by decide +kernel) rfl⟩
theorem cvX4_keep : gCV yX4_keep cX4_keep 2 none 1 := ⟨⟨by decide +kernel, by decide +kernel, by decide +kernel⟩, gq 470 (by decide +kernel) rfl, gq 69 (by decide +kernel) rfl, gq 468 (by decide +kernel) rfl, gq 469 (by decide +kernel) rfl⟩
theorem cvX4_prepare : gCV yX4_prepare cX4_prepare 3 none 1 := ⟨⟨by decide +kernel, by decide +kernel, by decide +kernel⟩, gq 474 (by decide +kernel) rfl, gq 69 (by decide +kernel) rfl, gq 472 (by decide +kernel) rfl, gq 473 (by decide +kernel) rfl⟩
theorem cvX4_rowAt : gCV yX4_rowAt cX4_rowAt 2 (some (.object "SubtitleDesk$Film")) 1 := ⟨⟨by decide +kernel, by decide +kernel, by decide +kernel⟩, gq 478 (by decide +kernel) rfl, gq 69 (by decide +kernel) rfl, gq 477 (by decide +kernel) rfl, gq 3 (by decide +kernel) rfl⟩
theorem cvX4_takeBackInto : gCV yX4_takeBackInto cX4_takeBackInto 3 none 1 := ⟨⟨by decide +kernel, by decide +kernel, by decide +kernel⟩, gq 1223 (by decide +kernel) rfl, gq 69 (by decide +kernel) rfl, gq 1221 (by decide +kernel) rfl, gq 1222 (by decide +kernel) rfl⟩
theorem cvX4_undoInto : gCV yX4_undoInto cX4_undoInto 2 none 1 := ⟨⟨by decide +kernel, by decide +kernel, by decide +kernel⟩, gq 1254 (by decide +kernel) rfl, gq 69 (by decide +kernel) rfl, gq 1252 (by decide +kernel) rfl, gq 1253 (by decide +kernel) rfl⟩
theorem cvX5_end : gCV yX5_end cX5_end 2 (some .int) 1 := ⟨⟨by decide +kernel, by decide +kernel, by decide +kernel⟩, gq 1215 (by decide +kernel) rfl, gq 70 (by decide +kernel) rfl, gq 1213 (by decide +kernel) rfl, gq 1214 (by decide +kernel) rfl⟩
theorem cvX5_first : gCV yX5_first cX5_first 2 (some .int) 1 := ⟨⟨by decide +kernel, by decide +kernel, by decide +kernel⟩, gq 1191 (by decide +kernel) rfl, gq 70 (by decide +kernel) rfl, gq 1189 (by decide +kernel) rfl, gq 1190 (by decide +kernel) rfl⟩
theorem csX5_isDigit : gCS yX5_isDigit cX5_isDigit 1 (some .boolean) 1 := ⟨⟨by decide +kernel, by decide +kernel, by decide +kernel⟩, gq 1158 (by decide +kernel) rfl, gq 70 (by decide +kernel) rfl, gq 1157 (by decide +kernel) rfl⟩
theorem csX5_isItem : gCS yX5_isItem cX5_isItem 1 (some .boolean) 1 := ⟨⟨by decide +kernel, by decide +kernel, by decide +kernel⟩, gq 1161 (by decide +kernel) rfl, gq 70 (by decide +kernel) rfl, gq 1160 (by decide +kernel) rfl⟩
theorem cvX5_kind : gCV yX5_kind cX5_kind 2 (some .int) 1 := ⟨⟨by decide +kernel, by decide +kernel, by decide +kernel⟩, gq 1219 (by decide +kernel) rfl, gq 70 (by decide +kernel) rfl, gq 1217 (by decide +kernel) rfl, gq 1218 (by decide +kernel) rfl⟩
theorem cvX5_readCaption : gCV yX5_readCaption cX5_readCaption 6 (some .boolean) 1 := ⟨⟨by decide +kernel, by decide +kernel, by decide +kernel⟩, gq 1165 (by decide +kernel) rfl, gq 70 (by decide +kernel) rfl, gq 1164 (by decide +kernel) rfl, gq 14 (by decide +kernel) rfl⟩
theorem cvX5_readCut : gCV yX5_readCut cX5_readCut 4 (some .boolean) 2 := ⟨⟨by decide +kernel, by decide +kernel, by decide +kernel⟩, gq 1151 (by decide +kernel) rfl, gq 70 (by decide +kernel) rfl, gq 1150 (by decide +kernel) rfl, gq 12 (by decide +kernel) rfl⟩
theorem cvX5_readItem : gCV yX5_readItem cX5_readItem 2 (some .boolean) 1 := ⟨⟨by decide +kernel, by decide +kernel, by decide +kernel⟩, gq 1142 (by decide +kernel) rfl, gq 70 (by decide +kernel) rfl, gq 1141 (by decide +kernel) rfl, gq 10 (by decide +kernel) rfl⟩
theorem cvX5_readNumber : gCV yX5_readNumber cX5_readNumber 3 (some .int) 0 := ⟨⟨by decide +kernel, by decide +kernel, by decide +kernel⟩, gq 1155 (by decide +kernel) rfl, gq 70 (by decide +kernel) rfl, gq 1154 (by decide +kernel) rfl, gq 13 (by decide +kernel) rfl⟩
theorem cvX5_readText : gCV yX5_readText cX5_readText 3 (some .boolean) 1 := ⟨⟨by decide +kernel, by decide +kernel, by decide +kernel⟩, gq 1138 (by decide +kernel) rfl, gq 70 (by decide +kernel) rfl, gq 1136 (by decide +kernel) rfl, gq 1137 (by decide +kernel) rfl⟩
theorem cvX5_skipWords : gCV yX5_skipWords cX5_skipWords 2 none 0 := ⟨⟨by decide +kernel, by decide +kernel, by decide +kernel⟩, gq 1173 (by decide +kernel) rfl, gq 70 (by decide +kernel) rfl, gq 1172 (by decide +kernel) rfl, gq 16 (by decide +kernel) rfl⟩
theorem cvX5_takeOneOf : gCV yX5_takeOneOf cX5_takeOneOf 6 (some .int) 3 := ⟨⟨by decide +kernel, by decide +kernel, by decide +kernel⟩, gq 1169 (by decide +kernel) rfl, gq 70 (by decide +kernel) rfl, gq 1168 (by decide +kernel) rfl, gq 15 (by decide +kernel) rfl⟩
theorem cvX5_takeSign : gCV yX5_takeSign cX5_takeSign 2 (some .boolean) 1 := ⟨⟨by decide +kernel, by decide +kernel, by decide +kernel⟩, gq 1146 (by decide +kernel) rfl, gq 70 (by decide +kernel) rfl, gq 1145 (by decide +kernel) rfl, gq 11 (by decide +kernel) rfl⟩
theorem cvX5_trackOfItem : gCV yX5_trackOfItem cX5_trackOfItem 2 (some .int) 1 := ⟨⟨by decide +kernel, by decide +kernel, by decide +kernel⟩, gq 1211 (by decide +kernel) rfl, gq 70 (by decide +kernel) rfl, gq 1209 (by decide +kernel) rfl, gq 1210 (by decide +kernel) rfl⟩
theorem cvX5_what : gCV yX5_what cX5_what 2 (some .int) 1 := ⟨⟨by decide +kernel, by decide +kernel, by decide +kernel⟩, gq 1187 (by decide +kernel) rfl, gq 70 (by decide +kernel) rfl, gq 1185 (by decide +kernel) rfl, gq 1186 (by decide +kernel) rfl⟩
theorem cvX5_wordsFrom : gCV yX5_wordsFrom cX5_wordsFrom 2 (some .int) 1 := ⟨⟨by decide +kernel, by decide +kernel, by decide +kernel⟩, gq 1203 (by decide +kernel) rfl, gq 70 (by decide +kernel) rfl, gq 1201 (by decide +kernel) rfl, gq 1202 (by decide +kernel) rfl⟩
theorem cvX5_wordsTo : gCV yX5_wordsTo cX5_wordsTo 2 (some .int) 1 := ⟨⟨by decide +kernel, by decide +kernel, by decide +kernel⟩, gq 1207 (by decide +kernel) rfl, gq 70 (by decide +kernel) rfl, gq 1205 (by decide +kernel) rfl, gq 1206 (by decide +kernel) rfl⟩
theorem cvX6_frameFor : gCV yX6_frameFor cX6_frameFor 2 (some .int) 1 := ⟨⟨by decide +kernel, by decide +kernel, by decide +kernel⟩, gq 995 (by decide +kernel) rfl, gq 82 (by decide +kernel) rfl, gq 993 (by decide +kernel) rfl, gq 994 (by decide +kernel) rfl⟩
theorem cvX7_append : gCV yX7_append cX7_append 2 (some .boolean) 1 := ⟨⟨by decide +kernel, by decide +kernel, by decide +kernel⟩, gq 733 (by decide +kernel) rfl, gq 67 (by decide +kernel) rfl, gq 731 (by decide +kernel) rfl, gq 732 (by decide +kernel) rfl⟩
theorem cvX7_appendPart : gCV yX7_appendPart cX7_appendPart 6 none 3 := ⟨⟨by decide +kernel, by decide +kernel, by decide +kernel⟩, gq 749 (by decide +kernel) rfl, gq 67 (by decide +kernel) rfl, gq 747 (by decide +kernel) rfl, gq 748 (by decide +kernel) rfl⟩
theorem cvX7_clear : gCV yX7_clear cX7_clear 1 none 0 := ⟨⟨by decide +kernel, by decide +kernel, by decide +kernel⟩, gq 745 (by decide +kernel) rfl, gq 67 (by decide +kernel) rfl, gq 743 (by decide +kernel) rfl, gq 744 (by decide +kernel) rfl⟩
theorem cvX7_isValid : gCV yX7_isValid cX7_isValid 4 (some .boolean) 0 := ⟨⟨by decide +kernel, by decide +kernel, by decide +kernel⟩, gq 784 (by decide +kernel) rfl, gq 67 (by decide +kernel) rfl, gq 782 (by decide +kernel) rfl, gq 783 (by decide +kernel) rfl⟩
theorem cvX7_signAt : gCV yX7_signAt cX7_signAt 2 (some .int) 1 := ⟨⟨by decide +kernel, by decide +kernel, by decide +kernel⟩, gq 753 (by decide +kernel) rfl, gq 67 (by decide +kernel) rfl, gq 751 (by decide +kernel) rfl, gq 752 (by decide +kernel) rfl⟩
theorem cvX8_allFrames : gCV yX8_allFrames cX8_allFrames 3 (some .int) 0 := ⟨⟨by decide +kernel, by decide +kernel, by decide +kernel⟩, gq 1075 (by decide +kernel) rfl, gq 65 (by decide +kernel) rfl, gq 1073 (by decide +kernel) rfl, gq 1074 (by decide +kernel) rfl⟩
theorem cvX8_allLoad : gCV yX8_allLoad cX8_allLoad 3 (some .int) 0 := ⟨⟨by decide +kernel, by decide +kernel, by decide +kernel⟩, gq 1080 (by decide +kernel) rfl, gq 65 (by decide +kernel) rfl, gq 1078 (by decide +kernel) rfl, gq 1079 (by decide +kernel) rfl⟩
theorem cvX8_appendTextTo : gCV yX8_appendTextTo cX8_appendTextTo 7 none 4 := ⟨⟨by decide +kernel, by decide +kernel, by decide +kernel⟩, gq 844 (by decide +kernel) rfl, gq 65 (by decide +kernel) rfl, gq 842 (by decide +kernel) rfl, gq 843 (by decide +kernel) rfl⟩
theorem cvX8_captionOn : gCV yX8_captionOn cX8_captionOn 3 (some .int) 1 := ⟨⟨by decide +kernel, by decide +kernel, by decide +kernel⟩, gq 1063 (by decide +kernel) rfl, gq 65 (by decide +kernel) rfl, gq 1061 (by decide +kernel) rfl, gq 1062 (by decide +kernel) rfl⟩
theorem cvX8_closeRow : gCV yX8_closeRow cX8_closeRow 3 none 1 := ⟨⟨by decide +kernel, by decide +kernel, by decide +kernel⟩, gq 824 (by decide +kernel) rfl, gq 65 (by decide +kernel) rfl, gq 822 (by decide +kernel) rfl, gq 823 (by decide +kernel) rfl⟩
theorem cvX8_copyFrom : gCV yX8_copyFrom cX8_copyFrom 2 none 1 := ⟨⟨by decide +kernel, by decide +kernel, by decide +kernel⟩, gq 336 (by decide +kernel) rfl, gq 65 (by decide +kernel) rfl, gq 334 (by decide +kernel) rfl, gq 335 (by decide +kernel) rfl⟩
theorem cvX8_copyRow : gCV yX8_copyRow cX8_copyRow 3 none 2 := ⟨⟨by decide +kernel, by decide +kernel, by decide +kernel⟩, gq 798 (by decide +kernel) rfl, gq 65 (by decide +kernel) rfl, gq 797 (by decide +kernel) rfl, gq 5 (by decide +kernel) rfl⟩
theorem cvX8_densest : gCV yX8_densest cX8_densest 3 (some .int) 0 := ⟨⟨by decide +kernel, by decide +kernel, by decide +kernel⟩, gq 1102 (by decide +kernel) rfl, gq 65 (by decide +kernel) rfl, gq 1100 (by decide +kernel) rfl, gq 1101 (by decide +kernel) rfl⟩
theorem cvX8_end : gCV yX8_end cX8_end 2 (some .int) 1 := ⟨⟨by decide +kernel, by decide +kernel, by decide +kernel⟩, gq 434 (by decide +kernel) rfl, gq 65 (by decide +kernel) rfl, gq 432 (by decide +kernel) rfl, gq 433 (by decide +kernel) rfl⟩
theorem cvX8_first : gCV yX8_first cX8_first 2 (some .int) 1 := ⟨⟨by decide +kernel, by decide +kernel, by decide +kernel⟩, gq 619 (by decide +kernel) rfl, gq 65 (by decide +kernel) rfl, gq 617 (by decide +kernel) rfl, gq 618 (by decide +kernel) rfl⟩
theorem cvX8_frames : gCV yX8_frames cX8_frames 2 (some .int) 1 := ⟨⟨by decide +kernel, by decide +kernel, by decide +kernel⟩, gq 640 (by decide +kernel) rfl, gq 65 (by decide +kernel) rfl, gq 638 (by decide +kernel) rfl, gq 639 (by decide +kernel) rfl⟩
theorem cvX8_gapBefore : gCV yX8_gapBefore cX8_gapBefore 2 (some .int) 1 := ⟨⟨by decide +kernel, by decide +kernel, by decide +kernel⟩, gq 694 (by decide +kernel) rfl, gq 65 (by decide +kernel) rfl, gq 692 (by decide +kernel) rfl, gq 693 (by decide +kernel) rfl⟩
theorem cvX8_has : gCV yX8_has cX8_has 2 (some .boolean) 1 := ⟨⟨by decide +kernel, by decide +kernel, by decide +kernel⟩, gq 438 (by decide +kernel) rfl, gq 65 (by decide +kernel) rfl, gq 436 (by decide +kernel) rfl, gq 437 (by decide +kernel) rfl⟩
theorem cvX8_insertCaption : gCV yX8_insertCaption cX8_insertCaption 7 (some .int) 4 := ⟨⟨by decide +kernel, by decide +kernel, by decide +kernel⟩, gq 791 (by decide +kernel) rfl, gq 65 (by decide +kernel) rfl, gq 789 (by decide +kernel) rfl, gq 790 (by decide +kernel) rfl⟩
theorem csX8_isRow : gCS yX8_isRow cX8_isRow 1 (some .boolean) 1 := ⟨⟨by decide +kernel, by decide +kernel, by decide +kernel⟩, gq 794 (by decide +kernel) rfl, gq 65 (by decide +kernel) rfl, gq 793 (by decide +kernel) rfl⟩
theorem cvX8_kind : gCV yX8_kind cX8_kind 2 (some .int) 1 := ⟨⟨by decide +kernel, by decide +kernel, by decide +kernel⟩, gq 650 (by decide +kernel) rfl, gq 65 (by decide +kernel) rfl, gq 648 (by decide +kernel) rfl, gq 649 (by decide +kernel) rfl⟩
theorem cvX8_load : gCV yX8_load cX8_load 2 (some .int) 1 := ⟨⟨by decide +kernel, by decide +kernel, by decide +kernel⟩, gq 654 (by decide +kernel) rfl, gq 65 (by decide +kernel) rfl, gq 652 (by decide +kernel) rfl, gq 653 (by decide +kernel) rfl⟩
theorem cvX8_loadBetween : gCV yX8_loadBetween cX8_loadBetween 6 (some .int) 3 := ⟨⟨by decide +kernel, by decide +kernel, by decide +kernel⟩, gq 662 (by decide +kernel) rfl, gq 65 (by decide +kernel) rfl, gq 660 (by decide +kernel) rfl, gq 661 (by decide +kernel) rfl⟩
theorem cvX8_longestLine : gCV yX8_longestLine cX8_longestLine 5 (some .int) 1 := ⟨⟨by decide +kernel, by decide +kernel, by decide +kernel⟩, gq 698 (by decide +kernel) rfl, gq 65 (by decide +kernel) rfl, gq 696 (by decide +kernel) rfl, gq 697 (by decide +kernel) rfl⟩
theorem cvX8_setFrames : gCV yX8_setFrames cX8_setFrames 4 none 3 := ⟨⟨by decide +kernel, by decide +kernel, by decide +kernel⟩, gq 802 (by decide +kernel) rfl, gq 65 (by decide +kernel) rfl, gq 800 (by decide +kernel) rfl, gq 801 (by decide +kernel) rfl⟩
theorem cvX8_setText : gCV yX8_setText cX8_setText 4 none 2 := ⟨⟨by decide +kernel, by decide +kernel, by decide +kernel⟩, gq 806 (by decide +kernel) rfl, gq 65 (by decide +kernel) rfl, gq 804 (by decide +kernel) rfl, gq 805 (by decide +kernel) rfl⟩
theorem cvX8_shared : gCV yX8_shared cX8_shared 4 (some .int) 3 := ⟨⟨by decide +kernel, by decide +kernel, by decide +kernel⟩, gq 624 (by decide +kernel) rfl, gq 65 (by decide +kernel) rfl, gq 622 (by decide +kernel) rfl, gq 623 (by decide +kernel) rfl⟩
theorem cvX8_sharesWithOthers : gCV yX8_sharesWithOthers cX8_sharesWithOthers 5 (some .boolean) 3 := ⟨⟨by decide +kernel, by decide +kernel, by decide +kernel⟩, gq 779 (by decide +kernel) rfl, gq 65 (by decide +kernel) rfl, gq 777 (by decide +kernel) rfl, gq 778 (by decide +kernel) rfl⟩
theorem cvX8_signAt : gCV yX8_signAt cX8_signAt 3 (some .int) 2 := ⟨⟨by decide +kernel, by decide +kernel, by decide +kernel⟩, gq 666 (by decide +kernel) rfl, gq 65 (by decide +kernel) rfl, gq 664 (by decide +kernel) rfl, gq 665 (by decide +kernel) rfl⟩
theorem cvX8_size : gCV yX8_size cX8_size 2 (some .int) 1 := ⟨⟨by decide +kernel, by decide +kernel, by decide +kernel⟩, gq 658 (by decide +kernel) rfl, gq 65 (by decide +kernel) rfl, gq 656 (by decide +kernel) rfl, gq 657 (by decide +kernel) rfl⟩
theorem cvX9_add : gCV yX9_add cX9_add 5 (some .int) 4 := ⟨⟨by decide +kernel, by decide +kernel, by decide +kernel⟩, gq 741 (by decide +kernel) rfl, gq 61 (by decide +kernel) rfl, gq 739 (by decide +kernel) rfl, gq 740 (by decide +kernel) rfl⟩
theorem csX9_arePoints : gCS yX9_arePoints cX9_arePoints 4 (some .boolean) 4 := ⟨⟨by decide +kernel, by decide +kernel, by decide +kernel⟩, gq 960 (by decide +kernel) rfl, gq 61 (by decide +kernel) rfl, gq 959 (by decide +kernel) rfl⟩
theorem cvX9_caption : gCV yX9_caption cX9_caption 5 (some .int) 3 := ⟨⟨by decide +kernel, by decide +kernel, by decide +kernel⟩, gq 1010 (by decide +kernel) rfl, gq 61 (by decide +kernel) rfl, gq 1008 (by decide +kernel) rfl, gq 1009 (by decide +kernel) rfl⟩
theorem cvX9_carryOutItem : gCV yX9_carryOutItem cX9_carryOutItem 4 (some .int) 1 := ⟨⟨by decide +kernel, by decide +kernel, by decide +kernel⟩, gq 1183 (by decide +kernel) rfl, gq 61 (by decide +kernel) rfl, gq 1182 (by decide +kernel) rfl, gq 18 (by decide +kernel) rfl⟩
theorem cvX9_carryOutItems : gCV yX9_carryOutItems cX9_carryOutItems 3 (some .boolean) 0 := ⟨⟨by decide +kernel, by decide +kernel, by decide +kernel⟩, gq 1178 (by decide +kernel) rfl, gq 61 (by decide +kernel) rfl, gq 1177 (by decide +kernel) rfl, gq 17 (by decide +kernel) rfl⟩
theorem cvX9_cut : gCV yX9_cut cX9_cut 3 (some .int) 2 := ⟨⟨by decide +kernel, by decide +kernel, by decide +kernel⟩, gq 545 (by decide +kernel) rfl, gq 61 (by decide +kernel) rfl, gq 543 (by decide +kernel) rfl, gq 544 (by decide +kernel) rfl⟩
theorem csX9_distance : gCS yX9_distance cX9_distance 2 (some .int) 2 := ⟨⟨by decide +kernel, by decide +kernel, by decide +kernel⟩, gq 682 (by decide +kernel) rfl, gq 61 (by decide +kernel) rfl, gq 681 (by decide +kernel) rfl⟩
theorem csX9_dividedUp : gCS yX9_dividedUp cX9_dividedUp 2 (some .int) 2 := ⟨⟨by decide +kernel, by decide +kernel, by decide +kernel⟩, gq 670 (by decide +kernel) rfl, gq 61 (by decide +kernel) rfl, gq 669 (by decide +kernel) rfl⟩
theorem cvX9_fastest : gCV yX9_fastest cX9_fastest 3 (some .int) 1 := ⟨⟨by decide +kernel, by decide +kernel, by decide +kernel⟩, gq 1098 (by decide +kernel) rfl, gq 61 (by decide +kernel) rfl, gq 1096 (by decide +kernel) rfl, gq 1097 (by decide +kernel) rfl⟩
theorem cvX9_faultPosition : gCV yX9_faultPosition cX9_faultPosition 1 (some .int) 0 := ⟨⟨by decide +kernel, by decide +kernel, by decide +kernel⟩, gq 1233 (by decide +kernel) rfl, gq 61 (by decide +kernel) rfl, gq 1231 (by decide +kernel) rfl, gq 1232 (by decide +kernel) rfl⟩
theorem cvX9_feed : gCV yX9_feed cX9_feed 2 (some .int) 1 := ⟨⟨by decide +kernel, by decide +kernel, by decide +kernel⟩, gq 729 (by decide +kernel) rfl, gq 61 (by decide +kernel) rfl, gq 727 (by decide +kernel) rfl, gq 728 (by decide +kernel) rfl⟩
theorem cvX9_film : gCV yX9_film cX9_film 3 (some .int) 1 := ⟨⟨by decide +kernel, by decide +kernel, by decide +kernel⟩, gq 350 (by decide +kernel) rfl, gq 61 (by decide +kernel) rfl, gq 348 (by decide +kernel) rfl, gq 349 (by decide +kernel) rfl⟩
theorem cvX9_fit : gCV yX9_fit cX9_fit 3 (some .int) 2 := ⟨⟨by decide +kernel, by decide +kernel, by decide +kernel⟩, gq 938 (by decide +kernel) rfl, gq 61 (by decide +kernel) rfl, gq 936 (by decide +kernel) rfl, gq 937 (by decide +kernel) rfl⟩
theorem csX9_isPointFrame : gCS yX9_isPointFrame cX9_isPointFrame 1 (some .boolean) 1 := ⟨⟨by decide +kernel, by decide +kernel, by decide +kernel⟩, gq 963 (by decide +kernel) rfl, gq 61 (by decide +kernel) rfl, gq 962 (by decide +kernel) rfl⟩
theorem csX9_isSetting : gCS yX9_isSetting cX9_isSetting 1 (some .boolean) 1 := ⟨⟨by decide +kernel, by decide +kernel, by decide +kernel⟩, gq 499 (by decide +kernel) rfl, gq 61 (by decide +kernel) rfl, gq 498 (by decide +kernel) rfl⟩
theorem csX9_isSettingValue : gCS yX9_isSettingValue cX9_isSettingValue 2 (some .boolean) 2 := ⟨⟨by decide +kernel, by decide +kernel, by decide +kernel⟩, gq 496 (by decide +kernel) rfl, gq 61 (by decide +kernel) rfl, gq 495 (by decide +kernel) rfl⟩
theorem csX9_isTrack : gCS yX9_isTrack cX9_isTrack 1 (some .boolean) 1 := ⟨⟨by decide +kernel, by decide +kernel, by decide +kernel⟩, gq 761 (by decide +kernel) rfl, gq 61 (by decide +kernel) rfl, gq 760 (by decide +kernel) rfl⟩
theorem csX9_isWordSign : gCS yX9_isWordSign cX9_isWordSign 1 (some .boolean) 1 := ⟨⟨by decide +kernel, by decide +kernel, by decide +kernel⟩, gq 787 (by decide +kernel) rfl, gq 61 (by decide +kernel) rfl, gq 786 (by decide +kernel) rfl⟩
theorem cvX9_keepRefusal : gCV yX9_keepRefusal cX9_keepRefusal 3 none 2 := ⟨⟨by decide +kernel, by decide +kernel, by decide +kernel⟩, gq 450 (by decide +kernel) rfl, gq 61 (by decide +kernel) rfl, gq 449 (by decide +kernel) rfl, gq 2 (by decide +kernel) rfl⟩
theorem cvX9_letter : gCV yX9_letter cX9_letter 5 (some .char) 3 := ⟨⟨by decide +kernel, by decide +kernel, by decide +kernel⟩, gq 1036 (by decide +kernel) rfl, gq 61 (by decide +kernel) rfl, gq 1034 (by decide +kernel) rfl, gq 1035 (by decide +kernel) rfl⟩
theorem cvX9_merge : gCV yX9_merge cX9_merge 3 (some .int) 2 := ⟨⟨by decide +kernel, by decide +kernel, by decide +kernel⟩, gq 888 (by decide +kernel) rfl, gq 61 (by decide +kernel) rfl, gq 886 (by decide +kernel) rfl, gq 887 (by decide +kernel) rfl⟩
theorem cvX9_move : gCV yX9_move cX9_move 5 (some .int) 4 := ⟨⟨by decide +kernel, by decide +kernel, by decide +kernel⟩, gq 831 (by decide +kernel) rfl, gq 61 (by decide +kernel) rfl, gq 829 (by decide +kernel) rfl, gq 830 (by decide +kernel) rfl⟩
theorem cvX9_number : gCV yX9_number cX9_number 2 (some .int) 1 := ⟨⟨by decide +kernel, by decide +kernel, by decide +kernel⟩, gq 605 (by decide +kernel) rfl, gq 61 (by decide +kernel) rfl, gq 603 (by decide +kernel) rfl, gq 604 (by decide +kernel) rfl⟩
theorem cvX9_passOrRefuse : gCV yX9_passOrRefuse cX9_passOrRefuse 2 none 1 := ⟨⟨by decide +kernel, by decide +kernel, by decide +kernel⟩, gq 446 (by decide +kernel) rfl, gq 61 (by decide +kernel) rfl, gq 445 (by decide +kernel) rfl, gq 1 (by decide +kernel) rfl⟩
theorem cvX9_read : gCV yX9_read cX9_read 3 (some .int) 0 := ⟨⟨by decide +kernel, by decide +kernel, by decide +kernel⟩, gq 1134 (by decide +kernel) rfl, gq 61 (by decide +kernel) rfl, gq 1132 (by decide +kernel) rfl, gq 1133 (by decide +kernel) rfl⟩
theorem cvX9_refusal : gCV yX9_refusal cX9_refusal 2 (some .int) 1 := ⟨⟨by decide +kernel, by decide +kernel, by decide +kernel⟩, gq 1241 (by decide +kernel) rfl, gq 61 (by decide +kernel) rfl, gq 1239 (by decide +kernel) rfl, gq 1240 (by decide +kernel) rfl⟩
theorem cvX9_remove : gCV yX9_remove cX9_remove 4 (some .int) 2 := ⟨⟨by decide +kernel, by decide +kernel, by decide +kernel⟩, gq 814 (by decide +kernel) rfl, gq 61 (by decide +kernel) rfl, gq 812 (by decide +kernel) rfl, gq 813 (by decide +kernel) rfl⟩
theorem cvX9_requireCaption : gCV yX9_requireCaption cX9_requireCaption 3 none 2 := ⟨⟨by decide +kernel, by decide +kernel, by decide +kernel⟩, gq 818 (by decide +kernel) rfl, gq 61 (by decide +kernel) rfl, gq 817 (by decide +kernel) rfl, gq 6 (by decide +kernel) rfl⟩
theorem cvX9_requireTrack : gCV yX9_requireTrack cX9_requireTrack 2 none 1 := ⟨⟨by decide +kernel, by decide +kernel, by decide +kernel⟩, gq 758 (by decide +kernel) rfl, gq 61 (by decide +kernel) rfl, gq 757 (by decide +kernel) rfl, gq 4 (by decide +kernel) rfl⟩
theorem cvX9_restoreSnapshot : gCV yX9_restoreSnapshot cX9_restoreSnapshot 1 (some .int) 0 := ⟨⟨by decide +kernel, by decide +kernel, by decide +kernel⟩, gq 1262 (by decide +kernel) rfl, gq 61 (by decide +kernel) rfl, gq 1260 (by decide +kernel) rfl, gq 1261 (by decide +kernel) rfl⟩
theorem cvX9_retime : gCV yX9_retime cX9_retime 7 (some .int) 5 := ⟨⟨by decide +kernel, by decide +kernel, by decide +kernel⟩, gq 957 (by decide +kernel) rfl, gq 61 (by decide +kernel) rfl, gq 955 (by decide +kernel) rfl, gq 956 (by decide +kernel) rfl⟩
theorem cvX9_saveSnapshot : gCV yX9_saveSnapshot cX9_saveSnapshot 1 (some .int) 0 := ⟨⟨by decide +kernel, by decide +kernel, by decide +kernel⟩, gq 323 (by decide +kernel) rfl, gq 61 (by decide +kernel) rfl, gq 321 (by decide +kernel) rfl, gq 322 (by decide +kernel) rfl⟩
theorem cvX9_set : gCV yX9_set cX9_set 3 (some .int) 2 := ⟨⟨by decide +kernel, by decide +kernel, by decide +kernel⟩, gq 493 (by decide +kernel) rfl, gq 61 (by decide +kernel) rfl, gq 491 (by decide +kernel) rfl, gq 492 (by decide +kernel) rfl⟩
theorem cvX9_shot : gCV yX9_shot cX9_shot 2 (some .int) 1 := ⟨⟨by decide +kernel, by decide +kernel, by decide +kernel⟩, gq 716 (by decide +kernel) rfl, gq 61 (by decide +kernel) rfl, gq 714 (by decide +kernel) rfl, gq 715 (by decide +kernel) rfl⟩
theorem cvX9_shown : gCV yX9_shown cX9_shown 4 (some .int) 2 := ⟨⟨by decide +kernel, by decide +kernel, by decide +kernel⟩, gq 1059 (by decide +kernel) rfl, gq 61 (by decide +kernel) rfl, gq 1057 (by decide +kernel) rfl, gq 1058 (by decide +kernel) rfl⟩
theorem cvX9_snap : gCV yX9_snap cX9_snap 3 (some .int) 2 := ⟨⟨by decide +kernel, by decide +kernel, by decide +kernel⟩, gq 915 (by decide +kernel) rfl, gq 61 (by decide +kernel) rfl, gq 913 (by decide +kernel) rfl, gq 914 (by decide +kernel) rfl⟩
theorem cvX9_speed : gCV yX9_speed cX9_speed 3 (some .double) 1 := ⟨⟨by decide +kernel, by decide +kernel, by decide +kernel⟩, gq 1124 (by decide +kernel) rfl, gq 61 (by decide +kernel) rfl, gq 1122 (by decide +kernel) rfl, gq 1123 (by decide +kernel) rfl⟩
theorem cvX9_split : gCV yX9_split cX9_split 4 (some .int) 3 := ⟨⟨by decide +kernel, by decide +kernel, by decide +kernel⟩, gq 854 (by decide +kernel) rfl, gq 61 (by decide +kernel) rfl, gq 852 (by decide +kernel) rfl, gq 853 (by decide +kernel) rfl⟩
theorem cvX9_track : gCV yX9_track cX9_track 3 (some .int) 2 := ⟨⟨by decide +kernel, by decide +kernel, by decide +kernel⟩, gq 1071 (by decide +kernel) rfl, gq 61 (by decide +kernel) rfl, gq 1069 (by decide +kernel) rfl, gq 1070 (by decide +kernel) rfl⟩
theorem cvX9_undo : gCV yX9_undo cX9_undo 1 (some .int) 0 := ⟨⟨by decide +kernel, by decide +kernel, by decide +kernel⟩, gq 1249 (by decide +kernel) rfl, gq 61 (by decide +kernel) rfl, gq 1247 (by decide +kernel) rfl, gq 1248 (by decide +kernel) rfl⟩
theorem mwX1_100 : Cond.methodLink RX1 100 Lib.Math.max.name ∈ lwg ∧ Cond.static Lib.Math.max.name ∈ lwg ∧ Cond.initialized "java/lang/Math" ∈ lwg ∧ Cond.code Lib.Math.max.name Lib.Math.max.code 2 (some .int) ∈ lwg := ⟨mlX1_100, gq 627 (by decide +kernel) rfl, gq 77 (by decide +kernel) rfl, gq 628 (by decide +kernel) rfl⟩
theorem mwX8_59 : Cond.methodLink RX8 59 Lib.Math.max.name ∈ lwg ∧ Cond.static Lib.Math.max.name ∈ lwg ∧ Cond.initialized "java/lang/Math" ∈ lwg ∧ Cond.code Lib.Math.max.name Lib.Math.max.code 2 (some .int) ∈ lwg := ⟨mlX8_59, gq 627 (by decide +kernel) rfl, gq 77 (by decide +kernel) rfl, gq 628 (by decide +kernel) rfl⟩
theorem mwX1_143 : Cond.methodLink RX1 143 Lib.Math.min.name ∈ lwg ∧ Cond.static Lib.Math.min.name ∈ lwg ∧ Cond.initialized "java/lang/Math" ∈ lwg ∧ Cond.code Lib.Math.min.name Lib.Math.min.code 2 (some .int) ∈ lwg := ⟨mlX1_143, gq 485 (by decide +kernel) rfl, gq 77 (by decide +kernel) rfl, gq 486 (by decide +kernel) rfl⟩
theorem mwX4_39 : Cond.methodLink RX4 39 Lib.Math.min.name ∈ lwg ∧ Cond.static Lib.Math.min.name ∈ lwg ∧ Cond.initialized "java/lang/Math" ∈ lwg ∧ Cond.code Lib.Math.min.name Lib.Math.min.code 2 (some .int) ∈ lwg := ⟨mlX4_39, gq 485 (by decide +kernel) rfl, gq 77 (by decide +kernel) rfl, gq 486 (by decide +kernel) rfl⟩
theorem mwX8_64 : Cond.methodLink RX8 64 Lib.Math.min.name ∈ lwg ∧ Cond.static Lib.Math.min.name ∈ lwg ∧ Cond.initialized "java/lang/Math" ∈ lwg ∧ Cond.code Lib.Math.min.name Lib.Math.min.code 2 (some .int) ∈ lwg := ⟨mlX8_64, gq 485 (by decide +kernel) rfl, gq 77 (by decide +kernel) rfl, gq 486 (by decide +kernel) rfl⟩
theorem mwX9_415 : Cond.methodLink RX9 415 Lib.Math.abs.name ∈ lwg ∧ Cond.static Lib.Math.abs.name ∈ lwg ∧ Cond.initialized "java/lang/Math" ∈ lwg ∧ Cond.code Lib.Math.abs.name Lib.Math.abs.code 1 (some .int) ∈ lwg := ⟨mlX9_415, gq 684 (by decide +kernel) rfl, gq 77 (by decide +kernel) rfl, gq 685 (by decide +kernel) rfl⟩
theorem mwX6_16 : Cond.methodLink RX6 16 Lib.Math.abs.name ∈ lwg ∧ Cond.static Lib.Math.abs.name ∈ lwg ∧ Cond.initialized "java/lang/Math" ∈ lwg ∧ Cond.code Lib.Math.abs.name Lib.Math.abs.code 1 (some .int) ∈ lwg := ⟨mlX6_16, gq 684 (by decide +kernel) rfl, gq 77 (by decide +kernel) rfl, gq 685 (by decide +kernel) rfl⟩
theorem wac_n : Cond.native arraycopyName ∈ lwg := gq 103 (by decide +kernel) rfl
theorem wac_s : Cond.static arraycopyName ∈ lwg := gq 102 (by decide +kernel) rfl
theorem wac_i : Cond.initialized "java/lang/System" ∈ lwg := gq 63 (by decide +kernel) rfl
end
section
theorem dX0_init_0 : decode cX0_init 0 = .ok (.aload_n 0, 1) := by decide +kernel
theorem dX0_init_1 : decode cX0_init 1 = .ok (.invokespecial 3, 3) := by decide +kernel
theorem dX0_init_4 : decode cX0_init 4 = .ok (.aload_n 0, 1) := by decide +kernel
theorem dX0_init_5 : decode cX0_init 5 = .ok (.bipush 20, 2) := by decide +kernel
theorem dX0_init_7 : decode cX0_init 7 = .ok (.newarray .int, 2) := by decide +kernel
theorem dX0_init_9 : decode cX0_init 9 = .ok (.putfield 9, 3) := by decide +kernel
theorem dX0_init_12 : decode cX0_init 12 = .ok (.aload_n 0, 1) := by decide +kernel
theorem dX0_init_13 : decode cX0_init 13 = .ok (.iconst 0, 1) := by decide +kernel
theorem dX0_init_14 : decode cX0_init 14 = .ok (.putfield 15, 3) := by decide +kernel
theorem dX0_init_17 : decode cX0_init 17 = .ok (.return_, 1) := by decide +kernel
theorem dX0_copyFrom_0 : decode cX0_copyFrom 0 = .ok (.aload_n 1, 1) := by decide +kernel
theorem dX0_copyFrom_1 : decode cX0_copyFrom 1 = .ok (.getfield 9, 3) := by decide +kernel
theorem dX0_copyFrom_4 : decode cX0_copyFrom 4 = .ok (.iconst 0, 1) := by decide +kernel
theorem dX0_copyFrom_5 : decode cX0_copyFrom 5 = .ok (.aload_n 0, 1) := by decide +kernel
theorem dX0_copyFrom_6 : decode cX0_copyFrom 6 = .ok (.getfield 9, 3) := by decide +kernel
theorem dX0_copyFrom_9 : decode cX0_copyFrom 9 = .ok (.iconst 0, 1) := by decide +kernel
theorem dX0_copyFrom_10 : decode cX0_copyFrom 10 = .ok (.bipush 20, 2) := by decide +kernel
theorem dX0_copyFrom_12 : decode cX0_copyFrom 12 = .ok (.invokestatic 19, 3) := by decide +kernel
theorem dX0_copyFrom_15 : decode cX0_copyFrom 15 = .ok (.aload_n 0, 1) := by decide +kernel
theorem dX0_copyFrom_16 : decode cX0_copyFrom 16 = .ok (.aload_n 1, 1) := by decide +kernel
theorem dX0_copyFrom_17 : decode cX0_copyFrom 17 = .ok (.getfield 15, 3) := by decide +kernel
theorem dX0_copyFrom_20 : decode cX0_copyFrom 20 = .ok (.putfield 15, 3) := by decide +kernel
theorem dX0_copyFrom_23 : decode cX0_copyFrom 23 = .ok (.return_, 1) := by decide +kernel
theorem dX0_at_0 : decode cX0_at 0 = .ok (.iload_n 1, 1) := by decide +kernel
theorem dX0_at_1 : decode cX0_at 1 = .ok (.ifCond .lt 29, 3) := by decide +kernel
theorem dX0_at_4 : decode cX0_at 4 = .ok (.iload_n 1, 1) := by decide +kernel
theorem dX0_at_5 : decode cX0_at 5 = .ok (.aload_n 0, 1) := by decide +kernel
theorem dX0_at_6 : decode cX0_at 6 = .ok (.getfield 15, 3) := by decide +kernel
theorem dX0_at_9 : decode cX0_at 9 = .ok (.if_icmp .ge 21, 3) := by decide +kernel
theorem dX0_at_12 : decode cX0_at 12 = .ok (.iload_n 1, 1) := by decide +kernel
theorem dX0_at_13 : decode cX0_at 13 = .ok (.aload_n 0, 1) := by decide +kernel
theorem dX0_at_14 : decode cX0_at 14 = .ok (.getfield 9, 3) := by decide +kernel
theorem dX0_at_17 : decode cX0_at 17 = .ok (.arraylength, 1) := by decide +kernel
theorem dX0_at_18 : decode cX0_at 18 = .ok (.if_icmp .ge 12, 3) := by decide +kernel
theorem dX0_at_21 : decode cX0_at 21 = .ok (.aload_n 0, 1) := by decide +kernel
theorem dX0_at_22 : decode cX0_at 22 = .ok (.getfield 9, 3) := by decide +kernel
theorem dX0_at_25 : decode cX0_at 25 = .ok (.iload_n 1, 1) := by decide +kernel
theorem dX0_at_26 : decode cX0_at 26 = .ok (.iaload, 1) := by decide +kernel
theorem dX0_at_27 : decode cX0_at 27 = .ok (.goto 4, 3) := by decide +kernel
theorem dX0_at_30 : decode cX0_at 30 = .ok (.iconst (-1), 1) := by decide +kernel
theorem dX0_at_31 : decode cX0_at 31 = .ok (.ireturn, 1) := by decide +kernel
theorem dX0_upTo_0 : decode cX0_upTo 0 = .ok (.iconst 0, 1) := by decide +kernel
theorem dX0_upTo_1 : decode cX0_upTo 1 = .ok (.istore_n 2, 1) := by decide +kernel
theorem dX0_upTo_2 : decode cX0_upTo 2 = .ok (.iconst 0, 1) := by decide +kernel
theorem dX0_upTo_3 : decode cX0_upTo 3 = .ok (.istore_n 3, 1) := by decide +kernel
theorem dX0_upTo_4 : decode cX0_upTo 4 = .ok (.iload_n 3, 1) := by decide +kernel
theorem dX0_upTo_5 : decode cX0_upTo 5 = .ok (.aload_n 0, 1) := by decide +kernel
theorem dX0_upTo_6 : decode cX0_upTo 6 = .ok (.getfield 15, 3) := by decide +kernel
theorem dX0_upTo_9 : decode cX0_upTo 9 = .ok (.if_icmp .ge 31, 3) := by decide +kernel
theorem dX0_upTo_12 : decode cX0_upTo 12 = .ok (.iload_n 3, 1) := by decide +kernel
theorem dX0_upTo_13 : decode cX0_upTo 13 = .ok (.aload_n 0, 1) := by decide +kernel
theorem dX0_upTo_14 : decode cX0_upTo 14 = .ok (.getfield 9, 3) := by decide +kernel
theorem dX0_upTo_17 : decode cX0_upTo 17 = .ok (.arraylength, 1) := by decide +kernel
theorem dX0_upTo_18 : decode cX0_upTo 18 = .ok (.if_icmp .ge 22, 3) := by decide +kernel
theorem dX0_upTo_21 : decode cX0_upTo 21 = .ok (.aload_n 0, 1) := by decide +kernel
theorem dX0_upTo_22 : decode cX0_upTo 22 = .ok (.getfield 9, 3) := by decide +kernel
theorem dX0_upTo_25 : decode cX0_upTo 25 = .ok (.iload_n 3, 1) := by decide +kernel
theorem dX0_upTo_26 : decode cX0_upTo 26 = .ok (.iaload, 1) := by decide +kernel
theorem dX0_upTo_27 : decode cX0_upTo 27 = .ok (.iload_n 1, 1) := by decide +kernel
theorem dX0_upTo_28 : decode cX0_upTo 28 = .ok (.if_icmp .gt 6, 3) := by decide +kernel
theorem dX0_upTo_31 : decode cX0_upTo 31 = .ok (.iinc 2 1, 3) := by decide +kernel
theorem dX0_upTo_34 : decode cX0_upTo 34 = .ok (.iinc 3 1, 3) := by decide +kernel
theorem dX0_upTo_37 : decode cX0_upTo 37 = .ok (.goto (-33), 3) := by decide +kernel
theorem dX0_upTo_40 : decode cX0_upTo 40 = .ok (.iload_n 2, 1) := by decide +kernel
theorem dX0_upTo_41 : decode cX0_upTo 41 = .ok (.ireturn, 1) := by decide +kernel
theorem dX0_holds_0 : decode cX0_holds 0 = .ok (.aload_n 0, 1) := by decide +kernel
theorem dX0_holds_1 : decode cX0_holds 1 = .ok (.iload_n 1, 1) := by decide +kernel
theorem dX0_holds_2 : decode cX0_holds 2 = .ok (.invokevirtual 25, 3) := by decide +kernel
theorem dX0_holds_5 : decode cX0_holds 5 = .ok (.aload_n 0, 1) := by decide +kernel
theorem dX0_holds_6 : decode cX0_holds 6 = .ok (.iload_n 1, 1) := by decide +kernel
theorem dX0_holds_7 : decode cX0_holds 7 = .ok (.iconst 1, 1) := by decide +kernel
theorem dX0_holds_8 : decode cX0_holds 8 = .ok (.isub, 1) := by decide +kernel
theorem dX0_holds_9 : decode cX0_holds 9 = .ok (.invokevirtual 25, 3) := by decide +kernel
theorem dX0_holds_12 : decode cX0_holds 12 = .ok (.if_icmp .le 7, 3) := by decide +kernel
theorem dX0_holds_15 : decode cX0_holds 15 = .ok (.iconst 1, 1) := by decide +kernel
theorem dX0_holds_16 : decode cX0_holds 16 = .ok (.goto 4, 3) := by decide +kernel
theorem dX0_holds_19 : decode cX0_holds 19 = .ok (.iconst 0, 1) := by decide +kernel
theorem dX0_holds_20 : decode cX0_holds 20 = .ok (.ireturn, 1) := by decide +kernel
theorem dX0_firstFrom_0 : decode cX0_firstFrom 0 = .ok (.aload_n 0, 1) := by decide +kernel
theorem dX0_firstFrom_1 : decode cX0_firstFrom 1 = .ok (.aload_n 0, 1) := by decide +kernel
theorem dX0_firstFrom_2 : decode cX0_firstFrom 2 = .ok (.iload_n 1, 1) := by decide +kernel
theorem dX0_firstFrom_3 : decode cX0_firstFrom 3 = .ok (.iconst 1, 1) := by decide +kernel
theorem dX0_firstFrom_4 : decode cX0_firstFrom 4 = .ok (.isub, 1) := by decide +kernel
theorem dX0_firstFrom_5 : decode cX0_firstFrom 5 = .ok (.invokevirtual 25, 3) := by decide +kernel
theorem dX0_firstFrom_8 : decode cX0_firstFrom 8 = .ok (.invokevirtual 29, 3) := by decide +kernel
theorem dX0_firstFrom_11 : decode cX0_firstFrom 11 = .ok (.ireturn, 1) := by decide +kernel
theorem dX0_nearest_0 : decode cX0_nearest 0 = .ok (.iconst (-1), 1) := by decide +kernel
theorem dX0_nearest_1 : decode cX0_nearest 1 = .ok (.istore_n 2, 1) := by decide +kernel
theorem dX0_nearest_2 : decode cX0_nearest 2 = .ok (.iconst 0, 1) := by decide +kernel
theorem dX0_nearest_3 : decode cX0_nearest 3 = .ok (.istore_n 3, 1) := by decide +kernel
theorem dX0_nearest_4 : decode cX0_nearest 4 = .ok (.iload_n 3, 1) := by decide +kernel
theorem dX0_nearest_5 : decode cX0_nearest 5 = .ok (.aload_n 0, 1) := by decide +kernel
theorem dX0_nearest_6 : decode cX0_nearest 6 = .ok (.getfield 15, 3) := by decide +kernel
theorem dX0_nearest_9 : decode cX0_nearest 9 = .ok (.if_icmp .ge 37, 3) := by decide +kernel
theorem dX0_nearest_12 : decode cX0_nearest 12 = .ok (.iload_n 2, 1) := by decide +kernel
theorem dX0_nearest_13 : decode cX0_nearest 13 = .ok (.iconst (-1), 1) := by decide +kernel
theorem dX0_nearest_14 : decode cX0_nearest 14 = .ok (.if_icmp .eq 20, 3) := by decide +kernel
theorem dX0_nearest_17 : decode cX0_nearest 17 = .ok (.aload_n 0, 1) := by decide +kernel
theorem dX0_nearest_18 : decode cX0_nearest 18 = .ok (.iload_n 3, 1) := by decide +kernel
theorem dX0_nearest_19 : decode cX0_nearest 19 = .ok (.invokevirtual 29, 3) := by decide +kernel
theorem dX0_nearest_22 : decode cX0_nearest 22 = .ok (.iload_n 1, 1) := by decide +kernel
theorem dX0_nearest_23 : decode cX0_nearest 23 = .ok (.invokestatic 32, 3) := by decide +kernel
theorem dX0_nearest_26 : decode cX0_nearest 26 = .ok (.iload_n 2, 1) := by decide +kernel
theorem dX0_nearest_27 : decode cX0_nearest 27 = .ok (.iload_n 1, 1) := by decide +kernel
theorem dX0_nearest_28 : decode cX0_nearest 28 = .ok (.invokestatic 32, 3) := by decide +kernel
theorem dX0_nearest_31 : decode cX0_nearest 31 = .ok (.if_icmp .ge 9, 3) := by decide +kernel
theorem dX0_nearest_34 : decode cX0_nearest 34 = .ok (.aload_n 0, 1) := by decide +kernel
theorem dX0_nearest_35 : decode cX0_nearest 35 = .ok (.iload_n 3, 1) := by decide +kernel
theorem dX0_nearest_36 : decode cX0_nearest 36 = .ok (.invokevirtual 29, 3) := by decide +kernel
theorem dX0_nearest_39 : decode cX0_nearest 39 = .ok (.istore_n 2, 1) := by decide +kernel
theorem dX0_nearest_40 : decode cX0_nearest 40 = .ok (.iinc 3 1, 3) := by decide +kernel
theorem dX0_nearest_43 : decode cX0_nearest 43 = .ok (.goto (-39), 3) := by decide +kernel
theorem dX0_nearest_46 : decode cX0_nearest 46 = .ok (.iload_n 2, 1) := by decide +kernel
theorem dX0_nearest_47 : decode cX0_nearest 47 = .ok (.ireturn, 1) := by decide +kernel
theorem dX0_lacksRoomFor_0 : decode cX0_lacksRoomFor 0 = .ok (.aload_n 0, 1) := by decide +kernel
theorem dX0_lacksRoomFor_1 : decode cX0_lacksRoomFor 1 = .ok (.getfield 15, 3) := by decide +kernel
theorem dX0_lacksRoomFor_4 : decode cX0_lacksRoomFor 4 = .ok (.bipush 20, 2) := by decide +kernel
theorem dX0_lacksRoomFor_6 : decode cX0_lacksRoomFor 6 = .ok (.if_icmp .lt 15, 3) := by decide +kernel
theorem dX0_lacksRoomFor_9 : decode cX0_lacksRoomFor 9 = .ok (.aload_n 0, 1) := by decide +kernel
theorem dX0_lacksRoomFor_10 : decode cX0_lacksRoomFor 10 = .ok (.iload_n 1, 1) := by decide +kernel
theorem dX0_lacksRoomFor_11 : decode cX0_lacksRoomFor 11 = .ok (.invokevirtual 36, 3) := by decide +kernel
theorem dX0_lacksRoomFor_14 : decode cX0_lacksRoomFor 14 = .ok (.ifCond .ne 7, 3) := by decide +kernel
theorem dX0_lacksRoomFor_17 : decode cX0_lacksRoomFor 17 = .ok (.iconst 1, 1) := by decide +kernel
theorem dX0_lacksRoomFor_18 : decode cX0_lacksRoomFor 18 = .ok (.goto 4, 3) := by decide +kernel
theorem dX0_lacksRoomFor_21 : decode cX0_lacksRoomFor 21 = .ok (.iconst 0, 1) := by decide +kernel
theorem dX0_lacksRoomFor_22 : decode cX0_lacksRoomFor 22 = .ok (.ireturn, 1) := by decide +kernel
theorem dX0_make_0 : decode cX0_make 0 = .ok (.aload_n 0, 1) := by decide +kernel
theorem dX0_make_1 : decode cX0_make 1 = .ok (.iload_n 1, 1) := by decide +kernel
theorem dX0_make_2 : decode cX0_make 2 = .ok (.invokevirtual 36, 3) := by decide +kernel
theorem dX0_make_5 : decode cX0_make 5 = .ok (.ifCond .ne 22, 3) := by decide +kernel
theorem dX0_make_8 : decode cX0_make 8 = .ok (.aload_n 0, 1) := by decide +kernel
theorem dX0_make_9 : decode cX0_make 9 = .ok (.getfield 15, 3) := by decide +kernel
theorem dX0_make_12 : decode cX0_make 12 = .ok (.ifCond .lt 15, 3) := by decide +kernel
theorem dX0_make_15 : decode cX0_make 15 = .ok (.aload_n 0, 1) := by decide +kernel
theorem dX0_make_16 : decode cX0_make 16 = .ok (.getfield 15, 3) := by decide +kernel
theorem dX0_make_19 : decode cX0_make 19 = .ok (.aload_n 0, 1) := by decide +kernel
theorem dX0_make_20 : decode cX0_make 20 = .ok (.getfield 9, 3) := by decide +kernel
theorem dX0_make_23 : decode cX0_make 23 = .ok (.arraylength, 1) := by decide +kernel
theorem dX0_make_24 : decode cX0_make 24 = .ok (.if_icmp .lt 4, 3) := by decide +kernel
theorem dX0_make_27 : decode cX0_make 27 = .ok (.return_, 1) := by decide +kernel
theorem dX0_make_28 : decode cX0_make 28 = .ok (.aload_n 0, 1) := by decide +kernel
theorem dX0_make_29 : decode cX0_make 29 = .ok (.getfield 15, 3) := by decide +kernel
theorem dX0_make_32 : decode cX0_make 32 = .ok (.istore_n 2, 1) := by decide +kernel
theorem dX0_make_33 : decode cX0_make 33 = .ok (.iload_n 2, 1) := by decide +kernel
theorem dX0_make_34 : decode cX0_make 34 = .ok (.ifCond .le 35, 3) := by decide +kernel
theorem dX0_make_37 : decode cX0_make 37 = .ok (.aload_n 0, 1) := by decide +kernel
theorem dX0_make_38 : decode cX0_make 38 = .ok (.getfield 9, 3) := by decide +kernel
theorem dX0_make_41 : decode cX0_make 41 = .ok (.iload_n 2, 1) := by decide +kernel
theorem dX0_make_42 : decode cX0_make 42 = .ok (.iconst 1, 1) := by decide +kernel
theorem dX0_make_43 : decode cX0_make 43 = .ok (.isub, 1) := by decide +kernel
theorem dX0_make_44 : decode cX0_make 44 = .ok (.iaload, 1) := by decide +kernel
theorem dX0_make_45 : decode cX0_make 45 = .ok (.iload_n 1, 1) := by decide +kernel
theorem dX0_make_46 : decode cX0_make 46 = .ok (.if_icmp .le 23, 3) := by decide +kernel
theorem dX0_make_49 : decode cX0_make 49 = .ok (.aload_n 0, 1) := by decide +kernel
theorem dX0_make_50 : decode cX0_make 50 = .ok (.getfield 9, 3) := by decide +kernel
theorem dX0_make_53 : decode cX0_make 53 = .ok (.iload_n 2, 1) := by decide +kernel
theorem dX0_make_54 : decode cX0_make 54 = .ok (.aload_n 0, 1) := by decide +kernel
theorem dX0_make_55 : decode cX0_make 55 = .ok (.getfield 9, 3) := by decide +kernel
theorem dX0_make_58 : decode cX0_make 58 = .ok (.iload_n 2, 1) := by decide +kernel
theorem dX0_make_59 : decode cX0_make 59 = .ok (.iconst 1, 1) := by decide +kernel
theorem dX0_make_60 : decode cX0_make 60 = .ok (.isub, 1) := by decide +kernel
theorem dX0_make_61 : decode cX0_make 61 = .ok (.iaload, 1) := by decide +kernel
theorem dX0_make_62 : decode cX0_make 62 = .ok (.iastore, 1) := by decide +kernel
theorem dX0_make_63 : decode cX0_make 63 = .ok (.iinc 2 (-1), 3) := by decide +kernel
theorem dX0_make_66 : decode cX0_make 66 = .ok (.goto (-33), 3) := by decide +kernel
theorem dX0_make_69 : decode cX0_make 69 = .ok (.aload_n 0, 1) := by decide +kernel
theorem dX0_make_70 : decode cX0_make 70 = .ok (.getfield 9, 3) := by decide +kernel
theorem dX0_make_73 : decode cX0_make 73 = .ok (.iload_n 2, 1) := by decide +kernel
theorem dX0_make_74 : decode cX0_make 74 = .ok (.iload_n 1, 1) := by decide +kernel
theorem dX0_make_75 : decode cX0_make 75 = .ok (.iastore, 1) := by decide +kernel
theorem dX0_make_76 : decode cX0_make 76 = .ok (.aload_n 0, 1) := by decide +kernel
theorem dX0_make_77 : decode cX0_make 77 = .ok (.dup, 1) := by decide +kernel
theorem dX0_make_78 : decode cX0_make 78 = .ok (.getfield 15, 3) := by decide +kernel
theorem dX0_make_81 : decode cX0_make 81 = .ok (.iconst 1, 1) := by decide +kernel
theorem dX0_make_82 : decode cX0_make 82 = .ok (.iadd, 1) := by decide +kernel
theorem dX0_make_83 : decode cX0_make 83 = .ok (.putfield 15, 3) := by decide +kernel
theorem dX0_make_86 : decode cX0_make 86 = .ok (.return_, 1) := by decide +kernel
theorem dX0_takeAway_0 : decode cX0_takeAway 0 = .ok (.aload_n 0, 1) := by decide +kernel
theorem dX0_takeAway_1 : decode cX0_takeAway 1 = .ok (.iload_n 1, 1) := by decide +kernel
theorem dX0_takeAway_2 : decode cX0_takeAway 2 = .ok (.invokevirtual 36, 3) := by decide +kernel
theorem dX0_takeAway_5 : decode cX0_takeAway 5 = .ok (.ifCond .ne 4, 3) := by decide +kernel
theorem dX0_takeAway_8 : decode cX0_takeAway 8 = .ok (.return_, 1) := by decide +kernel
theorem dX0_takeAway_9 : decode cX0_takeAway 9 = .ok (.aload_n 0, 1) := by decide +kernel
theorem dX0_takeAway_10 : decode cX0_takeAway 10 = .ok (.iload_n 1, 1) := by decide +kernel
theorem dX0_takeAway_11 : decode cX0_takeAway 11 = .ok (.invokevirtual 25, 3) := by decide +kernel
theorem dX0_takeAway_14 : decode cX0_takeAway 14 = .ok (.istore_n 2, 1) := by decide +kernel
theorem dX0_takeAway_15 : decode cX0_takeAway 15 = .ok (.iload_n 2, 1) := by decide +kernel
theorem dX0_takeAway_16 : decode cX0_takeAway 16 = .ok (.ifCond .le 40, 3) := by decide +kernel
theorem dX0_takeAway_19 : decode cX0_takeAway 19 = .ok (.iload_n 2, 1) := by decide +kernel
theorem dX0_takeAway_20 : decode cX0_takeAway 20 = .ok (.aload_n 0, 1) := by decide +kernel
theorem dX0_takeAway_21 : decode cX0_takeAway 21 = .ok (.getfield 15, 3) := by decide +kernel
theorem dX0_takeAway_24 : decode cX0_takeAway 24 = .ok (.if_icmp .ge 32, 3) := by decide +kernel
theorem dX0_takeAway_27 : decode cX0_takeAway 27 = .ok (.iload_n 2, 1) := by decide +kernel
theorem dX0_takeAway_28 : decode cX0_takeAway 28 = .ok (.aload_n 0, 1) := by decide +kernel
theorem dX0_takeAway_29 : decode cX0_takeAway 29 = .ok (.getfield 9, 3) := by decide +kernel
theorem dX0_takeAway_32 : decode cX0_takeAway 32 = .ok (.arraylength, 1) := by decide +kernel
theorem dX0_takeAway_33 : decode cX0_takeAway 33 = .ok (.if_icmp .ge 23, 3) := by decide +kernel
theorem dX0_takeAway_36 : decode cX0_takeAway 36 = .ok (.aload_n 0, 1) := by decide +kernel
theorem dX0_takeAway_37 : decode cX0_takeAway 37 = .ok (.getfield 9, 3) := by decide +kernel
theorem dX0_takeAway_40 : decode cX0_takeAway 40 = .ok (.iload_n 2, 1) := by decide +kernel
theorem dX0_takeAway_41 : decode cX0_takeAway 41 = .ok (.iconst 1, 1) := by decide +kernel
theorem dX0_takeAway_42 : decode cX0_takeAway 42 = .ok (.isub, 1) := by decide +kernel
theorem dX0_takeAway_43 : decode cX0_takeAway 43 = .ok (.aload_n 0, 1) := by decide +kernel
theorem dX0_takeAway_44 : decode cX0_takeAway 44 = .ok (.getfield 9, 3) := by decide +kernel
theorem dX0_takeAway_47 : decode cX0_takeAway 47 = .ok (.iload_n 2, 1) := by decide +kernel
theorem dX0_takeAway_48 : decode cX0_takeAway 48 = .ok (.iaload, 1) := by decide +kernel
theorem dX0_takeAway_49 : decode cX0_takeAway 49 = .ok (.iastore, 1) := by decide +kernel
theorem dX0_takeAway_50 : decode cX0_takeAway 50 = .ok (.iinc 2 1, 3) := by decide +kernel
theorem dX0_takeAway_53 : decode cX0_takeAway 53 = .ok (.goto (-38), 3) := by decide +kernel
theorem dX0_takeAway_56 : decode cX0_takeAway 56 = .ok (.aload_n 0, 1) := by decide +kernel
theorem dX0_takeAway_57 : decode cX0_takeAway 57 = .ok (.dup, 1) := by decide +kernel
theorem dX0_takeAway_58 : decode cX0_takeAway 58 = .ok (.getfield 15, 3) := by decide +kernel
theorem dX0_takeAway_61 : decode cX0_takeAway 61 = .ok (.iconst 1, 1) := by decide +kernel
theorem dX0_takeAway_62 : decode cX0_takeAway 62 = .ok (.isub, 1) := by decide +kernel
theorem dX0_takeAway_63 : decode cX0_takeAway 63 = .ok (.putfield 15, 3) := by decide +kernel
theorem dX0_takeAway_66 : decode cX0_takeAway 66 = .ok (.return_, 1) := by decide +kernel
theorem dX1_init_0 : decode cX1_init 0 = .ok (.aload_n 0, 1) := by decide +kernel
theorem dX1_init_1 : decode cX1_init 1 = .ok (.invokespecial 3, 3) := by decide +kernel
theorem dX1_init_4 : decode cX1_init 4 = .ok (.aload_n 0, 1) := by decide +kernel
theorem dX1_init_5 : decode cX1_init 5 = .ok (.aload_n 1, 1) := by decide +kernel
theorem dX1_init_6 : decode cX1_init 6 = .ok (.putfield 9, 3) := by decide +kernel
theorem dX1_init_9 : decode cX1_init 9 = .ok (.aload_n 0, 1) := by decide +kernel
theorem dX1_init_10 : decode cX1_init 10 = .ok (.aload_n 2, 1) := by decide +kernel
theorem dX1_init_11 : decode cX1_init 11 = .ok (.putfield 15, 3) := by decide +kernel
theorem dX1_init_14 : decode cX1_init 14 = .ok (.aload_n 0, 1) := by decide +kernel
theorem dX1_init_15 : decode cX1_init 15 = .ok (.new 19, 3) := by decide +kernel
theorem dX1_init_18 : decode cX1_init 18 = .ok (.dup, 1) := by decide +kernel
theorem dX1_init_19 : decode cX1_init 19 = .ok (.invokespecial 21, 3) := by decide +kernel
theorem dX1_init_22 : decode cX1_init 22 = .ok (.putfield 22, 3) := by decide +kernel
theorem dX1_init_25 : decode cX1_init 25 = .ok (.aload_n 0, 1) := by decide +kernel
theorem dX1_init_26 : decode cX1_init 26 = .ok (.new 19, 3) := by decide +kernel
theorem dX1_init_29 : decode cX1_init 29 = .ok (.dup, 1) := by decide +kernel
theorem dX1_init_30 : decode cX1_init 30 = .ok (.invokespecial 21, 3) := by decide +kernel
theorem dX1_init_33 : decode cX1_init 33 = .ok (.putfield 26, 3) := by decide +kernel
theorem dX1_init_36 : decode cX1_init 36 = .ok (.return_, 1) := by decide +kernel
theorem dX1_placeCaption_0 : decode cX1_placeCaption 0 = .ok (.aload_n 0, 1) := by decide +kernel
theorem dX1_placeCaption_1 : decode cX1_placeCaption 1 = .ok (.getfield 9, 3) := by decide +kernel
theorem dX1_placeCaption_4 : decode cX1_placeCaption 4 = .ok (.iload_n 1, 1) := by decide +kernel
theorem dX1_placeCaption_5 : decode cX1_placeCaption 5 = .ok (.invokevirtual 29, 3) := by decide +kernel
theorem dX1_placeCaption_8 : decode cX1_placeCaption 8 = .ok (.astore 5, 2) := by decide +kernel
theorem dX1_placeCaption_10 : decode cX1_placeCaption 10 = .ok (.aload 5, 2) := by decide +kernel
theorem dX1_placeCaption_12 : decode cX1_placeCaption 12 = .ok (.iload_n 2, 1) := by decide +kernel
theorem dX1_placeCaption_13 : decode cX1_placeCaption 13 = .ok (.invokevirtual 35, 3) := by decide +kernel
theorem dX1_placeCaption_16 : decode cX1_placeCaption 16 = .ok (.istore 6, 2) := by decide +kernel
theorem dX1_placeCaption_18 : decode cX1_placeCaption 18 = .ok (.aload_n 0, 1) := by decide +kernel
theorem dX1_placeCaption_19 : decode cX1_placeCaption 19 = .ok (.getfield 22, 3) := by decide +kernel
theorem dX1_placeCaption_22 : decode cX1_placeCaption 22 = .ok (.invokevirtual 41, 3) := by decide +kernel
theorem dX1_placeCaption_25 : decode cX1_placeCaption 25 = .ok (.aload 5, 2) := by decide +kernel
theorem dX1_placeCaption_27 : decode cX1_placeCaption 27 = .ok (.aload_n 0, 1) := by decide +kernel
theorem dX1_placeCaption_28 : decode cX1_placeCaption 28 = .ok (.getfield 22, 3) := by decide +kernel
theorem dX1_placeCaption_31 : decode cX1_placeCaption 31 = .ok (.iload_n 2, 1) := by decide +kernel
theorem dX1_placeCaption_32 : decode cX1_placeCaption 32 = .ok (.iconst 0, 1) := by decide +kernel
theorem dX1_placeCaption_33 : decode cX1_placeCaption 33 = .ok (.aload 5, 2) := by decide +kernel
theorem dX1_placeCaption_35 : decode cX1_placeCaption 35 = .ok (.iload_n 2, 1) := by decide +kernel
theorem dX1_placeCaption_36 : decode cX1_placeCaption 36 = .ok (.invokevirtual 44, 3) := by decide +kernel
theorem dX1_placeCaption_39 : decode cX1_placeCaption 39 = .ok (.invokevirtual 47, 3) := by decide +kernel
theorem dX1_placeCaption_42 : decode cX1_placeCaption 42 = .ok (.aload 5, 2) := by decide +kernel
theorem dX1_placeCaption_44 : decode cX1_placeCaption 44 = .ok (.iload_n 2, 1) := by decide +kernel
theorem dX1_placeCaption_45 : decode cX1_placeCaption 45 = .ok (.invokevirtual 51, 3) := by decide +kernel
theorem dX1_placeCaption_48 : decode cX1_placeCaption 48 = .ok (.aload 5, 2) := by decide +kernel
theorem dX1_placeCaption_50 : decode cX1_placeCaption 50 = .ok (.iload 6, 2) := by decide +kernel
theorem dX1_placeCaption_52 : decode cX1_placeCaption 52 = .ok (.iload_n 3, 1) := by decide +kernel
theorem dX1_placeCaption_53 : decode cX1_placeCaption 53 = .ok (.iload 4, 2) := by decide +kernel
theorem dX1_placeCaption_55 : decode cX1_placeCaption 55 = .ok (.aload_n 0, 1) := by decide +kernel
theorem dX1_placeCaption_56 : decode cX1_placeCaption 56 = .ok (.getfield 22, 3) := by decide +kernel
theorem dX1_placeCaption_59 : decode cX1_placeCaption 59 = .ok (.invokevirtual 55, 3) := by decide +kernel
theorem dX1_placeCaption_62 : decode cX1_placeCaption 62 = .ok (.ireturn, 1) := by decide +kernel
theorem dX1_splitRefusal_0 : decode cX1_splitRefusal 0 = .ok (.aload_n 0, 1) := by decide +kernel
theorem dX1_splitRefusal_1 : decode cX1_splitRefusal 1 = .ok (.getfield 9, 3) := by decide +kernel
theorem dX1_splitRefusal_4 : decode cX1_splitRefusal 4 = .ok (.iload_n 1, 1) := by decide +kernel
theorem dX1_splitRefusal_5 : decode cX1_splitRefusal 5 = .ok (.invokevirtual 29, 3) := by decide +kernel
theorem dX1_splitRefusal_8 : decode cX1_splitRefusal 8 = .ok (.astore 4, 2) := by decide +kernel
theorem dX1_splitRefusal_10 : decode cX1_splitRefusal 10 = .ok (.aload 4, 2) := by decide +kernel
theorem dX1_splitRefusal_12 : decode cX1_splitRefusal 12 = .ok (.iload_n 2, 1) := by decide +kernel
theorem dX1_splitRefusal_13 : decode cX1_splitRefusal 13 = .ok (.iload_n 3, 1) := by decide +kernel
theorem dX1_splitRefusal_14 : decode cX1_splitRefusal 14 = .ok (.invokevirtual 59, 3) := by decide +kernel
theorem dX1_splitRefusal_17 : decode cX1_splitRefusal 17 = .ok (.istore 5, 2) := by decide +kernel
theorem dX1_splitRefusal_19 : decode cX1_splitRefusal 19 = .ok (.iload 5, 2) := by decide +kernel
theorem dX1_splitRefusal_21 : decode cX1_splitRefusal 21 = .ok (.bipush 95, 2) := by decide +kernel
theorem dX1_splitRefusal_23 : decode cX1_splitRefusal 23 = .ok (.if_icmp .eq 12, 3) := by decide +kernel
theorem dX1_splitRefusal_26 : decode cX1_splitRefusal 26 = .ok (.iload 5, 2) := by decide +kernel
theorem dX1_splitRefusal_28 : decode cX1_splitRefusal 28 = .ok (.bipush 124, 2) := by decide +kernel
theorem dX1_splitRefusal_30 : decode cX1_splitRefusal 30 = .ok (.if_icmp .eq 5, 3) := by decide +kernel
theorem dX1_splitRefusal_33 : decode cX1_splitRefusal 33 = .ok (.iconst 4, 1) := by decide +kernel
theorem dX1_splitRefusal_34 : decode cX1_splitRefusal 34 = .ok (.ireturn, 1) := by decide +kernel
theorem dX1_splitRefusal_35 : decode cX1_splitRefusal 35 = .ok (.aload_n 0, 1) := by decide +kernel
theorem dX1_splitRefusal_36 : decode cX1_splitRefusal 36 = .ok (.aload 4, 2) := by decide +kernel
theorem dX1_splitRefusal_38 : decode cX1_splitRefusal 38 = .ok (.iload_n 2, 1) := by decide +kernel
theorem dX1_splitRefusal_39 : decode cX1_splitRefusal 39 = .ok (.iload_n 3, 1) := by decide +kernel
theorem dX1_splitRefusal_40 : decode cX1_splitRefusal 40 = .ok (.invokevirtual 63, 3) := by decide +kernel
theorem dX1_splitRefusal_43 : decode cX1_splitRefusal 43 = .ok (.aload_n 0, 1) := by decide +kernel
theorem dX1_splitRefusal_44 : decode cX1_splitRefusal 44 = .ok (.getfield 22, 3) := by decide +kernel
theorem dX1_splitRefusal_47 : decode cX1_splitRefusal 47 = .ok (.invokevirtual 67, 3) := by decide +kernel
theorem dX1_splitRefusal_50 : decode cX1_splitRefusal 50 = .ok (.ifCond .eq 13, 3) := by decide +kernel
theorem dX1_splitRefusal_53 : decode cX1_splitRefusal 53 = .ok (.aload_n 0, 1) := by decide +kernel
theorem dX1_splitRefusal_54 : decode cX1_splitRefusal 54 = .ok (.getfield 26, 3) := by decide +kernel
theorem dX1_splitRefusal_57 : decode cX1_splitRefusal 57 = .ok (.invokevirtual 67, 3) := by decide +kernel
theorem dX1_splitRefusal_60 : decode cX1_splitRefusal 60 = .ok (.ifCond .ne 5, 3) := by decide +kernel
theorem dX1_splitRefusal_63 : decode cX1_splitRefusal 63 = .ok (.iconst 4, 1) := by decide +kernel
theorem dX1_splitRefusal_64 : decode cX1_splitRefusal 64 = .ok (.ireturn, 1) := by decide +kernel
theorem dX1_splitRefusal_65 : decode cX1_splitRefusal 65 = .ok (.aload_n 0, 1) := by decide +kernel
theorem dX1_splitRefusal_66 : decode cX1_splitRefusal 66 = .ok (.aload 4, 2) := by decide +kernel
theorem dX1_splitRefusal_68 : decode cX1_splitRefusal 68 = .ok (.iload_n 2, 1) := by decide +kernel
theorem dX1_splitRefusal_69 : decode cX1_splitRefusal 69 = .ok (.iload_n 3, 1) := by decide +kernel
theorem dX1_splitRefusal_70 : decode cX1_splitRefusal 70 = .ok (.invokevirtual 71, 3) := by decide +kernel
theorem dX1_splitRefusal_73 : decode cX1_splitRefusal 73 = .ok (.aload 4, 2) := by decide +kernel
theorem dX1_splitRefusal_75 : decode cX1_splitRefusal 75 = .ok (.iload_n 2, 1) := by decide +kernel
theorem dX1_splitRefusal_76 : decode cX1_splitRefusal 76 = .ok (.invokevirtual 75, 3) := by decide +kernel
theorem dX1_splitRefusal_79 : decode cX1_splitRefusal 79 = .ok (.if_icmp .lt 5, 3) := by decide +kernel
theorem dX1_splitRefusal_82 : decode cX1_splitRefusal 82 = .ok (.iconst 2, 1) := by decide +kernel
theorem dX1_splitRefusal_83 : decode cX1_splitRefusal 83 = .ok (.ireturn, 1) := by decide +kernel
theorem dX1_splitRefusal_84 : decode cX1_splitRefusal 84 = .ok (.aload 4, 2) := by decide +kernel
theorem dX1_splitRefusal_86 : decode cX1_splitRefusal 86 = .ok (.getfield 78, 3) := by decide +kernel
theorem dX1_splitRefusal_89 : decode cX1_splitRefusal 89 = .ok (.bipush 16, 2) := by decide +kernel
theorem dX1_splitRefusal_91 : decode cX1_splitRefusal 91 = .ok (.if_icmp .lt 8, 3) := by decide +kernel
theorem dX1_splitRefusal_94 : decode cX1_splitRefusal 94 = .ok (.bipush 8, 2) := by decide +kernel
theorem dX1_splitRefusal_96 : decode cX1_splitRefusal 96 = .ok (.goto 4, 3) := by decide +kernel
theorem dX1_splitRefusal_99 : decode cX1_splitRefusal 99 = .ok (.iconst 0, 1) := by decide +kernel
theorem dX1_splitRefusal_100 : decode cX1_splitRefusal 100 = .ok (.ireturn, 1) := by decide +kernel
theorem dX1_splitCaption_0 : decode cX1_splitCaption 0 = .ok (.aload_n 0, 1) := by decide +kernel
theorem dX1_splitCaption_1 : decode cX1_splitCaption 1 = .ok (.getfield 9, 3) := by decide +kernel
theorem dX1_splitCaption_4 : decode cX1_splitCaption 4 = .ok (.iload_n 1, 1) := by decide +kernel
theorem dX1_splitCaption_5 : decode cX1_splitCaption 5 = .ok (.invokevirtual 29, 3) := by decide +kernel
theorem dX1_splitCaption_8 : decode cX1_splitCaption 8 = .ok (.astore 4, 2) := by decide +kernel
theorem dX1_splitCaption_10 : decode cX1_splitCaption 10 = .ok (.aload_n 0, 1) := by decide +kernel
theorem dX1_splitCaption_11 : decode cX1_splitCaption 11 = .ok (.aload 4, 2) := by decide +kernel
theorem dX1_splitCaption_13 : decode cX1_splitCaption 13 = .ok (.iload_n 2, 1) := by decide +kernel
theorem dX1_splitCaption_14 : decode cX1_splitCaption 14 = .ok (.iload_n 3, 1) := by decide +kernel
theorem dX1_splitCaption_15 : decode cX1_splitCaption 15 = .ok (.invokevirtual 71, 3) := by decide +kernel
theorem dX1_splitCaption_18 : decode cX1_splitCaption 18 = .ok (.istore 5, 2) := by decide +kernel
theorem dX1_splitCaption_20 : decode cX1_splitCaption 20 = .ok (.aload 4, 2) := by decide +kernel
theorem dX1_splitCaption_22 : decode cX1_splitCaption 22 = .ok (.iload_n 2, 1) := by decide +kernel
theorem dX1_splitCaption_23 : decode cX1_splitCaption 23 = .ok (.invokevirtual 82, 3) := by decide +kernel
theorem dX1_splitCaption_26 : decode cX1_splitCaption 26 = .ok (.iload 5, 2) := by decide +kernel
theorem dX1_splitCaption_28 : decode cX1_splitCaption 28 = .ok (.iadd, 1) := by decide +kernel
theorem dX1_splitCaption_29 : decode cX1_splitCaption 29 = .ok (.istore 6, 2) := by decide +kernel
theorem dX1_splitCaption_31 : decode cX1_splitCaption 31 = .ok (.aload 4, 2) := by decide +kernel
theorem dX1_splitCaption_33 : decode cX1_splitCaption 33 = .ok (.iload_n 2, 1) := by decide +kernel
theorem dX1_splitCaption_34 : decode cX1_splitCaption 34 = .ok (.invokevirtual 85, 3) := by decide +kernel
theorem dX1_splitCaption_37 : decode cX1_splitCaption 37 = .ok (.istore 7, 2) := by decide +kernel
theorem dX1_splitCaption_39 : decode cX1_splitCaption 39 = .ok (.aload_n 0, 1) := by decide +kernel
theorem dX1_splitCaption_40 : decode cX1_splitCaption 40 = .ok (.aload 4, 2) := by decide +kernel
theorem dX1_splitCaption_42 : decode cX1_splitCaption 42 = .ok (.iload_n 2, 1) := by decide +kernel
theorem dX1_splitCaption_43 : decode cX1_splitCaption 43 = .ok (.iload_n 3, 1) := by decide +kernel
theorem dX1_splitCaption_44 : decode cX1_splitCaption 44 = .ok (.invokevirtual 63, 3) := by decide +kernel
theorem dX1_splitCaption_47 : decode cX1_splitCaption 47 = .ok (.aload 4, 2) := by decide +kernel
theorem dX1_splitCaption_49 : decode cX1_splitCaption 49 = .ok (.iload_n 2, 1) := by decide +kernel
theorem dX1_splitCaption_50 : decode cX1_splitCaption 50 = .ok (.aload 4, 2) := by decide +kernel
theorem dX1_splitCaption_52 : decode cX1_splitCaption 52 = .ok (.iload_n 2, 1) := by decide +kernel
theorem dX1_splitCaption_53 : decode cX1_splitCaption 53 = .ok (.invokevirtual 82, 3) := by decide +kernel
theorem dX1_splitCaption_56 : decode cX1_splitCaption 56 = .ok (.iload 6, 2) := by decide +kernel
theorem dX1_splitCaption_58 : decode cX1_splitCaption 58 = .ok (.invokevirtual 88, 3) := by decide +kernel
theorem dX1_splitCaption_61 : decode cX1_splitCaption 61 = .ok (.aload 4, 2) := by decide +kernel
theorem dX1_splitCaption_63 : decode cX1_splitCaption 63 = .ok (.iload_n 2, 1) := by decide +kernel
theorem dX1_splitCaption_64 : decode cX1_splitCaption 64 = .ok (.aload_n 0, 1) := by decide +kernel
theorem dX1_splitCaption_65 : decode cX1_splitCaption 65 = .ok (.getfield 22, 3) := by decide +kernel
theorem dX1_splitCaption_68 : decode cX1_splitCaption 68 = .ok (.invokevirtual 92, 3) := by decide +kernel
theorem dX1_splitCaption_71 : decode cX1_splitCaption 71 = .ok (.aload 4, 2) := by decide +kernel
theorem dX1_splitCaption_73 : decode cX1_splitCaption 73 = .ok (.aload 4, 2) := by decide +kernel
theorem dX1_splitCaption_75 : decode cX1_splitCaption 75 = .ok (.iload_n 2, 1) := by decide +kernel
theorem dX1_splitCaption_76 : decode cX1_splitCaption 76 = .ok (.invokevirtual 35, 3) := by decide +kernel
theorem dX1_splitCaption_79 : decode cX1_splitCaption 79 = .ok (.iload 6, 2) := by decide +kernel
theorem dX1_splitCaption_81 : decode cX1_splitCaption 81 = .ok (.iload 7, 2) := by decide +kernel
theorem dX1_splitCaption_83 : decode cX1_splitCaption 83 = .ok (.aload_n 0, 1) := by decide +kernel
theorem dX1_splitCaption_84 : decode cX1_splitCaption 84 = .ok (.getfield 26, 3) := by decide +kernel
theorem dX1_splitCaption_87 : decode cX1_splitCaption 87 = .ok (.invokevirtual 55, 3) := by decide +kernel
theorem dX1_splitCaption_90 : decode cX1_splitCaption 90 = .ok (.pop, 1) := by decide +kernel
theorem dX1_splitCaption_91 : decode cX1_splitCaption 91 = .ok (.iload 5, 2) := by decide +kernel
theorem dX1_splitCaption_93 : decode cX1_splitCaption 93 = .ok (.ireturn, 1) := by decide +kernel
theorem dX1_divideText_0 : decode cX1_divideText 0 = .ok (.aload_n 0, 1) := by decide +kernel
theorem dX1_divideText_1 : decode cX1_divideText 1 = .ok (.getfield 22, 3) := by decide +kernel
theorem dX1_divideText_4 : decode cX1_divideText 4 = .ok (.invokevirtual 41, 3) := by decide +kernel
theorem dX1_divideText_7 : decode cX1_divideText 7 = .ok (.aload_n 1, 1) := by decide +kernel
theorem dX1_divideText_8 : decode cX1_divideText 8 = .ok (.aload_n 0, 1) := by decide +kernel
theorem dX1_divideText_9 : decode cX1_divideText 9 = .ok (.getfield 22, 3) := by decide +kernel
theorem dX1_divideText_12 : decode cX1_divideText 12 = .ok (.iload_n 2, 1) := by decide +kernel
theorem dX1_divideText_13 : decode cX1_divideText 13 = .ok (.iconst 0, 1) := by decide +kernel
theorem dX1_divideText_14 : decode cX1_divideText 14 = .ok (.iload_n 3, 1) := by decide +kernel
theorem dX1_divideText_15 : decode cX1_divideText 15 = .ok (.invokevirtual 47, 3) := by decide +kernel
theorem dX1_divideText_18 : decode cX1_divideText 18 = .ok (.aload_n 0, 1) := by decide +kernel
theorem dX1_divideText_19 : decode cX1_divideText 19 = .ok (.getfield 26, 3) := by decide +kernel
theorem dX1_divideText_22 : decode cX1_divideText 22 = .ok (.invokevirtual 41, 3) := by decide +kernel
theorem dX1_divideText_25 : decode cX1_divideText 25 = .ok (.aload_n 1, 1) := by decide +kernel
theorem dX1_divideText_26 : decode cX1_divideText 26 = .ok (.aload_n 0, 1) := by decide +kernel
theorem dX1_divideText_27 : decode cX1_divideText 27 = .ok (.getfield 26, 3) := by decide +kernel
theorem dX1_divideText_30 : decode cX1_divideText 30 = .ok (.iload_n 2, 1) := by decide +kernel
theorem dX1_divideText_31 : decode cX1_divideText 31 = .ok (.iload_n 3, 1) := by decide +kernel
theorem dX1_divideText_32 : decode cX1_divideText 32 = .ok (.iconst 1, 1) := by decide +kernel
theorem dX1_divideText_33 : decode cX1_divideText 33 = .ok (.iadd, 1) := by decide +kernel
theorem dX1_divideText_34 : decode cX1_divideText 34 = .ok (.aload_n 1, 1) := by decide +kernel
theorem dX1_divideText_35 : decode cX1_divideText 35 = .ok (.iload_n 2, 1) := by decide +kernel
theorem dX1_divideText_36 : decode cX1_divideText 36 = .ok (.invokevirtual 44, 3) := by decide +kernel
theorem dX1_divideText_39 : decode cX1_divideText 39 = .ok (.invokevirtual 47, 3) := by decide +kernel
theorem dX1_divideText_42 : decode cX1_divideText 42 = .ok (.return_, 1) := by decide +kernel
theorem dX1_framesOfHead_0 : decode cX1_framesOfHead 0 = .ok (.aload_n 1, 1) := by decide +kernel
theorem dX1_framesOfHead_1 : decode cX1_framesOfHead 1 = .ok (.iload_n 2, 1) := by decide +kernel
theorem dX1_framesOfHead_2 : decode cX1_framesOfHead 2 = .ok (.iconst 0, 1) := by decide +kernel
theorem dX1_framesOfHead_3 : decode cX1_framesOfHead 3 = .ok (.iload_n 3, 1) := by decide +kernel
theorem dX1_framesOfHead_4 : decode cX1_framesOfHead 4 = .ok (.invokevirtual 96, 3) := by decide +kernel
theorem dX1_framesOfHead_7 : decode cX1_framesOfHead 7 = .ok (.istore 4, 2) := by decide +kernel
theorem dX1_framesOfHead_9 : decode cX1_framesOfHead 9 = .ok (.iload 4, 2) := by decide +kernel
theorem dX1_framesOfHead_11 : decode cX1_framesOfHead 11 = .ok (.aload_n 1, 1) := by decide +kernel
theorem dX1_framesOfHead_12 : decode cX1_framesOfHead 12 = .ok (.iload_n 2, 1) := by decide +kernel
theorem dX1_framesOfHead_13 : decode cX1_framesOfHead 13 = .ok (.iload_n 3, 1) := by decide +kernel
theorem dX1_framesOfHead_14 : decode cX1_framesOfHead 14 = .ok (.iconst 1, 1) := by decide +kernel
theorem dX1_framesOfHead_15 : decode cX1_framesOfHead 15 = .ok (.iadd, 1) := by decide +kernel
theorem dX1_framesOfHead_16 : decode cX1_framesOfHead 16 = .ok (.aload_n 1, 1) := by decide +kernel
theorem dX1_framesOfHead_17 : decode cX1_framesOfHead 17 = .ok (.iload_n 2, 1) := by decide +kernel
theorem dX1_framesOfHead_18 : decode cX1_framesOfHead 18 = .ok (.invokevirtual 44, 3) := by decide +kernel
theorem dX1_framesOfHead_21 : decode cX1_framesOfHead 21 = .ok (.invokevirtual 96, 3) := by decide +kernel
theorem dX1_framesOfHead_24 : decode cX1_framesOfHead 24 = .ok (.iadd, 1) := by decide +kernel
theorem dX1_framesOfHead_25 : decode cX1_framesOfHead 25 = .ok (.istore 5, 2) := by decide +kernel
theorem dX1_framesOfHead_27 : decode cX1_framesOfHead 27 = .ok (.iload 5, 2) := by decide +kernel
theorem dX1_framesOfHead_29 : decode cX1_framesOfHead 29 = .ok (.ifCond .le 21, 3) := by decide +kernel
theorem dX1_framesOfHead_32 : decode cX1_framesOfHead 32 = .ok (.iconst 1, 1) := by decide +kernel
theorem dX1_framesOfHead_33 : decode cX1_framesOfHead 33 = .ok (.aload_n 1, 1) := by decide +kernel
theorem dX1_framesOfHead_34 : decode cX1_framesOfHead 34 = .ok (.iload_n 2, 1) := by decide +kernel
theorem dX1_framesOfHead_35 : decode cX1_framesOfHead 35 = .ok (.invokevirtual 75, 3) := by decide +kernel
theorem dX1_framesOfHead_38 : decode cX1_framesOfHead 38 = .ok (.iload 4, 2) := by decide +kernel
theorem dX1_framesOfHead_40 : decode cX1_framesOfHead 40 = .ok (.imul, 1) := by decide +kernel
theorem dX1_framesOfHead_41 : decode cX1_framesOfHead 41 = .ok (.iload 5, 2) := by decide +kernel
theorem dX1_framesOfHead_43 : decode cX1_framesOfHead 43 = .ok (.idiv, 1) := by decide +kernel
theorem dX1_framesOfHead_44 : decode cX1_framesOfHead 44 = .ok (.invokestatic 100, 3) := by decide +kernel
theorem dX1_framesOfHead_47 : decode cX1_framesOfHead 47 = .ok (.goto 4, 3) := by decide +kernel
theorem dX1_framesOfHead_50 : decode cX1_framesOfHead 50 = .ok (.iconst 1, 1) := by decide +kernel
theorem dX1_framesOfHead_51 : decode cX1_framesOfHead 51 = .ok (.ireturn, 1) := by decide +kernel
theorem dX1_mergeCaption_0 : decode cX1_mergeCaption 0 = .ok (.aload_n 0, 1) := by decide +kernel
theorem dX1_mergeCaption_1 : decode cX1_mergeCaption 1 = .ok (.getfield 9, 3) := by decide +kernel
theorem dX1_mergeCaption_4 : decode cX1_mergeCaption 4 = .ok (.iload_n 1, 1) := by decide +kernel
theorem dX1_mergeCaption_5 : decode cX1_mergeCaption 5 = .ok (.invokevirtual 29, 3) := by decide +kernel
theorem dX1_mergeCaption_8 : decode cX1_mergeCaption 8 = .ok (.astore_n 3, 1) := by decide +kernel
theorem dX1_mergeCaption_9 : decode cX1_mergeCaption 9 = .ok (.aload_n 0, 1) := by decide +kernel
theorem dX1_mergeCaption_10 : decode cX1_mergeCaption 10 = .ok (.getfield 15, 3) := by decide +kernel
theorem dX1_mergeCaption_13 : decode cX1_mergeCaption 13 = .ok (.iload_n 1, 1) := by decide +kernel
theorem dX1_mergeCaption_14 : decode cX1_mergeCaption 14 = .ok (.iload_n 2, 1) := by decide +kernel
theorem dX1_mergeCaption_15 : decode cX1_mergeCaption 15 = .ok (.invokevirtual 105, 3) := by decide +kernel
theorem dX1_mergeCaption_18 : decode cX1_mergeCaption 18 = .ok (.astore 4, 2) := by decide +kernel
theorem dX1_mergeCaption_20 : decode cX1_mergeCaption 20 = .ok (.aload_n 3, 1) := by decide +kernel
theorem dX1_mergeCaption_21 : decode cX1_mergeCaption 21 = .ok (.iload_n 2, 1) := by decide +kernel
theorem dX1_mergeCaption_22 : decode cX1_mergeCaption 22 = .ok (.aload_n 3, 1) := by decide +kernel
theorem dX1_mergeCaption_23 : decode cX1_mergeCaption 23 = .ok (.iload_n 2, 1) := by decide +kernel
theorem dX1_mergeCaption_24 : decode cX1_mergeCaption 24 = .ok (.invokevirtual 82, 3) := by decide +kernel
theorem dX1_mergeCaption_27 : decode cX1_mergeCaption 27 = .ok (.aload_n 3, 1) := by decide +kernel
theorem dX1_mergeCaption_28 : decode cX1_mergeCaption 28 = .ok (.iload_n 2, 1) := by decide +kernel
theorem dX1_mergeCaption_29 : decode cX1_mergeCaption 29 = .ok (.iconst 1, 1) := by decide +kernel
theorem dX1_mergeCaption_30 : decode cX1_mergeCaption 30 = .ok (.iadd, 1) := by decide +kernel
theorem dX1_mergeCaption_31 : decode cX1_mergeCaption 31 = .ok (.invokevirtual 85, 3) := by decide +kernel
theorem dX1_mergeCaption_34 : decode cX1_mergeCaption 34 = .ok (.invokevirtual 88, 3) := by decide +kernel
theorem dX1_mergeCaption_37 : decode cX1_mergeCaption 37 = .ok (.aload_n 3, 1) := by decide +kernel
theorem dX1_mergeCaption_38 : decode cX1_mergeCaption 38 = .ok (.iload_n 2, 1) := by decide +kernel
theorem dX1_mergeCaption_39 : decode cX1_mergeCaption 39 = .ok (.aload 4, 2) := by decide +kernel
theorem dX1_mergeCaption_41 : decode cX1_mergeCaption 41 = .ok (.invokevirtual 92, 3) := by decide +kernel
theorem dX1_mergeCaption_44 : decode cX1_mergeCaption 44 = .ok (.aload_n 3, 1) := by decide +kernel
theorem dX1_mergeCaption_45 : decode cX1_mergeCaption 45 = .ok (.iload_n 2, 1) := by decide +kernel
theorem dX1_mergeCaption_46 : decode cX1_mergeCaption 46 = .ok (.iconst 1, 1) := by decide +kernel
theorem dX1_mergeCaption_47 : decode cX1_mergeCaption 47 = .ok (.iadd, 1) := by decide +kernel
theorem dX1_mergeCaption_48 : decode cX1_mergeCaption 48 = .ok (.invokevirtual 51, 3) := by decide +kernel
theorem dX1_mergeCaption_51 : decode cX1_mergeCaption 51 = .ok (.aload_n 3, 1) := by decide +kernel
theorem dX1_mergeCaption_52 : decode cX1_mergeCaption 52 = .ok (.iload_n 2, 1) := by decide +kernel
theorem dX1_mergeCaption_53 : decode cX1_mergeCaption 53 = .ok (.invokevirtual 111, 3) := by decide +kernel
theorem dX1_mergeCaption_56 : decode cX1_mergeCaption 56 = .ok (.ireturn, 1) := by decide +kernel
theorem dX1_snapped_0 : decode cX1_snapped 0 = .ok (.aload_n 0, 1) := by decide +kernel
theorem dX1_snapped_1 : decode cX1_snapped 1 = .ok (.getfield 9, 3) := by decide +kernel
theorem dX1_snapped_4 : decode cX1_snapped 4 = .ok (.iload_n 1, 1) := by decide +kernel
theorem dX1_snapped_5 : decode cX1_snapped 5 = .ok (.invokevirtual 114, 3) := by decide +kernel
theorem dX1_snapped_8 : decode cX1_snapped 8 = .ok (.ifCond .eq 17, 3) := by decide +kernel
theorem dX1_snapped_11 : decode cX1_snapped 11 = .ok (.aload_n 0, 1) := by decide +kernel
theorem dX1_snapped_12 : decode cX1_snapped 12 = .ok (.getfield 9, 3) := by decide +kernel
theorem dX1_snapped_15 : decode cX1_snapped 15 = .ok (.getfield 118, 3) := by decide +kernel
theorem dX1_snapped_18 : decode cX1_snapped 18 = .ok (.iload_n 1, 1) := by decide +kernel
theorem dX1_snapped_19 : decode cX1_snapped 19 = .ok (.invokevirtual 122, 3) := by decide +kernel
theorem dX1_snapped_22 : decode cX1_snapped 22 = .ok (.goto 4, 3) := by decide +kernel
theorem dX1_snapped_25 : decode cX1_snapped 25 = .ok (.iload_n 1, 1) := by decide +kernel
theorem dX1_snapped_26 : decode cX1_snapped 26 = .ok (.ireturn, 1) := by decide +kernel
theorem dX1_snapRefusal_0 : decode cX1_snapRefusal 0 = .ok (.aload_n 0, 1) := by decide +kernel
theorem dX1_snapRefusal_1 : decode cX1_snapRefusal 1 = .ok (.getfield 9, 3) := by decide +kernel
theorem dX1_snapRefusal_4 : decode cX1_snapRefusal 4 = .ok (.iload_n 1, 1) := by decide +kernel
theorem dX1_snapRefusal_5 : decode cX1_snapRefusal 5 = .ok (.invokevirtual 29, 3) := by decide +kernel
theorem dX1_snapRefusal_8 : decode cX1_snapRefusal 8 = .ok (.astore_n 3, 1) := by decide +kernel
theorem dX1_snapRefusal_9 : decode cX1_snapRefusal 9 = .ok (.aload_n 0, 1) := by decide +kernel
theorem dX1_snapRefusal_10 : decode cX1_snapRefusal 10 = .ok (.getfield 9, 3) := by decide +kernel
theorem dX1_snapRefusal_13 : decode cX1_snapRefusal 13 = .ok (.iload_n 1, 1) := by decide +kernel
theorem dX1_snapRefusal_14 : decode cX1_snapRefusal 14 = .ok (.iload_n 2, 1) := by decide +kernel
theorem dX1_snapRefusal_15 : decode cX1_snapRefusal 15 = .ok (.aload_n 0, 1) := by decide +kernel
theorem dX1_snapRefusal_16 : decode cX1_snapRefusal 16 = .ok (.aload_n 3, 1) := by decide +kernel
theorem dX1_snapRefusal_17 : decode cX1_snapRefusal 17 = .ok (.iload_n 2, 1) := by decide +kernel
theorem dX1_snapRefusal_18 : decode cX1_snapRefusal 18 = .ok (.invokevirtual 82, 3) := by decide +kernel
theorem dX1_snapRefusal_21 : decode cX1_snapRefusal 21 = .ok (.invokevirtual 127, 3) := by decide +kernel
theorem dX1_snapRefusal_24 : decode cX1_snapRefusal 24 = .ok (.aload_n 0, 1) := by decide +kernel
theorem dX1_snapRefusal_25 : decode cX1_snapRefusal 25 = .ok (.aload_n 3, 1) := by decide +kernel
theorem dX1_snapRefusal_26 : decode cX1_snapRefusal 26 = .ok (.iload_n 2, 1) := by decide +kernel
theorem dX1_snapRefusal_27 : decode cX1_snapRefusal 27 = .ok (.invokevirtual 85, 3) := by decide +kernel
theorem dX1_snapRefusal_30 : decode cX1_snapRefusal 30 = .ok (.invokevirtual 127, 3) := by decide +kernel
theorem dX1_snapRefusal_33 : decode cX1_snapRefusal 33 = .ok (.invokevirtual 130, 3) := by decide +kernel
theorem dX1_snapRefusal_36 : decode cX1_snapRefusal 36 = .ok (.ireturn, 1) := by decide +kernel
theorem dX1_snapCaption_0 : decode cX1_snapCaption 0 = .ok (.aload_n 0, 1) := by decide +kernel
theorem dX1_snapCaption_1 : decode cX1_snapCaption 1 = .ok (.getfield 9, 3) := by decide +kernel
theorem dX1_snapCaption_4 : decode cX1_snapCaption 4 = .ok (.iload_n 1, 1) := by decide +kernel
theorem dX1_snapCaption_5 : decode cX1_snapCaption 5 = .ok (.invokevirtual 29, 3) := by decide +kernel
theorem dX1_snapCaption_8 : decode cX1_snapCaption 8 = .ok (.astore_n 3, 1) := by decide +kernel
theorem dX1_snapCaption_9 : decode cX1_snapCaption 9 = .ok (.aload_n 0, 1) := by decide +kernel
theorem dX1_snapCaption_10 : decode cX1_snapCaption 10 = .ok (.aload_n 3, 1) := by decide +kernel
theorem dX1_snapCaption_11 : decode cX1_snapCaption 11 = .ok (.iload_n 2, 1) := by decide +kernel
theorem dX1_snapCaption_12 : decode cX1_snapCaption 12 = .ok (.invokevirtual 82, 3) := by decide +kernel
theorem dX1_snapCaption_15 : decode cX1_snapCaption 15 = .ok (.invokevirtual 127, 3) := by decide +kernel
theorem dX1_snapCaption_18 : decode cX1_snapCaption 18 = .ok (.istore 4, 2) := by decide +kernel
theorem dX1_snapCaption_20 : decode cX1_snapCaption 20 = .ok (.aload_n 0, 1) := by decide +kernel
theorem dX1_snapCaption_21 : decode cX1_snapCaption 21 = .ok (.aload_n 3, 1) := by decide +kernel
theorem dX1_snapCaption_22 : decode cX1_snapCaption 22 = .ok (.iload_n 2, 1) := by decide +kernel
theorem dX1_snapCaption_23 : decode cX1_snapCaption 23 = .ok (.invokevirtual 85, 3) := by decide +kernel
theorem dX1_snapCaption_26 : decode cX1_snapCaption 26 = .ok (.invokevirtual 127, 3) := by decide +kernel
theorem dX1_snapCaption_29 : decode cX1_snapCaption 29 = .ok (.istore 5, 2) := by decide +kernel
theorem dX1_snapCaption_31 : decode cX1_snapCaption 31 = .ok (.iload 4, 2) := by decide +kernel
theorem dX1_snapCaption_33 : decode cX1_snapCaption 33 = .ok (.aload_n 3, 1) := by decide +kernel
theorem dX1_snapCaption_34 : decode cX1_snapCaption 34 = .ok (.iload_n 2, 1) := by decide +kernel
theorem dX1_snapCaption_35 : decode cX1_snapCaption 35 = .ok (.invokevirtual 82, 3) := by decide +kernel
theorem dX1_snapCaption_38 : decode cX1_snapCaption 38 = .ok (.if_icmp .eq 7, 3) := by decide +kernel
theorem dX1_snapCaption_41 : decode cX1_snapCaption 41 = .ok (.iconst 1, 1) := by decide +kernel
theorem dX1_snapCaption_42 : decode cX1_snapCaption 42 = .ok (.goto 4, 3) := by decide +kernel
theorem dX1_snapCaption_45 : decode cX1_snapCaption 45 = .ok (.iconst 0, 1) := by decide +kernel
theorem dX1_snapCaption_46 : decode cX1_snapCaption 46 = .ok (.iload 5, 2) := by decide +kernel
theorem dX1_snapCaption_48 : decode cX1_snapCaption 48 = .ok (.aload_n 3, 1) := by decide +kernel
theorem dX1_snapCaption_49 : decode cX1_snapCaption 49 = .ok (.iload_n 2, 1) := by decide +kernel
theorem dX1_snapCaption_50 : decode cX1_snapCaption 50 = .ok (.invokevirtual 85, 3) := by decide +kernel
theorem dX1_snapCaption_53 : decode cX1_snapCaption 53 = .ok (.if_icmp .eq 7, 3) := by decide +kernel
theorem dX1_snapCaption_56 : decode cX1_snapCaption 56 = .ok (.iconst 2, 1) := by decide +kernel
theorem dX1_snapCaption_57 : decode cX1_snapCaption 57 = .ok (.goto 4, 3) := by decide +kernel
theorem dX1_snapCaption_60 : decode cX1_snapCaption 60 = .ok (.iconst 0, 1) := by decide +kernel
theorem dX1_snapCaption_61 : decode cX1_snapCaption 61 = .ok (.iadd, 1) := by decide +kernel
theorem dX1_snapCaption_62 : decode cX1_snapCaption 62 = .ok (.istore 6, 2) := by decide +kernel
theorem dX1_snapCaption_64 : decode cX1_snapCaption 64 = .ok (.aload_n 0, 1) := by decide +kernel
theorem dX1_snapCaption_65 : decode cX1_snapCaption 65 = .ok (.iload_n 1, 1) := by decide +kernel
theorem dX1_snapCaption_66 : decode cX1_snapCaption 66 = .ok (.iload_n 2, 1) := by decide +kernel
theorem dX1_snapCaption_67 : decode cX1_snapCaption 67 = .ok (.iload 4, 2) := by decide +kernel
theorem dX1_snapCaption_69 : decode cX1_snapCaption 69 = .ok (.iload 5, 2) := by decide +kernel
theorem dX1_snapCaption_71 : decode cX1_snapCaption 71 = .ok (.invokevirtual 134, 3) := by decide +kernel
theorem dX1_snapCaption_74 : decode cX1_snapCaption 74 = .ok (.pop, 1) := by decide +kernel
theorem dX1_snapCaption_75 : decode cX1_snapCaption 75 = .ok (.iload 6, 2) := by decide +kernel
theorem dX1_snapCaption_77 : decode cX1_snapCaption 77 = .ok (.ireturn, 1) := by decide +kernel
theorem dX1_fitCaption_0 : decode cX1_fitCaption 0 = .ok (.aload_n 0, 1) := by decide +kernel
theorem dX1_fitCaption_1 : decode cX1_fitCaption 1 = .ok (.getfield 9, 3) := by decide +kernel
theorem dX1_fitCaption_4 : decode cX1_fitCaption 4 = .ok (.iload_n 1, 1) := by decide +kernel
theorem dX1_fitCaption_5 : decode cX1_fitCaption 5 = .ok (.invokevirtual 29, 3) := by decide +kernel
theorem dX1_fitCaption_8 : decode cX1_fitCaption 8 = .ok (.astore_n 3, 1) := by decide +kernel
theorem dX1_fitCaption_9 : decode cX1_fitCaption 9 = .ok (.aload_n 3, 1) := by decide +kernel
theorem dX1_fitCaption_10 : decode cX1_fitCaption 10 = .ok (.iload_n 2, 1) := by decide +kernel
theorem dX1_fitCaption_11 : decode cX1_fitCaption 11 = .ok (.invokevirtual 85, 3) := by decide +kernel
theorem dX1_fitCaption_14 : decode cX1_fitCaption 14 = .ok (.istore 4, 2) := by decide +kernel
theorem dX1_fitCaption_16 : decode cX1_fitCaption 16 = .ok (.aload_n 0, 1) := by decide +kernel
theorem dX1_fitCaption_17 : decode cX1_fitCaption 17 = .ok (.getfield 9, 3) := by decide +kernel
theorem dX1_fitCaption_20 : decode cX1_fitCaption 20 = .ok (.getfield 137, 3) := by decide +kernel
theorem dX1_fitCaption_23 : decode cX1_fitCaption 23 = .ok (.aload_n 3, 1) := by decide +kernel
theorem dX1_fitCaption_24 : decode cX1_fitCaption 24 = .ok (.iload_n 2, 1) := by decide +kernel
theorem dX1_fitCaption_25 : decode cX1_fitCaption 25 = .ok (.invokevirtual 82, 3) := by decide +kernel
theorem dX1_fitCaption_28 : decode cX1_fitCaption 28 = .ok (.aload_n 0, 1) := by decide +kernel
theorem dX1_fitCaption_29 : decode cX1_fitCaption 29 = .ok (.getfield 15, 3) := by decide +kernel
theorem dX1_fitCaption_32 : decode cX1_fitCaption 32 = .ok (.iload_n 1, 1) := by decide +kernel
theorem dX1_fitCaption_33 : decode cX1_fitCaption 33 = .ok (.iload_n 2, 1) := by decide +kernel
theorem dX1_fitCaption_34 : decode cX1_fitCaption 34 = .ok (.invokevirtual 140, 3) := by decide +kernel
theorem dX1_fitCaption_37 : decode cX1_fitCaption 37 = .ok (.iadd, 1) := by decide +kernel
theorem dX1_fitCaption_38 : decode cX1_fitCaption 38 = .ok (.invokestatic 143, 3) := by decide +kernel
theorem dX1_fitCaption_41 : decode cX1_fitCaption 41 = .ok (.istore 5, 2) := by decide +kernel
theorem dX1_fitCaption_43 : decode cX1_fitCaption 43 = .ok (.aload_n 3, 1) := by decide +kernel
theorem dX1_fitCaption_44 : decode cX1_fitCaption 44 = .ok (.iload_n 2, 1) := by decide +kernel
theorem dX1_fitCaption_45 : decode cX1_fitCaption 45 = .ok (.iconst 1, 1) := by decide +kernel
theorem dX1_fitCaption_46 : decode cX1_fitCaption 46 = .ok (.iadd, 1) := by decide +kernel
theorem dX1_fitCaption_47 : decode cX1_fitCaption 47 = .ok (.invokevirtual 146, 3) := by decide +kernel
theorem dX1_fitCaption_50 : decode cX1_fitCaption 50 = .ok (.ifCond .eq 26, 3) := by decide +kernel
theorem dX1_fitCaption_53 : decode cX1_fitCaption 53 = .ok (.iload 5, 2) := by decide +kernel
theorem dX1_fitCaption_55 : decode cX1_fitCaption 55 = .ok (.aload_n 3, 1) := by decide +kernel
theorem dX1_fitCaption_56 : decode cX1_fitCaption 56 = .ok (.iload_n 2, 1) := by decide +kernel
theorem dX1_fitCaption_57 : decode cX1_fitCaption 57 = .ok (.iconst 1, 1) := by decide +kernel
theorem dX1_fitCaption_58 : decode cX1_fitCaption 58 = .ok (.iadd, 1) := by decide +kernel
theorem dX1_fitCaption_59 : decode cX1_fitCaption 59 = .ok (.invokevirtual 82, 3) := by decide +kernel
theorem dX1_fitCaption_62 : decode cX1_fitCaption 62 = .ok (.aload_n 0, 1) := by decide +kernel
theorem dX1_fitCaption_63 : decode cX1_fitCaption 63 = .ok (.getfield 9, 3) := by decide +kernel
theorem dX1_fitCaption_66 : decode cX1_fitCaption 66 = .ok (.iconst 2, 1) := by decide +kernel
theorem dX1_fitCaption_67 : decode cX1_fitCaption 67 = .ok (.invokevirtual 149, 3) := by decide +kernel
theorem dX1_fitCaption_70 : decode cX1_fitCaption 70 = .ok (.isub, 1) := by decide +kernel
theorem dX1_fitCaption_71 : decode cX1_fitCaption 71 = .ok (.invokestatic 143, 3) := by decide +kernel
theorem dX1_fitCaption_74 : decode cX1_fitCaption 74 = .ok (.istore 5, 2) := by decide +kernel
theorem dX1_fitCaption_76 : decode cX1_fitCaption 76 = .ok (.aload_n 0, 1) := by decide +kernel
theorem dX1_fitCaption_77 : decode cX1_fitCaption 77 = .ok (.getfield 9, 3) := by decide +kernel
theorem dX1_fitCaption_80 : decode cX1_fitCaption 80 = .ok (.getfield 118, 3) := by decide +kernel
theorem dX1_fitCaption_83 : decode cX1_fitCaption 83 = .ok (.iload 4, 2) := by decide +kernel
theorem dX1_fitCaption_85 : decode cX1_fitCaption 85 = .ok (.invokevirtual 152, 3) := by decide +kernel
theorem dX1_fitCaption_88 : decode cX1_fitCaption 88 = .ok (.istore 6, 2) := by decide +kernel
theorem dX1_fitCaption_90 : decode cX1_fitCaption 90 = .ok (.iload 6, 2) := by decide +kernel
theorem dX1_fitCaption_92 : decode cX1_fitCaption 92 = .ok (.iconst (-1), 1) := by decide +kernel
theorem dX1_fitCaption_93 : decode cX1_fitCaption 93 = .ok (.if_icmp .eq 12, 3) := by decide +kernel
theorem dX1_fitCaption_96 : decode cX1_fitCaption 96 = .ok (.iload 5, 2) := by decide +kernel
theorem dX1_fitCaption_98 : decode cX1_fitCaption 98 = .ok (.iload 6, 2) := by decide +kernel
theorem dX1_fitCaption_100 : decode cX1_fitCaption 100 = .ok (.invokestatic 143, 3) := by decide +kernel
theorem dX1_fitCaption_103 : decode cX1_fitCaption 103 = .ok (.istore 5, 2) := by decide +kernel
theorem dX1_fitCaption_105 : decode cX1_fitCaption 105 = .ok (.iconst 0, 1) := by decide +kernel
theorem dX1_fitCaption_106 : decode cX1_fitCaption 106 = .ok (.iload 5, 2) := by decide +kernel
theorem dX1_fitCaption_108 : decode cX1_fitCaption 108 = .ok (.iload 4, 2) := by decide +kernel
theorem dX1_fitCaption_110 : decode cX1_fitCaption 110 = .ok (.isub, 1) := by decide +kernel
theorem dX1_fitCaption_111 : decode cX1_fitCaption 111 = .ok (.invokestatic 100, 3) := by decide +kernel
theorem dX1_fitCaption_114 : decode cX1_fitCaption 114 = .ok (.istore 7, 2) := by decide +kernel
theorem dX1_fitCaption_116 : decode cX1_fitCaption 116 = .ok (.aload_n 3, 1) := by decide +kernel
theorem dX1_fitCaption_117 : decode cX1_fitCaption 117 = .ok (.iload_n 2, 1) := by decide +kernel
theorem dX1_fitCaption_118 : decode cX1_fitCaption 118 = .ok (.aload_n 3, 1) := by decide +kernel
theorem dX1_fitCaption_119 : decode cX1_fitCaption 119 = .ok (.iload_n 2, 1) := by decide +kernel
theorem dX1_fitCaption_120 : decode cX1_fitCaption 120 = .ok (.invokevirtual 82, 3) := by decide +kernel
theorem dX1_fitCaption_123 : decode cX1_fitCaption 123 = .ok (.iload 4, 2) := by decide +kernel
theorem dX1_fitCaption_125 : decode cX1_fitCaption 125 = .ok (.iload 7, 2) := by decide +kernel
theorem dX1_fitCaption_127 : decode cX1_fitCaption 127 = .ok (.iadd, 1) := by decide +kernel
theorem dX1_fitCaption_128 : decode cX1_fitCaption 128 = .ok (.invokevirtual 88, 3) := by decide +kernel
theorem dX1_fitCaption_131 : decode cX1_fitCaption 131 = .ok (.iload 7, 2) := by decide +kernel
theorem dX1_fitCaption_133 : decode cX1_fitCaption 133 = .ok (.ireturn, 1) := by decide +kernel
theorem dX1_retimeRefusal_0 : decode cX1_retimeRefusal 0 = .ok (.iconst 0, 1) := by decide +kernel
theorem dX1_retimeRefusal_1 : decode cX1_retimeRefusal 1 = .ok (.istore_n 3, 1) := by decide +kernel
theorem dX1_retimeRefusal_2 : decode cX1_retimeRefusal 2 = .ok (.iconst 0, 1) := by decide +kernel
theorem dX1_retimeRefusal_3 : decode cX1_retimeRefusal 3 = .ok (.istore 4, 2) := by decide +kernel
theorem dX1_retimeRefusal_5 : decode cX1_retimeRefusal 5 = .ok (.iload 4, 2) := by decide +kernel
theorem dX1_retimeRefusal_7 : decode cX1_retimeRefusal 7 = .ok (.iconst 2, 1) := by decide +kernel
theorem dX1_retimeRefusal_8 : decode cX1_retimeRefusal 8 = .ok (.if_icmp .ge 97, 3) := by decide +kernel
theorem dX1_retimeRefusal_11 : decode cX1_retimeRefusal 11 = .ok (.aload_n 0, 1) := by decide +kernel
theorem dX1_retimeRefusal_12 : decode cX1_retimeRefusal 12 = .ok (.getfield 9, 3) := by decide +kernel
theorem dX1_retimeRefusal_15 : decode cX1_retimeRefusal 15 = .ok (.iload 4, 2) := by decide +kernel
theorem dX1_retimeRefusal_17 : decode cX1_retimeRefusal 17 = .ok (.invokevirtual 29, 3) := by decide +kernel
theorem dX1_retimeRefusal_20 : decode cX1_retimeRefusal 20 = .ok (.astore 5, 2) := by decide +kernel
theorem dX1_retimeRefusal_22 : decode cX1_retimeRefusal 22 = .ok (.iconst 0, 1) := by decide +kernel
theorem dX1_retimeRefusal_23 : decode cX1_retimeRefusal 23 = .ok (.istore 6, 2) := by decide +kernel
theorem dX1_retimeRefusal_25 : decode cX1_retimeRefusal 25 = .ok (.iload 6, 2) := by decide +kernel
theorem dX1_retimeRefusal_27 : decode cX1_retimeRefusal 27 = .ok (.aload 5, 2) := by decide +kernel
theorem dX1_retimeRefusal_29 : decode cX1_retimeRefusal 29 = .ok (.getfield 78, 3) := by decide +kernel
theorem dX1_retimeRefusal_32 : decode cX1_retimeRefusal 32 = .ok (.if_icmp .ge 67, 3) := by decide +kernel
theorem dX1_retimeRefusal_35 : decode cX1_retimeRefusal 35 = .ok (.iload_n 1, 1) := by decide +kernel
theorem dX1_retimeRefusal_36 : decode cX1_retimeRefusal 36 = .ok (.iload 4, 2) := by decide +kernel
theorem dX1_retimeRefusal_38 : decode cX1_retimeRefusal 38 = .ok (.invokestatic 155, 3) := by decide +kernel
theorem dX1_retimeRefusal_41 : decode cX1_retimeRefusal 41 = .ok (.ifCond .eq 58, 3) := by decide +kernel
theorem dX1_retimeRefusal_44 : decode cX1_retimeRefusal 44 = .ok (.aload_n 0, 1) := by decide +kernel
theorem dX1_retimeRefusal_45 : decode cX1_retimeRefusal 45 = .ok (.getfield 9, 3) := by decide +kernel
theorem dX1_retimeRefusal_48 : decode cX1_retimeRefusal 48 = .ok (.aload_n 2, 1) := by decide +kernel
theorem dX1_retimeRefusal_49 : decode cX1_retimeRefusal 49 = .ok (.aload 5, 2) := by decide +kernel
theorem dX1_retimeRefusal_51 : decode cX1_retimeRefusal 51 = .ok (.iload 6, 2) := by decide +kernel
theorem dX1_retimeRefusal_53 : decode cX1_retimeRefusal 53 = .ok (.invokevirtual 82, 3) := by decide +kernel
theorem dX1_retimeRefusal_56 : decode cX1_retimeRefusal 56 = .ok (.invokevirtual 159, 3) := by decide +kernel
theorem dX1_retimeRefusal_59 : decode cX1_retimeRefusal 59 = .ok (.aload_n 2, 1) := by decide +kernel
theorem dX1_retimeRefusal_60 : decode cX1_retimeRefusal 60 = .ok (.aload 5, 2) := by decide +kernel
theorem dX1_retimeRefusal_62 : decode cX1_retimeRefusal 62 = .ok (.iload 6, 2) := by decide +kernel
theorem dX1_retimeRefusal_64 : decode cX1_retimeRefusal 64 = .ok (.invokevirtual 85, 3) := by decide +kernel
theorem dX1_retimeRefusal_67 : decode cX1_retimeRefusal 67 = .ok (.invokevirtual 159, 3) := by decide +kernel
theorem dX1_retimeRefusal_70 : decode cX1_retimeRefusal 70 = .ok (.invokevirtual 164, 3) := by decide +kernel
theorem dX1_retimeRefusal_73 : decode cX1_retimeRefusal 73 = .ok (.istore 7, 2) := by decide +kernel
theorem dX1_retimeRefusal_75 : decode cX1_retimeRefusal 75 = .ok (.iload_n 3, 1) := by decide +kernel
theorem dX1_retimeRefusal_76 : decode cX1_retimeRefusal 76 = .ok (.ifCond .eq 14, 3) := by decide +kernel
theorem dX1_retimeRefusal_79 : decode cX1_retimeRefusal 79 = .ok (.iload 7, 2) := by decide +kernel
theorem dX1_retimeRefusal_81 : decode cX1_retimeRefusal 81 = .ok (.ifCond .eq 12, 3) := by decide +kernel
theorem dX1_retimeRefusal_84 : decode cX1_retimeRefusal 84 = .ok (.iload 7, 2) := by decide +kernel
theorem dX1_retimeRefusal_86 : decode cX1_retimeRefusal 86 = .ok (.iload_n 3, 1) := by decide +kernel
theorem dX1_retimeRefusal_87 : decode cX1_retimeRefusal 87 = .ok (.if_icmp .ge 6, 3) := by decide +kernel
theorem dX1_retimeRefusal_90 : decode cX1_retimeRefusal 90 = .ok (.iload 7, 2) := by decide +kernel
theorem dX1_retimeRefusal_92 : decode cX1_retimeRefusal 92 = .ok (.istore_n 3, 1) := by decide +kernel
theorem dX1_retimeRefusal_93 : decode cX1_retimeRefusal 93 = .ok (.iinc 6 1, 3) := by decide +kernel
theorem dX1_retimeRefusal_96 : decode cX1_retimeRefusal 96 = .ok (.goto (-71), 3) := by decide +kernel
theorem dX1_retimeRefusal_99 : decode cX1_retimeRefusal 99 = .ok (.iinc 4 1, 3) := by decide +kernel
theorem dX1_retimeRefusal_102 : decode cX1_retimeRefusal 102 = .ok (.goto (-97), 3) := by decide +kernel
theorem dX1_retimeRefusal_105 : decode cX1_retimeRefusal 105 = .ok (.iload_n 3, 1) := by decide +kernel
theorem dX1_retimeRefusal_106 : decode cX1_retimeRefusal 106 = .ok (.ireturn, 1) := by decide +kernel
theorem dX1_retimeCaptions_0 : decode cX1_retimeCaptions 0 = .ok (.iconst 0, 1) := by decide +kernel
theorem dX1_retimeCaptions_1 : decode cX1_retimeCaptions 1 = .ok (.istore_n 3, 1) := by decide +kernel
theorem dX1_retimeCaptions_2 : decode cX1_retimeCaptions 2 = .ok (.iconst 0, 1) := by decide +kernel
theorem dX1_retimeCaptions_3 : decode cX1_retimeCaptions 3 = .ok (.istore 4, 2) := by decide +kernel
theorem dX1_retimeCaptions_5 : decode cX1_retimeCaptions 5 = .ok (.iload 4, 2) := by decide +kernel
theorem dX1_retimeCaptions_7 : decode cX1_retimeCaptions 7 = .ok (.iconst 2, 1) := by decide +kernel
theorem dX1_retimeCaptions_8 : decode cX1_retimeCaptions 8 = .ok (.if_icmp .ge 112, 3) := by decide +kernel
theorem dX1_retimeCaptions_11 : decode cX1_retimeCaptions 11 = .ok (.aload_n 0, 1) := by decide +kernel
theorem dX1_retimeCaptions_12 : decode cX1_retimeCaptions 12 = .ok (.getfield 9, 3) := by decide +kernel
theorem dX1_retimeCaptions_15 : decode cX1_retimeCaptions 15 = .ok (.iload 4, 2) := by decide +kernel
theorem dX1_retimeCaptions_17 : decode cX1_retimeCaptions 17 = .ok (.invokevirtual 29, 3) := by decide +kernel
theorem dX1_retimeCaptions_20 : decode cX1_retimeCaptions 20 = .ok (.astore 5, 2) := by decide +kernel
theorem dX1_retimeCaptions_22 : decode cX1_retimeCaptions 22 = .ok (.iconst 0, 1) := by decide +kernel
theorem dX1_retimeCaptions_23 : decode cX1_retimeCaptions 23 = .ok (.istore 6, 2) := by decide +kernel
theorem dX1_retimeCaptions_25 : decode cX1_retimeCaptions 25 = .ok (.iload 6, 2) := by decide +kernel
theorem dX1_retimeCaptions_27 : decode cX1_retimeCaptions 27 = .ok (.aload 5, 2) := by decide +kernel
theorem dX1_retimeCaptions_29 : decode cX1_retimeCaptions 29 = .ok (.getfield 78, 3) := by decide +kernel
theorem dX1_retimeCaptions_32 : decode cX1_retimeCaptions 32 = .ok (.if_icmp .ge 82, 3) := by decide +kernel
theorem dX1_retimeCaptions_35 : decode cX1_retimeCaptions 35 = .ok (.iload_n 1, 1) := by decide +kernel
theorem dX1_retimeCaptions_36 : decode cX1_retimeCaptions 36 = .ok (.iload 4, 2) := by decide +kernel
theorem dX1_retimeCaptions_38 : decode cX1_retimeCaptions 38 = .ok (.invokestatic 155, 3) := by decide +kernel
theorem dX1_retimeCaptions_41 : decode cX1_retimeCaptions 41 = .ok (.ifCond .eq 73, 3) := by decide +kernel
theorem dX1_retimeCaptions_44 : decode cX1_retimeCaptions 44 = .ok (.aload_n 2, 1) := by decide +kernel
theorem dX1_retimeCaptions_45 : decode cX1_retimeCaptions 45 = .ok (.aload 5, 2) := by decide +kernel
theorem dX1_retimeCaptions_47 : decode cX1_retimeCaptions 47 = .ok (.iload 6, 2) := by decide +kernel
theorem dX1_retimeCaptions_49 : decode cX1_retimeCaptions 49 = .ok (.invokevirtual 82, 3) := by decide +kernel
theorem dX1_retimeCaptions_52 : decode cX1_retimeCaptions 52 = .ok (.invokevirtual 159, 3) := by decide +kernel
theorem dX1_retimeCaptions_55 : decode cX1_retimeCaptions 55 = .ok (.istore 7, 2) := by decide +kernel
theorem dX1_retimeCaptions_57 : decode cX1_retimeCaptions 57 = .ok (.aload_n 2, 1) := by decide +kernel
theorem dX1_retimeCaptions_58 : decode cX1_retimeCaptions 58 = .ok (.aload 5, 2) := by decide +kernel
theorem dX1_retimeCaptions_60 : decode cX1_retimeCaptions 60 = .ok (.iload 6, 2) := by decide +kernel
theorem dX1_retimeCaptions_62 : decode cX1_retimeCaptions 62 = .ok (.invokevirtual 85, 3) := by decide +kernel
theorem dX1_retimeCaptions_65 : decode cX1_retimeCaptions 65 = .ok (.invokevirtual 159, 3) := by decide +kernel
theorem dX1_retimeCaptions_68 : decode cX1_retimeCaptions 68 = .ok (.istore 8, 2) := by decide +kernel
theorem dX1_retimeCaptions_70 : decode cX1_retimeCaptions 70 = .ok (.iload 7, 2) := by decide +kernel
theorem dX1_retimeCaptions_72 : decode cX1_retimeCaptions 72 = .ok (.aload 5, 2) := by decide +kernel
theorem dX1_retimeCaptions_74 : decode cX1_retimeCaptions 74 = .ok (.iload 6, 2) := by decide +kernel
theorem dX1_retimeCaptions_76 : decode cX1_retimeCaptions 76 = .ok (.invokevirtual 82, 3) := by decide +kernel
theorem dX1_retimeCaptions_79 : decode cX1_retimeCaptions 79 = .ok (.if_icmp .ne 15, 3) := by decide +kernel
theorem dX1_retimeCaptions_82 : decode cX1_retimeCaptions 82 = .ok (.iload 8, 2) := by decide +kernel
theorem dX1_retimeCaptions_84 : decode cX1_retimeCaptions 84 = .ok (.aload 5, 2) := by decide +kernel
theorem dX1_retimeCaptions_86 : decode cX1_retimeCaptions 86 = .ok (.iload 6, 2) := by decide +kernel
theorem dX1_retimeCaptions_88 : decode cX1_retimeCaptions 88 = .ok (.invokevirtual 85, 3) := by decide +kernel
theorem dX1_retimeCaptions_91 : decode cX1_retimeCaptions 91 = .ok (.if_icmp .eq 6, 3) := by decide +kernel
theorem dX1_retimeCaptions_94 : decode cX1_retimeCaptions 94 = .ok (.iinc 3 1, 3) := by decide +kernel
theorem dX1_retimeCaptions_97 : decode cX1_retimeCaptions 97 = .ok (.aload 5, 2) := by decide +kernel
theorem dX1_retimeCaptions_99 : decode cX1_retimeCaptions 99 = .ok (.iload 6, 2) := by decide +kernel
theorem dX1_retimeCaptions_101 : decode cX1_retimeCaptions 101 = .ok (.iload 7, 2) := by decide +kernel
theorem dX1_retimeCaptions_103 : decode cX1_retimeCaptions 103 = .ok (.iload 8, 2) := by decide +kernel
theorem dX1_retimeCaptions_105 : decode cX1_retimeCaptions 105 = .ok (.invokevirtual 88, 3) := by decide +kernel
theorem dX1_retimeCaptions_108 : decode cX1_retimeCaptions 108 = .ok (.iinc 6 1, 3) := by decide +kernel
theorem dX1_retimeCaptions_111 : decode cX1_retimeCaptions 111 = .ok (.goto (-86), 3) := by decide +kernel
theorem dX1_retimeCaptions_114 : decode cX1_retimeCaptions 114 = .ok (.iinc 4 1, 3) := by decide +kernel
theorem dX1_retimeCaptions_117 : decode cX1_retimeCaptions 117 = .ok (.goto (-112), 3) := by decide +kernel
theorem dX1_retimeCaptions_120 : decode cX1_retimeCaptions 120 = .ok (.iload_n 3, 1) := by decide +kernel
theorem dX1_retimeCaptions_121 : decode cX1_retimeCaptions 121 = .ok (.ireturn, 1) := by decide +kernel
theorem dX1_isMeant_0 : decode cX1_isMeant 0 = .ok (.iload_n 0, 1) := by decide +kernel
theorem dX1_isMeant_1 : decode cX1_isMeant 1 = .ok (.iconst (-1), 1) := by decide +kernel
theorem dX1_isMeant_2 : decode cX1_isMeant 2 = .ok (.if_icmp .eq 8, 3) := by decide +kernel
theorem dX1_isMeant_5 : decode cX1_isMeant 5 = .ok (.iload_n 0, 1) := by decide +kernel
theorem dX1_isMeant_6 : decode cX1_isMeant 6 = .ok (.iload_n 1, 1) := by decide +kernel
theorem dX1_isMeant_7 : decode cX1_isMeant 7 = .ok (.if_icmp .ne 7, 3) := by decide +kernel
theorem dX1_isMeant_10 : decode cX1_isMeant 10 = .ok (.iconst 1, 1) := by decide +kernel
theorem dX1_isMeant_11 : decode cX1_isMeant 11 = .ok (.goto 4, 3) := by decide +kernel
theorem dX1_isMeant_14 : decode cX1_isMeant 14 = .ok (.iconst 0, 1) := by decide +kernel
theorem dX1_isMeant_15 : decode cX1_isMeant 15 = .ok (.ireturn, 1) := by decide +kernel
theorem dX1_carryOutCut_0 : decode cX1_carryOutCut 0 = .ok (.aload_n 0, 1) := by decide +kernel
theorem dX1_carryOutCut_1 : decode cX1_carryOutCut 1 = .ok (.getfield 9, 3) := by decide +kernel
theorem dX1_carryOutCut_4 : decode cX1_carryOutCut 4 = .ok (.iload_n 1, 1) := by decide +kernel
theorem dX1_carryOutCut_5 : decode cX1_carryOutCut 5 = .ok (.invokevirtual 167, 3) := by decide +kernel
theorem dX1_carryOutCut_8 : decode cX1_carryOutCut 8 = .ok (.ifCond .ne 5, 3) := by decide +kernel
theorem dX1_carryOutCut_11 : decode cX1_carryOutCut 11 = .ok (.iconst 1, 1) := by decide +kernel
theorem dX1_carryOutCut_12 : decode cX1_carryOutCut 12 = .ok (.ireturn, 1) := by decide +kernel
theorem dX1_carryOutCut_13 : decode cX1_carryOutCut 13 = .ok (.iload_n 2, 1) := by decide +kernel
theorem dX1_carryOutCut_14 : decode cX1_carryOutCut 14 = .ok (.ifCond .ne 16, 3) := by decide +kernel
theorem dX1_carryOutCut_17 : decode cX1_carryOutCut 17 = .ok (.aload_n 0, 1) := by decide +kernel
theorem dX1_carryOutCut_18 : decode cX1_carryOutCut 18 = .ok (.getfield 9, 3) := by decide +kernel
theorem dX1_carryOutCut_21 : decode cX1_carryOutCut 21 = .ok (.getfield 118, 3) := by decide +kernel
theorem dX1_carryOutCut_24 : decode cX1_carryOutCut 24 = .ok (.iload_n 1, 1) := by decide +kernel
theorem dX1_carryOutCut_25 : decode cX1_carryOutCut 25 = .ok (.invokevirtual 170, 3) := by decide +kernel
theorem dX1_carryOutCut_28 : decode cX1_carryOutCut 28 = .ok (.iconst 0, 1) := by decide +kernel
theorem dX1_carryOutCut_29 : decode cX1_carryOutCut 29 = .ok (.ireturn, 1) := by decide +kernel
theorem dX1_carryOutCut_30 : decode cX1_carryOutCut 30 = .ok (.aload_n 0, 1) := by decide +kernel
theorem dX1_carryOutCut_31 : decode cX1_carryOutCut 31 = .ok (.getfield 9, 3) := by decide +kernel
theorem dX1_carryOutCut_34 : decode cX1_carryOutCut 34 = .ok (.getfield 118, 3) := by decide +kernel
theorem dX1_carryOutCut_37 : decode cX1_carryOutCut 37 = .ok (.iload_n 1, 1) := by decide +kernel
theorem dX1_carryOutCut_38 : decode cX1_carryOutCut 38 = .ok (.invokevirtual 173, 3) := by decide +kernel
theorem dX1_carryOutCut_41 : decode cX1_carryOutCut 41 = .ok (.ifCond .eq 6, 3) := by decide +kernel
theorem dX1_carryOutCut_44 : decode cX1_carryOutCut 44 = .ok (.bipush 8, 2) := by decide +kernel
theorem dX1_carryOutCut_46 : decode cX1_carryOutCut 46 = .ok (.ireturn, 1) := by decide +kernel
theorem dX1_carryOutCut_47 : decode cX1_carryOutCut 47 = .ok (.aload_n 0, 1) := by decide +kernel
theorem dX1_carryOutCut_48 : decode cX1_carryOutCut 48 = .ok (.getfield 9, 3) := by decide +kernel
theorem dX1_carryOutCut_51 : decode cX1_carryOutCut 51 = .ok (.getfield 118, 3) := by decide +kernel
theorem dX1_carryOutCut_54 : decode cX1_carryOutCut 54 = .ok (.iload_n 1, 1) := by decide +kernel
theorem dX1_carryOutCut_55 : decode cX1_carryOutCut 55 = .ok (.invokevirtual 176, 3) := by decide +kernel
theorem dX1_carryOutCut_58 : decode cX1_carryOutCut 58 = .ok (.iconst 0, 1) := by decide +kernel
theorem dX1_carryOutCut_59 : decode cX1_carryOutCut 59 = .ok (.ireturn, 1) := by decide +kernel
theorem dX2_init_0 : decode cX2_init 0 = .ok (.aload_n 0, 1) := by decide +kernel
theorem dX2_init_1 : decode cX2_init 1 = .ok (.invokespecial 3, 3) := by decide +kernel
theorem dX2_init_4 : decode cX2_init 4 = .ok (.aload_n 0, 1) := by decide +kernel
theorem dX2_init_5 : decode cX2_init 5 = .ok (.aload_n 1, 1) := by decide +kernel
theorem dX2_init_6 : decode cX2_init 6 = .ok (.putfield 9, 3) := by decide +kernel
theorem dX2_init_9 : decode cX2_init 9 = .ok (.aload_n 0, 1) := by decide +kernel
theorem dX2_init_10 : decode cX2_init 10 = .ok (.new 15, 3) := by decide +kernel
theorem dX2_init_13 : decode cX2_init 13 = .ok (.dup, 1) := by decide +kernel
theorem dX2_init_14 : decode cX2_init 14 = .ok (.invokespecial 17, 3) := by decide +kernel
theorem dX2_init_17 : decode cX2_init 17 = .ok (.putfield 18, 3) := by decide +kernel
theorem dX2_init_20 : decode cX2_init 20 = .ok (.return_, 1) := by decide +kernel
theorem dX2_needs_0 : decode cX2_needs 0 = .ok (.aload_n 0, 1) := by decide +kernel
theorem dX2_needs_1 : decode cX2_needs 1 = .ok (.getfield 9, 3) := by decide +kernel
theorem dX2_needs_4 : decode cX2_needs 4 = .ok (.iload_n 1, 1) := by decide +kernel
theorem dX2_needs_5 : decode cX2_needs 5 = .ok (.invokevirtual 22, 3) := by decide +kernel
theorem dX2_needs_8 : decode cX2_needs 8 = .ok (.astore_n 3, 1) := by decide +kernel
theorem dX2_needs_9 : decode cX2_needs 9 = .ok (.aload_n 3, 1) := by decide +kernel
theorem dX2_needs_10 : decode cX2_needs 10 = .ok (.iload_n 2, 1) := by decide +kernel
theorem dX2_needs_11 : decode cX2_needs 11 = .ok (.invokevirtual 28, 3) := by decide +kernel
theorem dX2_needs_14 : decode cX2_needs 14 = .ok (.iconst 2, 1) := by decide +kernel
theorem dX2_needs_15 : decode cX2_needs 15 = .ok (.if_icmp .ne 8, 3) := by decide +kernel
theorem dX2_needs_18 : decode cX2_needs 18 = .ok (.bipush 20, 2) := by decide +kernel
theorem dX2_needs_20 : decode cX2_needs 20 = .ok (.goto 5, 3) := by decide +kernel
theorem dX2_needs_23 : decode cX2_needs 23 = .ok (.bipush 25, 2) := by decide +kernel
theorem dX2_needs_25 : decode cX2_needs 25 = .ok (.istore 4, 2) := by decide +kernel
theorem dX2_needs_27 : decode cX2_needs 27 = .ok (.iload 4, 2) := by decide +kernel
theorem dX2_needs_29 : decode cX2_needs 29 = .ok (.aload_n 3, 1) := by decide +kernel
theorem dX2_needs_30 : decode cX2_needs 30 = .ok (.iload_n 2, 1) := by decide +kernel
theorem dX2_needs_31 : decode cX2_needs 31 = .ok (.invokevirtual 34, 3) := by decide +kernel
theorem dX2_needs_34 : decode cX2_needs 34 = .ok (.imul, 1) := by decide +kernel
theorem dX2_needs_35 : decode cX2_needs 35 = .ok (.aload_n 0, 1) := by decide +kernel
theorem dX2_needs_36 : decode cX2_needs 36 = .ok (.getfield 9, 3) := by decide +kernel
theorem dX2_needs_39 : decode cX2_needs 39 = .ok (.iconst 0, 1) := by decide +kernel
theorem dX2_needs_40 : decode cX2_needs 40 = .ok (.invokevirtual 37, 3) := by decide +kernel
theorem dX2_needs_43 : decode cX2_needs 43 = .ok (.invokestatic 40, 3) := by decide +kernel
theorem dX2_needs_46 : decode cX2_needs 46 = .ok (.istore 5, 2) := by decide +kernel
theorem dX2_needs_48 : decode cX2_needs 48 = .ok (.aload_n 3, 1) := by decide +kernel
theorem dX2_needs_49 : decode cX2_needs 49 = .ok (.iload_n 2, 1) := by decide +kernel
theorem dX2_needs_50 : decode cX2_needs 50 = .ok (.invokevirtual 28, 3) := by decide +kernel
theorem dX2_needs_53 : decode cX2_needs 53 = .ok (.iconst 1, 1) := by decide +kernel
theorem dX2_needs_54 : decode cX2_needs 54 = .ok (.if_icmp .ne 12, 3) := by decide +kernel
theorem dX2_needs_57 : decode cX2_needs 57 = .ok (.iload 5, 2) := by decide +kernel
theorem dX2_needs_59 : decode cX2_needs 59 = .ok (.iconst 2, 1) := by decide +kernel
theorem dX2_needs_60 : decode cX2_needs 60 = .ok (.invokestatic 40, 3) := by decide +kernel
theorem dX2_needs_63 : decode cX2_needs 63 = .ok (.goto 5, 3) := by decide +kernel
theorem dX2_needs_66 : decode cX2_needs 66 = .ok (.iload 5, 2) := by decide +kernel
theorem dX2_needs_68 : decode cX2_needs 68 = .ok (.ireturn, 1) := by decide +kernel
theorem dX2_partner_0 : decode cX2_partner 0 = .ok (.aload_n 0, 1) := by decide +kernel
theorem dX2_partner_1 : decode cX2_partner 1 = .ok (.getfield 9, 3) := by decide +kernel
theorem dX2_partner_4 : decode cX2_partner 4 = .ok (.iload_n 1, 1) := by decide +kernel
theorem dX2_partner_5 : decode cX2_partner 5 = .ok (.invokevirtual 22, 3) := by decide +kernel
theorem dX2_partner_8 : decode cX2_partner 8 = .ok (.astore_n 3, 1) := by decide +kernel
theorem dX2_partner_9 : decode cX2_partner 9 = .ok (.aload_n 0, 1) := by decide +kernel
theorem dX2_partner_10 : decode cX2_partner 10 = .ok (.getfield 9, 3) := by decide +kernel
theorem dX2_partner_13 : decode cX2_partner 13 = .ok (.iload_n 1, 1) := by decide +kernel
theorem dX2_partner_14 : decode cX2_partner 14 = .ok (.invokevirtual 44, 3) := by decide +kernel
theorem dX2_partner_17 : decode cX2_partner 17 = .ok (.astore 4, 2) := by decide +kernel
theorem dX2_partner_19 : decode cX2_partner 19 = .ok (.iconst (-1), 1) := by decide +kernel
theorem dX2_partner_20 : decode cX2_partner 20 = .ok (.istore 5, 2) := by decide +kernel
theorem dX2_partner_22 : decode cX2_partner 22 = .ok (.iconst 0, 1) := by decide +kernel
theorem dX2_partner_23 : decode cX2_partner 23 = .ok (.istore 6, 2) := by decide +kernel
theorem dX2_partner_25 : decode cX2_partner 25 = .ok (.iconst 0, 1) := by decide +kernel
theorem dX2_partner_26 : decode cX2_partner 26 = .ok (.istore 7, 2) := by decide +kernel
theorem dX2_partner_28 : decode cX2_partner 28 = .ok (.iload 7, 2) := by decide +kernel
theorem dX2_partner_30 : decode cX2_partner 30 = .ok (.aload 4, 2) := by decide +kernel
theorem dX2_partner_32 : decode cX2_partner 32 = .ok (.getfield 47, 3) := by decide +kernel
theorem dX2_partner_35 : decode cX2_partner 35 = .ok (.if_icmp .ge 43, 3) := by decide +kernel
theorem dX2_partner_38 : decode cX2_partner 38 = .ok (.aload 4, 2) := by decide +kernel
theorem dX2_partner_40 : decode cX2_partner 40 = .ok (.iload 7, 2) := by decide +kernel
theorem dX2_partner_42 : decode cX2_partner 42 = .ok (.aload_n 3, 1) := by decide +kernel
theorem dX2_partner_43 : decode cX2_partner 43 = .ok (.iload_n 2, 1) := by decide +kernel
theorem dX2_partner_44 : decode cX2_partner 44 = .ok (.invokevirtual 51, 3) := by decide +kernel
theorem dX2_partner_47 : decode cX2_partner 47 = .ok (.aload_n 3, 1) := by decide +kernel
theorem dX2_partner_48 : decode cX2_partner 48 = .ok (.iload_n 2, 1) := by decide +kernel
theorem dX2_partner_49 : decode cX2_partner 49 = .ok (.invokevirtual 54, 3) := by decide +kernel
theorem dX2_partner_52 : decode cX2_partner 52 = .ok (.invokevirtual 57, 3) := by decide +kernel
theorem dX2_partner_55 : decode cX2_partner 55 = .ok (.istore 8, 2) := by decide +kernel
theorem dX2_partner_57 : decode cX2_partner 57 = .ok (.iload 8, 2) := by decide +kernel
theorem dX2_partner_59 : decode cX2_partner 59 = .ok (.iload 6, 2) := by decide +kernel
theorem dX2_partner_61 : decode cX2_partner 61 = .ok (.if_icmp .le 11, 3) := by decide +kernel
theorem dX2_partner_64 : decode cX2_partner 64 = .ok (.iload 8, 2) := by decide +kernel
theorem dX2_partner_66 : decode cX2_partner 66 = .ok (.istore 6, 2) := by decide +kernel
theorem dX2_partner_68 : decode cX2_partner 68 = .ok (.iload 7, 2) := by decide +kernel
theorem dX2_partner_70 : decode cX2_partner 70 = .ok (.istore 5, 2) := by decide +kernel
theorem dX2_partner_72 : decode cX2_partner 72 = .ok (.iinc 7 1, 3) := by decide +kernel
theorem dX2_partner_75 : decode cX2_partner 75 = .ok (.goto (-47), 3) := by decide +kernel
theorem dX2_partner_78 : decode cX2_partner 78 = .ok (.iload 5, 2) := by decide +kernel
theorem dX2_partner_80 : decode cX2_partner 80 = .ok (.ireturn, 1) := by decide +kernel
theorem dX2_sharedWithPartner_0 : decode cX2_sharedWithPartner 0 = .ok (.aload_n 0, 1) := by decide +kernel
theorem dX2_sharedWithPartner_1 : decode cX2_sharedWithPartner 1 = .ok (.iload_n 1, 1) := by decide +kernel
theorem dX2_sharedWithPartner_2 : decode cX2_sharedWithPartner 2 = .ok (.iload_n 2, 1) := by decide +kernel
theorem dX2_sharedWithPartner_3 : decode cX2_sharedWithPartner 3 = .ok (.invokevirtual 61, 3) := by decide +kernel
theorem dX2_sharedWithPartner_6 : decode cX2_sharedWithPartner 6 = .ok (.istore_n 3, 1) := by decide +kernel
theorem dX2_sharedWithPartner_7 : decode cX2_sharedWithPartner 7 = .ok (.iload_n 3, 1) := by decide +kernel
theorem dX2_sharedWithPartner_8 : decode cX2_sharedWithPartner 8 = .ok (.iconst (-1), 1) := by decide +kernel
theorem dX2_sharedWithPartner_9 : decode cX2_sharedWithPartner 9 = .ok (.if_icmp .ne 5, 3) := by decide +kernel
theorem dX2_sharedWithPartner_12 : decode cX2_sharedWithPartner 12 = .ok (.iconst 0, 1) := by decide +kernel
theorem dX2_sharedWithPartner_13 : decode cX2_sharedWithPartner 13 = .ok (.ireturn, 1) := by decide +kernel
theorem dX2_sharedWithPartner_14 : decode cX2_sharedWithPartner 14 = .ok (.aload_n 0, 1) := by decide +kernel
theorem dX2_sharedWithPartner_15 : decode cX2_sharedWithPartner 15 = .ok (.getfield 9, 3) := by decide +kernel
theorem dX2_sharedWithPartner_18 : decode cX2_sharedWithPartner 18 = .ok (.iload_n 1, 1) := by decide +kernel
theorem dX2_sharedWithPartner_19 : decode cX2_sharedWithPartner 19 = .ok (.invokevirtual 22, 3) := by decide +kernel
theorem dX2_sharedWithPartner_22 : decode cX2_sharedWithPartner 22 = .ok (.astore 4, 2) := by decide +kernel
theorem dX2_sharedWithPartner_24 : decode cX2_sharedWithPartner 24 = .ok (.aload_n 0, 1) := by decide +kernel
theorem dX2_sharedWithPartner_25 : decode cX2_sharedWithPartner 25 = .ok (.getfield 9, 3) := by decide +kernel
theorem dX2_sharedWithPartner_28 : decode cX2_sharedWithPartner 28 = .ok (.iload_n 1, 1) := by decide +kernel
theorem dX2_sharedWithPartner_29 : decode cX2_sharedWithPartner 29 = .ok (.invokevirtual 44, 3) := by decide +kernel
theorem dX2_sharedWithPartner_32 : decode cX2_sharedWithPartner 32 = .ok (.iload_n 3, 1) := by decide +kernel
theorem dX2_sharedWithPartner_33 : decode cX2_sharedWithPartner 33 = .ok (.aload 4, 2) := by decide +kernel
theorem dX2_sharedWithPartner_35 : decode cX2_sharedWithPartner 35 = .ok (.iload_n 2, 1) := by decide +kernel
theorem dX2_sharedWithPartner_36 : decode cX2_sharedWithPartner 36 = .ok (.invokevirtual 51, 3) := by decide +kernel
theorem dX2_sharedWithPartner_39 : decode cX2_sharedWithPartner 39 = .ok (.aload 4, 2) := by decide +kernel
theorem dX2_sharedWithPartner_41 : decode cX2_sharedWithPartner 41 = .ok (.iload_n 2, 1) := by decide +kernel
theorem dX2_sharedWithPartner_42 : decode cX2_sharedWithPartner 42 = .ok (.invokevirtual 54, 3) := by decide +kernel
theorem dX2_sharedWithPartner_45 : decode cX2_sharedWithPartner 45 = .ok (.invokevirtual 57, 3) := by decide +kernel
theorem dX2_sharedWithPartner_48 : decode cX2_sharedWithPartner 48 = .ok (.ireturn, 1) := by decide +kernel
theorem dX2_isInStep_0 : decode cX2_isInStep 0 = .ok (.aload_n 0, 1) := by decide +kernel
theorem dX2_isInStep_1 : decode cX2_isInStep 1 = .ok (.iload_n 1, 1) := by decide +kernel
theorem dX2_isInStep_2 : decode cX2_isInStep 2 = .ok (.iload_n 2, 1) := by decide +kernel
theorem dX2_isInStep_3 : decode cX2_isInStep 3 = .ok (.invokevirtual 61, 3) := by decide +kernel
theorem dX2_isInStep_6 : decode cX2_isInStep 6 = .ok (.istore_n 3, 1) := by decide +kernel
theorem dX2_isInStep_7 : decode cX2_isInStep 7 = .ok (.iload_n 3, 1) := by decide +kernel
theorem dX2_isInStep_8 : decode cX2_isInStep 8 = .ok (.iconst (-1), 1) := by decide +kernel
theorem dX2_isInStep_9 : decode cX2_isInStep 9 = .ok (.if_icmp .ne 5, 3) := by decide +kernel
theorem dX2_isInStep_12 : decode cX2_isInStep 12 = .ok (.iconst 0, 1) := by decide +kernel
theorem dX2_isInStep_13 : decode cX2_isInStep 13 = .ok (.ireturn, 1) := by decide +kernel
theorem dX2_isInStep_14 : decode cX2_isInStep 14 = .ok (.aload_n 0, 1) := by decide +kernel
theorem dX2_isInStep_15 : decode cX2_isInStep 15 = .ok (.getfield 9, 3) := by decide +kernel
theorem dX2_isInStep_18 : decode cX2_isInStep 18 = .ok (.iload_n 1, 1) := by decide +kernel
theorem dX2_isInStep_19 : decode cX2_isInStep 19 = .ok (.invokevirtual 22, 3) := by decide +kernel
theorem dX2_isInStep_22 : decode cX2_isInStep 22 = .ok (.astore 4, 2) := by decide +kernel
theorem dX2_isInStep_24 : decode cX2_isInStep 24 = .ok (.aload_n 0, 1) := by decide +kernel
theorem dX2_isInStep_25 : decode cX2_isInStep 25 = .ok (.getfield 9, 3) := by decide +kernel
theorem dX2_isInStep_28 : decode cX2_isInStep 28 = .ok (.iload_n 1, 1) := by decide +kernel
theorem dX2_isInStep_29 : decode cX2_isInStep 29 = .ok (.invokevirtual 44, 3) := by decide +kernel
theorem dX2_isInStep_32 : decode cX2_isInStep 32 = .ok (.astore 5, 2) := by decide +kernel
theorem dX2_isInStep_34 : decode cX2_isInStep 34 = .ok (.aload_n 0, 1) := by decide +kernel
theorem dX2_isInStep_35 : decode cX2_isInStep 35 = .ok (.getfield 9, 3) := by decide +kernel
theorem dX2_isInStep_38 : decode cX2_isInStep 38 = .ok (.iconst 4, 1) := by decide +kernel
theorem dX2_isInStep_39 : decode cX2_isInStep 39 = .ok (.invokevirtual 37, 3) := by decide +kernel
theorem dX2_isInStep_42 : decode cX2_isInStep 42 = .ok (.istore 6, 2) := by decide +kernel
theorem dX2_isInStep_44 : decode cX2_isInStep 44 = .ok (.aload 4, 2) := by decide +kernel
theorem dX2_isInStep_46 : decode cX2_isInStep 46 = .ok (.iload_n 2, 1) := by decide +kernel
theorem dX2_isInStep_47 : decode cX2_isInStep 47 = .ok (.invokevirtual 51, 3) := by decide +kernel
theorem dX2_isInStep_50 : decode cX2_isInStep 50 = .ok (.aload 5, 2) := by decide +kernel
theorem dX2_isInStep_52 : decode cX2_isInStep 52 = .ok (.iload_n 3, 1) := by decide +kernel
theorem dX2_isInStep_53 : decode cX2_isInStep 53 = .ok (.invokevirtual 51, 3) := by decide +kernel
theorem dX2_isInStep_56 : decode cX2_isInStep 56 = .ok (.invokestatic 64, 3) := by decide +kernel
theorem dX2_isInStep_59 : decode cX2_isInStep 59 = .ok (.iload 6, 2) := by decide +kernel
theorem dX2_isInStep_61 : decode cX2_isInStep 61 = .ok (.if_icmp .gt 27, 3) := by decide +kernel
theorem dX2_isInStep_64 : decode cX2_isInStep 64 = .ok (.aload 4, 2) := by decide +kernel
theorem dX2_isInStep_66 : decode cX2_isInStep 66 = .ok (.iload_n 2, 1) := by decide +kernel
theorem dX2_isInStep_67 : decode cX2_isInStep 67 = .ok (.invokevirtual 54, 3) := by decide +kernel
theorem dX2_isInStep_70 : decode cX2_isInStep 70 = .ok (.aload 5, 2) := by decide +kernel
theorem dX2_isInStep_72 : decode cX2_isInStep 72 = .ok (.iload_n 3, 1) := by decide +kernel
theorem dX2_isInStep_73 : decode cX2_isInStep 73 = .ok (.invokevirtual 54, 3) := by decide +kernel
theorem dX2_isInStep_76 : decode cX2_isInStep 76 = .ok (.invokestatic 64, 3) := by decide +kernel
theorem dX2_isInStep_79 : decode cX2_isInStep 79 = .ok (.iload 6, 2) := by decide +kernel
theorem dX2_isInStep_81 : decode cX2_isInStep 81 = .ok (.if_icmp .gt 7, 3) := by decide +kernel
theorem dX2_isInStep_84 : decode cX2_isInStep 84 = .ok (.iconst 1, 1) := by decide +kernel
theorem dX2_isInStep_85 : decode cX2_isInStep 85 = .ok (.goto 4, 3) := by decide +kernel
theorem dX2_isInStep_88 : decode cX2_isInStep 88 = .ok (.iconst 0, 1) := by decide +kernel
theorem dX2_isInStep_89 : decode cX2_isInStep 89 = .ok (.ireturn, 1) := by decide +kernel
theorem dX2_isTight_0 : decode cX2_isTight 0 = .ok (.aload_n 0, 1) := by decide +kernel
theorem dX2_isTight_1 : decode cX2_isTight 1 = .ok (.getfield 9, 3) := by decide +kernel
theorem dX2_isTight_4 : decode cX2_isTight 4 = .ok (.iload_n 1, 1) := by decide +kernel
theorem dX2_isTight_5 : decode cX2_isTight 5 = .ok (.invokevirtual 22, 3) := by decide +kernel
theorem dX2_isTight_8 : decode cX2_isTight 8 = .ok (.iload_n 2, 1) := by decide +kernel
theorem dX2_isTight_9 : decode cX2_isTight 9 = .ok (.invokevirtual 67, 3) := by decide +kernel
theorem dX2_isTight_12 : decode cX2_isTight 12 = .ok (.istore_n 3, 1) := by decide +kernel
theorem dX2_isTight_13 : decode cX2_isTight 13 = .ok (.iload_n 3, 1) := by decide +kernel
theorem dX2_isTight_14 : decode cX2_isTight 14 = .ok (.ifCond .le 19, 3) := by decide +kernel
theorem dX2_isTight_17 : decode cX2_isTight 17 = .ok (.iload_n 3, 1) := by decide +kernel
theorem dX2_isTight_18 : decode cX2_isTight 18 = .ok (.aload_n 0, 1) := by decide +kernel
theorem dX2_isTight_19 : decode cX2_isTight 19 = .ok (.getfield 9, 3) := by decide +kernel
theorem dX2_isTight_22 : decode cX2_isTight 22 = .ok (.iconst 2, 1) := by decide +kernel
theorem dX2_isTight_23 : decode cX2_isTight 23 = .ok (.invokevirtual 37, 3) := by decide +kernel
theorem dX2_isTight_26 : decode cX2_isTight 26 = .ok (.if_icmp .ge 7, 3) := by decide +kernel
theorem dX2_isTight_29 : decode cX2_isTight 29 = .ok (.iconst 1, 1) := by decide +kernel
theorem dX2_isTight_30 : decode cX2_isTight 30 = .ok (.goto 4, 3) := by decide +kernel
theorem dX2_isTight_33 : decode cX2_isTight 33 = .ok (.iconst 0, 1) := by decide +kernel
theorem dX2_isTight_34 : decode cX2_isTight 34 = .ok (.ireturn, 1) := by decide +kernel
theorem dX2_problems_0 : decode cX2_problems 0 = .ok (.aload_n 0, 1) := by decide +kernel
theorem dX2_problems_1 : decode cX2_problems 1 = .ok (.getfield 9, 3) := by decide +kernel
theorem dX2_problems_4 : decode cX2_problems 4 = .ok (.iload_n 1, 1) := by decide +kernel
theorem dX2_problems_5 : decode cX2_problems 5 = .ok (.invokevirtual 22, 3) := by decide +kernel
theorem dX2_problems_8 : decode cX2_problems 8 = .ok (.astore_n 3, 1) := by decide +kernel
theorem dX2_problems_9 : decode cX2_problems 9 = .ok (.iconst 0, 1) := by decide +kernel
theorem dX2_problems_10 : decode cX2_problems 10 = .ok (.istore 4, 2) := by decide +kernel
theorem dX2_problems_12 : decode cX2_problems 12 = .ok (.aload_n 3, 1) := by decide +kernel
theorem dX2_problems_13 : decode cX2_problems 13 = .ok (.iload_n 2, 1) := by decide +kernel
theorem dX2_problems_14 : decode cX2_problems 14 = .ok (.invokevirtual 70, 3) := by decide +kernel
theorem dX2_problems_17 : decode cX2_problems 17 = .ok (.aload_n 0, 1) := by decide +kernel
theorem dX2_problems_18 : decode cX2_problems 18 = .ok (.iload_n 1, 1) := by decide +kernel
theorem dX2_problems_19 : decode cX2_problems 19 = .ok (.iload_n 2, 1) := by decide +kernel
theorem dX2_problems_20 : decode cX2_problems 20 = .ok (.invokevirtual 73, 3) := by decide +kernel
theorem dX2_problems_23 : decode cX2_problems 23 = .ok (.if_icmp .ge 6, 3) := by decide +kernel
theorem dX2_problems_26 : decode cX2_problems 26 = .ok (.iinc 4 1, 3) := by decide +kernel
theorem dX2_problems_29 : decode cX2_problems 29 = .ok (.aload_n 0, 1) := by decide +kernel
theorem dX2_problems_30 : decode cX2_problems 30 = .ok (.getfield 9, 3) := by decide +kernel
theorem dX2_problems_33 : decode cX2_problems 33 = .ok (.aload_n 3, 1) := by decide +kernel
theorem dX2_problems_34 : decode cX2_problems 34 = .ok (.iload_n 2, 1) := by decide +kernel
theorem dX2_problems_35 : decode cX2_problems 35 = .ok (.invokevirtual 51, 3) := by decide +kernel
theorem dX2_problems_38 : decode cX2_problems 38 = .ok (.invokevirtual 76, 3) := by decide +kernel
theorem dX2_problems_41 : decode cX2_problems 41 = .ok (.ifCond .eq 6, 3) := by decide +kernel
theorem dX2_problems_44 : decode cX2_problems 44 = .ok (.iinc 4 2, 3) := by decide +kernel
theorem dX2_problems_47 : decode cX2_problems 47 = .ok (.aload_n 0, 1) := by decide +kernel
theorem dX2_problems_48 : decode cX2_problems 48 = .ok (.getfield 9, 3) := by decide +kernel
theorem dX2_problems_51 : decode cX2_problems 51 = .ok (.aload_n 3, 1) := by decide +kernel
theorem dX2_problems_52 : decode cX2_problems 52 = .ok (.iload_n 2, 1) := by decide +kernel
theorem dX2_problems_53 : decode cX2_problems 53 = .ok (.invokevirtual 54, 3) := by decide +kernel
theorem dX2_problems_56 : decode cX2_problems 56 = .ok (.invokevirtual 76, 3) := by decide +kernel
theorem dX2_problems_59 : decode cX2_problems 59 = .ok (.ifCond .eq 6, 3) := by decide +kernel
theorem dX2_problems_62 : decode cX2_problems 62 = .ok (.iinc 4 4, 3) := by decide +kernel
theorem dX2_problems_65 : decode cX2_problems 65 = .ok (.aload_n 0, 1) := by decide +kernel
theorem dX2_problems_66 : decode cX2_problems 66 = .ok (.iload_n 1, 1) := by decide +kernel
theorem dX2_problems_67 : decode cX2_problems 67 = .ok (.iload_n 2, 1) := by decide +kernel
theorem dX2_problems_68 : decode cX2_problems 68 = .ok (.invokevirtual 80, 3) := by decide +kernel
theorem dX2_problems_71 : decode cX2_problems 71 = .ok (.ifCond .eq 6, 3) := by decide +kernel
theorem dX2_problems_74 : decode cX2_problems 74 = .ok (.iinc 4 8, 3) := by decide +kernel
theorem dX2_problems_77 : decode cX2_problems 77 = .ok (.aload_n 3, 1) := by decide +kernel
theorem dX2_problems_78 : decode cX2_problems 78 = .ok (.iload_n 2, 1) := by decide +kernel
theorem dX2_problems_79 : decode cX2_problems 79 = .ok (.invokevirtual 84, 3) := by decide +kernel
theorem dX2_problems_82 : decode cX2_problems 82 = .ok (.aload_n 0, 1) := by decide +kernel
theorem dX2_problems_83 : decode cX2_problems 83 = .ok (.getfield 9, 3) := by decide +kernel
theorem dX2_problems_86 : decode cX2_problems 86 = .ok (.iconst 5, 1) := by decide +kernel
theorem dX2_problems_87 : decode cX2_problems 87 = .ok (.invokevirtual 37, 3) := by decide +kernel
theorem dX2_problems_90 : decode cX2_problems 90 = .ok (.if_icmp .le 6, 3) := by decide +kernel
theorem dX2_problems_93 : decode cX2_problems 93 = .ok (.iinc 4 16, 3) := by decide +kernel
theorem dX2_problems_96 : decode cX2_problems 96 = .ok (.aload_n 3, 1) := by decide +kernel
theorem dX2_problems_97 : decode cX2_problems 97 = .ok (.iload_n 2, 1) := by decide +kernel
theorem dX2_problems_98 : decode cX2_problems 98 = .ok (.invokevirtual 28, 3) := by decide +kernel
theorem dX2_problems_101 : decode cX2_problems 101 = .ok (.iconst 1, 1) := by decide +kernel
theorem dX2_problems_102 : decode cX2_problems 102 = .ok (.if_icmp .eq 15, 3) := by decide +kernel
theorem dX2_problems_105 : decode cX2_problems 105 = .ok (.aload_n 0, 1) := by decide +kernel
theorem dX2_problems_106 : decode cX2_problems 106 = .ok (.iload_n 1, 1) := by decide +kernel
theorem dX2_problems_107 : decode cX2_problems 107 = .ok (.iload_n 2, 1) := by decide +kernel
theorem dX2_problems_108 : decode cX2_problems 108 = .ok (.invokevirtual 87, 3) := by decide +kernel
theorem dX2_problems_111 : decode cX2_problems 111 = .ok (.ifCond .ne 6, 3) := by decide +kernel
theorem dX2_problems_114 : decode cX2_problems 114 = .ok (.iinc 4 32, 3) := by decide +kernel
theorem dX2_problems_117 : decode cX2_problems 117 = .ok (.iload 4, 2) := by decide +kernel
theorem dX2_problems_119 : decode cX2_problems 119 = .ok (.ireturn, 1) := by decide +kernel
theorem dX2_captionsWith_0 : decode cX2_captionsWith 0 = .ok (.iconst 0, 1) := by decide +kernel
theorem dX2_captionsWith_1 : decode cX2_captionsWith 1 = .ok (.istore_n 3, 1) := by decide +kernel
theorem dX2_captionsWith_2 : decode cX2_captionsWith 2 = .ok (.iconst 0, 1) := by decide +kernel
theorem dX2_captionsWith_3 : decode cX2_captionsWith 3 = .ok (.istore 4, 2) := by decide +kernel
theorem dX2_captionsWith_5 : decode cX2_captionsWith 5 = .ok (.iload 4, 2) := by decide +kernel
theorem dX2_captionsWith_7 : decode cX2_captionsWith 7 = .ok (.aload_n 0, 1) := by decide +kernel
theorem dX2_captionsWith_8 : decode cX2_captionsWith 8 = .ok (.getfield 9, 3) := by decide +kernel
theorem dX2_captionsWith_11 : decode cX2_captionsWith 11 = .ok (.iload_n 1, 1) := by decide +kernel
theorem dX2_captionsWith_12 : decode cX2_captionsWith 12 = .ok (.invokevirtual 22, 3) := by decide +kernel
theorem dX2_captionsWith_15 : decode cX2_captionsWith 15 = .ok (.getfield 47, 3) := by decide +kernel
theorem dX2_captionsWith_18 : decode cX2_captionsWith 18 = .ok (.if_icmp .ge 24, 3) := by decide +kernel
theorem dX2_captionsWith_21 : decode cX2_captionsWith 21 = .ok (.aload_n 0, 1) := by decide +kernel
theorem dX2_captionsWith_22 : decode cX2_captionsWith 22 = .ok (.iload_n 1, 1) := by decide +kernel
theorem dX2_captionsWith_23 : decode cX2_captionsWith 23 = .ok (.iload 4, 2) := by decide +kernel
theorem dX2_captionsWith_25 : decode cX2_captionsWith 25 = .ok (.invokevirtual 90, 3) := by decide +kernel
theorem dX2_captionsWith_28 : decode cX2_captionsWith 28 = .ok (.iload_n 2, 1) := by decide +kernel
theorem dX2_captionsWith_29 : decode cX2_captionsWith 29 = .ok (.iand, 1) := by decide +kernel
theorem dX2_captionsWith_30 : decode cX2_captionsWith 30 = .ok (.ifCond .eq 6, 3) := by decide +kernel
theorem dX2_captionsWith_33 : decode cX2_captionsWith 33 = .ok (.iinc 3 1, 3) := by decide +kernel
theorem dX2_captionsWith_36 : decode cX2_captionsWith 36 = .ok (.iinc 4 1, 3) := by decide +kernel
theorem dX2_captionsWith_39 : decode cX2_captionsWith 39 = .ok (.goto (-34), 3) := by decide +kernel
theorem dX2_captionsWith_42 : decode cX2_captionsWith 42 = .ok (.iload_n 3, 1) := by decide +kernel
theorem dX2_captionsWith_43 : decode cX2_captionsWith 43 = .ok (.ireturn, 1) := by decide +kernel
theorem dX2_cutsWithin_0 : decode cX2_cutsWithin 0 = .ok (.aload_n 0, 1) := by decide +kernel
theorem dX2_cutsWithin_1 : decode cX2_cutsWithin 1 = .ok (.getfield 9, 3) := by decide +kernel
theorem dX2_cutsWithin_4 : decode cX2_cutsWithin 4 = .ok (.iload_n 1, 1) := by decide +kernel
theorem dX2_cutsWithin_5 : decode cX2_cutsWithin 5 = .ok (.invokevirtual 22, 3) := by decide +kernel
theorem dX2_cutsWithin_8 : decode cX2_cutsWithin 8 = .ok (.astore_n 3, 1) := by decide +kernel
theorem dX2_cutsWithin_9 : decode cX2_cutsWithin 9 = .ok (.aload_n 0, 1) := by decide +kernel
theorem dX2_cutsWithin_10 : decode cX2_cutsWithin 10 = .ok (.getfield 9, 3) := by decide +kernel
theorem dX2_cutsWithin_13 : decode cX2_cutsWithin 13 = .ok (.getfield 93, 3) := by decide +kernel
theorem dX2_cutsWithin_16 : decode cX2_cutsWithin 16 = .ok (.aload_n 3, 1) := by decide +kernel
theorem dX2_cutsWithin_17 : decode cX2_cutsWithin 17 = .ok (.iload_n 2, 1) := by decide +kernel
theorem dX2_cutsWithin_18 : decode cX2_cutsWithin 18 = .ok (.invokevirtual 54, 3) := by decide +kernel
theorem dX2_cutsWithin_21 : decode cX2_cutsWithin 21 = .ok (.iconst 1, 1) := by decide +kernel
theorem dX2_cutsWithin_22 : decode cX2_cutsWithin 22 = .ok (.isub, 1) := by decide +kernel
theorem dX2_cutsWithin_23 : decode cX2_cutsWithin 23 = .ok (.invokevirtual 97, 3) := by decide +kernel
theorem dX2_cutsWithin_26 : decode cX2_cutsWithin 26 = .ok (.aload_n 0, 1) := by decide +kernel
theorem dX2_cutsWithin_27 : decode cX2_cutsWithin 27 = .ok (.getfield 9, 3) := by decide +kernel
theorem dX2_cutsWithin_30 : decode cX2_cutsWithin 30 = .ok (.getfield 93, 3) := by decide +kernel
theorem dX2_cutsWithin_33 : decode cX2_cutsWithin 33 = .ok (.aload_n 3, 1) := by decide +kernel
theorem dX2_cutsWithin_34 : decode cX2_cutsWithin 34 = .ok (.iload_n 2, 1) := by decide +kernel
theorem dX2_cutsWithin_35 : decode cX2_cutsWithin 35 = .ok (.invokevirtual 51, 3) := by decide +kernel
theorem dX2_cutsWithin_38 : decode cX2_cutsWithin 38 = .ok (.invokevirtual 97, 3) := by decide +kernel
theorem dX2_cutsWithin_41 : decode cX2_cutsWithin 41 = .ok (.isub, 1) := by decide +kernel
theorem dX2_cutsWithin_42 : decode cX2_cutsWithin 42 = .ok (.ireturn, 1) := by decide +kernel
theorem dX2_captionsOverCuts_0 : decode cX2_captionsOverCuts 0 = .ok (.iconst 0, 1) := by decide +kernel
theorem dX2_captionsOverCuts_1 : decode cX2_captionsOverCuts 1 = .ok (.istore_n 2, 1) := by decide +kernel
theorem dX2_captionsOverCuts_2 : decode cX2_captionsOverCuts 2 = .ok (.iconst 0, 1) := by decide +kernel
theorem dX2_captionsOverCuts_3 : decode cX2_captionsOverCuts 3 = .ok (.istore_n 3, 1) := by decide +kernel
theorem dX2_captionsOverCuts_4 : decode cX2_captionsOverCuts 4 = .ok (.iload_n 3, 1) := by decide +kernel
theorem dX2_captionsOverCuts_5 : decode cX2_captionsOverCuts 5 = .ok (.aload_n 0, 1) := by decide +kernel
theorem dX2_captionsOverCuts_6 : decode cX2_captionsOverCuts 6 = .ok (.getfield 9, 3) := by decide +kernel
theorem dX2_captionsOverCuts_9 : decode cX2_captionsOverCuts 9 = .ok (.iload_n 1, 1) := by decide +kernel
theorem dX2_captionsOverCuts_10 : decode cX2_captionsOverCuts 10 = .ok (.invokevirtual 22, 3) := by decide +kernel
theorem dX2_captionsOverCuts_13 : decode cX2_captionsOverCuts 13 = .ok (.getfield 47, 3) := by decide +kernel
theorem dX2_captionsOverCuts_16 : decode cX2_captionsOverCuts 16 = .ok (.if_icmp .ge 21, 3) := by decide +kernel
theorem dX2_captionsOverCuts_19 : decode cX2_captionsOverCuts 19 = .ok (.aload_n 0, 1) := by decide +kernel
theorem dX2_captionsOverCuts_20 : decode cX2_captionsOverCuts 20 = .ok (.iload_n 1, 1) := by decide +kernel
theorem dX2_captionsOverCuts_21 : decode cX2_captionsOverCuts 21 = .ok (.iload_n 3, 1) := by decide +kernel
theorem dX2_captionsOverCuts_22 : decode cX2_captionsOverCuts 22 = .ok (.invokevirtual 102, 3) := by decide +kernel
theorem dX2_captionsOverCuts_25 : decode cX2_captionsOverCuts 25 = .ok (.ifCond .le 6, 3) := by decide +kernel
theorem dX2_captionsOverCuts_28 : decode cX2_captionsOverCuts 28 = .ok (.iinc 2 1, 3) := by decide +kernel
theorem dX2_captionsOverCuts_31 : decode cX2_captionsOverCuts 31 = .ok (.iinc 3 1, 3) := by decide +kernel
theorem dX2_captionsOverCuts_34 : decode cX2_captionsOverCuts 34 = .ok (.goto (-30), 3) := by decide +kernel
theorem dX2_captionsOverCuts_37 : decode cX2_captionsOverCuts 37 = .ok (.iload_n 2, 1) := by decide +kernel
theorem dX2_captionsOverCuts_38 : decode cX2_captionsOverCuts 38 = .ok (.ireturn, 1) := by decide +kernel
theorem dX2_captionsToMerge_0 : decode cX2_captionsToMerge 0 = .ok (.iconst 0, 1) := by decide +kernel
theorem dX2_captionsToMerge_1 : decode cX2_captionsToMerge 1 = .ok (.istore_n 2, 1) := by decide +kernel
theorem dX2_captionsToMerge_2 : decode cX2_captionsToMerge 2 = .ok (.iconst 0, 1) := by decide +kernel
theorem dX2_captionsToMerge_3 : decode cX2_captionsToMerge 3 = .ok (.istore_n 3, 1) := by decide +kernel
theorem dX2_captionsToMerge_4 : decode cX2_captionsToMerge 4 = .ok (.iload_n 3, 1) := by decide +kernel
theorem dX2_captionsToMerge_5 : decode cX2_captionsToMerge 5 = .ok (.aload_n 0, 1) := by decide +kernel
theorem dX2_captionsToMerge_6 : decode cX2_captionsToMerge 6 = .ok (.getfield 9, 3) := by decide +kernel
theorem dX2_captionsToMerge_9 : decode cX2_captionsToMerge 9 = .ok (.iload_n 1, 1) := by decide +kernel
theorem dX2_captionsToMerge_10 : decode cX2_captionsToMerge 10 = .ok (.invokevirtual 22, 3) := by decide +kernel
theorem dX2_captionsToMerge_13 : decode cX2_captionsToMerge 13 = .ok (.getfield 47, 3) := by decide +kernel
theorem dX2_captionsToMerge_16 : decode cX2_captionsToMerge 16 = .ok (.if_icmp .ge 21, 3) := by decide +kernel
theorem dX2_captionsToMerge_19 : decode cX2_captionsToMerge 19 = .ok (.aload_n 0, 1) := by decide +kernel
theorem dX2_captionsToMerge_20 : decode cX2_captionsToMerge 20 = .ok (.iload_n 1, 1) := by decide +kernel
theorem dX2_captionsToMerge_21 : decode cX2_captionsToMerge 21 = .ok (.iload_n 3, 1) := by decide +kernel
theorem dX2_captionsToMerge_22 : decode cX2_captionsToMerge 22 = .ok (.invokevirtual 105, 3) := by decide +kernel
theorem dX2_captionsToMerge_25 : decode cX2_captionsToMerge 25 = .ok (.ifCond .ne 6, 3) := by decide +kernel
theorem dX2_captionsToMerge_28 : decode cX2_captionsToMerge 28 = .ok (.iinc 2 1, 3) := by decide +kernel
theorem dX2_captionsToMerge_31 : decode cX2_captionsToMerge 31 = .ok (.iinc 3 1, 3) := by decide +kernel
theorem dX2_captionsToMerge_34 : decode cX2_captionsToMerge 34 = .ok (.goto (-30), 3) := by decide +kernel
theorem dX2_captionsToMerge_37 : decode cX2_captionsToMerge 37 = .ok (.iload_n 2, 1) := by decide +kernel
theorem dX2_captionsToMerge_38 : decode cX2_captionsToMerge 38 = .ok (.ireturn, 1) := by decide +kernel
theorem dX2_framesOfBoth_0 : decode cX2_framesOfBoth 0 = .ok (.aload_n 0, 1) := by decide +kernel
theorem dX2_framesOfBoth_1 : decode cX2_framesOfBoth 1 = .ok (.getfield 9, 3) := by decide +kernel
theorem dX2_framesOfBoth_4 : decode cX2_framesOfBoth 4 = .ok (.iconst 0, 1) := by decide +kernel
theorem dX2_framesOfBoth_5 : decode cX2_framesOfBoth 5 = .ok (.invokevirtual 22, 3) := by decide +kernel
theorem dX2_framesOfBoth_8 : decode cX2_framesOfBoth 8 = .ok (.astore_n 1, 1) := by decide +kernel
theorem dX2_framesOfBoth_9 : decode cX2_framesOfBoth 9 = .ok (.aload_n 0, 1) := by decide +kernel
theorem dX2_framesOfBoth_10 : decode cX2_framesOfBoth 10 = .ok (.getfield 9, 3) := by decide +kernel
theorem dX2_framesOfBoth_13 : decode cX2_framesOfBoth 13 = .ok (.iconst 0, 1) := by decide +kernel
theorem dX2_framesOfBoth_14 : decode cX2_framesOfBoth 14 = .ok (.invokevirtual 44, 3) := by decide +kernel
theorem dX2_framesOfBoth_17 : decode cX2_framesOfBoth 17 = .ok (.astore_n 2, 1) := by decide +kernel
theorem dX2_framesOfBoth_18 : decode cX2_framesOfBoth 18 = .ok (.iconst 0, 1) := by decide +kernel
theorem dX2_framesOfBoth_19 : decode cX2_framesOfBoth 19 = .ok (.istore_n 3, 1) := by decide +kernel
theorem dX2_framesOfBoth_20 : decode cX2_framesOfBoth 20 = .ok (.iconst 0, 1) := by decide +kernel
theorem dX2_framesOfBoth_21 : decode cX2_framesOfBoth 21 = .ok (.istore 4, 2) := by decide +kernel
theorem dX2_framesOfBoth_23 : decode cX2_framesOfBoth 23 = .ok (.iload 4, 2) := by decide +kernel
theorem dX2_framesOfBoth_25 : decode cX2_framesOfBoth 25 = .ok (.aload_n 1, 1) := by decide +kernel
theorem dX2_framesOfBoth_26 : decode cX2_framesOfBoth 26 = .ok (.getfield 47, 3) := by decide +kernel
theorem dX2_framesOfBoth_29 : decode cX2_framesOfBoth 29 = .ok (.if_icmp .ge 48, 3) := by decide +kernel
theorem dX2_framesOfBoth_32 : decode cX2_framesOfBoth 32 = .ok (.iconst 0, 1) := by decide +kernel
theorem dX2_framesOfBoth_33 : decode cX2_framesOfBoth 33 = .ok (.istore 5, 2) := by decide +kernel
theorem dX2_framesOfBoth_35 : decode cX2_framesOfBoth 35 = .ok (.iload 5, 2) := by decide +kernel
theorem dX2_framesOfBoth_37 : decode cX2_framesOfBoth 37 = .ok (.aload_n 2, 1) := by decide +kernel
theorem dX2_framesOfBoth_38 : decode cX2_framesOfBoth 38 = .ok (.getfield 47, 3) := by decide +kernel
theorem dX2_framesOfBoth_41 : decode cX2_framesOfBoth 41 = .ok (.if_icmp .ge 30, 3) := by decide +kernel
theorem dX2_framesOfBoth_44 : decode cX2_framesOfBoth 44 = .ok (.iload_n 3, 1) := by decide +kernel
theorem dX2_framesOfBoth_45 : decode cX2_framesOfBoth 45 = .ok (.aload_n 2, 1) := by decide +kernel
theorem dX2_framesOfBoth_46 : decode cX2_framesOfBoth 46 = .ok (.iload 5, 2) := by decide +kernel
theorem dX2_framesOfBoth_48 : decode cX2_framesOfBoth 48 = .ok (.aload_n 1, 1) := by decide +kernel
theorem dX2_framesOfBoth_49 : decode cX2_framesOfBoth 49 = .ok (.iload 4, 2) := by decide +kernel
theorem dX2_framesOfBoth_51 : decode cX2_framesOfBoth 51 = .ok (.invokevirtual 51, 3) := by decide +kernel
theorem dX2_framesOfBoth_54 : decode cX2_framesOfBoth 54 = .ok (.aload_n 1, 1) := by decide +kernel
theorem dX2_framesOfBoth_55 : decode cX2_framesOfBoth 55 = .ok (.iload 4, 2) := by decide +kernel
theorem dX2_framesOfBoth_57 : decode cX2_framesOfBoth 57 = .ok (.invokevirtual 54, 3) := by decide +kernel
theorem dX2_framesOfBoth_60 : decode cX2_framesOfBoth 60 = .ok (.invokevirtual 57, 3) := by decide +kernel
theorem dX2_framesOfBoth_63 : decode cX2_framesOfBoth 63 = .ok (.iadd, 1) := by decide +kernel
theorem dX2_framesOfBoth_64 : decode cX2_framesOfBoth 64 = .ok (.istore_n 3, 1) := by decide +kernel
theorem dX2_framesOfBoth_65 : decode cX2_framesOfBoth 65 = .ok (.iinc 5 1, 3) := by decide +kernel
theorem dX2_framesOfBoth_68 : decode cX2_framesOfBoth 68 = .ok (.goto (-33), 3) := by decide +kernel
theorem dX2_framesOfBoth_71 : decode cX2_framesOfBoth 71 = .ok (.iinc 4 1, 3) := by decide +kernel
theorem dX2_framesOfBoth_74 : decode cX2_framesOfBoth 74 = .ok (.goto (-51), 3) := by decide +kernel
theorem dX2_framesOfBoth_77 : decode cX2_framesOfBoth 77 = .ok (.iload_n 3, 1) := by decide +kernel
theorem dX2_framesOfBoth_78 : decode cX2_framesOfBoth 78 = .ok (.ireturn, 1) := by decide +kernel
theorem dX2_mergeRefusal_0 : decode cX2_mergeRefusal 0 = .ok (.aload_n 0, 1) := by decide +kernel
theorem dX2_mergeRefusal_1 : decode cX2_mergeRefusal 1 = .ok (.getfield 9, 3) := by decide +kernel
theorem dX2_mergeRefusal_4 : decode cX2_mergeRefusal 4 = .ok (.iload_n 1, 1) := by decide +kernel
theorem dX2_mergeRefusal_5 : decode cX2_mergeRefusal 5 = .ok (.invokevirtual 22, 3) := by decide +kernel
theorem dX2_mergeRefusal_8 : decode cX2_mergeRefusal 8 = .ok (.astore_n 3, 1) := by decide +kernel
theorem dX2_mergeRefusal_9 : decode cX2_mergeRefusal 9 = .ok (.aload_n 3, 1) := by decide +kernel
theorem dX2_mergeRefusal_10 : decode cX2_mergeRefusal 10 = .ok (.iload_n 2, 1) := by decide +kernel
theorem dX2_mergeRefusal_11 : decode cX2_mergeRefusal 11 = .ok (.iconst 1, 1) := by decide +kernel
theorem dX2_mergeRefusal_12 : decode cX2_mergeRefusal 12 = .ok (.iadd, 1) := by decide +kernel
theorem dX2_mergeRefusal_13 : decode cX2_mergeRefusal 13 = .ok (.invokevirtual 108, 3) := by decide +kernel
theorem dX2_mergeRefusal_16 : decode cX2_mergeRefusal 16 = .ok (.ifCond .ne 5, 3) := by decide +kernel
theorem dX2_mergeRefusal_19 : decode cX2_mergeRefusal 19 = .ok (.iconst 5, 1) := by decide +kernel
theorem dX2_mergeRefusal_20 : decode cX2_mergeRefusal 20 = .ok (.ireturn, 1) := by decide +kernel
theorem dX2_mergeRefusal_21 : decode cX2_mergeRefusal 21 = .ok (.aload_n 3, 1) := by decide +kernel
theorem dX2_mergeRefusal_22 : decode cX2_mergeRefusal 22 = .ok (.iload_n 2, 1) := by decide +kernel
theorem dX2_mergeRefusal_23 : decode cX2_mergeRefusal 23 = .ok (.invokevirtual 28, 3) := by decide +kernel
theorem dX2_mergeRefusal_26 : decode cX2_mergeRefusal 26 = .ok (.aload_n 3, 1) := by decide +kernel
theorem dX2_mergeRefusal_27 : decode cX2_mergeRefusal 27 = .ok (.iload_n 2, 1) := by decide +kernel
theorem dX2_mergeRefusal_28 : decode cX2_mergeRefusal 28 = .ok (.iconst 1, 1) := by decide +kernel
theorem dX2_mergeRefusal_29 : decode cX2_mergeRefusal 29 = .ok (.iadd, 1) := by decide +kernel
theorem dX2_mergeRefusal_30 : decode cX2_mergeRefusal 30 = .ok (.invokevirtual 28, 3) := by decide +kernel
theorem dX2_mergeRefusal_33 : decode cX2_mergeRefusal 33 = .ok (.if_icmp .eq 6, 3) := by decide +kernel
theorem dX2_mergeRefusal_36 : decode cX2_mergeRefusal 36 = .ok (.bipush 6, 2) := by decide +kernel
theorem dX2_mergeRefusal_38 : decode cX2_mergeRefusal 38 = .ok (.ireturn, 1) := by decide +kernel
theorem dX2_mergeRefusal_39 : decode cX2_mergeRefusal 39 = .ok (.aload_n 3, 1) := by decide +kernel
theorem dX2_mergeRefusal_40 : decode cX2_mergeRefusal 40 = .ok (.iload_n 2, 1) := by decide +kernel
theorem dX2_mergeRefusal_41 : decode cX2_mergeRefusal 41 = .ok (.iconst 1, 1) := by decide +kernel
theorem dX2_mergeRefusal_42 : decode cX2_mergeRefusal 42 = .ok (.iadd, 1) := by decide +kernel
theorem dX2_mergeRefusal_43 : decode cX2_mergeRefusal 43 = .ok (.invokevirtual 67, 3) := by decide +kernel
theorem dX2_mergeRefusal_46 : decode cX2_mergeRefusal 46 = .ok (.aload_n 0, 1) := by decide +kernel
theorem dX2_mergeRefusal_47 : decode cX2_mergeRefusal 47 = .ok (.getfield 9, 3) := by decide +kernel
theorem dX2_mergeRefusal_50 : decode cX2_mergeRefusal 50 = .ok (.iconst 3, 1) := by decide +kernel
theorem dX2_mergeRefusal_51 : decode cX2_mergeRefusal 51 = .ok (.invokevirtual 37, 3) := by decide +kernel
theorem dX2_mergeRefusal_54 : decode cX2_mergeRefusal 54 = .ok (.if_icmp .le 6, 3) := by decide +kernel
theorem dX2_mergeRefusal_57 : decode cX2_mergeRefusal 57 = .ok (.bipush 7, 2) := by decide +kernel
theorem dX2_mergeRefusal_59 : decode cX2_mergeRefusal 59 = .ok (.ireturn, 1) := by decide +kernel
theorem dX2_mergeRefusal_60 : decode cX2_mergeRefusal 60 = .ok (.aload_n 0, 1) := by decide +kernel
theorem dX2_mergeRefusal_61 : decode cX2_mergeRefusal 61 = .ok (.iload_n 1, 1) := by decide +kernel
theorem dX2_mergeRefusal_62 : decode cX2_mergeRefusal 62 = .ok (.iload_n 2, 1) := by decide +kernel
theorem dX2_mergeRefusal_63 : decode cX2_mergeRefusal 63 = .ok (.invokevirtual 111, 3) := by decide +kernel
theorem dX2_mergeRefusal_66 : decode cX2_mergeRefusal 66 = .ok (.invokevirtual 115, 3) := by decide +kernel
theorem dX2_mergeRefusal_69 : decode cX2_mergeRefusal 69 = .ok (.ifCond .eq 7, 3) := by decide +kernel
theorem dX2_mergeRefusal_72 : decode cX2_mergeRefusal 72 = .ok (.iconst 0, 1) := by decide +kernel
theorem dX2_mergeRefusal_73 : decode cX2_mergeRefusal 73 = .ok (.goto 4, 3) := by decide +kernel
theorem dX2_mergeRefusal_76 : decode cX2_mergeRefusal 76 = .ok (.iconst 4, 1) := by decide +kernel
theorem dX2_mergeRefusal_77 : decode cX2_mergeRefusal 77 = .ok (.ireturn, 1) := by decide +kernel
theorem dX2_joinWithNext_0 : decode cX2_joinWithNext 0 = .ok (.aload_n 0, 1) := by decide +kernel
theorem dX2_joinWithNext_1 : decode cX2_joinWithNext 1 = .ok (.getfield 9, 3) := by decide +kernel
theorem dX2_joinWithNext_4 : decode cX2_joinWithNext 4 = .ok (.iload_n 1, 1) := by decide +kernel
theorem dX2_joinWithNext_5 : decode cX2_joinWithNext 5 = .ok (.invokevirtual 22, 3) := by decide +kernel
theorem dX2_joinWithNext_8 : decode cX2_joinWithNext 8 = .ok (.astore_n 3, 1) := by decide +kernel
theorem dX2_joinWithNext_9 : decode cX2_joinWithNext 9 = .ok (.aload_n 0, 1) := by decide +kernel
theorem dX2_joinWithNext_10 : decode cX2_joinWithNext 10 = .ok (.getfield 18, 3) := by decide +kernel
theorem dX2_joinWithNext_13 : decode cX2_joinWithNext 13 = .ok (.invokevirtual 119, 3) := by decide +kernel
theorem dX2_joinWithNext_16 : decode cX2_joinWithNext 16 = .ok (.aload_n 3, 1) := by decide +kernel
theorem dX2_joinWithNext_17 : decode cX2_joinWithNext 17 = .ok (.aload_n 0, 1) := by decide +kernel
theorem dX2_joinWithNext_18 : decode cX2_joinWithNext 18 = .ok (.getfield 18, 3) := by decide +kernel
theorem dX2_joinWithNext_21 : decode cX2_joinWithNext 21 = .ok (.iload_n 2, 1) := by decide +kernel
theorem dX2_joinWithNext_22 : decode cX2_joinWithNext 22 = .ok (.iconst 0, 1) := by decide +kernel
theorem dX2_joinWithNext_23 : decode cX2_joinWithNext 23 = .ok (.aload_n 3, 1) := by decide +kernel
theorem dX2_joinWithNext_24 : decode cX2_joinWithNext 24 = .ok (.iload_n 2, 1) := by decide +kernel
theorem dX2_joinWithNext_25 : decode cX2_joinWithNext 25 = .ok (.invokevirtual 122, 3) := by decide +kernel
theorem dX2_joinWithNext_28 : decode cX2_joinWithNext 28 = .ok (.invokevirtual 125, 3) := by decide +kernel
theorem dX2_joinWithNext_31 : decode cX2_joinWithNext 31 = .ok (.aload_n 0, 1) := by decide +kernel
theorem dX2_joinWithNext_32 : decode cX2_joinWithNext 32 = .ok (.getfield 18, 3) := by decide +kernel
theorem dX2_joinWithNext_35 : decode cX2_joinWithNext 35 = .ok (.bipush 95, 2) := by decide +kernel
theorem dX2_joinWithNext_37 : decode cX2_joinWithNext 37 = .ok (.invokevirtual 129, 3) := by decide +kernel
theorem dX2_joinWithNext_40 : decode cX2_joinWithNext 40 = .ok (.pop, 1) := by decide +kernel
theorem dX2_joinWithNext_41 : decode cX2_joinWithNext 41 = .ok (.aload_n 3, 1) := by decide +kernel
theorem dX2_joinWithNext_42 : decode cX2_joinWithNext 42 = .ok (.aload_n 0, 1) := by decide +kernel
theorem dX2_joinWithNext_43 : decode cX2_joinWithNext 43 = .ok (.getfield 18, 3) := by decide +kernel
theorem dX2_joinWithNext_46 : decode cX2_joinWithNext 46 = .ok (.iload_n 2, 1) := by decide +kernel
theorem dX2_joinWithNext_47 : decode cX2_joinWithNext 47 = .ok (.iconst 1, 1) := by decide +kernel
theorem dX2_joinWithNext_48 : decode cX2_joinWithNext 48 = .ok (.iadd, 1) := by decide +kernel
theorem dX2_joinWithNext_49 : decode cX2_joinWithNext 49 = .ok (.iconst 0, 1) := by decide +kernel
theorem dX2_joinWithNext_50 : decode cX2_joinWithNext 50 = .ok (.aload_n 3, 1) := by decide +kernel
theorem dX2_joinWithNext_51 : decode cX2_joinWithNext 51 = .ok (.iload_n 2, 1) := by decide +kernel
theorem dX2_joinWithNext_52 : decode cX2_joinWithNext 52 = .ok (.iconst 1, 1) := by decide +kernel
theorem dX2_joinWithNext_53 : decode cX2_joinWithNext 53 = .ok (.iadd, 1) := by decide +kernel
theorem dX2_joinWithNext_54 : decode cX2_joinWithNext 54 = .ok (.invokevirtual 122, 3) := by decide +kernel
theorem dX2_joinWithNext_57 : decode cX2_joinWithNext 57 = .ok (.invokevirtual 125, 3) := by decide +kernel
theorem dX2_joinWithNext_60 : decode cX2_joinWithNext 60 = .ok (.aload_n 0, 1) := by decide +kernel
theorem dX2_joinWithNext_61 : decode cX2_joinWithNext 61 = .ok (.getfield 18, 3) := by decide +kernel
theorem dX2_joinWithNext_64 : decode cX2_joinWithNext 64 = .ok (.areturn, 1) := by decide +kernel
theorem dX3_init_0 : decode cX3_init 0 = .ok (.aload_n 0, 1) := by decide +kernel
theorem dX3_init_1 : decode cX3_init 1 = .ok (.invokespecial 3, 3) := by decide +kernel
theorem dX3_init_4 : decode cX3_init 4 = .ok (.aload_n 0, 1) := by decide +kernel
theorem dX3_init_5 : decode cX3_init 5 = .ok (.sipush 1000, 3) := by decide +kernel
theorem dX3_init_8 : decode cX3_init 8 = .ok (.putfield 9, 3) := by decide +kernel
theorem dX3_init_11 : decode cX3_init 11 = .ok (.aload_n 0, 1) := by decide +kernel
theorem dX3_init_12 : decode cX3_init 12 = .ok (.bipush 6, 2) := by decide +kernel
theorem dX3_init_14 : decode cX3_init 14 = .ok (.newarray .int, 2) := by decide +kernel
theorem dX3_init_16 : decode cX3_init 16 = .ok (.putfield 15, 3) := by decide +kernel
theorem dX3_init_19 : decode cX3_init 19 = .ok (.getstatic 19, 3) := by decide +kernel
theorem dX3_init_22 : decode cX3_init 22 = .ok (.iconst 0, 1) := by decide +kernel
theorem dX3_init_23 : decode cX3_init 23 = .ok (.aload_n 0, 1) := by decide +kernel
theorem dX3_init_24 : decode cX3_init 24 = .ok (.getfield 15, 3) := by decide +kernel
theorem dX3_init_27 : decode cX3_init 27 = .ok (.iconst 0, 1) := by decide +kernel
theorem dX3_init_28 : decode cX3_init 28 = .ok (.bipush 6, 2) := by decide +kernel
theorem dX3_init_30 : decode cX3_init 30 = .ok (.invokestatic 22, 3) := by decide +kernel
theorem dX3_init_33 : decode cX3_init 33 = .ok (.aload_n 0, 1) := by decide +kernel
theorem dX3_init_34 : decode cX3_init 34 = .ok (.new 28, 3) := by decide +kernel
theorem dX3_init_37 : decode cX3_init 37 = .ok (.dup, 1) := by decide +kernel
theorem dX3_init_38 : decode cX3_init 38 = .ok (.invokespecial 30, 3) := by decide +kernel
theorem dX3_init_41 : decode cX3_init 41 = .ok (.putfield 31, 3) := by decide +kernel
theorem dX3_init_44 : decode cX3_init 44 = .ok (.aload_n 0, 1) := by decide +kernel
theorem dX3_init_45 : decode cX3_init 45 = .ok (.new 35, 3) := by decide +kernel
theorem dX3_init_48 : decode cX3_init 48 = .ok (.dup, 1) := by decide +kernel
theorem dX3_init_49 : decode cX3_init 49 = .ok (.invokespecial 37, 3) := by decide +kernel
theorem dX3_init_52 : decode cX3_init 52 = .ok (.putfield 38, 3) := by decide +kernel
theorem dX3_init_55 : decode cX3_init 55 = .ok (.aload_n 0, 1) := by decide +kernel
theorem dX3_init_56 : decode cX3_init 56 = .ok (.new 35, 3) := by decide +kernel
theorem dX3_init_59 : decode cX3_init 59 = .ok (.dup, 1) := by decide +kernel
theorem dX3_init_60 : decode cX3_init 60 = .ok (.invokespecial 37, 3) := by decide +kernel
theorem dX3_init_63 : decode cX3_init 63 = .ok (.putfield 42, 3) := by decide +kernel
theorem dX3_init_66 : decode cX3_init 66 = .ok (.return_, 1) := by decide +kernel
theorem dX3_copyFrom_0 : decode cX3_copyFrom 0 = .ok (.aload_n 0, 1) := by decide +kernel
theorem dX3_copyFrom_1 : decode cX3_copyFrom 1 = .ok (.aload_n 1, 1) := by decide +kernel
theorem dX3_copyFrom_2 : decode cX3_copyFrom 2 = .ok (.getfield 9, 3) := by decide +kernel
theorem dX3_copyFrom_5 : decode cX3_copyFrom 5 = .ok (.putfield 9, 3) := by decide +kernel
theorem dX3_copyFrom_8 : decode cX3_copyFrom 8 = .ok (.aload_n 1, 1) := by decide +kernel
theorem dX3_copyFrom_9 : decode cX3_copyFrom 9 = .ok (.getfield 15, 3) := by decide +kernel
theorem dX3_copyFrom_12 : decode cX3_copyFrom 12 = .ok (.iconst 0, 1) := by decide +kernel
theorem dX3_copyFrom_13 : decode cX3_copyFrom 13 = .ok (.aload_n 0, 1) := by decide +kernel
theorem dX3_copyFrom_14 : decode cX3_copyFrom 14 = .ok (.getfield 15, 3) := by decide +kernel
theorem dX3_copyFrom_17 : decode cX3_copyFrom 17 = .ok (.iconst 0, 1) := by decide +kernel
theorem dX3_copyFrom_18 : decode cX3_copyFrom 18 = .ok (.bipush 6, 2) := by decide +kernel
theorem dX3_copyFrom_20 : decode cX3_copyFrom 20 = .ok (.invokestatic 22, 3) := by decide +kernel
theorem dX3_copyFrom_23 : decode cX3_copyFrom 23 = .ok (.aload_n 0, 1) := by decide +kernel
theorem dX3_copyFrom_24 : decode cX3_copyFrom 24 = .ok (.getfield 31, 3) := by decide +kernel
theorem dX3_copyFrom_27 : decode cX3_copyFrom 27 = .ok (.aload_n 1, 1) := by decide +kernel
theorem dX3_copyFrom_28 : decode cX3_copyFrom 28 = .ok (.getfield 31, 3) := by decide +kernel
theorem dX3_copyFrom_31 : decode cX3_copyFrom 31 = .ok (.invokevirtual 45, 3) := by decide +kernel
theorem dX3_copyFrom_34 : decode cX3_copyFrom 34 = .ok (.aload_n 0, 1) := by decide +kernel
theorem dX3_copyFrom_35 : decode cX3_copyFrom 35 = .ok (.getfield 38, 3) := by decide +kernel
theorem dX3_copyFrom_38 : decode cX3_copyFrom 38 = .ok (.aload_n 1, 1) := by decide +kernel
theorem dX3_copyFrom_39 : decode cX3_copyFrom 39 = .ok (.getfield 38, 3) := by decide +kernel
theorem dX3_copyFrom_42 : decode cX3_copyFrom 42 = .ok (.invokevirtual 49, 3) := by decide +kernel
theorem dX3_copyFrom_45 : decode cX3_copyFrom 45 = .ok (.aload_n 0, 1) := by decide +kernel
theorem dX3_copyFrom_46 : decode cX3_copyFrom 46 = .ok (.getfield 42, 3) := by decide +kernel
theorem dX3_copyFrom_49 : decode cX3_copyFrom 49 = .ok (.aload_n 1, 1) := by decide +kernel
theorem dX3_copyFrom_50 : decode cX3_copyFrom 50 = .ok (.getfield 42, 3) := by decide +kernel
theorem dX3_copyFrom_53 : decode cX3_copyFrom 53 = .ok (.invokevirtual 49, 3) := by decide +kernel
theorem dX3_copyFrom_56 : decode cX3_copyFrom 56 = .ok (.return_, 1) := by decide +kernel
theorem dX3_trackOf_0 : decode cX3_trackOf 0 = .ok (.iload_n 1, 1) := by decide +kernel
theorem dX3_trackOf_1 : decode cX3_trackOf 1 = .ok (.ifCond .ne 10, 3) := by decide +kernel
theorem dX3_trackOf_4 : decode cX3_trackOf 4 = .ok (.aload_n 0, 1) := by decide +kernel
theorem dX3_trackOf_5 : decode cX3_trackOf 5 = .ok (.getfield 38, 3) := by decide +kernel
theorem dX3_trackOf_8 : decode cX3_trackOf 8 = .ok (.goto 7, 3) := by decide +kernel
theorem dX3_trackOf_11 : decode cX3_trackOf 11 = .ok (.aload_n 0, 1) := by decide +kernel
theorem dX3_trackOf_12 : decode cX3_trackOf 12 = .ok (.getfield 42, 3) := by decide +kernel
theorem dX3_trackOf_15 : decode cX3_trackOf 15 = .ok (.areturn, 1) := by decide +kernel
theorem dX3_trackBeside_0 : decode cX3_trackBeside 0 = .ok (.iload_n 1, 1) := by decide +kernel
theorem dX3_trackBeside_1 : decode cX3_trackBeside 1 = .ok (.ifCond .ne 10, 3) := by decide +kernel
theorem dX3_trackBeside_4 : decode cX3_trackBeside 4 = .ok (.aload_n 0, 1) := by decide +kernel
theorem dX3_trackBeside_5 : decode cX3_trackBeside 5 = .ok (.getfield 42, 3) := by decide +kernel
theorem dX3_trackBeside_8 : decode cX3_trackBeside 8 = .ok (.goto 7, 3) := by decide +kernel
theorem dX3_trackBeside_11 : decode cX3_trackBeside 11 = .ok (.aload_n 0, 1) := by decide +kernel
theorem dX3_trackBeside_12 : decode cX3_trackBeside 12 = .ok (.getfield 38, 3) := by decide +kernel
theorem dX3_trackBeside_15 : decode cX3_trackBeside 15 = .ok (.areturn, 1) := by decide +kernel
theorem dX3_captionCount_0 : decode cX3_captionCount 0 = .ok (.aload_n 0, 1) := by decide +kernel
theorem dX3_captionCount_1 : decode cX3_captionCount 1 = .ok (.getfield 38, 3) := by decide +kernel
theorem dX3_captionCount_4 : decode cX3_captionCount 4 = .ok (.getfield 52, 3) := by decide +kernel
theorem dX3_captionCount_7 : decode cX3_captionCount 7 = .ok (.aload_n 0, 1) := by decide +kernel
theorem dX3_captionCount_8 : decode cX3_captionCount 8 = .ok (.getfield 42, 3) := by decide +kernel
theorem dX3_captionCount_11 : decode cX3_captionCount 11 = .ok (.getfield 52, 3) := by decide +kernel
theorem dX3_captionCount_14 : decode cX3_captionCount 14 = .ok (.iadd, 1) := by decide +kernel
theorem dX3_captionCount_15 : decode cX3_captionCount 15 = .ok (.ireturn, 1) := by decide +kernel
theorem dX3_setting_0 : decode cX3_setting 0 = .ok (.iload_n 1, 1) := by decide +kernel
theorem dX3_setting_1 : decode cX3_setting 1 = .ok (.invokestatic 55, 3) := by decide +kernel
theorem dX3_setting_4 : decode cX3_setting 4 = .ok (.ifCond .eq 12, 3) := by decide +kernel
theorem dX3_setting_7 : decode cX3_setting 7 = .ok (.aload_n 0, 1) := by decide +kernel
theorem dX3_setting_8 : decode cX3_setting 8 = .ok (.getfield 15, 3) := by decide +kernel
theorem dX3_setting_11 : decode cX3_setting 11 = .ok (.iload_n 1, 1) := by decide +kernel
theorem dX3_setting_12 : decode cX3_setting 12 = .ok (.iaload, 1) := by decide +kernel
theorem dX3_setting_13 : decode cX3_setting 13 = .ok (.goto 4, 3) := by decide +kernel
theorem dX3_setting_16 : decode cX3_setting 16 = .ok (.iconst 0, 1) := by decide +kernel
theorem dX3_setting_17 : decode cX3_setting 17 = .ok (.ireturn, 1) := by decide +kernel
theorem dX3_changeSetting_0 : decode cX3_changeSetting 0 = .ok (.aload_n 0, 1) := by decide +kernel
theorem dX3_changeSetting_1 : decode cX3_changeSetting 1 = .ok (.iload_n 1, 1) := by decide +kernel
theorem dX3_changeSetting_2 : decode cX3_changeSetting 2 = .ok (.invokevirtual 59, 3) := by decide +kernel
theorem dX3_changeSetting_5 : decode cX3_changeSetting 5 = .ok (.istore_n 3, 1) := by decide +kernel
theorem dX3_changeSetting_6 : decode cX3_changeSetting 6 = .ok (.iload_n 1, 1) := by decide +kernel
theorem dX3_changeSetting_7 : decode cX3_changeSetting 7 = .ok (.invokestatic 55, 3) := by decide +kernel
theorem dX3_changeSetting_10 : decode cX3_changeSetting 10 = .ok (.ifCond .eq 10, 3) := by decide +kernel
theorem dX3_changeSetting_13 : decode cX3_changeSetting 13 = .ok (.aload_n 0, 1) := by decide +kernel
theorem dX3_changeSetting_14 : decode cX3_changeSetting 14 = .ok (.getfield 15, 3) := by decide +kernel
theorem dX3_changeSetting_17 : decode cX3_changeSetting 17 = .ok (.iload_n 1, 1) := by decide +kernel
theorem dX3_changeSetting_18 : decode cX3_changeSetting 18 = .ok (.iload_n 2, 1) := by decide +kernel
theorem dX3_changeSetting_19 : decode cX3_changeSetting 19 = .ok (.iastore, 1) := by decide +kernel
theorem dX3_changeSetting_20 : decode cX3_changeSetting 20 = .ok (.iload_n 3, 1) := by decide +kernel
theorem dX3_changeSetting_21 : decode cX3_changeSetting 21 = .ok (.ireturn, 1) := by decide +kernel
theorem dX3_hasFrame_0 : decode cX3_hasFrame 0 = .ok (.iload_n 1, 1) := by decide +kernel
theorem dX3_hasFrame_1 : decode cX3_hasFrame 1 = .ok (.ifCond .lt 15, 3) := by decide +kernel
theorem dX3_hasFrame_4 : decode cX3_hasFrame 4 = .ok (.iload_n 1, 1) := by decide +kernel
theorem dX3_hasFrame_5 : decode cX3_hasFrame 5 = .ok (.aload_n 0, 1) := by decide +kernel
theorem dX3_hasFrame_6 : decode cX3_hasFrame 6 = .ok (.getfield 9, 3) := by decide +kernel
theorem dX3_hasFrame_9 : decode cX3_hasFrame 9 = .ok (.if_icmp .ge 7, 3) := by decide +kernel
theorem dX3_hasFrame_12 : decode cX3_hasFrame 12 = .ok (.iconst 1, 1) := by decide +kernel
theorem dX3_hasFrame_13 : decode cX3_hasFrame 13 = .ok (.goto 4, 3) := by decide +kernel
theorem dX3_hasFrame_16 : decode cX3_hasFrame 16 = .ok (.iconst 0, 1) := by decide +kernel
theorem dX3_hasFrame_17 : decode cX3_hasFrame 17 = .ok (.ireturn, 1) := by decide +kernel
theorem dX3_canBeCut_0 : decode cX3_canBeCut 0 = .ok (.iload_n 1, 1) := by decide +kernel
theorem dX3_canBeCut_1 : decode cX3_canBeCut 1 = .ok (.iconst 1, 1) := by decide +kernel
theorem dX3_canBeCut_2 : decode cX3_canBeCut 2 = .ok (.if_icmp .lt 15, 3) := by decide +kernel
theorem dX3_canBeCut_5 : decode cX3_canBeCut 5 = .ok (.iload_n 1, 1) := by decide +kernel
theorem dX3_canBeCut_6 : decode cX3_canBeCut 6 = .ok (.aload_n 0, 1) := by decide +kernel
theorem dX3_canBeCut_7 : decode cX3_canBeCut 7 = .ok (.getfield 9, 3) := by decide +kernel
theorem dX3_canBeCut_10 : decode cX3_canBeCut 10 = .ok (.if_icmp .ge 7, 3) := by decide +kernel
theorem dX3_canBeCut_13 : decode cX3_canBeCut 13 = .ok (.iconst 1, 1) := by decide +kernel
theorem dX3_canBeCut_14 : decode cX3_canBeCut 14 = .ok (.goto 4, 3) := by decide +kernel
theorem dX3_canBeCut_17 : decode cX3_canBeCut 17 = .ok (.iconst 0, 1) := by decide +kernel
theorem dX3_canBeCut_18 : decode cX3_canBeCut 18 = .ok (.ireturn, 1) := by decide +kernel
theorem dX3_isLoose_0 : decode cX3_isLoose 0 = .ok (.aload_n 0, 1) := by decide +kernel
theorem dX3_isLoose_1 : decode cX3_isLoose 1 = .ok (.getfield 31, 3) := by decide +kernel
theorem dX3_isLoose_4 : decode cX3_isLoose 4 = .ok (.iload_n 1, 1) := by decide +kernel
theorem dX3_isLoose_5 : decode cX3_isLoose 5 = .ok (.invokevirtual 63, 3) := by decide +kernel
theorem dX3_isLoose_8 : decode cX3_isLoose 8 = .ok (.istore_n 2, 1) := by decide +kernel
theorem dX3_isLoose_9 : decode cX3_isLoose 9 = .ok (.iload_n 2, 1) := by decide +kernel
theorem dX3_isLoose_10 : decode cX3_isLoose 10 = .ok (.iconst (-1), 1) := by decide +kernel
theorem dX3_isLoose_11 : decode cX3_isLoose 11 = .ok (.if_icmp .eq 25, 3) := by decide +kernel
theorem dX3_isLoose_14 : decode cX3_isLoose 14 = .ok (.iload_n 2, 1) := by decide +kernel
theorem dX3_isLoose_15 : decode cX3_isLoose 15 = .ok (.iload_n 1, 1) := by decide +kernel
theorem dX3_isLoose_16 : decode cX3_isLoose 16 = .ok (.if_icmp .eq 20, 3) := by decide +kernel
theorem dX3_isLoose_19 : decode cX3_isLoose 19 = .ok (.iload_n 2, 1) := by decide +kernel
theorem dX3_isLoose_20 : decode cX3_isLoose 20 = .ok (.iload_n 1, 1) := by decide +kernel
theorem dX3_isLoose_21 : decode cX3_isLoose 21 = .ok (.invokestatic 66, 3) := by decide +kernel
theorem dX3_isLoose_24 : decode cX3_isLoose 24 = .ok (.aload_n 0, 1) := by decide +kernel
theorem dX3_isLoose_25 : decode cX3_isLoose 25 = .ok (.iconst 1, 1) := by decide +kernel
theorem dX3_isLoose_26 : decode cX3_isLoose 26 = .ok (.invokevirtual 59, 3) := by decide +kernel
theorem dX3_isLoose_29 : decode cX3_isLoose 29 = .ok (.if_icmp .gt 7, 3) := by decide +kernel
theorem dX3_isLoose_32 : decode cX3_isLoose 32 = .ok (.iconst 1, 1) := by decide +kernel
theorem dX3_isLoose_33 : decode cX3_isLoose 33 = .ok (.goto 4, 3) := by decide +kernel
theorem dX3_isLoose_36 : decode cX3_isLoose 36 = .ok (.iconst 0, 1) := by decide +kernel
theorem dX3_isLoose_37 : decode cX3_isLoose 37 = .ok (.ireturn, 1) := by decide +kernel
theorem dX3_lengthRefusal_0 : decode cX3_lengthRefusal 0 = .ok (.iconst 0, 1) := by decide +kernel
theorem dX3_lengthRefusal_1 : decode cX3_lengthRefusal 1 = .ok (.istore_n 2, 1) := by decide +kernel
theorem dX3_lengthRefusal_2 : decode cX3_lengthRefusal 2 = .ok (.iload_n 2, 1) := by decide +kernel
theorem dX3_lengthRefusal_3 : decode cX3_lengthRefusal 3 = .ok (.iconst 2, 1) := by decide +kernel
theorem dX3_lengthRefusal_4 : decode cX3_lengthRefusal 4 = .ok (.if_icmp .ge 31, 3) := by decide +kernel
theorem dX3_lengthRefusal_7 : decode cX3_lengthRefusal 7 = .ok (.aload_n 0, 1) := by decide +kernel
theorem dX3_lengthRefusal_8 : decode cX3_lengthRefusal 8 = .ok (.iload_n 2, 1) := by decide +kernel
theorem dX3_lengthRefusal_9 : decode cX3_lengthRefusal 9 = .ok (.invokevirtual 70, 3) := by decide +kernel
theorem dX3_lengthRefusal_12 : decode cX3_lengthRefusal 12 = .ok (.astore_n 3, 1) := by decide +kernel
theorem dX3_lengthRefusal_13 : decode cX3_lengthRefusal 13 = .ok (.aload_n 3, 1) := by decide +kernel
theorem dX3_lengthRefusal_14 : decode cX3_lengthRefusal 14 = .ok (.aload_n 3, 1) := by decide +kernel
theorem dX3_lengthRefusal_15 : decode cX3_lengthRefusal 15 = .ok (.getfield 52, 3) := by decide +kernel
theorem dX3_lengthRefusal_18 : decode cX3_lengthRefusal 18 = .ok (.iconst 1, 1) := by decide +kernel
theorem dX3_lengthRefusal_19 : decode cX3_lengthRefusal 19 = .ok (.isub, 1) := by decide +kernel
theorem dX3_lengthRefusal_20 : decode cX3_lengthRefusal 20 = .ok (.invokevirtual 74, 3) := by decide +kernel
theorem dX3_lengthRefusal_23 : decode cX3_lengthRefusal 23 = .ok (.iload_n 1, 1) := by decide +kernel
theorem dX3_lengthRefusal_24 : decode cX3_lengthRefusal 24 = .ok (.if_icmp .le 5, 3) := by decide +kernel
theorem dX3_lengthRefusal_27 : decode cX3_lengthRefusal 27 = .ok (.iconst 1, 1) := by decide +kernel
theorem dX3_lengthRefusal_28 : decode cX3_lengthRefusal 28 = .ok (.ireturn, 1) := by decide +kernel
theorem dX3_lengthRefusal_29 : decode cX3_lengthRefusal 29 = .ok (.iinc 2 1, 3) := by decide +kernel
theorem dX3_lengthRefusal_32 : decode cX3_lengthRefusal 32 = .ok (.goto (-30), 3) := by decide +kernel
theorem dX3_lengthRefusal_35 : decode cX3_lengthRefusal 35 = .ok (.aload_n 0, 1) := by decide +kernel
theorem dX3_lengthRefusal_36 : decode cX3_lengthRefusal 36 = .ok (.getfield 31, 3) := by decide +kernel
theorem dX3_lengthRefusal_39 : decode cX3_lengthRefusal 39 = .ok (.aload_n 0, 1) := by decide +kernel
theorem dX3_lengthRefusal_40 : decode cX3_lengthRefusal 40 = .ok (.getfield 31, 3) := by decide +kernel
theorem dX3_lengthRefusal_43 : decode cX3_lengthRefusal 43 = .ok (.getfield 77, 3) := by decide +kernel
theorem dX3_lengthRefusal_46 : decode cX3_lengthRefusal 46 = .ok (.iconst 1, 1) := by decide +kernel
theorem dX3_lengthRefusal_47 : decode cX3_lengthRefusal 47 = .ok (.isub, 1) := by decide +kernel
theorem dX3_lengthRefusal_48 : decode cX3_lengthRefusal 48 = .ok (.invokevirtual 78, 3) := by decide +kernel
theorem dX3_lengthRefusal_51 : decode cX3_lengthRefusal 51 = .ok (.iload_n 1, 1) := by decide +kernel
theorem dX3_lengthRefusal_52 : decode cX3_lengthRefusal 52 = .ok (.if_icmp .lt 7, 3) := by decide +kernel
theorem dX3_lengthRefusal_55 : decode cX3_lengthRefusal 55 = .ok (.iconst 1, 1) := by decide +kernel
theorem dX3_lengthRefusal_56 : decode cX3_lengthRefusal 56 = .ok (.goto 4, 3) := by decide +kernel
theorem dX3_lengthRefusal_59 : decode cX3_lengthRefusal 59 = .ok (.iconst 0, 1) := by decide +kernel
theorem dX3_lengthRefusal_60 : decode cX3_lengthRefusal 60 = .ok (.ireturn, 1) := by decide +kernel
theorem dX3_spanRefusal_0 : decode cX3_spanRefusal 0 = .ok (.iload_n 1, 1) := by decide +kernel
theorem dX3_spanRefusal_1 : decode cX3_spanRefusal 1 = .ok (.ifCond .lt 11, 3) := by decide +kernel
theorem dX3_spanRefusal_4 : decode cX3_spanRefusal 4 = .ok (.iload_n 2, 1) := by decide +kernel
theorem dX3_spanRefusal_5 : decode cX3_spanRefusal 5 = .ok (.aload_n 0, 1) := by decide +kernel
theorem dX3_spanRefusal_6 : decode cX3_spanRefusal 6 = .ok (.getfield 9, 3) := by decide +kernel
theorem dX3_spanRefusal_9 : decode cX3_spanRefusal 9 = .ok (.if_icmp .le 5, 3) := by decide +kernel
theorem dX3_spanRefusal_12 : decode cX3_spanRefusal 12 = .ok (.iconst 1, 1) := by decide +kernel
theorem dX3_spanRefusal_13 : decode cX3_spanRefusal 13 = .ok (.ireturn, 1) := by decide +kernel
theorem dX3_spanRefusal_14 : decode cX3_spanRefusal 14 = .ok (.iload_n 1, 1) := by decide +kernel
theorem dX3_spanRefusal_15 : decode cX3_spanRefusal 15 = .ok (.iload_n 2, 1) := by decide +kernel
theorem dX3_spanRefusal_16 : decode cX3_spanRefusal 16 = .ok (.if_icmp .lt 7, 3) := by decide +kernel
theorem dX3_spanRefusal_19 : decode cX3_spanRefusal 19 = .ok (.iconst 2, 1) := by decide +kernel
theorem dX3_spanRefusal_20 : decode cX3_spanRefusal 20 = .ok (.goto 4, 3) := by decide +kernel
theorem dX3_spanRefusal_23 : decode cX3_spanRefusal 23 = .ok (.iconst 0, 1) := by decide +kernel
theorem dX3_spanRefusal_24 : decode cX3_spanRefusal 24 = .ok (.ireturn, 1) := by decide +kernel
theorem dX3_placeRefusal_0 : decode cX3_placeRefusal 0 = .ok (.aload_n 0, 1) := by decide +kernel
theorem dX3_placeRefusal_1 : decode cX3_placeRefusal 1 = .ok (.iload_n 3, 1) := by decide +kernel
theorem dX3_placeRefusal_2 : decode cX3_placeRefusal 2 = .ok (.iload 4, 2) := by decide +kernel
theorem dX3_placeRefusal_4 : decode cX3_placeRefusal 4 = .ok (.invokevirtual 81, 3) := by decide +kernel
theorem dX3_placeRefusal_7 : decode cX3_placeRefusal 7 = .ok (.istore 5, 2) := by decide +kernel
theorem dX3_placeRefusal_9 : decode cX3_placeRefusal 9 = .ok (.iload 5, 2) := by decide +kernel
theorem dX3_placeRefusal_11 : decode cX3_placeRefusal 11 = .ok (.ifCond .ne 21, 3) := by decide +kernel
theorem dX3_placeRefusal_14 : decode cX3_placeRefusal 14 = .ok (.aload_n 0, 1) := by decide +kernel
theorem dX3_placeRefusal_15 : decode cX3_placeRefusal 15 = .ok (.iload_n 1, 1) := by decide +kernel
theorem dX3_placeRefusal_16 : decode cX3_placeRefusal 16 = .ok (.invokevirtual 70, 3) := by decide +kernel
theorem dX3_placeRefusal_19 : decode cX3_placeRefusal 19 = .ok (.iload_n 2, 1) := by decide +kernel
theorem dX3_placeRefusal_20 : decode cX3_placeRefusal 20 = .ok (.iload_n 3, 1) := by decide +kernel
theorem dX3_placeRefusal_21 : decode cX3_placeRefusal 21 = .ok (.iload 4, 2) := by decide +kernel
theorem dX3_placeRefusal_23 : decode cX3_placeRefusal 23 = .ok (.invokevirtual 84, 3) := by decide +kernel
theorem dX3_placeRefusal_26 : decode cX3_placeRefusal 26 = .ok (.ifCond .eq 6, 3) := by decide +kernel
theorem dX3_placeRefusal_29 : decode cX3_placeRefusal 29 = .ok (.iconst 3, 1) := by decide +kernel
theorem dX3_placeRefusal_30 : decode cX3_placeRefusal 30 = .ok (.istore 5, 2) := by decide +kernel
theorem dX3_placeRefusal_32 : decode cX3_placeRefusal 32 = .ok (.iload 5, 2) := by decide +kernel
theorem dX3_placeRefusal_34 : decode cX3_placeRefusal 34 = .ok (.ireturn, 1) := by decide +kernel
theorem dX3_addRefusal_0 : decode cX3_addRefusal 0 = .ok (.aload_n 0, 1) := by decide +kernel
theorem dX3_addRefusal_1 : decode cX3_addRefusal 1 = .ok (.iload_n 1, 1) := by decide +kernel
theorem dX3_addRefusal_2 : decode cX3_addRefusal 2 = .ok (.iconst (-1), 1) := by decide +kernel
theorem dX3_addRefusal_3 : decode cX3_addRefusal 3 = .ok (.iload_n 2, 1) := by decide +kernel
theorem dX3_addRefusal_4 : decode cX3_addRefusal 4 = .ok (.iload_n 3, 1) := by decide +kernel
theorem dX3_addRefusal_5 : decode cX3_addRefusal 5 = .ok (.invokevirtual 88, 3) := by decide +kernel
theorem dX3_addRefusal_8 : decode cX3_addRefusal 8 = .ok (.istore 5, 2) := by decide +kernel
theorem dX3_addRefusal_10 : decode cX3_addRefusal 10 = .ok (.iload 5, 2) := by decide +kernel
theorem dX3_addRefusal_12 : decode cX3_addRefusal 12 = .ok (.ifCond .eq 6, 3) := by decide +kernel
theorem dX3_addRefusal_15 : decode cX3_addRefusal 15 = .ok (.iload 5, 2) := by decide +kernel
theorem dX3_addRefusal_17 : decode cX3_addRefusal 17 = .ok (.ireturn, 1) := by decide +kernel
theorem dX3_addRefusal_18 : decode cX3_addRefusal 18 = .ok (.aload 4, 2) := by decide +kernel
theorem dX3_addRefusal_20 : decode cX3_addRefusal 20 = .ok (.invokevirtual 92, 3) := by decide +kernel
theorem dX3_addRefusal_23 : decode cX3_addRefusal 23 = .ok (.ifCond .ne 5, 3) := by decide +kernel
theorem dX3_addRefusal_26 : decode cX3_addRefusal 26 = .ok (.iconst 4, 1) := by decide +kernel
theorem dX3_addRefusal_27 : decode cX3_addRefusal 27 = .ok (.ireturn, 1) := by decide +kernel
theorem dX3_addRefusal_28 : decode cX3_addRefusal 28 = .ok (.aload_n 0, 1) := by decide +kernel
theorem dX3_addRefusal_29 : decode cX3_addRefusal 29 = .ok (.iload_n 1, 1) := by decide +kernel
theorem dX3_addRefusal_30 : decode cX3_addRefusal 30 = .ok (.invokevirtual 70, 3) := by decide +kernel
theorem dX3_addRefusal_33 : decode cX3_addRefusal 33 = .ok (.getfield 52, 3) := by decide +kernel
theorem dX3_addRefusal_36 : decode cX3_addRefusal 36 = .ok (.bipush 16, 2) := by decide +kernel
theorem dX3_addRefusal_38 : decode cX3_addRefusal 38 = .ok (.if_icmp .lt 8, 3) := by decide +kernel
theorem dX3_addRefusal_41 : decode cX3_addRefusal 41 = .ok (.bipush 8, 2) := by decide +kernel
theorem dX3_addRefusal_43 : decode cX3_addRefusal 43 = .ok (.goto 4, 3) := by decide +kernel
theorem dX3_addRefusal_46 : decode cX3_addRefusal 46 = .ok (.iconst 0, 1) := by decide +kernel
theorem dX3_addRefusal_47 : decode cX3_addRefusal 47 = .ok (.ireturn, 1) := by decide +kernel
theorem dX4_init_0 : decode cX4_init 0 = .ok (.aload_n 0, 1) := by decide +kernel
theorem dX4_init_1 : decode cX4_init 1 = .ok (.invokespecial 3, 3) := by decide +kernel
theorem dX4_init_4 : decode cX4_init 4 = .ok (.aload_n 0, 1) := by decide +kernel
theorem dX4_init_5 : decode cX4_init 5 = .ok (.bipush 9, 2) := by decide +kernel
theorem dX4_init_7 : decode cX4_init 7 = .ok (.anewarray 9, 3) := by decide +kernel
theorem dX4_init_10 : decode cX4_init 10 = .ok (.putfield 11, 3) := by decide +kernel
theorem dX4_init_13 : decode cX4_init 13 = .ok (.iconst 0, 1) := by decide +kernel
theorem dX4_init_14 : decode cX4_init 14 = .ok (.istore_n 1, 1) := by decide +kernel
theorem dX4_init_15 : decode cX4_init 15 = .ok (.iload_n 1, 1) := by decide +kernel
theorem dX4_init_16 : decode cX4_init 16 = .ok (.aload_n 0, 1) := by decide +kernel
theorem dX4_init_17 : decode cX4_init 17 = .ok (.getfield 11, 3) := by decide +kernel
theorem dX4_init_20 : decode cX4_init 20 = .ok (.arraylength, 1) := by decide +kernel
theorem dX4_init_21 : decode cX4_init 21 = .ok (.if_icmp .ge 22, 3) := by decide +kernel
theorem dX4_init_24 : decode cX4_init 24 = .ok (.aload_n 0, 1) := by decide +kernel
theorem dX4_init_25 : decode cX4_init 25 = .ok (.getfield 11, 3) := by decide +kernel
theorem dX4_init_28 : decode cX4_init 28 = .ok (.iload_n 1, 1) := by decide +kernel
theorem dX4_init_29 : decode cX4_init 29 = .ok (.new 9, 3) := by decide +kernel
theorem dX4_init_32 : decode cX4_init 32 = .ok (.dup, 1) := by decide +kernel
theorem dX4_init_33 : decode cX4_init 33 = .ok (.invokespecial 17, 3) := by decide +kernel
theorem dX4_init_36 : decode cX4_init 36 = .ok (.aastore, 1) := by decide +kernel
theorem dX4_init_37 : decode cX4_init 37 = .ok (.iinc 1 1, 3) := by decide +kernel
theorem dX4_init_40 : decode cX4_init 40 = .ok (.goto (-25), 3) := by decide +kernel
theorem dX4_init_43 : decode cX4_init 43 = .ok (.aload_n 0, 1) := by decide +kernel
theorem dX4_init_44 : decode cX4_init 44 = .ok (.iconst 0, 1) := by decide +kernel
theorem dX4_init_45 : decode cX4_init 45 = .ok (.putfield 18, 3) := by decide +kernel
theorem dX4_init_48 : decode cX4_init 48 = .ok (.aload_n 0, 1) := by decide +kernel
theorem dX4_init_49 : decode cX4_init 49 = .ok (.iconst 0, 1) := by decide +kernel
theorem dX4_init_50 : decode cX4_init 50 = .ok (.putfield 22, 3) := by decide +kernel
theorem dX4_init_53 : decode cX4_init 53 = .ok (.return_, 1) := by decide +kernel
theorem dX4_keep_0 : decode cX4_keep 0 = .ok (.aload_n 0, 1) := by decide +kernel
theorem dX4_keep_1 : decode cX4_keep 1 = .ok (.aload_n 1, 1) := by decide +kernel
theorem dX4_keep_2 : decode cX4_keep 2 = .ok (.invokevirtual 25, 3) := by decide +kernel
theorem dX4_keep_5 : decode cX4_keep 5 = .ok (.aload_n 0, 1) := by decide +kernel
theorem dX4_keep_6 : decode cX4_keep 6 = .ok (.invokevirtual 29, 3) := by decide +kernel
theorem dX4_keep_9 : decode cX4_keep 9 = .ok (.return_, 1) := by decide +kernel
theorem dX4_prepare_0 : decode cX4_prepare 0 = .ok (.aload_n 0, 1) := by decide +kernel
theorem dX4_prepare_1 : decode cX4_prepare 1 = .ok (.aload_n 0, 1) := by decide +kernel
theorem dX4_prepare_2 : decode cX4_prepare 2 = .ok (.getfield 22, 3) := by decide +kernel
theorem dX4_prepare_5 : decode cX4_prepare 5 = .ok (.invokevirtual 32, 3) := by decide +kernel
theorem dX4_prepare_8 : decode cX4_prepare 8 = .ok (.astore_n 2, 1) := by decide +kernel
theorem dX4_prepare_9 : decode cX4_prepare 9 = .ok (.aload_n 2, 1) := by decide +kernel
theorem dX4_prepare_10 : decode cX4_prepare 10 = .ok (.ifnull 8, 3) := by decide +kernel
theorem dX4_prepare_13 : decode cX4_prepare 13 = .ok (.aload_n 2, 1) := by decide +kernel
theorem dX4_prepare_14 : decode cX4_prepare 14 = .ok (.aload_n 1, 1) := by decide +kernel
theorem dX4_prepare_15 : decode cX4_prepare 15 = .ok (.invokevirtual 36, 3) := by decide +kernel
theorem dX4_prepare_18 : decode cX4_prepare 18 = .ok (.return_, 1) := by decide +kernel
theorem dX4_commit_0 : decode cX4_commit 0 = .ok (.aload_n 0, 1) := by decide +kernel
theorem dX4_commit_1 : decode cX4_commit 1 = .ok (.aload_n 0, 1) := by decide +kernel
theorem dX4_commit_2 : decode cX4_commit 2 = .ok (.getfield 22, 3) := by decide +kernel
theorem dX4_commit_5 : decode cX4_commit 5 = .ok (.bipush 8, 2) := by decide +kernel
theorem dX4_commit_7 : decode cX4_commit 7 = .ok (.if_icmp .ge 12, 3) := by decide +kernel
theorem dX4_commit_10 : decode cX4_commit 10 = .ok (.aload_n 0, 1) := by decide +kernel
theorem dX4_commit_11 : decode cX4_commit 11 = .ok (.getfield 22, 3) := by decide +kernel
theorem dX4_commit_14 : decode cX4_commit 14 = .ok (.iconst 1, 1) := by decide +kernel
theorem dX4_commit_15 : decode cX4_commit 15 = .ok (.iadd, 1) := by decide +kernel
theorem dX4_commit_16 : decode cX4_commit 16 = .ok (.goto 4, 3) := by decide +kernel
theorem dX4_commit_19 : decode cX4_commit 19 = .ok (.iconst 0, 1) := by decide +kernel
theorem dX4_commit_20 : decode cX4_commit 20 = .ok (.putfield 22, 3) := by decide +kernel
theorem dX4_commit_23 : decode cX4_commit 23 = .ok (.aload_n 0, 1) := by decide +kernel
theorem dX4_commit_24 : decode cX4_commit 24 = .ok (.aload_n 0, 1) := by decide +kernel
theorem dX4_commit_25 : decode cX4_commit 25 = .ok (.getfield 18, 3) := by decide +kernel
theorem dX4_commit_28 : decode cX4_commit 28 = .ok (.iconst 1, 1) := by decide +kernel
theorem dX4_commit_29 : decode cX4_commit 29 = .ok (.iadd, 1) := by decide +kernel
theorem dX4_commit_30 : decode cX4_commit 30 = .ok (.bipush 8, 2) := by decide +kernel
theorem dX4_commit_32 : decode cX4_commit 32 = .ok (.invokestatic 39, 3) := by decide +kernel
theorem dX4_commit_35 : decode cX4_commit 35 = .ok (.putfield 18, 3) := by decide +kernel
theorem dX4_commit_38 : decode cX4_commit 38 = .ok (.return_, 1) := by decide +kernel
theorem dX4_takeBackInto_0 : decode cX4_takeBackInto 0 = .ok (.aload_n 0, 1) := by decide +kernel
theorem dX4_takeBackInto_1 : decode cX4_takeBackInto 1 = .ok (.aload_n 0, 1) := by decide +kernel
theorem dX4_takeBackInto_2 : decode cX4_takeBackInto 2 = .ok (.getfield 22, 3) := by decide +kernel
theorem dX4_takeBackInto_5 : decode cX4_takeBackInto 5 = .ok (.invokevirtual 32, 3) := by decide +kernel
theorem dX4_takeBackInto_8 : decode cX4_takeBackInto 8 = .ok (.astore_n 2, 1) := by decide +kernel
theorem dX4_takeBackInto_9 : decode cX4_takeBackInto 9 = .ok (.aload_n 2, 1) := by decide +kernel
theorem dX4_takeBackInto_10 : decode cX4_takeBackInto 10 = .ok (.ifnull 8, 3) := by decide +kernel
theorem dX4_takeBackInto_13 : decode cX4_takeBackInto 13 = .ok (.aload_n 1, 1) := by decide +kernel
theorem dX4_takeBackInto_14 : decode cX4_takeBackInto 14 = .ok (.aload_n 2, 1) := by decide +kernel
theorem dX4_takeBackInto_15 : decode cX4_takeBackInto 15 = .ok (.invokevirtual 36, 3) := by decide +kernel
theorem dX4_takeBackInto_18 : decode cX4_takeBackInto 18 = .ok (.return_, 1) := by decide +kernel
theorem dX4_undoInto_0 : decode cX4_undoInto 0 = .ok (.aload_n 0, 1) := by decide +kernel
theorem dX4_undoInto_1 : decode cX4_undoInto 1 = .ok (.getfield 18, 3) := by decide +kernel
theorem dX4_undoInto_4 : decode cX4_undoInto 4 = .ok (.ifCond .gt 4, 3) := by decide +kernel
theorem dX4_undoInto_7 : decode cX4_undoInto 7 = .ok (.return_, 1) := by decide +kernel
theorem dX4_undoInto_8 : decode cX4_undoInto 8 = .ok (.aload_n 0, 1) := by decide +kernel
theorem dX4_undoInto_9 : decode cX4_undoInto 9 = .ok (.aload_n 0, 1) := by decide +kernel
theorem dX4_undoInto_10 : decode cX4_undoInto 10 = .ok (.getfield 22, 3) := by decide +kernel
theorem dX4_undoInto_13 : decode cX4_undoInto 13 = .ok (.ifCond .le 12, 3) := by decide +kernel
theorem dX4_undoInto_16 : decode cX4_undoInto 16 = .ok (.aload_n 0, 1) := by decide +kernel
theorem dX4_undoInto_17 : decode cX4_undoInto 17 = .ok (.getfield 22, 3) := by decide +kernel
theorem dX4_undoInto_20 : decode cX4_undoInto 20 = .ok (.iconst 1, 1) := by decide +kernel
theorem dX4_undoInto_21 : decode cX4_undoInto 21 = .ok (.isub, 1) := by decide +kernel
theorem dX4_undoInto_22 : decode cX4_undoInto 22 = .ok (.goto 5, 3) := by decide +kernel
theorem dX4_undoInto_25 : decode cX4_undoInto 25 = .ok (.bipush 8, 2) := by decide +kernel
theorem dX4_undoInto_27 : decode cX4_undoInto 27 = .ok (.putfield 22, 3) := by decide +kernel
theorem dX4_undoInto_30 : decode cX4_undoInto 30 = .ok (.aload_n 0, 1) := by decide +kernel
theorem dX4_undoInto_31 : decode cX4_undoInto 31 = .ok (.dup, 1) := by decide +kernel
theorem dX4_undoInto_32 : decode cX4_undoInto 32 = .ok (.getfield 18, 3) := by decide +kernel
theorem dX4_undoInto_35 : decode cX4_undoInto 35 = .ok (.iconst 1, 1) := by decide +kernel
theorem dX4_undoInto_36 : decode cX4_undoInto 36 = .ok (.isub, 1) := by decide +kernel
theorem dX4_undoInto_37 : decode cX4_undoInto 37 = .ok (.putfield 18, 3) := by decide +kernel
theorem dX4_undoInto_40 : decode cX4_undoInto 40 = .ok (.aload_n 0, 1) := by decide +kernel
theorem dX4_undoInto_41 : decode cX4_undoInto 41 = .ok (.aload_n 1, 1) := by decide +kernel
theorem dX4_undoInto_42 : decode cX4_undoInto 42 = .ok (.invokevirtual 45, 3) := by decide +kernel
theorem dX4_undoInto_45 : decode cX4_undoInto 45 = .ok (.return_, 1) := by decide +kernel
theorem dX4_forgetAll_0 : decode cX4_forgetAll 0 = .ok (.aload_n 0, 1) := by decide +kernel
theorem dX4_forgetAll_1 : decode cX4_forgetAll 1 = .ok (.iconst 0, 1) := by decide +kernel
theorem dX4_forgetAll_2 : decode cX4_forgetAll 2 = .ok (.putfield 18, 3) := by decide +kernel
theorem dX4_forgetAll_5 : decode cX4_forgetAll 5 = .ok (.return_, 1) := by decide +kernel
theorem dX4_rowAt_0 : decode cX4_rowAt 0 = .ok (.iload_n 1, 1) := by decide +kernel
theorem dX4_rowAt_1 : decode cX4_rowAt 1 = .ok (.ifCond .lt 21, 3) := by decide +kernel
theorem dX4_rowAt_4 : decode cX4_rowAt 4 = .ok (.iload_n 1, 1) := by decide +kernel
theorem dX4_rowAt_5 : decode cX4_rowAt 5 = .ok (.aload_n 0, 1) := by decide +kernel
theorem dX4_rowAt_6 : decode cX4_rowAt 6 = .ok (.getfield 11, 3) := by decide +kernel
theorem dX4_rowAt_9 : decode cX4_rowAt 9 = .ok (.arraylength, 1) := by decide +kernel
theorem dX4_rowAt_10 : decode cX4_rowAt 10 = .ok (.if_icmp .ge 12, 3) := by decide +kernel
theorem dX4_rowAt_13 : decode cX4_rowAt 13 = .ok (.aload_n 0, 1) := by decide +kernel
theorem dX4_rowAt_14 : decode cX4_rowAt 14 = .ok (.getfield 11, 3) := by decide +kernel
theorem dX4_rowAt_17 : decode cX4_rowAt 17 = .ok (.iload_n 1, 1) := by decide +kernel
theorem dX4_rowAt_18 : decode cX4_rowAt 18 = .ok (.aaload, 1) := by decide +kernel
theorem dX4_rowAt_19 : decode cX4_rowAt 19 = .ok (.goto 4, 3) := by decide +kernel
theorem dX4_rowAt_22 : decode cX4_rowAt 22 = .ok (.aconst_null, 1) := by decide +kernel
theorem dX4_rowAt_23 : decode cX4_rowAt 23 = .ok (.areturn, 1) := by decide +kernel
theorem dX5_init_0 : decode cX5_init 0 = .ok (.aload_n 0, 1) := by decide +kernel
theorem dX5_init_1 : decode cX5_init 1 = .ok (.invokespecial 3, 3) := by decide +kernel
theorem dX5_init_4 : decode cX5_init 4 = .ok (.aload_n 0, 1) := by decide +kernel
theorem dX5_init_5 : decode cX5_init 5 = .ok (.bipush 30, 2) := by decide +kernel
theorem dX5_init_7 : decode cX5_init 7 = .ok (.newarray .int, 2) := by decide +kernel
theorem dX5_init_9 : decode cX5_init 9 = .ok (.putfield 9, 3) := by decide +kernel
theorem dX5_init_12 : decode cX5_init 12 = .ok (.aload_n 0, 1) := by decide +kernel
theorem dX5_init_13 : decode cX5_init 13 = .ok (.bipush 30, 2) := by decide +kernel
theorem dX5_init_15 : decode cX5_init 15 = .ok (.newarray .int, 2) := by decide +kernel
theorem dX5_init_17 : decode cX5_init 17 = .ok (.putfield 15, 3) := by decide +kernel
theorem dX5_init_20 : decode cX5_init 20 = .ok (.aload_n 0, 1) := by decide +kernel
theorem dX5_init_21 : decode cX5_init 21 = .ok (.bipush 30, 2) := by decide +kernel
theorem dX5_init_23 : decode cX5_init 23 = .ok (.newarray .int, 2) := by decide +kernel
theorem dX5_init_25 : decode cX5_init 25 = .ok (.putfield 18, 3) := by decide +kernel
theorem dX5_init_28 : decode cX5_init 28 = .ok (.aload_n 0, 1) := by decide +kernel
theorem dX5_init_29 : decode cX5_init 29 = .ok (.bipush 30, 2) := by decide +kernel
theorem dX5_init_31 : decode cX5_init 31 = .ok (.newarray .int, 2) := by decide +kernel
theorem dX5_init_33 : decode cX5_init 33 = .ok (.putfield 21, 3) := by decide +kernel
theorem dX5_init_36 : decode cX5_init 36 = .ok (.aload_n 0, 1) := by decide +kernel
theorem dX5_init_37 : decode cX5_init 37 = .ok (.bipush 30, 2) := by decide +kernel
theorem dX5_init_39 : decode cX5_init 39 = .ok (.newarray .int, 2) := by decide +kernel
theorem dX5_init_41 : decode cX5_init 41 = .ok (.putfield 24, 3) := by decide +kernel
theorem dX5_init_44 : decode cX5_init 44 = .ok (.aload_n 0, 1) := by decide +kernel
theorem dX5_init_45 : decode cX5_init 45 = .ok (.bipush 30, 2) := by decide +kernel
theorem dX5_init_47 : decode cX5_init 47 = .ok (.newarray .int, 2) := by decide +kernel
theorem dX5_init_49 : decode cX5_init 49 = .ok (.putfield 27, 3) := by decide +kernel
theorem dX5_init_52 : decode cX5_init 52 = .ok (.aload_n 0, 1) := by decide +kernel
theorem dX5_init_53 : decode cX5_init 53 = .ok (.bipush 30, 2) := by decide +kernel
theorem dX5_init_55 : decode cX5_init 55 = .ok (.newarray .int, 2) := by decide +kernel
theorem dX5_init_57 : decode cX5_init 57 = .ok (.putfield 30, 3) := by decide +kernel
theorem dX5_init_60 : decode cX5_init 60 = .ok (.aload_n 0, 1) := by decide +kernel
theorem dX5_init_61 : decode cX5_init 61 = .ok (.iconst 0, 1) := by decide +kernel
theorem dX5_init_62 : decode cX5_init 62 = .ok (.putfield 33, 3) := by decide +kernel
theorem dX5_init_65 : decode cX5_init 65 = .ok (.aload_n 0, 1) := by decide +kernel
theorem dX5_init_66 : decode cX5_init 66 = .ok (.iconst 0, 1) := by decide +kernel
theorem dX5_init_67 : decode cX5_init 67 = .ok (.putfield 37, 3) := by decide +kernel
theorem dX5_init_70 : decode cX5_init 70 = .ok (.aload_n 0, 1) := by decide +kernel
theorem dX5_init_71 : decode cX5_init 71 = .ok (.new 40, 3) := by decide +kernel
theorem dX5_init_74 : decode cX5_init 74 = .ok (.dup, 1) := by decide +kernel
theorem dX5_init_75 : decode cX5_init 75 = .ok (.invokespecial 42, 3) := by decide +kernel
theorem dX5_init_78 : decode cX5_init 78 = .ok (.putfield 43, 3) := by decide +kernel
theorem dX5_init_81 : decode cX5_init 81 = .ok (.return_, 1) := by decide +kernel
theorem dX5_isItem_0 : decode cX5_isItem 0 = .ok (.iload_n 0, 1) := by decide +kernel
theorem dX5_isItem_1 : decode cX5_isItem 1 = .ok (.ifCond .lt 13, 3) := by decide +kernel
theorem dX5_isItem_4 : decode cX5_isItem 4 = .ok (.iload_n 0, 1) := by decide +kernel
theorem dX5_isItem_5 : decode cX5_isItem 5 = .ok (.bipush 30, 2) := by decide +kernel
theorem dX5_isItem_7 : decode cX5_isItem 7 = .ok (.if_icmp .ge 7, 3) := by decide +kernel
theorem dX5_isItem_10 : decode cX5_isItem 10 = .ok (.iconst 1, 1) := by decide +kernel
theorem dX5_isItem_11 : decode cX5_isItem 11 = .ok (.goto 4, 3) := by decide +kernel
theorem dX5_isItem_14 : decode cX5_isItem 14 = .ok (.iconst 0, 1) := by decide +kernel
theorem dX5_isItem_15 : decode cX5_isItem 15 = .ok (.ireturn, 1) := by decide +kernel
theorem dX5_what_0 : decode cX5_what 0 = .ok (.iload_n 1, 1) := by decide +kernel
theorem dX5_what_1 : decode cX5_what 1 = .ok (.invokestatic 47, 3) := by decide +kernel
theorem dX5_what_4 : decode cX5_what 4 = .ok (.ifCond .eq 12, 3) := by decide +kernel
theorem dX5_what_7 : decode cX5_what 7 = .ok (.aload_n 0, 1) := by decide +kernel
theorem dX5_what_8 : decode cX5_what 8 = .ok (.getfield 9, 3) := by decide +kernel
theorem dX5_what_11 : decode cX5_what 11 = .ok (.iload_n 1, 1) := by decide +kernel
theorem dX5_what_12 : decode cX5_what 12 = .ok (.iaload, 1) := by decide +kernel
theorem dX5_what_13 : decode cX5_what 13 = .ok (.goto 4, 3) := by decide +kernel
theorem dX5_what_16 : decode cX5_what 16 = .ok (.iconst 0, 1) := by decide +kernel
theorem dX5_what_17 : decode cX5_what 17 = .ok (.ireturn, 1) := by decide +kernel
theorem dX5_trackOfItem_0 : decode cX5_trackOfItem 0 = .ok (.iload_n 1, 1) := by decide +kernel
theorem dX5_trackOfItem_1 : decode cX5_trackOfItem 1 = .ok (.invokestatic 47, 3) := by decide +kernel
theorem dX5_trackOfItem_4 : decode cX5_trackOfItem 4 = .ok (.ifCond .eq 12, 3) := by decide +kernel
theorem dX5_trackOfItem_7 : decode cX5_trackOfItem 7 = .ok (.aload_n 0, 1) := by decide +kernel
theorem dX5_trackOfItem_8 : decode cX5_trackOfItem 8 = .ok (.getfield 15, 3) := by decide +kernel
theorem dX5_trackOfItem_11 : decode cX5_trackOfItem 11 = .ok (.iload_n 1, 1) := by decide +kernel
theorem dX5_trackOfItem_12 : decode cX5_trackOfItem 12 = .ok (.iaload, 1) := by decide +kernel
theorem dX5_trackOfItem_13 : decode cX5_trackOfItem 13 = .ok (.goto 4, 3) := by decide +kernel
theorem dX5_trackOfItem_16 : decode cX5_trackOfItem 16 = .ok (.iconst 0, 1) := by decide +kernel
theorem dX5_trackOfItem_17 : decode cX5_trackOfItem 17 = .ok (.ireturn, 1) := by decide +kernel
theorem dX5_kind_0 : decode cX5_kind 0 = .ok (.iload_n 1, 1) := by decide +kernel
theorem dX5_kind_1 : decode cX5_kind 1 = .ok (.invokestatic 47, 3) := by decide +kernel
theorem dX5_kind_4 : decode cX5_kind 4 = .ok (.ifCond .eq 12, 3) := by decide +kernel
theorem dX5_kind_7 : decode cX5_kind 7 = .ok (.aload_n 0, 1) := by decide +kernel
theorem dX5_kind_8 : decode cX5_kind 8 = .ok (.getfield 18, 3) := by decide +kernel
theorem dX5_kind_11 : decode cX5_kind 11 = .ok (.iload_n 1, 1) := by decide +kernel
theorem dX5_kind_12 : decode cX5_kind 12 = .ok (.iaload, 1) := by decide +kernel
theorem dX5_kind_13 : decode cX5_kind 13 = .ok (.goto 4, 3) := by decide +kernel
theorem dX5_kind_16 : decode cX5_kind 16 = .ok (.iconst 0, 1) := by decide +kernel
theorem dX5_kind_17 : decode cX5_kind 17 = .ok (.ireturn, 1) := by decide +kernel
theorem dX5_first_0 : decode cX5_first 0 = .ok (.iload_n 1, 1) := by decide +kernel
theorem dX5_first_1 : decode cX5_first 1 = .ok (.invokestatic 47, 3) := by decide +kernel
theorem dX5_first_4 : decode cX5_first 4 = .ok (.ifCond .eq 12, 3) := by decide +kernel
theorem dX5_first_7 : decode cX5_first 7 = .ok (.aload_n 0, 1) := by decide +kernel
theorem dX5_first_8 : decode cX5_first 8 = .ok (.getfield 21, 3) := by decide +kernel
theorem dX5_first_11 : decode cX5_first 11 = .ok (.iload_n 1, 1) := by decide +kernel
theorem dX5_first_12 : decode cX5_first 12 = .ok (.iaload, 1) := by decide +kernel
theorem dX5_first_13 : decode cX5_first 13 = .ok (.goto 4, 3) := by decide +kernel
theorem dX5_first_16 : decode cX5_first 16 = .ok (.iconst 0, 1) := by decide +kernel
theorem dX5_first_17 : decode cX5_first 17 = .ok (.ireturn, 1) := by decide +kernel
theorem dX5_end_0 : decode cX5_end 0 = .ok (.iload_n 1, 1) := by decide +kernel
theorem dX5_end_1 : decode cX5_end 1 = .ok (.invokestatic 47, 3) := by decide +kernel
theorem dX5_end_4 : decode cX5_end 4 = .ok (.ifCond .eq 12, 3) := by decide +kernel
theorem dX5_end_7 : decode cX5_end 7 = .ok (.aload_n 0, 1) := by decide +kernel
theorem dX5_end_8 : decode cX5_end 8 = .ok (.getfield 24, 3) := by decide +kernel
theorem dX5_end_11 : decode cX5_end 11 = .ok (.iload_n 1, 1) := by decide +kernel
theorem dX5_end_12 : decode cX5_end 12 = .ok (.iaload, 1) := by decide +kernel
theorem dX5_end_13 : decode cX5_end 13 = .ok (.goto 4, 3) := by decide +kernel
theorem dX5_end_16 : decode cX5_end 16 = .ok (.iconst 0, 1) := by decide +kernel
theorem dX5_end_17 : decode cX5_end 17 = .ok (.ireturn, 1) := by decide +kernel
theorem dX5_wordsFrom_0 : decode cX5_wordsFrom 0 = .ok (.iload_n 1, 1) := by decide +kernel
theorem dX5_wordsFrom_1 : decode cX5_wordsFrom 1 = .ok (.invokestatic 47, 3) := by decide +kernel
theorem dX5_wordsFrom_4 : decode cX5_wordsFrom 4 = .ok (.ifCond .eq 12, 3) := by decide +kernel
theorem dX5_wordsFrom_7 : decode cX5_wordsFrom 7 = .ok (.aload_n 0, 1) := by decide +kernel
theorem dX5_wordsFrom_8 : decode cX5_wordsFrom 8 = .ok (.getfield 27, 3) := by decide +kernel
theorem dX5_wordsFrom_11 : decode cX5_wordsFrom 11 = .ok (.iload_n 1, 1) := by decide +kernel
theorem dX5_wordsFrom_12 : decode cX5_wordsFrom 12 = .ok (.iaload, 1) := by decide +kernel
theorem dX5_wordsFrom_13 : decode cX5_wordsFrom 13 = .ok (.goto 4, 3) := by decide +kernel
theorem dX5_wordsFrom_16 : decode cX5_wordsFrom 16 = .ok (.iconst 0, 1) := by decide +kernel
theorem dX5_wordsFrom_17 : decode cX5_wordsFrom 17 = .ok (.ireturn, 1) := by decide +kernel
theorem dX5_wordsTo_0 : decode cX5_wordsTo 0 = .ok (.iload_n 1, 1) := by decide +kernel
theorem dX5_wordsTo_1 : decode cX5_wordsTo 1 = .ok (.invokestatic 47, 3) := by decide +kernel
theorem dX5_wordsTo_4 : decode cX5_wordsTo 4 = .ok (.ifCond .eq 12, 3) := by decide +kernel
theorem dX5_wordsTo_7 : decode cX5_wordsTo 7 = .ok (.aload_n 0, 1) := by decide +kernel
theorem dX5_wordsTo_8 : decode cX5_wordsTo 8 = .ok (.getfield 30, 3) := by decide +kernel
theorem dX5_wordsTo_11 : decode cX5_wordsTo 11 = .ok (.iload_n 1, 1) := by decide +kernel
theorem dX5_wordsTo_12 : decode cX5_wordsTo 12 = .ok (.iaload, 1) := by decide +kernel
theorem dX5_wordsTo_13 : decode cX5_wordsTo 13 = .ok (.goto 4, 3) := by decide +kernel
theorem dX5_wordsTo_16 : decode cX5_wordsTo 16 = .ok (.iconst 0, 1) := by decide +kernel
theorem dX5_wordsTo_17 : decode cX5_wordsTo 17 = .ok (.ireturn, 1) := by decide +kernel
theorem dX5_readText_0 : decode cX5_readText 0 = .ok (.aload_n 0, 1) := by decide +kernel
theorem dX5_readText_1 : decode cX5_readText 1 = .ok (.aload_n 1, 1) := by decide +kernel
theorem dX5_readText_2 : decode cX5_readText 2 = .ok (.putfield 43, 3) := by decide +kernel
theorem dX5_readText_5 : decode cX5_readText 5 = .ok (.aload_n 0, 1) := by decide +kernel
theorem dX5_readText_6 : decode cX5_readText 6 = .ok (.iconst 0, 1) := by decide +kernel
theorem dX5_readText_7 : decode cX5_readText 7 = .ok (.putfield 37, 3) := by decide +kernel
theorem dX5_readText_10 : decode cX5_readText 10 = .ok (.aload_n 0, 1) := by decide +kernel
theorem dX5_readText_11 : decode cX5_readText 11 = .ok (.iconst 0, 1) := by decide +kernel
theorem dX5_readText_12 : decode cX5_readText 12 = .ok (.putfield 33, 3) := by decide +kernel
theorem dX5_readText_15 : decode cX5_readText 15 = .ok (.iconst 0, 1) := by decide +kernel
theorem dX5_readText_16 : decode cX5_readText 16 = .ok (.istore_n 2, 1) := by decide +kernel
theorem dX5_readText_17 : decode cX5_readText 17 = .ok (.iload_n 2, 1) := by decide +kernel
theorem dX5_readText_18 : decode cX5_readText 18 = .ok (.bipush 30, 2) := by decide +kernel
theorem dX5_readText_20 : decode cX5_readText 20 = .ok (.if_icmp .ge 56, 3) := by decide +kernel
theorem dX5_readText_23 : decode cX5_readText 23 = .ok (.aload_n 0, 1) := by decide +kernel
theorem dX5_readText_24 : decode cX5_readText 24 = .ok (.iload_n 2, 1) := by decide +kernel
theorem dX5_readText_25 : decode cX5_readText 25 = .ok (.invokevirtual 51, 3) := by decide +kernel
theorem dX5_readText_28 : decode cX5_readText 28 = .ok (.ifCond .ne 5, 3) := by decide +kernel
theorem dX5_readText_31 : decode cX5_readText 31 = .ok (.iconst 0, 1) := by decide +kernel
theorem dX5_readText_32 : decode cX5_readText 32 = .ok (.ireturn, 1) := by decide +kernel
theorem dX5_readText_33 : decode cX5_readText 33 = .ok (.aload_n 0, 1) := by decide +kernel
theorem dX5_readText_34 : decode cX5_readText 34 = .ok (.dup, 1) := by decide +kernel
theorem dX5_readText_35 : decode cX5_readText 35 = .ok (.getfield 33, 3) := by decide +kernel
theorem dX5_readText_38 : decode cX5_readText 38 = .ok (.iconst 1, 1) := by decide +kernel
theorem dX5_readText_39 : decode cX5_readText 39 = .ok (.iadd, 1) := by decide +kernel
theorem dX5_readText_40 : decode cX5_readText 40 = .ok (.putfield 33, 3) := by decide +kernel
theorem dX5_readText_43 : decode cX5_readText 43 = .ok (.aload_n 0, 1) := by decide +kernel
theorem dX5_readText_44 : decode cX5_readText 44 = .ok (.getfield 37, 3) := by decide +kernel
theorem dX5_readText_47 : decode cX5_readText 47 = .ok (.aload_n 0, 1) := by decide +kernel
theorem dX5_readText_48 : decode cX5_readText 48 = .ok (.getfield 43, 3) := by decide +kernel
theorem dX5_readText_51 : decode cX5_readText 51 = .ok (.getfield 54, 3) := by decide +kernel
theorem dX5_readText_54 : decode cX5_readText 54 = .ok (.if_icmp .lt 5, 3) := by decide +kernel
theorem dX5_readText_57 : decode cX5_readText 57 = .ok (.iconst 1, 1) := by decide +kernel
theorem dX5_readText_58 : decode cX5_readText 58 = .ok (.ireturn, 1) := by decide +kernel
theorem dX5_readText_59 : decode cX5_readText 59 = .ok (.aload_n 0, 1) := by decide +kernel
theorem dX5_readText_60 : decode cX5_readText 60 = .ok (.bipush 59, 2) := by decide +kernel
theorem dX5_readText_62 : decode cX5_readText 62 = .ok (.invokevirtual 57, 3) := by decide +kernel
theorem dX5_readText_65 : decode cX5_readText 65 = .ok (.ifCond .ne 5, 3) := by decide +kernel
theorem dX5_readText_68 : decode cX5_readText 68 = .ok (.iconst 0, 1) := by decide +kernel
theorem dX5_readText_69 : decode cX5_readText 69 = .ok (.ireturn, 1) := by decide +kernel
theorem dX5_readText_70 : decode cX5_readText 70 = .ok (.iinc 2 1, 3) := by decide +kernel
theorem dX5_readText_73 : decode cX5_readText 73 = .ok (.goto (-56), 3) := by decide +kernel
theorem dX5_readText_76 : decode cX5_readText 76 = .ok (.iconst 0, 1) := by decide +kernel
theorem dX5_readText_77 : decode cX5_readText 77 = .ok (.ireturn, 1) := by decide +kernel
theorem dX5_readItem_0 : decode cX5_readItem 0 = .ok (.aload_n 0, 1) := by decide +kernel
theorem dX5_readItem_1 : decode cX5_readItem 1 = .ok (.bipush 99, 2) := by decide +kernel
theorem dX5_readItem_3 : decode cX5_readItem 3 = .ok (.invokevirtual 57, 3) := by decide +kernel
theorem dX5_readItem_6 : decode cX5_readItem 6 = .ok (.ifCond .eq 10, 3) := by decide +kernel
theorem dX5_readItem_9 : decode cX5_readItem 9 = .ok (.aload_n 0, 1) := by decide +kernel
theorem dX5_readItem_10 : decode cX5_readItem 10 = .ok (.iload_n 1, 1) := by decide +kernel
theorem dX5_readItem_11 : decode cX5_readItem 11 = .ok (.iconst 1, 1) := by decide +kernel
theorem dX5_readItem_12 : decode cX5_readItem 12 = .ok (.invokevirtual 60, 3) := by decide +kernel
theorem dX5_readItem_15 : decode cX5_readItem 15 = .ok (.ireturn, 1) := by decide +kernel
theorem dX5_readItem_16 : decode cX5_readItem 16 = .ok (.aload_n 0, 1) := by decide +kernel
theorem dX5_readItem_17 : decode cX5_readItem 17 = .ok (.bipush 117, 2) := by decide +kernel
theorem dX5_readItem_19 : decode cX5_readItem 19 = .ok (.invokevirtual 57, 3) := by decide +kernel
theorem dX5_readItem_22 : decode cX5_readItem 22 = .ok (.ifCond .eq 10, 3) := by decide +kernel
theorem dX5_readItem_25 : decode cX5_readItem 25 = .ok (.aload_n 0, 1) := by decide +kernel
theorem dX5_readItem_26 : decode cX5_readItem 26 = .ok (.iload_n 1, 1) := by decide +kernel
theorem dX5_readItem_27 : decode cX5_readItem 27 = .ok (.iconst 2, 1) := by decide +kernel
theorem dX5_readItem_28 : decode cX5_readItem 28 = .ok (.invokevirtual 60, 3) := by decide +kernel
theorem dX5_readItem_31 : decode cX5_readItem 31 = .ok (.ireturn, 1) := by decide +kernel
theorem dX5_readItem_32 : decode cX5_readItem 32 = .ok (.aload_n 0, 1) := by decide +kernel
theorem dX5_readItem_33 : decode cX5_readItem 33 = .ok (.iload_n 1, 1) := by decide +kernel
theorem dX5_readItem_34 : decode cX5_readItem 34 = .ok (.invokevirtual 64, 3) := by decide +kernel
theorem dX5_readItem_37 : decode cX5_readItem 37 = .ok (.ireturn, 1) := by decide +kernel
theorem dX5_readCut_0 : decode cX5_readCut 0 = .ok (.aload_n 0, 1) := by decide +kernel
theorem dX5_readCut_1 : decode cX5_readCut 1 = .ok (.invokevirtual 67, 3) := by decide +kernel
theorem dX5_readCut_4 : decode cX5_readCut 4 = .ok (.istore_n 3, 1) := by decide +kernel
theorem dX5_readCut_5 : decode cX5_readCut 5 = .ok (.iload_n 3, 1) := by decide +kernel
theorem dX5_readCut_6 : decode cX5_readCut 6 = .ok (.iconst (-1), 1) := by decide +kernel
theorem dX5_readCut_7 : decode cX5_readCut 7 = .ok (.if_icmp .eq 10, 3) := by decide +kernel
theorem dX5_readCut_10 : decode cX5_readCut 10 = .ok (.iload_n 1, 1) := by decide +kernel
theorem dX5_readCut_11 : decode cX5_readCut 11 = .ok (.invokestatic 47, 3) := by decide +kernel
theorem dX5_readCut_14 : decode cX5_readCut 14 = .ok (.ifCond .ne 5, 3) := by decide +kernel
theorem dX5_readCut_17 : decode cX5_readCut 17 = .ok (.iconst 0, 1) := by decide +kernel
theorem dX5_readCut_18 : decode cX5_readCut 18 = .ok (.ireturn, 1) := by decide +kernel
theorem dX5_readCut_19 : decode cX5_readCut 19 = .ok (.aload_n 0, 1) := by decide +kernel
theorem dX5_readCut_20 : decode cX5_readCut 20 = .ok (.getfield 9, 3) := by decide +kernel
theorem dX5_readCut_23 : decode cX5_readCut 23 = .ok (.iload_n 1, 1) := by decide +kernel
theorem dX5_readCut_24 : decode cX5_readCut 24 = .ok (.iload_n 2, 1) := by decide +kernel
theorem dX5_readCut_25 : decode cX5_readCut 25 = .ok (.iastore, 1) := by decide +kernel
theorem dX5_readCut_26 : decode cX5_readCut 26 = .ok (.aload_n 0, 1) := by decide +kernel
theorem dX5_readCut_27 : decode cX5_readCut 27 = .ok (.getfield 21, 3) := by decide +kernel
theorem dX5_readCut_30 : decode cX5_readCut 30 = .ok (.iload_n 1, 1) := by decide +kernel
theorem dX5_readCut_31 : decode cX5_readCut 31 = .ok (.iload_n 3, 1) := by decide +kernel
theorem dX5_readCut_32 : decode cX5_readCut 32 = .ok (.iastore, 1) := by decide +kernel
theorem dX5_readCut_33 : decode cX5_readCut 33 = .ok (.iconst 1, 1) := by decide +kernel
theorem dX5_readCut_34 : decode cX5_readCut 34 = .ok (.ireturn, 1) := by decide +kernel
theorem dX5_readCaption_0 : decode cX5_readCaption 0 = .ok (.aload_n 0, 1) := by decide +kernel
theorem dX5_readCaption_1 : decode cX5_readCaption 1 = .ok (.bipush 97, 2) := by decide +kernel
theorem dX5_readCaption_3 : decode cX5_readCaption 3 = .ok (.bipush 98, 2) := by decide +kernel
theorem dX5_readCaption_5 : decode cX5_readCaption 5 = .ok (.iconst (-1), 1) := by decide +kernel
theorem dX5_readCaption_6 : decode cX5_readCaption 6 = .ok (.invokevirtual 71, 3) := by decide +kernel
theorem dX5_readCaption_9 : decode cX5_readCaption 9 = .ok (.istore_n 2, 1) := by decide +kernel
theorem dX5_readCaption_10 : decode cX5_readCaption 10 = .ok (.iload_n 2, 1) := by decide +kernel
theorem dX5_readCaption_11 : decode cX5_readCaption 11 = .ok (.iconst (-1), 1) := by decide +kernel
theorem dX5_readCaption_12 : decode cX5_readCaption 12 = .ok (.if_icmp .ne 7, 3) := by decide +kernel
theorem dX5_readCaption_15 : decode cX5_readCaption 15 = .ok (.iconst (-1), 1) := by decide +kernel
theorem dX5_readCaption_16 : decode cX5_readCaption 16 = .ok (.goto 13, 3) := by decide +kernel
theorem dX5_readCaption_19 : decode cX5_readCaption 19 = .ok (.aload_n 0, 1) := by decide +kernel
theorem dX5_readCaption_20 : decode cX5_readCaption 20 = .ok (.bipush 46, 2) := by decide +kernel
theorem dX5_readCaption_22 : decode cX5_readCaption 22 = .ok (.bipush 33, 2) := by decide +kernel
theorem dX5_readCaption_24 : decode cX5_readCaption 24 = .ok (.bipush 42, 2) := by decide +kernel
theorem dX5_readCaption_26 : decode cX5_readCaption 26 = .ok (.invokevirtual 71, 3) := by decide +kernel
theorem dX5_readCaption_29 : decode cX5_readCaption 29 = .ok (.istore_n 3, 1) := by decide +kernel
theorem dX5_readCaption_30 : decode cX5_readCaption 30 = .ok (.iload_n 3, 1) := by decide +kernel
theorem dX5_readCaption_31 : decode cX5_readCaption 31 = .ok (.iconst (-1), 1) := by decide +kernel
theorem dX5_readCaption_32 : decode cX5_readCaption 32 = .ok (.if_icmp .ne 7, 3) := by decide +kernel
theorem dX5_readCaption_35 : decode cX5_readCaption 35 = .ok (.iconst (-1), 1) := by decide +kernel
theorem dX5_readCaption_36 : decode cX5_readCaption 36 = .ok (.goto 7, 3) := by decide +kernel
theorem dX5_readCaption_39 : decode cX5_readCaption 39 = .ok (.aload_n 0, 1) := by decide +kernel
theorem dX5_readCaption_40 : decode cX5_readCaption 40 = .ok (.invokevirtual 67, 3) := by decide +kernel
theorem dX5_readCaption_43 : decode cX5_readCaption 43 = .ok (.istore 4, 2) := by decide +kernel
theorem dX5_readCaption_45 : decode cX5_readCaption 45 = .ok (.iload 4, 2) := by decide +kernel
theorem dX5_readCaption_47 : decode cX5_readCaption 47 = .ok (.iconst (-1), 1) := by decide +kernel
theorem dX5_readCaption_48 : decode cX5_readCaption 48 = .ok (.if_icmp .eq 12, 3) := by decide +kernel
theorem dX5_readCaption_51 : decode cX5_readCaption 51 = .ok (.aload_n 0, 1) := by decide +kernel
theorem dX5_readCaption_52 : decode cX5_readCaption 52 = .ok (.bipush 45, 2) := by decide +kernel
theorem dX5_readCaption_54 : decode cX5_readCaption 54 = .ok (.invokevirtual 57, 3) := by decide +kernel
theorem dX5_readCaption_57 : decode cX5_readCaption 57 = .ok (.ifCond .ne 7, 3) := by decide +kernel
theorem dX5_readCaption_60 : decode cX5_readCaption 60 = .ok (.iconst (-1), 1) := by decide +kernel
theorem dX5_readCaption_61 : decode cX5_readCaption 61 = .ok (.goto 7, 3) := by decide +kernel
theorem dX5_readCaption_64 : decode cX5_readCaption 64 = .ok (.aload_n 0, 1) := by decide +kernel
theorem dX5_readCaption_65 : decode cX5_readCaption 65 = .ok (.invokevirtual 67, 3) := by decide +kernel
theorem dX5_readCaption_68 : decode cX5_readCaption 68 = .ok (.istore 5, 2) := by decide +kernel
theorem dX5_readCaption_70 : decode cX5_readCaption 70 = .ok (.iload 5, 2) := by decide +kernel
theorem dX5_readCaption_72 : decode cX5_readCaption 72 = .ok (.iconst (-1), 1) := by decide +kernel
theorem dX5_readCaption_73 : decode cX5_readCaption 73 = .ok (.if_icmp .eq 19, 3) := by decide +kernel
theorem dX5_readCaption_76 : decode cX5_readCaption 76 = .ok (.aload_n 0, 1) := by decide +kernel
theorem dX5_readCaption_77 : decode cX5_readCaption 77 = .ok (.bipush 58, 2) := by decide +kernel
theorem dX5_readCaption_79 : decode cX5_readCaption 79 = .ok (.invokevirtual 57, 3) := by decide +kernel
theorem dX5_readCaption_82 : decode cX5_readCaption 82 = .ok (.ifCond .eq 10, 3) := by decide +kernel
theorem dX5_readCaption_85 : decode cX5_readCaption 85 = .ok (.iload_n 1, 1) := by decide +kernel
theorem dX5_readCaption_86 : decode cX5_readCaption 86 = .ok (.invokestatic 47, 3) := by decide +kernel
theorem dX5_readCaption_89 : decode cX5_readCaption 89 = .ok (.ifCond .ne 5, 3) := by decide +kernel
theorem dX5_readCaption_92 : decode cX5_readCaption 92 = .ok (.iconst 0, 1) := by decide +kernel
theorem dX5_readCaption_93 : decode cX5_readCaption 93 = .ok (.ireturn, 1) := by decide +kernel
theorem dX5_readCaption_94 : decode cX5_readCaption 94 = .ok (.aload_n 0, 1) := by decide +kernel
theorem dX5_readCaption_95 : decode cX5_readCaption 95 = .ok (.getfield 9, 3) := by decide +kernel
theorem dX5_readCaption_98 : decode cX5_readCaption 98 = .ok (.iload_n 1, 1) := by decide +kernel
theorem dX5_readCaption_99 : decode cX5_readCaption 99 = .ok (.iconst 0, 1) := by decide +kernel
theorem dX5_readCaption_100 : decode cX5_readCaption 100 = .ok (.iastore, 1) := by decide +kernel
theorem dX5_readCaption_101 : decode cX5_readCaption 101 = .ok (.aload_n 0, 1) := by decide +kernel
theorem dX5_readCaption_102 : decode cX5_readCaption 102 = .ok (.getfield 15, 3) := by decide +kernel
theorem dX5_readCaption_105 : decode cX5_readCaption 105 = .ok (.iload_n 1, 1) := by decide +kernel
theorem dX5_readCaption_106 : decode cX5_readCaption 106 = .ok (.iload_n 2, 1) := by decide +kernel
theorem dX5_readCaption_107 : decode cX5_readCaption 107 = .ok (.iastore, 1) := by decide +kernel
theorem dX5_readCaption_108 : decode cX5_readCaption 108 = .ok (.aload_n 0, 1) := by decide +kernel
theorem dX5_readCaption_109 : decode cX5_readCaption 109 = .ok (.getfield 18, 3) := by decide +kernel
theorem dX5_readCaption_112 : decode cX5_readCaption 112 = .ok (.iload_n 1, 1) := by decide +kernel
theorem dX5_readCaption_113 : decode cX5_readCaption 113 = .ok (.iload_n 3, 1) := by decide +kernel
theorem dX5_readCaption_114 : decode cX5_readCaption 114 = .ok (.iastore, 1) := by decide +kernel
theorem dX5_readCaption_115 : decode cX5_readCaption 115 = .ok (.aload_n 0, 1) := by decide +kernel
theorem dX5_readCaption_116 : decode cX5_readCaption 116 = .ok (.getfield 21, 3) := by decide +kernel
theorem dX5_readCaption_119 : decode cX5_readCaption 119 = .ok (.iload_n 1, 1) := by decide +kernel
theorem dX5_readCaption_120 : decode cX5_readCaption 120 = .ok (.iload 4, 2) := by decide +kernel
theorem dX5_readCaption_122 : decode cX5_readCaption 122 = .ok (.iastore, 1) := by decide +kernel
theorem dX5_readCaption_123 : decode cX5_readCaption 123 = .ok (.aload_n 0, 1) := by decide +kernel
theorem dX5_readCaption_124 : decode cX5_readCaption 124 = .ok (.getfield 24, 3) := by decide +kernel
theorem dX5_readCaption_127 : decode cX5_readCaption 127 = .ok (.iload_n 1, 1) := by decide +kernel
theorem dX5_readCaption_128 : decode cX5_readCaption 128 = .ok (.iload 5, 2) := by decide +kernel
theorem dX5_readCaption_130 : decode cX5_readCaption 130 = .ok (.iastore, 1) := by decide +kernel
theorem dX5_readCaption_131 : decode cX5_readCaption 131 = .ok (.aload_n 0, 1) := by decide +kernel
theorem dX5_readCaption_132 : decode cX5_readCaption 132 = .ok (.getfield 27, 3) := by decide +kernel
theorem dX5_readCaption_135 : decode cX5_readCaption 135 = .ok (.iload_n 1, 1) := by decide +kernel
theorem dX5_readCaption_136 : decode cX5_readCaption 136 = .ok (.aload_n 0, 1) := by decide +kernel
theorem dX5_readCaption_137 : decode cX5_readCaption 137 = .ok (.getfield 37, 3) := by decide +kernel
theorem dX5_readCaption_140 : decode cX5_readCaption 140 = .ok (.iastore, 1) := by decide +kernel
theorem dX5_readCaption_141 : decode cX5_readCaption 141 = .ok (.aload_n 0, 1) := by decide +kernel
theorem dX5_readCaption_142 : decode cX5_readCaption 142 = .ok (.invokevirtual 75, 3) := by decide +kernel
theorem dX5_readCaption_145 : decode cX5_readCaption 145 = .ok (.aload_n 0, 1) := by decide +kernel
theorem dX5_readCaption_146 : decode cX5_readCaption 146 = .ok (.getfield 30, 3) := by decide +kernel
theorem dX5_readCaption_149 : decode cX5_readCaption 149 = .ok (.iload_n 1, 1) := by decide +kernel
theorem dX5_readCaption_150 : decode cX5_readCaption 150 = .ok (.aload_n 0, 1) := by decide +kernel
theorem dX5_readCaption_151 : decode cX5_readCaption 151 = .ok (.getfield 37, 3) := by decide +kernel
theorem dX5_readCaption_154 : decode cX5_readCaption 154 = .ok (.iastore, 1) := by decide +kernel
theorem dX5_readCaption_155 : decode cX5_readCaption 155 = .ok (.aload_n 0, 1) := by decide +kernel
theorem dX5_readCaption_156 : decode cX5_readCaption 156 = .ok (.getfield 30, 3) := by decide +kernel
theorem dX5_readCaption_159 : decode cX5_readCaption 159 = .ok (.iload_n 1, 1) := by decide +kernel
theorem dX5_readCaption_160 : decode cX5_readCaption 160 = .ok (.iaload, 1) := by decide +kernel
theorem dX5_readCaption_161 : decode cX5_readCaption 161 = .ok (.aload_n 0, 1) := by decide +kernel
theorem dX5_readCaption_162 : decode cX5_readCaption 162 = .ok (.getfield 27, 3) := by decide +kernel
theorem dX5_readCaption_165 : decode cX5_readCaption 165 = .ok (.iload_n 1, 1) := by decide +kernel
theorem dX5_readCaption_166 : decode cX5_readCaption 166 = .ok (.iaload, 1) := by decide +kernel
theorem dX5_readCaption_167 : decode cX5_readCaption 167 = .ok (.if_icmp .le 7, 3) := by decide +kernel
theorem dX5_readCaption_170 : decode cX5_readCaption 170 = .ok (.iconst 1, 1) := by decide +kernel
theorem dX5_readCaption_171 : decode cX5_readCaption 171 = .ok (.goto 4, 3) := by decide +kernel
theorem dX5_readCaption_174 : decode cX5_readCaption 174 = .ok (.iconst 0, 1) := by decide +kernel
theorem dX5_readCaption_175 : decode cX5_readCaption 175 = .ok (.ireturn, 1) := by decide +kernel
theorem dX5_takeSign_0 : decode cX5_takeSign 0 = .ok (.aload_n 0, 1) := by decide +kernel
theorem dX5_takeSign_1 : decode cX5_takeSign 1 = .ok (.getfield 43, 3) := by decide +kernel
theorem dX5_takeSign_4 : decode cX5_takeSign 4 = .ok (.aload_n 0, 1) := by decide +kernel
theorem dX5_takeSign_5 : decode cX5_takeSign 5 = .ok (.getfield 37, 3) := by decide +kernel
theorem dX5_takeSign_8 : decode cX5_takeSign 8 = .ok (.invokevirtual 78, 3) := by decide +kernel
theorem dX5_takeSign_11 : decode cX5_takeSign 11 = .ok (.iload_n 1, 1) := by decide +kernel
theorem dX5_takeSign_12 : decode cX5_takeSign 12 = .ok (.if_icmp .eq 5, 3) := by decide +kernel
theorem dX5_takeSign_15 : decode cX5_takeSign 15 = .ok (.iconst 0, 1) := by decide +kernel
theorem dX5_takeSign_16 : decode cX5_takeSign 16 = .ok (.ireturn, 1) := by decide +kernel
theorem dX5_takeSign_17 : decode cX5_takeSign 17 = .ok (.aload_n 0, 1) := by decide +kernel
theorem dX5_takeSign_18 : decode cX5_takeSign 18 = .ok (.dup, 1) := by decide +kernel
theorem dX5_takeSign_19 : decode cX5_takeSign 19 = .ok (.getfield 37, 3) := by decide +kernel
theorem dX5_takeSign_22 : decode cX5_takeSign 22 = .ok (.iconst 1, 1) := by decide +kernel
theorem dX5_takeSign_23 : decode cX5_takeSign 23 = .ok (.iadd, 1) := by decide +kernel
theorem dX5_takeSign_24 : decode cX5_takeSign 24 = .ok (.putfield 37, 3) := by decide +kernel
theorem dX5_takeSign_27 : decode cX5_takeSign 27 = .ok (.iconst 1, 1) := by decide +kernel
theorem dX5_takeSign_28 : decode cX5_takeSign 28 = .ok (.ireturn, 1) := by decide +kernel
theorem dX5_takeOneOf_0 : decode cX5_takeOneOf 0 = .ok (.aload_n 0, 1) := by decide +kernel
theorem dX5_takeOneOf_1 : decode cX5_takeOneOf 1 = .ok (.getfield 43, 3) := by decide +kernel
theorem dX5_takeOneOf_4 : decode cX5_takeOneOf 4 = .ok (.aload_n 0, 1) := by decide +kernel
theorem dX5_takeOneOf_5 : decode cX5_takeOneOf 5 = .ok (.getfield 37, 3) := by decide +kernel
theorem dX5_takeOneOf_8 : decode cX5_takeOneOf 8 = .ok (.invokevirtual 78, 3) := by decide +kernel
theorem dX5_takeOneOf_11 : decode cX5_takeOneOf 11 = .ok (.istore 4, 2) := by decide +kernel
theorem dX5_takeOneOf_13 : decode cX5_takeOneOf 13 = .ok (.iload 4, 2) := by decide +kernel
theorem dX5_takeOneOf_15 : decode cX5_takeOneOf 15 = .ok (.iconst (-1), 1) := by decide +kernel
theorem dX5_takeOneOf_16 : decode cX5_takeOneOf 16 = .ok (.if_icmp .ne 5, 3) := by decide +kernel
theorem dX5_takeOneOf_19 : decode cX5_takeOneOf 19 = .ok (.iconst (-1), 1) := by decide +kernel
theorem dX5_takeOneOf_20 : decode cX5_takeOneOf 20 = .ok (.ireturn, 1) := by decide +kernel
theorem dX5_takeOneOf_21 : decode cX5_takeOneOf 21 = .ok (.iload 4, 2) := by decide +kernel
theorem dX5_takeOneOf_23 : decode cX5_takeOneOf 23 = .ok (.iload_n 1, 1) := by decide +kernel
theorem dX5_takeOneOf_24 : decode cX5_takeOneOf 24 = .ok (.if_icmp .ne 7, 3) := by decide +kernel
theorem dX5_takeOneOf_27 : decode cX5_takeOneOf 27 = .ok (.iconst 0, 1) := by decide +kernel
theorem dX5_takeOneOf_28 : decode cX5_takeOneOf 28 = .ok (.goto 24, 3) := by decide +kernel
theorem dX5_takeOneOf_31 : decode cX5_takeOneOf 31 = .ok (.iload 4, 2) := by decide +kernel
theorem dX5_takeOneOf_33 : decode cX5_takeOneOf 33 = .ok (.iload_n 2, 1) := by decide +kernel
theorem dX5_takeOneOf_34 : decode cX5_takeOneOf 34 = .ok (.if_icmp .ne 7, 3) := by decide +kernel
theorem dX5_takeOneOf_37 : decode cX5_takeOneOf 37 = .ok (.iconst 1, 1) := by decide +kernel
theorem dX5_takeOneOf_38 : decode cX5_takeOneOf 38 = .ok (.goto 14, 3) := by decide +kernel
theorem dX5_takeOneOf_41 : decode cX5_takeOneOf 41 = .ok (.iload 4, 2) := by decide +kernel
theorem dX5_takeOneOf_43 : decode cX5_takeOneOf 43 = .ok (.iload_n 3, 1) := by decide +kernel
theorem dX5_takeOneOf_44 : decode cX5_takeOneOf 44 = .ok (.if_icmp .ne 7, 3) := by decide +kernel
theorem dX5_takeOneOf_47 : decode cX5_takeOneOf 47 = .ok (.iconst 2, 1) := by decide +kernel
theorem dX5_takeOneOf_48 : decode cX5_takeOneOf 48 = .ok (.goto 4, 3) := by decide +kernel
theorem dX5_takeOneOf_51 : decode cX5_takeOneOf 51 = .ok (.iconst (-1), 1) := by decide +kernel
theorem dX5_takeOneOf_52 : decode cX5_takeOneOf 52 = .ok (.istore 5, 2) := by decide +kernel
theorem dX5_takeOneOf_54 : decode cX5_takeOneOf 54 = .ok (.iload 5, 2) := by decide +kernel
theorem dX5_takeOneOf_56 : decode cX5_takeOneOf 56 = .ok (.iconst (-1), 1) := by decide +kernel
theorem dX5_takeOneOf_57 : decode cX5_takeOneOf 57 = .ok (.if_icmp .eq 13, 3) := by decide +kernel
theorem dX5_takeOneOf_60 : decode cX5_takeOneOf 60 = .ok (.aload_n 0, 1) := by decide +kernel
theorem dX5_takeOneOf_61 : decode cX5_takeOneOf 61 = .ok (.dup, 1) := by decide +kernel
theorem dX5_takeOneOf_62 : decode cX5_takeOneOf 62 = .ok (.getfield 37, 3) := by decide +kernel
theorem dX5_takeOneOf_65 : decode cX5_takeOneOf 65 = .ok (.iconst 1, 1) := by decide +kernel
theorem dX5_takeOneOf_66 : decode cX5_takeOneOf 66 = .ok (.iadd, 1) := by decide +kernel
theorem dX5_takeOneOf_67 : decode cX5_takeOneOf 67 = .ok (.putfield 37, 3) := by decide +kernel
theorem dX5_takeOneOf_70 : decode cX5_takeOneOf 70 = .ok (.iload 5, 2) := by decide +kernel
theorem dX5_takeOneOf_72 : decode cX5_takeOneOf 72 = .ok (.ireturn, 1) := by decide +kernel
theorem dX5_readNumber_0 : decode cX5_readNumber 0 = .ok (.iconst 0, 1) := by decide +kernel
theorem dX5_readNumber_1 : decode cX5_readNumber 1 = .ok (.istore_n 1, 1) := by decide +kernel
theorem dX5_readNumber_2 : decode cX5_readNumber 2 = .ok (.iconst 0, 1) := by decide +kernel
theorem dX5_readNumber_3 : decode cX5_readNumber 3 = .ok (.istore_n 2, 1) := by decide +kernel
theorem dX5_readNumber_4 : decode cX5_readNumber 4 = .ok (.iload_n 2, 1) := by decide +kernel
theorem dX5_readNumber_5 : decode cX5_readNumber 5 = .ok (.iconst 4, 1) := by decide +kernel
theorem dX5_readNumber_6 : decode cX5_readNumber 6 = .ok (.if_icmp .ge 56, 3) := by decide +kernel
theorem dX5_readNumber_9 : decode cX5_readNumber 9 = .ok (.aload_n 0, 1) := by decide +kernel
theorem dX5_readNumber_10 : decode cX5_readNumber 10 = .ok (.getfield 43, 3) := by decide +kernel
theorem dX5_readNumber_13 : decode cX5_readNumber 13 = .ok (.aload_n 0, 1) := by decide +kernel
theorem dX5_readNumber_14 : decode cX5_readNumber 14 = .ok (.getfield 37, 3) := by decide +kernel
theorem dX5_readNumber_17 : decode cX5_readNumber 17 = .ok (.invokevirtual 78, 3) := by decide +kernel
theorem dX5_readNumber_20 : decode cX5_readNumber 20 = .ok (.invokestatic 82, 3) := by decide +kernel
theorem dX5_readNumber_23 : decode cX5_readNumber 23 = .ok (.ifCond .eq 39, 3) := by decide +kernel
theorem dX5_readNumber_26 : decode cX5_readNumber 26 = .ok (.iload_n 1, 1) := by decide +kernel
theorem dX5_readNumber_27 : decode cX5_readNumber 27 = .ok (.bipush 10, 2) := by decide +kernel
theorem dX5_readNumber_29 : decode cX5_readNumber 29 = .ok (.imul, 1) := by decide +kernel
theorem dX5_readNumber_30 : decode cX5_readNumber 30 = .ok (.aload_n 0, 1) := by decide +kernel
theorem dX5_readNumber_31 : decode cX5_readNumber 31 = .ok (.getfield 43, 3) := by decide +kernel
theorem dX5_readNumber_34 : decode cX5_readNumber 34 = .ok (.aload_n 0, 1) := by decide +kernel
theorem dX5_readNumber_35 : decode cX5_readNumber 35 = .ok (.getfield 37, 3) := by decide +kernel
theorem dX5_readNumber_38 : decode cX5_readNumber 38 = .ok (.invokevirtual 78, 3) := by decide +kernel
theorem dX5_readNumber_41 : decode cX5_readNumber 41 = .ok (.iadd, 1) := by decide +kernel
theorem dX5_readNumber_42 : decode cX5_readNumber 42 = .ok (.bipush 48, 2) := by decide +kernel
theorem dX5_readNumber_44 : decode cX5_readNumber 44 = .ok (.isub, 1) := by decide +kernel
theorem dX5_readNumber_45 : decode cX5_readNumber 45 = .ok (.istore_n 1, 1) := by decide +kernel
theorem dX5_readNumber_46 : decode cX5_readNumber 46 = .ok (.aload_n 0, 1) := by decide +kernel
theorem dX5_readNumber_47 : decode cX5_readNumber 47 = .ok (.dup, 1) := by decide +kernel
theorem dX5_readNumber_48 : decode cX5_readNumber 48 = .ok (.getfield 37, 3) := by decide +kernel
theorem dX5_readNumber_51 : decode cX5_readNumber 51 = .ok (.iconst 1, 1) := by decide +kernel
theorem dX5_readNumber_52 : decode cX5_readNumber 52 = .ok (.iadd, 1) := by decide +kernel
theorem dX5_readNumber_53 : decode cX5_readNumber 53 = .ok (.putfield 37, 3) := by decide +kernel
theorem dX5_readNumber_56 : decode cX5_readNumber 56 = .ok (.iinc 2 1, 3) := by decide +kernel
theorem dX5_readNumber_59 : decode cX5_readNumber 59 = .ok (.goto (-55), 3) := by decide +kernel
theorem dX5_readNumber_62 : decode cX5_readNumber 62 = .ok (.iload_n 2, 1) := by decide +kernel
theorem dX5_readNumber_63 : decode cX5_readNumber 63 = .ok (.ifCond .le 7, 3) := by decide +kernel
theorem dX5_readNumber_66 : decode cX5_readNumber 66 = .ok (.iload_n 1, 1) := by decide +kernel
theorem dX5_readNumber_67 : decode cX5_readNumber 67 = .ok (.goto 4, 3) := by decide +kernel
theorem dX5_readNumber_70 : decode cX5_readNumber 70 = .ok (.iconst (-1), 1) := by decide +kernel
theorem dX5_readNumber_71 : decode cX5_readNumber 71 = .ok (.ireturn, 1) := by decide +kernel
theorem dX5_skipWords_0 : decode cX5_skipWords 0 = .ok (.iconst 0, 1) := by decide +kernel
theorem dX5_skipWords_1 : decode cX5_skipWords 1 = .ok (.istore_n 1, 1) := by decide +kernel
theorem dX5_skipWords_2 : decode cX5_skipWords 2 = .ok (.iload_n 1, 1) := by decide +kernel
theorem dX5_skipWords_3 : decode cX5_skipWords 3 = .ok (.bipush 24, 2) := by decide +kernel
theorem dX5_skipWords_5 : decode cX5_skipWords 5 = .ok (.if_icmp .ge 36, 3) := by decide +kernel
theorem dX5_skipWords_8 : decode cX5_skipWords 8 = .ok (.aload_n 0, 1) := by decide +kernel
theorem dX5_skipWords_9 : decode cX5_skipWords 9 = .ok (.getfield 43, 3) := by decide +kernel
theorem dX5_skipWords_12 : decode cX5_skipWords 12 = .ok (.aload_n 0, 1) := by decide +kernel
theorem dX5_skipWords_13 : decode cX5_skipWords 13 = .ok (.getfield 37, 3) := by decide +kernel
theorem dX5_skipWords_16 : decode cX5_skipWords 16 = .ok (.invokevirtual 78, 3) := by decide +kernel
theorem dX5_skipWords_19 : decode cX5_skipWords 19 = .ok (.invokestatic 85, 3) := by decide +kernel
theorem dX5_skipWords_22 : decode cX5_skipWords 22 = .ok (.ifCond .eq 19, 3) := by decide +kernel
theorem dX5_skipWords_25 : decode cX5_skipWords 25 = .ok (.aload_n 0, 1) := by decide +kernel
theorem dX5_skipWords_26 : decode cX5_skipWords 26 = .ok (.dup, 1) := by decide +kernel
theorem dX5_skipWords_27 : decode cX5_skipWords 27 = .ok (.getfield 37, 3) := by decide +kernel
theorem dX5_skipWords_30 : decode cX5_skipWords 30 = .ok (.iconst 1, 1) := by decide +kernel
theorem dX5_skipWords_31 : decode cX5_skipWords 31 = .ok (.iadd, 1) := by decide +kernel
theorem dX5_skipWords_32 : decode cX5_skipWords 32 = .ok (.putfield 37, 3) := by decide +kernel
theorem dX5_skipWords_35 : decode cX5_skipWords 35 = .ok (.iinc 1 1, 3) := by decide +kernel
theorem dX5_skipWords_38 : decode cX5_skipWords 38 = .ok (.goto (-36), 3) := by decide +kernel
theorem dX5_skipWords_41 : decode cX5_skipWords 41 = .ok (.return_, 1) := by decide +kernel
theorem dX5_isDigit_0 : decode cX5_isDigit 0 = .ok (.iload_n 0, 1) := by decide +kernel
theorem dX5_isDigit_1 : decode cX5_isDigit 1 = .ok (.bipush 48, 2) := by decide +kernel
theorem dX5_isDigit_3 : decode cX5_isDigit 3 = .ok (.if_icmp .lt 13, 3) := by decide +kernel
theorem dX5_isDigit_6 : decode cX5_isDigit 6 = .ok (.iload_n 0, 1) := by decide +kernel
theorem dX5_isDigit_7 : decode cX5_isDigit 7 = .ok (.bipush 57, 2) := by decide +kernel
theorem dX5_isDigit_9 : decode cX5_isDigit 9 = .ok (.if_icmp .gt 7, 3) := by decide +kernel
theorem dX5_isDigit_12 : decode cX5_isDigit 12 = .ok (.iconst 1, 1) := by decide +kernel
theorem dX5_isDigit_13 : decode cX5_isDigit 13 = .ok (.goto 4, 3) := by decide +kernel
theorem dX5_isDigit_16 : decode cX5_isDigit 16 = .ok (.iconst 0, 1) := by decide +kernel
theorem dX5_isDigit_17 : decode cX5_isDigit 17 = .ok (.ireturn, 1) := by decide +kernel
theorem dX6_init_0 : decode cX6_init 0 = .ok (.aload_n 0, 1) := by decide +kernel
theorem dX6_init_1 : decode cX6_init 1 = .ok (.invokespecial 1, 3) := by decide +kernel
theorem dX6_init_4 : decode cX6_init 4 = .ok (.aload_n 0, 1) := by decide +kernel
theorem dX6_init_5 : decode cX6_init 5 = .ok (.iload_n 1, 1) := by decide +kernel
theorem dX6_init_6 : decode cX6_init 6 = .ok (.putfield 7, 3) := by decide +kernel
theorem dX6_init_9 : decode cX6_init 9 = .ok (.aload_n 0, 1) := by decide +kernel
theorem dX6_init_10 : decode cX6_init 10 = .ok (.iload_n 2, 1) := by decide +kernel
theorem dX6_init_11 : decode cX6_init 11 = .ok (.putfield 13, 3) := by decide +kernel
theorem dX6_init_14 : decode cX6_init 14 = .ok (.aload_n 0, 1) := by decide +kernel
theorem dX6_init_15 : decode cX6_init 15 = .ok (.iload 4, 2) := by decide +kernel
theorem dX6_init_17 : decode cX6_init 17 = .ok (.iload_n 2, 1) := by decide +kernel
theorem dX6_init_18 : decode cX6_init 18 = .ok (.isub, 1) := by decide +kernel
theorem dX6_init_19 : decode cX6_init 19 = .ok (.invokestatic 16, 3) := by decide +kernel
theorem dX6_init_22 : decode cX6_init 22 = .ok (.putfield 22, 3) := by decide +kernel
theorem dX6_init_25 : decode cX6_init 25 = .ok (.aload_n 0, 1) := by decide +kernel
theorem dX6_init_26 : decode cX6_init 26 = .ok (.iload_n 3, 1) := by decide +kernel
theorem dX6_init_27 : decode cX6_init 27 = .ok (.iload_n 1, 1) := by decide +kernel
theorem dX6_init_28 : decode cX6_init 28 = .ok (.isub, 1) := by decide +kernel
theorem dX6_init_29 : decode cX6_init 29 = .ok (.invokestatic 16, 3) := by decide +kernel
theorem dX6_init_32 : decode cX6_init 32 = .ok (.putfield 25, 3) := by decide +kernel
theorem dX6_init_35 : decode cX6_init 35 = .ok (.return_, 1) := by decide +kernel
theorem dX6_frameFor_0 : decode cX6_frameFor 0 = .ok (.aload_n 0, 1) := by decide +kernel
theorem dX6_frameFor_1 : decode cX6_frameFor 1 = .ok (.getfield 25, 3) := by decide +kernel
theorem dX6_frameFor_4 : decode cX6_frameFor 4 = .ok (.ifCond .gt 5, 3) := by decide +kernel
theorem dX6_frameFor_7 : decode cX6_frameFor 7 = .ok (.iload_n 1, 1) := by decide +kernel
theorem dX6_frameFor_8 : decode cX6_frameFor 8 = .ok (.ireturn, 1) := by decide +kernel
theorem dX6_frameFor_9 : decode cX6_frameFor 9 = .ok (.aload_n 0, 1) := by decide +kernel
theorem dX6_frameFor_10 : decode cX6_frameFor 10 = .ok (.getfield 13, 3) := by decide +kernel
theorem dX6_frameFor_13 : decode cX6_frameFor 13 = .ok (.iconst 2, 1) := by decide +kernel
theorem dX6_frameFor_14 : decode cX6_frameFor 14 = .ok (.iload_n 1, 1) := by decide +kernel
theorem dX6_frameFor_15 : decode cX6_frameFor 15 = .ok (.aload_n 0, 1) := by decide +kernel
theorem dX6_frameFor_16 : decode cX6_frameFor 16 = .ok (.getfield 7, 3) := by decide +kernel
theorem dX6_frameFor_19 : decode cX6_frameFor 19 = .ok (.isub, 1) := by decide +kernel
theorem dX6_frameFor_20 : decode cX6_frameFor 20 = .ok (.imul, 1) := by decide +kernel
theorem dX6_frameFor_21 : decode cX6_frameFor 21 = .ok (.aload_n 0, 1) := by decide +kernel
theorem dX6_frameFor_22 : decode cX6_frameFor 22 = .ok (.getfield 22, 3) := by decide +kernel
theorem dX6_frameFor_25 : decode cX6_frameFor 25 = .ok (.imul, 1) := by decide +kernel
theorem dX6_frameFor_26 : decode cX6_frameFor 26 = .ok (.aload_n 0, 1) := by decide +kernel
theorem dX6_frameFor_27 : decode cX6_frameFor 27 = .ok (.getfield 25, 3) := by decide +kernel
theorem dX6_frameFor_30 : decode cX6_frameFor 30 = .ok (.iadd, 1) := by decide +kernel
theorem dX6_frameFor_31 : decode cX6_frameFor 31 = .ok (.iconst 2, 1) := by decide +kernel
theorem dX6_frameFor_32 : decode cX6_frameFor 32 = .ok (.aload_n 0, 1) := by decide +kernel
theorem dX6_frameFor_33 : decode cX6_frameFor 33 = .ok (.getfield 25, 3) := by decide +kernel
theorem dX6_frameFor_36 : decode cX6_frameFor 36 = .ok (.imul, 1) := by decide +kernel
theorem dX6_frameFor_37 : decode cX6_frameFor 37 = .ok (.invokestatic 28, 3) := by decide +kernel
theorem dX6_frameFor_40 : decode cX6_frameFor 40 = .ok (.iadd, 1) := by decide +kernel
theorem dX6_frameFor_41 : decode cX6_frameFor 41 = .ok (.ireturn, 1) := by decide +kernel
theorem dX7_init_0 : decode cX7_init 0 = .ok (.aload_n 0, 1) := by decide +kernel
theorem dX7_init_1 : decode cX7_init 1 = .ok (.invokespecial 3, 3) := by decide +kernel
theorem dX7_init_4 : decode cX7_init 4 = .ok (.aload_n 0, 1) := by decide +kernel
theorem dX7_init_5 : decode cX7_init 5 = .ok (.bipush 60, 2) := by decide +kernel
theorem dX7_init_7 : decode cX7_init 7 = .ok (.newarray .int, 2) := by decide +kernel
theorem dX7_init_9 : decode cX7_init 9 = .ok (.putfield 9, 3) := by decide +kernel
theorem dX7_init_12 : decode cX7_init 12 = .ok (.aload_n 0, 1) := by decide +kernel
theorem dX7_init_13 : decode cX7_init 13 = .ok (.iconst 0, 1) := by decide +kernel
theorem dX7_init_14 : decode cX7_init 14 = .ok (.putfield 15, 3) := by decide +kernel
theorem dX7_init_17 : decode cX7_init 17 = .ok (.return_, 1) := by decide +kernel
theorem dX7_clear_0 : decode cX7_clear 0 = .ok (.aload_n 0, 1) := by decide +kernel
theorem dX7_clear_1 : decode cX7_clear 1 = .ok (.iconst 0, 1) := by decide +kernel
theorem dX7_clear_2 : decode cX7_clear 2 = .ok (.putfield 15, 3) := by decide +kernel
theorem dX7_clear_5 : decode cX7_clear 5 = .ok (.return_, 1) := by decide +kernel
theorem dX7_append_0 : decode cX7_append 0 = .ok (.aload_n 0, 1) := by decide +kernel
theorem dX7_append_1 : decode cX7_append 1 = .ok (.getfield 15, 3) := by decide +kernel
theorem dX7_append_4 : decode cX7_append 4 = .ok (.ifCond .lt 15, 3) := by decide +kernel
theorem dX7_append_7 : decode cX7_append 7 = .ok (.aload_n 0, 1) := by decide +kernel
theorem dX7_append_8 : decode cX7_append 8 = .ok (.getfield 15, 3) := by decide +kernel
theorem dX7_append_11 : decode cX7_append 11 = .ok (.aload_n 0, 1) := by decide +kernel
theorem dX7_append_12 : decode cX7_append 12 = .ok (.getfield 9, 3) := by decide +kernel
theorem dX7_append_15 : decode cX7_append 15 = .ok (.arraylength, 1) := by decide +kernel
theorem dX7_append_16 : decode cX7_append 16 = .ok (.if_icmp .lt 5, 3) := by decide +kernel
theorem dX7_append_19 : decode cX7_append 19 = .ok (.iconst 0, 1) := by decide +kernel
theorem dX7_append_20 : decode cX7_append 20 = .ok (.ireturn, 1) := by decide +kernel
theorem dX7_append_21 : decode cX7_append 21 = .ok (.aload_n 0, 1) := by decide +kernel
theorem dX7_append_22 : decode cX7_append 22 = .ok (.getfield 9, 3) := by decide +kernel
theorem dX7_append_25 : decode cX7_append 25 = .ok (.aload_n 0, 1) := by decide +kernel
theorem dX7_append_26 : decode cX7_append 26 = .ok (.getfield 15, 3) := by decide +kernel
theorem dX7_append_29 : decode cX7_append 29 = .ok (.iload_n 1, 1) := by decide +kernel
theorem dX7_append_30 : decode cX7_append 30 = .ok (.iastore, 1) := by decide +kernel
theorem dX7_append_31 : decode cX7_append 31 = .ok (.aload_n 0, 1) := by decide +kernel
theorem dX7_append_32 : decode cX7_append 32 = .ok (.dup, 1) := by decide +kernel
theorem dX7_append_33 : decode cX7_append 33 = .ok (.getfield 15, 3) := by decide +kernel
theorem dX7_append_36 : decode cX7_append 36 = .ok (.iconst 1, 1) := by decide +kernel
theorem dX7_append_37 : decode cX7_append 37 = .ok (.iadd, 1) := by decide +kernel
theorem dX7_append_38 : decode cX7_append 38 = .ok (.putfield 15, 3) := by decide +kernel
theorem dX7_append_41 : decode cX7_append 41 = .ok (.iconst 1, 1) := by decide +kernel
theorem dX7_append_42 : decode cX7_append 42 = .ok (.ireturn, 1) := by decide +kernel
theorem dX7_appendPart_0 : decode cX7_appendPart 0 = .ok (.iload_n 2, 1) := by decide +kernel
theorem dX7_appendPart_1 : decode cX7_appendPart 1 = .ok (.istore 4, 2) := by decide +kernel
theorem dX7_appendPart_3 : decode cX7_appendPart 3 = .ok (.iload 4, 2) := by decide +kernel
theorem dX7_appendPart_5 : decode cX7_appendPart 5 = .ok (.iload_n 3, 1) := by decide +kernel
theorem dX7_appendPart_6 : decode cX7_appendPart 6 = .ok (.if_icmp .ge 30, 3) := by decide +kernel
theorem dX7_appendPart_9 : decode cX7_appendPart 9 = .ok (.aload_n 1, 1) := by decide +kernel
theorem dX7_appendPart_10 : decode cX7_appendPart 10 = .ok (.iload 4, 2) := by decide +kernel
theorem dX7_appendPart_12 : decode cX7_appendPart 12 = .ok (.invokevirtual 19, 3) := by decide +kernel
theorem dX7_appendPart_15 : decode cX7_appendPart 15 = .ok (.istore 5, 2) := by decide +kernel
theorem dX7_appendPart_17 : decode cX7_appendPart 17 = .ok (.iload 5, 2) := by decide +kernel
theorem dX7_appendPart_19 : decode cX7_appendPart 19 = .ok (.iconst (-1), 1) := by decide +kernel
theorem dX7_appendPart_20 : decode cX7_appendPart 20 = .ok (.if_icmp .eq 10, 3) := by decide +kernel
theorem dX7_appendPart_23 : decode cX7_appendPart 23 = .ok (.aload_n 0, 1) := by decide +kernel
theorem dX7_appendPart_24 : decode cX7_appendPart 24 = .ok (.iload 5, 2) := by decide +kernel
theorem dX7_appendPart_26 : decode cX7_appendPart 26 = .ok (.invokevirtual 23, 3) := by decide +kernel
theorem dX7_appendPart_29 : decode cX7_appendPart 29 = .ok (.pop, 1) := by decide +kernel
theorem dX7_appendPart_30 : decode cX7_appendPart 30 = .ok (.iinc 4 1, 3) := by decide +kernel
theorem dX7_appendPart_33 : decode cX7_appendPart 33 = .ok (.goto (-30), 3) := by decide +kernel
theorem dX7_appendPart_36 : decode cX7_appendPart 36 = .ok (.return_, 1) := by decide +kernel
theorem dX7_signAt_0 : decode cX7_signAt 0 = .ok (.iload_n 1, 1) := by decide +kernel
theorem dX7_signAt_1 : decode cX7_signAt 1 = .ok (.ifCond .lt 29, 3) := by decide +kernel
theorem dX7_signAt_4 : decode cX7_signAt 4 = .ok (.iload_n 1, 1) := by decide +kernel
theorem dX7_signAt_5 : decode cX7_signAt 5 = .ok (.aload_n 0, 1) := by decide +kernel
theorem dX7_signAt_6 : decode cX7_signAt 6 = .ok (.getfield 15, 3) := by decide +kernel
theorem dX7_signAt_9 : decode cX7_signAt 9 = .ok (.if_icmp .ge 21, 3) := by decide +kernel
theorem dX7_signAt_12 : decode cX7_signAt 12 = .ok (.iload_n 1, 1) := by decide +kernel
theorem dX7_signAt_13 : decode cX7_signAt 13 = .ok (.aload_n 0, 1) := by decide +kernel
theorem dX7_signAt_14 : decode cX7_signAt 14 = .ok (.getfield 9, 3) := by decide +kernel
theorem dX7_signAt_17 : decode cX7_signAt 17 = .ok (.arraylength, 1) := by decide +kernel
theorem dX7_signAt_18 : decode cX7_signAt 18 = .ok (.if_icmp .ge 12, 3) := by decide +kernel
theorem dX7_signAt_21 : decode cX7_signAt 21 = .ok (.aload_n 0, 1) := by decide +kernel
theorem dX7_signAt_22 : decode cX7_signAt 22 = .ok (.getfield 9, 3) := by decide +kernel
theorem dX7_signAt_25 : decode cX7_signAt 25 = .ok (.iload_n 1, 1) := by decide +kernel
theorem dX7_signAt_26 : decode cX7_signAt 26 = .ok (.iaload, 1) := by decide +kernel
theorem dX7_signAt_27 : decode cX7_signAt 27 = .ok (.goto 4, 3) := by decide +kernel
theorem dX7_signAt_30 : decode cX7_signAt 30 = .ok (.iconst (-1), 1) := by decide +kernel
theorem dX7_signAt_31 : decode cX7_signAt 31 = .ok (.ireturn, 1) := by decide +kernel
theorem dX7_isValid_0 : decode cX7_isValid 0 = .ok (.aload_n 0, 1) := by decide +kernel
theorem dX7_isValid_1 : decode cX7_isValid 1 = .ok (.getfield 15, 3) := by decide +kernel
theorem dX7_isValid_4 : decode cX7_isValid 4 = .ok (.iconst 1, 1) := by decide +kernel
theorem dX7_isValid_5 : decode cX7_isValid 5 = .ok (.if_icmp .lt 12, 3) := by decide +kernel
theorem dX7_isValid_8 : decode cX7_isValid 8 = .ok (.aload_n 0, 1) := by decide +kernel
theorem dX7_isValid_9 : decode cX7_isValid 9 = .ok (.getfield 15, 3) := by decide +kernel
theorem dX7_isValid_12 : decode cX7_isValid 12 = .ok (.bipush 24, 2) := by decide +kernel
theorem dX7_isValid_14 : decode cX7_isValid 14 = .ok (.if_icmp .le 5, 3) := by decide +kernel
theorem dX7_isValid_17 : decode cX7_isValid 17 = .ok (.iconst 0, 1) := by decide +kernel
theorem dX7_isValid_18 : decode cX7_isValid 18 = .ok (.ireturn, 1) := by decide +kernel
theorem dX7_isValid_19 : decode cX7_isValid 19 = .ok (.iconst 0, 1) := by decide +kernel
theorem dX7_isValid_20 : decode cX7_isValid 20 = .ok (.istore_n 1, 1) := by decide +kernel
theorem dX7_isValid_21 : decode cX7_isValid 21 = .ok (.iconst 0, 1) := by decide +kernel
theorem dX7_isValid_22 : decode cX7_isValid 22 = .ok (.istore_n 2, 1) := by decide +kernel
theorem dX7_isValid_23 : decode cX7_isValid 23 = .ok (.iload_n 2, 1) := by decide +kernel
theorem dX7_isValid_24 : decode cX7_isValid 24 = .ok (.aload_n 0, 1) := by decide +kernel
theorem dX7_isValid_25 : decode cX7_isValid 25 = .ok (.getfield 15, 3) := by decide +kernel
theorem dX7_isValid_28 : decode cX7_isValid 28 = .ok (.if_icmp .ge 33, 3) := by decide +kernel
theorem dX7_isValid_31 : decode cX7_isValid 31 = .ok (.aload_n 0, 1) := by decide +kernel
theorem dX7_isValid_32 : decode cX7_isValid 32 = .ok (.iload_n 2, 1) := by decide +kernel
theorem dX7_isValid_33 : decode cX7_isValid 33 = .ok (.invokevirtual 19, 3) := by decide +kernel
theorem dX7_isValid_36 : decode cX7_isValid 36 = .ok (.istore_n 3, 1) := by decide +kernel
theorem dX7_isValid_37 : decode cX7_isValid 37 = .ok (.iload_n 3, 1) := by decide +kernel
theorem dX7_isValid_38 : decode cX7_isValid 38 = .ok (.invokestatic 27, 3) := by decide +kernel
theorem dX7_isValid_41 : decode cX7_isValid 41 = .ok (.ifCond .ne 5, 3) := by decide +kernel
theorem dX7_isValid_44 : decode cX7_isValid 44 = .ok (.iconst 0, 1) := by decide +kernel
theorem dX7_isValid_45 : decode cX7_isValid 45 = .ok (.ireturn, 1) := by decide +kernel
theorem dX7_isValid_46 : decode cX7_isValid 46 = .ok (.iload_n 3, 1) := by decide +kernel
theorem dX7_isValid_47 : decode cX7_isValid 47 = .ok (.bipush 124, 2) := by decide +kernel
theorem dX7_isValid_49 : decode cX7_isValid 49 = .ok (.if_icmp .ne 6, 3) := by decide +kernel
theorem dX7_isValid_52 : decode cX7_isValid 52 = .ok (.iinc 1 1, 3) := by decide +kernel
theorem dX7_isValid_55 : decode cX7_isValid 55 = .ok (.iinc 2 1, 3) := by decide +kernel
theorem dX7_isValid_58 : decode cX7_isValid 58 = .ok (.goto (-35), 3) := by decide +kernel
theorem dX7_isValid_61 : decode cX7_isValid 61 = .ok (.iload_n 1, 1) := by decide +kernel
theorem dX7_isValid_62 : decode cX7_isValid 62 = .ok (.iconst 1, 1) := by decide +kernel
theorem dX7_isValid_63 : decode cX7_isValid 63 = .ok (.if_icmp .gt 32, 3) := by decide +kernel
theorem dX7_isValid_66 : decode cX7_isValid 66 = .ok (.aload_n 0, 1) := by decide +kernel
theorem dX7_isValid_67 : decode cX7_isValid 67 = .ok (.iconst 0, 1) := by decide +kernel
theorem dX7_isValid_68 : decode cX7_isValid 68 = .ok (.invokevirtual 19, 3) := by decide +kernel
theorem dX7_isValid_71 : decode cX7_isValid 71 = .ok (.bipush 124, 2) := by decide +kernel
theorem dX7_isValid_73 : decode cX7_isValid 73 = .ok (.if_icmp .eq 22, 3) := by decide +kernel
theorem dX7_isValid_76 : decode cX7_isValid 76 = .ok (.aload_n 0, 1) := by decide +kernel
theorem dX7_isValid_77 : decode cX7_isValid 77 = .ok (.aload_n 0, 1) := by decide +kernel
theorem dX7_isValid_78 : decode cX7_isValid 78 = .ok (.getfield 15, 3) := by decide +kernel
theorem dX7_isValid_81 : decode cX7_isValid 81 = .ok (.iconst 1, 1) := by decide +kernel
theorem dX7_isValid_82 : decode cX7_isValid 82 = .ok (.isub, 1) := by decide +kernel
theorem dX7_isValid_83 : decode cX7_isValid 83 = .ok (.invokevirtual 19, 3) := by decide +kernel
theorem dX7_isValid_86 : decode cX7_isValid 86 = .ok (.bipush 124, 2) := by decide +kernel
theorem dX7_isValid_88 : decode cX7_isValid 88 = .ok (.if_icmp .eq 7, 3) := by decide +kernel
theorem dX7_isValid_91 : decode cX7_isValid 91 = .ok (.iconst 1, 1) := by decide +kernel
theorem dX7_isValid_92 : decode cX7_isValid 92 = .ok (.goto 4, 3) := by decide +kernel
theorem dX7_isValid_95 : decode cX7_isValid 95 = .ok (.iconst 0, 1) := by decide +kernel
theorem dX7_isValid_96 : decode cX7_isValid 96 = .ok (.ireturn, 1) := by decide +kernel
theorem dX8_init_0 : decode cX8_init 0 = .ok (.aload_n 0, 1) := by decide +kernel
theorem dX8_init_1 : decode cX8_init 1 = .ok (.invokespecial 3, 3) := by decide +kernel
theorem dX8_init_4 : decode cX8_init 4 = .ok (.aload_n 0, 1) := by decide +kernel
theorem dX8_init_5 : decode cX8_init 5 = .ok (.bipush 16, 2) := by decide +kernel
theorem dX8_init_7 : decode cX8_init 7 = .ok (.newarray .int, 2) := by decide +kernel
theorem dX8_init_9 : decode cX8_init 9 = .ok (.putfield 9, 3) := by decide +kernel
theorem dX8_init_12 : decode cX8_init 12 = .ok (.aload_n 0, 1) := by decide +kernel
theorem dX8_init_13 : decode cX8_init 13 = .ok (.bipush 16, 2) := by decide +kernel
theorem dX8_init_15 : decode cX8_init 15 = .ok (.newarray .int, 2) := by decide +kernel
theorem dX8_init_17 : decode cX8_init 17 = .ok (.putfield 15, 3) := by decide +kernel
theorem dX8_init_20 : decode cX8_init 20 = .ok (.aload_n 0, 1) := by decide +kernel
theorem dX8_init_21 : decode cX8_init 21 = .ok (.bipush 16, 2) := by decide +kernel
theorem dX8_init_23 : decode cX8_init 23 = .ok (.newarray .int, 2) := by decide +kernel
theorem dX8_init_25 : decode cX8_init 25 = .ok (.putfield 18, 3) := by decide +kernel
theorem dX8_init_28 : decode cX8_init 28 = .ok (.aload_n 0, 1) := by decide +kernel
theorem dX8_init_29 : decode cX8_init 29 = .ok (.bipush 16, 2) := by decide +kernel
theorem dX8_init_31 : decode cX8_init 31 = .ok (.newarray .int, 2) := by decide +kernel
theorem dX8_init_33 : decode cX8_init 33 = .ok (.putfield 21, 3) := by decide +kernel
theorem dX8_init_36 : decode cX8_init 36 = .ok (.aload_n 0, 1) := by decide +kernel
theorem dX8_init_37 : decode cX8_init 37 = .ok (.sipush 384, 3) := by decide +kernel
theorem dX8_init_40 : decode cX8_init 40 = .ok (.newarray .int, 2) := by decide +kernel
theorem dX8_init_42 : decode cX8_init 42 = .ok (.putfield 24, 3) := by decide +kernel
theorem dX8_init_45 : decode cX8_init 45 = .ok (.aload_n 0, 1) := by decide +kernel
theorem dX8_init_46 : decode cX8_init 46 = .ok (.iconst 0, 1) := by decide +kernel
theorem dX8_init_47 : decode cX8_init 47 = .ok (.putfield 27, 3) := by decide +kernel
theorem dX8_init_50 : decode cX8_init 50 = .ok (.return_, 1) := by decide +kernel
theorem dX8_copyFrom_0 : decode cX8_copyFrom 0 = .ok (.aload_n 1, 1) := by decide +kernel
theorem dX8_copyFrom_1 : decode cX8_copyFrom 1 = .ok (.getfield 9, 3) := by decide +kernel
theorem dX8_copyFrom_4 : decode cX8_copyFrom 4 = .ok (.iconst 0, 1) := by decide +kernel
theorem dX8_copyFrom_5 : decode cX8_copyFrom 5 = .ok (.aload_n 0, 1) := by decide +kernel
theorem dX8_copyFrom_6 : decode cX8_copyFrom 6 = .ok (.getfield 9, 3) := by decide +kernel
theorem dX8_copyFrom_9 : decode cX8_copyFrom 9 = .ok (.iconst 0, 1) := by decide +kernel
theorem dX8_copyFrom_10 : decode cX8_copyFrom 10 = .ok (.bipush 16, 2) := by decide +kernel
theorem dX8_copyFrom_12 : decode cX8_copyFrom 12 = .ok (.invokestatic 31, 3) := by decide +kernel
theorem dX8_copyFrom_15 : decode cX8_copyFrom 15 = .ok (.aload_n 1, 1) := by decide +kernel
theorem dX8_copyFrom_16 : decode cX8_copyFrom 16 = .ok (.getfield 15, 3) := by decide +kernel
theorem dX8_copyFrom_19 : decode cX8_copyFrom 19 = .ok (.iconst 0, 1) := by decide +kernel
theorem dX8_copyFrom_20 : decode cX8_copyFrom 20 = .ok (.aload_n 0, 1) := by decide +kernel
theorem dX8_copyFrom_21 : decode cX8_copyFrom 21 = .ok (.getfield 15, 3) := by decide +kernel
theorem dX8_copyFrom_24 : decode cX8_copyFrom 24 = .ok (.iconst 0, 1) := by decide +kernel
theorem dX8_copyFrom_25 : decode cX8_copyFrom 25 = .ok (.bipush 16, 2) := by decide +kernel
theorem dX8_copyFrom_27 : decode cX8_copyFrom 27 = .ok (.invokestatic 31, 3) := by decide +kernel
theorem dX8_copyFrom_30 : decode cX8_copyFrom 30 = .ok (.aload_n 1, 1) := by decide +kernel
theorem dX8_copyFrom_31 : decode cX8_copyFrom 31 = .ok (.getfield 18, 3) := by decide +kernel
theorem dX8_copyFrom_34 : decode cX8_copyFrom 34 = .ok (.iconst 0, 1) := by decide +kernel
theorem dX8_copyFrom_35 : decode cX8_copyFrom 35 = .ok (.aload_n 0, 1) := by decide +kernel
theorem dX8_copyFrom_36 : decode cX8_copyFrom 36 = .ok (.getfield 18, 3) := by decide +kernel
theorem dX8_copyFrom_39 : decode cX8_copyFrom 39 = .ok (.iconst 0, 1) := by decide +kernel
theorem dX8_copyFrom_40 : decode cX8_copyFrom 40 = .ok (.bipush 16, 2) := by decide +kernel
theorem dX8_copyFrom_42 : decode cX8_copyFrom 42 = .ok (.invokestatic 31, 3) := by decide +kernel
theorem dX8_copyFrom_45 : decode cX8_copyFrom 45 = .ok (.aload_n 1, 1) := by decide +kernel
theorem dX8_copyFrom_46 : decode cX8_copyFrom 46 = .ok (.getfield 21, 3) := by decide +kernel
theorem dX8_copyFrom_49 : decode cX8_copyFrom 49 = .ok (.iconst 0, 1) := by decide +kernel
theorem dX8_copyFrom_50 : decode cX8_copyFrom 50 = .ok (.aload_n 0, 1) := by decide +kernel
theorem dX8_copyFrom_51 : decode cX8_copyFrom 51 = .ok (.getfield 21, 3) := by decide +kernel
theorem dX8_copyFrom_54 : decode cX8_copyFrom 54 = .ok (.iconst 0, 1) := by decide +kernel
theorem dX8_copyFrom_55 : decode cX8_copyFrom 55 = .ok (.bipush 16, 2) := by decide +kernel
theorem dX8_copyFrom_57 : decode cX8_copyFrom 57 = .ok (.invokestatic 31, 3) := by decide +kernel
theorem dX8_copyFrom_60 : decode cX8_copyFrom 60 = .ok (.aload_n 1, 1) := by decide +kernel
theorem dX8_copyFrom_61 : decode cX8_copyFrom 61 = .ok (.getfield 24, 3) := by decide +kernel
theorem dX8_copyFrom_64 : decode cX8_copyFrom 64 = .ok (.iconst 0, 1) := by decide +kernel
theorem dX8_copyFrom_65 : decode cX8_copyFrom 65 = .ok (.aload_n 0, 1) := by decide +kernel
theorem dX8_copyFrom_66 : decode cX8_copyFrom 66 = .ok (.getfield 24, 3) := by decide +kernel
theorem dX8_copyFrom_69 : decode cX8_copyFrom 69 = .ok (.iconst 0, 1) := by decide +kernel
theorem dX8_copyFrom_70 : decode cX8_copyFrom 70 = .ok (.sipush 384, 3) := by decide +kernel
theorem dX8_copyFrom_73 : decode cX8_copyFrom 73 = .ok (.invokestatic 31, 3) := by decide +kernel
theorem dX8_copyFrom_76 : decode cX8_copyFrom 76 = .ok (.aload_n 0, 1) := by decide +kernel
theorem dX8_copyFrom_77 : decode cX8_copyFrom 77 = .ok (.aload_n 1, 1) := by decide +kernel
theorem dX8_copyFrom_78 : decode cX8_copyFrom 78 = .ok (.getfield 27, 3) := by decide +kernel
theorem dX8_copyFrom_81 : decode cX8_copyFrom 81 = .ok (.putfield 27, 3) := by decide +kernel
theorem dX8_copyFrom_84 : decode cX8_copyFrom 84 = .ok (.return_, 1) := by decide +kernel
theorem dX8_has_0 : decode cX8_has 0 = .ok (.iload_n 1, 1) := by decide +kernel
theorem dX8_has_1 : decode cX8_has 1 = .ok (.ifCond .lt 21, 3) := by decide +kernel
theorem dX8_has_4 : decode cX8_has 4 = .ok (.iload_n 1, 1) := by decide +kernel
theorem dX8_has_5 : decode cX8_has 5 = .ok (.aload_n 0, 1) := by decide +kernel
theorem dX8_has_6 : decode cX8_has 6 = .ok (.getfield 27, 3) := by decide +kernel
theorem dX8_has_9 : decode cX8_has 9 = .ok (.if_icmp .ge 13, 3) := by decide +kernel
theorem dX8_has_12 : decode cX8_has 12 = .ok (.iload_n 1, 1) := by decide +kernel
theorem dX8_has_13 : decode cX8_has 13 = .ok (.bipush 16, 2) := by decide +kernel
theorem dX8_has_15 : decode cX8_has 15 = .ok (.if_icmp .ge 7, 3) := by decide +kernel
theorem dX8_has_18 : decode cX8_has 18 = .ok (.iconst 1, 1) := by decide +kernel
theorem dX8_has_19 : decode cX8_has 19 = .ok (.goto 4, 3) := by decide +kernel
theorem dX8_has_22 : decode cX8_has 22 = .ok (.iconst 0, 1) := by decide +kernel
theorem dX8_has_23 : decode cX8_has 23 = .ok (.ireturn, 1) := by decide +kernel
theorem dX8_first_0 : decode cX8_first 0 = .ok (.aload_n 0, 1) := by decide +kernel
theorem dX8_first_1 : decode cX8_first 1 = .ok (.iload_n 1, 1) := by decide +kernel
theorem dX8_first_2 : decode cX8_first 2 = .ok (.invokevirtual 37, 3) := by decide +kernel
theorem dX8_first_5 : decode cX8_first 5 = .ok (.ifCond .eq 12, 3) := by decide +kernel
theorem dX8_first_8 : decode cX8_first 8 = .ok (.aload_n 0, 1) := by decide +kernel
theorem dX8_first_9 : decode cX8_first 9 = .ok (.getfield 9, 3) := by decide +kernel
theorem dX8_first_12 : decode cX8_first 12 = .ok (.iload_n 1, 1) := by decide +kernel
theorem dX8_first_13 : decode cX8_first 13 = .ok (.iaload, 1) := by decide +kernel
theorem dX8_first_14 : decode cX8_first 14 = .ok (.goto 4, 3) := by decide +kernel
theorem dX8_first_17 : decode cX8_first 17 = .ok (.iconst 0, 1) := by decide +kernel
theorem dX8_first_18 : decode cX8_first 18 = .ok (.ireturn, 1) := by decide +kernel
theorem dX8_end_0 : decode cX8_end 0 = .ok (.aload_n 0, 1) := by decide +kernel
theorem dX8_end_1 : decode cX8_end 1 = .ok (.iload_n 1, 1) := by decide +kernel
theorem dX8_end_2 : decode cX8_end 2 = .ok (.invokevirtual 37, 3) := by decide +kernel
theorem dX8_end_5 : decode cX8_end 5 = .ok (.ifCond .eq 12, 3) := by decide +kernel
theorem dX8_end_8 : decode cX8_end 8 = .ok (.aload_n 0, 1) := by decide +kernel
theorem dX8_end_9 : decode cX8_end 9 = .ok (.getfield 15, 3) := by decide +kernel
theorem dX8_end_12 : decode cX8_end 12 = .ok (.iload_n 1, 1) := by decide +kernel
theorem dX8_end_13 : decode cX8_end 13 = .ok (.iaload, 1) := by decide +kernel
theorem dX8_end_14 : decode cX8_end 14 = .ok (.goto 4, 3) := by decide +kernel
theorem dX8_end_17 : decode cX8_end 17 = .ok (.iconst 0, 1) := by decide +kernel
theorem dX8_end_18 : decode cX8_end 18 = .ok (.ireturn, 1) := by decide +kernel
theorem dX8_kind_0 : decode cX8_kind 0 = .ok (.aload_n 0, 1) := by decide +kernel
theorem dX8_kind_1 : decode cX8_kind 1 = .ok (.iload_n 1, 1) := by decide +kernel
theorem dX8_kind_2 : decode cX8_kind 2 = .ok (.invokevirtual 37, 3) := by decide +kernel
theorem dX8_kind_5 : decode cX8_kind 5 = .ok (.ifCond .eq 12, 3) := by decide +kernel
theorem dX8_kind_8 : decode cX8_kind 8 = .ok (.aload_n 0, 1) := by decide +kernel
theorem dX8_kind_9 : decode cX8_kind 9 = .ok (.getfield 18, 3) := by decide +kernel
theorem dX8_kind_12 : decode cX8_kind 12 = .ok (.iload_n 1, 1) := by decide +kernel
theorem dX8_kind_13 : decode cX8_kind 13 = .ok (.iaload, 1) := by decide +kernel
theorem dX8_kind_14 : decode cX8_kind 14 = .ok (.goto 4, 3) := by decide +kernel
theorem dX8_kind_17 : decode cX8_kind 17 = .ok (.iconst 0, 1) := by decide +kernel
theorem dX8_kind_18 : decode cX8_kind 18 = .ok (.ireturn, 1) := by decide +kernel
theorem dX8_size_0 : decode cX8_size 0 = .ok (.aload_n 0, 1) := by decide +kernel
theorem dX8_size_1 : decode cX8_size 1 = .ok (.iload_n 1, 1) := by decide +kernel
theorem dX8_size_2 : decode cX8_size 2 = .ok (.invokevirtual 37, 3) := by decide +kernel
theorem dX8_size_5 : decode cX8_size 5 = .ok (.ifCond .eq 12, 3) := by decide +kernel
theorem dX8_size_8 : decode cX8_size 8 = .ok (.aload_n 0, 1) := by decide +kernel
theorem dX8_size_9 : decode cX8_size 9 = .ok (.getfield 21, 3) := by decide +kernel
theorem dX8_size_12 : decode cX8_size 12 = .ok (.iload_n 1, 1) := by decide +kernel
theorem dX8_size_13 : decode cX8_size 13 = .ok (.iaload, 1) := by decide +kernel
theorem dX8_size_14 : decode cX8_size 14 = .ok (.goto 4, 3) := by decide +kernel
theorem dX8_size_17 : decode cX8_size 17 = .ok (.iconst 0, 1) := by decide +kernel
theorem dX8_size_18 : decode cX8_size 18 = .ok (.ireturn, 1) := by decide +kernel
theorem dX8_frames_0 : decode cX8_frames 0 = .ok (.aload_n 0, 1) := by decide +kernel
theorem dX8_frames_1 : decode cX8_frames 1 = .ok (.iload_n 1, 1) := by decide +kernel
theorem dX8_frames_2 : decode cX8_frames 2 = .ok (.invokevirtual 41, 3) := by decide +kernel
theorem dX8_frames_5 : decode cX8_frames 5 = .ok (.aload_n 0, 1) := by decide +kernel
theorem dX8_frames_6 : decode cX8_frames 6 = .ok (.iload_n 1, 1) := by decide +kernel
theorem dX8_frames_7 : decode cX8_frames 7 = .ok (.invokevirtual 45, 3) := by decide +kernel
theorem dX8_frames_10 : decode cX8_frames 10 = .ok (.isub, 1) := by decide +kernel
theorem dX8_frames_11 : decode cX8_frames 11 = .ok (.ireturn, 1) := by decide +kernel
theorem dX8_signAt_0 : decode cX8_signAt 0 = .ok (.aload_n 0, 1) := by decide +kernel
theorem dX8_signAt_1 : decode cX8_signAt 1 = .ok (.iload_n 1, 1) := by decide +kernel
theorem dX8_signAt_2 : decode cX8_signAt 2 = .ok (.invokevirtual 37, 3) := by decide +kernel
theorem dX8_signAt_5 : decode cX8_signAt 5 = .ok (.ifCond .eq 23, 3) := by decide +kernel
theorem dX8_signAt_8 : decode cX8_signAt 8 = .ok (.iload_n 2, 1) := by decide +kernel
theorem dX8_signAt_9 : decode cX8_signAt 9 = .ok (.ifCond .lt 19, 3) := by decide +kernel
theorem dX8_signAt_12 : decode cX8_signAt 12 = .ok (.iload_n 2, 1) := by decide +kernel
theorem dX8_signAt_13 : decode cX8_signAt 13 = .ok (.aload_n 0, 1) := by decide +kernel
theorem dX8_signAt_14 : decode cX8_signAt 14 = .ok (.getfield 21, 3) := by decide +kernel
theorem dX8_signAt_17 : decode cX8_signAt 17 = .ok (.iload_n 1, 1) := by decide +kernel
theorem dX8_signAt_18 : decode cX8_signAt 18 = .ok (.iaload, 1) := by decide +kernel
theorem dX8_signAt_19 : decode cX8_signAt 19 = .ok (.if_icmp .ge 9, 3) := by decide +kernel
theorem dX8_signAt_22 : decode cX8_signAt 22 = .ok (.iload_n 2, 1) := by decide +kernel
theorem dX8_signAt_23 : decode cX8_signAt 23 = .ok (.bipush 24, 2) := by decide +kernel
theorem dX8_signAt_25 : decode cX8_signAt 25 = .ok (.if_icmp .lt 5, 3) := by decide +kernel
theorem dX8_signAt_28 : decode cX8_signAt 28 = .ok (.iconst (-1), 1) := by decide +kernel
theorem dX8_signAt_29 : decode cX8_signAt 29 = .ok (.ireturn, 1) := by decide +kernel
theorem dX8_signAt_30 : decode cX8_signAt 30 = .ok (.aload_n 0, 1) := by decide +kernel
theorem dX8_signAt_31 : decode cX8_signAt 31 = .ok (.getfield 24, 3) := by decide +kernel
theorem dX8_signAt_34 : decode cX8_signAt 34 = .ok (.iload_n 1, 1) := by decide +kernel
theorem dX8_signAt_35 : decode cX8_signAt 35 = .ok (.bipush 24, 2) := by decide +kernel
theorem dX8_signAt_37 : decode cX8_signAt 37 = .ok (.imul, 1) := by decide +kernel
theorem dX8_signAt_38 : decode cX8_signAt 38 = .ok (.iload_n 2, 1) := by decide +kernel
theorem dX8_signAt_39 : decode cX8_signAt 39 = .ok (.iadd, 1) := by decide +kernel
theorem dX8_signAt_40 : decode cX8_signAt 40 = .ok (.iaload, 1) := by decide +kernel
theorem dX8_signAt_41 : decode cX8_signAt 41 = .ok (.ireturn, 1) := by decide +kernel
theorem dX8_load_0 : decode cX8_load 0 = .ok (.aload_n 0, 1) := by decide +kernel
theorem dX8_load_1 : decode cX8_load 1 = .ok (.iload_n 1, 1) := by decide +kernel
theorem dX8_load_2 : decode cX8_load 2 = .ok (.iconst 0, 1) := by decide +kernel
theorem dX8_load_3 : decode cX8_load 3 = .ok (.aload_n 0, 1) := by decide +kernel
theorem dX8_load_4 : decode cX8_load 4 = .ok (.iload_n 1, 1) := by decide +kernel
theorem dX8_load_5 : decode cX8_load 5 = .ok (.invokevirtual 48, 3) := by decide +kernel
theorem dX8_load_8 : decode cX8_load 8 = .ok (.invokevirtual 51, 3) := by decide +kernel
theorem dX8_load_11 : decode cX8_load 11 = .ok (.ireturn, 1) := by decide +kernel
theorem dX8_loadBetween_0 : decode cX8_loadBetween 0 = .ok (.iconst 0, 1) := by decide +kernel
theorem dX8_loadBetween_1 : decode cX8_loadBetween 1 = .ok (.istore 4, 2) := by decide +kernel
theorem dX8_loadBetween_3 : decode cX8_loadBetween 3 = .ok (.iload_n 2, 1) := by decide +kernel
theorem dX8_loadBetween_4 : decode cX8_loadBetween 4 = .ok (.istore 5, 2) := by decide +kernel
theorem dX8_loadBetween_6 : decode cX8_loadBetween 6 = .ok (.iload 5, 2) := by decide +kernel
theorem dX8_loadBetween_8 : decode cX8_loadBetween 8 = .ok (.iload_n 3, 1) := by decide +kernel
theorem dX8_loadBetween_9 : decode cX8_loadBetween 9 = .ok (.if_icmp .ge 24, 3) := by decide +kernel
theorem dX8_loadBetween_12 : decode cX8_loadBetween 12 = .ok (.aload_n 0, 1) := by decide +kernel
theorem dX8_loadBetween_13 : decode cX8_loadBetween 13 = .ok (.iload_n 1, 1) := by decide +kernel
theorem dX8_loadBetween_14 : decode cX8_loadBetween 14 = .ok (.iload 5, 2) := by decide +kernel
theorem dX8_loadBetween_16 : decode cX8_loadBetween 16 = .ok (.invokevirtual 55, 3) := by decide +kernel
theorem dX8_loadBetween_19 : decode cX8_loadBetween 19 = .ok (.bipush 124, 2) := by decide +kernel
theorem dX8_loadBetween_21 : decode cX8_loadBetween 21 = .ok (.if_icmp .eq 6, 3) := by decide +kernel
theorem dX8_loadBetween_24 : decode cX8_loadBetween 24 = .ok (.iinc 4 1, 3) := by decide +kernel
theorem dX8_loadBetween_27 : decode cX8_loadBetween 27 = .ok (.iinc 5 1, 3) := by decide +kernel
theorem dX8_loadBetween_30 : decode cX8_loadBetween 30 = .ok (.goto (-24), 3) := by decide +kernel
theorem dX8_loadBetween_33 : decode cX8_loadBetween 33 = .ok (.iload 4, 2) := by decide +kernel
theorem dX8_loadBetween_35 : decode cX8_loadBetween 35 = .ok (.ireturn, 1) := by decide +kernel
theorem dX8_longestLine_0 : decode cX8_longestLine 0 = .ok (.iconst 0, 1) := by decide +kernel
theorem dX8_longestLine_1 : decode cX8_longestLine 1 = .ok (.istore_n 2, 1) := by decide +kernel
theorem dX8_longestLine_2 : decode cX8_longestLine 2 = .ok (.iconst 0, 1) := by decide +kernel
theorem dX8_longestLine_3 : decode cX8_longestLine 3 = .ok (.istore_n 3, 1) := by decide +kernel
theorem dX8_longestLine_4 : decode cX8_longestLine 4 = .ok (.iconst 0, 1) := by decide +kernel
theorem dX8_longestLine_5 : decode cX8_longestLine 5 = .ok (.istore 4, 2) := by decide +kernel
theorem dX8_longestLine_7 : decode cX8_longestLine 7 = .ok (.iload 4, 2) := by decide +kernel
theorem dX8_longestLine_9 : decode cX8_longestLine 9 = .ok (.aload_n 0, 1) := by decide +kernel
theorem dX8_longestLine_10 : decode cX8_longestLine 10 = .ok (.iload_n 1, 1) := by decide +kernel
theorem dX8_longestLine_11 : decode cX8_longestLine 11 = .ok (.invokevirtual 48, 3) := by decide +kernel
theorem dX8_longestLine_14 : decode cX8_longestLine 14 = .ok (.if_icmp .ge 35, 3) := by decide +kernel
theorem dX8_longestLine_17 : decode cX8_longestLine 17 = .ok (.aload_n 0, 1) := by decide +kernel
theorem dX8_longestLine_18 : decode cX8_longestLine 18 = .ok (.iload_n 1, 1) := by decide +kernel
theorem dX8_longestLine_19 : decode cX8_longestLine 19 = .ok (.iload 4, 2) := by decide +kernel
theorem dX8_longestLine_21 : decode cX8_longestLine 21 = .ok (.invokevirtual 55, 3) := by decide +kernel
theorem dX8_longestLine_24 : decode cX8_longestLine 24 = .ok (.bipush 124, 2) := by decide +kernel
theorem dX8_longestLine_26 : decode cX8_longestLine 26 = .ok (.if_icmp .ne 7, 3) := by decide +kernel
theorem dX8_longestLine_29 : decode cX8_longestLine 29 = .ok (.iconst 0, 1) := by decide +kernel
theorem dX8_longestLine_30 : decode cX8_longestLine 30 = .ok (.goto 6, 3) := by decide +kernel
theorem dX8_longestLine_33 : decode cX8_longestLine 33 = .ok (.iload_n 3, 1) := by decide +kernel
theorem dX8_longestLine_34 : decode cX8_longestLine 34 = .ok (.iconst 1, 1) := by decide +kernel
theorem dX8_longestLine_35 : decode cX8_longestLine 35 = .ok (.iadd, 1) := by decide +kernel
theorem dX8_longestLine_36 : decode cX8_longestLine 36 = .ok (.istore_n 3, 1) := by decide +kernel
theorem dX8_longestLine_37 : decode cX8_longestLine 37 = .ok (.iload_n 2, 1) := by decide +kernel
theorem dX8_longestLine_38 : decode cX8_longestLine 38 = .ok (.iload_n 3, 1) := by decide +kernel
theorem dX8_longestLine_39 : decode cX8_longestLine 39 = .ok (.invokestatic 59, 3) := by decide +kernel
theorem dX8_longestLine_42 : decode cX8_longestLine 42 = .ok (.istore_n 2, 1) := by decide +kernel
theorem dX8_longestLine_43 : decode cX8_longestLine 43 = .ok (.iinc 4 1, 3) := by decide +kernel
theorem dX8_longestLine_46 : decode cX8_longestLine 46 = .ok (.goto (-39), 3) := by decide +kernel
theorem dX8_longestLine_49 : decode cX8_longestLine 49 = .ok (.iload_n 2, 1) := by decide +kernel
theorem dX8_longestLine_50 : decode cX8_longestLine 50 = .ok (.ireturn, 1) := by decide +kernel
theorem dX8_gapBefore_0 : decode cX8_gapBefore 0 = .ok (.aload_n 0, 1) := by decide +kernel
theorem dX8_gapBefore_1 : decode cX8_gapBefore 1 = .ok (.iload_n 1, 1) := by decide +kernel
theorem dX8_gapBefore_2 : decode cX8_gapBefore 2 = .ok (.iconst 1, 1) := by decide +kernel
theorem dX8_gapBefore_3 : decode cX8_gapBefore 3 = .ok (.isub, 1) := by decide +kernel
theorem dX8_gapBefore_4 : decode cX8_gapBefore 4 = .ok (.invokevirtual 37, 3) := by decide +kernel
theorem dX8_gapBefore_7 : decode cX8_gapBefore 7 = .ok (.ifCond .eq 19, 3) := by decide +kernel
theorem dX8_gapBefore_10 : decode cX8_gapBefore 10 = .ok (.aload_n 0, 1) := by decide +kernel
theorem dX8_gapBefore_11 : decode cX8_gapBefore 11 = .ok (.iload_n 1, 1) := by decide +kernel
theorem dX8_gapBefore_12 : decode cX8_gapBefore 12 = .ok (.invokevirtual 45, 3) := by decide +kernel
theorem dX8_gapBefore_15 : decode cX8_gapBefore 15 = .ok (.aload_n 0, 1) := by decide +kernel
theorem dX8_gapBefore_16 : decode cX8_gapBefore 16 = .ok (.iload_n 1, 1) := by decide +kernel
theorem dX8_gapBefore_17 : decode cX8_gapBefore 17 = .ok (.iconst 1, 1) := by decide +kernel
theorem dX8_gapBefore_18 : decode cX8_gapBefore 18 = .ok (.isub, 1) := by decide +kernel
theorem dX8_gapBefore_19 : decode cX8_gapBefore 19 = .ok (.invokevirtual 41, 3) := by decide +kernel
theorem dX8_gapBefore_22 : decode cX8_gapBefore 22 = .ok (.isub, 1) := by decide +kernel
theorem dX8_gapBefore_23 : decode cX8_gapBefore 23 = .ok (.goto 4, 3) := by decide +kernel
theorem dX8_gapBefore_26 : decode cX8_gapBefore 26 = .ok (.iconst (-1), 1) := by decide +kernel
theorem dX8_gapBefore_27 : decode cX8_gapBefore 27 = .ok (.ireturn, 1) := by decide +kernel
theorem dX8_shared_0 : decode cX8_shared 0 = .ok (.aload_n 0, 1) := by decide +kernel
theorem dX8_shared_1 : decode cX8_shared 1 = .ok (.iload_n 1, 1) := by decide +kernel
theorem dX8_shared_2 : decode cX8_shared 2 = .ok (.invokevirtual 37, 3) := by decide +kernel
theorem dX8_shared_5 : decode cX8_shared 5 = .ok (.ifCond .ne 5, 3) := by decide +kernel
theorem dX8_shared_8 : decode cX8_shared 8 = .ok (.iconst 0, 1) := by decide +kernel
theorem dX8_shared_9 : decode cX8_shared 9 = .ok (.ireturn, 1) := by decide +kernel
theorem dX8_shared_10 : decode cX8_shared 10 = .ok (.iconst 0, 1) := by decide +kernel
theorem dX8_shared_11 : decode cX8_shared 11 = .ok (.iload_n 3, 1) := by decide +kernel
theorem dX8_shared_12 : decode cX8_shared 12 = .ok (.aload_n 0, 1) := by decide +kernel
theorem dX8_shared_13 : decode cX8_shared 13 = .ok (.getfield 15, 3) := by decide +kernel
theorem dX8_shared_16 : decode cX8_shared 16 = .ok (.iload_n 1, 1) := by decide +kernel
theorem dX8_shared_17 : decode cX8_shared 17 = .ok (.iaload, 1) := by decide +kernel
theorem dX8_shared_18 : decode cX8_shared 18 = .ok (.invokestatic 64, 3) := by decide +kernel
theorem dX8_shared_21 : decode cX8_shared 21 = .ok (.iload_n 2, 1) := by decide +kernel
theorem dX8_shared_22 : decode cX8_shared 22 = .ok (.aload_n 0, 1) := by decide +kernel
theorem dX8_shared_23 : decode cX8_shared 23 = .ok (.getfield 9, 3) := by decide +kernel
theorem dX8_shared_26 : decode cX8_shared 26 = .ok (.iload_n 1, 1) := by decide +kernel
theorem dX8_shared_27 : decode cX8_shared 27 = .ok (.iaload, 1) := by decide +kernel
theorem dX8_shared_28 : decode cX8_shared 28 = .ok (.invokestatic 59, 3) := by decide +kernel
theorem dX8_shared_31 : decode cX8_shared 31 = .ok (.isub, 1) := by decide +kernel
theorem dX8_shared_32 : decode cX8_shared 32 = .ok (.invokestatic 59, 3) := by decide +kernel
theorem dX8_shared_35 : decode cX8_shared 35 = .ok (.ireturn, 1) := by decide +kernel
theorem dX8_sharesWithOthers_0 : decode cX8_sharesWithOthers 0 = .ok (.iconst 0, 1) := by decide +kernel
theorem dX8_sharesWithOthers_1 : decode cX8_sharesWithOthers 1 = .ok (.istore 4, 2) := by decide +kernel
theorem dX8_sharesWithOthers_3 : decode cX8_sharesWithOthers 3 = .ok (.iload 4, 2) := by decide +kernel
theorem dX8_sharesWithOthers_5 : decode cX8_sharesWithOthers 5 = .ok (.aload_n 0, 1) := by decide +kernel
theorem dX8_sharesWithOthers_6 : decode cX8_sharesWithOthers 6 = .ok (.getfield 27, 3) := by decide +kernel
theorem dX8_sharesWithOthers_9 : decode cX8_sharesWithOthers 9 = .ok (.if_icmp .ge 28, 3) := by decide +kernel
theorem dX8_sharesWithOthers_12 : decode cX8_sharesWithOthers 12 = .ok (.iload 4, 2) := by decide +kernel
theorem dX8_sharesWithOthers_14 : decode cX8_sharesWithOthers 14 = .ok (.iload_n 1, 1) := by decide +kernel
theorem dX8_sharesWithOthers_15 : decode cX8_sharesWithOthers 15 = .ok (.if_icmp .eq 16, 3) := by decide +kernel
theorem dX8_sharesWithOthers_18 : decode cX8_sharesWithOthers 18 = .ok (.aload_n 0, 1) := by decide +kernel
theorem dX8_sharesWithOthers_19 : decode cX8_sharesWithOthers 19 = .ok (.iload 4, 2) := by decide +kernel
theorem dX8_sharesWithOthers_21 : decode cX8_sharesWithOthers 21 = .ok (.iload_n 2, 1) := by decide +kernel
theorem dX8_sharesWithOthers_22 : decode cX8_sharesWithOthers 22 = .ok (.iload_n 3, 1) := by decide +kernel
theorem dX8_sharesWithOthers_23 : decode cX8_sharesWithOthers 23 = .ok (.invokevirtual 67, 3) := by decide +kernel
theorem dX8_sharesWithOthers_26 : decode cX8_sharesWithOthers 26 = .ok (.ifCond .le 5, 3) := by decide +kernel
theorem dX8_sharesWithOthers_29 : decode cX8_sharesWithOthers 29 = .ok (.iconst 1, 1) := by decide +kernel
theorem dX8_sharesWithOthers_30 : decode cX8_sharesWithOthers 30 = .ok (.ireturn, 1) := by decide +kernel
theorem dX8_sharesWithOthers_31 : decode cX8_sharesWithOthers 31 = .ok (.iinc 4 1, 3) := by decide +kernel
theorem dX8_sharesWithOthers_34 : decode cX8_sharesWithOthers 34 = .ok (.goto (-31), 3) := by decide +kernel
theorem dX8_sharesWithOthers_37 : decode cX8_sharesWithOthers 37 = .ok (.iconst 0, 1) := by decide +kernel
theorem dX8_sharesWithOthers_38 : decode cX8_sharesWithOthers 38 = .ok (.ireturn, 1) := by decide +kernel
theorem dX8_captionOn_0 : decode cX8_captionOn 0 = .ok (.iconst 0, 1) := by decide +kernel
theorem dX8_captionOn_1 : decode cX8_captionOn 1 = .ok (.istore_n 2, 1) := by decide +kernel
theorem dX8_captionOn_2 : decode cX8_captionOn 2 = .ok (.iload_n 2, 1) := by decide +kernel
theorem dX8_captionOn_3 : decode cX8_captionOn 3 = .ok (.aload_n 0, 1) := by decide +kernel
theorem dX8_captionOn_4 : decode cX8_captionOn 4 = .ok (.getfield 27, 3) := by decide +kernel
theorem dX8_captionOn_7 : decode cX8_captionOn 7 = .ok (.if_icmp .ge 29, 3) := by decide +kernel
theorem dX8_captionOn_10 : decode cX8_captionOn 10 = .ok (.aload_n 0, 1) := by decide +kernel
theorem dX8_captionOn_11 : decode cX8_captionOn 11 = .ok (.iload_n 2, 1) := by decide +kernel
theorem dX8_captionOn_12 : decode cX8_captionOn 12 = .ok (.invokevirtual 45, 3) := by decide +kernel
theorem dX8_captionOn_15 : decode cX8_captionOn 15 = .ok (.iload_n 1, 1) := by decide +kernel
theorem dX8_captionOn_16 : decode cX8_captionOn 16 = .ok (.if_icmp .gt 14, 3) := by decide +kernel
theorem dX8_captionOn_19 : decode cX8_captionOn 19 = .ok (.iload_n 1, 1) := by decide +kernel
theorem dX8_captionOn_20 : decode cX8_captionOn 20 = .ok (.aload_n 0, 1) := by decide +kernel
theorem dX8_captionOn_21 : decode cX8_captionOn 21 = .ok (.iload_n 2, 1) := by decide +kernel
theorem dX8_captionOn_22 : decode cX8_captionOn 22 = .ok (.invokevirtual 41, 3) := by decide +kernel
theorem dX8_captionOn_25 : decode cX8_captionOn 25 = .ok (.if_icmp .ge 5, 3) := by decide +kernel
theorem dX8_captionOn_28 : decode cX8_captionOn 28 = .ok (.iload_n 2, 1) := by decide +kernel
theorem dX8_captionOn_29 : decode cX8_captionOn 29 = .ok (.ireturn, 1) := by decide +kernel
theorem dX8_captionOn_30 : decode cX8_captionOn 30 = .ok (.iinc 2 1, 3) := by decide +kernel
theorem dX8_captionOn_33 : decode cX8_captionOn 33 = .ok (.goto (-31), 3) := by decide +kernel
theorem dX8_captionOn_36 : decode cX8_captionOn 36 = .ok (.iconst (-1), 1) := by decide +kernel
theorem dX8_captionOn_37 : decode cX8_captionOn 37 = .ok (.ireturn, 1) := by decide +kernel
theorem dX8_allFrames_0 : decode cX8_allFrames 0 = .ok (.iconst 0, 1) := by decide +kernel
theorem dX8_allFrames_1 : decode cX8_allFrames 1 = .ok (.istore_n 1, 1) := by decide +kernel
theorem dX8_allFrames_2 : decode cX8_allFrames 2 = .ok (.iconst 0, 1) := by decide +kernel
theorem dX8_allFrames_3 : decode cX8_allFrames 3 = .ok (.istore_n 2, 1) := by decide +kernel
theorem dX8_allFrames_4 : decode cX8_allFrames 4 = .ok (.iload_n 2, 1) := by decide +kernel
theorem dX8_allFrames_5 : decode cX8_allFrames 5 = .ok (.aload_n 0, 1) := by decide +kernel
theorem dX8_allFrames_6 : decode cX8_allFrames 6 = .ok (.getfield 27, 3) := by decide +kernel
theorem dX8_allFrames_9 : decode cX8_allFrames 9 = .ok (.if_icmp .ge 17, 3) := by decide +kernel
theorem dX8_allFrames_12 : decode cX8_allFrames 12 = .ok (.iload_n 1, 1) := by decide +kernel
theorem dX8_allFrames_13 : decode cX8_allFrames 13 = .ok (.aload_n 0, 1) := by decide +kernel
theorem dX8_allFrames_14 : decode cX8_allFrames 14 = .ok (.iload_n 2, 1) := by decide +kernel
theorem dX8_allFrames_15 : decode cX8_allFrames 15 = .ok (.invokevirtual 70, 3) := by decide +kernel
theorem dX8_allFrames_18 : decode cX8_allFrames 18 = .ok (.iadd, 1) := by decide +kernel
theorem dX8_allFrames_19 : decode cX8_allFrames 19 = .ok (.istore_n 1, 1) := by decide +kernel
theorem dX8_allFrames_20 : decode cX8_allFrames 20 = .ok (.iinc 2 1, 3) := by decide +kernel
theorem dX8_allFrames_23 : decode cX8_allFrames 23 = .ok (.goto (-19), 3) := by decide +kernel
theorem dX8_allFrames_26 : decode cX8_allFrames 26 = .ok (.iload_n 1, 1) := by decide +kernel
theorem dX8_allFrames_27 : decode cX8_allFrames 27 = .ok (.ireturn, 1) := by decide +kernel
theorem dX8_allLoad_0 : decode cX8_allLoad 0 = .ok (.iconst 0, 1) := by decide +kernel
theorem dX8_allLoad_1 : decode cX8_allLoad 1 = .ok (.istore_n 1, 1) := by decide +kernel
theorem dX8_allLoad_2 : decode cX8_allLoad 2 = .ok (.iconst 0, 1) := by decide +kernel
theorem dX8_allLoad_3 : decode cX8_allLoad 3 = .ok (.istore_n 2, 1) := by decide +kernel
theorem dX8_allLoad_4 : decode cX8_allLoad 4 = .ok (.iload_n 2, 1) := by decide +kernel
theorem dX8_allLoad_5 : decode cX8_allLoad 5 = .ok (.aload_n 0, 1) := by decide +kernel
theorem dX8_allLoad_6 : decode cX8_allLoad 6 = .ok (.getfield 27, 3) := by decide +kernel
theorem dX8_allLoad_9 : decode cX8_allLoad 9 = .ok (.if_icmp .ge 17, 3) := by decide +kernel
theorem dX8_allLoad_12 : decode cX8_allLoad 12 = .ok (.iload_n 1, 1) := by decide +kernel
theorem dX8_allLoad_13 : decode cX8_allLoad 13 = .ok (.aload_n 0, 1) := by decide +kernel
theorem dX8_allLoad_14 : decode cX8_allLoad 14 = .ok (.iload_n 2, 1) := by decide +kernel
theorem dX8_allLoad_15 : decode cX8_allLoad 15 = .ok (.invokevirtual 73, 3) := by decide +kernel
theorem dX8_allLoad_18 : decode cX8_allLoad 18 = .ok (.iadd, 1) := by decide +kernel
theorem dX8_allLoad_19 : decode cX8_allLoad 19 = .ok (.istore_n 1, 1) := by decide +kernel
theorem dX8_allLoad_20 : decode cX8_allLoad 20 = .ok (.iinc 2 1, 3) := by decide +kernel
theorem dX8_allLoad_23 : decode cX8_allLoad 23 = .ok (.goto (-19), 3) := by decide +kernel
theorem dX8_allLoad_26 : decode cX8_allLoad 26 = .ok (.iload_n 1, 1) := by decide +kernel
theorem dX8_allLoad_27 : decode cX8_allLoad 27 = .ok (.ireturn, 1) := by decide +kernel
theorem dX8_densest_0 : decode cX8_densest 0 = .ok (.iconst (-1), 1) := by decide +kernel
theorem dX8_densest_1 : decode cX8_densest 1 = .ok (.istore_n 1, 1) := by decide +kernel
theorem dX8_densest_2 : decode cX8_densest 2 = .ok (.iconst 0, 1) := by decide +kernel
theorem dX8_densest_3 : decode cX8_densest 3 = .ok (.istore_n 2, 1) := by decide +kernel
theorem dX8_densest_4 : decode cX8_densest 4 = .ok (.iload_n 2, 1) := by decide +kernel
theorem dX8_densest_5 : decode cX8_densest 5 = .ok (.aload_n 0, 1) := by decide +kernel
theorem dX8_densest_6 : decode cX8_densest 6 = .ok (.getfield 27, 3) := by decide +kernel
theorem dX8_densest_9 : decode cX8_densest 9 = .ok (.if_icmp .ge 41, 3) := by decide +kernel
theorem dX8_densest_12 : decode cX8_densest 12 = .ok (.iload_n 1, 1) := by decide +kernel
theorem dX8_densest_13 : decode cX8_densest 13 = .ok (.iconst (-1), 1) := by decide +kernel
theorem dX8_densest_14 : decode cX8_densest 14 = .ok (.if_icmp .eq 28, 3) := by decide +kernel
theorem dX8_densest_17 : decode cX8_densest 17 = .ok (.aload_n 0, 1) := by decide +kernel
theorem dX8_densest_18 : decode cX8_densest 18 = .ok (.iload_n 2, 1) := by decide +kernel
theorem dX8_densest_19 : decode cX8_densest 19 = .ok (.invokevirtual 73, 3) := by decide +kernel
theorem dX8_densest_22 : decode cX8_densest 22 = .ok (.aload_n 0, 1) := by decide +kernel
theorem dX8_densest_23 : decode cX8_densest 23 = .ok (.iload_n 1, 1) := by decide +kernel
theorem dX8_densest_24 : decode cX8_densest 24 = .ok (.invokevirtual 70, 3) := by decide +kernel
theorem dX8_densest_27 : decode cX8_densest 27 = .ok (.imul, 1) := by decide +kernel
theorem dX8_densest_28 : decode cX8_densest 28 = .ok (.aload_n 0, 1) := by decide +kernel
theorem dX8_densest_29 : decode cX8_densest 29 = .ok (.iload_n 1, 1) := by decide +kernel
theorem dX8_densest_30 : decode cX8_densest 30 = .ok (.invokevirtual 73, 3) := by decide +kernel
theorem dX8_densest_33 : decode cX8_densest 33 = .ok (.aload_n 0, 1) := by decide +kernel
theorem dX8_densest_34 : decode cX8_densest 34 = .ok (.iload_n 2, 1) := by decide +kernel
theorem dX8_densest_35 : decode cX8_densest 35 = .ok (.invokevirtual 70, 3) := by decide +kernel
theorem dX8_densest_38 : decode cX8_densest 38 = .ok (.imul, 1) := by decide +kernel
theorem dX8_densest_39 : decode cX8_densest 39 = .ok (.if_icmp .le 5, 3) := by decide +kernel
theorem dX8_densest_42 : decode cX8_densest 42 = .ok (.iload_n 2, 1) := by decide +kernel
theorem dX8_densest_43 : decode cX8_densest 43 = .ok (.istore_n 1, 1) := by decide +kernel
theorem dX8_densest_44 : decode cX8_densest 44 = .ok (.iinc 2 1, 3) := by decide +kernel
theorem dX8_densest_47 : decode cX8_densest 47 = .ok (.goto (-43), 3) := by decide +kernel
theorem dX8_densest_50 : decode cX8_densest 50 = .ok (.iload_n 1, 1) := by decide +kernel
theorem dX8_densest_51 : decode cX8_densest 51 = .ok (.ireturn, 1) := by decide +kernel
theorem dX8_appendTextTo_0 : decode cX8_appendTextTo 0 = .ok (.iload_n 3, 1) := by decide +kernel
theorem dX8_appendTextTo_1 : decode cX8_appendTextTo 1 = .ok (.istore 5, 2) := by decide +kernel
theorem dX8_appendTextTo_3 : decode cX8_appendTextTo 3 = .ok (.iload 5, 2) := by decide +kernel
theorem dX8_appendTextTo_5 : decode cX8_appendTextTo 5 = .ok (.iload 4, 2) := by decide +kernel
theorem dX8_appendTextTo_7 : decode cX8_appendTextTo 7 = .ok (.if_icmp .ge 31, 3) := by decide +kernel
theorem dX8_appendTextTo_10 : decode cX8_appendTextTo 10 = .ok (.aload_n 0, 1) := by decide +kernel
theorem dX8_appendTextTo_11 : decode cX8_appendTextTo 11 = .ok (.iload_n 2, 1) := by decide +kernel
theorem dX8_appendTextTo_12 : decode cX8_appendTextTo 12 = .ok (.iload 5, 2) := by decide +kernel
theorem dX8_appendTextTo_14 : decode cX8_appendTextTo 14 = .ok (.invokevirtual 55, 3) := by decide +kernel
theorem dX8_appendTextTo_17 : decode cX8_appendTextTo 17 = .ok (.istore 6, 2) := by decide +kernel
theorem dX8_appendTextTo_19 : decode cX8_appendTextTo 19 = .ok (.iload 6, 2) := by decide +kernel
theorem dX8_appendTextTo_21 : decode cX8_appendTextTo 21 = .ok (.iconst (-1), 1) := by decide +kernel
theorem dX8_appendTextTo_22 : decode cX8_appendTextTo 22 = .ok (.if_icmp .eq 10, 3) := by decide +kernel
theorem dX8_appendTextTo_25 : decode cX8_appendTextTo 25 = .ok (.aload_n 1, 1) := by decide +kernel
theorem dX8_appendTextTo_26 : decode cX8_appendTextTo 26 = .ok (.iload 6, 2) := by decide +kernel
theorem dX8_appendTextTo_28 : decode cX8_appendTextTo 28 = .ok (.invokevirtual 76, 3) := by decide +kernel
theorem dX8_appendTextTo_31 : decode cX8_appendTextTo 31 = .ok (.pop, 1) := by decide +kernel
theorem dX8_appendTextTo_32 : decode cX8_appendTextTo 32 = .ok (.iinc 5 1, 3) := by decide +kernel
theorem dX8_appendTextTo_35 : decode cX8_appendTextTo 35 = .ok (.goto (-32), 3) := by decide +kernel
theorem dX8_appendTextTo_38 : decode cX8_appendTextTo 38 = .ok (.return_, 1) := by decide +kernel
theorem dX8_setFrames_0 : decode cX8_setFrames 0 = .ok (.aload_n 0, 1) := by decide +kernel
theorem dX8_setFrames_1 : decode cX8_setFrames 1 = .ok (.iload_n 1, 1) := by decide +kernel
theorem dX8_setFrames_2 : decode cX8_setFrames 2 = .ok (.invokevirtual 37, 3) := by decide +kernel
theorem dX8_setFrames_5 : decode cX8_setFrames 5 = .ok (.ifCond .eq 17, 3) := by decide +kernel
theorem dX8_setFrames_8 : decode cX8_setFrames 8 = .ok (.aload_n 0, 1) := by decide +kernel
theorem dX8_setFrames_9 : decode cX8_setFrames 9 = .ok (.getfield 9, 3) := by decide +kernel
theorem dX8_setFrames_12 : decode cX8_setFrames 12 = .ok (.iload_n 1, 1) := by decide +kernel
theorem dX8_setFrames_13 : decode cX8_setFrames 13 = .ok (.iload_n 2, 1) := by decide +kernel
theorem dX8_setFrames_14 : decode cX8_setFrames 14 = .ok (.iastore, 1) := by decide +kernel
theorem dX8_setFrames_15 : decode cX8_setFrames 15 = .ok (.aload_n 0, 1) := by decide +kernel
theorem dX8_setFrames_16 : decode cX8_setFrames 16 = .ok (.getfield 15, 3) := by decide +kernel
theorem dX8_setFrames_19 : decode cX8_setFrames 19 = .ok (.iload_n 1, 1) := by decide +kernel
theorem dX8_setFrames_20 : decode cX8_setFrames 20 = .ok (.iload_n 3, 1) := by decide +kernel
theorem dX8_setFrames_21 : decode cX8_setFrames 21 = .ok (.iastore, 1) := by decide +kernel
theorem dX8_setFrames_22 : decode cX8_setFrames 22 = .ok (.return_, 1) := by decide +kernel
theorem dX8_setText_0 : decode cX8_setText 0 = .ok (.aload_n 0, 1) := by decide +kernel
theorem dX8_setText_1 : decode cX8_setText 1 = .ok (.iload_n 1, 1) := by decide +kernel
theorem dX8_setText_2 : decode cX8_setText 2 = .ok (.invokevirtual 37, 3) := by decide +kernel
theorem dX8_setText_5 : decode cX8_setText 5 = .ok (.ifCond .ne 4, 3) := by decide +kernel
theorem dX8_setText_8 : decode cX8_setText 8 = .ok (.return_, 1) := by decide +kernel
theorem dX8_setText_9 : decode cX8_setText 9 = .ok (.aload_n 0, 1) := by decide +kernel
theorem dX8_setText_10 : decode cX8_setText 10 = .ok (.getfield 21, 3) := by decide +kernel
theorem dX8_setText_13 : decode cX8_setText 13 = .ok (.iload_n 1, 1) := by decide +kernel
theorem dX8_setText_14 : decode cX8_setText 14 = .ok (.aload_n 2, 1) := by decide +kernel
theorem dX8_setText_15 : decode cX8_setText 15 = .ok (.getfield 81, 3) := by decide +kernel
theorem dX8_setText_18 : decode cX8_setText 18 = .ok (.bipush 24, 2) := by decide +kernel
theorem dX8_setText_20 : decode cX8_setText 20 = .ok (.invokestatic 64, 3) := by decide +kernel
theorem dX8_setText_23 : decode cX8_setText 23 = .ok (.iastore, 1) := by decide +kernel
theorem dX8_setText_24 : decode cX8_setText 24 = .ok (.iconst 0, 1) := by decide +kernel
theorem dX8_setText_25 : decode cX8_setText 25 = .ok (.istore_n 3, 1) := by decide +kernel
theorem dX8_setText_26 : decode cX8_setText 26 = .ok (.iload_n 3, 1) := by decide +kernel
theorem dX8_setText_27 : decode cX8_setText 27 = .ok (.aload_n 0, 1) := by decide +kernel
theorem dX8_setText_28 : decode cX8_setText 28 = .ok (.getfield 21, 3) := by decide +kernel
theorem dX8_setText_31 : decode cX8_setText 31 = .ok (.iload_n 1, 1) := by decide +kernel
theorem dX8_setText_32 : decode cX8_setText 32 = .ok (.iaload, 1) := by decide +kernel
theorem dX8_setText_33 : decode cX8_setText 33 = .ok (.if_icmp .ge 31, 3) := by decide +kernel
theorem dX8_setText_36 : decode cX8_setText 36 = .ok (.iload_n 3, 1) := by decide +kernel
theorem dX8_setText_37 : decode cX8_setText 37 = .ok (.bipush 24, 2) := by decide +kernel
theorem dX8_setText_39 : decode cX8_setText 39 = .ok (.if_icmp .ge 25, 3) := by decide +kernel
theorem dX8_setText_42 : decode cX8_setText 42 = .ok (.aload_n 0, 1) := by decide +kernel
theorem dX8_setText_43 : decode cX8_setText 43 = .ok (.getfield 24, 3) := by decide +kernel
theorem dX8_setText_46 : decode cX8_setText 46 = .ok (.iload_n 1, 1) := by decide +kernel
theorem dX8_setText_47 : decode cX8_setText 47 = .ok (.bipush 24, 2) := by decide +kernel
theorem dX8_setText_49 : decode cX8_setText 49 = .ok (.imul, 1) := by decide +kernel
theorem dX8_setText_50 : decode cX8_setText 50 = .ok (.iload_n 3, 1) := by decide +kernel
theorem dX8_setText_51 : decode cX8_setText 51 = .ok (.iadd, 1) := by decide +kernel
theorem dX8_setText_52 : decode cX8_setText 52 = .ok (.aload_n 2, 1) := by decide +kernel
theorem dX8_setText_53 : decode cX8_setText 53 = .ok (.iload_n 3, 1) := by decide +kernel
theorem dX8_setText_54 : decode cX8_setText 54 = .ok (.invokevirtual 83, 3) := by decide +kernel
theorem dX8_setText_57 : decode cX8_setText 57 = .ok (.iastore, 1) := by decide +kernel
theorem dX8_setText_58 : decode cX8_setText 58 = .ok (.iinc 3 1, 3) := by decide +kernel
theorem dX8_setText_61 : decode cX8_setText 61 = .ok (.goto (-35), 3) := by decide +kernel
theorem dX8_setText_64 : decode cX8_setText 64 = .ok (.return_, 1) := by decide +kernel
theorem dX8_insertCaption_0 : decode cX8_insertCaption 0 = .ok (.iconst 0, 1) := by decide +kernel
theorem dX8_insertCaption_1 : decode cX8_insertCaption 1 = .ok (.istore 5, 2) := by decide +kernel
theorem dX8_insertCaption_3 : decode cX8_insertCaption 3 = .ok (.iload 5, 2) := by decide +kernel
theorem dX8_insertCaption_5 : decode cX8_insertCaption 5 = .ok (.aload_n 0, 1) := by decide +kernel
theorem dX8_insertCaption_6 : decode cX8_insertCaption 6 = .ok (.getfield 27, 3) := by decide +kernel
theorem dX8_insertCaption_9 : decode cX8_insertCaption 9 = .ok (.if_icmp .ge 19, 3) := by decide +kernel
theorem dX8_insertCaption_12 : decode cX8_insertCaption 12 = .ok (.aload_n 0, 1) := by decide +kernel
theorem dX8_insertCaption_13 : decode cX8_insertCaption 13 = .ok (.iload 5, 2) := by decide +kernel
theorem dX8_insertCaption_15 : decode cX8_insertCaption 15 = .ok (.invokevirtual 45, 3) := by decide +kernel
theorem dX8_insertCaption_18 : decode cX8_insertCaption 18 = .ok (.iload_n 2, 1) := by decide +kernel
theorem dX8_insertCaption_19 : decode cX8_insertCaption 19 = .ok (.if_icmp .ge 9, 3) := by decide +kernel
theorem dX8_insertCaption_22 : decode cX8_insertCaption 22 = .ok (.iinc 5 1, 3) := by decide +kernel
theorem dX8_insertCaption_25 : decode cX8_insertCaption 25 = .ok (.goto (-22), 3) := by decide +kernel
theorem dX8_insertCaption_28 : decode cX8_insertCaption 28 = .ok (.iload 5, 2) := by decide +kernel
theorem dX8_insertCaption_30 : decode cX8_insertCaption 30 = .ok (.invokestatic 85, 3) := by decide +kernel
theorem dX8_insertCaption_33 : decode cX8_insertCaption 33 = .ok (.ifCond .eq 13, 3) := by decide +kernel
theorem dX8_insertCaption_36 : decode cX8_insertCaption 36 = .ok (.aload_n 0, 1) := by decide +kernel
theorem dX8_insertCaption_37 : decode cX8_insertCaption 37 = .ok (.getfield 27, 3) := by decide +kernel
theorem dX8_insertCaption_40 : decode cX8_insertCaption 40 = .ok (.invokestatic 85, 3) := by decide +kernel
theorem dX8_insertCaption_43 : decode cX8_insertCaption 43 = .ok (.ifCond .ne 5, 3) := by decide +kernel
theorem dX8_insertCaption_46 : decode cX8_insertCaption 46 = .ok (.iconst (-1), 1) := by decide +kernel
theorem dX8_insertCaption_47 : decode cX8_insertCaption 47 = .ok (.ireturn, 1) := by decide +kernel
theorem dX8_insertCaption_48 : decode cX8_insertCaption 48 = .ok (.aload_n 0, 1) := by decide +kernel
theorem dX8_insertCaption_49 : decode cX8_insertCaption 49 = .ok (.getfield 27, 3) := by decide +kernel
theorem dX8_insertCaption_52 : decode cX8_insertCaption 52 = .ok (.istore 6, 2) := by decide +kernel
theorem dX8_insertCaption_54 : decode cX8_insertCaption 54 = .ok (.iload 6, 2) := by decide +kernel
theorem dX8_insertCaption_56 : decode cX8_insertCaption 56 = .ok (.iload 5, 2) := by decide +kernel
theorem dX8_insertCaption_58 : decode cX8_insertCaption 58 = .ok (.if_icmp .le 19, 3) := by decide +kernel
theorem dX8_insertCaption_61 : decode cX8_insertCaption 61 = .ok (.aload_n 0, 1) := by decide +kernel
theorem dX8_insertCaption_62 : decode cX8_insertCaption 62 = .ok (.iload 6, 2) := by decide +kernel
theorem dX8_insertCaption_64 : decode cX8_insertCaption 64 = .ok (.iconst 1, 1) := by decide +kernel
theorem dX8_insertCaption_65 : decode cX8_insertCaption 65 = .ok (.isub, 1) := by decide +kernel
theorem dX8_insertCaption_66 : decode cX8_insertCaption 66 = .ok (.iload 6, 2) := by decide +kernel
theorem dX8_insertCaption_68 : decode cX8_insertCaption 68 = .ok (.invokevirtual 88, 3) := by decide +kernel
theorem dX8_insertCaption_71 : decode cX8_insertCaption 71 = .ok (.iinc 6 (-1), 3) := by decide +kernel
theorem dX8_insertCaption_74 : decode cX8_insertCaption 74 = .ok (.goto (-20), 3) := by decide +kernel
theorem dX8_insertCaption_77 : decode cX8_insertCaption 77 = .ok (.aload_n 0, 1) := by decide +kernel
theorem dX8_insertCaption_78 : decode cX8_insertCaption 78 = .ok (.dup, 1) := by decide +kernel
theorem dX8_insertCaption_79 : decode cX8_insertCaption 79 = .ok (.getfield 27, 3) := by decide +kernel
theorem dX8_insertCaption_82 : decode cX8_insertCaption 82 = .ok (.iconst 1, 1) := by decide +kernel
theorem dX8_insertCaption_83 : decode cX8_insertCaption 83 = .ok (.iadd, 1) := by decide +kernel
theorem dX8_insertCaption_84 : decode cX8_insertCaption 84 = .ok (.putfield 27, 3) := by decide +kernel
theorem dX8_insertCaption_87 : decode cX8_insertCaption 87 = .ok (.aload_n 0, 1) := by decide +kernel
theorem dX8_insertCaption_88 : decode cX8_insertCaption 88 = .ok (.getfield 18, 3) := by decide +kernel
theorem dX8_insertCaption_91 : decode cX8_insertCaption 91 = .ok (.iload 5, 2) := by decide +kernel
theorem dX8_insertCaption_93 : decode cX8_insertCaption 93 = .ok (.iload_n 1, 1) := by decide +kernel
theorem dX8_insertCaption_94 : decode cX8_insertCaption 94 = .ok (.iastore, 1) := by decide +kernel
theorem dX8_insertCaption_95 : decode cX8_insertCaption 95 = .ok (.aload_n 0, 1) := by decide +kernel
theorem dX8_insertCaption_96 : decode cX8_insertCaption 96 = .ok (.iload 5, 2) := by decide +kernel
theorem dX8_insertCaption_98 : decode cX8_insertCaption 98 = .ok (.iload_n 2, 1) := by decide +kernel
theorem dX8_insertCaption_99 : decode cX8_insertCaption 99 = .ok (.iload_n 3, 1) := by decide +kernel
theorem dX8_insertCaption_100 : decode cX8_insertCaption 100 = .ok (.invokevirtual 92, 3) := by decide +kernel
theorem dX8_insertCaption_103 : decode cX8_insertCaption 103 = .ok (.aload_n 0, 1) := by decide +kernel
theorem dX8_insertCaption_104 : decode cX8_insertCaption 104 = .ok (.iload 5, 2) := by decide +kernel
theorem dX8_insertCaption_106 : decode cX8_insertCaption 106 = .ok (.aload 4, 2) := by decide +kernel
theorem dX8_insertCaption_108 : decode cX8_insertCaption 108 = .ok (.invokevirtual 96, 3) := by decide +kernel
theorem dX8_insertCaption_111 : decode cX8_insertCaption 111 = .ok (.iload 5, 2) := by decide +kernel
theorem dX8_insertCaption_113 : decode cX8_insertCaption 113 = .ok (.ireturn, 1) := by decide +kernel
theorem dX8_closeRow_0 : decode cX8_closeRow 0 = .ok (.aload_n 0, 1) := by decide +kernel
theorem dX8_closeRow_1 : decode cX8_closeRow 1 = .ok (.iload_n 1, 1) := by decide +kernel
theorem dX8_closeRow_2 : decode cX8_closeRow 2 = .ok (.invokevirtual 37, 3) := by decide +kernel
theorem dX8_closeRow_5 : decode cX8_closeRow 5 = .ok (.ifCond .ne 4, 3) := by decide +kernel
theorem dX8_closeRow_8 : decode cX8_closeRow 8 = .ok (.return_, 1) := by decide +kernel
theorem dX8_closeRow_9 : decode cX8_closeRow 9 = .ok (.iload_n 1, 1) := by decide +kernel
theorem dX8_closeRow_10 : decode cX8_closeRow 10 = .ok (.iconst 1, 1) := by decide +kernel
theorem dX8_closeRow_11 : decode cX8_closeRow 11 = .ok (.iadd, 1) := by decide +kernel
theorem dX8_closeRow_12 : decode cX8_closeRow 12 = .ok (.istore_n 2, 1) := by decide +kernel
theorem dX8_closeRow_13 : decode cX8_closeRow 13 = .ok (.iload_n 2, 1) := by decide +kernel
theorem dX8_closeRow_14 : decode cX8_closeRow 14 = .ok (.aload_n 0, 1) := by decide +kernel
theorem dX8_closeRow_15 : decode cX8_closeRow 15 = .ok (.getfield 27, 3) := by decide +kernel
theorem dX8_closeRow_18 : decode cX8_closeRow 18 = .ok (.if_icmp .ge 17, 3) := by decide +kernel
theorem dX8_closeRow_21 : decode cX8_closeRow 21 = .ok (.aload_n 0, 1) := by decide +kernel
theorem dX8_closeRow_22 : decode cX8_closeRow 22 = .ok (.iload_n 2, 1) := by decide +kernel
theorem dX8_closeRow_23 : decode cX8_closeRow 23 = .ok (.iload_n 2, 1) := by decide +kernel
theorem dX8_closeRow_24 : decode cX8_closeRow 24 = .ok (.iconst 1, 1) := by decide +kernel
theorem dX8_closeRow_25 : decode cX8_closeRow 25 = .ok (.isub, 1) := by decide +kernel
theorem dX8_closeRow_26 : decode cX8_closeRow 26 = .ok (.invokevirtual 88, 3) := by decide +kernel
theorem dX8_closeRow_29 : decode cX8_closeRow 29 = .ok (.iinc 2 1, 3) := by decide +kernel
theorem dX8_closeRow_32 : decode cX8_closeRow 32 = .ok (.goto (-19), 3) := by decide +kernel
theorem dX8_closeRow_35 : decode cX8_closeRow 35 = .ok (.aload_n 0, 1) := by decide +kernel
theorem dX8_closeRow_36 : decode cX8_closeRow 36 = .ok (.dup, 1) := by decide +kernel
theorem dX8_closeRow_37 : decode cX8_closeRow 37 = .ok (.getfield 27, 3) := by decide +kernel
theorem dX8_closeRow_40 : decode cX8_closeRow 40 = .ok (.iconst 1, 1) := by decide +kernel
theorem dX8_closeRow_41 : decode cX8_closeRow 41 = .ok (.isub, 1) := by decide +kernel
theorem dX8_closeRow_42 : decode cX8_closeRow 42 = .ok (.putfield 27, 3) := by decide +kernel
theorem dX8_closeRow_45 : decode cX8_closeRow 45 = .ok (.return_, 1) := by decide +kernel
theorem dX8_copyRow_0 : decode cX8_copyRow 0 = .ok (.iload_n 1, 1) := by decide +kernel
theorem dX8_copyRow_1 : decode cX8_copyRow 1 = .ok (.invokestatic 85, 3) := by decide +kernel
theorem dX8_copyRow_4 : decode cX8_copyRow 4 = .ok (.ifCond .eq 10, 3) := by decide +kernel
theorem dX8_copyRow_7 : decode cX8_copyRow 7 = .ok (.iload_n 2, 1) := by decide +kernel
theorem dX8_copyRow_8 : decode cX8_copyRow 8 = .ok (.invokestatic 85, 3) := by decide +kernel
theorem dX8_copyRow_11 : decode cX8_copyRow 11 = .ok (.ifCond .ne 4, 3) := by decide +kernel
theorem dX8_copyRow_14 : decode cX8_copyRow 14 = .ok (.return_, 1) := by decide +kernel
theorem dX8_copyRow_15 : decode cX8_copyRow 15 = .ok (.aload_n 0, 1) := by decide +kernel
theorem dX8_copyRow_16 : decode cX8_copyRow 16 = .ok (.getfield 9, 3) := by decide +kernel
theorem dX8_copyRow_19 : decode cX8_copyRow 19 = .ok (.iload_n 2, 1) := by decide +kernel
theorem dX8_copyRow_20 : decode cX8_copyRow 20 = .ok (.aload_n 0, 1) := by decide +kernel
theorem dX8_copyRow_21 : decode cX8_copyRow 21 = .ok (.getfield 9, 3) := by decide +kernel
theorem dX8_copyRow_24 : decode cX8_copyRow 24 = .ok (.iload_n 1, 1) := by decide +kernel
theorem dX8_copyRow_25 : decode cX8_copyRow 25 = .ok (.iaload, 1) := by decide +kernel
theorem dX8_copyRow_26 : decode cX8_copyRow 26 = .ok (.iastore, 1) := by decide +kernel
theorem dX8_copyRow_27 : decode cX8_copyRow 27 = .ok (.aload_n 0, 1) := by decide +kernel
theorem dX8_copyRow_28 : decode cX8_copyRow 28 = .ok (.getfield 15, 3) := by decide +kernel
theorem dX8_copyRow_31 : decode cX8_copyRow 31 = .ok (.iload_n 2, 1) := by decide +kernel
theorem dX8_copyRow_32 : decode cX8_copyRow 32 = .ok (.aload_n 0, 1) := by decide +kernel
theorem dX8_copyRow_33 : decode cX8_copyRow 33 = .ok (.getfield 15, 3) := by decide +kernel
theorem dX8_copyRow_36 : decode cX8_copyRow 36 = .ok (.iload_n 1, 1) := by decide +kernel
theorem dX8_copyRow_37 : decode cX8_copyRow 37 = .ok (.iaload, 1) := by decide +kernel
theorem dX8_copyRow_38 : decode cX8_copyRow 38 = .ok (.iastore, 1) := by decide +kernel
theorem dX8_copyRow_39 : decode cX8_copyRow 39 = .ok (.aload_n 0, 1) := by decide +kernel
theorem dX8_copyRow_40 : decode cX8_copyRow 40 = .ok (.getfield 18, 3) := by decide +kernel
theorem dX8_copyRow_43 : decode cX8_copyRow 43 = .ok (.iload_n 2, 1) := by decide +kernel
theorem dX8_copyRow_44 : decode cX8_copyRow 44 = .ok (.aload_n 0, 1) := by decide +kernel
theorem dX8_copyRow_45 : decode cX8_copyRow 45 = .ok (.getfield 18, 3) := by decide +kernel
theorem dX8_copyRow_48 : decode cX8_copyRow 48 = .ok (.iload_n 1, 1) := by decide +kernel
theorem dX8_copyRow_49 : decode cX8_copyRow 49 = .ok (.iaload, 1) := by decide +kernel
theorem dX8_copyRow_50 : decode cX8_copyRow 50 = .ok (.iastore, 1) := by decide +kernel
theorem dX8_copyRow_51 : decode cX8_copyRow 51 = .ok (.aload_n 0, 1) := by decide +kernel
theorem dX8_copyRow_52 : decode cX8_copyRow 52 = .ok (.getfield 21, 3) := by decide +kernel
theorem dX8_copyRow_55 : decode cX8_copyRow 55 = .ok (.iload_n 2, 1) := by decide +kernel
theorem dX8_copyRow_56 : decode cX8_copyRow 56 = .ok (.aload_n 0, 1) := by decide +kernel
theorem dX8_copyRow_57 : decode cX8_copyRow 57 = .ok (.getfield 21, 3) := by decide +kernel
theorem dX8_copyRow_60 : decode cX8_copyRow 60 = .ok (.iload_n 1, 1) := by decide +kernel
theorem dX8_copyRow_61 : decode cX8_copyRow 61 = .ok (.iaload, 1) := by decide +kernel
theorem dX8_copyRow_62 : decode cX8_copyRow 62 = .ok (.iastore, 1) := by decide +kernel
theorem dX8_copyRow_63 : decode cX8_copyRow 63 = .ok (.aload_n 0, 1) := by decide +kernel
theorem dX8_copyRow_64 : decode cX8_copyRow 64 = .ok (.getfield 24, 3) := by decide +kernel
theorem dX8_copyRow_67 : decode cX8_copyRow 67 = .ok (.iload_n 1, 1) := by decide +kernel
theorem dX8_copyRow_68 : decode cX8_copyRow 68 = .ok (.bipush 24, 2) := by decide +kernel
theorem dX8_copyRow_70 : decode cX8_copyRow 70 = .ok (.imul, 1) := by decide +kernel
theorem dX8_copyRow_71 : decode cX8_copyRow 71 = .ok (.aload_n 0, 1) := by decide +kernel
theorem dX8_copyRow_72 : decode cX8_copyRow 72 = .ok (.getfield 24, 3) := by decide +kernel
theorem dX8_copyRow_75 : decode cX8_copyRow 75 = .ok (.iload_n 2, 1) := by decide +kernel
theorem dX8_copyRow_76 : decode cX8_copyRow 76 = .ok (.bipush 24, 2) := by decide +kernel
theorem dX8_copyRow_78 : decode cX8_copyRow 78 = .ok (.imul, 1) := by decide +kernel
theorem dX8_copyRow_79 : decode cX8_copyRow 79 = .ok (.bipush 24, 2) := by decide +kernel
theorem dX8_copyRow_81 : decode cX8_copyRow 81 = .ok (.invokestatic 31, 3) := by decide +kernel
theorem dX8_copyRow_84 : decode cX8_copyRow 84 = .ok (.return_, 1) := by decide +kernel
theorem dX8_isRow_0 : decode cX8_isRow 0 = .ok (.iload_n 0, 1) := by decide +kernel
theorem dX8_isRow_1 : decode cX8_isRow 1 = .ok (.ifCond .lt 13, 3) := by decide +kernel
theorem dX8_isRow_4 : decode cX8_isRow 4 = .ok (.iload_n 0, 1) := by decide +kernel
theorem dX8_isRow_5 : decode cX8_isRow 5 = .ok (.bipush 16, 2) := by decide +kernel
theorem dX8_isRow_7 : decode cX8_isRow 7 = .ok (.if_icmp .ge 7, 3) := by decide +kernel
theorem dX8_isRow_10 : decode cX8_isRow 10 = .ok (.iconst 1, 1) := by decide +kernel
theorem dX8_isRow_11 : decode cX8_isRow 11 = .ok (.goto 4, 3) := by decide +kernel
theorem dX8_isRow_14 : decode cX8_isRow 14 = .ok (.iconst 0, 1) := by decide +kernel
theorem dX8_isRow_15 : decode cX8_isRow 15 = .ok (.ireturn, 1) := by decide +kernel
theorem dX9_init_0 : decode cX9_init 0 = .ok (.aload_n 0, 1) := by decide +kernel
theorem dX9_init_1 : decode cX9_init 1 = .ok (.invokespecial 1, 3) := by decide +kernel
theorem dX9_init_4 : decode cX9_init 4 = .ok (.aload_n 0, 1) := by decide +kernel
theorem dX9_init_5 : decode cX9_init 5 = .ok (.new 7, 3) := by decide +kernel
theorem dX9_init_8 : decode cX9_init 8 = .ok (.dup, 1) := by decide +kernel
theorem dX9_init_9 : decode cX9_init 9 = .ok (.invokespecial 9, 3) := by decide +kernel
theorem dX9_init_12 : decode cX9_init 12 = .ok (.putfield 10, 3) := by decide +kernel
theorem dX9_init_15 : decode cX9_init 15 = .ok (.aload_n 0, 1) := by decide +kernel
theorem dX9_init_16 : decode cX9_init 16 = .ok (.new 16, 3) := by decide +kernel
theorem dX9_init_19 : decode cX9_init 19 = .ok (.dup, 1) := by decide +kernel
theorem dX9_init_20 : decode cX9_init 20 = .ok (.aload_n 0, 1) := by decide +kernel
theorem dX9_init_21 : decode cX9_init 21 = .ok (.getfield 10, 3) := by decide +kernel
theorem dX9_init_24 : decode cX9_init 24 = .ok (.invokespecial 18, 3) := by decide +kernel
theorem dX9_init_27 : decode cX9_init 27 = .ok (.putfield 21, 3) := by decide +kernel
theorem dX9_init_30 : decode cX9_init 30 = .ok (.aload_n 0, 1) := by decide +kernel
theorem dX9_init_31 : decode cX9_init 31 = .ok (.new 25, 3) := by decide +kernel
theorem dX9_init_34 : decode cX9_init 34 = .ok (.dup, 1) := by decide +kernel
theorem dX9_init_35 : decode cX9_init 35 = .ok (.aload_n 0, 1) := by decide +kernel
theorem dX9_init_36 : decode cX9_init 36 = .ok (.getfield 10, 3) := by decide +kernel
theorem dX9_init_39 : decode cX9_init 39 = .ok (.aload_n 0, 1) := by decide +kernel
theorem dX9_init_40 : decode cX9_init 40 = .ok (.getfield 21, 3) := by decide +kernel
theorem dX9_init_43 : decode cX9_init 43 = .ok (.invokespecial 27, 3) := by decide +kernel
theorem dX9_init_46 : decode cX9_init 46 = .ok (.putfield 30, 3) := by decide +kernel
theorem dX9_init_49 : decode cX9_init 49 = .ok (.aload_n 0, 1) := by decide +kernel
theorem dX9_init_50 : decode cX9_init 50 = .ok (.new 34, 3) := by decide +kernel
theorem dX9_init_53 : decode cX9_init 53 = .ok (.dup, 1) := by decide +kernel
theorem dX9_init_54 : decode cX9_init 54 = .ok (.invokespecial 36, 3) := by decide +kernel
theorem dX9_init_57 : decode cX9_init 57 = .ok (.putfield 37, 3) := by decide +kernel
theorem dX9_init_60 : decode cX9_init 60 = .ok (.aload_n 0, 1) := by decide +kernel
theorem dX9_init_61 : decode cX9_init 61 = .ok (.new 7, 3) := by decide +kernel
theorem dX9_init_64 : decode cX9_init 64 = .ok (.dup, 1) := by decide +kernel
theorem dX9_init_65 : decode cX9_init 65 = .ok (.invokespecial 9, 3) := by decide +kernel
theorem dX9_init_68 : decode cX9_init 68 = .ok (.putfield 41, 3) := by decide +kernel
theorem dX9_init_71 : decode cX9_init 71 = .ok (.aload_n 0, 1) := by decide +kernel
theorem dX9_init_72 : decode cX9_init 72 = .ok (.iconst 0, 1) := by decide +kernel
theorem dX9_init_73 : decode cX9_init 73 = .ok (.putfield 44, 3) := by decide +kernel
theorem dX9_init_76 : decode cX9_init 76 = .ok (.aload_n 0, 1) := by decide +kernel
theorem dX9_init_77 : decode cX9_init 77 = .ok (.new 48, 3) := by decide +kernel
theorem dX9_init_80 : decode cX9_init 80 = .ok (.dup, 1) := by decide +kernel
theorem dX9_init_81 : decode cX9_init 81 = .ok (.invokespecial 50, 3) := by decide +kernel
theorem dX9_init_84 : decode cX9_init 84 = .ok (.putfield 51, 3) := by decide +kernel
theorem dX9_init_87 : decode cX9_init 87 = .ok (.aload_n 0, 1) := by decide +kernel
theorem dX9_init_88 : decode cX9_init 88 = .ok (.new 48, 3) := by decide +kernel
theorem dX9_init_91 : decode cX9_init 91 = .ok (.dup, 1) := by decide +kernel
theorem dX9_init_92 : decode cX9_init 92 = .ok (.invokespecial 50, 3) := by decide +kernel
theorem dX9_init_95 : decode cX9_init 95 = .ok (.putfield 55, 3) := by decide +kernel
theorem dX9_init_98 : decode cX9_init 98 = .ok (.aload_n 0, 1) := by decide +kernel
theorem dX9_init_99 : decode cX9_init 99 = .ok (.new 58, 3) := by decide +kernel
theorem dX9_init_102 : decode cX9_init 102 = .ok (.dup, 1) := by decide +kernel
theorem dX9_init_103 : decode cX9_init 103 = .ok (.invokespecial 60, 3) := by decide +kernel
theorem dX9_init_106 : decode cX9_init 106 = .ok (.putfield 61, 3) := by decide +kernel
theorem dX9_init_109 : decode cX9_init 109 = .ok (.aload_n 0, 1) := by decide +kernel
theorem dX9_init_110 : decode cX9_init 110 = .ok (.iconst (-1), 1) := by decide +kernel
theorem dX9_init_111 : decode cX9_init 111 = .ok (.putfield 65, 3) := by decide +kernel
theorem dX9_init_114 : decode cX9_init 114 = .ok (.aload_n 0, 1) := by decide +kernel
theorem dX9_init_115 : decode cX9_init 115 = .ok (.iconst 0, 1) := by decide +kernel
theorem dX9_init_116 : decode cX9_init 116 = .ok (.putfield 69, 3) := by decide +kernel
theorem dX9_init_119 : decode cX9_init 119 = .ok (.aload_n 0, 1) := by decide +kernel
theorem dX9_init_120 : decode cX9_init 120 = .ok (.iconst 0, 1) := by decide +kernel
theorem dX9_init_121 : decode cX9_init 121 = .ok (.putfield 72, 3) := by decide +kernel
theorem dX9_init_124 : decode cX9_init 124 = .ok (.return_, 1) := by decide +kernel
theorem dX9_film_0 : decode cX9_film 0 = .ok (.iload_n 1, 1) := by decide +kernel
theorem dX9_film_1 : decode cX9_film 1 = .ok (.bipush 100, 2) := by decide +kernel
theorem dX9_film_3 : decode cX9_film 3 = .ok (.if_icmp .lt 10, 3) := by decide +kernel
theorem dX9_film_6 : decode cX9_film 6 = .ok (.iload_n 1, 1) := by decide +kernel
theorem dX9_film_7 : decode cX9_film 7 = .ok (.sipush 9999, 3) := by decide +kernel
theorem dX9_film_10 : decode cX9_film 10 = .ok (.if_icmp .le 13, 3) := by decide +kernel
theorem dX9_film_13 : decode cX9_film 13 = .ok (.new 75, 3) := by decide +kernel
theorem dX9_film_16 : decode cX9_film 16 = .ok (.dup, 1) := by decide +kernel
theorem dX9_film_17 : decode cX9_film 17 = .ok (.ldc 77, 2) := by decide +kernel
theorem dX9_film_19 : decode cX9_film 19 = .ok (.invokespecial 79, 3) := by decide +kernel
theorem dX9_film_22 : decode cX9_film 22 = .ok (.athrow, 1) := by decide +kernel
theorem dX9_film_23 : decode cX9_film 23 = .ok (.aload_n 0, 1) := by decide +kernel
theorem dX9_film_24 : decode cX9_film 24 = .ok (.aload_n 0, 1) := by decide +kernel
theorem dX9_film_25 : decode cX9_film 25 = .ok (.getfield 10, 3) := by decide +kernel
theorem dX9_film_28 : decode cX9_film 28 = .ok (.iload_n 1, 1) := by decide +kernel
theorem dX9_film_29 : decode cX9_film 29 = .ok (.invokevirtual 82, 3) := by decide +kernel
theorem dX9_film_32 : decode cX9_film 32 = .ok (.invokevirtual 86, 3) := by decide +kernel
theorem dX9_film_35 : decode cX9_film 35 = .ok (.aload_n 0, 1) := by decide +kernel
theorem dX9_film_36 : decode cX9_film 36 = .ok (.getfield 37, 3) := by decide +kernel
theorem dX9_film_39 : decode cX9_film 39 = .ok (.aload_n 0, 1) := by decide +kernel
theorem dX9_film_40 : decode cX9_film 40 = .ok (.getfield 10, 3) := by decide +kernel
theorem dX9_film_43 : decode cX9_film 43 = .ok (.invokevirtual 90, 3) := by decide +kernel
theorem dX9_film_46 : decode cX9_film 46 = .ok (.aload_n 0, 1) := by decide +kernel
theorem dX9_film_47 : decode cX9_film 47 = .ok (.getfield 10, 3) := by decide +kernel
theorem dX9_film_50 : decode cX9_film 50 = .ok (.getfield 93, 3) := by decide +kernel
theorem dX9_film_53 : decode cX9_film 53 = .ok (.istore_n 2, 1) := by decide +kernel
theorem dX9_film_54 : decode cX9_film 54 = .ok (.aload_n 0, 1) := by decide +kernel
theorem dX9_film_55 : decode cX9_film 55 = .ok (.getfield 10, 3) := by decide +kernel
theorem dX9_film_58 : decode cX9_film 58 = .ok (.iload_n 1, 1) := by decide +kernel
theorem dX9_film_59 : decode cX9_film 59 = .ok (.putfield 93, 3) := by decide +kernel
theorem dX9_film_62 : decode cX9_film 62 = .ok (.iload_n 2, 1) := by decide +kernel
theorem dX9_film_63 : decode cX9_film 63 = .ok (.ireturn, 1) := by decide +kernel
theorem dX9_set_0 : decode cX9_set 0 = .ok (.iload_n 1, 1) := by decide +kernel
theorem dX9_set_1 : decode cX9_set 1 = .ok (.iload_n 2, 1) := by decide +kernel
theorem dX9_set_2 : decode cX9_set 2 = .ok (.invokestatic 96, 3) := by decide +kernel
theorem dX9_set_5 : decode cX9_set 5 = .ok (.ifCond .ne 13, 3) := by decide +kernel
theorem dX9_set_8 : decode cX9_set 8 = .ok (.new 75, 3) := by decide +kernel
theorem dX9_set_11 : decode cX9_set 11 = .ok (.dup, 1) := by decide +kernel
theorem dX9_set_12 : decode cX9_set 12 = .ok (.ldc 100, 2) := by decide +kernel
theorem dX9_set_14 : decode cX9_set 14 = .ok (.invokespecial 79, 3) := by decide +kernel
theorem dX9_set_17 : decode cX9_set 17 = .ok (.athrow, 1) := by decide +kernel
theorem dX9_set_18 : decode cX9_set 18 = .ok (.aload_n 0, 1) := by decide +kernel
theorem dX9_set_19 : decode cX9_set 19 = .ok (.getfield 37, 3) := by decide +kernel
theorem dX9_set_22 : decode cX9_set 22 = .ok (.aload_n 0, 1) := by decide +kernel
theorem dX9_set_23 : decode cX9_set 23 = .ok (.getfield 10, 3) := by decide +kernel
theorem dX9_set_26 : decode cX9_set 26 = .ok (.invokevirtual 90, 3) := by decide +kernel
theorem dX9_set_29 : decode cX9_set 29 = .ok (.aload_n 0, 1) := by decide +kernel
theorem dX9_set_30 : decode cX9_set 30 = .ok (.getfield 10, 3) := by decide +kernel
theorem dX9_set_33 : decode cX9_set 33 = .ok (.iload_n 1, 1) := by decide +kernel
theorem dX9_set_34 : decode cX9_set 34 = .ok (.iload_n 2, 1) := by decide +kernel
theorem dX9_set_35 : decode cX9_set 35 = .ok (.invokevirtual 102, 3) := by decide +kernel
theorem dX9_set_38 : decode cX9_set 38 = .ok (.ireturn, 1) := by decide +kernel
theorem dX9_cut_0 : decode cX9_cut 0 = .ok (.aload_n 0, 1) := by decide +kernel
theorem dX9_cut_1 : decode cX9_cut 1 = .ok (.getfield 10, 3) := by decide +kernel
theorem dX9_cut_4 : decode cX9_cut 4 = .ok (.iload_n 1, 1) := by decide +kernel
theorem dX9_cut_5 : decode cX9_cut 5 = .ok (.invokevirtual 106, 3) := by decide +kernel
theorem dX9_cut_8 : decode cX9_cut 8 = .ok (.ifCond .ne 13, 3) := by decide +kernel
theorem dX9_cut_11 : decode cX9_cut 11 = .ok (.new 110, 3) := by decide +kernel
theorem dX9_cut_14 : decode cX9_cut 14 = .ok (.dup, 1) := by decide +kernel
theorem dX9_cut_15 : decode cX9_cut 15 = .ok (.ldc 112, 2) := by decide +kernel
theorem dX9_cut_17 : decode cX9_cut 17 = .ok (.invokespecial 114, 3) := by decide +kernel
theorem dX9_cut_20 : decode cX9_cut 20 = .ok (.athrow, 1) := by decide +kernel
theorem dX9_cut_21 : decode cX9_cut 21 = .ok (.iload_n 2, 1) := by decide +kernel
theorem dX9_cut_22 : decode cX9_cut 22 = .ok (.ifCond .eq 27, 3) := by decide +kernel
theorem dX9_cut_25 : decode cX9_cut 25 = .ok (.aload_n 0, 1) := by decide +kernel
theorem dX9_cut_26 : decode cX9_cut 26 = .ok (.getfield 10, 3) := by decide +kernel
theorem dX9_cut_29 : decode cX9_cut 29 = .ok (.getfield 115, 3) := by decide +kernel
theorem dX9_cut_32 : decode cX9_cut 32 = .ok (.iload_n 1, 1) := by decide +kernel
theorem dX9_cut_33 : decode cX9_cut 33 = .ok (.invokevirtual 119, 3) := by decide +kernel
theorem dX9_cut_36 : decode cX9_cut 36 = .ok (.ifCond .eq 13, 3) := by decide +kernel
theorem dX9_cut_39 : decode cX9_cut 39 = .ok (.new 124, 3) := by decide +kernel
theorem dX9_cut_42 : decode cX9_cut 42 = .ok (.dup, 1) := by decide +kernel
theorem dX9_cut_43 : decode cX9_cut 43 = .ok (.ldc 126, 2) := by decide +kernel
theorem dX9_cut_45 : decode cX9_cut 45 = .ok (.invokespecial 128, 3) := by decide +kernel
theorem dX9_cut_48 : decode cX9_cut 48 = .ok (.athrow, 1) := by decide +kernel
theorem dX9_cut_49 : decode cX9_cut 49 = .ok (.aload_n 0, 1) := by decide +kernel
theorem dX9_cut_50 : decode cX9_cut 50 = .ok (.getfield 37, 3) := by decide +kernel
theorem dX9_cut_53 : decode cX9_cut 53 = .ok (.aload_n 0, 1) := by decide +kernel
theorem dX9_cut_54 : decode cX9_cut 54 = .ok (.getfield 10, 3) := by decide +kernel
theorem dX9_cut_57 : decode cX9_cut 57 = .ok (.invokevirtual 90, 3) := by decide +kernel
theorem dX9_cut_60 : decode cX9_cut 60 = .ok (.iload_n 2, 1) := by decide +kernel
theorem dX9_cut_61 : decode cX9_cut 61 = .ok (.ifCond .eq 17, 3) := by decide +kernel
theorem dX9_cut_64 : decode cX9_cut 64 = .ok (.aload_n 0, 1) := by decide +kernel
theorem dX9_cut_65 : decode cX9_cut 65 = .ok (.getfield 10, 3) := by decide +kernel
theorem dX9_cut_68 : decode cX9_cut 68 = .ok (.getfield 115, 3) := by decide +kernel
theorem dX9_cut_71 : decode cX9_cut 71 = .ok (.iload_n 1, 1) := by decide +kernel
theorem dX9_cut_72 : decode cX9_cut 72 = .ok (.invokevirtual 129, 3) := by decide +kernel
theorem dX9_cut_75 : decode cX9_cut 75 = .ok (.goto 14, 3) := by decide +kernel
theorem dX9_cut_78 : decode cX9_cut 78 = .ok (.aload_n 0, 1) := by decide +kernel
theorem dX9_cut_79 : decode cX9_cut 79 = .ok (.getfield 10, 3) := by decide +kernel
theorem dX9_cut_82 : decode cX9_cut 82 = .ok (.getfield 115, 3) := by decide +kernel
theorem dX9_cut_85 : decode cX9_cut 85 = .ok (.iload_n 1, 1) := by decide +kernel
theorem dX9_cut_86 : decode cX9_cut 86 = .ok (.invokevirtual 132, 3) := by decide +kernel
theorem dX9_cut_89 : decode cX9_cut 89 = .ok (.aload_n 0, 1) := by decide +kernel
theorem dX9_cut_90 : decode cX9_cut 90 = .ok (.getfield 10, 3) := by decide +kernel
theorem dX9_cut_93 : decode cX9_cut 93 = .ok (.getfield 115, 3) := by decide +kernel
theorem dX9_cut_96 : decode cX9_cut 96 = .ok (.getfield 135, 3) := by decide +kernel
theorem dX9_cut_99 : decode cX9_cut 99 = .ok (.ireturn, 1) := by decide +kernel
theorem dX9_number_0 : decode cX9_number 0 = .ok (.iload_n 1, 1) := by decide +kernel
theorem dX9_number_1 : decode cX9_number 1 = .ok (.tableswitch 136 6 13 #[47, 55, 66, 78, 90, 98, 120, 128], 47) := by decide +kernel
theorem dX9_number_48 : decode cX9_number 48 = .ok (.aload_n 0, 1) := by decide +kernel
theorem dX9_number_49 : decode cX9_number 49 = .ok (.getfield 10, 3) := by decide +kernel
theorem dX9_number_52 : decode cX9_number 52 = .ok (.getfield 93, 3) := by decide +kernel
theorem dX9_number_55 : decode cX9_number 55 = .ok (.ireturn, 1) := by decide +kernel
theorem dX9_number_56 : decode cX9_number 56 = .ok (.aload_n 0, 1) := by decide +kernel
theorem dX9_number_57 : decode cX9_number 57 = .ok (.getfield 10, 3) := by decide +kernel
theorem dX9_number_60 : decode cX9_number 60 = .ok (.getfield 115, 3) := by decide +kernel
theorem dX9_number_63 : decode cX9_number 63 = .ok (.getfield 135, 3) := by decide +kernel
theorem dX9_number_66 : decode cX9_number 66 = .ok (.ireturn, 1) := by decide +kernel
theorem dX9_number_67 : decode cX9_number 67 = .ok (.aload_n 0, 1) := by decide +kernel
theorem dX9_number_68 : decode cX9_number 68 = .ok (.getfield 10, 3) := by decide +kernel
theorem dX9_number_71 : decode cX9_number 71 = .ok (.iconst 0, 1) := by decide +kernel
theorem dX9_number_72 : decode cX9_number 72 = .ok (.invokevirtual 138, 3) := by decide +kernel
theorem dX9_number_75 : decode cX9_number 75 = .ok (.getfield 142, 3) := by decide +kernel
theorem dX9_number_78 : decode cX9_number 78 = .ok (.ireturn, 1) := by decide +kernel
theorem dX9_number_79 : decode cX9_number 79 = .ok (.aload_n 0, 1) := by decide +kernel
theorem dX9_number_80 : decode cX9_number 80 = .ok (.getfield 10, 3) := by decide +kernel
theorem dX9_number_83 : decode cX9_number 83 = .ok (.iconst 1, 1) := by decide +kernel
theorem dX9_number_84 : decode cX9_number 84 = .ok (.invokevirtual 138, 3) := by decide +kernel
theorem dX9_number_87 : decode cX9_number 87 = .ok (.getfield 142, 3) := by decide +kernel
theorem dX9_number_90 : decode cX9_number 90 = .ok (.ireturn, 1) := by decide +kernel
theorem dX9_number_91 : decode cX9_number 91 = .ok (.aload_n 0, 1) := by decide +kernel
theorem dX9_number_92 : decode cX9_number 92 = .ok (.getfield 21, 3) := by decide +kernel
theorem dX9_number_95 : decode cX9_number 95 = .ok (.invokevirtual 145, 3) := by decide +kernel
theorem dX9_number_98 : decode cX9_number 98 = .ok (.ireturn, 1) := by decide +kernel
theorem dX9_number_99 : decode cX9_number 99 = .ok (.aload_n 0, 1) := by decide +kernel
theorem dX9_number_100 : decode cX9_number 100 = .ok (.getfield 21, 3) := by decide +kernel
theorem dX9_number_103 : decode cX9_number 103 = .ok (.iconst 0, 1) := by decide +kernel
theorem dX9_number_104 : decode cX9_number 104 = .ok (.bipush 63, 2) := by decide +kernel
theorem dX9_number_106 : decode cX9_number 106 = .ok (.invokevirtual 149, 3) := by decide +kernel
theorem dX9_number_109 : decode cX9_number 109 = .ok (.aload_n 0, 1) := by decide +kernel
theorem dX9_number_110 : decode cX9_number 110 = .ok (.getfield 21, 3) := by decide +kernel
theorem dX9_number_113 : decode cX9_number 113 = .ok (.iconst 1, 1) := by decide +kernel
theorem dX9_number_114 : decode cX9_number 114 = .ok (.bipush 63, 2) := by decide +kernel
theorem dX9_number_116 : decode cX9_number 116 = .ok (.invokevirtual 149, 3) := by decide +kernel
theorem dX9_number_119 : decode cX9_number 119 = .ok (.iadd, 1) := by decide +kernel
theorem dX9_number_120 : decode cX9_number 120 = .ok (.ireturn, 1) := by decide +kernel
theorem dX9_number_121 : decode cX9_number 121 = .ok (.aload_n 0, 1) := by decide +kernel
theorem dX9_number_122 : decode cX9_number 122 = .ok (.getfield 37, 3) := by decide +kernel
theorem dX9_number_125 : decode cX9_number 125 = .ok (.getfield 152, 3) := by decide +kernel
theorem dX9_number_128 : decode cX9_number 128 = .ok (.ireturn, 1) := by decide +kernel
theorem dX9_number_129 : decode cX9_number 129 = .ok (.aload_n 0, 1) := by decide +kernel
theorem dX9_number_130 : decode cX9_number 130 = .ok (.getfield 51, 3) := by decide +kernel
theorem dX9_number_133 : decode cX9_number 133 = .ok (.getfield 153, 3) := by decide +kernel
theorem dX9_number_136 : decode cX9_number 136 = .ok (.ireturn, 1) := by decide +kernel
theorem dX9_number_137 : decode cX9_number 137 = .ok (.iload_n 1, 1) := by decide +kernel
theorem dX9_number_138 : decode cX9_number 138 = .ok (.invokestatic 156, 3) := by decide +kernel
theorem dX9_number_141 : decode cX9_number 141 = .ok (.ifCond .ne 13, 3) := by decide +kernel
theorem dX9_number_144 : decode cX9_number 144 = .ok (.new 75, 3) := by decide +kernel
theorem dX9_number_147 : decode cX9_number 147 = .ok (.dup, 1) := by decide +kernel
theorem dX9_number_148 : decode cX9_number 148 = .ok (.ldc 159, 2) := by decide +kernel
theorem dX9_number_150 : decode cX9_number 150 = .ok (.invokespecial 79, 3) := by decide +kernel
theorem dX9_number_153 : decode cX9_number 153 = .ok (.athrow, 1) := by decide +kernel
theorem dX9_number_154 : decode cX9_number 154 = .ok (.aload_n 0, 1) := by decide +kernel
theorem dX9_number_155 : decode cX9_number 155 = .ok (.getfield 10, 3) := by decide +kernel
theorem dX9_number_158 : decode cX9_number 158 = .ok (.iload_n 1, 1) := by decide +kernel
theorem dX9_number_159 : decode cX9_number 159 = .ok (.invokevirtual 161, 3) := by decide +kernel
theorem dX9_number_162 : decode cX9_number 162 = .ok (.ireturn, 1) := by decide +kernel
theorem dX9_shot_0 : decode cX9_shot 0 = .ok (.aload_n 0, 1) := by decide +kernel
theorem dX9_shot_1 : decode cX9_shot 1 = .ok (.getfield 10, 3) := by decide +kernel
theorem dX9_shot_4 : decode cX9_shot 4 = .ok (.iload_n 1, 1) := by decide +kernel
theorem dX9_shot_5 : decode cX9_shot 5 = .ok (.invokevirtual 164, 3) := by decide +kernel
theorem dX9_shot_8 : decode cX9_shot 8 = .ok (.ifCond .ne 13, 3) := by decide +kernel
theorem dX9_shot_11 : decode cX9_shot 11 = .ok (.new 110, 3) := by decide +kernel
theorem dX9_shot_14 : decode cX9_shot 14 = .ok (.dup, 1) := by decide +kernel
theorem dX9_shot_15 : decode cX9_shot 15 = .ok (.ldc 167, 2) := by decide +kernel
theorem dX9_shot_17 : decode cX9_shot 17 = .ok (.invokespecial 114, 3) := by decide +kernel
theorem dX9_shot_20 : decode cX9_shot 20 = .ok (.athrow, 1) := by decide +kernel
theorem dX9_shot_21 : decode cX9_shot 21 = .ok (.aload_n 0, 1) := by decide +kernel
theorem dX9_shot_22 : decode cX9_shot 22 = .ok (.getfield 10, 3) := by decide +kernel
theorem dX9_shot_25 : decode cX9_shot 25 = .ok (.getfield 115, 3) := by decide +kernel
theorem dX9_shot_28 : decode cX9_shot 28 = .ok (.iload_n 1, 1) := by decide +kernel
theorem dX9_shot_29 : decode cX9_shot 29 = .ok (.invokevirtual 169, 3) := by decide +kernel
theorem dX9_shot_32 : decode cX9_shot 32 = .ok (.ireturn, 1) := by decide +kernel
theorem dX9_feed_0 : decode cX9_feed 0 = .ok (.aload_n 0, 1) := by decide +kernel
theorem dX9_feed_1 : decode cX9_feed 1 = .ok (.getfield 51, 3) := by decide +kernel
theorem dX9_feed_4 : decode cX9_feed 4 = .ok (.iload_n 1, 1) := by decide +kernel
theorem dX9_feed_5 : decode cX9_feed 5 = .ok (.invokevirtual 172, 3) := by decide +kernel
theorem dX9_feed_8 : decode cX9_feed 8 = .ok (.ifCond .ne 13, 3) := by decide +kernel
theorem dX9_feed_11 : decode cX9_feed 11 = .ok (.new 124, 3) := by decide +kernel
theorem dX9_feed_14 : decode cX9_feed 14 = .ok (.dup, 1) := by decide +kernel
theorem dX9_feed_15 : decode cX9_feed 15 = .ok (.ldc 175, 2) := by decide +kernel
theorem dX9_feed_17 : decode cX9_feed 17 = .ok (.invokespecial 128, 3) := by decide +kernel
theorem dX9_feed_20 : decode cX9_feed 20 = .ok (.athrow, 1) := by decide +kernel
theorem dX9_feed_21 : decode cX9_feed 21 = .ok (.aload_n 0, 1) := by decide +kernel
theorem dX9_feed_22 : decode cX9_feed 22 = .ok (.getfield 51, 3) := by decide +kernel
theorem dX9_feed_25 : decode cX9_feed 25 = .ok (.getfield 153, 3) := by decide +kernel
theorem dX9_feed_28 : decode cX9_feed 28 = .ok (.ireturn, 1) := by decide +kernel
theorem dX9_add_0 : decode cX9_add 0 = .ok (.aload_n 0, 1) := by decide +kernel
theorem dX9_add_1 : decode cX9_add 1 = .ok (.getfield 55, 3) := by decide +kernel
theorem dX9_add_4 : decode cX9_add 4 = .ok (.invokevirtual 177, 3) := by decide +kernel
theorem dX9_add_7 : decode cX9_add 7 = .ok (.aload_n 0, 1) := by decide +kernel
theorem dX9_add_8 : decode cX9_add 8 = .ok (.getfield 55, 3) := by decide +kernel
theorem dX9_add_11 : decode cX9_add 11 = .ok (.aload_n 0, 1) := by decide +kernel
theorem dX9_add_12 : decode cX9_add 12 = .ok (.getfield 51, 3) := by decide +kernel
theorem dX9_add_15 : decode cX9_add 15 = .ok (.iconst 0, 1) := by decide +kernel
theorem dX9_add_16 : decode cX9_add 16 = .ok (.aload_n 0, 1) := by decide +kernel
theorem dX9_add_17 : decode cX9_add 17 = .ok (.getfield 51, 3) := by decide +kernel
theorem dX9_add_20 : decode cX9_add 20 = .ok (.getfield 153, 3) := by decide +kernel
theorem dX9_add_23 : decode cX9_add 23 = .ok (.invokevirtual 180, 3) := by decide +kernel
theorem dX9_add_26 : decode cX9_add 26 = .ok (.aload_n 0, 1) := by decide +kernel
theorem dX9_add_27 : decode cX9_add 27 = .ok (.getfield 51, 3) := by decide +kernel
theorem dX9_add_30 : decode cX9_add 30 = .ok (.invokevirtual 177, 3) := by decide +kernel
theorem dX9_add_33 : decode cX9_add 33 = .ok (.aload_n 0, 1) := by decide +kernel
theorem dX9_add_34 : decode cX9_add 34 = .ok (.iload_n 1, 1) := by decide +kernel
theorem dX9_add_35 : decode cX9_add 35 = .ok (.invokevirtual 184, 3) := by decide +kernel
theorem dX9_add_38 : decode cX9_add 38 = .ok (.iload_n 2, 1) := by decide +kernel
theorem dX9_add_39 : decode cX9_add 39 = .ok (.ifCond .lt 8, 3) := by decide +kernel
theorem dX9_add_42 : decode cX9_add 42 = .ok (.iload_n 2, 1) := by decide +kernel
theorem dX9_add_43 : decode cX9_add 43 = .ok (.iconst 2, 1) := by decide +kernel
theorem dX9_add_44 : decode cX9_add 44 = .ok (.if_icmp .le 13, 3) := by decide +kernel
theorem dX9_add_47 : decode cX9_add 47 = .ok (.new 75, 3) := by decide +kernel
theorem dX9_add_50 : decode cX9_add 50 = .ok (.dup, 1) := by decide +kernel
theorem dX9_add_51 : decode cX9_add 51 = .ok (.ldc 187, 2) := by decide +kernel
theorem dX9_add_53 : decode cX9_add 53 = .ok (.invokespecial 79, 3) := by decide +kernel
theorem dX9_add_56 : decode cX9_add 56 = .ok (.athrow, 1) := by decide +kernel
theorem dX9_add_57 : decode cX9_add 57 = .ok (.aload_n 0, 1) := by decide +kernel
theorem dX9_add_58 : decode cX9_add 58 = .ok (.aload_n 0, 1) := by decide +kernel
theorem dX9_add_59 : decode cX9_add 59 = .ok (.getfield 10, 3) := by decide +kernel
theorem dX9_add_62 : decode cX9_add 62 = .ok (.iload_n 1, 1) := by decide +kernel
theorem dX9_add_63 : decode cX9_add 63 = .ok (.iload_n 3, 1) := by decide +kernel
theorem dX9_add_64 : decode cX9_add 64 = .ok (.iload 4, 2) := by decide +kernel
theorem dX9_add_66 : decode cX9_add 66 = .ok (.aload_n 0, 1) := by decide +kernel
theorem dX9_add_67 : decode cX9_add 67 = .ok (.getfield 55, 3) := by decide +kernel
theorem dX9_add_70 : decode cX9_add 70 = .ok (.invokevirtual 189, 3) := by decide +kernel
theorem dX9_add_73 : decode cX9_add 73 = .ok (.invokevirtual 86, 3) := by decide +kernel
theorem dX9_add_76 : decode cX9_add 76 = .ok (.aload_n 0, 1) := by decide +kernel
theorem dX9_add_77 : decode cX9_add 77 = .ok (.getfield 37, 3) := by decide +kernel
theorem dX9_add_80 : decode cX9_add 80 = .ok (.aload_n 0, 1) := by decide +kernel
theorem dX9_add_81 : decode cX9_add 81 = .ok (.getfield 10, 3) := by decide +kernel
theorem dX9_add_84 : decode cX9_add 84 = .ok (.invokevirtual 90, 3) := by decide +kernel
theorem dX9_add_87 : decode cX9_add 87 = .ok (.aload_n 0, 1) := by decide +kernel
theorem dX9_add_88 : decode cX9_add 88 = .ok (.getfield 10, 3) := by decide +kernel
theorem dX9_add_91 : decode cX9_add 91 = .ok (.iload_n 1, 1) := by decide +kernel
theorem dX9_add_92 : decode cX9_add 92 = .ok (.invokevirtual 138, 3) := by decide +kernel
theorem dX9_add_95 : decode cX9_add 95 = .ok (.iload_n 2, 1) := by decide +kernel
theorem dX9_add_96 : decode cX9_add 96 = .ok (.iload_n 3, 1) := by decide +kernel
theorem dX9_add_97 : decode cX9_add 97 = .ok (.iload 4, 2) := by decide +kernel
theorem dX9_add_99 : decode cX9_add 99 = .ok (.aload_n 0, 1) := by decide +kernel
theorem dX9_add_100 : decode cX9_add 100 = .ok (.getfield 55, 3) := by decide +kernel
theorem dX9_add_103 : decode cX9_add 103 = .ok (.invokevirtual 193, 3) := by decide +kernel
theorem dX9_add_106 : decode cX9_add 106 = .ok (.ireturn, 1) := by decide +kernel
theorem dX9_remove_0 : decode cX9_remove 0 = .ok (.aload_n 0, 1) := by decide +kernel
theorem dX9_remove_1 : decode cX9_remove 1 = .ok (.iload_n 1, 1) := by decide +kernel
theorem dX9_remove_2 : decode cX9_remove 2 = .ok (.iload_n 2, 1) := by decide +kernel
theorem dX9_remove_3 : decode cX9_remove 3 = .ok (.invokevirtual 196, 3) := by decide +kernel
theorem dX9_remove_6 : decode cX9_remove 6 = .ok (.aload_n 0, 1) := by decide +kernel
theorem dX9_remove_7 : decode cX9_remove 7 = .ok (.getfield 37, 3) := by decide +kernel
theorem dX9_remove_10 : decode cX9_remove 10 = .ok (.aload_n 0, 1) := by decide +kernel
theorem dX9_remove_11 : decode cX9_remove 11 = .ok (.getfield 10, 3) := by decide +kernel
theorem dX9_remove_14 : decode cX9_remove 14 = .ok (.invokevirtual 90, 3) := by decide +kernel
theorem dX9_remove_17 : decode cX9_remove 17 = .ok (.aload_n 0, 1) := by decide +kernel
theorem dX9_remove_18 : decode cX9_remove 18 = .ok (.getfield 10, 3) := by decide +kernel
theorem dX9_remove_21 : decode cX9_remove 21 = .ok (.iload_n 1, 1) := by decide +kernel
theorem dX9_remove_22 : decode cX9_remove 22 = .ok (.invokevirtual 138, 3) := by decide +kernel
theorem dX9_remove_25 : decode cX9_remove 25 = .ok (.astore_n 3, 1) := by decide +kernel
theorem dX9_remove_26 : decode cX9_remove 26 = .ok (.aload_n 3, 1) := by decide +kernel
theorem dX9_remove_27 : decode cX9_remove 27 = .ok (.iload_n 2, 1) := by decide +kernel
theorem dX9_remove_28 : decode cX9_remove 28 = .ok (.invokevirtual 200, 3) := by decide +kernel
theorem dX9_remove_31 : decode cX9_remove 31 = .ok (.aload_n 3, 1) := by decide +kernel
theorem dX9_remove_32 : decode cX9_remove 32 = .ok (.getfield 142, 3) := by decide +kernel
theorem dX9_remove_35 : decode cX9_remove 35 = .ok (.ireturn, 1) := by decide +kernel
theorem dX9_move_0 : decode cX9_move 0 = .ok (.aload_n 0, 1) := by decide +kernel
theorem dX9_move_1 : decode cX9_move 1 = .ok (.iload_n 1, 1) := by decide +kernel
theorem dX9_move_2 : decode cX9_move 2 = .ok (.iload_n 2, 1) := by decide +kernel
theorem dX9_move_3 : decode cX9_move 3 = .ok (.invokevirtual 196, 3) := by decide +kernel
theorem dX9_move_6 : decode cX9_move 6 = .ok (.aload_n 0, 1) := by decide +kernel
theorem dX9_move_7 : decode cX9_move 7 = .ok (.aload_n 0, 1) := by decide +kernel
theorem dX9_move_8 : decode cX9_move 8 = .ok (.getfield 10, 3) := by decide +kernel
theorem dX9_move_11 : decode cX9_move 11 = .ok (.iload_n 1, 1) := by decide +kernel
theorem dX9_move_12 : decode cX9_move 12 = .ok (.iload_n 2, 1) := by decide +kernel
theorem dX9_move_13 : decode cX9_move 13 = .ok (.iload_n 3, 1) := by decide +kernel
theorem dX9_move_14 : decode cX9_move 14 = .ok (.iload 4, 2) := by decide +kernel
theorem dX9_move_16 : decode cX9_move 16 = .ok (.invokevirtual 203, 3) := by decide +kernel
theorem dX9_move_19 : decode cX9_move 19 = .ok (.invokevirtual 86, 3) := by decide +kernel
theorem dX9_move_22 : decode cX9_move 22 = .ok (.aload_n 0, 1) := by decide +kernel
theorem dX9_move_23 : decode cX9_move 23 = .ok (.getfield 37, 3) := by decide +kernel
theorem dX9_move_26 : decode cX9_move 26 = .ok (.aload_n 0, 1) := by decide +kernel
theorem dX9_move_27 : decode cX9_move 27 = .ok (.getfield 10, 3) := by decide +kernel
theorem dX9_move_30 : decode cX9_move 30 = .ok (.invokevirtual 90, 3) := by decide +kernel
theorem dX9_move_33 : decode cX9_move 33 = .ok (.aload_n 0, 1) := by decide +kernel
theorem dX9_move_34 : decode cX9_move 34 = .ok (.getfield 30, 3) := by decide +kernel
theorem dX9_move_37 : decode cX9_move 37 = .ok (.iload_n 1, 1) := by decide +kernel
theorem dX9_move_38 : decode cX9_move 38 = .ok (.iload_n 2, 1) := by decide +kernel
theorem dX9_move_39 : decode cX9_move 39 = .ok (.iload_n 3, 1) := by decide +kernel
theorem dX9_move_40 : decode cX9_move 40 = .ok (.iload 4, 2) := by decide +kernel
theorem dX9_move_42 : decode cX9_move 42 = .ok (.invokevirtual 207, 3) := by decide +kernel
theorem dX9_move_45 : decode cX9_move 45 = .ok (.ireturn, 1) := by decide +kernel
theorem dX9_split_0 : decode cX9_split 0 = .ok (.aload_n 0, 1) := by decide +kernel
theorem dX9_split_1 : decode cX9_split 1 = .ok (.iload_n 1, 1) := by decide +kernel
theorem dX9_split_2 : decode cX9_split 2 = .ok (.iload_n 2, 1) := by decide +kernel
theorem dX9_split_3 : decode cX9_split 3 = .ok (.invokevirtual 196, 3) := by decide +kernel
theorem dX9_split_6 : decode cX9_split 6 = .ok (.iload_n 3, 1) := by decide +kernel
theorem dX9_split_7 : decode cX9_split 7 = .ok (.ifCond .lt 19, 3) := by decide +kernel
theorem dX9_split_10 : decode cX9_split 10 = .ok (.iload_n 3, 1) := by decide +kernel
theorem dX9_split_11 : decode cX9_split 11 = .ok (.aload_n 0, 1) := by decide +kernel
theorem dX9_split_12 : decode cX9_split 12 = .ok (.getfield 10, 3) := by decide +kernel
theorem dX9_split_15 : decode cX9_split 15 = .ok (.iload_n 1, 1) := by decide +kernel
theorem dX9_split_16 : decode cX9_split 16 = .ok (.invokevirtual 138, 3) := by decide +kernel
theorem dX9_split_19 : decode cX9_split 19 = .ok (.iload_n 2, 1) := by decide +kernel
theorem dX9_split_20 : decode cX9_split 20 = .ok (.invokevirtual 210, 3) := by decide +kernel
theorem dX9_split_23 : decode cX9_split 23 = .ok (.if_icmp .lt 13, 3) := by decide +kernel
theorem dX9_split_26 : decode cX9_split 26 = .ok (.new 110, 3) := by decide +kernel
theorem dX9_split_29 : decode cX9_split 29 = .ok (.dup, 1) := by decide +kernel
theorem dX9_split_30 : decode cX9_split 30 = .ok (.ldc 212, 2) := by decide +kernel
theorem dX9_split_32 : decode cX9_split 32 = .ok (.invokespecial 114, 3) := by decide +kernel
theorem dX9_split_35 : decode cX9_split 35 = .ok (.athrow, 1) := by decide +kernel
theorem dX9_split_36 : decode cX9_split 36 = .ok (.aload_n 0, 1) := by decide +kernel
theorem dX9_split_37 : decode cX9_split 37 = .ok (.aload_n 0, 1) := by decide +kernel
theorem dX9_split_38 : decode cX9_split 38 = .ok (.getfield 30, 3) := by decide +kernel
theorem dX9_split_41 : decode cX9_split 41 = .ok (.iload_n 1, 1) := by decide +kernel
theorem dX9_split_42 : decode cX9_split 42 = .ok (.iload_n 2, 1) := by decide +kernel
theorem dX9_split_43 : decode cX9_split 43 = .ok (.iload_n 3, 1) := by decide +kernel
theorem dX9_split_44 : decode cX9_split 44 = .ok (.invokevirtual 214, 3) := by decide +kernel
theorem dX9_split_47 : decode cX9_split 47 = .ok (.invokevirtual 86, 3) := by decide +kernel
theorem dX9_split_50 : decode cX9_split 50 = .ok (.aload_n 0, 1) := by decide +kernel
theorem dX9_split_51 : decode cX9_split 51 = .ok (.getfield 37, 3) := by decide +kernel
theorem dX9_split_54 : decode cX9_split 54 = .ok (.aload_n 0, 1) := by decide +kernel
theorem dX9_split_55 : decode cX9_split 55 = .ok (.getfield 10, 3) := by decide +kernel
theorem dX9_split_58 : decode cX9_split 58 = .ok (.invokevirtual 90, 3) := by decide +kernel
theorem dX9_split_61 : decode cX9_split 61 = .ok (.aload_n 0, 1) := by decide +kernel
theorem dX9_split_62 : decode cX9_split 62 = .ok (.getfield 30, 3) := by decide +kernel
theorem dX9_split_65 : decode cX9_split 65 = .ok (.iload_n 1, 1) := by decide +kernel
theorem dX9_split_66 : decode cX9_split 66 = .ok (.iload_n 2, 1) := by decide +kernel
theorem dX9_split_67 : decode cX9_split 67 = .ok (.iload_n 3, 1) := by decide +kernel
theorem dX9_split_68 : decode cX9_split 68 = .ok (.invokevirtual 218, 3) := by decide +kernel
theorem dX9_split_71 : decode cX9_split 71 = .ok (.ireturn, 1) := by decide +kernel
theorem dX9_merge_0 : decode cX9_merge 0 = .ok (.aload_n 0, 1) := by decide +kernel
theorem dX9_merge_1 : decode cX9_merge 1 = .ok (.iload_n 1, 1) := by decide +kernel
theorem dX9_merge_2 : decode cX9_merge 2 = .ok (.iload_n 2, 1) := by decide +kernel
theorem dX9_merge_3 : decode cX9_merge 3 = .ok (.invokevirtual 196, 3) := by decide +kernel
theorem dX9_merge_6 : decode cX9_merge 6 = .ok (.aload_n 0, 1) := by decide +kernel
theorem dX9_merge_7 : decode cX9_merge 7 = .ok (.aload_n 0, 1) := by decide +kernel
theorem dX9_merge_8 : decode cX9_merge 8 = .ok (.getfield 21, 3) := by decide +kernel
theorem dX9_merge_11 : decode cX9_merge 11 = .ok (.iload_n 1, 1) := by decide +kernel
theorem dX9_merge_12 : decode cX9_merge 12 = .ok (.iload_n 2, 1) := by decide +kernel
theorem dX9_merge_13 : decode cX9_merge 13 = .ok (.invokevirtual 221, 3) := by decide +kernel
theorem dX9_merge_16 : decode cX9_merge 16 = .ok (.invokevirtual 86, 3) := by decide +kernel
theorem dX9_merge_19 : decode cX9_merge 19 = .ok (.aload_n 0, 1) := by decide +kernel
theorem dX9_merge_20 : decode cX9_merge 20 = .ok (.getfield 37, 3) := by decide +kernel
theorem dX9_merge_23 : decode cX9_merge 23 = .ok (.aload_n 0, 1) := by decide +kernel
theorem dX9_merge_24 : decode cX9_merge 24 = .ok (.getfield 10, 3) := by decide +kernel
theorem dX9_merge_27 : decode cX9_merge 27 = .ok (.invokevirtual 90, 3) := by decide +kernel
theorem dX9_merge_30 : decode cX9_merge 30 = .ok (.aload_n 0, 1) := by decide +kernel
theorem dX9_merge_31 : decode cX9_merge 31 = .ok (.getfield 30, 3) := by decide +kernel
theorem dX9_merge_34 : decode cX9_merge 34 = .ok (.iload_n 1, 1) := by decide +kernel
theorem dX9_merge_35 : decode cX9_merge 35 = .ok (.iload_n 2, 1) := by decide +kernel
theorem dX9_merge_36 : decode cX9_merge 36 = .ok (.invokevirtual 224, 3) := by decide +kernel
theorem dX9_merge_39 : decode cX9_merge 39 = .ok (.ireturn, 1) := by decide +kernel
theorem dX9_snap_0 : decode cX9_snap 0 = .ok (.aload_n 0, 1) := by decide +kernel
theorem dX9_snap_1 : decode cX9_snap 1 = .ok (.iload_n 1, 1) := by decide +kernel
theorem dX9_snap_2 : decode cX9_snap 2 = .ok (.iload_n 2, 1) := by decide +kernel
theorem dX9_snap_3 : decode cX9_snap 3 = .ok (.invokevirtual 196, 3) := by decide +kernel
theorem dX9_snap_6 : decode cX9_snap 6 = .ok (.aload_n 0, 1) := by decide +kernel
theorem dX9_snap_7 : decode cX9_snap 7 = .ok (.aload_n 0, 1) := by decide +kernel
theorem dX9_snap_8 : decode cX9_snap 8 = .ok (.getfield 30, 3) := by decide +kernel
theorem dX9_snap_11 : decode cX9_snap 11 = .ok (.iload_n 1, 1) := by decide +kernel
theorem dX9_snap_12 : decode cX9_snap 12 = .ok (.iload_n 2, 1) := by decide +kernel
theorem dX9_snap_13 : decode cX9_snap 13 = .ok (.invokevirtual 227, 3) := by decide +kernel
theorem dX9_snap_16 : decode cX9_snap 16 = .ok (.invokevirtual 86, 3) := by decide +kernel
theorem dX9_snap_19 : decode cX9_snap 19 = .ok (.aload_n 0, 1) := by decide +kernel
theorem dX9_snap_20 : decode cX9_snap 20 = .ok (.getfield 37, 3) := by decide +kernel
theorem dX9_snap_23 : decode cX9_snap 23 = .ok (.aload_n 0, 1) := by decide +kernel
theorem dX9_snap_24 : decode cX9_snap 24 = .ok (.getfield 10, 3) := by decide +kernel
theorem dX9_snap_27 : decode cX9_snap 27 = .ok (.invokevirtual 90, 3) := by decide +kernel
theorem dX9_snap_30 : decode cX9_snap 30 = .ok (.aload_n 0, 1) := by decide +kernel
theorem dX9_snap_31 : decode cX9_snap 31 = .ok (.getfield 30, 3) := by decide +kernel
theorem dX9_snap_34 : decode cX9_snap 34 = .ok (.iload_n 1, 1) := by decide +kernel
theorem dX9_snap_35 : decode cX9_snap 35 = .ok (.iload_n 2, 1) := by decide +kernel
theorem dX9_snap_36 : decode cX9_snap 36 = .ok (.invokevirtual 230, 3) := by decide +kernel
theorem dX9_snap_39 : decode cX9_snap 39 = .ok (.ireturn, 1) := by decide +kernel
theorem dX9_fit_0 : decode cX9_fit 0 = .ok (.aload_n 0, 1) := by decide +kernel
theorem dX9_fit_1 : decode cX9_fit 1 = .ok (.iload_n 1, 1) := by decide +kernel
theorem dX9_fit_2 : decode cX9_fit 2 = .ok (.iload_n 2, 1) := by decide +kernel
theorem dX9_fit_3 : decode cX9_fit 3 = .ok (.invokevirtual 196, 3) := by decide +kernel
theorem dX9_fit_6 : decode cX9_fit 6 = .ok (.aload_n 0, 1) := by decide +kernel
theorem dX9_fit_7 : decode cX9_fit 7 = .ok (.getfield 37, 3) := by decide +kernel
theorem dX9_fit_10 : decode cX9_fit 10 = .ok (.aload_n 0, 1) := by decide +kernel
theorem dX9_fit_11 : decode cX9_fit 11 = .ok (.getfield 10, 3) := by decide +kernel
theorem dX9_fit_14 : decode cX9_fit 14 = .ok (.invokevirtual 90, 3) := by decide +kernel
theorem dX9_fit_17 : decode cX9_fit 17 = .ok (.aload_n 0, 1) := by decide +kernel
theorem dX9_fit_18 : decode cX9_fit 18 = .ok (.getfield 30, 3) := by decide +kernel
theorem dX9_fit_21 : decode cX9_fit 21 = .ok (.iload_n 1, 1) := by decide +kernel
theorem dX9_fit_22 : decode cX9_fit 22 = .ok (.iload_n 2, 1) := by decide +kernel
theorem dX9_fit_23 : decode cX9_fit 23 = .ok (.invokevirtual 233, 3) := by decide +kernel
theorem dX9_fit_26 : decode cX9_fit 26 = .ok (.ireturn, 1) := by decide +kernel
theorem dX9_retime_0 : decode cX9_retime 0 = .ok (.iload_n 1, 1) := by decide +kernel
theorem dX9_retime_1 : decode cX9_retime 1 = .ok (.iconst (-1), 1) := by decide +kernel
theorem dX9_retime_2 : decode cX9_retime 2 = .ok (.if_icmp .eq 8, 3) := by decide +kernel
theorem dX9_retime_5 : decode cX9_retime 5 = .ok (.aload_n 0, 1) := by decide +kernel
theorem dX9_retime_6 : decode cX9_retime 6 = .ok (.iload_n 1, 1) := by decide +kernel
theorem dX9_retime_7 : decode cX9_retime 7 = .ok (.invokevirtual 184, 3) := by decide +kernel
theorem dX9_retime_10 : decode cX9_retime 10 = .ok (.iload_n 2, 1) := by decide +kernel
theorem dX9_retime_11 : decode cX9_retime 11 = .ok (.iload_n 3, 1) := by decide +kernel
theorem dX9_retime_12 : decode cX9_retime 12 = .ok (.iload 4, 2) := by decide +kernel
theorem dX9_retime_14 : decode cX9_retime 14 = .ok (.iload 5, 2) := by decide +kernel
theorem dX9_retime_16 : decode cX9_retime 16 = .ok (.invokestatic 236, 3) := by decide +kernel
theorem dX9_retime_19 : decode cX9_retime 19 = .ok (.ifCond .ne 13, 3) := by decide +kernel
theorem dX9_retime_22 : decode cX9_retime 22 = .ok (.new 75, 3) := by decide +kernel
theorem dX9_retime_25 : decode cX9_retime 25 = .ok (.dup, 1) := by decide +kernel
theorem dX9_retime_26 : decode cX9_retime 26 = .ok (.ldc 240, 2) := by decide +kernel
theorem dX9_retime_28 : decode cX9_retime 28 = .ok (.invokespecial 79, 3) := by decide +kernel
theorem dX9_retime_31 : decode cX9_retime 31 = .ok (.athrow, 1) := by decide +kernel
theorem dX9_retime_32 : decode cX9_retime 32 = .ok (.new 242, 3) := by decide +kernel
theorem dX9_retime_35 : decode cX9_retime 35 = .ok (.dup, 1) := by decide +kernel
theorem dX9_retime_36 : decode cX9_retime 36 = .ok (.iload_n 2, 1) := by decide +kernel
theorem dX9_retime_37 : decode cX9_retime 37 = .ok (.iload_n 3, 1) := by decide +kernel
theorem dX9_retime_38 : decode cX9_retime 38 = .ok (.iload 4, 2) := by decide +kernel
theorem dX9_retime_40 : decode cX9_retime 40 = .ok (.iload 5, 2) := by decide +kernel
theorem dX9_retime_42 : decode cX9_retime 42 = .ok (.invokespecial 244, 3) := by decide +kernel
theorem dX9_retime_45 : decode cX9_retime 45 = .ok (.astore 6, 2) := by decide +kernel
theorem dX9_retime_47 : decode cX9_retime 47 = .ok (.aload_n 0, 1) := by decide +kernel
theorem dX9_retime_48 : decode cX9_retime 48 = .ok (.aload_n 0, 1) := by decide +kernel
theorem dX9_retime_49 : decode cX9_retime 49 = .ok (.getfield 30, 3) := by decide +kernel
theorem dX9_retime_52 : decode cX9_retime 52 = .ok (.iload_n 1, 1) := by decide +kernel
theorem dX9_retime_53 : decode cX9_retime 53 = .ok (.aload 6, 2) := by decide +kernel
theorem dX9_retime_55 : decode cX9_retime 55 = .ok (.invokevirtual 247, 3) := by decide +kernel
theorem dX9_retime_58 : decode cX9_retime 58 = .ok (.invokevirtual 86, 3) := by decide +kernel
theorem dX9_retime_61 : decode cX9_retime 61 = .ok (.aload_n 0, 1) := by decide +kernel
theorem dX9_retime_62 : decode cX9_retime 62 = .ok (.getfield 37, 3) := by decide +kernel
theorem dX9_retime_65 : decode cX9_retime 65 = .ok (.aload_n 0, 1) := by decide +kernel
theorem dX9_retime_66 : decode cX9_retime 66 = .ok (.getfield 10, 3) := by decide +kernel
theorem dX9_retime_69 : decode cX9_retime 69 = .ok (.invokevirtual 90, 3) := by decide +kernel
theorem dX9_retime_72 : decode cX9_retime 72 = .ok (.aload_n 0, 1) := by decide +kernel
theorem dX9_retime_73 : decode cX9_retime 73 = .ok (.getfield 30, 3) := by decide +kernel
theorem dX9_retime_76 : decode cX9_retime 76 = .ok (.iload_n 1, 1) := by decide +kernel
theorem dX9_retime_77 : decode cX9_retime 77 = .ok (.aload 6, 2) := by decide +kernel
theorem dX9_retime_79 : decode cX9_retime 79 = .ok (.invokevirtual 251, 3) := by decide +kernel
theorem dX9_retime_82 : decode cX9_retime 82 = .ok (.ireturn, 1) := by decide +kernel
theorem dX9_caption_0 : decode cX9_caption 0 = .ok (.aload_n 0, 1) := by decide +kernel
theorem dX9_caption_1 : decode cX9_caption 1 = .ok (.iload_n 1, 1) := by decide +kernel
theorem dX9_caption_2 : decode cX9_caption 2 = .ok (.iload_n 2, 1) := by decide +kernel
theorem dX9_caption_3 : decode cX9_caption 3 = .ok (.invokevirtual 196, 3) := by decide +kernel
theorem dX9_caption_6 : decode cX9_caption 6 = .ok (.aload_n 0, 1) := by decide +kernel
theorem dX9_caption_7 : decode cX9_caption 7 = .ok (.getfield 10, 3) := by decide +kernel
theorem dX9_caption_10 : decode cX9_caption 10 = .ok (.iload_n 1, 1) := by decide +kernel
theorem dX9_caption_11 : decode cX9_caption 11 = .ok (.invokevirtual 138, 3) := by decide +kernel
theorem dX9_caption_14 : decode cX9_caption 14 = .ok (.astore 4, 2) := by decide +kernel
theorem dX9_caption_16 : decode cX9_caption 16 = .ok (.iload_n 3, 1) := by decide +kernel
theorem dX9_caption_17 : decode cX9_caption 17 = .ok (.tableswitch 162 0 11 #[63, 70, 77, 84, 91, 101, 111, 121, 128, 135, 145, 152], 63) := by decide +kernel
theorem dX9_caption_80 : decode cX9_caption 80 = .ok (.aload 4, 2) := by decide +kernel
theorem dX9_caption_82 : decode cX9_caption 82 = .ok (.iload_n 2, 1) := by decide +kernel
theorem dX9_caption_83 : decode cX9_caption 83 = .ok (.invokevirtual 254, 3) := by decide +kernel
theorem dX9_caption_86 : decode cX9_caption 86 = .ok (.ireturn, 1) := by decide +kernel
theorem dX9_caption_87 : decode cX9_caption 87 = .ok (.aload 4, 2) := by decide +kernel
theorem dX9_caption_89 : decode cX9_caption 89 = .ok (.iload_n 2, 1) := by decide +kernel
theorem dX9_caption_90 : decode cX9_caption 90 = .ok (.invokevirtual 257, 3) := by decide +kernel
theorem dX9_caption_93 : decode cX9_caption 93 = .ok (.ireturn, 1) := by decide +kernel
theorem dX9_caption_94 : decode cX9_caption 94 = .ok (.aload 4, 2) := by decide +kernel
theorem dX9_caption_96 : decode cX9_caption 96 = .ok (.iload_n 2, 1) := by decide +kernel
theorem dX9_caption_97 : decode cX9_caption 97 = .ok (.invokevirtual 260, 3) := by decide +kernel
theorem dX9_caption_100 : decode cX9_caption 100 = .ok (.ireturn, 1) := by decide +kernel
theorem dX9_caption_101 : decode cX9_caption 101 = .ok (.aload 4, 2) := by decide +kernel
theorem dX9_caption_103 : decode cX9_caption 103 = .ok (.iload_n 2, 1) := by decide +kernel
theorem dX9_caption_104 : decode cX9_caption 104 = .ok (.invokevirtual 263, 3) := by decide +kernel
theorem dX9_caption_107 : decode cX9_caption 107 = .ok (.ireturn, 1) := by decide +kernel
theorem dX9_caption_108 : decode cX9_caption 108 = .ok (.aload_n 0, 1) := by decide +kernel
theorem dX9_caption_109 : decode cX9_caption 109 = .ok (.getfield 21, 3) := by decide +kernel
theorem dX9_caption_112 : decode cX9_caption 112 = .ok (.iload_n 1, 1) := by decide +kernel
theorem dX9_caption_113 : decode cX9_caption 113 = .ok (.iload_n 2, 1) := by decide +kernel
theorem dX9_caption_114 : decode cX9_caption 114 = .ok (.invokevirtual 266, 3) := by decide +kernel
theorem dX9_caption_117 : decode cX9_caption 117 = .ok (.ireturn, 1) := by decide +kernel
theorem dX9_caption_118 : decode cX9_caption 118 = .ok (.aload_n 0, 1) := by decide +kernel
theorem dX9_caption_119 : decode cX9_caption 119 = .ok (.getfield 21, 3) := by decide +kernel
theorem dX9_caption_122 : decode cX9_caption 122 = .ok (.iload_n 1, 1) := by decide +kernel
theorem dX9_caption_123 : decode cX9_caption 123 = .ok (.iload_n 2, 1) := by decide +kernel
theorem dX9_caption_124 : decode cX9_caption 124 = .ok (.invokevirtual 269, 3) := by decide +kernel
theorem dX9_caption_127 : decode cX9_caption 127 = .ok (.ireturn, 1) := by decide +kernel
theorem dX9_caption_128 : decode cX9_caption 128 = .ok (.aload_n 0, 1) := by decide +kernel
theorem dX9_caption_129 : decode cX9_caption 129 = .ok (.getfield 21, 3) := by decide +kernel
theorem dX9_caption_132 : decode cX9_caption 132 = .ok (.iload_n 1, 1) := by decide +kernel
theorem dX9_caption_133 : decode cX9_caption 133 = .ok (.iload_n 2, 1) := by decide +kernel
theorem dX9_caption_134 : decode cX9_caption 134 = .ok (.invokevirtual 272, 3) := by decide +kernel
theorem dX9_caption_137 : decode cX9_caption 137 = .ok (.ireturn, 1) := by decide +kernel
theorem dX9_caption_138 : decode cX9_caption 138 = .ok (.aload 4, 2) := by decide +kernel
theorem dX9_caption_140 : decode cX9_caption 140 = .ok (.iload_n 2, 1) := by decide +kernel
theorem dX9_caption_141 : decode cX9_caption 141 = .ok (.invokevirtual 210, 3) := by decide +kernel
theorem dX9_caption_144 : decode cX9_caption 144 = .ok (.ireturn, 1) := by decide +kernel
theorem dX9_caption_145 : decode cX9_caption 145 = .ok (.aload 4, 2) := by decide +kernel
theorem dX9_caption_147 : decode cX9_caption 147 = .ok (.iload_n 2, 1) := by decide +kernel
theorem dX9_caption_148 : decode cX9_caption 148 = .ok (.invokevirtual 275, 3) := by decide +kernel
theorem dX9_caption_151 : decode cX9_caption 151 = .ok (.ireturn, 1) := by decide +kernel
theorem dX9_caption_152 : decode cX9_caption 152 = .ok (.aload_n 0, 1) := by decide +kernel
theorem dX9_caption_153 : decode cX9_caption 153 = .ok (.getfield 21, 3) := by decide +kernel
theorem dX9_caption_156 : decode cX9_caption 156 = .ok (.iload_n 1, 1) := by decide +kernel
theorem dX9_caption_157 : decode cX9_caption 157 = .ok (.iload_n 2, 1) := by decide +kernel
theorem dX9_caption_158 : decode cX9_caption 158 = .ok (.invokevirtual 278, 3) := by decide +kernel
theorem dX9_caption_161 : decode cX9_caption 161 = .ok (.ireturn, 1) := by decide +kernel
theorem dX9_caption_162 : decode cX9_caption 162 = .ok (.aload 4, 2) := by decide +kernel
theorem dX9_caption_164 : decode cX9_caption 164 = .ok (.iload_n 2, 1) := by decide +kernel
theorem dX9_caption_165 : decode cX9_caption 165 = .ok (.invokevirtual 281, 3) := by decide +kernel
theorem dX9_caption_168 : decode cX9_caption 168 = .ok (.ireturn, 1) := by decide +kernel
theorem dX9_caption_169 : decode cX9_caption 169 = .ok (.aload_n 0, 1) := by decide +kernel
theorem dX9_caption_170 : decode cX9_caption 170 = .ok (.getfield 21, 3) := by decide +kernel
theorem dX9_caption_173 : decode cX9_caption 173 = .ok (.iload_n 1, 1) := by decide +kernel
theorem dX9_caption_174 : decode cX9_caption 174 = .ok (.iload_n 2, 1) := by decide +kernel
theorem dX9_caption_175 : decode cX9_caption 175 = .ok (.invokevirtual 284, 3) := by decide +kernel
theorem dX9_caption_178 : decode cX9_caption 178 = .ok (.ireturn, 1) := by decide +kernel
theorem dX9_caption_179 : decode cX9_caption 179 = .ok (.new 75, 3) := by decide +kernel
theorem dX9_caption_182 : decode cX9_caption 182 = .ok (.dup, 1) := by decide +kernel
theorem dX9_caption_183 : decode cX9_caption 183 = .ok (.ldc 159, 2) := by decide +kernel
theorem dX9_caption_185 : decode cX9_caption 185 = .ok (.invokespecial 79, 3) := by decide +kernel
theorem dX9_caption_188 : decode cX9_caption 188 = .ok (.athrow, 1) := by decide +kernel
theorem dX9_letter_0 : decode cX9_letter 0 = .ok (.aload_n 0, 1) := by decide +kernel
theorem dX9_letter_1 : decode cX9_letter 1 = .ok (.iload_n 1, 1) := by decide +kernel
theorem dX9_letter_2 : decode cX9_letter 2 = .ok (.iload_n 2, 1) := by decide +kernel
theorem dX9_letter_3 : decode cX9_letter 3 = .ok (.invokevirtual 196, 3) := by decide +kernel
theorem dX9_letter_6 : decode cX9_letter 6 = .ok (.aload_n 0, 1) := by decide +kernel
theorem dX9_letter_7 : decode cX9_letter 7 = .ok (.getfield 10, 3) := by decide +kernel
theorem dX9_letter_10 : decode cX9_letter 10 = .ok (.iload_n 1, 1) := by decide +kernel
theorem dX9_letter_11 : decode cX9_letter 11 = .ok (.invokevirtual 138, 3) := by decide +kernel
theorem dX9_letter_14 : decode cX9_letter 14 = .ok (.iload_n 2, 1) := by decide +kernel
theorem dX9_letter_15 : decode cX9_letter 15 = .ok (.iload_n 3, 1) := by decide +kernel
theorem dX9_letter_16 : decode cX9_letter 16 = .ok (.invokevirtual 287, 3) := by decide +kernel
theorem dX9_letter_19 : decode cX9_letter 19 = .ok (.istore 4, 2) := by decide +kernel
theorem dX9_letter_21 : decode cX9_letter 21 = .ok (.iload 4, 2) := by decide +kernel
theorem dX9_letter_23 : decode cX9_letter 23 = .ok (.iconst (-1), 1) := by decide +kernel
theorem dX9_letter_24 : decode cX9_letter 24 = .ok (.if_icmp .ne 13, 3) := by decide +kernel
theorem dX9_letter_27 : decode cX9_letter 27 = .ok (.new 290, 3) := by decide +kernel
theorem dX9_letter_30 : decode cX9_letter 30 = .ok (.dup, 1) := by decide +kernel
theorem dX9_letter_31 : decode cX9_letter 31 = .ok (.ldc 212, 2) := by decide +kernel
theorem dX9_letter_33 : decode cX9_letter 33 = .ok (.invokespecial 292, 3) := by decide +kernel
theorem dX9_letter_36 : decode cX9_letter 36 = .ok (.athrow, 1) := by decide +kernel
theorem dX9_letter_37 : decode cX9_letter 37 = .ok (.iload 4, 2) := by decide +kernel
theorem dX9_letter_39 : decode cX9_letter 39 = .ok (.i2c, 1) := by decide +kernel
theorem dX9_letter_40 : decode cX9_letter 40 = .ok (.ireturn, 1) := by decide +kernel
theorem dX9_shown_0 : decode cX9_shown 0 = .ok (.aload_n 0, 1) := by decide +kernel
theorem dX9_shown_1 : decode cX9_shown 1 = .ok (.iload_n 1, 1) := by decide +kernel
theorem dX9_shown_2 : decode cX9_shown 2 = .ok (.invokevirtual 184, 3) := by decide +kernel
theorem dX9_shown_5 : decode cX9_shown 5 = .ok (.aload_n 0, 1) := by decide +kernel
theorem dX9_shown_6 : decode cX9_shown 6 = .ok (.getfield 10, 3) := by decide +kernel
theorem dX9_shown_9 : decode cX9_shown 9 = .ok (.iload_n 2, 1) := by decide +kernel
theorem dX9_shown_10 : decode cX9_shown 10 = .ok (.invokevirtual 164, 3) := by decide +kernel
theorem dX9_shown_13 : decode cX9_shown 13 = .ok (.ifCond .ne 13, 3) := by decide +kernel
theorem dX9_shown_16 : decode cX9_shown 16 = .ok (.new 110, 3) := by decide +kernel
theorem dX9_shown_19 : decode cX9_shown 19 = .ok (.dup, 1) := by decide +kernel
theorem dX9_shown_20 : decode cX9_shown 20 = .ok (.ldc 167, 2) := by decide +kernel
theorem dX9_shown_22 : decode cX9_shown 22 = .ok (.invokespecial 114, 3) := by decide +kernel
theorem dX9_shown_25 : decode cX9_shown 25 = .ok (.athrow, 1) := by decide +kernel
theorem dX9_shown_26 : decode cX9_shown 26 = .ok (.aload_n 0, 1) := by decide +kernel
theorem dX9_shown_27 : decode cX9_shown 27 = .ok (.getfield 10, 3) := by decide +kernel
theorem dX9_shown_30 : decode cX9_shown 30 = .ok (.iload_n 1, 1) := by decide +kernel
theorem dX9_shown_31 : decode cX9_shown 31 = .ok (.invokevirtual 138, 3) := by decide +kernel
theorem dX9_shown_34 : decode cX9_shown 34 = .ok (.iload_n 2, 1) := by decide +kernel
theorem dX9_shown_35 : decode cX9_shown 35 = .ok (.invokevirtual 293, 3) := by decide +kernel
theorem dX9_shown_38 : decode cX9_shown 38 = .ok (.istore_n 3, 1) := by decide +kernel
theorem dX9_shown_39 : decode cX9_shown 39 = .ok (.iload_n 3, 1) := by decide +kernel
theorem dX9_shown_40 : decode cX9_shown 40 = .ok (.iconst (-1), 1) := by decide +kernel
theorem dX9_shown_41 : decode cX9_shown 41 = .ok (.if_icmp .ne 14, 3) := by decide +kernel
theorem dX9_shown_44 : decode cX9_shown 44 = .ok (.new 290, 3) := by decide +kernel
theorem dX9_shown_47 : decode cX9_shown 47 = .ok (.dup, 1) := by decide +kernel
theorem dX9_shown_48 : decode cX9_shown 48 = .ok (.ldc_w 296, 3) := by decide +kernel
theorem dX9_shown_51 : decode cX9_shown 51 = .ok (.invokespecial 292, 3) := by decide +kernel
theorem dX9_shown_54 : decode cX9_shown 54 = .ok (.athrow, 1) := by decide +kernel
theorem dX9_shown_55 : decode cX9_shown 55 = .ok (.iload_n 3, 1) := by decide +kernel
theorem dX9_shown_56 : decode cX9_shown 56 = .ok (.ireturn, 1) := by decide +kernel
theorem dX9_track_0 : decode cX9_track 0 = .ok (.aload_n 0, 1) := by decide +kernel
theorem dX9_track_1 : decode cX9_track 1 = .ok (.iload_n 1, 1) := by decide +kernel
theorem dX9_track_2 : decode cX9_track 2 = .ok (.invokevirtual 184, 3) := by decide +kernel
theorem dX9_track_5 : decode cX9_track 5 = .ok (.iload_n 2, 1) := by decide +kernel
theorem dX9_track_6 : decode cX9_track 6 = .ok (.tableswitch 146 0 8 #[50, 62, 74, 84, 95, 106, 117, 128, 137], 50) := by decide +kernel
theorem dX9_track_56 : decode cX9_track 56 = .ok (.aload_n 0, 1) := by decide +kernel
theorem dX9_track_57 : decode cX9_track 57 = .ok (.getfield 10, 3) := by decide +kernel
theorem dX9_track_60 : decode cX9_track 60 = .ok (.iload_n 1, 1) := by decide +kernel
theorem dX9_track_61 : decode cX9_track 61 = .ok (.invokevirtual 138, 3) := by decide +kernel
theorem dX9_track_64 : decode cX9_track 64 = .ok (.invokevirtual 298, 3) := by decide +kernel
theorem dX9_track_67 : decode cX9_track 67 = .ok (.ireturn, 1) := by decide +kernel
theorem dX9_track_68 : decode cX9_track 68 = .ok (.aload_n 0, 1) := by decide +kernel
theorem dX9_track_69 : decode cX9_track 69 = .ok (.getfield 10, 3) := by decide +kernel
theorem dX9_track_72 : decode cX9_track 72 = .ok (.iload_n 1, 1) := by decide +kernel
theorem dX9_track_73 : decode cX9_track 73 = .ok (.invokevirtual 138, 3) := by decide +kernel
theorem dX9_track_76 : decode cX9_track 76 = .ok (.invokevirtual 301, 3) := by decide +kernel
theorem dX9_track_79 : decode cX9_track 79 = .ok (.ireturn, 1) := by decide +kernel
theorem dX9_track_80 : decode cX9_track 80 = .ok (.aload_n 0, 1) := by decide +kernel
theorem dX9_track_81 : decode cX9_track 81 = .ok (.getfield 21, 3) := by decide +kernel
theorem dX9_track_84 : decode cX9_track 84 = .ok (.iload_n 1, 1) := by decide +kernel
theorem dX9_track_85 : decode cX9_track 85 = .ok (.iconst 1, 1) := by decide +kernel
theorem dX9_track_86 : decode cX9_track 86 = .ok (.invokevirtual 149, 3) := by decide +kernel
theorem dX9_track_89 : decode cX9_track 89 = .ok (.ireturn, 1) := by decide +kernel
theorem dX9_track_90 : decode cX9_track 90 = .ok (.aload_n 0, 1) := by decide +kernel
theorem dX9_track_91 : decode cX9_track 91 = .ok (.getfield 21, 3) := by decide +kernel
theorem dX9_track_94 : decode cX9_track 94 = .ok (.iload_n 1, 1) := by decide +kernel
theorem dX9_track_95 : decode cX9_track 95 = .ok (.bipush 6, 2) := by decide +kernel
theorem dX9_track_97 : decode cX9_track 97 = .ok (.invokevirtual 149, 3) := by decide +kernel
theorem dX9_track_100 : decode cX9_track 100 = .ok (.ireturn, 1) := by decide +kernel
theorem dX9_track_101 : decode cX9_track 101 = .ok (.aload_n 0, 1) := by decide +kernel
theorem dX9_track_102 : decode cX9_track 102 = .ok (.getfield 21, 3) := by decide +kernel
theorem dX9_track_105 : decode cX9_track 105 = .ok (.iload_n 1, 1) := by decide +kernel
theorem dX9_track_106 : decode cX9_track 106 = .ok (.bipush 8, 2) := by decide +kernel
theorem dX9_track_108 : decode cX9_track 108 = .ok (.invokevirtual 149, 3) := by decide +kernel
theorem dX9_track_111 : decode cX9_track 111 = .ok (.ireturn, 1) := by decide +kernel
theorem dX9_track_112 : decode cX9_track 112 = .ok (.aload_n 0, 1) := by decide +kernel
theorem dX9_track_113 : decode cX9_track 113 = .ok (.getfield 21, 3) := by decide +kernel
theorem dX9_track_116 : decode cX9_track 116 = .ok (.iload_n 1, 1) := by decide +kernel
theorem dX9_track_117 : decode cX9_track 117 = .ok (.bipush 16, 2) := by decide +kernel
theorem dX9_track_119 : decode cX9_track 119 = .ok (.invokevirtual 149, 3) := by decide +kernel
theorem dX9_track_122 : decode cX9_track 122 = .ok (.ireturn, 1) := by decide +kernel
theorem dX9_track_123 : decode cX9_track 123 = .ok (.aload_n 0, 1) := by decide +kernel
theorem dX9_track_124 : decode cX9_track 124 = .ok (.getfield 21, 3) := by decide +kernel
theorem dX9_track_127 : decode cX9_track 127 = .ok (.iload_n 1, 1) := by decide +kernel
theorem dX9_track_128 : decode cX9_track 128 = .ok (.bipush 32, 2) := by decide +kernel
theorem dX9_track_130 : decode cX9_track 130 = .ok (.invokevirtual 149, 3) := by decide +kernel
theorem dX9_track_133 : decode cX9_track 133 = .ok (.ireturn, 1) := by decide +kernel
theorem dX9_track_134 : decode cX9_track 134 = .ok (.aload_n 0, 1) := by decide +kernel
theorem dX9_track_135 : decode cX9_track 135 = .ok (.getfield 21, 3) := by decide +kernel
theorem dX9_track_138 : decode cX9_track 138 = .ok (.iload_n 1, 1) := by decide +kernel
theorem dX9_track_139 : decode cX9_track 139 = .ok (.invokevirtual 304, 3) := by decide +kernel
theorem dX9_track_142 : decode cX9_track 142 = .ok (.ireturn, 1) := by decide +kernel
theorem dX9_track_143 : decode cX9_track 143 = .ok (.aload_n 0, 1) := by decide +kernel
theorem dX9_track_144 : decode cX9_track 144 = .ok (.getfield 21, 3) := by decide +kernel
theorem dX9_track_147 : decode cX9_track 147 = .ok (.iload_n 1, 1) := by decide +kernel
theorem dX9_track_148 : decode cX9_track 148 = .ok (.invokevirtual 307, 3) := by decide +kernel
theorem dX9_track_151 : decode cX9_track 151 = .ok (.ireturn, 1) := by decide +kernel
theorem dX9_track_152 : decode cX9_track 152 = .ok (.new 75, 3) := by decide +kernel
theorem dX9_track_155 : decode cX9_track 155 = .ok (.dup, 1) := by decide +kernel
theorem dX9_track_156 : decode cX9_track 156 = .ok (.ldc 159, 2) := by decide +kernel
theorem dX9_track_158 : decode cX9_track 158 = .ok (.invokespecial 79, 3) := by decide +kernel
theorem dX9_track_161 : decode cX9_track 161 = .ok (.athrow, 1) := by decide +kernel
theorem dX9_fastest_0 : decode cX9_fastest 0 = .ok (.aload_n 0, 1) := by decide +kernel
theorem dX9_fastest_1 : decode cX9_fastest 1 = .ok (.iload_n 1, 1) := by decide +kernel
theorem dX9_fastest_2 : decode cX9_fastest 2 = .ok (.invokevirtual 184, 3) := by decide +kernel
theorem dX9_fastest_5 : decode cX9_fastest 5 = .ok (.aload_n 0, 1) := by decide +kernel
theorem dX9_fastest_6 : decode cX9_fastest 6 = .ok (.getfield 10, 3) := by decide +kernel
theorem dX9_fastest_9 : decode cX9_fastest 9 = .ok (.iload_n 1, 1) := by decide +kernel
theorem dX9_fastest_10 : decode cX9_fastest 10 = .ok (.invokevirtual 138, 3) := by decide +kernel
theorem dX9_fastest_13 : decode cX9_fastest 13 = .ok (.invokevirtual 310, 3) := by decide +kernel
theorem dX9_fastest_16 : decode cX9_fastest 16 = .ok (.istore_n 2, 1) := by decide +kernel
theorem dX9_fastest_17 : decode cX9_fastest 17 = .ok (.iload_n 2, 1) := by decide +kernel
theorem dX9_fastest_18 : decode cX9_fastest 18 = .ok (.iconst (-1), 1) := by decide +kernel
theorem dX9_fastest_19 : decode cX9_fastest 19 = .ok (.if_icmp .ne 14, 3) := by decide +kernel
theorem dX9_fastest_22 : decode cX9_fastest 22 = .ok (.new 290, 3) := by decide +kernel
theorem dX9_fastest_25 : decode cX9_fastest 25 = .ok (.dup, 1) := by decide +kernel
theorem dX9_fastest_26 : decode cX9_fastest 26 = .ok (.ldc_w 313, 3) := by decide +kernel
theorem dX9_fastest_29 : decode cX9_fastest 29 = .ok (.invokespecial 292, 3) := by decide +kernel
theorem dX9_fastest_32 : decode cX9_fastest 32 = .ok (.athrow, 1) := by decide +kernel
theorem dX9_fastest_33 : decode cX9_fastest 33 = .ok (.iload_n 2, 1) := by decide +kernel
theorem dX9_fastest_34 : decode cX9_fastest 34 = .ok (.ireturn, 1) := by decide +kernel
theorem dX9_speed_0 : decode cX9_speed 0 = .ok (.aload_n 0, 1) := by decide +kernel
theorem dX9_speed_1 : decode cX9_speed 1 = .ok (.iload_n 1, 1) := by decide +kernel
theorem dX9_speed_2 : decode cX9_speed 2 = .ok (.invokevirtual 184, 3) := by decide +kernel
theorem dX9_speed_5 : decode cX9_speed 5 = .ok (.aload_n 0, 1) := by decide +kernel
theorem dX9_speed_6 : decode cX9_speed 6 = .ok (.getfield 10, 3) := by decide +kernel
theorem dX9_speed_9 : decode cX9_speed 9 = .ok (.iload_n 1, 1) := by decide +kernel
theorem dX9_speed_10 : decode cX9_speed 10 = .ok (.invokevirtual 138, 3) := by decide +kernel
theorem dX9_speed_13 : decode cX9_speed 13 = .ok (.invokevirtual 298, 3) := by decide +kernel
theorem dX9_speed_16 : decode cX9_speed 16 = .ok (.istore_n 2, 1) := by decide +kernel
theorem dX9_speed_17 : decode cX9_speed 17 = .ok (.iload_n 2, 1) := by decide +kernel
theorem dX9_speed_18 : decode cX9_speed 18 = .ok (.ifCond .gt 14, 3) := by decide +kernel
theorem dX9_speed_21 : decode cX9_speed 21 = .ok (.new 315, 3) := by decide +kernel
theorem dX9_speed_24 : decode cX9_speed 24 = .ok (.dup, 1) := by decide +kernel
theorem dX9_speed_25 : decode cX9_speed 25 = .ok (.ldc_w 313, 3) := by decide +kernel
theorem dX9_speed_28 : decode cX9_speed 28 = .ok (.invokespecial 317, 3) := by decide +kernel
theorem dX9_speed_31 : decode cX9_speed 31 = .ok (.athrow, 1) := by decide +kernel
theorem dX9_speed_32 : decode cX9_speed 32 = .ok (.ldc2_w 318, 3) := by decide +kernel
theorem dX9_speed_35 : decode cX9_speed 35 = .ok (.aload_n 0, 1) := by decide +kernel
theorem dX9_speed_36 : decode cX9_speed 36 = .ok (.getfield 10, 3) := by decide +kernel
theorem dX9_speed_39 : decode cX9_speed 39 = .ok (.iload_n 1, 1) := by decide +kernel
theorem dX9_speed_40 : decode cX9_speed 40 = .ok (.invokevirtual 138, 3) := by decide +kernel
theorem dX9_speed_43 : decode cX9_speed 43 = .ok (.invokevirtual 301, 3) := by decide +kernel
theorem dX9_speed_46 : decode cX9_speed 46 = .ok (.i2d, 1) := by decide +kernel
theorem dX9_speed_47 : decode cX9_speed 47 = .ok (.dmul, 1) := by decide +kernel
theorem dX9_speed_48 : decode cX9_speed 48 = .ok (.iload_n 2, 1) := by decide +kernel
theorem dX9_speed_49 : decode cX9_speed 49 = .ok (.i2d, 1) := by decide +kernel
theorem dX9_speed_50 : decode cX9_speed 50 = .ok (.ddiv, 1) := by decide +kernel
theorem dX9_speed_51 : decode cX9_speed 51 = .ok (.dreturn, 1) := by decide +kernel
theorem dX9_read_0 : decode cX9_read 0 = .ok (.aload_n 0, 1) := by decide +kernel
theorem dX9_read_1 : decode cX9_read 1 = .ok (.getfield 61, 3) := by decide +kernel
theorem dX9_read_4 : decode cX9_read 4 = .ok (.aload_n 0, 1) := by decide +kernel
theorem dX9_read_5 : decode cX9_read 5 = .ok (.getfield 51, 3) := by decide +kernel
theorem dX9_read_8 : decode cX9_read 8 = .ok (.invokevirtual 320, 3) := by decide +kernel
theorem dX9_read_11 : decode cX9_read 11 = .ok (.istore_n 1, 1) := by decide +kernel
theorem dX9_read_12 : decode cX9_read 12 = .ok (.iload_n 1, 1) := by decide +kernel
theorem dX9_read_13 : decode cX9_read 13 = .ok (.ifCond .eq 14, 3) := by decide +kernel
theorem dX9_read_16 : decode cX9_read 16 = .ok (.aload_n 0, 1) := by decide +kernel
theorem dX9_read_17 : decode cX9_read 17 = .ok (.invokevirtual 324, 3) := by decide +kernel
theorem dX9_read_20 : decode cX9_read 20 = .ok (.ifCond .eq 7, 3) := by decide +kernel
theorem dX9_read_23 : decode cX9_read 23 = .ok (.iconst 1, 1) := by decide +kernel
theorem dX9_read_24 : decode cX9_read 24 = .ok (.goto 4, 3) := by decide +kernel
theorem dX9_read_27 : decode cX9_read 27 = .ok (.iconst 0, 1) := by decide +kernel
theorem dX9_read_28 : decode cX9_read 28 = .ok (.istore_n 2, 1) := by decide +kernel
theorem dX9_read_29 : decode cX9_read 29 = .ok (.aload_n 0, 1) := by decide +kernel
theorem dX9_read_30 : decode cX9_read 30 = .ok (.getfield 51, 3) := by decide +kernel
theorem dX9_read_33 : decode cX9_read 33 = .ok (.invokevirtual 177, 3) := by decide +kernel
theorem dX9_read_36 : decode cX9_read 36 = .ok (.iload_n 1, 1) := by decide +kernel
theorem dX9_read_37 : decode cX9_read 37 = .ok (.ifCond .ne 25, 3) := by decide +kernel
theorem dX9_read_40 : decode cX9_read 40 = .ok (.aload_n 0, 1) := by decide +kernel
theorem dX9_read_41 : decode cX9_read 41 = .ok (.aload_n 0, 1) := by decide +kernel
theorem dX9_read_42 : decode cX9_read 42 = .ok (.getfield 61, 3) := by decide +kernel
theorem dX9_read_45 : decode cX9_read 45 = .ok (.getfield 328, 3) := by decide +kernel
theorem dX9_read_48 : decode cX9_read 48 = .ok (.putfield 65, 3) := by decide +kernel
theorem dX9_read_51 : decode cX9_read 51 = .ok (.new 75, 3) := by decide +kernel
theorem dX9_read_54 : decode cX9_read 54 = .ok (.dup, 1) := by decide +kernel
theorem dX9_read_55 : decode cX9_read 55 = .ok (.ldc_w 331, 3) := by decide +kernel
theorem dX9_read_58 : decode cX9_read 58 = .ok (.invokespecial 79, 3) := by decide +kernel
theorem dX9_read_61 : decode cX9_read 61 = .ok (.athrow, 1) := by decide +kernel
theorem dX9_read_62 : decode cX9_read 62 = .ok (.iload_n 2, 1) := by decide +kernel
theorem dX9_read_63 : decode cX9_read 63 = .ok (.ifCond .ne 14, 3) := by decide +kernel
theorem dX9_read_66 : decode cX9_read 66 = .ok (.new 333, 3) := by decide +kernel
theorem dX9_read_69 : decode cX9_read 69 = .ok (.dup, 1) := by decide +kernel
theorem dX9_read_70 : decode cX9_read 70 = .ok (.ldc_w 335, 3) := by decide +kernel
theorem dX9_read_73 : decode cX9_read 73 = .ok (.invokespecial 337, 3) := by decide +kernel
theorem dX9_read_76 : decode cX9_read 76 = .ok (.athrow, 1) := by decide +kernel
theorem dX9_read_77 : decode cX9_read 77 = .ok (.aload_n 0, 1) := by decide +kernel
theorem dX9_read_78 : decode cX9_read 78 = .ok (.getfield 61, 3) := by decide +kernel
theorem dX9_read_81 : decode cX9_read 81 = .ok (.getfield 338, 3) := by decide +kernel
theorem dX9_read_84 : decode cX9_read 84 = .ok (.ireturn, 1) := by decide +kernel
theorem dX9_faultPosition_0 : decode cX9_faultPosition 0 = .ok (.aload_n 0, 1) := by decide +kernel
theorem dX9_faultPosition_1 : decode cX9_faultPosition 1 = .ok (.getfield 65, 3) := by decide +kernel
theorem dX9_faultPosition_4 : decode cX9_faultPosition 4 = .ok (.iconst (-1), 1) := by decide +kernel
theorem dX9_faultPosition_5 : decode cX9_faultPosition 5 = .ok (.if_icmp .ne 14, 3) := by decide +kernel
theorem dX9_faultPosition_8 : decode cX9_faultPosition 8 = .ok (.new 290, 3) := by decide +kernel
theorem dX9_faultPosition_11 : decode cX9_faultPosition 11 = .ok (.dup, 1) := by decide +kernel
theorem dX9_faultPosition_12 : decode cX9_faultPosition 12 = .ok (.ldc_w 339, 3) := by decide +kernel
theorem dX9_faultPosition_15 : decode cX9_faultPosition 15 = .ok (.invokespecial 292, 3) := by decide +kernel
theorem dX9_faultPosition_18 : decode cX9_faultPosition 18 = .ok (.athrow, 1) := by decide +kernel
theorem dX9_faultPosition_19 : decode cX9_faultPosition 19 = .ok (.aload_n 0, 1) := by decide +kernel
theorem dX9_faultPosition_20 : decode cX9_faultPosition 20 = .ok (.getfield 65, 3) := by decide +kernel
theorem dX9_faultPosition_23 : decode cX9_faultPosition 23 = .ok (.ireturn, 1) := by decide +kernel
theorem dX9_refusal_0 : decode cX9_refusal 0 = .ok (.aload_n 0, 1) := by decide +kernel
theorem dX9_refusal_1 : decode cX9_refusal 1 = .ok (.getfield 69, 3) := by decide +kernel
theorem dX9_refusal_4 : decode cX9_refusal 4 = .ok (.ifCond .ne 14, 3) := by decide +kernel
theorem dX9_refusal_7 : decode cX9_refusal 7 = .ok (.new 290, 3) := by decide +kernel
theorem dX9_refusal_10 : decode cX9_refusal 10 = .ok (.dup, 1) := by decide +kernel
theorem dX9_refusal_11 : decode cX9_refusal 11 = .ok (.ldc_w 341, 3) := by decide +kernel
theorem dX9_refusal_14 : decode cX9_refusal 14 = .ok (.invokespecial 292, 3) := by decide +kernel
theorem dX9_refusal_17 : decode cX9_refusal 17 = .ok (.athrow, 1) := by decide +kernel
theorem dX9_refusal_18 : decode cX9_refusal 18 = .ok (.iload_n 1, 1) := by decide +kernel
theorem dX9_refusal_19 : decode cX9_refusal 19 = .ok (.ifCond .eq 10, 3) := by decide +kernel
theorem dX9_refusal_22 : decode cX9_refusal 22 = .ok (.aload_n 0, 1) := by decide +kernel
theorem dX9_refusal_23 : decode cX9_refusal 23 = .ok (.getfield 69, 3) := by decide +kernel
theorem dX9_refusal_26 : decode cX9_refusal 26 = .ok (.goto 7, 3) := by decide +kernel
theorem dX9_refusal_29 : decode cX9_refusal 29 = .ok (.aload_n 0, 1) := by decide +kernel
theorem dX9_refusal_30 : decode cX9_refusal 30 = .ok (.getfield 72, 3) := by decide +kernel
theorem dX9_refusal_33 : decode cX9_refusal 33 = .ok (.ireturn, 1) := by decide +kernel
theorem dX9_undo_0 : decode cX9_undo 0 = .ok (.aload_n 0, 1) := by decide +kernel
theorem dX9_undo_1 : decode cX9_undo 1 = .ok (.getfield 37, 3) := by decide +kernel
theorem dX9_undo_4 : decode cX9_undo 4 = .ok (.getfield 152, 3) := by decide +kernel
theorem dX9_undo_7 : decode cX9_undo 7 = .ok (.ifCond .gt 14, 3) := by decide +kernel
theorem dX9_undo_10 : decode cX9_undo 10 = .ok (.new 124, 3) := by decide +kernel
theorem dX9_undo_13 : decode cX9_undo 13 = .ok (.dup, 1) := by decide +kernel
theorem dX9_undo_14 : decode cX9_undo 14 = .ok (.ldc_w 343, 3) := by decide +kernel
theorem dX9_undo_17 : decode cX9_undo 17 = .ok (.invokespecial 128, 3) := by decide +kernel
theorem dX9_undo_20 : decode cX9_undo 20 = .ok (.athrow, 1) := by decide +kernel
theorem dX9_undo_21 : decode cX9_undo 21 = .ok (.aload_n 0, 1) := by decide +kernel
theorem dX9_undo_22 : decode cX9_undo 22 = .ok (.getfield 37, 3) := by decide +kernel
theorem dX9_undo_25 : decode cX9_undo 25 = .ok (.aload_n 0, 1) := by decide +kernel
theorem dX9_undo_26 : decode cX9_undo 26 = .ok (.getfield 10, 3) := by decide +kernel
theorem dX9_undo_29 : decode cX9_undo 29 = .ok (.invokevirtual 345, 3) := by decide +kernel
theorem dX9_undo_32 : decode cX9_undo 32 = .ok (.aload_n 0, 1) := by decide +kernel
theorem dX9_undo_33 : decode cX9_undo 33 = .ok (.getfield 37, 3) := by decide +kernel
theorem dX9_undo_36 : decode cX9_undo 36 = .ok (.getfield 152, 3) := by decide +kernel
theorem dX9_undo_39 : decode cX9_undo 39 = .ok (.ireturn, 1) := by decide +kernel
theorem dX9_saveSnapshot_0 : decode cX9_saveSnapshot 0 = .ok (.aload_n 0, 1) := by decide +kernel
theorem dX9_saveSnapshot_1 : decode cX9_saveSnapshot 1 = .ok (.getfield 41, 3) := by decide +kernel
theorem dX9_saveSnapshot_4 : decode cX9_saveSnapshot 4 = .ok (.aload_n 0, 1) := by decide +kernel
theorem dX9_saveSnapshot_5 : decode cX9_saveSnapshot 5 = .ok (.getfield 10, 3) := by decide +kernel
theorem dX9_saveSnapshot_8 : decode cX9_saveSnapshot 8 = .ok (.invokevirtual 348, 3) := by decide +kernel
theorem dX9_saveSnapshot_11 : decode cX9_saveSnapshot 11 = .ok (.aload_n 0, 1) := by decide +kernel
theorem dX9_saveSnapshot_12 : decode cX9_saveSnapshot 12 = .ok (.iconst 1, 1) := by decide +kernel
theorem dX9_saveSnapshot_13 : decode cX9_saveSnapshot 13 = .ok (.putfield 44, 3) := by decide +kernel
theorem dX9_saveSnapshot_16 : decode cX9_saveSnapshot 16 = .ok (.aload_n 0, 1) := by decide +kernel
theorem dX9_saveSnapshot_17 : decode cX9_saveSnapshot 17 = .ok (.getfield 10, 3) := by decide +kernel
theorem dX9_saveSnapshot_20 : decode cX9_saveSnapshot 20 = .ok (.invokevirtual 351, 3) := by decide +kernel
theorem dX9_saveSnapshot_23 : decode cX9_saveSnapshot 23 = .ok (.ireturn, 1) := by decide +kernel
theorem dX9_restoreSnapshot_0 : decode cX9_restoreSnapshot 0 = .ok (.aload_n 0, 1) := by decide +kernel
theorem dX9_restoreSnapshot_1 : decode cX9_restoreSnapshot 1 = .ok (.getfield 44, 3) := by decide +kernel
theorem dX9_restoreSnapshot_4 : decode cX9_restoreSnapshot 4 = .ok (.ifCond .ne 14, 3) := by decide +kernel
theorem dX9_restoreSnapshot_7 : decode cX9_restoreSnapshot 7 = .ok (.new 124, 3) := by decide +kernel
theorem dX9_restoreSnapshot_10 : decode cX9_restoreSnapshot 10 = .ok (.dup, 1) := by decide +kernel
theorem dX9_restoreSnapshot_11 : decode cX9_restoreSnapshot 11 = .ok (.ldc_w 354, 3) := by decide +kernel
theorem dX9_restoreSnapshot_14 : decode cX9_restoreSnapshot 14 = .ok (.invokespecial 128, 3) := by decide +kernel
theorem dX9_restoreSnapshot_17 : decode cX9_restoreSnapshot 17 = .ok (.athrow, 1) := by decide +kernel
theorem dX9_restoreSnapshot_18 : decode cX9_restoreSnapshot 18 = .ok (.aload_n 0, 1) := by decide +kernel
theorem dX9_restoreSnapshot_19 : decode cX9_restoreSnapshot 19 = .ok (.getfield 10, 3) := by decide +kernel
theorem dX9_restoreSnapshot_22 : decode cX9_restoreSnapshot 22 = .ok (.aload_n 0, 1) := by decide +kernel
theorem dX9_restoreSnapshot_23 : decode cX9_restoreSnapshot 23 = .ok (.getfield 41, 3) := by decide +kernel
theorem dX9_restoreSnapshot_26 : decode cX9_restoreSnapshot 26 = .ok (.invokevirtual 348, 3) := by decide +kernel
theorem dX9_restoreSnapshot_29 : decode cX9_restoreSnapshot 29 = .ok (.aload_n 0, 1) := by decide +kernel
theorem dX9_restoreSnapshot_30 : decode cX9_restoreSnapshot 30 = .ok (.getfield 37, 3) := by decide +kernel
theorem dX9_restoreSnapshot_33 : decode cX9_restoreSnapshot 33 = .ok (.invokevirtual 356, 3) := by decide +kernel
theorem dX9_restoreSnapshot_36 : decode cX9_restoreSnapshot 36 = .ok (.aload_n 0, 1) := by decide +kernel
theorem dX9_restoreSnapshot_37 : decode cX9_restoreSnapshot 37 = .ok (.getfield 10, 3) := by decide +kernel
theorem dX9_restoreSnapshot_40 : decode cX9_restoreSnapshot 40 = .ok (.invokevirtual 351, 3) := by decide +kernel
theorem dX9_restoreSnapshot_43 : decode cX9_restoreSnapshot 43 = .ok (.ireturn, 1) := by decide +kernel
theorem dX9_requireTrack_0 : decode cX9_requireTrack 0 = .ok (.iload_n 1, 1) := by decide +kernel
theorem dX9_requireTrack_1 : decode cX9_requireTrack 1 = .ok (.invokestatic 359, 3) := by decide +kernel
theorem dX9_requireTrack_4 : decode cX9_requireTrack 4 = .ok (.ifCond .ne 14, 3) := by decide +kernel
theorem dX9_requireTrack_7 : decode cX9_requireTrack 7 = .ok (.new 110, 3) := by decide +kernel
theorem dX9_requireTrack_10 : decode cX9_requireTrack 10 = .ok (.dup, 1) := by decide +kernel
theorem dX9_requireTrack_11 : decode cX9_requireTrack 11 = .ok (.ldc_w 362, 3) := by decide +kernel
theorem dX9_requireTrack_14 : decode cX9_requireTrack 14 = .ok (.invokespecial 114, 3) := by decide +kernel
theorem dX9_requireTrack_17 : decode cX9_requireTrack 17 = .ok (.athrow, 1) := by decide +kernel
theorem dX9_requireTrack_18 : decode cX9_requireTrack 18 = .ok (.return_, 1) := by decide +kernel
theorem dX9_requireCaption_0 : decode cX9_requireCaption 0 = .ok (.aload_n 0, 1) := by decide +kernel
theorem dX9_requireCaption_1 : decode cX9_requireCaption 1 = .ok (.iload_n 1, 1) := by decide +kernel
theorem dX9_requireCaption_2 : decode cX9_requireCaption 2 = .ok (.invokevirtual 184, 3) := by decide +kernel
theorem dX9_requireCaption_5 : decode cX9_requireCaption 5 = .ok (.aload_n 0, 1) := by decide +kernel
theorem dX9_requireCaption_6 : decode cX9_requireCaption 6 = .ok (.getfield 10, 3) := by decide +kernel
theorem dX9_requireCaption_9 : decode cX9_requireCaption 9 = .ok (.iload_n 1, 1) := by decide +kernel
theorem dX9_requireCaption_10 : decode cX9_requireCaption 10 = .ok (.invokevirtual 138, 3) := by decide +kernel
theorem dX9_requireCaption_13 : decode cX9_requireCaption 13 = .ok (.iload_n 2, 1) := by decide +kernel
theorem dX9_requireCaption_14 : decode cX9_requireCaption 14 = .ok (.invokevirtual 364, 3) := by decide +kernel
theorem dX9_requireCaption_17 : decode cX9_requireCaption 17 = .ok (.ifCond .ne 14, 3) := by decide +kernel
theorem dX9_requireCaption_20 : decode cX9_requireCaption 20 = .ok (.new 110, 3) := by decide +kernel
theorem dX9_requireCaption_23 : decode cX9_requireCaption 23 = .ok (.dup, 1) := by decide +kernel
theorem dX9_requireCaption_24 : decode cX9_requireCaption 24 = .ok (.ldc_w 367, 3) := by decide +kernel
theorem dX9_requireCaption_27 : decode cX9_requireCaption 27 = .ok (.invokespecial 114, 3) := by decide +kernel
theorem dX9_requireCaption_30 : decode cX9_requireCaption 30 = .ok (.athrow, 1) := by decide +kernel
theorem dX9_requireCaption_31 : decode cX9_requireCaption 31 = .ok (.return_, 1) := by decide +kernel
theorem dX9_passOrRefuse_0 : decode cX9_passOrRefuse 0 = .ok (.iload_n 1, 1) := by decide +kernel
theorem dX9_passOrRefuse_1 : decode cX9_passOrRefuse 1 = .ok (.ifCond .eq 20, 3) := by decide +kernel
theorem dX9_passOrRefuse_4 : decode cX9_passOrRefuse 4 = .ok (.aload_n 0, 1) := by decide +kernel
theorem dX9_passOrRefuse_5 : decode cX9_passOrRefuse 5 = .ok (.iload_n 1, 1) := by decide +kernel
theorem dX9_passOrRefuse_6 : decode cX9_passOrRefuse 6 = .ok (.iconst 0, 1) := by decide +kernel
theorem dX9_passOrRefuse_7 : decode cX9_passOrRefuse 7 = .ok (.invokevirtual 369, 3) := by decide +kernel
theorem dX9_passOrRefuse_10 : decode cX9_passOrRefuse 10 = .ok (.new 333, 3) := by decide +kernel
theorem dX9_passOrRefuse_13 : decode cX9_passOrRefuse 13 = .ok (.dup, 1) := by decide +kernel
theorem dX9_passOrRefuse_14 : decode cX9_passOrRefuse 14 = .ok (.ldc_w 372, 3) := by decide +kernel
theorem dX9_passOrRefuse_17 : decode cX9_passOrRefuse 17 = .ok (.invokespecial 337, 3) := by decide +kernel
theorem dX9_passOrRefuse_20 : decode cX9_passOrRefuse 20 = .ok (.athrow, 1) := by decide +kernel
theorem dX9_passOrRefuse_21 : decode cX9_passOrRefuse 21 = .ok (.return_, 1) := by decide +kernel
theorem dX9_keepRefusal_0 : decode cX9_keepRefusal 0 = .ok (.aload_n 0, 1) := by decide +kernel
theorem dX9_keepRefusal_1 : decode cX9_keepRefusal 1 = .ok (.iload_n 1, 1) := by decide +kernel
theorem dX9_keepRefusal_2 : decode cX9_keepRefusal 2 = .ok (.putfield 69, 3) := by decide +kernel
theorem dX9_keepRefusal_5 : decode cX9_keepRefusal 5 = .ok (.aload_n 0, 1) := by decide +kernel
theorem dX9_keepRefusal_6 : decode cX9_keepRefusal 6 = .ok (.iload_n 2, 1) := by decide +kernel
theorem dX9_keepRefusal_7 : decode cX9_keepRefusal 7 = .ok (.putfield 72, 3) := by decide +kernel
theorem dX9_keepRefusal_10 : decode cX9_keepRefusal 10 = .ok (.return_, 1) := by decide +kernel
theorem dX9_carryOutItems_0 : decode cX9_carryOutItems 0 = .ok (.aload_n 0, 1) := by decide +kernel
theorem dX9_carryOutItems_1 : decode cX9_carryOutItems 1 = .ok (.getfield 37, 3) := by decide +kernel
theorem dX9_carryOutItems_4 : decode cX9_carryOutItems 4 = .ok (.aload_n 0, 1) := by decide +kernel
theorem dX9_carryOutItems_5 : decode cX9_carryOutItems 5 = .ok (.getfield 10, 3) := by decide +kernel
theorem dX9_carryOutItems_8 : decode cX9_carryOutItems 8 = .ok (.invokevirtual 374, 3) := by decide +kernel
theorem dX9_carryOutItems_11 : decode cX9_carryOutItems 11 = .ok (.iconst 0, 1) := by decide +kernel
theorem dX9_carryOutItems_12 : decode cX9_carryOutItems 12 = .ok (.istore_n 1, 1) := by decide +kernel
theorem dX9_carryOutItems_13 : decode cX9_carryOutItems 13 = .ok (.iload_n 1, 1) := by decide +kernel
theorem dX9_carryOutItems_14 : decode cX9_carryOutItems 14 = .ok (.aload_n 0, 1) := by decide +kernel
theorem dX9_carryOutItems_15 : decode cX9_carryOutItems 15 = .ok (.getfield 61, 3) := by decide +kernel
theorem dX9_carryOutItems_18 : decode cX9_carryOutItems 18 = .ok (.getfield 338, 3) := by decide +kernel
theorem dX9_carryOutItems_21 : decode cX9_carryOutItems 21 = .ok (.if_icmp .ge 38, 3) := by decide +kernel
theorem dX9_carryOutItems_24 : decode cX9_carryOutItems 24 = .ok (.aload_n 0, 1) := by decide +kernel
theorem dX9_carryOutItems_25 : decode cX9_carryOutItems 25 = .ok (.iload_n 1, 1) := by decide +kernel
theorem dX9_carryOutItems_26 : decode cX9_carryOutItems 26 = .ok (.invokevirtual 377, 3) := by decide +kernel
theorem dX9_carryOutItems_29 : decode cX9_carryOutItems 29 = .ok (.istore_n 2, 1) := by decide +kernel
theorem dX9_carryOutItems_30 : decode cX9_carryOutItems 30 = .ok (.iload_n 2, 1) := by decide +kernel
theorem dX9_carryOutItems_31 : decode cX9_carryOutItems 31 = .ok (.ifCond .eq 22, 3) := by decide +kernel
theorem dX9_carryOutItems_34 : decode cX9_carryOutItems 34 = .ok (.aload_n 0, 1) := by decide +kernel
theorem dX9_carryOutItems_35 : decode cX9_carryOutItems 35 = .ok (.getfield 37, 3) := by decide +kernel
theorem dX9_carryOutItems_38 : decode cX9_carryOutItems 38 = .ok (.aload_n 0, 1) := by decide +kernel
theorem dX9_carryOutItems_39 : decode cX9_carryOutItems 39 = .ok (.getfield 10, 3) := by decide +kernel
theorem dX9_carryOutItems_42 : decode cX9_carryOutItems 42 = .ok (.invokevirtual 380, 3) := by decide +kernel
theorem dX9_carryOutItems_45 : decode cX9_carryOutItems 45 = .ok (.aload_n 0, 1) := by decide +kernel
theorem dX9_carryOutItems_46 : decode cX9_carryOutItems 46 = .ok (.iload_n 2, 1) := by decide +kernel
theorem dX9_carryOutItems_47 : decode cX9_carryOutItems 47 = .ok (.iload_n 1, 1) := by decide +kernel
theorem dX9_carryOutItems_48 : decode cX9_carryOutItems 48 = .ok (.invokevirtual 369, 3) := by decide +kernel
theorem dX9_carryOutItems_51 : decode cX9_carryOutItems 51 = .ok (.iconst 0, 1) := by decide +kernel
theorem dX9_carryOutItems_52 : decode cX9_carryOutItems 52 = .ok (.ireturn, 1) := by decide +kernel
theorem dX9_carryOutItems_53 : decode cX9_carryOutItems 53 = .ok (.iinc 1 1, 3) := by decide +kernel
theorem dX9_carryOutItems_56 : decode cX9_carryOutItems 56 = .ok (.goto (-43), 3) := by decide +kernel
theorem dX9_carryOutItems_59 : decode cX9_carryOutItems 59 = .ok (.aload_n 0, 1) := by decide +kernel
theorem dX9_carryOutItems_60 : decode cX9_carryOutItems 60 = .ok (.getfield 37, 3) := by decide +kernel
theorem dX9_carryOutItems_63 : decode cX9_carryOutItems 63 = .ok (.invokevirtual 383, 3) := by decide +kernel
theorem dX9_carryOutItems_66 : decode cX9_carryOutItems 66 = .ok (.iconst 1, 1) := by decide +kernel
theorem dX9_carryOutItems_67 : decode cX9_carryOutItems 67 = .ok (.ireturn, 1) := by decide +kernel
theorem dX9_carryOutItem_0 : decode cX9_carryOutItem 0 = .ok (.aload_n 0, 1) := by decide +kernel
theorem dX9_carryOutItem_1 : decode cX9_carryOutItem 1 = .ok (.getfield 61, 3) := by decide +kernel
theorem dX9_carryOutItem_4 : decode cX9_carryOutItem 4 = .ok (.iload_n 1, 1) := by decide +kernel
theorem dX9_carryOutItem_5 : decode cX9_carryOutItem 5 = .ok (.invokevirtual 386, 3) := by decide +kernel
theorem dX9_carryOutItem_8 : decode cX9_carryOutItem 8 = .ok (.ifCond .eq 36, 3) := by decide +kernel
theorem dX9_carryOutItem_11 : decode cX9_carryOutItem 11 = .ok (.aload_n 0, 1) := by decide +kernel
theorem dX9_carryOutItem_12 : decode cX9_carryOutItem 12 = .ok (.getfield 30, 3) := by decide +kernel
theorem dX9_carryOutItem_15 : decode cX9_carryOutItem 15 = .ok (.aload_n 0, 1) := by decide +kernel
theorem dX9_carryOutItem_16 : decode cX9_carryOutItem 16 = .ok (.getfield 61, 3) := by decide +kernel
theorem dX9_carryOutItem_19 : decode cX9_carryOutItem 19 = .ok (.iload_n 1, 1) := by decide +kernel
theorem dX9_carryOutItem_20 : decode cX9_carryOutItem 20 = .ok (.invokevirtual 389, 3) := by decide +kernel
theorem dX9_carryOutItem_23 : decode cX9_carryOutItem 23 = .ok (.aload_n 0, 1) := by decide +kernel
theorem dX9_carryOutItem_24 : decode cX9_carryOutItem 24 = .ok (.getfield 61, 3) := by decide +kernel
theorem dX9_carryOutItem_27 : decode cX9_carryOutItem 27 = .ok (.iload_n 1, 1) := by decide +kernel
theorem dX9_carryOutItem_28 : decode cX9_carryOutItem 28 = .ok (.invokevirtual 386, 3) := by decide +kernel
theorem dX9_carryOutItem_31 : decode cX9_carryOutItem 31 = .ok (.iconst 1, 1) := by decide +kernel
theorem dX9_carryOutItem_32 : decode cX9_carryOutItem 32 = .ok (.if_icmp .ne 7, 3) := by decide +kernel
theorem dX9_carryOutItem_35 : decode cX9_carryOutItem 35 = .ok (.iconst 1, 1) := by decide +kernel
theorem dX9_carryOutItem_36 : decode cX9_carryOutItem 36 = .ok (.goto 4, 3) := by decide +kernel
theorem dX9_carryOutItem_39 : decode cX9_carryOutItem 39 = .ok (.iconst 0, 1) := by decide +kernel
theorem dX9_carryOutItem_40 : decode cX9_carryOutItem 40 = .ok (.invokevirtual 390, 3) := by decide +kernel
theorem dX9_carryOutItem_43 : decode cX9_carryOutItem 43 = .ok (.ireturn, 1) := by decide +kernel
theorem dX9_carryOutItem_44 : decode cX9_carryOutItem 44 = .ok (.aload_n 0, 1) := by decide +kernel
theorem dX9_carryOutItem_45 : decode cX9_carryOutItem 45 = .ok (.getfield 55, 3) := by decide +kernel
theorem dX9_carryOutItem_48 : decode cX9_carryOutItem 48 = .ok (.invokevirtual 177, 3) := by decide +kernel
theorem dX9_carryOutItem_51 : decode cX9_carryOutItem 51 = .ok (.aload_n 0, 1) := by decide +kernel
theorem dX9_carryOutItem_52 : decode cX9_carryOutItem 52 = .ok (.getfield 55, 3) := by decide +kernel
theorem dX9_carryOutItem_55 : decode cX9_carryOutItem 55 = .ok (.aload_n 0, 1) := by decide +kernel
theorem dX9_carryOutItem_56 : decode cX9_carryOutItem 56 = .ok (.getfield 51, 3) := by decide +kernel
theorem dX9_carryOutItem_59 : decode cX9_carryOutItem 59 = .ok (.aload_n 0, 1) := by decide +kernel
theorem dX9_carryOutItem_60 : decode cX9_carryOutItem 60 = .ok (.getfield 61, 3) := by decide +kernel
theorem dX9_carryOutItem_63 : decode cX9_carryOutItem 63 = .ok (.iload_n 1, 1) := by decide +kernel
theorem dX9_carryOutItem_64 : decode cX9_carryOutItem 64 = .ok (.invokevirtual 394, 3) := by decide +kernel
theorem dX9_carryOutItem_67 : decode cX9_carryOutItem 67 = .ok (.aload_n 0, 1) := by decide +kernel
theorem dX9_carryOutItem_68 : decode cX9_carryOutItem 68 = .ok (.getfield 61, 3) := by decide +kernel
theorem dX9_carryOutItem_71 : decode cX9_carryOutItem 71 = .ok (.iload_n 1, 1) := by decide +kernel
theorem dX9_carryOutItem_72 : decode cX9_carryOutItem 72 = .ok (.invokevirtual 397, 3) := by decide +kernel
theorem dX9_carryOutItem_75 : decode cX9_carryOutItem 75 = .ok (.invokevirtual 180, 3) := by decide +kernel
theorem dX9_carryOutItem_78 : decode cX9_carryOutItem 78 = .ok (.aload_n 0, 1) := by decide +kernel
theorem dX9_carryOutItem_79 : decode cX9_carryOutItem 79 = .ok (.getfield 10, 3) := by decide +kernel
theorem dX9_carryOutItem_82 : decode cX9_carryOutItem 82 = .ok (.aload_n 0, 1) := by decide +kernel
theorem dX9_carryOutItem_83 : decode cX9_carryOutItem 83 = .ok (.getfield 61, 3) := by decide +kernel
theorem dX9_carryOutItem_86 : decode cX9_carryOutItem 86 = .ok (.iload_n 1, 1) := by decide +kernel
theorem dX9_carryOutItem_87 : decode cX9_carryOutItem 87 = .ok (.invokevirtual 400, 3) := by decide +kernel
theorem dX9_carryOutItem_90 : decode cX9_carryOutItem 90 = .ok (.aload_n 0, 1) := by decide +kernel
theorem dX9_carryOutItem_91 : decode cX9_carryOutItem 91 = .ok (.getfield 61, 3) := by decide +kernel
theorem dX9_carryOutItem_94 : decode cX9_carryOutItem 94 = .ok (.iload_n 1, 1) := by decide +kernel
theorem dX9_carryOutItem_95 : decode cX9_carryOutItem 95 = .ok (.invokevirtual 389, 3) := by decide +kernel
theorem dX9_carryOutItem_98 : decode cX9_carryOutItem 98 = .ok (.aload_n 0, 1) := by decide +kernel
theorem dX9_carryOutItem_99 : decode cX9_carryOutItem 99 = .ok (.getfield 61, 3) := by decide +kernel
theorem dX9_carryOutItem_102 : decode cX9_carryOutItem 102 = .ok (.iload_n 1, 1) := by decide +kernel
theorem dX9_carryOutItem_103 : decode cX9_carryOutItem 103 = .ok (.invokevirtual 403, 3) := by decide +kernel
theorem dX9_carryOutItem_106 : decode cX9_carryOutItem 106 = .ok (.aload_n 0, 1) := by decide +kernel
theorem dX9_carryOutItem_107 : decode cX9_carryOutItem 107 = .ok (.getfield 55, 3) := by decide +kernel
theorem dX9_carryOutItem_110 : decode cX9_carryOutItem 110 = .ok (.invokevirtual 189, 3) := by decide +kernel
theorem dX9_carryOutItem_113 : decode cX9_carryOutItem 113 = .ok (.istore_n 2, 1) := by decide +kernel
theorem dX9_carryOutItem_114 : decode cX9_carryOutItem 114 = .ok (.iload_n 2, 1) := by decide +kernel
theorem dX9_carryOutItem_115 : decode cX9_carryOutItem 115 = .ok (.ifCond .ne 52, 3) := by decide +kernel
theorem dX9_carryOutItem_118 : decode cX9_carryOutItem 118 = .ok (.aload_n 0, 1) := by decide +kernel
theorem dX9_carryOutItem_119 : decode cX9_carryOutItem 119 = .ok (.getfield 10, 3) := by decide +kernel
theorem dX9_carryOutItem_122 : decode cX9_carryOutItem 122 = .ok (.aload_n 0, 1) := by decide +kernel
theorem dX9_carryOutItem_123 : decode cX9_carryOutItem 123 = .ok (.getfield 61, 3) := by decide +kernel
theorem dX9_carryOutItem_126 : decode cX9_carryOutItem 126 = .ok (.iload_n 1, 1) := by decide +kernel
theorem dX9_carryOutItem_127 : decode cX9_carryOutItem 127 = .ok (.invokevirtual 400, 3) := by decide +kernel
theorem dX9_carryOutItem_130 : decode cX9_carryOutItem 130 = .ok (.invokevirtual 138, 3) := by decide +kernel
theorem dX9_carryOutItem_133 : decode cX9_carryOutItem 133 = .ok (.astore_n 3, 1) := by decide +kernel
theorem dX9_carryOutItem_134 : decode cX9_carryOutItem 134 = .ok (.aload_n 3, 1) := by decide +kernel
theorem dX9_carryOutItem_135 : decode cX9_carryOutItem 135 = .ok (.aload_n 0, 1) := by decide +kernel
theorem dX9_carryOutItem_136 : decode cX9_carryOutItem 136 = .ok (.getfield 61, 3) := by decide +kernel
theorem dX9_carryOutItem_139 : decode cX9_carryOutItem 139 = .ok (.iload_n 1, 1) := by decide +kernel
theorem dX9_carryOutItem_140 : decode cX9_carryOutItem 140 = .ok (.invokevirtual 404, 3) := by decide +kernel
theorem dX9_carryOutItem_143 : decode cX9_carryOutItem 143 = .ok (.aload_n 0, 1) := by decide +kernel
theorem dX9_carryOutItem_144 : decode cX9_carryOutItem 144 = .ok (.getfield 61, 3) := by decide +kernel
theorem dX9_carryOutItem_147 : decode cX9_carryOutItem 147 = .ok (.iload_n 1, 1) := by decide +kernel
theorem dX9_carryOutItem_148 : decode cX9_carryOutItem 148 = .ok (.invokevirtual 389, 3) := by decide +kernel
theorem dX9_carryOutItem_151 : decode cX9_carryOutItem 151 = .ok (.aload_n 0, 1) := by decide +kernel
theorem dX9_carryOutItem_152 : decode cX9_carryOutItem 152 = .ok (.getfield 61, 3) := by decide +kernel
theorem dX9_carryOutItem_155 : decode cX9_carryOutItem 155 = .ok (.iload_n 1, 1) := by decide +kernel
theorem dX9_carryOutItem_156 : decode cX9_carryOutItem 156 = .ok (.invokevirtual 403, 3) := by decide +kernel
theorem dX9_carryOutItem_159 : decode cX9_carryOutItem 159 = .ok (.aload_n 0, 1) := by decide +kernel
theorem dX9_carryOutItem_160 : decode cX9_carryOutItem 160 = .ok (.getfield 55, 3) := by decide +kernel
theorem dX9_carryOutItem_163 : decode cX9_carryOutItem 163 = .ok (.invokevirtual 193, 3) := by decide +kernel
theorem dX9_carryOutItem_166 : decode cX9_carryOutItem 166 = .ok (.pop, 1) := by decide +kernel
theorem dX9_carryOutItem_167 : decode cX9_carryOutItem 167 = .ok (.iload_n 2, 1) := by decide +kernel
theorem dX9_carryOutItem_168 : decode cX9_carryOutItem 168 = .ok (.ireturn, 1) := by decide +kernel
theorem dX9_isTrack_0 : decode cX9_isTrack 0 = .ok (.iload_n 0, 1) := by decide +kernel
theorem dX9_isTrack_1 : decode cX9_isTrack 1 = .ok (.ifCond .lt 12, 3) := by decide +kernel
theorem dX9_isTrack_4 : decode cX9_isTrack 4 = .ok (.iload_n 0, 1) := by decide +kernel
theorem dX9_isTrack_5 : decode cX9_isTrack 5 = .ok (.iconst 2, 1) := by decide +kernel
theorem dX9_isTrack_6 : decode cX9_isTrack 6 = .ok (.if_icmp .ge 7, 3) := by decide +kernel
theorem dX9_isTrack_9 : decode cX9_isTrack 9 = .ok (.iconst 1, 1) := by decide +kernel
theorem dX9_isTrack_10 : decode cX9_isTrack 10 = .ok (.goto 4, 3) := by decide +kernel
theorem dX9_isTrack_13 : decode cX9_isTrack 13 = .ok (.iconst 0, 1) := by decide +kernel
theorem dX9_isTrack_14 : decode cX9_isTrack 14 = .ok (.ireturn, 1) := by decide +kernel
theorem dX9_isSetting_0 : decode cX9_isSetting 0 = .ok (.iload_n 0, 1) := by decide +kernel
theorem dX9_isSetting_1 : decode cX9_isSetting 1 = .ok (.ifCond .lt 13, 3) := by decide +kernel
theorem dX9_isSetting_4 : decode cX9_isSetting 4 = .ok (.iload_n 0, 1) := by decide +kernel
theorem dX9_isSetting_5 : decode cX9_isSetting 5 = .ok (.bipush 6, 2) := by decide +kernel
theorem dX9_isSetting_7 : decode cX9_isSetting 7 = .ok (.if_icmp .ge 7, 3) := by decide +kernel
theorem dX9_isSetting_10 : decode cX9_isSetting 10 = .ok (.iconst 1, 1) := by decide +kernel
theorem dX9_isSetting_11 : decode cX9_isSetting 11 = .ok (.goto 4, 3) := by decide +kernel
theorem dX9_isSetting_14 : decode cX9_isSetting 14 = .ok (.iconst 0, 1) := by decide +kernel
theorem dX9_isSetting_15 : decode cX9_isSetting 15 = .ok (.ireturn, 1) := by decide +kernel
theorem dX9_isSettingValue_0 : decode cX9_isSettingValue 0 = .ok (.iload_n 0, 1) := by decide +kernel
theorem dX9_isSettingValue_1 : decode cX9_isSettingValue 1 = .ok (.invokestatic 156, 3) := by decide +kernel
theorem dX9_isSettingValue_4 : decode cX9_isSettingValue 4 = .ok (.ifCond .eq 25, 3) := by decide +kernel
theorem dX9_isSettingValue_7 : decode cX9_isSettingValue 7 = .ok (.iload_n 1, 1) := by decide +kernel
theorem dX9_isSettingValue_8 : decode cX9_isSettingValue 8 = .ok (.getstatic 405, 3) := by decide +kernel
theorem dX9_isSettingValue_11 : decode cX9_isSettingValue 11 = .ok (.iload_n 0, 1) := by decide +kernel
theorem dX9_isSettingValue_12 : decode cX9_isSettingValue 12 = .ok (.iaload, 1) := by decide +kernel
theorem dX9_isSettingValue_13 : decode cX9_isSettingValue 13 = .ok (.if_icmp .lt 16, 3) := by decide +kernel
theorem dX9_isSettingValue_16 : decode cX9_isSettingValue 16 = .ok (.iload_n 1, 1) := by decide +kernel
theorem dX9_isSettingValue_17 : decode cX9_isSettingValue 17 = .ok (.getstatic 409, 3) := by decide +kernel
theorem dX9_isSettingValue_20 : decode cX9_isSettingValue 20 = .ok (.iload_n 0, 1) := by decide +kernel
theorem dX9_isSettingValue_21 : decode cX9_isSettingValue 21 = .ok (.iaload, 1) := by decide +kernel
theorem dX9_isSettingValue_22 : decode cX9_isSettingValue 22 = .ok (.if_icmp .gt 7, 3) := by decide +kernel
theorem dX9_isSettingValue_25 : decode cX9_isSettingValue 25 = .ok (.iconst 1, 1) := by decide +kernel
theorem dX9_isSettingValue_26 : decode cX9_isSettingValue 26 = .ok (.goto 4, 3) := by decide +kernel
theorem dX9_isSettingValue_29 : decode cX9_isSettingValue 29 = .ok (.iconst 0, 1) := by decide +kernel
theorem dX9_isSettingValue_30 : decode cX9_isSettingValue 30 = .ok (.ireturn, 1) := by decide +kernel
theorem dX9_arePoints_0 : decode cX9_arePoints 0 = .ok (.iload_n 0, 1) := by decide +kernel
theorem dX9_arePoints_1 : decode cX9_arePoints 1 = .ok (.invokestatic 412, 3) := by decide +kernel
theorem dX9_arePoints_4 : decode cX9_arePoints 4 = .ok (.ifCond .eq 24, 3) := by decide +kernel
theorem dX9_arePoints_7 : decode cX9_arePoints 7 = .ok (.iload_n 1, 1) := by decide +kernel
theorem dX9_arePoints_8 : decode cX9_arePoints 8 = .ok (.invokestatic 412, 3) := by decide +kernel
theorem dX9_arePoints_11 : decode cX9_arePoints 11 = .ok (.ifCond .eq 17, 3) := by decide +kernel
theorem dX9_arePoints_14 : decode cX9_arePoints 14 = .ok (.iload_n 2, 1) := by decide +kernel
theorem dX9_arePoints_15 : decode cX9_arePoints 15 = .ok (.invokestatic 412, 3) := by decide +kernel
theorem dX9_arePoints_18 : decode cX9_arePoints 18 = .ok (.ifCond .eq 10, 3) := by decide +kernel
theorem dX9_arePoints_21 : decode cX9_arePoints 21 = .ok (.iload_n 3, 1) := by decide +kernel
theorem dX9_arePoints_22 : decode cX9_arePoints 22 = .ok (.invokestatic 412, 3) := by decide +kernel
theorem dX9_arePoints_25 : decode cX9_arePoints 25 = .ok (.ifCond .ne 5, 3) := by decide +kernel
theorem dX9_arePoints_28 : decode cX9_arePoints 28 = .ok (.iconst 0, 1) := by decide +kernel
theorem dX9_arePoints_29 : decode cX9_arePoints 29 = .ok (.ireturn, 1) := by decide +kernel
theorem dX9_arePoints_30 : decode cX9_arePoints 30 = .ok (.iload_n 0, 1) := by decide +kernel
theorem dX9_arePoints_31 : decode cX9_arePoints 31 = .ok (.iload_n 2, 1) := by decide +kernel
theorem dX9_arePoints_32 : decode cX9_arePoints 32 = .ok (.if_icmp .eq 35, 3) := by decide +kernel
theorem dX9_arePoints_35 : decode cX9_arePoints 35 = .ok (.iload_n 1, 1) := by decide +kernel
theorem dX9_arePoints_36 : decode cX9_arePoints 36 = .ok (.iload_n 3, 1) := by decide +kernel
theorem dX9_arePoints_37 : decode cX9_arePoints 37 = .ok (.if_icmp .eq 30, 3) := by decide +kernel
theorem dX9_arePoints_40 : decode cX9_arePoints 40 = .ok (.iload_n 0, 1) := by decide +kernel
theorem dX9_arePoints_41 : decode cX9_arePoints 41 = .ok (.iload_n 2, 1) := by decide +kernel
theorem dX9_arePoints_42 : decode cX9_arePoints 42 = .ok (.if_icmp .ge 7, 3) := by decide +kernel
theorem dX9_arePoints_45 : decode cX9_arePoints 45 = .ok (.iconst 1, 1) := by decide +kernel
theorem dX9_arePoints_46 : decode cX9_arePoints 46 = .ok (.goto 4, 3) := by decide +kernel
theorem dX9_arePoints_49 : decode cX9_arePoints 49 = .ok (.iconst 0, 1) := by decide +kernel
theorem dX9_arePoints_50 : decode cX9_arePoints 50 = .ok (.iload_n 1, 1) := by decide +kernel
theorem dX9_arePoints_51 : decode cX9_arePoints 51 = .ok (.iload_n 3, 1) := by decide +kernel
theorem dX9_arePoints_52 : decode cX9_arePoints 52 = .ok (.if_icmp .ge 7, 3) := by decide +kernel
theorem dX9_arePoints_55 : decode cX9_arePoints 55 = .ok (.iconst 1, 1) := by decide +kernel
theorem dX9_arePoints_56 : decode cX9_arePoints 56 = .ok (.goto 4, 3) := by decide +kernel
theorem dX9_arePoints_59 : decode cX9_arePoints 59 = .ok (.iconst 0, 1) := by decide +kernel
theorem dX9_arePoints_60 : decode cX9_arePoints 60 = .ok (.if_icmp .ne 7, 3) := by decide +kernel
theorem dX9_arePoints_63 : decode cX9_arePoints 63 = .ok (.iconst 1, 1) := by decide +kernel
theorem dX9_arePoints_64 : decode cX9_arePoints 64 = .ok (.goto 4, 3) := by decide +kernel
theorem dX9_arePoints_67 : decode cX9_arePoints 67 = .ok (.iconst 0, 1) := by decide +kernel
theorem dX9_arePoints_68 : decode cX9_arePoints 68 = .ok (.ireturn, 1) := by decide +kernel
theorem dX9_isPointFrame_0 : decode cX9_isPointFrame 0 = .ok (.iload_n 0, 1) := by decide +kernel
theorem dX9_isPointFrame_1 : decode cX9_isPointFrame 1 = .ok (.ifCond .lt 14, 3) := by decide +kernel
theorem dX9_isPointFrame_4 : decode cX9_isPointFrame 4 = .ok (.iload_n 0, 1) := by decide +kernel
theorem dX9_isPointFrame_5 : decode cX9_isPointFrame 5 = .ok (.sipush 9999, 3) := by decide +kernel
theorem dX9_isPointFrame_8 : decode cX9_isPointFrame 8 = .ok (.if_icmp .gt 7, 3) := by decide +kernel
theorem dX9_isPointFrame_11 : decode cX9_isPointFrame 11 = .ok (.iconst 1, 1) := by decide +kernel
theorem dX9_isPointFrame_12 : decode cX9_isPointFrame 12 = .ok (.goto 4, 3) := by decide +kernel
theorem dX9_isPointFrame_15 : decode cX9_isPointFrame 15 = .ok (.iconst 0, 1) := by decide +kernel
theorem dX9_isPointFrame_16 : decode cX9_isPointFrame 16 = .ok (.ireturn, 1) := by decide +kernel
theorem dX9_isWordSign_0 : decode cX9_isWordSign 0 = .ok (.iload_n 0, 1) := by decide +kernel
theorem dX9_isWordSign_1 : decode cX9_isWordSign 1 = .ok (.bipush 95, 2) := by decide +kernel
theorem dX9_isWordSign_3 : decode cX9_isWordSign 3 = .ok (.if_icmp .eq 21, 3) := by decide +kernel
theorem dX9_isWordSign_6 : decode cX9_isWordSign 6 = .ok (.iload_n 0, 1) := by decide +kernel
theorem dX9_isWordSign_7 : decode cX9_isWordSign 7 = .ok (.bipush 124, 2) := by decide +kernel
theorem dX9_isWordSign_9 : decode cX9_isWordSign 9 = .ok (.if_icmp .eq 15, 3) := by decide +kernel
theorem dX9_isWordSign_12 : decode cX9_isWordSign 12 = .ok (.iload_n 0, 1) := by decide +kernel
theorem dX9_isWordSign_13 : decode cX9_isWordSign 13 = .ok (.bipush 97, 2) := by decide +kernel
theorem dX9_isWordSign_15 : decode cX9_isWordSign 15 = .ok (.if_icmp .lt 13, 3) := by decide +kernel
theorem dX9_isWordSign_18 : decode cX9_isWordSign 18 = .ok (.iload_n 0, 1) := by decide +kernel
theorem dX9_isWordSign_19 : decode cX9_isWordSign 19 = .ok (.bipush 122, 2) := by decide +kernel
theorem dX9_isWordSign_21 : decode cX9_isWordSign 21 = .ok (.if_icmp .gt 7, 3) := by decide +kernel
theorem dX9_isWordSign_24 : decode cX9_isWordSign 24 = .ok (.iconst 1, 1) := by decide +kernel
theorem dX9_isWordSign_25 : decode cX9_isWordSign 25 = .ok (.goto 4, 3) := by decide +kernel
theorem dX9_isWordSign_28 : decode cX9_isWordSign 28 = .ok (.iconst 0, 1) := by decide +kernel
theorem dX9_isWordSign_29 : decode cX9_isWordSign 29 = .ok (.ireturn, 1) := by decide +kernel
theorem dX9_distance_0 : decode cX9_distance 0 = .ok (.iload_n 0, 1) := by decide +kernel
theorem dX9_distance_1 : decode cX9_distance 1 = .ok (.iload_n 1, 1) := by decide +kernel
theorem dX9_distance_2 : decode cX9_distance 2 = .ok (.isub, 1) := by decide +kernel
theorem dX9_distance_3 : decode cX9_distance 3 = .ok (.invokestatic 415, 3) := by decide +kernel
theorem dX9_distance_6 : decode cX9_distance 6 = .ok (.ireturn, 1) := by decide +kernel
theorem dX9_dividedUp_0 : decode cX9_dividedUp 0 = .ok (.iload_n 1, 1) := by decide +kernel
theorem dX9_dividedUp_1 : decode cX9_dividedUp 1 = .ok (.ifCond .le 13, 3) := by decide +kernel
theorem dX9_dividedUp_4 : decode cX9_dividedUp 4 = .ok (.iload_n 0, 1) := by decide +kernel
theorem dX9_dividedUp_5 : decode cX9_dividedUp 5 = .ok (.iload_n 1, 1) := by decide +kernel
theorem dX9_dividedUp_6 : decode cX9_dividedUp 6 = .ok (.iadd, 1) := by decide +kernel
theorem dX9_dividedUp_7 : decode cX9_dividedUp 7 = .ok (.iconst 1, 1) := by decide +kernel
theorem dX9_dividedUp_8 : decode cX9_dividedUp 8 = .ok (.isub, 1) := by decide +kernel
theorem dX9_dividedUp_9 : decode cX9_dividedUp 9 = .ok (.iload_n 1, 1) := by decide +kernel
theorem dX9_dividedUp_10 : decode cX9_dividedUp 10 = .ok (.idiv, 1) := by decide +kernel
theorem dX9_dividedUp_11 : decode cX9_dividedUp 11 = .ok (.goto 4, 3) := by decide +kernel
theorem dX9_dividedUp_14 : decode cX9_dividedUp 14 = .ok (.iconst 0, 1) := by decide +kernel
theorem dX9_dividedUp_15 : decode cX9_dividedUp 15 = .ok (.ireturn, 1) := by decide +kernel
end
section
theorem flX9_10 : Cond.fieldLink RX9 10 (TX9 0).1 (TX9 0).2.1 (TX9 0).2.2.1 ∈ lwg := gq 283 (by decide +kernel) rfl
theorem flX9_21 : Cond.fieldLink RX9 21 (TX9 1).1 (TX9 1).2.1 (TX9 1).2.2.1 ∈ lwg := gq 284 (by decide +kernel) rfl
theorem flX9_30 : Cond.fieldLink RX9 30 (TX9 2).1 (TX9 2).2.1 (TX9 2).2.2.1 ∈ lwg := gq 285 (by decide +kernel) rfl
theorem flX9_37 : Cond.fieldLink RX9 37 (TX9 3).1 (TX9 3).2.1 (TX9 3).2.2.1 ∈ lwg := gq 286 (by decide +kernel) rfl
theorem flX9_41 : Cond.fieldLink RX9 41 (TX9 4).1 (TX9 4).2.1 (TX9 4).2.2.1 ∈ lwg := gq 287 (by decide +kernel) rfl
theorem flX9_44 : Cond.fieldLink RX9 44 (TX9 5).1 (TX9 5).2.1 (TX9 5).2.2.1 ∈ lwg := gq 288 (by decide +kernel) rfl
theorem flX9_51 : Cond.fieldLink RX9 51 (TX9 6).1 (TX9 6).2.1 (TX9 6).2.2.1 ∈ lwg := gq 289 (by decide +kernel) rfl
theorem flX9_55 : Cond.fieldLink RX9 55 (TX9 7).1 (TX9 7).2.1 (TX9 7).2.2.1 ∈ lwg := gq 290 (by decide +kernel) rfl
theorem flX9_61 : Cond.fieldLink RX9 61 (TX9 8).1 (TX9 8).2.1 (TX9 8).2.2.1 ∈ lwg := gq 291 (by decide +kernel) rfl
theorem flX9_65 : Cond.fieldLink RX9 65 (TX9 9).1 (TX9 9).2.1 (TX9 9).2.2.1 ∈ lwg := gq 292 (by decide +kernel) rfl
theorem flX9_69 : Cond.fieldLink RX9 69 (TX9 10).1 (TX9 10).2.1 (TX9 10).2.2.1 ∈ lwg := gq 293 (by decide +kernel) rfl
theorem flX9_72 : Cond.fieldLink RX9 72 (TX9 11).1 (TX9 11).2.1 (TX9 11).2.2.1 ∈ lwg := gq 294 (by decide +kernel) rfl
theorem flX9_93 : Cond.fieldLink RX9 93 (TX3 0).1 (TX3 0).2.1 (TX3 0).2.2.1 ∈ lwg := gq 150 (by decide +kernel) rfl
theorem flX9_115 : Cond.fieldLink RX9 115 (TX3 2).1 (TX3 2).2.1 (TX3 2).2.2.1 ∈ lwg := gq 154 (by decide +kernel) rfl
theorem flX9_135 : Cond.fieldLink RX9 135 (TX0 1).1 (TX0 1).2.1 (TX0 1).2.2.1 ∈ lwg := gq 112 (by decide +kernel) rfl
theorem flX9_142 : Cond.fieldLink RX9 142 (TX8 5).1 (TX8 5).2.1 (TX8 5).2.2.1 ∈ lwg := gq 135 (by decide +kernel) rfl
theorem flX9_152 : Cond.fieldLink RX9 152 (TX4 1).1 (TX4 1).2.1 (TX4 1).2.2.1 ∈ lwg := gq 231 (by decide +kernel) rfl
theorem flX9_153 : Cond.fieldLink RX9 153 (TX7 1).1 (TX7 1).2.1 (TX7 1).2.2.1 ∈ lwg := gq 184 (by decide +kernel) rfl
theorem flX9_328 : Cond.fieldLink RX9 328 (TX5 8).1 (TX5 8).2.1 (TX5 8).2.2.1 ∈ lwg := gq 260 (by decide +kernel) rfl
theorem flX9_338 : Cond.fieldLink RX9 338 (TX5 7).1 (TX5 7).2.1 (TX5 7).2.2.1 ∈ lwg := gq 258 (by decide +kernel) rfl
theorem flX9_405 : Cond.fieldLink RX9 405 RX9 "SETTING_FROM" "[I" ∈ lwg := gq 500 (by decide +kernel) rfl
theorem flX9_409 : Cond.fieldLink RX9 409 RX9 "SETTING_TO" "[I" ∈ lwg := gq 502 (by decide +kernel) rfl
theorem flX0_9 : Cond.fieldLink RX0 9 (TX0 0).1 (TX0 0).2.1 (TX0 0).2.2.1 ∈ lwg := gq 110 (by decide +kernel) rfl
theorem flX0_15 : Cond.fieldLink RX0 15 (TX0 1).1 (TX0 1).2.1 (TX0 1).2.2.1 ∈ lwg := gq 111 (by decide +kernel) rfl
theorem flX1_9 : Cond.fieldLink RX1 9 (TX1 0).1 (TX1 0).2.1 (TX1 0).2.2.1 ∈ lwg := gq 207 (by decide +kernel) rfl
theorem flX1_15 : Cond.fieldLink RX1 15 (TX1 1).1 (TX1 1).2.1 (TX1 1).2.2.1 ∈ lwg := gq 208 (by decide +kernel) rfl
theorem flX1_22 : Cond.fieldLink RX1 22 (TX1 2).1 (TX1 2).2.1 (TX1 2).2.2.1 ∈ lwg := gq 209 (by decide +kernel) rfl
theorem flX1_26 : Cond.fieldLink RX1 26 (TX1 3).1 (TX1 3).2.1 (TX1 3).2.2.1 ∈ lwg := gq 210 (by decide +kernel) rfl
theorem flX1_78 : Cond.fieldLink RX1 78 (TX8 5).1 (TX8 5).2.1 (TX8 5).2.2.1 ∈ lwg := gq 133 (by decide +kernel) rfl
theorem flX1_118 : Cond.fieldLink RX1 118 (TX3 2).1 (TX3 2).2.1 (TX3 2).2.2.1 ∈ lwg := gq 155 (by decide +kernel) rfl
theorem flX1_137 : Cond.fieldLink RX1 137 (TX3 0).1 (TX3 0).2.1 (TX3 0).2.2.1 ∈ lwg := gq 151 (by decide +kernel) rfl
theorem flX2_9 : Cond.fieldLink RX2 9 (TX2 0).1 (TX2 0).2.1 (TX2 0).2.2.1 ∈ lwg := gq 192 (by decide +kernel) rfl
theorem flX2_18 : Cond.fieldLink RX2 18 (TX2 1).1 (TX2 1).2.1 (TX2 1).2.2.1 ∈ lwg := gq 193 (by decide +kernel) rfl
theorem flX2_47 : Cond.fieldLink RX2 47 (TX8 5).1 (TX8 5).2.1 (TX8 5).2.2.1 ∈ lwg := gq 132 (by decide +kernel) rfl
theorem flX2_93 : Cond.fieldLink RX2 93 (TX3 2).1 (TX3 2).2.1 (TX3 2).2.2.1 ∈ lwg := gq 156 (by decide +kernel) rfl
theorem flX3_9 : Cond.fieldLink RX3 9 (TX3 0).1 (TX3 0).2.1 (TX3 0).2.2.1 ∈ lwg := gq 149 (by decide +kernel) rfl
theorem flX3_15 : Cond.fieldLink RX3 15 (TX3 1).1 (TX3 1).2.1 (TX3 1).2.2.1 ∈ lwg := gq 152 (by decide +kernel) rfl
theorem flX3_31 : Cond.fieldLink RX3 31 (TX3 2).1 (TX3 2).2.1 (TX3 2).2.2.1 ∈ lwg := gq 153 (by decide +kernel) rfl
theorem flX3_38 : Cond.fieldLink RX3 38 (TX3 3).1 (TX3 3).2.1 (TX3 3).2.2.1 ∈ lwg := gq 157 (by decide +kernel) rfl
theorem flX3_42 : Cond.fieldLink RX3 42 (TX3 4).1 (TX3 4).2.1 (TX3 4).2.2.1 ∈ lwg := gq 158 (by decide +kernel) rfl
theorem flX3_52 : Cond.fieldLink RX3 52 (TX8 5).1 (TX8 5).2.1 (TX8 5).2.2.1 ∈ lwg := gq 134 (by decide +kernel) rfl
theorem flX3_77 : Cond.fieldLink RX3 77 (TX0 1).1 (TX0 1).2.1 (TX0 1).2.2.1 ∈ lwg := gq 113 (by decide +kernel) rfl
theorem flX4_11 : Cond.fieldLink RX4 11 (TX4 0).1 (TX4 0).2.1 (TX4 0).2.2.1 ∈ lwg := gq 229 (by decide +kernel) rfl
theorem flX4_18 : Cond.fieldLink RX4 18 (TX4 1).1 (TX4 1).2.1 (TX4 1).2.2.1 ∈ lwg := gq 230 (by decide +kernel) rfl
theorem flX4_22 : Cond.fieldLink RX4 22 (TX4 2).1 (TX4 2).2.1 (TX4 2).2.2.1 ∈ lwg := gq 232 (by decide +kernel) rfl
theorem flX5_9 : Cond.fieldLink RX5 9 (TX5 0).1 (TX5 0).2.1 (TX5 0).2.2.1 ∈ lwg := gq 250 (by decide +kernel) rfl
theorem flX5_15 : Cond.fieldLink RX5 15 (TX5 1).1 (TX5 1).2.1 (TX5 1).2.2.1 ∈ lwg := gq 251 (by decide +kernel) rfl
theorem flX5_18 : Cond.fieldLink RX5 18 (TX5 2).1 (TX5 2).2.1 (TX5 2).2.2.1 ∈ lwg := gq 252 (by decide +kernel) rfl
theorem flX5_21 : Cond.fieldLink RX5 21 (TX5 3).1 (TX5 3).2.1 (TX5 3).2.2.1 ∈ lwg := gq 253 (by decide +kernel) rfl
theorem flX5_24 : Cond.fieldLink RX5 24 (TX5 4).1 (TX5 4).2.1 (TX5 4).2.2.1 ∈ lwg := gq 254 (by decide +kernel) rfl
theorem flX5_27 : Cond.fieldLink RX5 27 (TX5 5).1 (TX5 5).2.1 (TX5 5).2.2.1 ∈ lwg := gq 255 (by decide +kernel) rfl
theorem flX5_30 : Cond.fieldLink RX5 30 (TX5 6).1 (TX5 6).2.1 (TX5 6).2.2.1 ∈ lwg := gq 256 (by decide +kernel) rfl
theorem flX5_33 : Cond.fieldLink RX5 33 (TX5 7).1 (TX5 7).2.1 (TX5 7).2.2.1 ∈ lwg := gq 257 (by decide +kernel) rfl
theorem flX5_37 : Cond.fieldLink RX5 37 (TX5 8).1 (TX5 8).2.1 (TX5 8).2.2.1 ∈ lwg := gq 259 (by decide +kernel) rfl
theorem flX5_43 : Cond.fieldLink RX5 43 (TX5 9).1 (TX5 9).2.1 (TX5 9).2.2.1 ∈ lwg := gq 261 (by decide +kernel) rfl
theorem flX5_54 : Cond.fieldLink RX5 54 (TX7 1).1 (TX7 1).2.1 (TX7 1).2.2.1 ∈ lwg := gq 185 (by decide +kernel) rfl
theorem flX6_7 : Cond.fieldLink RX6 7 (TX6 0).1 (TX6 0).2.1 (TX6 0).2.2.1 ∈ lwg := gq 972 (by decide +kernel) rfl
theorem flX6_13 : Cond.fieldLink RX6 13 (TX6 1).1 (TX6 1).2.1 (TX6 1).2.2.1 ∈ lwg := gq 973 (by decide +kernel) rfl
theorem flX6_22 : Cond.fieldLink RX6 22 (TX6 2).1 (TX6 2).2.1 (TX6 2).2.2.1 ∈ lwg := gq 974 (by decide +kernel) rfl
theorem flX6_25 : Cond.fieldLink RX6 25 (TX6 3).1 (TX6 3).2.1 (TX6 3).2.2.1 ∈ lwg := gq 975 (by decide +kernel) rfl
theorem flX7_9 : Cond.fieldLink RX7 9 (TX7 0).1 (TX7 0).2.1 (TX7 0).2.2.1 ∈ lwg := gq 182 (by decide +kernel) rfl
theorem flX7_15 : Cond.fieldLink RX7 15 (TX7 1).1 (TX7 1).2.1 (TX7 1).2.2.1 ∈ lwg := gq 183 (by decide +kernel) rfl
theorem flX8_9 : Cond.fieldLink RX8 9 (TX8 0).1 (TX8 0).2.1 (TX8 0).2.2.1 ∈ lwg := gq 126 (by decide +kernel) rfl
theorem flX8_15 : Cond.fieldLink RX8 15 (TX8 1).1 (TX8 1).2.1 (TX8 1).2.2.1 ∈ lwg := gq 127 (by decide +kernel) rfl
theorem flX8_18 : Cond.fieldLink RX8 18 (TX8 2).1 (TX8 2).2.1 (TX8 2).2.2.1 ∈ lwg := gq 128 (by decide +kernel) rfl
theorem flX8_21 : Cond.fieldLink RX8 21 (TX8 3).1 (TX8 3).2.1 (TX8 3).2.2.1 ∈ lwg := gq 129 (by decide +kernel) rfl
theorem flX8_24 : Cond.fieldLink RX8 24 (TX8 4).1 (TX8 4).2.1 (TX8 4).2.2.1 ∈ lwg := gq 130 (by decide +kernel) rfl
theorem flX8_27 : Cond.fieldLink RX8 27 (TX8 5).1 (TX8 5).2.1 (TX8 5).2.2.1 ∈ lwg := gq 131 (by decide +kernel) rfl
theorem flX8_81 : Cond.fieldLink RX8 81 (TX7 1).1 (TX7 1).2.1 (TX7 1).2.2.1 ∈ lwg := gq 186 (by decide +kernel) rfl
theorem flX10_7 : Cond.fieldLink RX10 7 (TX10 0).1 (TX10 0).2.1 (TX10 0).2.2.1 ∈ lwg := gq 1274 (by decide +kernel) rfl
theorem flX10_13 : Cond.fieldLink RX10 13 (TX10 1).1 (TX10 1).2.1 (TX10 1).2.2.1 ∈ lwg := gq 1275 (by decide +kernel) rfl
theorem flX10_16 : Cond.fieldLink RX10 16 (TX10 2).1 (TX10 2).2.1 (TX10 2).2.2.1 ∈ lwg := gq 1276 (by decide +kernel) rfl
theorem flX10_19 : Cond.fieldLink RX10 19 (TX10 4).1 (TX10 4).2.1 (TX10 4).2.2.1 ∈ lwg := gq 1278 (by decide +kernel) rfl
theorem flX10_22 : Cond.fieldLink RX10 22 (TX10 6).1 (TX10 6).2.1 (TX10 6).2.2.1 ∈ lwg := gq 1280 (by decide +kernel) rfl
theorem flX10_25 : Cond.fieldLink RX10 25 (TX10 9).1 (TX10 9).2.1 (TX10 9).2.2.1 ∈ lwg := gq 1283 (by decide +kernel) rfl
theorem flX10_29 : Cond.fieldLink RX10 29 (TX10 11).1 (TX10 11).2.1 (TX10 11).2.2.1 ∈ lwg := gq 1285 (by decide +kernel) rfl
theorem flX10_32 : Cond.fieldLink RX10 32 (TX10 15).1 (TX10 15).2.1 (TX10 15).2.2.1 ∈ lwg := gq 1289 (by decide +kernel) rfl
theorem flX10_35 : Cond.fieldLink RX10 35 (TX10 10).1 (TX10 10).2.1 (TX10 10).2.2.1 ∈ lwg := gq 1284 (by decide +kernel) rfl
theorem flX10_38 : Cond.fieldLink RX10 38 (TX10 7).1 (TX10 7).2.1 (TX10 7).2.2.1 ∈ lwg := gq 1281 (by decide +kernel) rfl
theorem flX10_41 : Cond.fieldLink RX10 41 (TX10 8).1 (TX10 8).2.1 (TX10 8).2.2.1 ∈ lwg := gq 1282 (by decide +kernel) rfl
theorem flX10_60 : Cond.fieldLink RX10 60 (TX10 5).1 (TX10 5).2.1 (TX10 5).2.2.1 ∈ lwg := gq 1279 (by decide +kernel) rfl
theorem flX10_67 : Cond.fieldLink RX10 67 (TX10 3).1 (TX10 3).2.1 (TX10 3).2.2.1 ∈ lwg := gq 1277 (by decide +kernel) rfl
theorem flX10_137 : Cond.fieldLink RX10 137 (TX10 12).1 (TX10 12).2.1 (TX10 12).2.2.1 ∈ lwg := gq 1286 (by decide +kernel) rfl
theorem flX10_211 : Cond.fieldLink RX10 211 (TX10 13).1 (TX10 13).2.1 (TX10 13).2.2.1 ∈ lwg := gq 1287 (by decide +kernel) rfl
theorem flX10_217 : Cond.fieldLink RX10 217 (TX10 14).1 (TX10 14).2.1 (TX10 14).2.2.1 ∈ lwg := gq 1288 (by decide +kernel) rfl
theorem flX10_220 : Cond.fieldLink RX10 220 (TX10 16).1 (TX10 16).2.1 (TX10 16).2.2.1 ∈ lwg := gq 1290 (by decide +kernel) rfl
section FIELDS
variable {l : Launch} {Γ : gG} {ad : Nat → Nat} {N : Nat} {cc : ByteArray} {nL : Nat} {rt : Option FieldType} {p : Program} {e : Env} {R : Room} {s : State} {m : MethodId} {args : Array Value} {below : List Frame} {meth : Method} {c : Code} {H : Heap} {locs : List Loc} {cells slots : Nat} {Q : State → Prop} {pc : Nat} {ls : Array Slot} {rest : List Value} {σ σ1 : gSt}
theorem gfX9_10 (X : gX celC Γ ad N RX9 cc nL rt p s m args meth c) (S : gS celC Γ ad N σ s H locs) (hN : 202 ≤ N) {k : Nat} (hk : gkd k = 9) (hdg : decode cc pc = .ok (.getfield 10, 3)) (kk : W p l e R s m args below meth c H locs cells slots Q (F0 m (pc + 3) ls (.ref (ad 1) :: rest))) : W p l e R s m args below meth c H locs cells slots Q (F0 m pc ls (.ref (ad k) :: rest)) := g_get X S (kd_N hk (by decide) hN) (ceC_9 hk _) rfl inX9 0 (by decide) flX9_10 rfl hdg kk
theorem gfX9_21 (X : gX celC Γ ad N RX9 cc nL rt p s m args meth c) (S : gS celC Γ ad N σ s H locs) (hN : 202 ≤ N) {k : Nat} (hk : gkd k = 9) (hdg : decode cc pc = .ok (.getfield 21, 3)) (kk : W p l e R s m args below meth c H locs cells slots Q (F0 m (pc + 3) ls (.ref (ad 17) :: rest))) : W p l e R s m args below meth c H locs cells slots Q (F0 m pc ls (.ref (ad k) :: rest)) := g_get X S (kd_N hk (by decide) hN) (ceC_9 hk _) rfl inX9 1 (by decide) flX9_21 rfl hdg kk
theorem gfX9_30 (X : gX celC Γ ad N RX9 cc nL rt p s m args meth c) (S : gS celC Γ ad N σ s H locs) (hN : 202 ≤ N) {k : Nat} (hk : gkd k = 9) (hdg : decode cc pc = .ok (.getfield 30, 3)) (kk : W p l e R s m args below meth c H locs cells slots Q (F0 m (pc + 3) ls (.ref (ad 20) :: rest))) : W p l e R s m args below meth c H locs cells slots Q (F0 m pc ls (.ref (ad k) :: rest)) := g_get X S (kd_N hk (by decide) hN) (ceC_9 hk _) rfl inX9 2 (by decide) flX9_30 rfl hdg kk
theorem gfX9_37 (X : gX celC Γ ad N RX9 cc nL rt p s m args meth c) (S : gS celC Γ ad N σ s H locs) (hN : 202 ≤ N) {k : Nat} (hk : gkd k = 9) (hdg : decode cc pc = .ok (.getfield 37, 3)) (kk : W p l e R s m args below meth c H locs cells slots Q (F0 m (pc + 3) ls (.ref (ad 25) :: rest))) : W p l e R s m args below meth c H locs cells slots Q (F0 m pc ls (.ref (ad k) :: rest)) := g_get X S (kd_N hk (by decide) hN) (ceC_9 hk _) rfl inX9 3 (by decide) flX9_37 rfl hdg kk
theorem gfX9_41 (X : gX celC Γ ad N RX9 cc nL rt p s m args meth c) (S : gS celC Γ ad N σ s H locs) (hN : 202 ≤ N) {k : Nat} (hk : gkd k = 9) (hdg : decode cc pc = .ok (.getfield 41, 3)) (kk : W p l e R s m args below meth c H locs cells slots Q (F0 m (pc + 3) ls (.ref (ad 171) :: rest))) : W p l e R s m args below meth c H locs cells slots Q (F0 m pc ls (.ref (ad k) :: rest)) := g_get X S (kd_N hk (by decide) hN) (ceC_9 hk _) rfl inX9 4 (by decide) flX9_41 rfl hdg kk
theorem gfX9_44 (X : gX celC Γ ad N RX9 cc nL rt p s m args meth c) (S : gS celC Γ ad N σ s H locs) (hN : 202 ≤ N) {k : Nat} (hk : gkd k = 9) (hdg : decode cc pc = .ok (.getfield 44, 3)) (kk : W p l e R s m args below meth c H locs cells slots Q (F0 m (pc + 3) ls (.int (σ k 5) :: rest))) : W p l e R s m args below meth c H locs cells slots Q (F0 m pc ls (.ref (ad k) :: rest)) := g_get X S (kd_N hk (by decide) hN) (ceC_9 hk _) rfl inX9 5 (by decide) flX9_44 rfl hdg kk
theorem pfX9_44 {v : Int32} (X : gX celC Γ ad N RX9 cc nL rt p s m args meth c) (S : gS celC Γ ad N σ s H locs) (hN : 202 ≤ N) {k : Nat} (hk : gkd k = 9) (hz : narrow .boolean (.int v) = .int v ∧ fits .boolean (.int v) = true) (h : gset σ k 5 v = some σ1) (hdg : decode cc pc = .ok (.putfield 44, 3)) (kk : ∀ (H : Heap) (locs : List Loc), gS celC Γ ad N σ1 s H locs → W p l e R s m args below meth c H locs cells slots Q (F0 m (pc + 3) ls rest)) : W p l e R s m args below meth c H locs cells slots Q (F0 m pc ls (.int v :: .ref (ad k) :: rest)) := g_put X S (kd_N hk (by decide) hN) (ceC_9 hk _) rfl inX9 tyX9 tyX9_ok nmX9 5 (by decide) flX9_44 rfl (row := upd (σ k) 5 v) hz.1 hz.2 (by decide : 5 < 12) (by rw [ceC_9 hk]; simp [upd]) (Option.some.inj h) hdg kk
theorem gfX9_51 (X : gX celC Γ ad N RX9 cc nL rt p s m args meth c) (S : gS celC Γ ad N σ s H locs) (hN : 202 ≤ N) {k : Nat} (hk : gkd k = 9) (hdg : decode cc pc = .ok (.getfield 51, 3)) (kk : W p l e R s m args below meth c H locs cells slots Q (F0 m (pc + 3) ls (.ref (ad 187) :: rest))) : W p l e R s m args below meth c H locs cells slots Q (F0 m pc ls (.ref (ad k) :: rest)) := g_get X S (kd_N hk (by decide) hN) (ceC_9 hk _) rfl inX9 6 (by decide) flX9_51 rfl hdg kk
theorem gfX9_55 (X : gX celC Γ ad N RX9 cc nL rt p s m args meth c) (S : gS celC Γ ad N σ s H locs) (hN : 202 ≤ N) {k : Nat} (hk : gkd k = 9) (hdg : decode cc pc = .ok (.getfield 55, 3)) (kk : W p l e R s m args below meth c H locs cells slots Q (F0 m (pc + 3) ls (.ref (ad 189) :: rest))) : W p l e R s m args below meth c H locs cells slots Q (F0 m pc ls (.ref (ad k) :: rest)) := g_get X S (kd_N hk (by decide) hN) (ceC_9 hk _) rfl inX9 7 (by decide) flX9_55 rfl hdg kk
theorem gfX9_61 (X : gX celC Γ ad N RX9 cc nL rt p s m args meth c) (S : gS celC Γ ad N σ s H locs) (hN : 202 ≤ N) {k : Nat} (hk : gkd k = 9) (hdg : decode cc pc = .ok (.getfield 61, 3)) (kk : W p l e R s m args below meth c H locs cells slots Q (F0 m (pc + 3) ls (.ref (ad 191) :: rest))) : W p l e R s m args below meth c H locs cells slots Q (F0 m pc ls (.ref (ad k) :: rest)) := g_get X S (kd_N hk (by decide) hN) (ceC_9 hk _) rfl inX9 8 (by decide) flX9_61 rfl hdg kk
theorem gfX9_65 (X : gX celC Γ ad N RX9 cc nL rt p s m args meth c) (S : gS celC Γ ad N σ s H locs) (hN : 202 ≤ N) {k : Nat} (hk : gkd k = 9) (hdg : decode cc pc = .ok (.getfield 65, 3)) (kk : W p l e R s m args below meth c H locs cells slots Q (F0 m (pc + 3) ls (.int (σ k 9) :: rest))) : W p l e R s m args below meth c H locs cells slots Q (F0 m pc ls (.ref (ad k) :: rest)) := g_get X S (kd_N hk (by decide) hN) (ceC_9 hk _) rfl inX9 9 (by decide) flX9_65 rfl hdg kk
theorem pfX9_65 {v : Int32} (X : gX celC Γ ad N RX9 cc nL rt p s m args meth c) (S : gS celC Γ ad N σ s H locs) (hN : 202 ≤ N) {k : Nat} (hk : gkd k = 9) (h : gset σ k 9 v = some σ1) (hdg : decode cc pc = .ok (.putfield 65, 3)) (kk : ∀ (H : Heap) (locs : List Loc), gS celC Γ ad N σ1 s H locs → W p l e R s m args below meth c H locs cells slots Q (F0 m (pc + 3) ls rest)) : W p l e R s m args below meth c H locs cells slots Q (F0 m pc ls (.int v :: .ref (ad k) :: rest)) := g_put X S (kd_N hk (by decide) hN) (ceC_9 hk _) rfl inX9 tyX9 tyX9_ok nmX9 9 (by decide) flX9_65 rfl (row := upd (σ k) 9 v) rfl rfl (by decide : 9 < 12) (by rw [ceC_9 hk]; simp [upd]) (Option.some.inj h) hdg kk
theorem gfX9_69 (X : gX celC Γ ad N RX9 cc nL rt p s m args meth c) (S : gS celC Γ ad N σ s H locs) (hN : 202 ≤ N) {k : Nat} (hk : gkd k = 9) (hdg : decode cc pc = .ok (.getfield 69, 3)) (kk : W p l e R s m args below meth c H locs cells slots Q (F0 m (pc + 3) ls (.int (σ k 10) :: rest))) : W p l e R s m args below meth c H locs cells slots Q (F0 m pc ls (.ref (ad k) :: rest)) := g_get X S (kd_N hk (by decide) hN) (ceC_9 hk _) rfl inX9 10 (by decide) flX9_69 rfl hdg kk
theorem pfX9_69 {v : Int32} (X : gX celC Γ ad N RX9 cc nL rt p s m args meth c) (S : gS celC Γ ad N σ s H locs) (hN : 202 ≤ N) {k : Nat} (hk : gkd k = 9) (h : gset σ k 10 v = some σ1) (hdg : decode cc pc = .ok (.putfield 69, 3)) (kk : ∀ (H : Heap) (locs : List Loc), gS celC Γ ad N σ1 s H locs → W p l e R s m args below meth c H locs cells slots Q (F0 m (pc + 3) ls rest)) : W p l e R s m args below meth c H locs cells slots Q (F0 m pc ls (.int v :: .ref (ad k) :: rest)) := g_put X S (kd_N hk (by decide) hN) (ceC_9 hk _) rfl inX9 tyX9 tyX9_ok nmX9 10 (by decide) flX9_69 rfl (row := upd (σ k) 10 v) rfl rfl (by decide : 10 < 12) (by rw [ceC_9 hk]; simp [upd]) (Option.some.inj h) hdg kk
theorem gfX9_72 (X : gX celC Γ ad N RX9 cc nL rt p s m args meth c) (S : gS celC Γ ad N σ s H locs) (hN : 202 ≤ N) {k : Nat} (hk : gkd k = 9) (hdg : decode cc pc = .ok (.getfield 72, 3)) (kk : W p l e R s m args below meth c H locs cells slots Q (F0 m (pc + 3) ls (.int (σ k 11) :: rest))) : W p l e R s m args below meth c H locs cells slots Q (F0 m pc ls (.ref (ad k) :: rest)) := g_get X S (kd_N hk (by decide) hN) (ceC_9 hk _) rfl inX9 11 (by decide) flX9_72 rfl hdg kk
theorem pfX9_72 {v : Int32} (X : gX celC Γ ad N RX9 cc nL rt p s m args meth c) (S : gS celC Γ ad N σ s H locs) (hN : 202 ≤ N) {k : Nat} (hk : gkd k = 9) (h : gset σ k 11 v = some σ1) (hdg : decode cc pc = .ok (.putfield 72, 3)) (kk : ∀ (H : Heap) (locs : List Loc), gS celC Γ ad N σ1 s H locs → W p l e R s m args below meth c H locs cells slots Q (F0 m (pc + 3) ls rest)) : W p l e R s m args below meth c H locs cells slots Q (F0 m pc ls (.int v :: .ref (ad k) :: rest)) := g_put X S (kd_N hk (by decide) hN) (ceC_9 hk _) rfl inX9 tyX9 tyX9_ok nmX9 11 (by decide) flX9_72 rfl (row := upd (σ k) 11 v) rfl rfl (by decide : 11 < 12) (by rw [ceC_9 hk]; simp [upd]) (Option.some.inj h) hdg kk
theorem gfX9_93 (X : gX celC Γ ad N RX9 cc nL rt p s m args meth c) (S : gS celC Γ ad N σ s H locs) (hN : 202 ≤ N) {k : Nat} (hk : gkd k = 3) (hdg : decode cc pc = .ok (.getfield 93, 3)) (kk : W p l e R s m args below meth c H locs cells slots Q (F0 m (pc + 3) ls (.int (σ k 0) :: rest))) : W p l e R s m args below meth c H locs cells slots Q (F0 m pc ls (.ref (ad k) :: rest)) := g_get X S (kd_N hk (by decide) hN) (ceC_3 hk _) rfl inX3 0 (by decide) flX9_93 rfl hdg kk
theorem pfX9_93 {v : Int32} (X : gX celC Γ ad N RX9 cc nL rt p s m args meth c) (S : gS celC Γ ad N σ s H locs) (hN : 202 ≤ N) {k : Nat} (hk : gkd k = 3) (h : gset σ k 0 v = some σ1) (hdg : decode cc pc = .ok (.putfield 93, 3)) (kk : ∀ (H : Heap) (locs : List Loc), gS celC Γ ad N σ1 s H locs → W p l e R s m args below meth c H locs cells slots Q (F0 m (pc + 3) ls rest)) : W p l e R s m args below meth c H locs cells slots Q (F0 m pc ls (.int v :: .ref (ad k) :: rest)) := g_put X S (kd_N hk (by decide) hN) (ceC_3 hk _) rfl inX3 tyX3 tyX3_ok nmX3 0 (by decide) flX9_93 rfl (row := upd (σ k) 0 v) rfl rfl (by decide : 0 < 5) (by rw [ceC_3 hk]; simp [upd]) (Option.some.inj h) hdg kk
theorem gfX9_115 (X : gX celC Γ ad N RX9 cc nL rt p s m args meth c) (S : gS celC Γ ad N σ s H locs) (hN : 202 ≤ N) {k : Nat} (hk : gkd k = 3) (hdg : decode cc pc = .ok (.getfield 115, 3)) (kk : W p l e R s m args below meth c H locs cells slots Q (F0 m (pc + 3) ls (.ref (ad (k + 2)) :: rest))) : W p l e R s m args below meth c H locs cells slots Q (F0 m pc ls (.ref (ad k) :: rest)) := g_get X S (kd_N hk (by decide) hN) (ceC_3 hk _) rfl inX3 2 (by decide) flX9_115 rfl hdg kk
theorem gfX9_135 (X : gX celC Γ ad N RX9 cc nL rt p s m args meth c) (S : gS celC Γ ad N σ s H locs) (hN : 202 ≤ N) {k : Nat} (hk : gkd k = 0) (hdg : decode cc pc = .ok (.getfield 135, 3)) (kk : W p l e R s m args below meth c H locs cells slots Q (F0 m (pc + 3) ls (.int (σ k 1) :: rest))) : W p l e R s m args below meth c H locs cells slots Q (F0 m pc ls (.ref (ad k) :: rest)) := g_get X S (kd_N hk (by decide) hN) (ceC_0 hk _) rfl inX0 1 (by decide) flX9_135 rfl hdg kk
theorem pfX9_135 {v : Int32} (X : gX celC Γ ad N RX9 cc nL rt p s m args meth c) (S : gS celC Γ ad N σ s H locs) (hN : 202 ≤ N) {k : Nat} (hk : gkd k = 0) (h : gset σ k 1 v = some σ1) (hdg : decode cc pc = .ok (.putfield 135, 3)) (kk : ∀ (H : Heap) (locs : List Loc), gS celC Γ ad N σ1 s H locs → W p l e R s m args below meth c H locs cells slots Q (F0 m (pc + 3) ls rest)) : W p l e R s m args below meth c H locs cells slots Q (F0 m pc ls (.int v :: .ref (ad k) :: rest)) := g_put X S (kd_N hk (by decide) hN) (ceC_0 hk _) rfl inX0 tyX0 tyX0_ok nmX0 1 (by decide) flX9_135 rfl (row := upd (σ k) 1 v) rfl rfl (by decide : 1 < 2) (by rw [ceC_0 hk]; simp [upd]) (Option.some.inj h) hdg kk
theorem gfX9_142 (X : gX celC Γ ad N RX9 cc nL rt p s m args meth c) (S : gS celC Γ ad N σ s H locs) (hN : 202 ≤ N) {k : Nat} (hk : gkd k = 8) (hdg : decode cc pc = .ok (.getfield 142, 3)) (kk : W p l e R s m args below meth c H locs cells slots Q (F0 m (pc + 3) ls (.int (σ k 5) :: rest))) : W p l e R s m args below meth c H locs cells slots Q (F0 m pc ls (.ref (ad k) :: rest)) := g_get X S (kd_N hk (by decide) hN) (ceC_8 hk _) rfl inX8 5 (by decide) flX9_142 rfl hdg kk
theorem pfX9_142 {v : Int32} (X : gX celC Γ ad N RX9 cc nL rt p s m args meth c) (S : gS celC Γ ad N σ s H locs) (hN : 202 ≤ N) {k : Nat} (hk : gkd k = 8) (h : gset σ k 5 v = some σ1) (hdg : decode cc pc = .ok (.putfield 142, 3)) (kk : ∀ (H : Heap) (locs : List Loc), gS celC Γ ad N σ1 s H locs → W p l e R s m args below meth c H locs cells slots Q (F0 m (pc + 3) ls rest)) : W p l e R s m args below meth c H locs cells slots Q (F0 m pc ls (.int v :: .ref (ad k) :: rest)) := g_put X S (kd_N hk (by decide) hN) (ceC_8 hk _) rfl inX8 tyX8 tyX8_ok nmX8 5 (by decide) flX9_142 rfl (row := upd (σ k) 5 v) rfl rfl (by decide : 5 < 6) (by rw [ceC_8 hk]; simp [upd]) (Option.some.inj h) hdg kk
theorem gfX9_152 (X : gX celC Γ ad N RX9 cc nL rt p s m args meth c) (S : gS celC Γ ad N σ s H locs) (hN : 202 ≤ N) {k : Nat} (hk : gkd k = 4) (hdg : decode cc pc = .ok (.getfield 152, 3)) (kk : W p l e R s m args below meth c H locs cells slots Q (F0 m (pc + 3) ls (.int (σ k 1) :: rest))) : W p l e R s m args below meth c H locs cells slots Q (F0 m pc ls (.ref (ad k) :: rest)) := g_get X S (kd_N hk (by decide) hN) (ceC_4 hk _) rfl inX4 1 (by decide) flX9_152 rfl hdg kk
theorem pfX9_152 {v : Int32} (X : gX celC Γ ad N RX9 cc nL rt p s m args meth c) (S : gS celC Γ ad N σ s H locs) (hN : 202 ≤ N) {k : Nat} (hk : gkd k = 4) (h : gset σ k 1 v = some σ1) (hdg : decode cc pc = .ok (.putfield 152, 3)) (kk : ∀ (H : Heap) (locs : List Loc), gS celC Γ ad N σ1 s H locs → W p l e R s m args below meth c H locs cells slots Q (F0 m (pc + 3) ls rest)) : W p l e R s m args below meth c H locs cells slots Q (F0 m pc ls (.int v :: .ref (ad k) :: rest)) := g_put X S (kd_N hk (by decide) hN) (ceC_4 hk _) rfl inX4 tyX4 tyX4_ok nmX4 1 (by decide) flX9_152 rfl (row := upd (σ k) 1 v) rfl rfl (by decide : 1 < 3) (by rw [ceC_4 hk]; simp [upd]) (Option.some.inj h) hdg kk
theorem gfX9_153 (X : gX celC Γ ad N RX9 cc nL rt p s m args meth c) (S : gS celC Γ ad N σ s H locs) (hN : 202 ≤ N) {k : Nat} (hk : gkd k = 7) (hdg : decode cc pc = .ok (.getfield 153, 3)) (kk : W p l e R s m args below meth c H locs cells slots Q (F0 m (pc + 3) ls (.int (σ k 1) :: rest))) : W p l e R s m args below meth c H locs cells slots Q (F0 m pc ls (.ref (ad k) :: rest)) := g_get X S (kd_N hk (by decide) hN) (ceC_7 hk _) rfl inX7 1 (by decide) flX9_153 rfl hdg kk
theorem pfX9_153 {v : Int32} (X : gX celC Γ ad N RX9 cc nL rt p s m args meth c) (S : gS celC Γ ad N σ s H locs) (hN : 202 ≤ N) {k : Nat} (hk : gkd k = 7) (h : gset σ k 1 v = some σ1) (hdg : decode cc pc = .ok (.putfield 153, 3)) (kk : ∀ (H : Heap) (locs : List Loc), gS celC Γ ad N σ1 s H locs → W p l e R s m args below meth c H locs cells slots Q (F0 m (pc + 3) ls rest)) : W p l e R s m args below meth c H locs cells slots Q (F0 m pc ls (.int v :: .ref (ad k) :: rest)) := g_put X S (kd_N hk (by decide) hN) (ceC_7 hk _) rfl inX7 tyX7 tyX7_ok nmX7 1 (by decide) flX9_153 rfl (row := upd (σ k) 1 v) rfl rfl (by decide : 1 < 2) (by rw [ceC_7 hk]; simp [upd]) (Option.some.inj h) hdg kk
theorem gfX9_328 (X : gX celC Γ ad N RX9 cc nL rt p s m args meth c) (S : gS celC Γ ad N σ s H locs) (hN : 202 ≤ N) {k : Nat} (hk : gkd k = 5) (hdg : decode cc pc = .ok (.getfield 328, 3)) (kk : W p l e R s m args below meth c H locs cells slots Q (F0 m (pc + 3) ls (.int (σ k 8) :: rest))) : W p l e R s m args below meth c H locs cells slots Q (F0 m pc ls (.ref (ad k) :: rest)) := g_get X S (kd_N hk (by decide) hN) (ceC_5 hk _) rfl inX5 8 (by decide) flX9_328 rfl hdg kk
theorem pfX9_328 {v : Int32} (X : gX celC Γ ad N RX9 cc nL rt p s m args meth c) (S : gS celC Γ ad N σ s H locs) (hN : 202 ≤ N) {k : Nat} (hk : gkd k = 5) (h : gset σ k 8 v = some σ1) (hdg : decode cc pc = .ok (.putfield 328, 3)) (kk : ∀ (H : Heap) (locs : List Loc), gS celC Γ ad N σ1 s H locs → W p l e R s m args below meth c H locs cells slots Q (F0 m (pc + 3) ls rest)) : W p l e R s m args below meth c H locs cells slots Q (F0 m pc ls (.int v :: .ref (ad k) :: rest)) := g_put X S (kd_N hk (by decide) hN) (ceC_5 hk _) rfl inX5 tyX5 tyX5_ok nmX5 8 (by decide) flX9_328 rfl (row := upd (σ k) 8 v) rfl rfl (by decide : 8 < 10) (by rw [ceC_5 hk]; simp [upd]) (Option.some.inj h) hdg kk
theorem gfX9_338 (X : gX celC Γ ad N RX9 cc nL rt p s m args meth c) (S : gS celC Γ ad N σ s H locs) (hN : 202 ≤ N) {k : Nat} (hk : gkd k = 5) (hdg : decode cc pc = .ok (.getfield 338, 3)) (kk : W p l e R s m args below meth c H locs cells slots Q (F0 m (pc + 3) ls (.int (σ k 7) :: rest))) : W p l e R s m args below meth c H locs cells slots Q (F0 m pc ls (.ref (ad k) :: rest)) := g_get X S (kd_N hk (by decide) hN) (ceC_5 hk _) rfl inX5 7 (by decide) flX9_338 rfl hdg kk
theorem pfX9_338 {v : Int32} (X : gX celC Γ ad N RX9 cc nL rt p s m args meth c) (S : gS celC Γ ad N σ s H locs) (hN : 202 ≤ N) {k : Nat} (hk : gkd k = 5) (h : gset σ k 7 v = some σ1) (hdg : decode cc pc = .ok (.putfield 338, 3)) (kk : ∀ (H : Heap) (locs : List Loc), gS celC Γ ad N σ1 s H locs → W p l e R s m args below meth c H locs cells slots Q (F0 m (pc + 3) ls rest)) : W p l e R s m args below meth c H locs cells slots Q (F0 m pc ls (.int v :: .ref (ad k) :: rest)) := g_put X S (kd_N hk (by decide) hN) (ceC_5 hk _) rfl inX5 tyX5 tyX5_ok nmX5 7 (by decide) flX9_338 rfl (row := upd (σ k) 7 v) rfl rfl (by decide : 7 < 10) (by rw [ceC_5 hk]; simp [upd]) (Option.some.inj h) hdg kk
theorem gfX0_9 (X : gX celC Γ ad N RX0 cc nL rt p s m args meth c) (S : gS celC Γ ad N σ s H locs) (hN : 202 ≤ N) {k : Nat} (hk : gkd k = 0) (hdg : decode cc pc = .ok (.getfield 9, 3)) (kk : W p l e R s m args below meth c H locs cells slots Q (F0 m (pc + 3) ls (.ref (ad (k + 1)) :: rest))) : W p l e R s m args below meth c H locs cells slots Q (F0 m pc ls (.ref (ad k) :: rest)) := g_get X S (kd_N hk (by decide) hN) (ceC_0 hk _) rfl inX0 0 (by decide) flX0_9 rfl hdg kk
theorem gfX0_15 (X : gX celC Γ ad N RX0 cc nL rt p s m args meth c) (S : gS celC Γ ad N σ s H locs) (hN : 202 ≤ N) {k : Nat} (hk : gkd k = 0) (hdg : decode cc pc = .ok (.getfield 15, 3)) (kk : W p l e R s m args below meth c H locs cells slots Q (F0 m (pc + 3) ls (.int (σ k 1) :: rest))) : W p l e R s m args below meth c H locs cells slots Q (F0 m pc ls (.ref (ad k) :: rest)) := g_get X S (kd_N hk (by decide) hN) (ceC_0 hk _) rfl inX0 1 (by decide) flX0_15 rfl hdg kk
theorem pfX0_15 {v : Int32} (X : gX celC Γ ad N RX0 cc nL rt p s m args meth c) (S : gS celC Γ ad N σ s H locs) (hN : 202 ≤ N) {k : Nat} (hk : gkd k = 0) (h : gset σ k 1 v = some σ1) (hdg : decode cc pc = .ok (.putfield 15, 3)) (kk : ∀ (H : Heap) (locs : List Loc), gS celC Γ ad N σ1 s H locs → W p l e R s m args below meth c H locs cells slots Q (F0 m (pc + 3) ls rest)) : W p l e R s m args below meth c H locs cells slots Q (F0 m pc ls (.int v :: .ref (ad k) :: rest)) := g_put X S (kd_N hk (by decide) hN) (ceC_0 hk _) rfl inX0 tyX0 tyX0_ok nmX0 1 (by decide) flX0_15 rfl (row := upd (σ k) 1 v) rfl rfl (by decide : 1 < 2) (by rw [ceC_0 hk]; simp [upd]) (Option.some.inj h) hdg kk
theorem gfX1_9 (X : gX celC Γ ad N RX1 cc nL rt p s m args meth c) (S : gS celC Γ ad N σ s H locs) (hN : 202 ≤ N) {k : Nat} (hk : gkd k = 1) (hdg : decode cc pc = .ok (.getfield 9, 3)) (kk : W p l e R s m args below meth c H locs cells slots Q (F0 m (pc + 3) ls (.ref (ad 1) :: rest))) : W p l e R s m args below meth c H locs cells slots Q (F0 m pc ls (.ref (ad k) :: rest)) := g_get X S (kd_N hk (by decide) hN) (ceC_1 hk _) rfl inX1 0 (by decide) flX1_9 rfl hdg kk
theorem gfX1_15 (X : gX celC Γ ad N RX1 cc nL rt p s m args meth c) (S : gS celC Γ ad N σ s H locs) (hN : 202 ≤ N) {k : Nat} (hk : gkd k = 1) (hdg : decode cc pc = .ok (.getfield 15, 3)) (kk : W p l e R s m args below meth c H locs cells slots Q (F0 m (pc + 3) ls (.ref (ad 17) :: rest))) : W p l e R s m args below meth c H locs cells slots Q (F0 m pc ls (.ref (ad k) :: rest)) := g_get X S (kd_N hk (by decide) hN) (ceC_1 hk _) rfl inX1 1 (by decide) flX1_15 rfl hdg kk
theorem gfX1_22 (X : gX celC Γ ad N RX1 cc nL rt p s m args meth c) (S : gS celC Γ ad N σ s H locs) (hN : 202 ≤ N) {k : Nat} (hk : gkd k = 1) (hdg : decode cc pc = .ok (.getfield 22, 3)) (kk : W p l e R s m args below meth c H locs cells slots Q (F0 m (pc + 3) ls (.ref (ad 21) :: rest))) : W p l e R s m args below meth c H locs cells slots Q (F0 m pc ls (.ref (ad k) :: rest)) := g_get X S (kd_N hk (by decide) hN) (ceC_1 hk _) rfl inX1 2 (by decide) flX1_22 rfl hdg kk
theorem gfX1_26 (X : gX celC Γ ad N RX1 cc nL rt p s m args meth c) (S : gS celC Γ ad N σ s H locs) (hN : 202 ≤ N) {k : Nat} (hk : gkd k = 1) (hdg : decode cc pc = .ok (.getfield 26, 3)) (kk : W p l e R s m args below meth c H locs cells slots Q (F0 m (pc + 3) ls (.ref (ad 23) :: rest))) : W p l e R s m args below meth c H locs cells slots Q (F0 m pc ls (.ref (ad k) :: rest)) := g_get X S (kd_N hk (by decide) hN) (ceC_1 hk _) rfl inX1 3 (by decide) flX1_26 rfl hdg kk
theorem gfX1_78 (X : gX celC Γ ad N RX1 cc nL rt p s m args meth c) (S : gS celC Γ ad N σ s H locs) (hN : 202 ≤ N) {k : Nat} (hk : gkd k = 8) (hdg : decode cc pc = .ok (.getfield 78, 3)) (kk : W p l e R s m args below meth c H locs cells slots Q (F0 m (pc + 3) ls (.int (σ k 5) :: rest))) : W p l e R s m args below meth c H locs cells slots Q (F0 m pc ls (.ref (ad k) :: rest)) := g_get X S (kd_N hk (by decide) hN) (ceC_8 hk _) rfl inX8 5 (by decide) flX1_78 rfl hdg kk
theorem pfX1_78 {v : Int32} (X : gX celC Γ ad N RX1 cc nL rt p s m args meth c) (S : gS celC Γ ad N σ s H locs) (hN : 202 ≤ N) {k : Nat} (hk : gkd k = 8) (h : gset σ k 5 v = some σ1) (hdg : decode cc pc = .ok (.putfield 78, 3)) (kk : ∀ (H : Heap) (locs : List Loc), gS celC Γ ad N σ1 s H locs → W p l e R s m args below meth c H locs cells slots Q (F0 m (pc + 3) ls rest)) : W p l e R s m args below meth c H locs cells slots Q (F0 m pc ls (.int v :: .ref (ad k) :: rest)) := g_put X S (kd_N hk (by decide) hN) (ceC_8 hk _) rfl inX8 tyX8 tyX8_ok nmX8 5 (by decide) flX1_78 rfl (row := upd (σ k) 5 v) rfl rfl (by decide : 5 < 6) (by rw [ceC_8 hk]; simp [upd]) (Option.some.inj h) hdg kk
theorem gfX1_118 (X : gX celC Γ ad N RX1 cc nL rt p s m args meth c) (S : gS celC Γ ad N σ s H locs) (hN : 202 ≤ N) {k : Nat} (hk : gkd k = 3) (hdg : decode cc pc = .ok (.getfield 118, 3)) (kk : W p l e R s m args below meth c H locs cells slots Q (F0 m (pc + 3) ls (.ref (ad (k + 2)) :: rest))) : W p l e R s m args below meth c H locs cells slots Q (F0 m pc ls (.ref (ad k) :: rest)) := g_get X S (kd_N hk (by decide) hN) (ceC_3 hk _) rfl inX3 2 (by decide) flX1_118 rfl hdg kk
theorem gfX1_137 (X : gX celC Γ ad N RX1 cc nL rt p s m args meth c) (S : gS celC Γ ad N σ s H locs) (hN : 202 ≤ N) {k : Nat} (hk : gkd k = 3) (hdg : decode cc pc = .ok (.getfield 137, 3)) (kk : W p l e R s m args below meth c H locs cells slots Q (F0 m (pc + 3) ls (.int (σ k 0) :: rest))) : W p l e R s m args below meth c H locs cells slots Q (F0 m pc ls (.ref (ad k) :: rest)) := g_get X S (kd_N hk (by decide) hN) (ceC_3 hk _) rfl inX3 0 (by decide) flX1_137 rfl hdg kk
theorem pfX1_137 {v : Int32} (X : gX celC Γ ad N RX1 cc nL rt p s m args meth c) (S : gS celC Γ ad N σ s H locs) (hN : 202 ≤ N) {k : Nat} (hk : gkd k = 3) (h : gset σ k 0 v = some σ1) (hdg : decode cc pc = .ok (.putfield 137, 3)) (kk : ∀ (H : Heap) (locs : List Loc), gS celC Γ ad N σ1 s H locs → W p l e R s m args below meth c H locs cells slots Q (F0 m (pc + 3) ls rest)) : W p l e R s m args below meth c H locs cells slots Q (F0 m pc ls (.int v :: .ref (ad k) :: rest)) := g_put X S (kd_N hk (by decide) hN) (ceC_3 hk _) rfl inX3 tyX3 tyX3_ok nmX3 0 (by decide) flX1_137 rfl (row := upd (σ k) 0 v) rfl rfl (by decide : 0 < 5) (by rw [ceC_3 hk]; simp [upd]) (Option.some.inj h) hdg kk
theorem gfX2_9 (X : gX celC Γ ad N RX2 cc nL rt p s m args meth c) (S : gS celC Γ ad N σ s H locs) (hN : 202 ≤ N) {k : Nat} (hk : gkd k = 2) (hdg : decode cc pc = .ok (.getfield 9, 3)) (kk : W p l e R s m args below meth c H locs cells slots Q (F0 m (pc + 3) ls (.ref (ad 1) :: rest))) : W p l e R s m args below meth c H locs cells slots Q (F0 m pc ls (.ref (ad k) :: rest)) := g_get X S (kd_N hk (by decide) hN) (ceC_2 hk _) rfl inX2 0 (by decide) flX2_9 rfl hdg kk
theorem gfX2_18 (X : gX celC Γ ad N RX2 cc nL rt p s m args meth c) (S : gS celC Γ ad N σ s H locs) (hN : 202 ≤ N) {k : Nat} (hk : gkd k = 2) (hdg : decode cc pc = .ok (.getfield 18, 3)) (kk : W p l e R s m args below meth c H locs cells slots Q (F0 m (pc + 3) ls (.ref (ad 18) :: rest))) : W p l e R s m args below meth c H locs cells slots Q (F0 m pc ls (.ref (ad k) :: rest)) := g_get X S (kd_N hk (by decide) hN) (ceC_2 hk _) rfl inX2 1 (by decide) flX2_18 rfl hdg kk
theorem gfX2_47 (X : gX celC Γ ad N RX2 cc nL rt p s m args meth c) (S : gS celC Γ ad N σ s H locs) (hN : 202 ≤ N) {k : Nat} (hk : gkd k = 8) (hdg : decode cc pc = .ok (.getfield 47, 3)) (kk : W p l e R s m args below meth c H locs cells slots Q (F0 m (pc + 3) ls (.int (σ k 5) :: rest))) : W p l e R s m args below meth c H locs cells slots Q (F0 m pc ls (.ref (ad k) :: rest)) := g_get X S (kd_N hk (by decide) hN) (ceC_8 hk _) rfl inX8 5 (by decide) flX2_47 rfl hdg kk
theorem pfX2_47 {v : Int32} (X : gX celC Γ ad N RX2 cc nL rt p s m args meth c) (S : gS celC Γ ad N σ s H locs) (hN : 202 ≤ N) {k : Nat} (hk : gkd k = 8) (h : gset σ k 5 v = some σ1) (hdg : decode cc pc = .ok (.putfield 47, 3)) (kk : ∀ (H : Heap) (locs : List Loc), gS celC Γ ad N σ1 s H locs → W p l e R s m args below meth c H locs cells slots Q (F0 m (pc + 3) ls rest)) : W p l e R s m args below meth c H locs cells slots Q (F0 m pc ls (.int v :: .ref (ad k) :: rest)) := g_put X S (kd_N hk (by decide) hN) (ceC_8 hk _) rfl inX8 tyX8 tyX8_ok nmX8 5 (by decide) flX2_47 rfl (row := upd (σ k) 5 v) rfl rfl (by decide : 5 < 6) (by rw [ceC_8 hk]; simp [upd]) (Option.some.inj h) hdg kk
theorem gfX2_93 (X : gX celC Γ ad N RX2 cc nL rt p s m args meth c) (S : gS celC Γ ad N σ s H locs) (hN : 202 ≤ N) {k : Nat} (hk : gkd k = 3) (hdg : decode cc pc = .ok (.getfield 93, 3)) (kk : W p l e R s m args below meth c H locs cells slots Q (F0 m (pc + 3) ls (.ref (ad (k + 2)) :: rest))) : W p l e R s m args below meth c H locs cells slots Q (F0 m pc ls (.ref (ad k) :: rest)) := g_get X S (kd_N hk (by decide) hN) (ceC_3 hk _) rfl inX3 2 (by decide) flX2_93 rfl hdg kk
theorem gfX3_9 (X : gX celC Γ ad N RX3 cc nL rt p s m args meth c) (S : gS celC Γ ad N σ s H locs) (hN : 202 ≤ N) {k : Nat} (hk : gkd k = 3) (hdg : decode cc pc = .ok (.getfield 9, 3)) (kk : W p l e R s m args below meth c H locs cells slots Q (F0 m (pc + 3) ls (.int (σ k 0) :: rest))) : W p l e R s m args below meth c H locs cells slots Q (F0 m pc ls (.ref (ad k) :: rest)) := g_get X S (kd_N hk (by decide) hN) (ceC_3 hk _) rfl inX3 0 (by decide) flX3_9 rfl hdg kk
theorem pfX3_9 {v : Int32} (X : gX celC Γ ad N RX3 cc nL rt p s m args meth c) (S : gS celC Γ ad N σ s H locs) (hN : 202 ≤ N) {k : Nat} (hk : gkd k = 3) (h : gset σ k 0 v = some σ1) (hdg : decode cc pc = .ok (.putfield 9, 3)) (kk : ∀ (H : Heap) (locs : List Loc), gS celC Γ ad N σ1 s H locs → W p l e R s m args below meth c H locs cells slots Q (F0 m (pc + 3) ls rest)) : W p l e R s m args below meth c H locs cells slots Q (F0 m pc ls (.int v :: .ref (ad k) :: rest)) := g_put X S (kd_N hk (by decide) hN) (ceC_3 hk _) rfl inX3 tyX3 tyX3_ok nmX3 0 (by decide) flX3_9 rfl (row := upd (σ k) 0 v) rfl rfl (by decide : 0 < 5) (by rw [ceC_3 hk]; simp [upd]) (Option.some.inj h) hdg kk
theorem gfX3_15 (X : gX celC Γ ad N RX3 cc nL rt p s m args meth c) (S : gS celC Γ ad N σ s H locs) (hN : 202 ≤ N) {k : Nat} (hk : gkd k = 3) (hdg : decode cc pc = .ok (.getfield 15, 3)) (kk : W p l e R s m args below meth c H locs cells slots Q (F0 m (pc + 3) ls (.ref (ad (k + 1)) :: rest))) : W p l e R s m args below meth c H locs cells slots Q (F0 m pc ls (.ref (ad k) :: rest)) := g_get X S (kd_N hk (by decide) hN) (ceC_3 hk _) rfl inX3 1 (by decide) flX3_15 rfl hdg kk
theorem gfX3_31 (X : gX celC Γ ad N RX3 cc nL rt p s m args meth c) (S : gS celC Γ ad N σ s H locs) (hN : 202 ≤ N) {k : Nat} (hk : gkd k = 3) (hdg : decode cc pc = .ok (.getfield 31, 3)) (kk : W p l e R s m args below meth c H locs cells slots Q (F0 m (pc + 3) ls (.ref (ad (k + 2)) :: rest))) : W p l e R s m args below meth c H locs cells slots Q (F0 m pc ls (.ref (ad k) :: rest)) := g_get X S (kd_N hk (by decide) hN) (ceC_3 hk _) rfl inX3 2 (by decide) flX3_31 rfl hdg kk
theorem gfX3_38 (X : gX celC Γ ad N RX3 cc nL rt p s m args meth c) (S : gS celC Γ ad N σ s H locs) (hN : 202 ≤ N) {k : Nat} (hk : gkd k = 3) (hdg : decode cc pc = .ok (.getfield 38, 3)) (kk : W p l e R s m args below meth c H locs cells slots Q (F0 m (pc + 3) ls (.ref (ad (k + 4)) :: rest))) : W p l e R s m args below meth c H locs cells slots Q (F0 m pc ls (.ref (ad k) :: rest)) := g_get X S (kd_N hk (by decide) hN) (ceC_3 hk _) rfl inX3 3 (by decide) flX3_38 rfl hdg kk
theorem gfX3_42 (X : gX celC Γ ad N RX3 cc nL rt p s m args meth c) (S : gS celC Γ ad N σ s H locs) (hN : 202 ≤ N) {k : Nat} (hk : gkd k = 3) (hdg : decode cc pc = .ok (.getfield 42, 3)) (kk : W p l e R s m args below meth c H locs cells slots Q (F0 m (pc + 3) ls (.ref (ad (k + 10)) :: rest))) : W p l e R s m args below meth c H locs cells slots Q (F0 m pc ls (.ref (ad k) :: rest)) := g_get X S (kd_N hk (by decide) hN) (ceC_3 hk _) rfl inX3 4 (by decide) flX3_42 rfl hdg kk
theorem gfX3_52 (X : gX celC Γ ad N RX3 cc nL rt p s m args meth c) (S : gS celC Γ ad N σ s H locs) (hN : 202 ≤ N) {k : Nat} (hk : gkd k = 8) (hdg : decode cc pc = .ok (.getfield 52, 3)) (kk : W p l e R s m args below meth c H locs cells slots Q (F0 m (pc + 3) ls (.int (σ k 5) :: rest))) : W p l e R s m args below meth c H locs cells slots Q (F0 m pc ls (.ref (ad k) :: rest)) := g_get X S (kd_N hk (by decide) hN) (ceC_8 hk _) rfl inX8 5 (by decide) flX3_52 rfl hdg kk
theorem pfX3_52 {v : Int32} (X : gX celC Γ ad N RX3 cc nL rt p s m args meth c) (S : gS celC Γ ad N σ s H locs) (hN : 202 ≤ N) {k : Nat} (hk : gkd k = 8) (h : gset σ k 5 v = some σ1) (hdg : decode cc pc = .ok (.putfield 52, 3)) (kk : ∀ (H : Heap) (locs : List Loc), gS celC Γ ad N σ1 s H locs → W p l e R s m args below meth c H locs cells slots Q (F0 m (pc + 3) ls rest)) : W p l e R s m args below meth c H locs cells slots Q (F0 m pc ls (.int v :: .ref (ad k) :: rest)) := g_put X S (kd_N hk (by decide) hN) (ceC_8 hk _) rfl inX8 tyX8 tyX8_ok nmX8 5 (by decide) flX3_52 rfl (row := upd (σ k) 5 v) rfl rfl (by decide : 5 < 6) (by rw [ceC_8 hk]; simp [upd]) (Option.some.inj h) hdg kk
theorem gfX3_77 (X : gX celC Γ ad N RX3 cc nL rt p s m args meth c) (S : gS celC Γ ad N σ s H locs) (hN : 202 ≤ N) {k : Nat} (hk : gkd k = 0) (hdg : decode cc pc = .ok (.getfield 77, 3)) (kk : W p l e R s m args below meth c H locs cells slots Q (F0 m (pc + 3) ls (.int (σ k 1) :: rest))) : W p l e R s m args below meth c H locs cells slots Q (F0 m pc ls (.ref (ad k) :: rest)) := g_get X S (kd_N hk (by decide) hN) (ceC_0 hk _) rfl inX0 1 (by decide) flX3_77 rfl hdg kk
theorem pfX3_77 {v : Int32} (X : gX celC Γ ad N RX3 cc nL rt p s m args meth c) (S : gS celC Γ ad N σ s H locs) (hN : 202 ≤ N) {k : Nat} (hk : gkd k = 0) (h : gset σ k 1 v = some σ1) (hdg : decode cc pc = .ok (.putfield 77, 3)) (kk : ∀ (H : Heap) (locs : List Loc), gS celC Γ ad N σ1 s H locs → W p l e R s m args below meth c H locs cells slots Q (F0 m (pc + 3) ls rest)) : W p l e R s m args below meth c H locs cells slots Q (F0 m pc ls (.int v :: .ref (ad k) :: rest)) := g_put X S (kd_N hk (by decide) hN) (ceC_0 hk _) rfl inX0 tyX0 tyX0_ok nmX0 1 (by decide) flX3_77 rfl (row := upd (σ k) 1 v) rfl rfl (by decide : 1 < 2) (by rw [ceC_0 hk]; simp [upd]) (Option.some.inj h) hdg kk
theorem gfX4_11 (X : gX celC Γ ad N RX4 cc nL rt p s m args meth c) (S : gS celC Γ ad N σ s H locs) (hN : 202 ≤ N) {k : Nat} (hk : gkd k = 4) (hdg : decode cc pc = .ok (.getfield 11, 3)) (kk : W p l e R s m args below meth c H locs cells slots Q (F0 m (pc + 3) ls (.ref (ad 26) :: rest))) : W p l e R s m args below meth c H locs cells slots Q (F0 m pc ls (.ref (ad k) :: rest)) := g_get X S (kd_N hk (by decide) hN) (ceC_4 hk _) rfl inX4 0 (by decide) flX4_11 rfl hdg kk
theorem gfX4_18 (X : gX celC Γ ad N RX4 cc nL rt p s m args meth c) (S : gS celC Γ ad N σ s H locs) (hN : 202 ≤ N) {k : Nat} (hk : gkd k = 4) (hdg : decode cc pc = .ok (.getfield 18, 3)) (kk : W p l e R s m args below meth c H locs cells slots Q (F0 m (pc + 3) ls (.int (σ k 1) :: rest))) : W p l e R s m args below meth c H locs cells slots Q (F0 m pc ls (.ref (ad k) :: rest)) := g_get X S (kd_N hk (by decide) hN) (ceC_4 hk _) rfl inX4 1 (by decide) flX4_18 rfl hdg kk
theorem pfX4_18 {v : Int32} (X : gX celC Γ ad N RX4 cc nL rt p s m args meth c) (S : gS celC Γ ad N σ s H locs) (hN : 202 ≤ N) {k : Nat} (hk : gkd k = 4) (h : gset σ k 1 v = some σ1) (hdg : decode cc pc = .ok (.putfield 18, 3)) (kk : ∀ (H : Heap) (locs : List Loc), gS celC Γ ad N σ1 s H locs → W p l e R s m args below meth c H locs cells slots Q (F0 m (pc + 3) ls rest)) : W p l e R s m args below meth c H locs cells slots Q (F0 m pc ls (.int v :: .ref (ad k) :: rest)) := g_put X S (kd_N hk (by decide) hN) (ceC_4 hk _) rfl inX4 tyX4 tyX4_ok nmX4 1 (by decide) flX4_18 rfl (row := upd (σ k) 1 v) rfl rfl (by decide : 1 < 3) (by rw [ceC_4 hk]; simp [upd]) (Option.some.inj h) hdg kk
theorem gfX4_22 (X : gX celC Γ ad N RX4 cc nL rt p s m args meth c) (S : gS celC Γ ad N σ s H locs) (hN : 202 ≤ N) {k : Nat} (hk : gkd k = 4) (hdg : decode cc pc = .ok (.getfield 22, 3)) (kk : W p l e R s m args below meth c H locs cells slots Q (F0 m (pc + 3) ls (.int (σ k 2) :: rest))) : W p l e R s m args below meth c H locs cells slots Q (F0 m pc ls (.ref (ad k) :: rest)) := g_get X S (kd_N hk (by decide) hN) (ceC_4 hk _) rfl inX4 2 (by decide) flX4_22 rfl hdg kk
theorem pfX4_22 {v : Int32} (X : gX celC Γ ad N RX4 cc nL rt p s m args meth c) (S : gS celC Γ ad N σ s H locs) (hN : 202 ≤ N) {k : Nat} (hk : gkd k = 4) (h : gset σ k 2 v = some σ1) (hdg : decode cc pc = .ok (.putfield 22, 3)) (kk : ∀ (H : Heap) (locs : List Loc), gS celC Γ ad N σ1 s H locs → W p l e R s m args below meth c H locs cells slots Q (F0 m (pc + 3) ls rest)) : W p l e R s m args below meth c H locs cells slots Q (F0 m pc ls (.int v :: .ref (ad k) :: rest)) := g_put X S (kd_N hk (by decide) hN) (ceC_4 hk _) rfl inX4 tyX4 tyX4_ok nmX4 2 (by decide) flX4_22 rfl (row := upd (σ k) 2 v) rfl rfl (by decide : 2 < 3) (by rw [ceC_4 hk]; simp [upd]) (Option.some.inj h) hdg kk
theorem gfX5_9 (X : gX celC Γ ad N RX5 cc nL rt p s m args meth c) (S : gS celC Γ ad N σ s H locs) (hN : 202 ≤ N) {k : Nat} (hk : gkd k = 5) (hdg : decode cc pc = .ok (.getfield 9, 3)) (kk : W p l e R s m args below meth c H locs cells slots Q (F0 m (pc + 3) ls (.ref (ad 192) :: rest))) : W p l e R s m args below meth c H locs cells slots Q (F0 m pc ls (.ref (ad k) :: rest)) := g_get X S (kd_N hk (by decide) hN) (ceC_5 hk _) rfl inX5 0 (by decide) flX5_9 rfl hdg kk
theorem gfX5_15 (X : gX celC Γ ad N RX5 cc nL rt p s m args meth c) (S : gS celC Γ ad N σ s H locs) (hN : 202 ≤ N) {k : Nat} (hk : gkd k = 5) (hdg : decode cc pc = .ok (.getfield 15, 3)) (kk : W p l e R s m args below meth c H locs cells slots Q (F0 m (pc + 3) ls (.ref (ad 193) :: rest))) : W p l e R s m args below meth c H locs cells slots Q (F0 m pc ls (.ref (ad k) :: rest)) := g_get X S (kd_N hk (by decide) hN) (ceC_5 hk _) rfl inX5 1 (by decide) flX5_15 rfl hdg kk
theorem gfX5_18 (X : gX celC Γ ad N RX5 cc nL rt p s m args meth c) (S : gS celC Γ ad N σ s H locs) (hN : 202 ≤ N) {k : Nat} (hk : gkd k = 5) (hdg : decode cc pc = .ok (.getfield 18, 3)) (kk : W p l e R s m args below meth c H locs cells slots Q (F0 m (pc + 3) ls (.ref (ad 194) :: rest))) : W p l e R s m args below meth c H locs cells slots Q (F0 m pc ls (.ref (ad k) :: rest)) := g_get X S (kd_N hk (by decide) hN) (ceC_5 hk _) rfl inX5 2 (by decide) flX5_18 rfl hdg kk
theorem gfX5_21 (X : gX celC Γ ad N RX5 cc nL rt p s m args meth c) (S : gS celC Γ ad N σ s H locs) (hN : 202 ≤ N) {k : Nat} (hk : gkd k = 5) (hdg : decode cc pc = .ok (.getfield 21, 3)) (kk : W p l e R s m args below meth c H locs cells slots Q (F0 m (pc + 3) ls (.ref (ad 195) :: rest))) : W p l e R s m args below meth c H locs cells slots Q (F0 m pc ls (.ref (ad k) :: rest)) := g_get X S (kd_N hk (by decide) hN) (ceC_5 hk _) rfl inX5 3 (by decide) flX5_21 rfl hdg kk
theorem gfX5_24 (X : gX celC Γ ad N RX5 cc nL rt p s m args meth c) (S : gS celC Γ ad N σ s H locs) (hN : 202 ≤ N) {k : Nat} (hk : gkd k = 5) (hdg : decode cc pc = .ok (.getfield 24, 3)) (kk : W p l e R s m args below meth c H locs cells slots Q (F0 m (pc + 3) ls (.ref (ad 196) :: rest))) : W p l e R s m args below meth c H locs cells slots Q (F0 m pc ls (.ref (ad k) :: rest)) := g_get X S (kd_N hk (by decide) hN) (ceC_5 hk _) rfl inX5 4 (by decide) flX5_24 rfl hdg kk
theorem gfX5_27 (X : gX celC Γ ad N RX5 cc nL rt p s m args meth c) (S : gS celC Γ ad N σ s H locs) (hN : 202 ≤ N) {k : Nat} (hk : gkd k = 5) (hdg : decode cc pc = .ok (.getfield 27, 3)) (kk : W p l e R s m args below meth c H locs cells slots Q (F0 m (pc + 3) ls (.ref (ad 197) :: rest))) : W p l e R s m args below meth c H locs cells slots Q (F0 m pc ls (.ref (ad k) :: rest)) := g_get X S (kd_N hk (by decide) hN) (ceC_5 hk _) rfl inX5 5 (by decide) flX5_27 rfl hdg kk
theorem gfX5_30 (X : gX celC Γ ad N RX5 cc nL rt p s m args meth c) (S : gS celC Γ ad N σ s H locs) (hN : 202 ≤ N) {k : Nat} (hk : gkd k = 5) (hdg : decode cc pc = .ok (.getfield 30, 3)) (kk : W p l e R s m args below meth c H locs cells slots Q (F0 m (pc + 3) ls (.ref (ad 198) :: rest))) : W p l e R s m args below meth c H locs cells slots Q (F0 m pc ls (.ref (ad k) :: rest)) := g_get X S (kd_N hk (by decide) hN) (ceC_5 hk _) rfl inX5 6 (by decide) flX5_30 rfl hdg kk
theorem gfX5_33 (X : gX celC Γ ad N RX5 cc nL rt p s m args meth c) (S : gS celC Γ ad N σ s H locs) (hN : 202 ≤ N) {k : Nat} (hk : gkd k = 5) (hdg : decode cc pc = .ok (.getfield 33, 3)) (kk : W p l e R s m args below meth c H locs cells slots Q (F0 m (pc + 3) ls (.int (σ k 7) :: rest))) : W p l e R s m args below meth c H locs cells slots Q (F0 m pc ls (.ref (ad k) :: rest)) := g_get X S (kd_N hk (by decide) hN) (ceC_5 hk _) rfl inX5 7 (by decide) flX5_33 rfl hdg kk
theorem pfX5_33 {v : Int32} (X : gX celC Γ ad N RX5 cc nL rt p s m args meth c) (S : gS celC Γ ad N σ s H locs) (hN : 202 ≤ N) {k : Nat} (hk : gkd k = 5) (h : gset σ k 7 v = some σ1) (hdg : decode cc pc = .ok (.putfield 33, 3)) (kk : ∀ (H : Heap) (locs : List Loc), gS celC Γ ad N σ1 s H locs → W p l e R s m args below meth c H locs cells slots Q (F0 m (pc + 3) ls rest)) : W p l e R s m args below meth c H locs cells slots Q (F0 m pc ls (.int v :: .ref (ad k) :: rest)) := g_put X S (kd_N hk (by decide) hN) (ceC_5 hk _) rfl inX5 tyX5 tyX5_ok nmX5 7 (by decide) flX5_33 rfl (row := upd (σ k) 7 v) rfl rfl (by decide : 7 < 10) (by rw [ceC_5 hk]; simp [upd]) (Option.some.inj h) hdg kk
theorem gfX5_37 (X : gX celC Γ ad N RX5 cc nL rt p s m args meth c) (S : gS celC Γ ad N σ s H locs) (hN : 202 ≤ N) {k : Nat} (hk : gkd k = 5) (hdg : decode cc pc = .ok (.getfield 37, 3)) (kk : W p l e R s m args below meth c H locs cells slots Q (F0 m (pc + 3) ls (.int (σ k 8) :: rest))) : W p l e R s m args below meth c H locs cells slots Q (F0 m pc ls (.ref (ad k) :: rest)) := g_get X S (kd_N hk (by decide) hN) (ceC_5 hk _) rfl inX5 8 (by decide) flX5_37 rfl hdg kk
theorem pfX5_37 {v : Int32} (X : gX celC Γ ad N RX5 cc nL rt p s m args meth c) (S : gS celC Γ ad N σ s H locs) (hN : 202 ≤ N) {k : Nat} (hk : gkd k = 5) (h : gset σ k 8 v = some σ1) (hdg : decode cc pc = .ok (.putfield 37, 3)) (kk : ∀ (H : Heap) (locs : List Loc), gS celC Γ ad N σ1 s H locs → W p l e R s m args below meth c H locs cells slots Q (F0 m (pc + 3) ls rest)) : W p l e R s m args below meth c H locs cells slots Q (F0 m pc ls (.int v :: .ref (ad k) :: rest)) := g_put X S (kd_N hk (by decide) hN) (ceC_5 hk _) rfl inX5 tyX5 tyX5_ok nmX5 8 (by decide) flX5_37 rfl (row := upd (σ k) 8 v) rfl rfl (by decide : 8 < 10) (by rw [ceC_5 hk]; simp [upd]) (Option.some.inj h) hdg kk
theorem gfX5_43 (X : gX celC Γ ad N RX5 cc nL rt p s m args meth c) (S : gS celC Γ ad N σ s H locs) (hN : 202 ≤ N) {k : Nat} (hk : gkd k = 5) (hdg : decode cc pc = .ok (.getfield 43, 3)) (kk : W p l e R s m args below meth c H locs cells slots Q (F0 m (pc + 3) ls (.ref (ad (σ k 9).toNatClampNeg) :: rest))) : W p l e R s m args below meth c H locs cells slots Q (F0 m pc ls (.ref (ad k) :: rest)) := g_get X S (kd_N hk (by decide) hN) (ceC_5 hk _) rfl inX5 9 (by decide) flX5_43 rfl hdg kk
theorem gfX5_54 (X : gX celC Γ ad N RX5 cc nL rt p s m args meth c) (S : gS celC Γ ad N σ s H locs) (hN : 202 ≤ N) {k : Nat} (hk : gkd k = 7) (hdg : decode cc pc = .ok (.getfield 54, 3)) (kk : W p l e R s m args below meth c H locs cells slots Q (F0 m (pc + 3) ls (.int (σ k 1) :: rest))) : W p l e R s m args below meth c H locs cells slots Q (F0 m pc ls (.ref (ad k) :: rest)) := g_get X S (kd_N hk (by decide) hN) (ceC_7 hk _) rfl inX7 1 (by decide) flX5_54 rfl hdg kk
theorem pfX5_54 {v : Int32} (X : gX celC Γ ad N RX5 cc nL rt p s m args meth c) (S : gS celC Γ ad N σ s H locs) (hN : 202 ≤ N) {k : Nat} (hk : gkd k = 7) (h : gset σ k 1 v = some σ1) (hdg : decode cc pc = .ok (.putfield 54, 3)) (kk : ∀ (H : Heap) (locs : List Loc), gS celC Γ ad N σ1 s H locs → W p l e R s m args below meth c H locs cells slots Q (F0 m (pc + 3) ls rest)) : W p l e R s m args below meth c H locs cells slots Q (F0 m pc ls (.int v :: .ref (ad k) :: rest)) := g_put X S (kd_N hk (by decide) hN) (ceC_7 hk _) rfl inX7 tyX7 tyX7_ok nmX7 1 (by decide) flX5_54 rfl (row := upd (σ k) 1 v) rfl rfl (by decide : 1 < 2) (by rw [ceC_7 hk]; simp [upd]) (Option.some.inj h) hdg kk
theorem gfX6_7 (X : gX celC Γ ad N RX6 cc nL rt p s m args meth c) (S : gS celC Γ ad N σ s H locs) (hN : 202 ≤ N) {k : Nat} (hk : gkd k = 6) (hk6 : k < N) (hdg : decode cc pc = .ok (.getfield 7, 3)) (kk : W p l e R s m args below meth c H locs cells slots Q (F0 m (pc + 3) ls (.int (σ k 0) :: rest))) : W p l e R s m args below meth c H locs cells slots Q (F0 m pc ls (.ref (ad k) :: rest)) := g_get X S hk6 (ceC_6 hk _) rfl inX6 0 (by decide) flX6_7 rfl hdg kk
theorem gfX6_13 (X : gX celC Γ ad N RX6 cc nL rt p s m args meth c) (S : gS celC Γ ad N σ s H locs) (hN : 202 ≤ N) {k : Nat} (hk : gkd k = 6) (hk6 : k < N) (hdg : decode cc pc = .ok (.getfield 13, 3)) (kk : W p l e R s m args below meth c H locs cells slots Q (F0 m (pc + 3) ls (.int (σ k 1) :: rest))) : W p l e R s m args below meth c H locs cells slots Q (F0 m pc ls (.ref (ad k) :: rest)) := g_get X S hk6 (ceC_6 hk _) rfl inX6 1 (by decide) flX6_13 rfl hdg kk
theorem gfX6_22 (X : gX celC Γ ad N RX6 cc nL rt p s m args meth c) (S : gS celC Γ ad N σ s H locs) (hN : 202 ≤ N) {k : Nat} (hk : gkd k = 6) (hk6 : k < N) (hdg : decode cc pc = .ok (.getfield 22, 3)) (kk : W p l e R s m args below meth c H locs cells slots Q (F0 m (pc + 3) ls (.int (σ k 2) :: rest))) : W p l e R s m args below meth c H locs cells slots Q (F0 m pc ls (.ref (ad k) :: rest)) := g_get X S hk6 (ceC_6 hk _) rfl inX6 2 (by decide) flX6_22 rfl hdg kk
theorem gfX6_25 (X : gX celC Γ ad N RX6 cc nL rt p s m args meth c) (S : gS celC Γ ad N σ s H locs) (hN : 202 ≤ N) {k : Nat} (hk : gkd k = 6) (hk6 : k < N) (hdg : decode cc pc = .ok (.getfield 25, 3)) (kk : W p l e R s m args below meth c H locs cells slots Q (F0 m (pc + 3) ls (.int (σ k 3) :: rest))) : W p l e R s m args below meth c H locs cells slots Q (F0 m pc ls (.ref (ad k) :: rest)) := g_get X S hk6 (ceC_6 hk _) rfl inX6 3 (by decide) flX6_25 rfl hdg kk
theorem gfX7_9 (X : gX celC Γ ad N RX7 cc nL rt p s m args meth c) (S : gS celC Γ ad N σ s H locs) (hN : 202 ≤ N) {k : Nat} (hk : gkd k = 7) (hdg : decode cc pc = .ok (.getfield 9, 3)) (kk : W p l e R s m args below meth c H locs cells slots Q (F0 m (pc + 3) ls (.ref (ad (k + 1)) :: rest))) : W p l e R s m args below meth c H locs cells slots Q (F0 m pc ls (.ref (ad k) :: rest)) := g_get X S (kd_N hk (by decide) hN) (ceC_7 hk _) rfl inX7 0 (by decide) flX7_9 rfl hdg kk
theorem gfX7_15 (X : gX celC Γ ad N RX7 cc nL rt p s m args meth c) (S : gS celC Γ ad N σ s H locs) (hN : 202 ≤ N) {k : Nat} (hk : gkd k = 7) (hdg : decode cc pc = .ok (.getfield 15, 3)) (kk : W p l e R s m args below meth c H locs cells slots Q (F0 m (pc + 3) ls (.int (σ k 1) :: rest))) : W p l e R s m args below meth c H locs cells slots Q (F0 m pc ls (.ref (ad k) :: rest)) := g_get X S (kd_N hk (by decide) hN) (ceC_7 hk _) rfl inX7 1 (by decide) flX7_15 rfl hdg kk
theorem pfX7_15 {v : Int32} (X : gX celC Γ ad N RX7 cc nL rt p s m args meth c) (S : gS celC Γ ad N σ s H locs) (hN : 202 ≤ N) {k : Nat} (hk : gkd k = 7) (h : gset σ k 1 v = some σ1) (hdg : decode cc pc = .ok (.putfield 15, 3)) (kk : ∀ (H : Heap) (locs : List Loc), gS celC Γ ad N σ1 s H locs → W p l e R s m args below meth c H locs cells slots Q (F0 m (pc + 3) ls rest)) : W p l e R s m args below meth c H locs cells slots Q (F0 m pc ls (.int v :: .ref (ad k) :: rest)) := g_put X S (kd_N hk (by decide) hN) (ceC_7 hk _) rfl inX7 tyX7 tyX7_ok nmX7 1 (by decide) flX7_15 rfl (row := upd (σ k) 1 v) rfl rfl (by decide : 1 < 2) (by rw [ceC_7 hk]; simp [upd]) (Option.some.inj h) hdg kk
theorem gfX8_9 (X : gX celC Γ ad N RX8 cc nL rt p s m args meth c) (S : gS celC Γ ad N σ s H locs) (hN : 202 ≤ N) {k : Nat} (hk : gkd k = 8) (hdg : decode cc pc = .ok (.getfield 9, 3)) (kk : W p l e R s m args below meth c H locs cells slots Q (F0 m (pc + 3) ls (.ref (ad (k + 1)) :: rest))) : W p l e R s m args below meth c H locs cells slots Q (F0 m pc ls (.ref (ad k) :: rest)) := g_get X S (kd_N hk (by decide) hN) (ceC_8 hk _) rfl inX8 0 (by decide) flX8_9 rfl hdg kk
theorem gfX8_15 (X : gX celC Γ ad N RX8 cc nL rt p s m args meth c) (S : gS celC Γ ad N σ s H locs) (hN : 202 ≤ N) {k : Nat} (hk : gkd k = 8) (hdg : decode cc pc = .ok (.getfield 15, 3)) (kk : W p l e R s m args below meth c H locs cells slots Q (F0 m (pc + 3) ls (.ref (ad (k + 2)) :: rest))) : W p l e R s m args below meth c H locs cells slots Q (F0 m pc ls (.ref (ad k) :: rest)) := g_get X S (kd_N hk (by decide) hN) (ceC_8 hk _) rfl inX8 1 (by decide) flX8_15 rfl hdg kk
theorem gfX8_18 (X : gX celC Γ ad N RX8 cc nL rt p s m args meth c) (S : gS celC Γ ad N σ s H locs) (hN : 202 ≤ N) {k : Nat} (hk : gkd k = 8) (hdg : decode cc pc = .ok (.getfield 18, 3)) (kk : W p l e R s m args below meth c H locs cells slots Q (F0 m (pc + 3) ls (.ref (ad (k + 3)) :: rest))) : W p l e R s m args below meth c H locs cells slots Q (F0 m pc ls (.ref (ad k) :: rest)) := g_get X S (kd_N hk (by decide) hN) (ceC_8 hk _) rfl inX8 2 (by decide) flX8_18 rfl hdg kk
theorem gfX8_21 (X : gX celC Γ ad N RX8 cc nL rt p s m args meth c) (S : gS celC Γ ad N σ s H locs) (hN : 202 ≤ N) {k : Nat} (hk : gkd k = 8) (hdg : decode cc pc = .ok (.getfield 21, 3)) (kk : W p l e R s m args below meth c H locs cells slots Q (F0 m (pc + 3) ls (.ref (ad (k + 4)) :: rest))) : W p l e R s m args below meth c H locs cells slots Q (F0 m pc ls (.ref (ad k) :: rest)) := g_get X S (kd_N hk (by decide) hN) (ceC_8 hk _) rfl inX8 3 (by decide) flX8_21 rfl hdg kk
theorem gfX8_24 (X : gX celC Γ ad N RX8 cc nL rt p s m args meth c) (S : gS celC Γ ad N σ s H locs) (hN : 202 ≤ N) {k : Nat} (hk : gkd k = 8) (hdg : decode cc pc = .ok (.getfield 24, 3)) (kk : W p l e R s m args below meth c H locs cells slots Q (F0 m (pc + 3) ls (.ref (ad (k + 5)) :: rest))) : W p l e R s m args below meth c H locs cells slots Q (F0 m pc ls (.ref (ad k) :: rest)) := g_get X S (kd_N hk (by decide) hN) (ceC_8 hk _) rfl inX8 4 (by decide) flX8_24 rfl hdg kk
theorem gfX8_27 (X : gX celC Γ ad N RX8 cc nL rt p s m args meth c) (S : gS celC Γ ad N σ s H locs) (hN : 202 ≤ N) {k : Nat} (hk : gkd k = 8) (hdg : decode cc pc = .ok (.getfield 27, 3)) (kk : W p l e R s m args below meth c H locs cells slots Q (F0 m (pc + 3) ls (.int (σ k 5) :: rest))) : W p l e R s m args below meth c H locs cells slots Q (F0 m pc ls (.ref (ad k) :: rest)) := g_get X S (kd_N hk (by decide) hN) (ceC_8 hk _) rfl inX8 5 (by decide) flX8_27 rfl hdg kk
theorem pfX8_27 {v : Int32} (X : gX celC Γ ad N RX8 cc nL rt p s m args meth c) (S : gS celC Γ ad N σ s H locs) (hN : 202 ≤ N) {k : Nat} (hk : gkd k = 8) (h : gset σ k 5 v = some σ1) (hdg : decode cc pc = .ok (.putfield 27, 3)) (kk : ∀ (H : Heap) (locs : List Loc), gS celC Γ ad N σ1 s H locs → W p l e R s m args below meth c H locs cells slots Q (F0 m (pc + 3) ls rest)) : W p l e R s m args below meth c H locs cells slots Q (F0 m pc ls (.int v :: .ref (ad k) :: rest)) := g_put X S (kd_N hk (by decide) hN) (ceC_8 hk _) rfl inX8 tyX8 tyX8_ok nmX8 5 (by decide) flX8_27 rfl (row := upd (σ k) 5 v) rfl rfl (by decide : 5 < 6) (by rw [ceC_8 hk]; simp [upd]) (Option.some.inj h) hdg kk
theorem gfX8_81 (X : gX celC Γ ad N RX8 cc nL rt p s m args meth c) (S : gS celC Γ ad N σ s H locs) (hN : 202 ≤ N) {k : Nat} (hk : gkd k = 7) (hdg : decode cc pc = .ok (.getfield 81, 3)) (kk : W p l e R s m args below meth c H locs cells slots Q (F0 m (pc + 3) ls (.int (σ k 1) :: rest))) : W p l e R s m args below meth c H locs cells slots Q (F0 m pc ls (.ref (ad k) :: rest)) := g_get X S (kd_N hk (by decide) hN) (ceC_7 hk _) rfl inX7 1 (by decide) flX8_81 rfl hdg kk
theorem pfX8_81 {v : Int32} (X : gX celC Γ ad N RX8 cc nL rt p s m args meth c) (S : gS celC Γ ad N σ s H locs) (hN : 202 ≤ N) {k : Nat} (hk : gkd k = 7) (h : gset σ k 1 v = some σ1) (hdg : decode cc pc = .ok (.putfield 81, 3)) (kk : ∀ (H : Heap) (locs : List Loc), gS celC Γ ad N σ1 s H locs → W p l e R s m args below meth c H locs cells slots Q (F0 m (pc + 3) ls rest)) : W p l e R s m args below meth c H locs cells slots Q (F0 m pc ls (.int v :: .ref (ad k) :: rest)) := g_put X S (kd_N hk (by decide) hN) (ceC_7 hk _) rfl inX7 tyX7 tyX7_ok nmX7 1 (by decide) flX8_81 rfl (row := upd (σ k) 1 v) rfl rfl (by decide : 1 < 2) (by rw [ceC_7 hk]; simp [upd]) (Option.some.inj h) hdg kk
theorem gfX10_7 (X : gX celM Γ ad N RX10 cc nL rt p s m args meth c) (S : gS celM Γ ad N σ s H locs) (hN : 8 ≤ N) (hdg : decode cc pc = .ok (.getfield 7, 3)) (kk : W p l e R s m args below meth c H locs cells slots Q (F0 m (pc + 3) ls (.ref (ad 1) :: rest))) : W p l e R s m args below meth c H locs cells slots Q (F0 m pc ls (.ref (ad 0) :: rest)) := g_get X S (by omega) (ceM_10 _) rfl inX10 0 (by decide) flX10_7 rfl hdg kk
theorem gfX10_13 (X : gX celM Γ ad N RX10 cc nL rt p s m args meth c) (S : gS celM Γ ad N σ s H locs) (hN : 8 ≤ N) (hdg : decode cc pc = .ok (.getfield 13, 3)) (kk : W p l e R s m args below meth c H locs cells slots Q (F0 m (pc + 3) ls (.ref (ad 2) :: rest))) : W p l e R s m args below meth c H locs cells slots Q (F0 m pc ls (.ref (ad 0) :: rest)) := g_get X S (by omega) (ceM_10 _) rfl inX10 1 (by decide) flX10_13 rfl hdg kk
theorem gfX10_16 (X : gX celM Γ ad N RX10 cc nL rt p s m args meth c) (S : gS celM Γ ad N σ s H locs) (hN : 8 ≤ N) (hdg : decode cc pc = .ok (.getfield 16, 3)) (kk : W p l e R s m args below meth c H locs cells slots Q (F0 m (pc + 3) ls (.ref (ad 3) :: rest))) : W p l e R s m args below meth c H locs cells slots Q (F0 m pc ls (.ref (ad 0) :: rest)) := g_get X S (by omega) (ceM_10 _) rfl inX10 2 (by decide) flX10_16 rfl hdg kk
theorem gfX10_19 (X : gX celM Γ ad N RX10 cc nL rt p s m args meth c) (S : gS celM Γ ad N σ s H locs) (hN : 8 ≤ N) (hdg : decode cc pc = .ok (.getfield 19, 3)) (kk : W p l e R s m args below meth c H locs cells slots Q (F0 m (pc + 3) ls (.ref (ad 4) :: rest))) : W p l e R s m args below meth c H locs cells slots Q (F0 m pc ls (.ref (ad 0) :: rest)) := g_get X S (by omega) (ceM_10 _) rfl inX10 4 (by decide) flX10_19 rfl hdg kk
theorem gfX10_22 (X : gX celM Γ ad N RX10 cc nL rt p s m args meth c) (S : gS celM Γ ad N σ s H locs) (hN : 8 ≤ N) (hdg : decode cc pc = .ok (.getfield 22, 3)) (kk : W p l e R s m args below meth c H locs cells slots Q (F0 m (pc + 3) ls (.ref (ad 5) :: rest))) : W p l e R s m args below meth c H locs cells slots Q (F0 m pc ls (.ref (ad 0) :: rest)) := g_get X S (by omega) (ceM_10 _) rfl inX10 6 (by decide) flX10_22 rfl hdg kk
theorem gfX10_25 (X : gX celM Γ ad N RX10 cc nL rt p s m args meth c) (S : gS celM Γ ad N σ s H locs) (hN : 8 ≤ N) (hdg : decode cc pc = .ok (.getfield 25, 3)) (kk : W p l e R s m args below meth c H locs cells slots Q (F0 m (pc + 3) ls (.int (σ 0 9) :: rest))) : W p l e R s m args below meth c H locs cells slots Q (F0 m pc ls (.ref (ad 0) :: rest)) := g_get X S (by omega) (ceM_10 _) rfl inX10 9 (by decide) flX10_25 rfl hdg kk
theorem pfX10_25 {v : Int32} (X : gX celM Γ ad N RX10 cc nL rt p s m args meth c) (S : gS celM Γ ad N σ s H locs) (hN : 8 ≤ N) (h : gset σ 0 9 v = some σ1) (hdg : decode cc pc = .ok (.putfield 25, 3)) (kk : ∀ (H : Heap) (locs : List Loc), gS celM Γ ad N σ1 s H locs → W p l e R s m args below meth c H locs cells slots Q (F0 m (pc + 3) ls rest)) : W p l e R s m args below meth c H locs cells slots Q (F0 m pc ls (.int v :: .ref (ad 0) :: rest)) := g_put X S (by omega) (ceM_10 _) rfl inX10 tyX10 tyX10_ok nmX10 9 (by decide) flX10_25 rfl (row := upd (σ 0) 9 v) rfl rfl (by decide : 9 < 17) (by rw [ceM_10]; simp [upd]) (Option.some.inj h) hdg kk
theorem gfX10_29 (X : gX celM Γ ad N RX10 cc nL rt p s m args meth c) (S : gS celM Γ ad N σ s H locs) (hN : 8 ≤ N) (hdg : decode cc pc = .ok (.getfield 29, 3)) (kk : W p l e R s m args below meth c H locs cells slots Q (F0 m (pc + 3) ls (.ref (ad 6) :: rest))) : W p l e R s m args below meth c H locs cells slots Q (F0 m pc ls (.ref (ad 0) :: rest)) := g_get X S (by omega) (ceM_10 _) rfl inX10 11 (by decide) flX10_29 rfl hdg kk
theorem gfX10_32 (X : gX celM Γ ad N RX10 cc nL rt p s m args meth c) (S : gS celM Γ ad N σ s H locs) (hN : 8 ≤ N) (hdg : decode cc pc = .ok (.getfield 32, 3)) (kk : W p l e R s m args below meth c H locs cells slots Q (F0 m (pc + 3) ls (.ref (ad 7) :: rest))) : W p l e R s m args below meth c H locs cells slots Q (F0 m pc ls (.ref (ad 0) :: rest)) := g_get X S (by omega) (ceM_10 _) rfl inX10 15 (by decide) flX10_32 rfl hdg kk
theorem gfX10_35 (X : gX celM Γ ad N RX10 cc nL rt p s m args meth c) (S : gS celM Γ ad N σ s H locs) (hN : 8 ≤ N) (hdg : decode cc pc = .ok (.getfield 35, 3)) (kk : W p l e R s m args below meth c H locs cells slots Q (F0 m (pc + 3) ls (.int (σ 0 10) :: rest))) : W p l e R s m args below meth c H locs cells slots Q (F0 m pc ls (.ref (ad 0) :: rest)) := g_get X S (by omega) (ceM_10 _) rfl inX10 10 (by decide) flX10_35 rfl hdg kk
theorem pfX10_35 {v : Int32} (X : gX celM Γ ad N RX10 cc nL rt p s m args meth c) (S : gS celM Γ ad N σ s H locs) (hN : 8 ≤ N) (h : gset σ 0 10 v = some σ1) (hdg : decode cc pc = .ok (.putfield 35, 3)) (kk : ∀ (H : Heap) (locs : List Loc), gS celM Γ ad N σ1 s H locs → W p l e R s m args below meth c H locs cells slots Q (F0 m (pc + 3) ls rest)) : W p l e R s m args below meth c H locs cells slots Q (F0 m pc ls (.int v :: .ref (ad 0) :: rest)) := g_put X S (by omega) (ceM_10 _) rfl inX10 tyX10 tyX10_ok nmX10 10 (by decide) flX10_35 rfl (row := upd (σ 0) 10 v) rfl rfl (by decide : 10 < 17) (by rw [ceM_10]; simp [upd]) (Option.some.inj h) hdg kk
theorem gfX10_38 (X : gX celM Γ ad N RX10 cc nL rt p s m args meth c) (S : gS celM Γ ad N σ s H locs) (hN : 8 ≤ N) (hdg : decode cc pc = .ok (.getfield 38, 3)) (kk : W p l e R s m args below meth c H locs cells slots Q (F0 m (pc + 3) ls (.int (σ 0 7) :: rest))) : W p l e R s m args below meth c H locs cells slots Q (F0 m pc ls (.ref (ad 0) :: rest)) := g_get X S (by omega) (ceM_10 _) rfl inX10 7 (by decide) flX10_38 rfl hdg kk
theorem pfX10_38 {v : Int32} (X : gX celM Γ ad N RX10 cc nL rt p s m args meth c) (S : gS celM Γ ad N σ s H locs) (hN : 8 ≤ N) (h : gset σ 0 7 v = some σ1) (hdg : decode cc pc = .ok (.putfield 38, 3)) (kk : ∀ (H : Heap) (locs : List Loc), gS celM Γ ad N σ1 s H locs → W p l e R s m args below meth c H locs cells slots Q (F0 m (pc + 3) ls rest)) : W p l e R s m args below meth c H locs cells slots Q (F0 m pc ls (.int v :: .ref (ad 0) :: rest)) := g_put X S (by omega) (ceM_10 _) rfl inX10 tyX10 tyX10_ok nmX10 7 (by decide) flX10_38 rfl (row := upd (σ 0) 7 v) rfl rfl (by decide : 7 < 17) (by rw [ceM_10]; simp [upd]) (Option.some.inj h) hdg kk
theorem gfX10_41 (X : gX celM Γ ad N RX10 cc nL rt p s m args meth c) (S : gS celM Γ ad N σ s H locs) (hN : 8 ≤ N) (hdg : decode cc pc = .ok (.getfield 41, 3)) (kk : W p l e R s m args below meth c H locs cells slots Q (F0 m (pc + 3) ls (.int (σ 0 8) :: rest))) : W p l e R s m args below meth c H locs cells slots Q (F0 m pc ls (.ref (ad 0) :: rest)) := g_get X S (by omega) (ceM_10 _) rfl inX10 8 (by decide) flX10_41 rfl hdg kk
theorem pfX10_41 {v : Int32} (X : gX celM Γ ad N RX10 cc nL rt p s m args meth c) (S : gS celM Γ ad N σ s H locs) (hN : 8 ≤ N) (h : gset σ 0 8 v = some σ1) (hdg : decode cc pc = .ok (.putfield 41, 3)) (kk : ∀ (H : Heap) (locs : List Loc), gS celM Γ ad N σ1 s H locs → W p l e R s m args below meth c H locs cells slots Q (F0 m (pc + 3) ls rest)) : W p l e R s m args below meth c H locs cells slots Q (F0 m pc ls (.int v :: .ref (ad 0) :: rest)) := g_put X S (by omega) (ceM_10 _) rfl inX10 tyX10 tyX10_ok nmX10 8 (by decide) flX10_41 rfl (row := upd (σ 0) 8 v) rfl rfl (by decide : 8 < 17) (by rw [ceM_10]; simp [upd]) (Option.some.inj h) hdg kk
theorem gfX10_60 (X : gX celM Γ ad N RX10 cc nL rt p s m args meth c) (S : gS celM Γ ad N σ s H locs) (hN : 8 ≤ N) (hdg : decode cc pc = .ok (.getfield 60, 3)) (kk : W p l e R s m args below meth c H locs cells slots Q (F0 m (pc + 3) ls (.int (σ 0 5) :: rest))) : W p l e R s m args below meth c H locs cells slots Q (F0 m pc ls (.ref (ad 0) :: rest)) := g_get X S (by omega) (ceM_10 _) rfl inX10 5 (by decide) flX10_60 rfl hdg kk
theorem pfX10_60 {v : Int32} (X : gX celM Γ ad N RX10 cc nL rt p s m args meth c) (S : gS celM Γ ad N σ s H locs) (hN : 8 ≤ N) (h : gset σ 0 5 v = some σ1) (hdg : decode cc pc = .ok (.putfield 60, 3)) (kk : ∀ (H : Heap) (locs : List Loc), gS celM Γ ad N σ1 s H locs → W p l e R s m args below meth c H locs cells slots Q (F0 m (pc + 3) ls rest)) : W p l e R s m args below meth c H locs cells slots Q (F0 m pc ls (.int v :: .ref (ad 0) :: rest)) := g_put X S (by omega) (ceM_10 _) rfl inX10 tyX10 tyX10_ok nmX10 5 (by decide) flX10_60 rfl (row := upd (σ 0) 5 v) rfl rfl (by decide : 5 < 17) (by rw [ceM_10]; simp [upd]) (Option.some.inj h) hdg kk
theorem gfX10_67 (X : gX celM Γ ad N RX10 cc nL rt p s m args meth c) (S : gS celM Γ ad N σ s H locs) (hN : 8 ≤ N) (hdg : decode cc pc = .ok (.getfield 67, 3)) (kk : W p l e R s m args below meth c H locs cells slots Q (F0 m (pc + 3) ls (.int (σ 0 3) :: rest))) : W p l e R s m args below meth c H locs cells slots Q (F0 m pc ls (.ref (ad 0) :: rest)) := g_get X S (by omega) (ceM_10 _) rfl inX10 3 (by decide) flX10_67 rfl hdg kk
theorem pfX10_67 {v : Int32} (X : gX celM Γ ad N RX10 cc nL rt p s m args meth c) (S : gS celM Γ ad N σ s H locs) (hN : 8 ≤ N) (hz : narrow .boolean (.int v) = .int v ∧ fits .boolean (.int v) = true) (h : gset σ 0 3 v = some σ1) (hdg : decode cc pc = .ok (.putfield 67, 3)) (kk : ∀ (H : Heap) (locs : List Loc), gS celM Γ ad N σ1 s H locs → W p l e R s m args below meth c H locs cells slots Q (F0 m (pc + 3) ls rest)) : W p l e R s m args below meth c H locs cells slots Q (F0 m pc ls (.int v :: .ref (ad 0) :: rest)) := g_put X S (by omega) (ceM_10 _) rfl inX10 tyX10 tyX10_ok nmX10 3 (by decide) flX10_67 rfl (row := upd (σ 0) 3 v) hz.1 hz.2 (by decide : 3 < 17) (by rw [ceM_10]; simp [upd]) (Option.some.inj h) hdg kk
theorem gfX10_137 (X : gX celM Γ ad N RX10 cc nL rt p s m args meth c) (S : gS celM Γ ad N σ s H locs) (hN : 8 ≤ N) (hdg : decode cc pc = .ok (.getfield 137, 3)) (kk : W p l e R s m args below meth c H locs cells slots Q (F0 m (pc + 3) ls (.int (σ 0 12) :: rest))) : W p l e R s m args below meth c H locs cells slots Q (F0 m pc ls (.ref (ad 0) :: rest)) := g_get X S (by omega) (ceM_10 _) rfl inX10 12 (by decide) flX10_137 rfl hdg kk
theorem pfX10_137 {v : Int32} (X : gX celM Γ ad N RX10 cc nL rt p s m args meth c) (S : gS celM Γ ad N σ s H locs) (hN : 8 ≤ N) (h : gset σ 0 12 v = some σ1) (hdg : decode cc pc = .ok (.putfield 137, 3)) (kk : ∀ (H : Heap) (locs : List Loc), gS celM Γ ad N σ1 s H locs → W p l e R s m args below meth c H locs cells slots Q (F0 m (pc + 3) ls rest)) : W p l e R s m args below meth c H locs cells slots Q (F0 m pc ls (.int v :: .ref (ad 0) :: rest)) := g_put X S (by omega) (ceM_10 _) rfl inX10 tyX10 tyX10_ok nmX10 12 (by decide) flX10_137 rfl (row := upd (σ 0) 12 v) rfl rfl (by decide : 12 < 17) (by rw [ceM_10]; simp [upd]) (Option.some.inj h) hdg kk
theorem gfX10_211 (X : gX celM Γ ad N RX10 cc nL rt p s m args meth c) (S : gS celM Γ ad N σ s H locs) (hN : 8 ≤ N) (hdg : decode cc pc = .ok (.getfield 211, 3)) (kk : W p l e R s m args below meth c H locs cells slots Q (F0 m (pc + 3) ls (.int (σ 0 13) :: rest))) : W p l e R s m args below meth c H locs cells slots Q (F0 m pc ls (.ref (ad 0) :: rest)) := g_get X S (by omega) (ceM_10 _) rfl inX10 13 (by decide) flX10_211 rfl hdg kk
theorem pfX10_211 {v : Int32} (X : gX celM Γ ad N RX10 cc nL rt p s m args meth c) (S : gS celM Γ ad N σ s H locs) (hN : 8 ≤ N) (h : gset σ 0 13 v = some σ1) (hdg : decode cc pc = .ok (.putfield 211, 3)) (kk : ∀ (H : Heap) (locs : List Loc), gS celM Γ ad N σ1 s H locs → W p l e R s m args below meth c H locs cells slots Q (F0 m (pc + 3) ls rest)) : W p l e R s m args below meth c H locs cells slots Q (F0 m pc ls (.int v :: .ref (ad 0) :: rest)) := g_put X S (by omega) (ceM_10 _) rfl inX10 tyX10 tyX10_ok nmX10 13 (by decide) flX10_211 rfl (row := upd (σ 0) 13 v) rfl rfl (by decide : 13 < 17) (by rw [ceM_10]; simp [upd]) (Option.some.inj h) hdg kk
theorem gfX10_217 (X : gX celM Γ ad N RX10 cc nL rt p s m args meth c) (S : gS celM Γ ad N σ s H locs) (hN : 8 ≤ N) (hdg : decode cc pc = .ok (.getfield 217, 3)) (kk : W p l e R s m args below meth c H locs cells slots Q (F0 m (pc + 3) ls (.int (σ 0 14) :: rest))) : W p l e R s m args below meth c H locs cells slots Q (F0 m pc ls (.ref (ad 0) :: rest)) := g_get X S (by omega) (ceM_10 _) rfl inX10 14 (by decide) flX10_217 rfl hdg kk
theorem pfX10_217 {v : Int32} (X : gX celM Γ ad N RX10 cc nL rt p s m args meth c) (S : gS celM Γ ad N σ s H locs) (hN : 8 ≤ N) (h : gset σ 0 14 v = some σ1) (hdg : decode cc pc = .ok (.putfield 217, 3)) (kk : ∀ (H : Heap) (locs : List Loc), gS celM Γ ad N σ1 s H locs → W p l e R s m args below meth c H locs cells slots Q (F0 m (pc + 3) ls rest)) : W p l e R s m args below meth c H locs cells slots Q (F0 m pc ls (.int v :: .ref (ad 0) :: rest)) := g_put X S (by omega) (ceM_10 _) rfl inX10 tyX10 tyX10_ok nmX10 14 (by decide) flX10_217 rfl (row := upd (σ 0) 14 v) rfl rfl (by decide : 14 < 17) (by rw [ceM_10]; simp [upd]) (Option.some.inj h) hdg kk
theorem gfX10_220 (X : gX celM Γ ad N RX10 cc nL rt p s m args meth c) (S : gS celM Γ ad N σ s H locs) (hN : 8 ≤ N) (hdg : decode cc pc = .ok (.getfield 220, 3)) (kk : W p l e R s m args below meth c H locs cells slots Q (F0 m (pc + 3) ls (.int (σ 0 16) :: rest))) : W p l e R s m args below meth c H locs cells slots Q (F0 m pc ls (.ref (ad 0) :: rest)) := g_get X S (by omega) (ceM_10 _) rfl inX10 16 (by decide) flX10_220 rfl hdg kk
theorem pfX10_220 {v : Int32} (X : gX celM Γ ad N RX10 cc nL rt p s m args meth c) (S : gS celM Γ ad N σ s H locs) (hN : 8 ≤ N) (h : gset σ 0 16 v = some σ1) (hdg : decode cc pc = .ok (.putfield 220, 3)) (kk : ∀ (H : Heap) (locs : List Loc), gS celM Γ ad N σ1 s H locs → W p l e R s m args below meth c H locs cells slots Q (F0 m (pc + 3) ls rest)) : W p l e R s m args below meth c H locs cells slots Q (F0 m pc ls (.int v :: .ref (ad 0) :: rest)) := g_put X S (by omega) (ceM_10 _) rfl inX10 tyX10 tyX10_ok nmX10 16 (by decide) flX10_220 rfl (row := upd (σ 0) 16 v) rfl rfl (by decide : 16 < 17) (by rw [ceM_10]; simp [upd]) (Option.some.inj h) hdg kk
end FIELDS
end
section
/-! ===== small rows for the walks ===== -/
theorem g_if {α : Type} {c : Prop} [Decidable c] {A : Option α} {r : α} (h : (if c then A else none) = some r) : c ∧ A = some r := by
  by_cases hc : c
  · exact ⟨hc, by rwa [if_pos hc] at h⟩
  · rw [if_neg hc] at h; cases h
theorem g_swout0 {x : Int32} {lo : Int} {n : Nat} (h : ∀ j : Nat, j < n → ¬ x.toInt = lo + j) : x.toInt < lo ∨ lo + n - 1 < x.toInt := by
  by_cases q : x.toInt < lo
  · exact Or.inl q
  · right
    by_cases q2 : lo + n - 1 < x.toInt
    · exact q2
    · exact absurd (show x.toInt = lo + ((x.toInt - lo).toNat : Nat) by omega) (h (x.toInt - lo).toNat (by omega))
/-! ===== methods that may throw: code x (0: none), answer, state ===== -/
def gEx (x : Nat) : String := match x with
  | 1 => "java/lang/IllegalArgumentException"
  | 2 => "java/lang/UnsupportedOperationException"
  | 3 => "java/lang/IndexOutOfBoundsException"
  | 4 => "java/lang/IllegalStateException"
  | 5 => "java/util/NoSuchElementException"
  | _ => "java/lang/ArithmeticException"
def gNms : List String := ["java/lang/RuntimeException", "java/lang/Exception"]
def gExW (x ik ic : Nat) : Prop := Cond.classLink RX9 ik (gEx x) ∈ lwg ∧ Cond.initialized (gEx x) ∈ lwg ∧ (∀ w ∈ vx_atS RX9 ic (gEx x) gNms, w ∈ lwg ∨ w ∈ gBad) ∧ (∀ w ∈ Cond.classLink RX9 ik (gEx x) :: Cond.initialized (gEx x) :: vx_atS RX9 ic (gEx x) gNms, vx_ot w = true) ∧ Bundle.fit (gEx x) = true ∧ ¬ x = 0
abbrev gQcxi (Γ : gG) (ad : Nat → Nat) (N x : Nat) (r : Int32) (σ : gSt) (sz : Nat) : Array Value → State → Outcome → State → Prop := va_Qi (fun r' (_ : Unit) => x = 0 ∧ r' = r) (fun _ t => gO celC Γ ad N σ t) (gA ad N sz)
abbrev gQcxv (Γ : gG) (ad : Nat → Nat) (N x : Nat) (σ : gSt) (sz : Nat) : Array Value → State → Outcome → State → Prop := va_Qv (fun (_ : Unit) => x = 0) (fun _ t => gO celC Γ ad N σ t) (gA ad N sz)
abbrev gXc (Γ : gG) (ad : Nat → Nat) (N x : Nat) (σ : gSt) (sz : Nat) : String → State → State → Prop := vx_X (fun (_ : Unit) => ¬ x = 0) (fun E _ t => E = gEx x ∧ gO celC Γ ad N σ t) (gA ad N sz)
def gMxi (l : Launch) (Γ : gG) (ad : Nat → Nat) (N : Nat) (y : MethodName) (b : ByteArray) (n : Nat) (rt : Option FieldType) (rm : Room) (as : List Value) (σ : gSt) (x : Nat) (r : Int32) (σ' : gSt) (mc ms : Nat) : Prop :=
  ∀ sz, vx_Met l y (gwm y b n rt) rm (gPc celC Γ ad N σ as sz) (gQcxi Γ ad N x r σ' sz) (gXc Γ ad N x σ' sz) mc ms (gA ad N sz)
def gMxv (l : Launch) (Γ : gG) (ad : Nat → Nat) (N : Nat) (y : MethodName) (b : ByteArray) (n : Nat) (rt : Option FieldType) (rm : Room) (as : List Value) (σ : gSt) (x : Nat) (σ' : gSt) (mc ms : Nat) : Prop :=
  ∀ sz, vx_Met l y (gwm y b n rt) rm (gPc celC Γ ad N σ as sz) (gQcxv Γ ad N x σ' sz) (gXc Γ ad N x σ' sz) mc ms (gA ad N sz)
abbrev gQxi (Γ : gG) (ad : Nat → Nat) (N x : Nat) (r : Int32) (σ : gSt) (mc ms : Nat) (below : List Frame) (args : Array Value) (s : State) : State → Prop := vx_MQ below (gQcxi Γ ad N x r σ s.heap.size) (gXc Γ ad N x σ s.heap.size) args s mc ms (gA ad N s.heap.size)
abbrev gQxv (Γ : gG) (ad : Nat → Nat) (N x : Nat) (σ : gSt) (mc ms : Nat) (below : List Frame) (args : Array Value) (s : State) : State → Prop := vx_MQ below (gQcxv Γ ad N x σ s.heap.size) (gXc Γ ad N x σ s.heap.size) args s mc ms (gA ad N s.heap.size)
theorem gBad_on {w : Cond} (h : w ∈ gBad) : w.onTables = true := by
  have h1 := (List.mem_filter.mp h).2
  cases w <;> first | rfl | (simp [gBadOk] at h1; done)
section GX
variable {l : Launch} {cel : gCell} {Γ : gG} {ad : Nat → Nat} {N : Nat} {own : String} {cc : ByteArray} {nL : Nat} {rt : Option FieldType} {p : Program} {e : Env} {R : Room} {s : State} {m : MethodId} {args : Array Value} {below : List Frame} {meth : Method} {c : Code} {H : Heap} {locs : List Loc} {cells slots : Nat} {Q : State → Prop} {pc : Nat} {ls : Array Slot} {rest st0 : List Value} {σ σ' σ1 : gSt}
theorem gOfX {Qc : Nat → Array Value → State → Outcome → State → Prop} {XC : Nat → String → State → State → Prop} {y : MethodName} {b : ByteArray} {n mc ms sz : Nat} {rm : Room} {as : List Value} (own : String) (hy : plainName y.cls = true) (hown : y.cls = own) (hlen : (lg_sl as).length ≤ n)
    (body : ∀ p e s m args below meth c H locs ls, gX cel Γ ad N own b n rt p s m args meth c → (∀ x ∈ c.exceptionTable.toList, False) → gS cel Γ ad N σ s H locs → lv_has ls n (lv_args 0 as) →
      W p l e rm s m args below meth c H locs 0 0 (vx_MQ below (Qc s.heap.size) (XC s.heap.size) args s mc ms (gA ad N s.heap.size)) (F0 m 0 ls [])) :
    vx_Met l y (gwm y b n rt) rm (gPc cel Γ ad N σ as sz) (Qc sz) (XC sz) mc ms (gA ad N sz) := by
  refine vx_ofW (cc := b) (maxL := n) (ret := rt) hy rfl ?_
  intro p e s m args below meth c s₁ B hml hT hv
  obtain ⟨rfl, rfl, hP, hK, hI, hF⟩ := hv
  rw [lg_entry_eq]
  have hts := atoms_spec (ws := gwm y b n rt) B.pre
  exact body p e s m _ below meth c s.heap [] _ ⟨B.exec, B.bytes, hml, hown ▸ findClass_of_methodNamed B.named, fun w hw => hts w (List.mem_cons_of_mem _ hw), B.returns, B.notSynchronized, hK, hI, hF⟩ hT ⟨hP, va_S.rf⟩ (lv_entry as hlen)
theorem g_xreti {ty : FieldType} {r : Int32} {mc ms : Nat} (X : gX celC Γ ad N own cc nL (some ty) p s m args meth c) (S : gS celC Γ ad N σ s H locs) (hn : narrow ty (.int r) = .int r) (hdg : decode cc pc = .ok (.ireturn, 1)) (hc : cells ≤ mc) (hs : slots ≤ ms) : W p l e R s m args below meth c H locs cells slots (gQxi Γ ad N 0 r σ mc ms below args s) (F0 m pc ls [.int r]) :=
  W.widen hc hs (vx_ret (W.zret (v := r) X.1 X.2.1 X.r hn (fun t ht _ => ⟨⟨r, (), rfl, ⟨rfl, rfl⟩, by subst ht; exact S.1⟩, S.2.F ht⟩) S.2.2.2 hdg X.lk))
theorem g_xretv {mc ms : Nat} (X : gX celC Γ ad N own cc nL none p s m args meth c) (S : gS celC Γ ad N σ s H locs) (hdg : decode cc pc = .ok (.return_, 1)) (hc : cells ≤ mc) (hs : slots ≤ ms) : W p l e R s m args below meth c H locs cells slots (gQxv Γ ad N 0 σ mc ms below args s) (F0 m pc ls []) :=
  W.widen hc hs (vx_ret (W.vret X.1 X.2.1 X.r (fun t ht _ => ⟨⟨(), rfl, rfl, by subst ht; exact S.1⟩, S.2.F ht⟩) S.2.2.2 hdg X.lk))
theorem g_throwX {Qc : Array Value → State → Outcome → State → Prop} {x ik ic is mc ms : Nat} {text : String} (hl0 : l.stackTraces = false) (X : gX celC Γ ad N RX9 cc nL rt p s m args meth c) (S : gS celC Γ ad N σ s H locs) (hT : ∀ x ∈ c.exceptionTable.toList, False) (hls : ls.size = nL) (E : gExW x ik ic) (hst : (RX9, is, text) ∈ gStr)
    (d0 : decode cc pc = .ok (.new ik, 3)) (d3 : decode cc (pc + 3) = .ok (.dup, 1)) (d4 : decode cc (pc + 4) = .ok (.ldc is, 2)) (d6 : decode cc (pc + 6) = .ok (.invokespecial ic, 3)) (d9 : decode cc (pc + 9) = .ok (.athrow, 1))
    (hRf : gNms.length + 3 < R.frames) (hRl : (rest.map fun v => v.category).sum + (13 * (gNms.length + 1) + 43) ≤ R.locals) (hRc : cells + 1 ≤ R.cells) (hRs : slots + 6 ≤ R.slots) (hc : cells + 1 ≤ mc) (hs : slots + 6 ≤ ms) :
    W p l e R s m args below meth c H locs cells slots (vx_MQ below Qc (gXc Γ ad N x σ s.heap.size) args s mc ms (gA ad N s.heap.size)) (F0 m pc ls rest) := by
  obtain ⟨sa, hsa⟩ := X.F.2.2.2.1 _ hst
  obtain ⟨e1, e2, e3, e4, e5, e6⟩ := E
  refine vx_throwS (sa := sa) (names := gNms) X.1 X.2.1 hl0 X.ow e5 (by decide) (X.w _ e1) (X.w _ e2) hsa (fun w hw => (e3 w hw).elim (X.w w) (fun h => va_Nw.use (gBad_on h) (X.F.1 w h))) e4 X.F.2.1 X.F.2.2.1 S.2 (hls.trans X.ml.symm) d0 d3 d4 d6 d9 (fun z hz => (hT z hz).elim) hRf hRl hRc hRs X.lk (fun t _ hz hq => ⟨(), e6, ⟨rfl, ?_⟩, ?_⟩) S.2.2.2 hc hs
  · exact S.1.kept (fun k q hk => hq _ (S.1 k q hk).lt)
  · exact ⟨Nat.le_trans S.2.1 hz, fun q h1 h2 => (hq q (Nat.lt_of_lt_of_le h1 S.2.1)).trans (S.2.2.1 q h1 h2)⟩
theorem g_throwXW {Qc : Array Value → State → Outcome → State → Prop} {x ik ic is mc ms : Nat} {text : String} (hl0 : l.stackTraces = false) (X : gX celC Γ ad N RX9 cc nL rt p s m args meth c) (S : gS celC Γ ad N σ s H locs) (hT : ∀ x ∈ c.exceptionTable.toList, False) (hls : ls.size = nL) (E : gExW x ik ic) (hst : (RX9, is, text) ∈ gStr)
    (d0 : decode cc pc = .ok (.new ik, 3)) (d3 : decode cc (pc + 3) = .ok (.dup, 1)) (d4 : decode cc (pc + 4) = .ok (.ldc_w is, 3)) (d6 : decode cc (pc + 7) = .ok (.invokespecial ic, 3)) (d9 : decode cc (pc + 10) = .ok (.athrow, 1))
    (hRf : gNms.length + 3 < R.frames) (hRl : (rest.map fun v => v.category).sum + (13 * (gNms.length + 1) + 43) ≤ R.locals) (hRc : cells + 1 ≤ R.cells) (hRs : slots + 6 ≤ R.slots) (hc : cells + 1 ≤ mc) (hs : slots + 6 ≤ ms) :
    W p l e R s m args below meth c H locs cells slots (vx_MQ below Qc (gXc Γ ad N x σ s.heap.size) args s mc ms (gA ad N s.heap.size)) (F0 m pc ls rest) := by
  obtain ⟨sa, hsa⟩ := X.F.2.2.2.1 _ hst
  obtain ⟨e1, e2, e3, e4, e5, e6⟩ := E
  refine vx_throwSW (sa := sa) (names := gNms) X.1 X.2.1 hl0 X.ow e5 (by decide) (X.w _ e1) (X.w _ e2) hsa (fun w hw => (e3 w hw).elim (X.w w) (fun h => va_Nw.use (gBad_on h) (X.F.1 w h))) e4 X.F.2.1 X.F.2.2.1 S.2 (hls.trans X.ml.symm) d0 d3 d4 d6 d9 (fun z hz => (hT z hz).elim) hRf hRl hRc hRs X.lk (fun t _ hz hq => ⟨(), e6, ⟨rfl, ?_⟩, ?_⟩) S.2.2.2 hc hs
  · exact S.1.kept (fun k q hk => hq _ (S.1 k q hk).lt)
  · exact ⟨Nat.le_trans S.2.1 hz, fun q h1 h2 => (hq q (Nat.lt_of_lt_of_le h1 S.2.1)).trans (S.2.2.1 q h1 h2)⟩
variable {y : MethodName} {b' : ByteArray} {n' na idx mc ms mc1 ms1 : Nat} {rt' : Option FieldType} {rm : Room} {As : List Value} {Qc : Array Value → State → Outcome → State → Prop} {XC : String → State → State → Prop}
theorem g_xrunV (X : gX cel Γ ad N own cc nL rt p s m args meth c) (S : gS cel Γ ad N σ s H locs) {k : Nat} (hM : vx_Met l y (gwm y b' n' rt') rm (gPc cel Γ ad N σ (.ref (ad k) :: As) H.size) Qc XC mc ms (gA ad N H.size)) (hc : gCV y b' n' rt' na) (hw : Cond.methodLink own idx y ∈ lwg)
    (hk : k < N) {ci nn : Nat} {T : u_T} {fs : List Value} (he : cel Γ ad k (σ k) = .inr (ci, fs)) (hcl : gCl[ci]? = some (y.cls, T, nn)) (hn : As.length = na) (hst : st0 = As.reverse ++ .ref (ad k) :: rest) (hls : ls.size = nL) (hcat : (rest.map fun v => v.category).sum ≤ 8) (hR : gRoom rm R n' cells slots mc ms) (hdg : decode cc pc = .ok (.invokevirtual idx, 3)) :
    vx_Run p l e R s m args below meth c H locs cells slots mc ms (F0 m pc ls st0) rest (Qc (Value.ref (ad k) :: As).toArray) XC (gA ad N H.size) :=
  vx_runV (As := As) (rest := rest) X.fix hM ⟨callB_of na X.w (gwm_in hc.2.1) rfl hR.1.1 hR.1.2 (X.w _ hc.2.2.1) (X.w _ hw) hc.1 hR.2.1, X.w _ hc.2.2.2.1, X.w _ hc.2.2.2.2⟩
    ⟨(gPre X S _).1, va_recv X.K S.1 hcl (gws_e hk he), (gPre X S _).2⟩ rfl hn hls hst (lv_room (pc := pc) (ls := ls) (rest := st0) (m := m) hcat) hdg hR.2.2
theorem g_kxG {x x1 : Nat} {a : Array Value} (S : gS celC Γ ad N σ s H locs) (X : gX celC Γ ad N own cc nL rt p s m args meth c) (hT : ∀ x ∈ c.exceptionTable.toList, False) (run : vx_Run p l e R s m args below meth c H locs cells slots mc1 ms1 (F0 m pc ls st0) rest (gQcxv Γ ad N x1 σ1 H.size a) (gXc Γ ad N x1 σ1 H.size) (gA ad N H.size)) (he : ¬ x1 = 0 → x = x1 ∧ σ' = σ1) (hc : cells + mc1 ≤ mc) (hs : slots + ms1 ≤ ms)
    (kk : x1 = 0 → ∀ (H : Heap) (locs : List Loc), gS celC Γ ad N σ1 s H locs → W p l e R s m args below meth c H locs (cells + mc1) (slots + ms1) (vx_MQ below Qc (gXc Γ ad N x σ' s.heap.size) args s mc ms (gA ad N s.heap.size)) (F0 m (pc + 3) ls rest)) : W p l e R s m args below meth c H locs cells slots (vx_MQ below Qc (gXc Γ ad N x σ' s.heap.size) args s mc ms (gA ad N s.heap.size)) (F0 m pc ls st0) := by
  refine vx_callv run S.2 (fun q _ hq => gA_le S.2.1 q hq) (gA_le S.2.1) (fun q _ hq => gA_le S.2.1 q hq) ?_ ?_
  · intro E ce q9 u t H1 locs1 ht hvm hpx hB hz hk hS hce hcv hcl
    obtain ⟨rfl, rfl⟩ := he hpx
    obtain ⟨rfl, hB⟩ := hB
    subst ht
    exact vx_out (fun z hz => (hT z hz).elim) X.lk hce hcv hcl (fun t2 ht2 _ => ⟨(), hpx, ⟨rfl, by unfold gO; rw [ht2]; exact hB⟩, hS.F ht2⟩) hS.2.2 hc hs
  · intro u t H1 locs1 ht hvm hw hB hz hk hS
    subst ht
    exact kk hw _ _ ⟨hB, hS⟩
end GX
/-! ===== the films of the history; the reader's text ===== -/
def gidx (i : Int32) (n : Nat) : Option Nat := if 0 ≤ i.toInt ∧ i.toInt < (n : Int) then some i.toNatClampNeg else none
theorem gidx_some {i : Int32} {n v : Nat} (h : gidx i n = some v) : v < n ∧ vp_in i n ∧ i.toNatClampNeg = v := by
  unfold gidx at h
  split at h
  · rename_i h1
    have h2 := Option.some.inj h
    have h3 := g_clamp h1.1
    exact ⟨by omega, vp_in_iff.mpr h1, h2⟩
  · cases h
section GH
variable {l : Launch} {Γ : gG} {ad : Nat → Nat} {N : Nat} {own : String} {cc : ByteArray} {nL : Nat} {rt : Option FieldType} {p : Program} {e : Env} {R : Room} {s : State} {m : MethodId} {args : Array Value} {below : List Frame} {meth : Method} {c : Code} {H : Heap} {locs : List Loc} {cells slots : Nat} {Q : State → Prop} {pc : Nat} {ls : Array Slot} {rest st0 : List Value} {σ σ' σ1 : gSt}
theorem g_aald {i : Int32} {v : Nat} (X : gX celC Γ ad N own cc nL rt p s m args meth c) (S : gS celC Γ ad N σ s H locs) (hN : 202 ≤ N) (h : gidx i 9 = some v) (hdg : decode cc pc = .ok (.aaload, 1))
    (kk : W p l e R s m args below meth c H locs cells slots Q (F0 m (pc + 1) ls (.ref (ad (gFx v)) :: rest))) : W p l e R s m args below meth c H locs cells slots Q (F0 m pc ls (.int i :: .ref (ad 26) :: rest)) := by
  obtain ⟨-, h1, rfl⟩ := gidx_some h
  exact va_aldq (D := Γ.1) (tys := gT Γ) X.1 X.2.1 X.K S.1 26 1 (gws_e (by omega) (ceC_209 kd_s26 _)) rfl h1 hdg kk
theorem g_alenq (X : gX celC Γ ad N own cc nL rt p s m args meth c) (S : gS celC Γ ad N σ s H locs) (hN : 202 ≤ N) (hdg : decode cc pc = .ok (.arraylength, 1))
    (kk : W p l e R s m args below meth c H locs cells slots Q (F0 m (pc + 1) ls (.int (9 : Int32) :: rest))) : W p l e R s m args below meth c H locs cells slots Q (F0 m pc ls (.ref (ad 26) :: rest)) :=
  va_alen (D := Γ.1) (tys := gT Γ) (ty := .object RX3) X.1 X.2.1 X.K S.1 26 1 (gws_e (by omega) (ceC_209 kd_s26 _)) rfl rfl hdg kk
theorem g_retq {C : String} {r : Option Nat} (X : gX celC Γ ad N own cc nL (some (.object C)) p s m args meth c) (S : gS celC Γ ad N σ s H locs) (hdg : decode cc pc = .ok (.areturn, 1)) : W p l e R s m args below meth c H locs 0 0 (gQr celC Γ ad N r σ below args s) (F0 m pc ls [va_re ad r]) := by
  cases r with
  | none => exact g_retn X S hdg
  | some r => exact g_retr X S hdg
theorem pfX5_text {k : Nat} (X : gX celC Γ ad N RX5 cc nL rt p s m args meth c) (S : gS celC Γ ad N σ s H locs) (hN : 202 ≤ N) (hk : gkd k = 7) (h : gset σ 191 9 (nI k) = some σ1) (hdg : decode cc pc = .ok (.putfield 43, 3)) (kk : ∀ (H : Heap) (locs : List Loc), gS celC Γ ad N σ1 s H locs → W p l e R s m args below meth c H locs cells slots Q (F0 m (pc + 3) ls rest)) : W p l e R s m args below meth c H locs cells slots Q (F0 m pc ls (.ref (ad k) :: .ref (ad 191) :: rest)) := by
  have h1 := kd_lt hk (by decide)
  have h2 : (nI k).toNatClampNeg = k := nI_clamp (by omega)
  exact g_put X S (kd_N kd_s191 (by decide) hN) (ceC_5 kd_s191 _) rfl inX5 tyX5 tyX5_ok nmX5 9 (by decide) flX5_43 rfl (row := upd (σ 191) 9 (nI k)) rfl rfl (by decide : 9 < 10) (by rw [ceC_5 kd_s191]; simp [upd, h2]) (Option.some.inj h) hdg kk
end GH
/-! ===== a method of java.lang.Math that runs as bytecode ===== -/
theorem gMet_ofF {l : Launch} {y : MethodName} {ws ws' : List Cond} {rm : Room} {Pc : Array Value → State → Prop} {Qc : Array Value → State → Outcome → State → Prop} {mc ms : Nat} {free : Addr → Prop} {cc : ByteArray} {maxL : Nat} {ret : Option FieldType}
    (hy : plainFor y = true) (hw : ws = Cond.code y cc maxL ret :: ws')
    (body : ∀ p e s m args below meth c s₁, BodyLoose p l y (headSpec ws rm) cc maxL ret e s m args below meth c s₁ → c.maxLocals = maxL → Pc args s →
      W p l e (headSpec ws rm).room s m args below meth c s.heap [] 0 0 (MQ below Qc args s mc ms free) (entryFrame m args maxL)) : Met l y ws rm Pc Qc mc ms free := by
  refine MetFree.of_bodySF (code := cc) (maxLocals := maxL) (ret := ret) hy ?_ ?_
  · intro args s m h hn
    obtain ⟨meth, c, h1, h2, h3, h4, h5, h6, -, -⟩ := Cond.code_spec hn (atoms_spec (ws := ws) h _ (by rw [hw]; exact List.mem_cons_self))
    exact ⟨meth, c, h1, h2, h3, h4, h5, h6⟩
  · intro p e s m args below meth c s₁ B hml hP _
    have hh0 : s₁.heap = s.heap := by rw [B.state]; rfl
    obtain ⟨t, a1, o, b1, b2, b3⟩ := body p e s m args below meth c s₁ B hml hP s₁ hh0 (Stand.of_body B)
    exact ⟨t, o, a1, b1, b2, ⟨b3.1, b3.2⟩⟩
theorem gOfJ {l : Launch} {cel : gCell} {Γ : gG} {ad : Nat → Nat} {N : Nat} {y : MethodName} {b : ByteArray} {n : Nat} {rt : Option FieldType} {rm : Room} {as : List Value} {σ : gSt} {Qc : Nat → Array Value → State → Outcome → State → Prop} {sz : Nat} (own : String) (hy : plainFor y = true) (hown : y.cls = own) (hlen : (lg_sl as).length ≤ n)
    (body : ∀ p e s m args below meth c H locs ls, gX cel Γ ad N own b n rt p s m args meth c → gS cel Γ ad N σ s H locs → lv_has ls n (lv_args 0 as) →
      W p l e rm s m args below meth c H locs 0 0 (MQ below (Qc s.heap.size) args s 0 0 (gA ad N s.heap.size)) (F0 m 0 ls [])) :
    Met l y (gwm y b n rt) rm (gPc cel Γ ad N σ as sz) (Qc sz) 0 0 (gA ad N sz) := by
  refine gMet_ofF (cc := b) (maxL := n) (ret := rt) hy rfl ?_
  intro p e s m args below meth c s₁ B hml hv
  obtain ⟨rfl, rfl, hP, hK, hI, hF⟩ := hv
  rw [lg_entry_eq]
  have hts := atoms_spec (ws := gwm y b n rt) B.pre
  exact body p e s m _ below meth c s.heap [] _ ⟨B.exec, B.bytes, hml, hown ▸ findClass_of_methodNamed B.named, fun w hw => hts w (List.mem_cons_of_mem _ hw), B.returns, B.notSynchronized, hK, hI, hF⟩ ⟨hP, va_S.rf⟩ (lv_entry as hlen)
end
section
/-! ===== 'throw new NoSuchElementException("text")': her constructor links its super at 13; the rows of the library that are for 7 alone don't serve, their pieces do ===== -/
def gNE : String := "java/util/NoSuchElementException"
def gRE : String := "java/lang/RuntimeException"
theorem g13_0 : decode prog_26_method_4_code 0 = .ok (.aload_n 0, 1) := by decide +kernel
theorem g13_1 : decode prog_26_method_4_code 1 = .ok (.aload_n 1, 1) := by decide +kernel
theorem g13_2 : decode prog_26_method_4_code 2 = .ok (.invokespecial 13, 3) := by decide +kernel
theorem g13_5 : decode prog_26_method_4_code 5 = .ok (.return_, 1) := by decide +kernel
def gAt5 : List Cond :=
  Bundle.throwableAtoms ++ Bundle.throwableSAtoms ++ Bundle.passSAtoms gNE gRE 13 prog_26_method_4_code ++ Bundle.chainSAtoms gRE ["java/lang/Exception"] ++
  [.methodLink RX9 292 (Bundle.initS gNE), .instantiable gNE 6, .selects gNE Bundle.tFill0 Bundle.tFill0, .selects gNE Bundle.tFill Bundle.tFill,
   .lays gNE Bundle.tN "cause" "Ljava/lang/Throwable;", .lays gNE Bundle.tN "stackTrace" Bundle.steD, .lays gNE Bundle.tN "suppressedExceptions" Bundle.listD, .lays gNE Bundle.tN "detailMessage" "Ljava/lang/String;",
   .isRef (.static Bundle.tN "UNASSIGNED_STACK" Bundle.steD), .isRef (.static Bundle.tN "SUPPRESSED_SENTINEL" Bundle.listD),
   .fieldLink Bundle.tN 198 Bundle.tN "backtrace" "Ljava/lang/Object;", .lays Bundle.tN Bundle.tN "backtrace" "Ljava/lang/Object;", .lays gNE Bundle.tN "backtrace" "Ljava/lang/Object;"]
set_option maxHeartbeats 4000000 in
theorem g_ctor5 {p : Program} {l : Launch} {e : Env} {R : Room} {s : State} {m₀ : MethodId} {args : Array Value} {below : List Frame} {meth : Method} {c : Code} {W : State} {locs : List Loc} {cells slots : Nat}
    (X : Stand p l e R s m₀ args below meth c W locs cells slots) (hexec : p.tables.exec = Jvm.exec) (htr : e.platform.stackTraces = false)
    (hown : s.vm.findClass RX9 = some m₀.cls) (h : ∀ a ∈ gAt5, a.before args s = true)
    (hlocs : ∀ x ∈ locs, ∀ cell, s.heap[x.base]? = some cell → cell.vm.isStatics = false)
    {a : Addr} {cX : ClassId} {kX : Class} (hfoundX : s.vm.findClass gNE = some cX) (hkX : s.vm.classes[cX]? = some kX) (hcell : W.heap[a]? = some (freshCell cX kX)) (hnew : s.heap.size ≤ a)
    {msg : Value} (hmsg : msg.isRef = true)
    {g : JFrame} (hg : g.method = m₀) (hsize : g.locals.size = c.maxLocals) (hlocked : g.locked = none) (hentered : g.entered = []) {rest : List Value} (hstack : g.stack = msg :: .ref a :: .ref a :: rest)
    (hd6 : decode c.code g.pc = .ok (.invokespecial 292, 3)) (hd9 : decode c.code (g.pc + 3) = .ok (.athrow, 1)) (hout : ∀ x ∈ c.exceptionTable.toList, covers x (g.pc + 3) = false)
    (hRframes : 2 + 3 < R.frames) (hRlocals : 2 * g.monitorRoom + ((Value.ref a :: rest).map fun v => v.category).sum + (13 * (2 + 1) + 42) ≤ R.locals) (hlocks : meth.locks = false) :
    ∃ U : State, Steps p.tables e below (W.setTop g) U ∧ U.status = .running ∧ Ended U below (.threw a) ∧ s.WarmedH U.vm ∧ s.sameButNew ({ U with vm := s.vm } : State) locs cells slots ∧
      ∃ ce : Cell, U.heap[a]? = some ce ∧ ce.vm = .none ∧ s.vm.findClass gNE = some ce.cls := by
  have howns : e.platform.frameOwnsMonitors = true := by rw [X.admits.platform]
  have hfin : e.platform.finalization = false := by rw [X.admits.platform]
  have hpl : e.platform.magicAccessors = ({} : Platform).magicAccessors := by rw [X.admits.platform]
  have a' : ∀ x, x ∈ gAt5 → x.holds args s none s [] = true := fun x hx => h x hx
  -- the pieces: Throwable, her constructor, the three that pass on
  obtain ⟨T, Z0, L, -, Y⟩ := ThrowableC.of_atoms (args := args) howns hfin hpl (fun x hx => h x (by simp [gAt5, hx]))
  obtain ⟨Z, M, LZ, LM, hnZ⟩ := Init0T.ofS_atoms (args := args) hpl L Y (fun x hx => h x (by simp [gAt5, hx]))
  obtain ⟨P2, Ps, hlen, L2, hL, hP2m, hlink2, hlink⟩ := Bundle.chainS (args := args) hpl hnZ ["java/lang/Exception"] gRE (by decide) (by decide) (fun x hx => h x (by simp [gAt5, hx]))
  obtain ⟨P1, L1, hP1m, hP1s⟩ := PassC.ofS_atoms (args := args) (s := s) hpl (X := gNE) (Y := gRE) (index := 13) (bytes := prog_26_method_4_code) (by decide) (by decide) g13_0 g13_1 g13_2 g13_5 (fun x hx => h x (by simp [gAt5, hx]))
  have hlink1 : P1.sup = P2.m := Option.some.inj (hP1s.symm.trans hP2m)
  have hfound : s.vm.findClass gNE = some P1.m.cls := findClass_of_methodNamed hP1m
  cases Option.some.inj (hfoundX.symm.trans hfound)
  obtain ⟨c1, kX', hc1, hk, hord, -, -, hn6⟩ := Cond.instantiable_spec (a' (.instantiable gNE 6) (by simp [gAt5]))
  cases Option.some.inj (hc1.symm.trans hfound)
  cases Option.some.inj (hkX.symm.trans hk)
  have hsel0 : selectMethod e.platform s.vm P1.m.cls T.fill0 = .method T.fill0 := by
    obtain ⟨c2, r2, m2, q1, q2, q3, q4, -⟩ := Cond.selects_spec (a' (.selects gNE Bundle.tFill0 Bundle.tFill0) (by simp [gAt5]))
    cases Option.some.inj (q1.symm.trans hfound)
    cases Option.some.inj (q2.symm.trans (State.methodFound?_of_named Y.fill0 (by decide)))
    cases Option.some.inj (q3.symm.trans Y.fill0)
    rw [Launch.admits_selectMethod X.admits]; exact q4
  have hselF : selectMethod e.platform s.vm P1.m.cls T.fill = .method T.fill := by
    obtain ⟨c2, r2, m2, q1, q2, q3, q4, -⟩ := Cond.selects_spec (a' (.selects gNE Bundle.tFill Bundle.tFill) (by simp [gAt5]))
    cases Option.some.inj (q1.symm.trans hfound)
    cases Option.some.inj (q2.symm.trans (State.methodFound?_of_named Y.fill (by decide)))
    cases Option.some.inj (q3.symm.trans Y.fill)
    rw [Launch.admits_selectMethod X.admits]; exact q4
  obtain ⟨cellS0, hcS0, hiss⟩ := Y.statics
  obtain ⟨u0, hu0⟩ := Cond.staticRefV Y.unassigned L.unassignedStatic L.statics hcS0 hiss (a' (.isRef (.static Bundle.tN "UNASSIGNED_STACK" Bundle.steD)) (by simp [gAt5]))
  obtain ⟨sen, hsen⟩ := Cond.staticRefV Y.sentinel L.sentinelStatic L.statics hcS0 hiss (a' (.isRef (.static Bundle.tN "SUPPRESSED_SENTINEL" Bundle.listD)) (by simp [gAt5]))
  obtain ⟨ci198, i198, fB, hk198, hg198, ha198, hsB, -, hnB, htB, hffB⟩ := Cond.ownField (t := .object "java/lang/Object") Y.found L.cls (by decide +kernel) (a' (.fieldLink Bundle.tN 198 Bundle.tN "backtrace" "Ljava/lang/Object;") (by simp [gAt5])) (a' (.lays Bundle.tN Bundle.tN "backtrace" "Ljava/lang/Object;") (by simp [gAt5])) e.platform hpl
  obtain ⟨cellS, hcS', heS, -, hkeep⟩ := X.same.2.2.2.2.2 T.aS cellS0 hcS0
  have hcellS : W.heap[T.aS]? = some cellS := hcS'
  have hout' : ∀ i, (⟨T.aS, i⟩ : Loc) ∉ locs := fun i hmem => by
    have := hlocs _ hmem cellS0 hcS0
    rw [hiss] at this; cases this
  have hknownS : cellS.vm ≠ .unknown := by
    rw [heS]; intro hu
    rw [show cellS0.vm = .unknown from hu] at hiss
    cases hiss
  have hneS : T.aS ≠ a := Nat.ne_of_lt (Nat.lt_of_lt_of_le (Array.getElem?_eq_some_iff.mp hcS0).1 hnew)
  obtain ⟨iM, hffM⟩ := Y.msg
  obtain ⟨tyC, dC, hdC, hdnC⟩ := Cond.laysAt hfound hk Y.cause (a' (.lays gNE Bundle.tN "cause" "Ljava/lang/Throwable;") (by simp [gAt5]))
  obtain ⟨tyS, dS, hdS, hdnS⟩ := Cond.laysAt hfound hk Y.stack (a' (.lays gNE Bundle.tN "stackTrace" Bundle.steD) (by simp [gAt5]))
  obtain ⟨tyP, dP, hdP, hdnP⟩ := Cond.laysAt hfound hk Y.supp (a' (.lays gNE Bundle.tN "suppressedExceptions" Bundle.listD) (by simp [gAt5]))
  obtain ⟨tyM, dM, hdM, hdnM⟩ := Cond.laysAt hfound hk hffM (a' (.lays gNE Bundle.tN "detailMessage" "Ljava/lang/String;") (by simp [gAt5]))
  obtain ⟨tyB, dB, hdB, hdnB⟩ := Cond.laysAt hfound hk hffB (a' (.lays gNE Bundle.tN "backtrace" "Ljava/lang/Object;") (by simp [gAt5]))
  have bC := Cond.laysApart hdB hdC hdnB hdnC (by rw [hnB, Y.causeName]; decide)
  have bS := Cond.laysApart hdB hdS hdnB hdnS (by rw [hnB, Y.stackName]; decide)
  have bP := Cond.laysApart hdB hdP hdnB hdnP (by rw [hnB, Y.suppName]; decide)
  have hskip : SkipFacts T e.platform s (fun u => u) u0 ((preparedCellV T.toThrowableT (freshCell P1.m.cls kX) a u0 sen).withEntry W.cur) :=
    ⟨{ ci198 := ci198, i198 := i198, fBack := fB }, ⟨hk198, hg198, ha198, hsB⟩, by
      have := fresh_default (c := P1.m.cls) tyB
      rw [htB] at this
      simpa [preparedCellV, Cell.setSlot, Cell.withEntry, Array.getElem?_setIfInBounds, bC, bS, bP, bC.symm, bS.symm, bP.symm, defaultValue] using this, fun _ _ => rfl⟩
  -- the call, the constructor, the throw
  obtain ⟨tm, methC, cdC, kC, vm₁, hnC, -, -, -, -, -, -, -, hW₁, st1⟩ := Steps.initColdS (tb := p.tables) (e := e) (below := below) (s := s) (U := W) X.here hexec X.warmed hpl hown (t := Bundle.initS gNE) rfl rfl (by decide)
    (a' (.methodLink RX9 292 (Bundle.initS gNE)) (by simp [gAt5])) (h (.instanceMethod (Bundle.initS gNE)) (by simp [gAt5, Bundle.passSAtoms])) (bytes := prog_26_method_4_code) (maxL := 2) (h (.code (Bundle.initS gNE) prog_26_method_4_code 2 none) (by simp [gAt5, Bundle.passSAtoms]))
    (f := g) hg (a := a) (msg := msg) (rest := .ref a :: rest) hstack hd6
  cases Option.some.inj (hnC.symm.trans hP1m)
  have X₁ := X.noted hW₁
  have hlen2 : Ps.length = 1 := hlen
  obtain ⟨vm₂, X₂, st2⟩ := X₁.ctorMessageOffV hexec (g := { g with stack := .ref a :: rest }) hg hsize T L Z LZ M LM (P1 :: P2 :: Ps)
    (fun P hP => by rcases List.mem_cons.mp hP with rfl | hP; exact L1; rcases List.mem_cons.mp hP with rfl | hP; exact L2; exact hL P hP) ⟨hlink1, hlink2, hlink⟩ (u0 := u0) (sen := sen) (self := a) hmsg (cell := freshCell P1.m.cls kX) (cellS := cellS)
    hcell (fun _ => by simp) (by simp) rfl rfl hsel0 hselF hcellS hneS hknownS (by rw [hkeep _ (hout' _)]; exact hu0) (by rw [hkeep _ (hout' _)]; exact hsen)
    (Takes.of_laid hk hord tyC (by rw [Y.causeType]; rfl)) (Takes.of_laid hk hord tyS (by rw [Y.stackType]; exact fits_refV_array _ u0)) (Takes.of_laid hk hord tyP (by rw [Y.suppType]; exact fits_refV_object _ sen))
    (Takes.of_laid hk hord tyM (by rw [Y.msgType]; exact fits_refV_object _ ⟨msg, hmsg⟩)) Y.objLocals hskip htr [] hd6
    (by simp only [List.length_cons, hlen2]; omega) (by simp only [List.length_cons, hlen2]; exact hRlocals)
  obtain ⟨hwalk, hrun, hended, hWU, hsame⟩ := X₂.athrowLeaves hexec (g := { g with stack := .ref a :: rest, pc := g.pc + 3 }) hg hlocked hentered hout (a := a) (rest := rest) rfl hd9
  have hlt : a < ((W.setVm vm₁).setVm vm₂).heap.size := (Array.getElem?_eq_some_iff.mp hcell).1
  have hU := heapAt_setCell_self (s := (W.setVm vm₁).setVm vm₂) (plainBareV T.toThrowableT (freshCell P1.m.cls kX) a u0 sen msg) hlt
  refine ⟨_, st1 _ (fun acts => ?_), hrun, hended, hWU, hsame.weaken (fun y hy hlt' => ?_) (Nat.le_refl _) (Nat.le_refl _), _, hU, rfl, hfound⟩
  · rw [doInvoke_state]
    exact st2 _ hwalk
  · rcases List.mem_append.mp hy with h1 | h1
    · exact h1
    · exfalso
      have hb : y.base = a := by
        simp only [List.mem_cons, List.not_mem_nil, or_false] at h1
        rcases h1 with rfl | rfl | rfl | rfl | rfl <;> rfl
      rw [hb] at hlt'
      exact Nat.not_lt.mpr hnew hlt'
theorem gAt5_ok : ∀ w ∈ gAt5.filter vx_no, w ∈ lwg ∨ w ∈ gBad := by decide +kernel
theorem gAt5_ot : ∀ w ∈ gAt5.filter vx_no, vx_ot w = true := by decide +kernel
theorem gAt5_k : Cond.classLink RX9 290 gNE ∈ lwg := gq 1038 (by decide +kernel) rfl
theorem gAt5_i : Cond.initialized gNE ∈ lwg := gq 83 (by decide +kernel) rfl
set_option maxHeartbeats 4000000 in
theorem g_throw5 {l : Launch} {Γ : gG} {ad : Nat → Nat} {N : Nat} {cc : ByteArray} {nL : Nat} {rt : Option FieldType} {p : Program} {e : Env} {R : Room} {s : State} {m : MethodId} {args : Array Value} {below : List Frame} {meth : Method} {c : Code} {H : Heap} {locs : List Loc} {cells slots pc q : Nat} {ls : Array Slot} {rest : List Value} {σ : gSt} {Qc : Array Value → State → Outcome → State → Prop} {is mc ms : Nat} {text : String} (hl0 : l.stackTraces = false) (X0 : gX celC Γ ad N RX9 cc nL rt p s m args meth c) (S : gS celC Γ ad N σ s H locs) (hT0 : ∀ x ∈ c.exceptionTable.toList, False) (hls : ls.size = nL) (hst : (RX9, is, text) ∈ gStr)
    (d0 : decode cc pc = .ok (.new 290, 3)) (d3 : decode cc (pc + 3) = .ok (.dup, 1)) (d4 : (decode cc (pc + 4) = .ok (.ldc is, 2) ∧ q = pc + 6) ∨ (decode cc (pc + 4) = .ok (.ldc_w is, 3) ∧ q = pc + 7)) (d6 : decode cc q = .ok (.invokespecial 292, 3)) (d9 : decode cc (q + 3) = .ok (.athrow, 1))
    (hRf : gNms.length + 3 < R.frames) (hRl : (rest.map fun v => v.category).sum + (13 * (gNms.length + 1) + 43) ≤ R.locals) (hRc : cells + 1 ≤ R.cells) (hRs : slots + 6 ≤ R.slots) (hc : cells + 1 ≤ mc) (hs : slots + 6 ≤ ms) :
    W p l e R s m args below meth c H locs cells slots (vx_MQ below Qc (gXc Γ ad N 5 σ s.heap.size) args s mc ms (gA ad N s.heap.size)) (F0 m pc ls rest) := by
  obtain ⟨sa, hsa⟩ := X0.F.2.2.2.1 _ hst
  have hexec := X0.1
  have hb := X0.2.1
  have hx : ∀ t : State, s.vm.Alike t.vm → H.size ≤ t.heap.size → (∀ q : Nat, q < H.size → t.heap[q]? = H[q]?) → gXc Γ ad N 5 σ s.heap.size gNE s t := fun t _ hz hq =>
    ⟨(), by decide, ⟨rfl, S.1.kept (fun k q hk => hq _ (S.1 k q hk).lt)⟩, Nat.le_trans S.2.1 hz, fun q h1 h2 => (hq q (Nat.lt_of_lt_of_le h1 S.2.1)).trans (S.2.2.1 q h1 h2)⟩
  intro T hT X
  have htr : e.platform.stackTraces = false := (show e.platform.stackTraces = l.stackTraces by rw [X.admits.platform]).trans hl0
  have Y := vx_rebase X (R' := { frames := R.frames, locals := R.locals, cells := 1, slots := 6 }) (Nat.le_refl _) (Nat.le_refl _) hRc hRs
  obtain ⟨s', hA⟩ : ∃ z, z = (T.setVm s.vm).setFrames (.invoking m args :: below) := ⟨_, rfl⟩
  rw [← hA] at Y
  have hvm : s'.vm = s.vm := by rw [hA]; rfl
  have hhp : s'.heap = H := by rw [hA]; exact hT
  have hW0 : s.WarmedH s'.vm := by rw [hvm]; exact State.WarmedH.refl s
  have hat' : ∀ w ∈ gAt5.filter vx_no, w.before args s' = true := fun w hw => vx_ot_at hW0 hvm.symm (gAt5_ot w hw) ((gAt5_ok w hw).elim (X0.w w) (fun h => va_Nw.use (gBad_on h) (X0.F.1 w h)))
  have hk' : (Cond.classLink RX9 290 gNE).before args s' = true := vx_ot_at hW0 hvm.symm (by decide +kernel) (X0.w _ gAt5_k)
  have hini' : (Cond.initialized gNE).before args s' = true := vx_ot_at hW0 hvm.symm (by decide +kernel) (X0.w _ gAt5_i)
  have hU' : vx_Zq Bundle.tN "UNASSIGNED_STACK" Bundle.steD (gA ad N s.heap.size) s' s'.heap := by rw [hhp]; exact vx_Zq.moved hW0.alike (X0.F.2.1.kept S.2.2.1)
  have hN' : vx_Zq Bundle.tN "SUPPRESSED_SENTINEL" Bundle.listD (gA ad N s.heap.size) s' s'.heap := by rw [hhp]; exact vx_Zq.moved hW0.alike (X0.F.2.2.1.kept S.2.2.1)
  have h : ∀ w ∈ gAt5, w.before args s' = true := vx_own hat' (vx_isRefq hU'.1) (vx_isRefq hN'.1) hU'.2.word hN'.2.word
  have hown' : s'.vm.findClass RX9 = some m.cls := by rw [hvm]; exact X0.ow
  have hins : (Cond.instantiable gNE 6).before args s' = true := h _ (by simp [gAt5])
  obtain ⟨vm₁, cX, kX, hfX, hkX, -, -, X₁, st1⟩ := Y.newCold hexec (own := RX9) (C := gNE) (index := 290) (n := 6) hown' hk' hins hini'
    (g := F0 m pc ls rest) rfl (by rw [hb]; exact d0) (Nat.le_refl _) (Nat.le_refl _)
  generalize hT1 : (T.setVm vm₁).pushCell { cls := cX, slots := kX.instanceTypes.map defaultValue, vm := .none } = T1 at X₁ st1
  have hcat : (Value.ref T.heap.size).category = 1 := rfl
  have hcellA : T1.heap[T.heap.size]? = some (freshCell cX kX) := by rw [← hT1]; exact State.heap_pushCell_size _ _
  have d3' : decode c.code (pc + 3) = .ok (.dup, 1) := by rw [hb]; exact d3
  have hstr' : vk_R RX9 is text sa s' := vk_R.warm hW0 hsa
  have hloc : 2 * 0 + (1 + (rest.map fun v => v.category).sum) + (13 * (2 + 1) + 42) ≤ R.locals := by
    have h2 : gNms.length = 2 := rfl
    omega
  obtain ⟨U, hsteps, hrun, hend, hW, hsame, ce, hce, hcev, hcec⟩ := g_ctor5 X₁ hexec htr hown' h (fun x hx => nomatch hx) hfX hkX hcellA (by rw [hhp, hT]; exact Nat.le_refl _) (msg := .ref sa) rfl
    (g := { method := m, pc := q, locals := ls, stack := .ref sa :: .ref T.heap.size :: .ref T.heap.size :: rest, locked := none }) rfl (hls.trans X0.ml.symm) rfl rfl (rest := rest) rfl
    (by rw [hb]; exact d6) (by rw [hb]; exact d9) (fun z hz => (hT0 z hz).elim) hRf (by simp only [List.map_cons, List.sum_cons, hcat]; exact hloc) X0.lk
  obtain ⟨f1, f2⟩ := vx_frame hsame
  rw [hhp] at f1 f2
  have hWs : s.WarmedH U.vm := State.WarmedH.trans hW0 hW
  have hcl : s.vm.findClass gNE = some ce.cls := by
    rw [hvm] at hcec
    exact hcec
  have hall : s.sameButNew ({ U with vm := s.vm } : State) locs mc ms := by
    subst hA
    obtain ⟨e1, e2⟩ := hsame
    rw [State.setFrames_setFrames] at e1
    have h2 : (T.setVm s.vm).sameButNew ({ U with vm := s.vm } : State) [] (0 + 1) (0 + 6) := ⟨e1, e2⟩
    have h3 := X.same.trans h2
    rw [List.append_nil] at h3
    exact h3.mono hc hs
  refine ⟨U, ?_, .threw T.heap.size, hrun, hend, Or.inr ⟨T.heap.size, rfl, gNE, ce, locs, hx U hWs.alike f1 (fun q hq => f2 q hq (fun z hz => nomatch hz)), hce, hcev, hcl, hWs, hall, S.2.2.2⟩⟩
  refine st1 _ ?_
  show Steps p.tables e below (T1.setTop { method := m, pc := pc + 3, locals := ls, stack := .ref T.heap.size :: rest, locked := none }) _
  jvm_step X₁.here [X₁.here.top, hexec, d3', Value.category]
  rcases d4 with ⟨d4, rfl⟩ | ⟨d4, rfl⟩
  · exact X₁.ldcString hexec (own := RX9) (text := text) (index := is) (a := sa) hown' hstr'.1 hstr'.2
      (g := { method := m, pc := pc + 4, locals := ls, stack := .ref T.heap.size :: .ref T.heap.size :: rest, locked := none }) rfl (by rw [hb]; exact d4) _ hsteps
  · exact X₁.ldcStringW hexec (own := RX9) (text := text) (index := is) (a := sa) hown' hstr'.1 hstr'.2
      (g := { method := m, pc := pc + 4, locals := ls, stack := .ref T.heap.size :: .ref T.heap.size :: rest, locked := none }) rfl (by rw [hb]; exact d4) _ hsteps
theorem g_throwX5 {l : Launch} {Γ : gG} {ad : Nat → Nat} {N : Nat} {cc : ByteArray} {nL : Nat} {rt : Option FieldType} {p : Program} {e : Env} {R : Room} {s : State} {m : MethodId} {args : Array Value} {below : List Frame} {meth : Method} {c : Code} {H : Heap} {locs : List Loc} {cells slots pc : Nat} {ls : Array Slot} {rest : List Value} {σ : gSt} {Qc : Array Value → State → Outcome → State → Prop} {is mc ms : Nat} {text : String} (hl0 : l.stackTraces = false) (X : gX celC Γ ad N RX9 cc nL rt p s m args meth c) (S : gS celC Γ ad N σ s H locs) (hT : ∀ x ∈ c.exceptionTable.toList, False) (hls : ls.size = nL) (hst : (RX9, is, text) ∈ gStr)
    (d0 : decode cc pc = .ok (.new 290, 3)) (d3 : decode cc (pc + 3) = .ok (.dup, 1)) (d4 : decode cc (pc + 4) = .ok (.ldc is, 2)) (d6 : decode cc (pc + 6) = .ok (.invokespecial 292, 3)) (d9 : decode cc (pc + 9) = .ok (.athrow, 1))
    (hRf : gNms.length + 3 < R.frames) (hRl : (rest.map fun v => v.category).sum + (13 * (gNms.length + 1) + 43) ≤ R.locals) (hRc : cells + 1 ≤ R.cells) (hRs : slots + 6 ≤ R.slots) (hc : cells + 1 ≤ mc) (hs : slots + 6 ≤ ms) :
    W p l e R s m args below meth c H locs cells slots (vx_MQ below Qc (gXc Γ ad N 5 σ s.heap.size) args s mc ms (gA ad N s.heap.size)) (F0 m pc ls rest) :=
  g_throw5 (q := pc + 6) hl0 X S hT hls hst d0 d3 (Or.inl ⟨d4, rfl⟩) d6 d9 hRf hRl hRc hRs hc hs

theorem g_throwXW5 {l : Launch} {Γ : gG} {ad : Nat → Nat} {N : Nat} {cc : ByteArray} {nL : Nat} {rt : Option FieldType} {p : Program} {e : Env} {R : Room} {s : State} {m : MethodId} {args : Array Value} {below : List Frame} {meth : Method} {c : Code} {H : Heap} {locs : List Loc} {cells slots pc : Nat} {ls : Array Slot} {rest : List Value} {σ : gSt} {Qc : Array Value → State → Outcome → State → Prop} {is mc ms : Nat} {text : String} (hl0 : l.stackTraces = false) (X : gX celC Γ ad N RX9 cc nL rt p s m args meth c) (S : gS celC Γ ad N σ s H locs) (hT : ∀ x ∈ c.exceptionTable.toList, False) (hls : ls.size = nL) (hst : (RX9, is, text) ∈ gStr)
    (d0 : decode cc pc = .ok (.new 290, 3)) (d3 : decode cc (pc + 3) = .ok (.dup, 1)) (d4 : decode cc (pc + 4) = .ok (.ldc_w is, 3)) (d6 : decode cc (pc + 7) = .ok (.invokespecial 292, 3)) (d9 : decode cc (pc + 10) = .ok (.athrow, 1))
    (hRf : gNms.length + 3 < R.frames) (hRl : (rest.map fun v => v.category).sum + (13 * (gNms.length + 1) + 43) ≤ R.locals) (hRc : cells + 1 ≤ R.cells) (hRs : slots + 6 ≤ R.slots) (hc : cells + 1 ≤ mc) (hs : slots + 6 ≤ ms) :
    W p l e R s m args below meth c H locs cells slots (vx_MQ below Qc (gXc Γ ad N 5 σ s.heap.size) args s mc ms (gA ad N s.heap.size)) (F0 m pc ls rest) :=
  g_throw5 (q := pc + 7) hl0 X S hT hls hst d0 d3 (Or.inr ⟨d4, rfl⟩) d6 d9 hRf hRl hRc hRs hc hs
end
section
/-! ===== making: a block of cells at the heap's end, at addresses that are known ===== -/
def gB (Γ : gG) (b n : Nat) (cs : List va_E) (s : State) (H : Heap) (locs : List Loc) : Prop :=
  cs.length = n ∧ H.size = b + n ∧ (∀ i e, cs[i]? = some e → va_at Γ.1 gCl (b + i, e) H) ∧ va_S (fun q => b ≤ q) s.heap H locs
theorem gB.set {Γ : gG} {b n i : Nat} {cs cs' : List va_E} {s : State} {H H' : Heap} {locs locs' : List Loc} {e' : va_E} (B : gB Γ b n cs s H locs) (hi : i < cs.length) (hcs : cs.set i e' = cs') (z : H'.size = H.size) (hn : va_at Γ.1 gCl (b + i, e') H') (ho : ∀ q, q ≠ b + i → H'[q]? = H[q]?) (hl : ∀ l ∈ locs', l ∈ locs ∨ l.base = b + i) : gB Γ b n cs' s H' locs' := by
  obtain ⟨h1, h2, h3, h4⟩ := B
  subst hcs
  refine ⟨by rw [List.length_set]; exact h1, z.trans h2, fun j e hj => ?_, by rw [z]; exact h4.1, fun q hq hb => ?_, fun l hl' => ?_⟩
  · by_cases hij : j = i
    · subst hij
      rw [List.getElem?_set_self hi] at hj
      cases hj
      exact hn
    · rw [List.getElem?_set_ne (Ne.symm hij)] at hj
      exact (h3 j e hj).kept (ho _ (by show b + j ≠ b + i; omega))
  · rw [ho q (by show q ≠ b + i; omega)]; exact h4.2.1 q hq hb
  · rcases hl l hl' with h | h
    · exact h4.2.2 l h
    · show b ≤ l.base
      rw [h]; exact Nat.le_add_right _ _
theorem gB.push {Γ : gG} {b n : Nat} {cs cs' : List va_E} {s : State} {H H' : Heap} {locs : List Loc} {e : va_E} (B : gB Γ b n cs s H locs) (hcs : cs ++ [e] = cs') (z : H'.size = H.size + 1) (hn : va_at Γ.1 gCl (b + n, e) H') (ho : ∀ q, q < H.size → H'[q]? = H[q]?) : gB Γ b (n + 1) cs' s H' locs := by
  obtain ⟨h1, h2, h3, h4⟩ := B
  subst hcs
  refine ⟨by rw [List.length_append, h1]; rfl, by omega, fun j e' hj => ?_, by have := h4.1; omega, fun q hq hb => ?_, h4.2.2⟩
  · by_cases hij : j < cs.length
    · rw [List.getElem?_append_left hij] at hj
      exact (h3 j e' hj).kept (ho _ (by show b + j < _; omega))
    · rw [List.getElem?_append_right (by omega)] at hj
      have hz : j - cs.length < 1 := (List.getElem?_eq_some_iff.mp hj).1
      rw [show j - cs.length = 0 by omega] at hj
      cases hj
      rw [show j = n by omega]
      exact hn
  · rw [ho q (Nat.lt_of_lt_of_le hq h4.1)]; exact h4.2.1 q hq hb
theorem gB.one {Γ : gG} {b n i : Nat} {cs : List va_E} {s : State} {H : Heap} {locs : List Loc} {e : va_E} (B : gB Γ b n cs s H locs) (hi : cs[i]? = some e) : va_P Γ.1 gCl [(b + i, e)] H := by
  intro k q hk
  have hz : k < 1 := (List.getElem?_eq_some_iff.mp hk).1
  rw [show k = 0 by omega] at hk
  cases hk
  exact B.2.2.1 i e hi
section MAKE
variable {l : Launch} {cel : gCell} {Γ : gG} {ad : Nat → Nat} {own : String} {cc : ByteArray} {nL : Nat} {rt : Option FieldType} {p : Program} {e : Env} {R : Room} {s : State} {m : MethodId} {args : Array Value} {below : List Frame} {meth : Method} {c : Code} {H : Heap} {locs : List Loc} {cells slots : Nat} {Q : State → Prop} {pc : Nat} {ls : Array Slot} {rest st0 : List Value} {b n : Nat} {cs cs' : List va_E}
theorem gz_get (X : gX cel Γ ad 0 own cc nL rt p s m args meth c) (B : gB Γ b n cs s H locs) {C : String} {T : u_T} {N ci index : Nat} {fs : List Value} (i : Nat) (hi : cs[i]? = some (.inr (ci, fs))) (hc : gCl[ci]? = some (C, T, N)) (hin : ∀ w ∈ u_ws C T N, w ∈ lwg) (j : Nat) (hj : j < N) (hlink : Cond.fieldLink own index (T j).1 (T j).2.1 (T j).2.2.1 ∈ lwg) {v : Value} (hv : fs[j]? = some v) (hdg : decode cc pc = .ok (.getfield index, 3))
    (kk : W p l e R s m args below meth c H locs cells slots Q (F0 m (pc + 3) ls (v :: rest))) : W p l e R s m args below meth c H locs cells slots Q (F0 m pc ls (.ref (b + i) :: rest)) :=
  va_get (D := Γ.1) (tys := gT Γ) X.1 X.2.1 X.w hin X.ow X.K (B.one hi) 0 rfl hc j hj (X.w _ hlink) (fun _ h => h) hv hdg kk
theorem gz_put (X : gX cel Γ ad 0 own cc nL rt p s m args meth c) (B : gB Γ b n cs s H locs) {C : String} {T : u_T} {N ci index : Nat} {fs : List Value} (i : Nat) (hi : cs[i]? = some (.inr (ci, fs))) (hc : gCl[ci]? = some (C, T, N)) (hin : ∀ w ∈ u_ws C T N, w ∈ lwg) (ty0 : Nat → FieldType) (hty : ∀ k, k < N → parseFieldDescriptor (T k).2.2.1 = some (ty0 k)) (hnm : ∀ a, a < N → ∀ b, b < N → a ≠ b → (T a).2.1 ≠ (T b).2.1) (j : Nat) (hj : j < N) (hlink : Cond.fieldLink own index (T j).1 (T j).2.1 (T j).2.2.1 ∈ lwg) (hfin : (T j).2.2.2 = false ∨ ((T j).2.2.2 = true ∧ meth.name = "<init>" ∧ (T j).1 = own)) {v : Value} (hn : narrow (ty0 j) v = v) (hfit : fits (ty0 j) v = true) (hl : j < fs.length) (hcs : cs.set i (.inr (ci, fs.set j v)) = cs') (hdg : decode cc pc = .ok (.putfield index, 3))
    (kk : ∀ (H : Heap) (locs : List Loc), gB Γ b n cs' s H locs → W p l e R s m args below meth c H locs cells slots Q (F0 m (pc + 3) ls rest)) : W p l e R s m args below meth c H locs cells slots Q (F0 m pc ls (v :: .ref (b + i) :: rest)) := by
  have hap := va_apart (own := own) X.w hin ty0 hty hnm X.K hc
  obtain ⟨r, h1, cell, q1, q2, q3, q4⟩ := B.2.2.1 i _ hi
  have hr : r = (C, T, N) := Option.some.inj (h1.symm.trans hc)
  subst hr
  obtain ⟨hS, hfc, kC, hkC, hkind⟩ := X.K.1 ci _ hc
  obtain ⟨cf, kf, fi, f, hf, hsl⟩ := hS j hj
  have hst := (u_facts hfc hkC (u_lays X.w hin hj) hf).1
  have hil : i < cs.length := (List.getElem?_eq_some_iff.mp hi).1
  have fin : ∀ (H' : Heap), H'[b + i]? = some (cell.setSlot f.slot v) → H'.size = H.size → (∀ q, q ≠ b + i → H'[q]? = H[q]?) → W p l e R s m args below meth c H' (locs ++ [⟨b + i, f.slot⟩]) cells slots Q (F0 m (pc + 3) ls rest) := fun H' e1 e2 e3 => by
    rw [hsl] at e1
    refine kk H' _ (B.set hil hcs e2 ⟨_, hc, t_OB.to (V := updV (vp_V fs) j v) ⟨_, e1, q2, q3, t_set q4 hap hj v⟩ (fun k _ => vp_updV_set hl v k)⟩ e3 (fun z hz => ?_))
    rcases List.mem_append.mp hz with h | h
    · exact Or.inl h
    · right; rw [List.mem_singleton.mp h]
  rcases hfin with hfin | ⟨hfin, hname, hdecl⟩
  · have hlay := X.w _ (hin _ (u_in_lay hj))
    unfold u_lay at hlay
    rw [if_neg (by rw [hfin]; decide)] at hlay
    have h6 := u_store hfc hkC hkind hlay hf (hty j hj) hn hfit
    exact W.putK X.1 X.2.1 (f := f) ⟨X.ow, X.w _ hlink, ⟨_, _, _, hf⟩, hst⟩ (by rw [q2]; exact h6) q1 q3 (by rw [hsl]; exact k2_hasslot (q4 j hj)) rfl rfl hdg fin
  · have hlay := X.w _ (hin _ (u_in_lay hj))
    unfold u_lay at hlay
    rw [if_pos hfin] at hlay
    have hcf : m.cls = cf := by
      obtain ⟨_, _, c', _, _, _, -, -, hf', -, -, -, hown2, -⟩ := Cond.laysFinal_spec hlay
      have e1 : c' = cf := by have := hf.symm.trans hf'; simp at this; exact this.1.symm
      rw [hdecl] at hown2
      rw [← e1]; exact Option.some.inj (X.ow.symm.trans hown2)
    have h6 := u_fits hfc hkC hkind (Or.inr hlay) hf (hty j hj) hn hfit
    exact W.putFinK X.1 X.2.1 X.ow (X.w _ hlink) hf hst hcf hname (by rw [q2]; exact h6) q1 q3 (by rw [hsl]; exact k2_hasslot (q4 j hj)) rfl rfl hdg fin
theorem gz_newi (X : gX cel Γ ad 0 own cc nL rt p s m args meth c) (B : gB Γ b n cs s H locs) {x : Int32} {N' : Nat} (harr : Cond.arrayClass .int ∈ lwg) (hx : ¬ x < 0) (hN : x.toNatClampNeg = N') (hbytes : N' * 4 ≤ 536870912) (hcells : cells + 1 ≤ R.cells) (hslots : slots + N' ≤ R.slots) (hcs : cs ++ [.inl (Γ.2.1, N', .inl (fun _ => 0))] = cs') (hdg : decode cc pc = .ok (.newarray .int, 2))
    (kk : ∀ (H : Heap) (locs : List Loc), gB Γ b (n + 1) cs' s H locs → W p l e R s m args below meth c H locs (cells + 1) (slots + N') Q (F0 m (pc + 2) ls (.ref (b + n) :: rest))) : W p l e R s m args below meth c H locs cells slots Q (F0 m pc ls (.int x :: rest)) := by
  refine va_newaK (atype := .int) X.1 X.2.1 (X.w _ harr) rfl hdg rfl hx hN hbytes hcells hslots (h := b + n) B.2.1 fun H1 cA e1 z1 o1 hAr hNm => ?_
  have hcA : cA = Γ.2.1 := Option.some.inj (hNm.symm.trans ((X.K.2 0 _ rfl).2))
  subst hcA
  refine kk H1 locs (B.push hcs (by rw [z1, B.2.1]) ?_ (fun q hq => o1 q (by rw [← B.2.1]; exact hq)))
  exact e1
theorem gz_new (X : gX cel Γ ad 0 own cc nL rt p s m args meth c) (B : gB Γ b n cs s H locs) {C : String} {T : u_T} {N ci index : Nat} (hc : gCl[ci]? = some (C, T, N)) (hin : ∀ w ∈ u_ws C T N, w ∈ lwg) (ty : Nat → FieldType) (hty : ∀ k, k < N → parseFieldDescriptor (T k).2.2.1 = some (ty k)) (hcl : Cond.classLink own index C ∈ lwg) (hinst : Cond.instantiable C N ∈ lwg) (hini : Cond.initialized C ∈ lwg) {fs : List Value} (hfs : ∀ j, j < N → defaultValue (ty j) = vp_V fs j) (hcells : cells + 1 ≤ R.cells) (hslots : slots + N ≤ R.slots) (hcs : cs ++ [.inr (ci, fs)] = cs') (hdg : decode cc pc = .ok (.new index, 3))
    (kk : ∀ (H : Heap) (locs : List Loc), gB Γ b (n + 1) cs' s H locs → W p l e R s m args below meth c H locs (cells + 1) (slots + N) Q (F0 m (pc + 3) ls (.ref (b + n) :: rest))) : W p l e R s m args below meth c H locs cells slots Q (F0 m pc ls rest) := by
  have hKn := X.K.1 ci _ hc
  refine W.newcK X.1 X.2.1 X.ow (X.w _ hcl) (X.w _ hinst) (X.w _ hini) rfl hdg hcells hslots hKn.2.1 (h := b + n) B.2.1 fun H1 kC hkC e1 z1 o1 => ?_
  exact kk H1 locs (B.push hcs (by rw [z1, B.2.1]) ⟨_, hc, (u_born ty X.w hin hKn hkC e1 hty).to hfs⟩ (fun q hq => o1 q (by rw [← B.2.1]; exact hq)))
theorem gz_newq (X : gX cel Γ ad 0 own cc nL rt p s m args meth c) (B : gB Γ b n cs s H locs) {C : String} {index : Nat} {x : Int32} {N' : Nat} (hcl : Cond.classLink own index C ∈ lwg) (hover : (Cond.arrayOver (.object C)).before args s = true) (hty : (gT Γ)[1]? = some (Γ.2.2.1, .object C)) (hx : ¬ x < 0) (hN : x.toNatClampNeg = N') (hbytes : N' * 4 ≤ 536870912) (hcells : cells + 1 ≤ R.cells) (hslots : slots + N' ≤ R.slots) (hcs : cs ++ [.inl (Γ.2.2.1, N', .inr (.inr (.inr (.inr (fun _ => none)))))] = cs') (hdg : decode cc pc = .ok (.anewarray index, 3))
    (kk : ∀ (H : Heap) (locs : List Loc), gB Γ b (n + 1) cs' s H locs → W p l e R s m args below meth c H locs (cells + 1) (slots + N') Q (F0 m (pc + 3) ls (.ref (b + n) :: rest))) : W p l e R s m args below meth c H locs cells slots Q (F0 m pc ls (.int x :: rest)) := by
  subst hN
  refine W.anew X.1 X.2.1 X.ow (X.w _ hcl) hover rfl hdg rfl hx hbytes hcells hslots fun cA kA comp f1 f2 f3 f4 => ?_
  have hcA : cA = Γ.2.2.1 := by
    obtain ⟨kA', comp', -, -, -, g4⟩ := (X.K.2 1 _ hty).2
    exact Option.some.inj (f1.symm.trans g4)
  subst hcA
  have hsz : H.size = b + n := B.2.1
  generalize hH1 : H.push ({ cls := Γ.2.2.1, slots := Array.replicate x.toNatClampNeg .null, vm := .none } : Cell) = H1
  have z1 : H1.size = H.size + 1 := by rw [← hH1, Array.size_push]
  have e1 : H1[H.size]? = some (arrV Γ.2.2.1 x.toNatClampNeg (fun _ => .null)) := by rw [← hH1, Array.getElem?_push_size, ← arrV_new]
  have o1 : ∀ q : Nat, q < H.size → H1[q]? = H[q]? := fun q hq => by rw [← hH1, Array.getElem?_push, if_neg (Nat.ne_of_lt hq)]
  rw [hsz]
  refine kk H1 locs (B.push hcs z1 ?_ o1)
  show H1[b + n]? = some (vp_cell _ _)
  rw [vp_cell_q, ← hsz]
  exact e1
theorem gz_iast (X : gX cel Γ ad 0 own cc nL rt p s m args meth c) (B : gB Γ b n cs s H locs) {N' : Nat} {f : Nat → Int32} (i : Nat) (hi : cs[i]? = some (.inl (Γ.2.1, N', .inl f))) {k x : Int32} (hin : vp_in k N') (hcs : cs.set i (.inl (Γ.2.1, N', .inl (upd f k.toNatClampNeg x))) = cs') (hdg : decode cc pc = .ok (.iastore, 1))
    (kk : ∀ (H : Heap) (locs : List Loc), gB Γ b n cs' s H locs → W p l e R s m args below meth c H locs cells slots Q (F0 m (pc + 1) ls rest)) : W p l e R s m args below meth c H locs cells slots Q (F0 m pc ls (.int x :: .int k :: .ref (b + i) :: rest)) := by
  have hil : i < cs.length := (List.getElem?_eq_some_iff.mp hi).1
  refine W.iast X.1 X.2.1 (B.2.2.1 i _ hi) ((X.K.2 0 _ rfl).1 N' (fun j => .int (f j))) (fun q => by cases q) (by show ¬ (k < 0 ∨ (arrV _ _ _).slots.size ≤ _); rw [arrV_size]; exact hin) rfl rfl hdg fun H1 e z oq => ?_
  refine kk H1 _ (B.set hil hcs z ?_ oq (fun y hy => ?_))
  · show H1[b + i]? = some (vp_cell _ _)
    rw [e]
    rw [vp_cell_i, vp_cell_i, arrV_store]
    congr 2
    funext q
    by_cases hq : q = k.toNatClampNeg
    · subst hq
      simp [updV, upd]
    · simp [updV, upd, hq]
  · rcases List.mem_append.mp hy with h | h
    · exact Or.inl h
    · right; rw [List.mem_singleton.mp h]
theorem gz_aast (X : gX cel Γ ad 0 own cc nL rt p s m args meth c) (B : gB Γ b n cs s H locs) {N' ci v : Nat} {r : vw_C} {vs : List Value} {f : Nat → Option Nat} (i iv : Nat) (hi : cs[i]? = some (.inl (Γ.2.2.1, N', .inr (.inr (.inr (.inr f)))))) (hty : (gT Γ)[1]? = some (Γ.2.2.1, .object r.1)) (hv : cs[iv]? = some (.inr (ci, vs))) (hva : b + iv = v) (hc : gCl[ci]? = some r) {k : Int32} (hin : vp_in k N') (hcs : cs.set i (.inl (Γ.2.2.1, N', .inr (.inr (.inr (.inr (va_up f k.toNatClampNeg (some v))))))) = cs') (hdg : decode cc pc = .ok (.aastore, 1))
    (kk : ∀ (H : Heap) (locs : List Loc), gB Γ b n cs' s H locs → W p l e R s m args below meth c H locs cells slots Q (F0 m (pc + 1) ls rest)) : W p l e R s m args below meth c H locs cells slots Q (F0 m pc ls (.ref v :: .int k :: .ref (b + i) :: rest)) := by
  subst hva
  have hil : i < cs.length := (List.getElem?_eq_some_iff.mp hi).1
  have hlt : k.toNatClampNeg < N' := Nat.not_le.mp fun q => hin (Or.inr q)
  have h0 : ¬ k < 0 := fun q => hin (Or.inl q)
  obtain ⟨r', hr', cellV, g1, g2, g3, -⟩ := B.2.2.1 iv _ hv
  have hcls := (X.K.1 ci r hc).2
  obtain ⟨kA, comp, k1, k2, k3, -⟩ := (X.K.2 1 _ hty).2
  have hcomp : comp = Γ.1.1 ci := Option.some.inj (k3.symm.trans hcls.1)
  subst hcomp
  obtain ⟨kC, hkC, -⟩ := hcls.2
  refine W.aast X.1 X.2.1 (B.2.2.1 i _ hi) (fun q h => by cases h) (fun h => by cases h) k1 k2 rfl hkC ⟨h0, by show _ < (arrV _ _ _).slots.size; rw [arrV_size]; exact hlt⟩ g1 (fun q h => by rw [g3] at h; cases h) (by rw [g2]; exact hkC) (by rw [g2]; exact va_assign hcls) rfl rfl hdg fun H1 e z oq => ?_
  refine kk H1 _ (B.set hil hcs z ?_ oq (fun y hy => ?_))
  · show H1[b + i]? = some (vp_cell _ _)
    rw [e]
    rw [vp_cell_q, vp_cell_q, arrV_store]
    congr 2
    funext q
    by_cases hq : q = k.toNatClampNeg
    · subst hq
      simp [updV, va_up, va_rf]
    · simp [updV, va_up, hq]
  · rcases List.mem_append.mp hy with h | h
    · exact Or.inl h
    · right; rw [List.mem_singleton.mp h]
theorem gz_alenq (X : gX cel Γ ad 0 own cc nL rt p s m args meth c) (B : gB Γ b n cs s H locs) {N' : Nat} {f : Nat → Option Nat} {C : String} (i : Nat) (hi : cs[i]? = some (.inl (Γ.2.2.1, N', .inr (.inr (.inr (.inr f)))))) (hty : (gT Γ)[1]? = some (Γ.2.2.1, .object C)) {v : Int32} (hv : Int32.ofNat N' = v) (hdg : decode cc pc = .ok (.arraylength, 1))
    (kk : W p l e R s m args below meth c H locs cells slots Q (F0 m (pc + 1) ls (.int v :: rest))) : W p l e R s m args below meth c H locs cells slots Q (F0 m pc ls (.ref (b + i) :: rest)) :=
  va_alen (D := Γ.1) (tys := gT Γ) (ty := .object C) X.1 X.2.1 X.K (B.one hi) 0 1 rfl hty hv hdg kk
/-- a static table's six numbers, copied whole into a row of six -/
theorem gz_copy6 (X : gX cel Γ ad 0 own cc nL rt p s m args meth c) (B : gB Γ b n cs s H locs) {idx t : Nat} {f : Nat → Int32} (hls : ls.size = nL) (hlink : Cond.methodLink own idx arraycopyName ∈ lwg) (hnat : Cond.native arraycopyName ∈ lwg) (hstat : Cond.static arraycopyName ∈ lwg) (hini : Cond.initialized "java/lang/System" ∈ lwg) (hT : va_T .int t 6 (fun j => .int (f j)) (fun q => b ≤ q) s s.heap)
    (i : Nat) {g : Nat → Int32} (hi : cs[i]? = some (.inl (Γ.2.1, 6, .inl g))) (hcs : cs.set i (.inl (Γ.2.1, 6, .inl (va_cpy f g 0 0 6))) = cs') (hframes : 1 ≤ R.frames) (hlocals : (rest.map fun v => v.category).sum + (nativeFrameWords "java/lang/System" "arraycopy" 5 + 11) ≤ R.locals) (hdg : decode cc pc = .ok (.invokestatic idx, 3))
    (kk : ∀ (H : Heap) (locs : List Loc), gB Γ b n cs' s H locs → W p l e R s m args below meth c H locs cells slots Q (F0 m (pc + 3) ls rest)) : W p l e R s m args below meth c H locs cells slots Q (F0 m pc ls (.int 6 :: .int 0 :: .ref (b + i) :: .int 0 :: .ref t :: rest)) := by
  intro T hT2 X2
  have hil : i < cs.length := (List.getElem?_eq_some_iff.mp hi).1
  obtain ⟨scr, hs1, hs2, hs3, hs4, hs4', hs5, hs8⟩ := hT
  have hc0 : H[t]? = some scr := by rw [B.2.2.2.2.1 t (Array.getElem?_eq_some_iff.mp hs1).1 hs8]; exact hs1
  have hc1 : H[b + i]? = some (vp_cell Γ.2.1 (6, .inl g)) := B.2.2.1 i _ hi
  obtain ⟨hs6, k0, hk0, cm0, hkk0⟩ := hs2
  obtain ⟨-, k1, hk1, cm1, hkk1⟩ := (X.K.2 0 _ rfl).1 6 (fun j => .int (g j))
  have e6 : (6 : Int32).toInt = 6 := rfl
  have e0 : (0 : Int32).toInt = 0 := rfl
  have n6 : (6 : Int32).toNatClampNeg = 6 := rfl
  have n0 : (0 : Int32).toNatClampNeg = 0 := rfl
  obtain ⟨vm', X', step⟩ := X2.arraycopy X.1 X.ow (X.w _ hlink) (X.w _ hnat) (X.w _ hstat) (X.w _ hini) (src := t) (dst := b + i) (cs := scr) (cd := vp_cell Γ.2.1 (6, .inl g)) (srcPos := 0) (destPos := 0) (n := 6) (by rw [hT2]; exact hc0) (by rw [hT2]; exact hc1)
    hs6 (fun _ h => by cases h) hs3 (fun h => by cases h) hk0 hk1 hkk0 hkk1 (by simp [refKind]) (by decide) (by decide) (by decide)
    (by rw [e0, e6]; omega)
    (by rw [e0, e6]; show ¬ _ > ((arrV Γ.2.1 6 (fun j => .int (g j))).slots.size : Int); rw [arrV_size]; omega)
    (fun vm₁ _ i hi => by
      rw [n6] at hi
      have e : scr.slots.getD ((0 : Int32).toNatClampNeg + i) .null = .int (f i) := by
        rw [Array.getD_eq_getD_getElem?, n0, Nat.zero_add, hs5 _ hi]
        rfl
      refine ⟨?_, ?_⟩
      · rw [e]
        rfl
      · rw [e]
        exact trivial)
    (g := F0 m pc ls (.int 6 :: .int 0 :: .ref (b + i) :: .int 0 :: .ref t :: rest)) rfl (by rw [X.ml]; exact hls) (rest := rest) rfl (by rw [X.2.1]; exact hdg) hframes (by show 2 * 0 + _ + _ ≤ _; omega)
  have e1 : copied scr (vp_cell Γ.2.1 (6, .inl g)) 0 0 6 = vp_cell Γ.2.1 (6, .inl (va_cpy f g 0 0 6)) := va_copiedX (fun z => .int z) scr Γ.2.1 f g hs5 (by decide)
  rw [e1] at X' step
  have hl : b + i < H.size := (Array.getElem?_eq_some_iff.mp hc1).1
  have hheap : ((T.setVm vm').setCell (b + i) (vp_cell Γ.2.1 (6, .inl (va_cpy f g 0 0 6)))).heap = H.setIfInBounds (b + i) (vp_cell Γ.2.1 (6, .inl (va_cpy f g 0 0 6))) := by rw [← hT2]; rfl
  obtain ⟨t2, a1, b1⟩ := kk _ _ (B.set hil hcs (H' := H.setIfInBounds (b + i) (vp_cell Γ.2.1 (6, .inl (va_cpy f g 0 0 6)))) (by simp) (show (H.setIfInBounds (b + i) _)[b + i]? = some _ by simp [Array.getElem?_setIfInBounds, hl]) (fun q hq => by simp [Array.getElem?_setIfInBounds, Ne.symm hq]) (fun y hy => by
      rcases List.mem_append.mp hy with h | h
      · exact Or.inl h
      · obtain ⟨z, -, hz⟩ := List.mem_map.mp h
        right; rw [← hz])) _ hheap X'
  exact ⟨t2, step t2 a1, b1⟩
theorem gz_tab (X : gX cel Γ ad 0 own cc nL rt p s m args meth c) (B : gB Γ b n cs s H locs) {nm : String} {f : Nat → Int32} {idx : Nat} (hT : gTab nm f (fun q => b ≤ q) s s.heap) (hlink : Cond.fieldLink own idx RX9 nm "[I" ∈ lwg) (hdg : decode cc pc = .ok (.getstatic idx, 3))
    (kk : ∀ t : Nat, va_T .int t 6 (fun j => .int (f j)) (fun q => b ≤ q) s s.heap → W p l e R s m args below meth c H locs cells slots Q (F0 m (pc + 3) ls (.ref t :: rest))) : W p l e R s m args below meth c H locs cells slots Q (F0 m pc ls rest) := by
  obtain ⟨t, h1, h2⟩ := hT
  exact va_gets X.1 X.2.1 h1 B.2.2.2 X.ow (X.w _ hlink) (fun _ h => h) hdg (kk t h2)
/-! ===== calls of constructors ===== -/
def gI0 (Γ : gG) (b : Nat) (e0 : va_E) (U : State) : Prop := U.heap.size = b + 1 ∧ va_at Γ.1 gCl (b, e0) U.heap ∧ va_K Γ.1 gCl (gT Γ) U ∧ gF (fun q => b ≤ q) U U.heap
def gK0 (Γ : gG) (b n : Nat) (cs : List va_E) (t : State) : Prop := cs.length = n ∧ t.heap.size = b + n ∧ ∀ i e, cs[i]? = some e → va_at Γ.1 gCl (b + i, e) t.heap
def gMk (l : Launch) (Γ : gG) (y : MethodName) (code : ByteArray) (nL : Nat) (rm : Room) (as : List Value) (b : Nat) (e0 : va_E) (n : Nat) (cs : List va_E) (mc ms : Nat) : Prop :=
  Met l y (gwm y code nL none) rm (va_Pc (.ref b :: as) (gI0 Γ b e0)) (va_Qv (fun _ : Unit => True) (fun _ t => gK0 Γ b n cs t) (fun q => b ≤ q)) mc ms (fun q => b ≤ q)
def gCI (y : MethodName) (code : ByteArray) (nL na : Nat) : Prop :=
  (y.cls ≠ "java/lang/invoke/MethodHandle" ∧ y.cls ≠ "java/lang/invoke/VarHandle" ∧ (parseMethodDescriptor y.desc).map (fun d => d.parameters.length) = some na) ∧ Cond.code y code nL none ∈ lwg ∧ Cond.initialized y.cls ∈ lwg ∧ Cond.instanceMethod y ∈ lwg ∧ y.name = "<init>"
theorem gI0_blind {b : Nat} {e0 : va_E} {as : List Value} : FrameBlind (va_Pc as (gI0 Γ b e0)) := by
  intro a U g mk q
  obtain ⟨q0, q1, qP, qK, qF⟩ := q
  exact ⟨q0, q1, qP, va_K.moved (u := U) (U := U.calling g mk a) (Vm.Alike.refl U.vm) qK, gF.warm (s := U) (U := U.calling g mk a) (State.WarmedH.refl U) qF⟩
theorem gzOf {y : MethodName} {code : ByteArray} {rm : Room} {as : List Value} {e0 : va_E} {mc ms : Nat} (own : String) (hy : plainName y.cls = true) (hown : y.cls = own) (hnm : y.name = "<init>") (hlen : (lg_sl (.ref b :: as)).length ≤ nL)
    (body : ∀ p e s m args below meth c H locs ls, gX celC Γ (fun q => q) 0 own code nL none p s m args meth c → meth.name = "<init>" → gF (fun q => b ≤ q) s s.heap → gB Γ b 1 [e0] s H locs → lv_has ls nL (lv_args 0 (.ref b :: as)) →
      W p l e rm s m args below meth c H locs 0 0 (MQ below (va_Qv (fun _ : Unit => True) (fun _ t => gK0 Γ b n cs t) (fun q => b ≤ q)) args s mc ms (fun q => b ≤ q)) (F0 m 0 ls [])) :
    gMk l Γ y code nL rm as b e0 n cs mc ms := by
  refine Met.ofW (cc := code) (maxL := nL) (ret := none) hy rfl ?_
  intro p e s m args below meth c s₁ B hml hv
  obtain ⟨rfl, hsz, hP, hK, hF⟩ := hv
  rw [lg_entry_eq]
  have hts := atoms_spec (ws := gwm y code nL none) B.pre
  refine body p e s m _ below meth c s.heap [] _ ⟨B.exec, B.bytes, hml, hown ▸ findClass_of_methodNamed B.named, fun w hw => hts w (List.mem_cons_of_mem _ hw), B.returns, B.notSynchronized, hK, fun _ _ h => by omega, hF.narrow (fun q hq => hq.elim (fun ⟨k, h, _⟩ => by omega) (fun h => by omega))⟩ ((name_of_methodNamed B.named B.method).1.trans hnm) hF ⟨rfl, hsz, fun i e hi => ?_, va_S.rf⟩ (lv_entry _ hlen)
  have hz : i < 1 := (List.getElem?_eq_some_iff.mp hi).1
  rw [show i = 0 by omega] at hi ⊢
  cases hi
  exact hP
theorem gz_retv {mc ms : Nat} (X : gX cel Γ ad 0 own cc nL none p s m args meth c) (B : gB Γ b n cs s H locs) (hdg : decode cc pc = .ok (.return_, 1)) (hc : cells ≤ mc) (hs : slots ≤ ms) : W p l e R s m args below meth c H locs cells slots (MQ below (va_Qv (fun _ : Unit => True) (fun _ t => gK0 Γ b n cs t) (fun q => b ≤ q)) args s mc ms (fun q => b ≤ q)) (F0 m pc ls []) :=
  W.widen hc hs (W.vret X.1 X.2.1 X.r (fun t ht _ => ⟨⟨(), rfl, trivial, B.1, by rw [ht]; exact B.2.1, by rw [ht]; exact B.2.2.1⟩, B.2.2.2.F ht⟩) B.2.2.2.2.2 hdg X.lk)
theorem gz_obj (X : gX cel Γ ad 0 own cc nL rt p s m args meth c) {idx : Nat} {a : Nat} (hls : ls.size = nL) (hlink : Cond.methodLink own idx Lib.objectInit ∈ lwg) (hinst : Cond.instanceMethod Lib.objectInit ∈ lwg) (hcode : Cond.code Lib.objectInit ⟨#[0xb1]⟩ 1 none ∈ lwg) (hframes : 1 ≤ R.frames) (hlocals : (rest.map fun v => v.category).sum + 12 ≤ R.locals) (hdg : decode cc pc = .ok (.invokespecial idx, 3))
    (kk : W p l e R s m args below meth c H locs cells slots Q (F0 m (pc + 3) ls rest)) : W p l e R s m args below meth c H locs cells slots Q (F0 m pc ls (.ref a :: rest)) :=
  W.objInit X.1 X.2.1 X.ow (X.w _ hlink) (X.w _ hinst) (X.w _ hcode) rfl (hls.trans X.ml.symm) rfl hdg hframes (by show 2 * 0 + _ + 12 ≤ _; omega) kk
/-- a constructor is called on the block's last cell, which was just made -/
theorem gz_call {y : MethodName} {code : ByteArray} {n' na idx mc ms k : Nat} {rm : Room} {As : List Value} {e0 : va_E} {pre res : List va_E} (X : gX cel Γ ad 0 own cc nL rt p s m args meth c) (hF : gF (fun q => b ≤ q) s s.heap) (B : gB Γ b (n + 1) (pre ++ [e0]) s H locs)
    (hM : gMk l Γ y code n' rm As (b + n) e0 k res mc ms) (hc : gCI y code n' na) (hw : Cond.methodLink own idx y ∈ lwg) (hn : As.length = na) (hst : st0 = As.reverse ++ .ref (b + n) :: rest) (hls : ls.size = nL) (hcat : (rest.map fun v => v.category).sum ≤ 8) (hR : gRoom rm R n' cells slots mc ms) (hcs : pre ++ res = cs') (hdg : decode cc pc = .ok (.invokespecial idx, 3))
    (kk : ∀ (H : Heap) (locs : List Loc), gB Γ b (n + k) cs' s H locs → W p l e R s m args below meth c H locs (cells + mc) (slots + ms) Q (F0 m (pc + 3) ls rest)) : W p l e R s m args below meth c H locs cells slots Q (F0 m pc ls st0) := by
  have hpl : pre.length = n := by have := B.1; rw [List.length_append] at this; simpa using this
  have hlast : (pre ++ [e0])[n]? = some e0 := by rw [List.getElem?_append_right (by omega), hpl, Nat.sub_self]; rfl
  have hsz : H.size = b + n + 1 := B.2.1
  have run : va_Run p l e R s m args below meth c H locs cells slots mc ms (F0 m pc ls st0) rest ((va_Qv (fun _ : Unit => True) (fun _ t => gK0 Γ (b + n) k res t) (fun q => b + n ≤ q)) (Value.ref (b + n) :: As).toArray) (fun q => b + n ≤ q) :=
    va_runI (As := As) (rest := rest) X.fix hM ⟨callB_of na X.w (gwm_in hc.2.1) rfl hR.1.1 hR.1.2 (X.w _ hc.2.2.1) (X.w _ hw) hc.1 hR.2.1, hc.2.2.2.2, X.w _ hc.2.2.2.1⟩
      ⟨gI0_blind, fun U hU hW => ⟨rfl, by rw [hU, hsz], by rw [hU]; exact B.2.2.1 n e0 hlast, va_K.moved hW.alike X.K, by rw [hU]; exact ((hF.kept B.2.2.2.2.1).narrow (fun q hq => by omega)).warm hW⟩⟩ rfl hn hls hst (lv_room (pc := pc) (ls := ls) (rest := st0) (m := m) hcat) hdg hR.2.2
  refine va_callv run B.2.2.2 (fun q _ hq => by omega) (fun q hq => by omega) (fun u t H1 locs1 ht _ _ hB hz hk hS => ?_)
  obtain ⟨b1, b2, b3⟩ := hB
  subst ht
  subst hcs
  refine kk _ _ ⟨by rw [List.length_append, hpl, b1], by omega, fun i e hi => ?_, hS⟩
  by_cases hin : i < n
  · rw [List.getElem?_append_left (by omega)] at hi
    have h1 : (pre ++ [e0])[i]? = some e := by rw [List.getElem?_append_left (by omega)]; exact hi
    exact (B.2.2.1 i e h1).kept (hk _ (by show b + i < _; omega) (by show ¬ b + n ≤ b + i; omega))
  · rw [List.getElem?_append_right (by omega), hpl] at hi
    have := b3 _ _ hi
    rw [show b + n + (i - n) = b + i by omega] at this
    exact this
end MAKE
end
