section
-- ===== PART A: goes FIRST, ahead of the names: the tables' words, and 'selects' of the private methods out of them =====
/-- a private method of a class that the tables say can be made, by its rows of tables_1 -/
def lw_okq (q : MethodName × Nat) : Prop := (q.1.cls ≠ "java/lang/invoke/MethodHandle" ∧ q.1.cls ≠ "java/lang/invoke/VarHandle") ∧ Cond.instantiable q.1.cls q.2 ∈ tables_1 ∧ Cond.privateMethod q.1 ∈ tables_1 ∧ Cond.instanceMethod q.1 ∈ tables_1
theorem lw_p0 : lw_okq (⟨"TreeFlows$Net", "hangByLoan", "(I)V"⟩, 14) := ⟨⟨by decide +kernel, by decide +kernel⟩, List.mem_of_getElem? (i := 32) (by decide +kernel), List.mem_of_getElem? (i := 294) (by decide +kernel), List.mem_of_getElem? (i := 295) (by decide +kernel)⟩
theorem lw_p1 : lw_okq (⟨"TreeFlows$Script", "findToken", "(LTreeFlows$Page;)V"⟩, 11) := ⟨⟨by decide +kernel, by decide +kernel⟩, List.mem_of_getElem? (i := 239) (by decide +kernel), List.mem_of_getElem? (i := 368) (by decide +kernel), List.mem_of_getElem? (i := 369) (by decide +kernel)⟩
theorem lw_p2 : lw_okq (⟨"TreeFlows$Script", "readLine", "(LTreeFlows$Page;Z)Z"⟩, 11) := ⟨⟨by decide +kernel, by decide +kernel⟩, List.mem_of_getElem? (i := 239) (by decide +kernel), List.mem_of_getElem? (i := 375) (by decide +kernel), List.mem_of_getElem? (i := 376) (by decide +kernel)⟩
theorem lw_p3 : lw_okq (⟨"TreeFlows$Script", "verbHere", "(LTreeFlows$Page;Z)LTreeFlows$Verb;"⟩, 11) := ⟨⟨by decide +kernel, by decide +kernel⟩, List.mem_of_getElem? (i := 239) (by decide +kernel), List.mem_of_getElem? (i := 379) (by decide +kernel), List.mem_of_getElem? (i := 380) (by decide +kernel)⟩
theorem lw_p4 : lw_okq (⟨"TreeFlows$Script", "isHere", "(LTreeFlows$Page;Ljava/lang/String;)Z"⟩, 11) := ⟨⟨by decide +kernel, by decide +kernel⟩, List.mem_of_getElem? (i := 239) (by decide +kernel), List.mem_of_getElem? (i := 389) (by decide +kernel), List.mem_of_getElem? (i := 390) (by decide +kernel)⟩
theorem lw_p5 : lw_okq (⟨"TreeFlows$Script", "numberHere", "(LTreeFlows$Page;)I"⟩, 11) := ⟨⟨by decide +kernel, by decide +kernel⟩, List.mem_of_getElem? (i := 239) (by decide +kernel), List.mem_of_getElem? (i := 441) (by decide +kernel), List.mem_of_getElem? (i := 442) (by decide +kernel)⟩
theorem lw_p6 : lw_okq (⟨"TreeFlows$Script", "blame", "(II)V"⟩, 11) := ⟨⟨by decide +kernel, by decide +kernel⟩, List.mem_of_getElem? (i := 239) (by decide +kernel), List.mem_of_getElem? (i := 445) (by decide +kernel), List.mem_of_getElem? (i := 446) (by decide +kernel)⟩
theorem lw_p7 : lw_okq (⟨"TreeFlows$Script", "checkGridLine", "(II)V"⟩, 11) := ⟨⟨by decide +kernel, by decide +kernel⟩, List.mem_of_getElem? (i := 239) (by decide +kernel), List.mem_of_getElem? (i := 453) (by decide +kernel), List.mem_of_getElem? (i := 454) (by decide +kernel)⟩
theorem lw_p8 : lw_okq (⟨"TreeFlows$Script", "want", "(IIIII)V"⟩, 11) := ⟨⟨by decide +kernel, by decide +kernel⟩, List.mem_of_getElem? (i := 239) (by decide +kernel), List.mem_of_getElem? (i := 465) (by decide +kernel), List.mem_of_getElem? (i := 466) (by decide +kernel)⟩
theorem lw_p9 : lw_okq (⟨"TreeFlows$Script", "number", "(II)I"⟩, 11) := ⟨⟨by decide +kernel, by decide +kernel⟩, List.mem_of_getElem? (i := 239) (by decide +kernel), List.mem_of_getElem? (i := 469) (by decide +kernel), List.mem_of_getElem? (i := 470) (by decide +kernel)⟩
theorem lw_p10 : lw_okq (⟨"TreeFlows$Script", "isArc", "(I)Z"⟩, 11) := ⟨⟨by decide +kernel, by decide +kernel⟩, List.mem_of_getElem? (i := 239) (by decide +kernel), List.mem_of_getElem? (i := 473) (by decide +kernel), List.mem_of_getElem? (i := 474) (by decide +kernel)⟩
theorem lw_p11 : lw_okq (⟨"TreeFlows$Script", "checkPointsThere", "()V"⟩, 11) := ⟨⟨by decide +kernel, by decide +kernel⟩, List.mem_of_getElem? (i := 239) (by decide +kernel), List.mem_of_getElem? (i := 481) (by decide +kernel), List.mem_of_getElem? (i := 482) (by decide +kernel)⟩
theorem lw_p12 : lw_okq (⟨"TreeFlows$Script", "pointsTold", "()I"⟩, 11) := ⟨⟨by decide +kernel, by decide +kernel⟩, List.mem_of_getElem? (i := 239) (by decide +kernel), List.mem_of_getElem? (i := 485) (by decide +kernel), List.mem_of_getElem? (i := 486) (by decide +kernel)⟩
theorem lw_p13 : lw_okq (⟨"TreeFlows$Script", "sumOfSupplies", "()I"⟩, 11) := ⟨⟨by decide +kernel, by decide +kernel⟩, List.mem_of_getElem? (i := 239) (by decide +kernel), List.mem_of_getElem? (i := 495) (by decide +kernel), List.mem_of_getElem? (i := 496) (by decide +kernel)⟩
theorem lw_p14 : lw_okq (⟨"TreeFlows", "takeFault", "()V"⟩, 13) := ⟨⟨by decide +kernel, by decide +kernel⟩, List.mem_of_getElem? (i := 24) (by decide +kernel), List.mem_of_getElem? (i := 499) (by decide +kernel), List.mem_of_getElem? (i := 500) (by decide +kernel)⟩
theorem lw_p15 : lw_okq (⟨"TreeFlows$Script", "fillLine", "(ILTreeFlows$Net;)V"⟩, 11) := ⟨⟨by decide +kernel, by decide +kernel⟩, List.mem_of_getElem? (i := 239) (by decide +kernel), List.mem_of_getElem? (i := 508) (by decide +kernel), List.mem_of_getElem? (i := 509) (by decide +kernel)⟩
def lw_privs_1 : List (MethodName × Nat) := [(⟨"TreeFlows$Net", "hangByLoan", "(I)V"⟩, 14), (⟨"TreeFlows$Script", "findToken", "(LTreeFlows$Page;)V"⟩, 11), (⟨"TreeFlows$Script", "readLine", "(LTreeFlows$Page;Z)Z"⟩, 11), (⟨"TreeFlows$Script", "verbHere", "(LTreeFlows$Page;Z)LTreeFlows$Verb;"⟩, 11), (⟨"TreeFlows$Script", "isHere", "(LTreeFlows$Page;Ljava/lang/String;)Z"⟩, 11), (⟨"TreeFlows$Script", "numberHere", "(LTreeFlows$Page;)I"⟩, 11), (⟨"TreeFlows$Script", "blame", "(II)V"⟩, 11), (⟨"TreeFlows$Script", "checkGridLine", "(II)V"⟩, 11), (⟨"TreeFlows$Script", "want", "(IIIII)V"⟩, 11), (⟨"TreeFlows$Script", "number", "(II)I"⟩, 11), (⟨"TreeFlows$Script", "isArc", "(I)Z"⟩, 11), (⟨"TreeFlows$Script", "checkPointsThere", "()V"⟩, 11), (⟨"TreeFlows$Script", "pointsTold", "()I"⟩, 11), (⟨"TreeFlows$Script", "sumOfSupplies", "()I"⟩, 11), (⟨"TreeFlows", "takeFault", "()V"⟩, 13), (⟨"TreeFlows$Script", "fillLine", "(ILTreeFlows$Net;)V"⟩, 11)]
theorem lw_r1 : ∀ q ∈ lw_privs_1, lw_okq q := List.forall_mem_cons.mpr ⟨lw_p0, List.forall_mem_cons.mpr ⟨lw_p1, List.forall_mem_cons.mpr ⟨lw_p2, List.forall_mem_cons.mpr ⟨lw_p3, List.forall_mem_cons.mpr ⟨lw_p4, List.forall_mem_cons.mpr ⟨lw_p5, List.forall_mem_cons.mpr ⟨lw_p6, List.forall_mem_cons.mpr ⟨lw_p7, List.forall_mem_cons.mpr ⟨lw_p8, List.forall_mem_cons.mpr ⟨lw_p9, List.forall_mem_cons.mpr ⟨lw_p10, List.forall_mem_cons.mpr ⟨lw_p11, List.forall_mem_cons.mpr ⟨lw_p12, List.forall_mem_cons.mpr ⟨lw_p13, List.forall_mem_cons.mpr ⟨lw_p14, List.forall_mem_cons.mpr ⟨lw_p15, fun _ h => absurd h List.not_mem_nil⟩⟩⟩⟩⟩⟩⟩⟩⟩⟩⟩⟩⟩⟩⟩⟩
theorem lw_p16 : lw_okq (⟨"TreeFlows", "saveAhead", "()V"⟩, 13) := ⟨⟨by decide +kernel, by decide +kernel⟩, List.mem_of_getElem? (i := 24) (by decide +kernel), List.mem_of_getElem? (i := 524) (by decide +kernel), List.mem_of_getElem? (i := 525) (by decide +kernel)⟩
theorem lw_p17 : lw_okq (⟨"TreeFlows$Route", "descend", "(LTreeFlows$Net;I)V"⟩, 7) := ⟨⟨by decide +kernel, by decide +kernel⟩, List.mem_of_getElem? (i := 147) (by decide +kernel), List.mem_of_getElem? (i := 574) (by decide +kernel), List.mem_of_getElem? (i := 575) (by decide +kernel)⟩
theorem lw_p18 : lw_okq (⟨"TreeFlows$Route", "add", "(IZ)V"⟩, 7) := ⟨⟨by decide +kernel, by decide +kernel⟩, List.mem_of_getElem? (i := 147) (by decide +kernel), List.mem_of_getElem? (i := 582) (by decide +kernel), List.mem_of_getElem? (i := 583) (by decide +kernel)⟩
theorem lw_p19 : lw_okq (⟨"TreeFlows$Route", "climb", "(LTreeFlows$Net;I)V"⟩, 7) := ⟨⟨by decide +kernel, by decide +kernel⟩, List.mem_of_getElem? (i := 147) (by decide +kernel), List.mem_of_getElem? (i := 586) (by decide +kernel), List.mem_of_getElem? (i := 587) (by decide +kernel)⟩
theorem lw_p20 : lw_okq (⟨"TreeFlows$Route", "exchange", "(LTreeFlows$Net;II)V"⟩, 7) := ⟨⟨by decide +kernel, by decide +kernel⟩, List.mem_of_getElem? (i := 147) (by decide +kernel), List.mem_of_getElem? (i := 603) (by decide +kernel), List.mem_of_getElem? (i := 604) (by decide +kernel)⟩
theorem lw_p21 : lw_okq (⟨"TreeFlows", "countAct", "(Z)Z"⟩, 13) := ⟨⟨by decide +kernel, by decide +kernel⟩, List.mem_of_getElem? (i := 24) (by decide +kernel), List.mem_of_getElem? (i := 616) (by decide +kernel), List.mem_of_getElem? (i := 617) (by decide +kernel)⟩
theorem lw_p22 : lw_okq (⟨"TreeFlows$Trips", "start", "(LTreeFlows$Net;)I"⟩, 9) := ⟨⟨by decide +kernel, by decide +kernel⟩, List.mem_of_getElem? (i := 179) (by decide +kernel), List.mem_of_getElem? (i := 824) (by decide +kernel), List.mem_of_getElem? (i := 825) (by decide +kernel)⟩
theorem lw_p23 : lw_okq (⟨"TreeFlows$Trips", "surplus", "(LTreeFlows$Net;I)I"⟩, 9) := ⟨⟨by decide +kernel, by decide +kernel⟩, List.mem_of_getElem? (i := 179) (by decide +kernel), List.mem_of_getElem? (i := 828) (by decide +kernel), List.mem_of_getElem? (i := 829) (by decide +kernel)⟩
theorem lw_p24 : lw_okq (⟨"TreeFlows$Trips", "arcOut", "(LTreeFlows$Net;I)I"⟩, 9) := ⟨⟨by decide +kernel, by decide +kernel⟩, List.mem_of_getElem? (i := 179) (by decide +kernel), List.mem_of_getElem? (i := 832) (by decide +kernel), List.mem_of_getElem? (i := 833) (by decide +kernel)⟩
theorem lw_p25 : lw_okq (⟨"TreeFlows$Trips", "go", "(LTreeFlows$Net;I)V"⟩, 9) := ⟨⟨by decide +kernel, by decide +kernel⟩, List.mem_of_getElem? (i := 179) (by decide +kernel), List.mem_of_getElem? (i := 836) (by decide +kernel), List.mem_of_getElem? (i := 837) (by decide +kernel)⟩
theorem lw_p26 : lw_okq (⟨"TreeFlows$Trips", "keep", "()V"⟩, 9) := ⟨⟨by decide +kernel, by decide +kernel⟩, List.mem_of_getElem? (i := 179) (by decide +kernel), List.mem_of_getElem? (i := 840) (by decide +kernel), List.mem_of_getElem? (i := 841) (by decide +kernel)⟩
theorem lw_p27 : lw_okq (⟨"TreeFlows", "hasImage", "(I)Z"⟩, 13) := ⟨⟨by decide +kernel, by decide +kernel⟩, List.mem_of_getElem? (i := 24) (by decide +kernel), List.mem_of_getElem? (i := 854) (by decide +kernel), List.mem_of_getElem? (i := 855) (by decide +kernel)⟩
theorem lw_p28 : lw_okq (⟨"TreeFlows$Net", "slope", "(II)I"⟩, 14) := ⟨⟨by decide +kernel, by decide +kernel⟩, List.mem_of_getElem? (i := 32) (by decide +kernel), List.mem_of_getElem? (i := 871) (by decide +kernel), List.mem_of_getElem? (i := 872) (by decide +kernel)⟩
theorem lw_p29 : lw_okq (⟨"TreeFlows", "leastOfTrial", "()I"⟩, 13) := ⟨⟨by decide +kernel, by decide +kernel⟩, List.mem_of_getElem? (i := 24) (by decide +kernel), List.mem_of_getElem? (i := 884) (by decide +kernel), List.mem_of_getElem? (i := 885) (by decide +kernel)⟩
theorem lw_p30 : lw_okq (⟨"java/lang/Throwable", "fillInStackTrace", "(I)Ljava/lang/Throwable;"⟩, 6) := ⟨⟨by decide +kernel, by decide +kernel⟩, List.mem_of_getElem? (i := 985) (by decide +kernel), List.mem_of_getElem? (i := 983) (by decide +kernel), List.mem_of_getElem? (i := 984) (by decide +kernel)⟩
theorem lw_p31 : lw_okq (⟨"TreeFlowsModel", "atFirst", "()V"⟩, 44) := ⟨⟨by decide +kernel, by decide +kernel⟩, List.mem_of_getElem? (i := 1029) (by decide +kernel), List.mem_of_getElem? (i := 1035) (by decide +kernel), List.mem_of_getElem? (i := 1036) (by decide +kernel)⟩
def lw_privs_2 : List (MethodName × Nat) := [(⟨"TreeFlows", "saveAhead", "()V"⟩, 13), (⟨"TreeFlows$Route", "descend", "(LTreeFlows$Net;I)V"⟩, 7), (⟨"TreeFlows$Route", "add", "(IZ)V"⟩, 7), (⟨"TreeFlows$Route", "climb", "(LTreeFlows$Net;I)V"⟩, 7), (⟨"TreeFlows$Route", "exchange", "(LTreeFlows$Net;II)V"⟩, 7), (⟨"TreeFlows", "countAct", "(Z)Z"⟩, 13), (⟨"TreeFlows$Trips", "start", "(LTreeFlows$Net;)I"⟩, 9), (⟨"TreeFlows$Trips", "surplus", "(LTreeFlows$Net;I)I"⟩, 9), (⟨"TreeFlows$Trips", "arcOut", "(LTreeFlows$Net;I)I"⟩, 9), (⟨"TreeFlows$Trips", "go", "(LTreeFlows$Net;I)V"⟩, 9), (⟨"TreeFlows$Trips", "keep", "()V"⟩, 9), (⟨"TreeFlows", "hasImage", "(I)Z"⟩, 13), (⟨"TreeFlows$Net", "slope", "(II)I"⟩, 14), (⟨"TreeFlows", "leastOfTrial", "()I"⟩, 13), (⟨"java/lang/Throwable", "fillInStackTrace", "(I)Ljava/lang/Throwable;"⟩, 6), (⟨"TreeFlowsModel", "atFirst", "()V"⟩, 44)]
theorem lw_r2 : ∀ q ∈ lw_privs_2, lw_okq q := List.forall_mem_cons.mpr ⟨lw_p16, List.forall_mem_cons.mpr ⟨lw_p17, List.forall_mem_cons.mpr ⟨lw_p18, List.forall_mem_cons.mpr ⟨lw_p19, List.forall_mem_cons.mpr ⟨lw_p20, List.forall_mem_cons.mpr ⟨lw_p21, List.forall_mem_cons.mpr ⟨lw_p22, List.forall_mem_cons.mpr ⟨lw_p23, List.forall_mem_cons.mpr ⟨lw_p24, List.forall_mem_cons.mpr ⟨lw_p25, List.forall_mem_cons.mpr ⟨lw_p26, List.forall_mem_cons.mpr ⟨lw_p27, List.forall_mem_cons.mpr ⟨lw_p28, List.forall_mem_cons.mpr ⟨lw_p29, List.forall_mem_cons.mpr ⟨lw_p30, List.forall_mem_cons.mpr ⟨lw_p31, fun _ h => absurd h List.not_mem_nil⟩⟩⟩⟩⟩⟩⟩⟩⟩⟩⟩⟩⟩⟩⟩⟩
theorem lw_p32 : lw_okq (⟨"TreeFlowsModel", "taken", "()V"⟩, 44) := ⟨⟨by decide +kernel, by decide +kernel⟩, List.mem_of_getElem? (i := 1029) (by decide +kernel), List.mem_of_getElem? (i := 1039) (by decide +kernel), List.mem_of_getElem? (i := 1040) (by decide +kernel)⟩
theorem lw_p33 : lw_okq (⟨"TreeFlowsModel", "begins", "(Z)V"⟩, 44) := ⟨⟨by decide +kernel, by decide +kernel⟩, List.mem_of_getElem? (i := 1029) (by decide +kernel), List.mem_of_getElem? (i := 1043) (by decide +kernel), List.mem_of_getElem? (i := 1044) (by decide +kernel)⟩
theorem lw_p34 : lw_okq (⟨"TreeFlowsModel", "of", "(II)I"⟩, 44) := ⟨⟨by decide +kernel, by decide +kernel⟩, List.mem_of_getElem? (i := 1029) (by decide +kernel), List.mem_of_getElem? (i := 1047) (by decide +kernel), List.mem_of_getElem? (i := 1048) (by decide +kernel)⟩
theorem lw_p35 : lw_okq (⟨"TreeFlowsModel", "puts", "(III)V"⟩, 44) := ⟨⟨by decide +kernel, by decide +kernel⟩, List.mem_of_getElem? (i := 1029) (by decide +kernel), List.mem_of_getElem? (i := 1051) (by decide +kernel), List.mem_of_getElem? (i := 1052) (by decide +kernel)⟩
theorem lw_p36 : lw_okq (⟨"TreeFlowsModel", "allLines", "(Z)Z"⟩, 44) := ⟨⟨by decide +kernel, by decide +kernel⟩, List.mem_of_getElem? (i := 1029) (by decide +kernel), List.mem_of_getElem? (i := 1199) (by decide +kernel), List.mem_of_getElem? (i := 1200) (by decide +kernel)⟩
theorem lw_p37 : lw_okq (⟨"TreeFlowsModel", "token", "()V"⟩, 44) := ⟨⟨by decide +kernel, by decide +kernel⟩, List.mem_of_getElem? (i := 1029) (by decide +kernel), List.mem_of_getElem? (i := 1203) (by decide +kernel), List.mem_of_getElem? (i := 1204) (by decide +kernel)⟩
theorem lw_p38 : lw_okq (⟨"TreeFlowsModel", "see", "()I"⟩, 44) := ⟨⟨by decide +kernel, by decide +kernel⟩, List.mem_of_getElem? (i := 1029) (by decide +kernel), List.mem_of_getElem? (i := 1207) (by decide +kernel), List.mem_of_getElem? (i := 1208) (by decide +kernel)⟩
theorem lw_p39 : lw_okq (⟨"TreeFlowsModel", "gridLine", "(J)Z"⟩, 44) := ⟨⟨by decide +kernel, by decide +kernel⟩, List.mem_of_getElem? (i := 1029) (by decide +kernel), List.mem_of_getElem? (i := 1214) (by decide +kernel), List.mem_of_getElem? (i := 1215) (by decide +kernel)⟩
theorem lw_p40 : lw_okq (⟨"TreeFlowsModel", "arcLine", "(I)Z"⟩, 44) := ⟨⟨by decide +kernel, by decide +kernel⟩, List.mem_of_getElem? (i := 1029) (by decide +kernel), List.mem_of_getElem? (i := 1220) (by decide +kernel), List.mem_of_getElem? (i := 1221) (by decide +kernel)⟩
theorem lw_p41 : lw_okq (⟨"TreeFlowsModel", "isBad", "(I)V"⟩, 44) := ⟨⟨by decide +kernel, by decide +kernel⟩, List.mem_of_getElem? (i := 1029) (by decide +kernel), List.mem_of_getElem? (i := 1224) (by decide +kernel), List.mem_of_getElem? (i := 1225) (by decide +kernel)⟩
theorem lw_p42 : lw_okq (⟨"TreeFlowsModel", "takesPoint", "(II)Z"⟩, 44) := ⟨⟨by decide +kernel, by decide +kernel⟩, List.mem_of_getElem? (i := 1029) (by decide +kernel), List.mem_of_getElem? (i := 1228) (by decide +kernel), List.mem_of_getElem? (i := 1229) (by decide +kernel)⟩
theorem lw_p43 : lw_okq (⟨"TreeFlowsModel", "takes", "(III)Z"⟩, 44) := ⟨⟨by decide +kernel, by decide +kernel⟩, List.mem_of_getElem? (i := 1029) (by decide +kernel), List.mem_of_getElem? (i := 1232) (by decide +kernel), List.mem_of_getElem? (i := 1233) (by decide +kernel)⟩
theorem lw_p44 : lw_okq (⟨"TreeFlowsModel", "fails", "()Z"⟩, 44) := ⟨⟨by decide +kernel, by decide +kernel⟩, List.mem_of_getElem? (i := 1029) (by decide +kernel), List.mem_of_getElem? (i := 1236) (by decide +kernel), List.mem_of_getElem? (i := 1237) (by decide +kernel)⟩
theorem lw_p45 : lw_okq (⟨"TreeFlowsModel", "orderLine", "(J)Z"⟩, 44) := ⟨⟨by decide +kernel, by decide +kernel⟩, List.mem_of_getElem? (i := 1029) (by decide +kernel), List.mem_of_getElem? (i := 1250) (by decide +kernel), List.mem_of_getElem? (i := 1251) (by decide +kernel)⟩
theorem lw_p46 : lw_okq (⟨"TreeFlowsModel", "isFaulty", "(II)V"⟩, 44) := ⟨⟨by decide +kernel, by decide +kernel⟩, List.mem_of_getElem? (i := 1029) (by decide +kernel), List.mem_of_getElem? (i := 1260) (by decide +kernel), List.mem_of_getElem? (i := 1261) (by decide +kernel)⟩
theorem lw_p47 : lw_okq (⟨"TreeFlowsModel", "missing", "()I"⟩, 44) := ⟨⟨by decide +kernel, by decide +kernel⟩, List.mem_of_getElem? (i := 1029) (by decide +kernel), List.mem_of_getElem? (i := 1264) (by decide +kernel), List.mem_of_getElem? (i := 1265) (by decide +kernel)⟩
def lw_privs_3 : List (MethodName × Nat) := [(⟨"TreeFlowsModel", "taken", "()V"⟩, 44), (⟨"TreeFlowsModel", "begins", "(Z)V"⟩, 44), (⟨"TreeFlowsModel", "of", "(II)I"⟩, 44), (⟨"TreeFlowsModel", "puts", "(III)V"⟩, 44), (⟨"TreeFlowsModel", "allLines", "(Z)Z"⟩, 44), (⟨"TreeFlowsModel", "token", "()V"⟩, 44), (⟨"TreeFlowsModel", "see", "()I"⟩, 44), (⟨"TreeFlowsModel", "gridLine", "(J)Z"⟩, 44), (⟨"TreeFlowsModel", "arcLine", "(I)Z"⟩, 44), (⟨"TreeFlowsModel", "isBad", "(I)V"⟩, 44), (⟨"TreeFlowsModel", "takesPoint", "(II)Z"⟩, 44), (⟨"TreeFlowsModel", "takes", "(III)Z"⟩, 44), (⟨"TreeFlowsModel", "fails", "()Z"⟩, 44), (⟨"TreeFlowsModel", "orderLine", "(J)Z"⟩, 44), (⟨"TreeFlowsModel", "isFaulty", "(II)V"⟩, 44), (⟨"TreeFlowsModel", "missing", "()I"⟩, 44)]
theorem lw_r3 : ∀ q ∈ lw_privs_3, lw_okq q := List.forall_mem_cons.mpr ⟨lw_p32, List.forall_mem_cons.mpr ⟨lw_p33, List.forall_mem_cons.mpr ⟨lw_p34, List.forall_mem_cons.mpr ⟨lw_p35, List.forall_mem_cons.mpr ⟨lw_p36, List.forall_mem_cons.mpr ⟨lw_p37, List.forall_mem_cons.mpr ⟨lw_p38, List.forall_mem_cons.mpr ⟨lw_p39, List.forall_mem_cons.mpr ⟨lw_p40, List.forall_mem_cons.mpr ⟨lw_p41, List.forall_mem_cons.mpr ⟨lw_p42, List.forall_mem_cons.mpr ⟨lw_p43, List.forall_mem_cons.mpr ⟨lw_p44, List.forall_mem_cons.mpr ⟨lw_p45, List.forall_mem_cons.mpr ⟨lw_p46, List.forall_mem_cons.mpr ⟨lw_p47, fun _ h => absurd h List.not_mem_nil⟩⟩⟩⟩⟩⟩⟩⟩⟩⟩⟩⟩⟩⟩⟩⟩
theorem lw_p48 : lw_okq (⟨"TreeFlowsModel", "isBest", "()Z"⟩, 44) := ⟨⟨by decide +kernel, by decide +kernel⟩, List.mem_of_getElem? (i := 1029) (by decide +kernel), List.mem_of_getElem? (i := 1276) (by decide +kernel), List.mem_of_getElem? (i := 1277) (by decide +kernel)⟩
theorem lw_p49 : lw_okq (⟨"TreeFlowsModel", "laysTree", "()V"⟩, 44) := ⟨⟨by decide +kernel, by decide +kernel⟩, List.mem_of_getElem? (i := 1029) (by decide +kernel), List.mem_of_getElem? (i := 1280) (by decide +kernel), List.mem_of_getElem? (i := 1281) (by decide +kernel)⟩
theorem lw_p50 : lw_okq (⟨"TreeFlowsModel", "root", "()I"⟩, 44) := ⟨⟨by decide +kernel, by decide +kernel⟩, List.mem_of_getElem? (i := 1029) (by decide +kernel), List.mem_of_getElem? (i := 1284) (by decide +kernel), List.mem_of_getElem? (i := 1285) (by decide +kernel)⟩
theorem lw_p51 : lw_okq (⟨"TreeFlowsModel", "settles", "(IIII)V"⟩, 44) := ⟨⟨by decide +kernel, by decide +kernel⟩, List.mem_of_getElem? (i := 1029) (by decide +kernel), List.mem_of_getElem? (i := 1288) (by decide +kernel), List.mem_of_getElem? (i := 1289) (by decide +kernel)⟩
theorem lw_p52 : lw_okq (⟨"TreeFlowsModel", "hangs", "(I)Z"⟩, 44) := ⟨⟨by decide +kernel, by decide +kernel⟩, List.mem_of_getElem? (i := 1029) (by decide +kernel), List.mem_of_getElem? (i := 1292) (by decide +kernel), List.mem_of_getElem? (i := 1293) (by decide +kernel)⟩
theorem lw_p53 : lw_okq (⟨"TreeFlowsModel", "offerMany", "()I"⟩, 44) := ⟨⟨by decide +kernel, by decide +kernel⟩, List.mem_of_getElem? (i := 1029) (by decide +kernel), List.mem_of_getElem? (i := 1296) (by decide +kernel), List.mem_of_getElem? (i := 1297) (by decide +kernel)⟩
theorem lw_p54 : lw_okq (⟨"TreeFlowsModel", "offers", "(I)Z"⟩, 44) := ⟨⟨by decide +kernel, by decide +kernel⟩, List.mem_of_getElem? (i := 1029) (by decide +kernel), List.mem_of_getElem? (i := 1300) (by decide +kernel), List.mem_of_getElem? (i := 1301) (by decide +kernel)⟩
theorem lw_p55 : lw_okq (⟨"TreeFlowsModel", "reduced", "(I)I"⟩, 44) := ⟨⟨by decide +kernel, by decide +kernel⟩, List.mem_of_getElem? (i := 1029) (by decide +kernel), List.mem_of_getElem? (i := 1304) (by decide +kernel), List.mem_of_getElem? (i := 1305) (by decide +kernel)⟩
theorem lw_p56 : lw_okq (⟨"TreeFlowsModel", "keeps", "(I)V"⟩, 44) := ⟨⟨by decide +kernel, by decide +kernel⟩, List.mem_of_getElem? (i := 1029) (by decide +kernel), List.mem_of_getElem? (i := 1308) (by decide +kernel), List.mem_of_getElem? (i := 1309) (by decide +kernel)⟩
theorem lw_p57 : lw_okq (⟨"TreeFlowsModel", "turns", "()I"⟩, 44) := ⟨⟨by decide +kernel, by decide +kernel⟩, List.mem_of_getElem? (i := 1029) (by decide +kernel), List.mem_of_getElem? (i := 1312) (by decide +kernel), List.mem_of_getElem? (i := 1313) (by decide +kernel)⟩
theorem lw_p58 : lw_okq (⟨"TreeFlowsModel", "enters", "()I"⟩, 44) := ⟨⟨by decide +kernel, by decide +kernel⟩, List.mem_of_getElem? (i := 1029) (by decide +kernel), List.mem_of_getElem? (i := 1316) (by decide +kernel), List.mem_of_getElem? (i := 1317) (by decide +kernel)⟩
theorem lw_p59 : lw_okq (⟨"TreeFlowsModel", "farOf", "(I)I"⟩, 44) := ⟨⟨by decide +kernel, by decide +kernel⟩, List.mem_of_getElem? (i := 1029) (by decide +kernel), List.mem_of_getElem? (i := 1320) (by decide +kernel), List.mem_of_getElem? (i := 1321) (by decide +kernel)⟩
theorem lw_p60 : lw_okq (⟨"TreeFlowsModel", "laysCycle", "(I)V"⟩, 44) := ⟨⟨by decide +kernel, by decide +kernel⟩, List.mem_of_getElem? (i := 1029) (by decide +kernel), List.mem_of_getElem? (i := 1324) (by decide +kernel), List.mem_of_getElem? (i := 1325) (by decide +kernel)⟩
theorem lw_p61 : lw_okq (⟨"TreeFlowsModel", "meets", "(II)I"⟩, 44) := ⟨⟨by decide +kernel, by decide +kernel⟩, List.mem_of_getElem? (i := 1029) (by decide +kernel), List.mem_of_getElem? (i := 1328) (by decide +kernel), List.mem_of_getElem? (i := 1329) (by decide +kernel)⟩
theorem lw_p62 : lw_okq (⟨"TreeFlowsModel", "goesDown", "(II)V"⟩, 44) := ⟨⟨by decide +kernel, by decide +kernel⟩, List.mem_of_getElem? (i := 1029) (by decide +kernel), List.mem_of_getElem? (i := 1332) (by decide +kernel), List.mem_of_getElem? (i := 1333) (by decide +kernel)⟩
theorem lw_p63 : lw_okq (⟨"TreeFlowsModel", "addsStep", "(II)V"⟩, 44) := ⟨⟨by decide +kernel, by decide +kernel⟩, List.mem_of_getElem? (i := 1029) (by decide +kernel), List.mem_of_getElem? (i := 1336) (by decide +kernel), List.mem_of_getElem? (i := 1337) (by decide +kernel)⟩
def lw_privs_4 : List (MethodName × Nat) := [(⟨"TreeFlowsModel", "isBest", "()Z"⟩, 44), (⟨"TreeFlowsModel", "laysTree", "()V"⟩, 44), (⟨"TreeFlowsModel", "root", "()I"⟩, 44), (⟨"TreeFlowsModel", "settles", "(IIII)V"⟩, 44), (⟨"TreeFlowsModel", "hangs", "(I)Z"⟩, 44), (⟨"TreeFlowsModel", "offerMany", "()I"⟩, 44), (⟨"TreeFlowsModel", "offers", "(I)Z"⟩, 44), (⟨"TreeFlowsModel", "reduced", "(I)I"⟩, 44), (⟨"TreeFlowsModel", "keeps", "(I)V"⟩, 44), (⟨"TreeFlowsModel", "turns", "()I"⟩, 44), (⟨"TreeFlowsModel", "enters", "()I"⟩, 44), (⟨"TreeFlowsModel", "farOf", "(I)I"⟩, 44), (⟨"TreeFlowsModel", "laysCycle", "(I)V"⟩, 44), (⟨"TreeFlowsModel", "meets", "(II)I"⟩, 44), (⟨"TreeFlowsModel", "goesDown", "(II)V"⟩, 44), (⟨"TreeFlowsModel", "addsStep", "(II)V"⟩, 44)]
theorem lw_r4 : ∀ q ∈ lw_privs_4, lw_okq q := List.forall_mem_cons.mpr ⟨lw_p48, List.forall_mem_cons.mpr ⟨lw_p49, List.forall_mem_cons.mpr ⟨lw_p50, List.forall_mem_cons.mpr ⟨lw_p51, List.forall_mem_cons.mpr ⟨lw_p52, List.forall_mem_cons.mpr ⟨lw_p53, List.forall_mem_cons.mpr ⟨lw_p54, List.forall_mem_cons.mpr ⟨lw_p55, List.forall_mem_cons.mpr ⟨lw_p56, List.forall_mem_cons.mpr ⟨lw_p57, List.forall_mem_cons.mpr ⟨lw_p58, List.forall_mem_cons.mpr ⟨lw_p59, List.forall_mem_cons.mpr ⟨lw_p60, List.forall_mem_cons.mpr ⟨lw_p61, List.forall_mem_cons.mpr ⟨lw_p62, List.forall_mem_cons.mpr ⟨lw_p63, fun _ h => absurd h List.not_mem_nil⟩⟩⟩⟩⟩⟩⟩⟩⟩⟩⟩⟩⟩⟩⟩⟩
theorem lw_p64 : lw_okq (⟨"TreeFlowsModel", "isAlong", "(II)Z"⟩, 44) := ⟨⟨by decide +kernel, by decide +kernel⟩, List.mem_of_getElem? (i := 1029) (by decide +kernel), List.mem_of_getElem? (i := 1340) (by decide +kernel), List.mem_of_getElem? (i := 1341) (by decide +kernel)⟩
theorem lw_p65 : lw_okq (⟨"TreeFlowsModel", "goesUp", "(II)V"⟩, 44) := ⟨⟨by decide +kernel, by decide +kernel⟩, List.mem_of_getElem? (i := 1029) (by decide +kernel), List.mem_of_getElem? (i := 1347) (by decide +kernel), List.mem_of_getElem? (i := 1348) (by decide +kernel)⟩
theorem lw_p66 : lw_okq (⟨"TreeFlowsModel", "leastRoom", "()I"⟩, 44) := ⟨⟨by decide +kernel, by decide +kernel⟩, List.mem_of_getElem? (i := 1029) (by decide +kernel), List.mem_of_getElem? (i := 1351) (by decide +kernel), List.mem_of_getElem? (i := 1352) (by decide +kernel)⟩
theorem lw_p67 : lw_okq (⟨"TreeFlowsModel", "roomOf", "(I)I"⟩, 44) := ⟨⟨by decide +kernel, by decide +kernel⟩, List.mem_of_getElem? (i := 1029) (by decide +kernel), List.mem_of_getElem? (i := 1356) (by decide +kernel), List.mem_of_getElem? (i := 1357) (by decide +kernel)⟩
theorem lw_p68 : lw_okq (⟨"TreeFlowsModel", "leaves", "(I)I"⟩, 44) := ⟨⟨by decide +kernel, by decide +kernel⟩, List.mem_of_getElem? (i := 1029) (by decide +kernel), List.mem_of_getElem? (i := 1363) (by decide +kernel), List.mem_of_getElem? (i := 1364) (by decide +kernel)⟩
theorem lw_p69 : lw_okq (⟨"TreeFlowsModel", "flows", "(I)V"⟩, 44) := ⟨⟨by decide +kernel, by decide +kernel⟩, List.mem_of_getElem? (i := 1029) (by decide +kernel), List.mem_of_getElem? (i := 1367) (by decide +kernel), List.mem_of_getElem? (i := 1368) (by decide +kernel)⟩
theorem lw_p70 : lw_okq (⟨"TreeFlowsModel", "goesOut", "(I)V"⟩, 44) := ⟨⟨by decide +kernel, by decide +kernel⟩, List.mem_of_getElem? (i := 1029) (by decide +kernel), List.mem_of_getElem? (i := 1371) (by decide +kernel), List.mem_of_getElem? (i := 1372) (by decide +kernel)⟩
theorem lw_p71 : lw_okq (⟨"TreeFlowsModel", "isPast", "(III)V"⟩, 44) := ⟨⟨by decide +kernel, by decide +kernel⟩, List.mem_of_getElem? (i := 1029) (by decide +kernel), List.mem_of_getElem? (i := 1375) (by decide +kernel), List.mem_of_getElem? (i := 1376) (by decide +kernel)⟩
theorem lw_p72 : lw_okq (⟨"TreeFlowsModel", "pivotsTill", "(I)I"⟩, 44) := ⟨⟨by decide +kernel, by decide +kernel⟩, List.mem_of_getElem? (i := 1029) (by decide +kernel), List.mem_of_getElem? (i := 1383) (by decide +kernel), List.mem_of_getElem? (i := 1384) (by decide +kernel)⟩
theorem lw_p73 : lw_okq (⟨"TreeFlowsModel", "canShift", "(III)Z"⟩, 44) := ⟨⟨by decide +kernel, by decide +kernel⟩, List.mem_of_getElem? (i := 1029) (by decide +kernel), List.mem_of_getElem? (i := 1395) (by decide +kernel), List.mem_of_getElem? (i := 1396) (by decide +kernel)⟩
theorem lw_p74 : lw_okq (⟨"TreeFlowsModel", "areTwo", "(II)Z"⟩, 44) := ⟨⟨by decide +kernel, by decide +kernel⟩, List.mem_of_getElem? (i := 1029) (by decide +kernel), List.mem_of_getElem? (i := 1399) (by decide +kernel), List.mem_of_getElem? (i := 1400) (by decide +kernel)⟩
theorem lw_p75 : lw_okq (⟨"TreeFlowsModel", "isPoint", "(I)Z"⟩, 44) := ⟨⟨by decide +kernel, by decide +kernel⟩, List.mem_of_getElem? (i := 1029) (by decide +kernel), List.mem_of_getElem? (i := 1403) (by decide +kernel), List.mem_of_getElem? (i := 1404) (by decide +kernel)⟩
theorem lw_p76 : lw_okq (⟨"TreeFlowsModel", "shifts", "(III)V"⟩, 44) := ⟨⟨by decide +kernel, by decide +kernel⟩, List.mem_of_getElem? (i := 1029) (by decide +kernel), List.mem_of_getElem? (i := 1407) (by decide +kernel), List.mem_of_getElem? (i := 1408) (by decide +kernel)⟩
theorem lw_p77 : lw_okq (⟨"TreeFlowsModel", "beginsAgain", "(Z)V"⟩, 44) := ⟨⟨by decide +kernel, by decide +kernel⟩, List.mem_of_getElem? (i := 1029) (by decide +kernel), List.mem_of_getElem? (i := 1411) (by decide +kernel), List.mem_of_getElem? (i := 1412) (by decide +kernel)⟩
theorem lw_p78 : lw_okq (⟨"TreeFlowsModel", "tells", "(IIII)Z"⟩, 44) := ⟨⟨by decide +kernel, by decide +kernel⟩, List.mem_of_getElem? (i := 1029) (by decide +kernel), List.mem_of_getElem? (i := 1419) (by decide +kernel), List.mem_of_getElem? (i := 1420) (by decide +kernel)⟩
theorem lw_p79 : lw_okq (⟨"TreeFlowsModel", "canBe", "(IIII)Z"⟩, 44) := ⟨⟨by decide +kernel, by decide +kernel⟩, List.mem_of_getElem? (i := 1029) (by decide +kernel), List.mem_of_getElem? (i := 1423) (by decide +kernel), List.mem_of_getElem? (i := 1424) (by decide +kernel)⟩
def lw_privs_5 : List (MethodName × Nat) := [(⟨"TreeFlowsModel", "isAlong", "(II)Z"⟩, 44), (⟨"TreeFlowsModel", "goesUp", "(II)V"⟩, 44), (⟨"TreeFlowsModel", "leastRoom", "()I"⟩, 44), (⟨"TreeFlowsModel", "roomOf", "(I)I"⟩, 44), (⟨"TreeFlowsModel", "leaves", "(I)I"⟩, 44), (⟨"TreeFlowsModel", "flows", "(I)V"⟩, 44), (⟨"TreeFlowsModel", "goesOut", "(I)V"⟩, 44), (⟨"TreeFlowsModel", "isPast", "(III)V"⟩, 44), (⟨"TreeFlowsModel", "pivotsTill", "(I)I"⟩, 44), (⟨"TreeFlowsModel", "canShift", "(III)Z"⟩, 44), (⟨"TreeFlowsModel", "areTwo", "(II)Z"⟩, 44), (⟨"TreeFlowsModel", "isPoint", "(I)Z"⟩, 44), (⟨"TreeFlowsModel", "shifts", "(III)V"⟩, 44), (⟨"TreeFlowsModel", "beginsAgain", "(Z)V"⟩, 44), (⟨"TreeFlowsModel", "tells", "(IIII)Z"⟩, 44), (⟨"TreeFlowsModel", "canBe", "(IIII)Z"⟩, 44)]
theorem lw_r5 : ∀ q ∈ lw_privs_5, lw_okq q := List.forall_mem_cons.mpr ⟨lw_p64, List.forall_mem_cons.mpr ⟨lw_p65, List.forall_mem_cons.mpr ⟨lw_p66, List.forall_mem_cons.mpr ⟨lw_p67, List.forall_mem_cons.mpr ⟨lw_p68, List.forall_mem_cons.mpr ⟨lw_p69, List.forall_mem_cons.mpr ⟨lw_p70, List.forall_mem_cons.mpr ⟨lw_p71, List.forall_mem_cons.mpr ⟨lw_p72, List.forall_mem_cons.mpr ⟨lw_p73, List.forall_mem_cons.mpr ⟨lw_p74, List.forall_mem_cons.mpr ⟨lw_p75, List.forall_mem_cons.mpr ⟨lw_p76, List.forall_mem_cons.mpr ⟨lw_p77, List.forall_mem_cons.mpr ⟨lw_p78, List.forall_mem_cons.mpr ⟨lw_p79, fun _ h => absurd h List.not_mem_nil⟩⟩⟩⟩⟩⟩⟩⟩⟩⟩⟩⟩⟩⟩⟩⟩
theorem lw_p80 : lw_okq (⟨"TreeFlowsModel", "isArc", "(I)Z"⟩, 44) := ⟨⟨by decide +kernel, by decide +kernel⟩, List.mem_of_getElem? (i := 1029) (by decide +kernel), List.mem_of_getElem? (i := 1427) (by decide +kernel), List.mem_of_getElem? (i := 1428) (by decide +kernel)⟩
theorem lw_p81 : lw_okq (⟨"TreeFlowsModel", "becomes", "(III)V"⟩, 44) := ⟨⟨by decide +kernel, by decide +kernel⟩, List.mem_of_getElem? (i := 1029) (by decide +kernel), List.mem_of_getElem? (i := 1431) (by decide +kernel), List.mem_of_getElem? (i := 1432) (by decide +kernel)⟩
theorem lw_p82 : lw_okq (⟨"TreeFlowsModel", "copies", "(II)V"⟩, 44) := ⟨⟨by decide +kernel, by decide +kernel⟩, List.mem_of_getElem? (i := 1029) (by decide +kernel), List.mem_of_getElem? (i := 1451) (by decide +kernel), List.mem_of_getElem? (i := 1452) (by decide +kernel)⟩
theorem lw_p83 : lw_okq (⟨"TreeFlowsModel", "isDone", "(JIII)Z"⟩, 44) := ⟨⟨by decide +kernel, by decide +kernel⟩, List.mem_of_getElem? (i := 1029) (by decide +kernel), List.mem_of_getElem? (i := 1455) (by decide +kernel), List.mem_of_getElem? (i := 1456) (by decide +kernel)⟩
theorem lw_p84 : lw_okq (⟨"TreeFlowsModel", "isDoneArc", "(IIII)Z"⟩, 44) := ⟨⟨by decide +kernel, by decide +kernel⟩, List.mem_of_getElem? (i := 1029) (by decide +kernel), List.mem_of_getElem? (i := 1459) (by decide +kernel), List.mem_of_getElem? (i := 1460) (by decide +kernel)⟩
theorem lw_p85 : lw_okq (⟨"TreeFlowsModel", "unmet", "()I"⟩, 44) := ⟨⟨by decide +kernel, by decide +kernel⟩, List.mem_of_getElem? (i := 1029) (by decide +kernel), List.mem_of_getElem? (i := 1471) (by decide +kernel), List.mem_of_getElem? (i := 1472) (by decide +kernel)⟩
theorem lw_p86 : lw_okq (⟨"TreeFlowsModel", "below", "(I)I"⟩, 44) := ⟨⟨by decide +kernel, by decide +kernel⟩, List.mem_of_getElem? (i := 1029) (by decide +kernel), List.mem_of_getElem? (i := 1483) (by decide +kernel), List.mem_of_getElem? (i := 1484) (by decide +kernel)⟩
theorem lw_p87 : lw_okq (⟨"TreeFlowsModel", "childOf", "(II)I"⟩, 44) := ⟨⟨by decide +kernel, by decide +kernel⟩, List.mem_of_getElem? (i := 1029) (by decide +kernel), List.mem_of_getElem? (i := 1491) (by decide +kernel), List.mem_of_getElem? (i := 1492) (by decide +kernel)⟩
theorem lw_p88 : lw_okq (⟨"TreeFlowsModel", "costOfCycle", "()I"⟩, 44) := ⟨⟨by decide +kernel, by decide +kernel⟩, List.mem_of_getElem? (i := 1029) (by decide +kernel), List.mem_of_getElem? (i := 1499) (by decide +kernel), List.mem_of_getElem? (i := 1500) (by decide +kernel)⟩
theorem lw_p89 : lw_okq (⟨"TreeFlowsModel", "billed", "()I"⟩, 44) := ⟨⟨by decide +kernel, by decide +kernel⟩, List.mem_of_getElem? (i := 1029) (by decide +kernel), List.mem_of_getElem? (i := 1515) (by decide +kernel), List.mem_of_getElem? (i := 1516) (by decide +kernel)⟩
theorem lw_p90 : lw_okq (⟨"TreeFlowsModel", "flowAt", "(I)I"⟩, 44) := ⟨⟨by decide +kernel, by decide +kernel⟩, List.mem_of_getElem? (i := 1029) (by decide +kernel), List.mem_of_getElem? (i := 1524) (by decide +kernel), List.mem_of_getElem? (i := 1525) (by decide +kernel)⟩
theorem lw_p91 : lw_okq (⟨"TreeFlowsModel", "goesTrip", "()Z"⟩, 44) := ⟨⟨by decide +kernel, by decide +kernel⟩, List.mem_of_getElem? (i := 1029) (by decide +kernel), List.mem_of_getElem? (i := 1539) (by decide +kernel), List.mem_of_getElem? (i := 1540) (by decide +kernel)⟩
theorem lw_p92 : lw_okq (⟨"TreeFlowsModel", "startOf", "()I"⟩, 44) := ⟨⟨by decide +kernel, by decide +kernel⟩, List.mem_of_getElem? (i := 1029) (by decide +kernel), List.mem_of_getElem? (i := 1543) (by decide +kernel), List.mem_of_getElem? (i := 1544) (by decide +kernel)⟩
theorem lw_p93 : lw_okq (⟨"TreeFlowsModel", "outOf", "(I)I"⟩, 44) := ⟨⟨by decide +kernel, by decide +kernel⟩, List.mem_of_getElem? (i := 1029) (by decide +kernel), List.mem_of_getElem? (i := 1547) (by decide +kernel), List.mem_of_getElem? (i := 1548) (by decide +kernel)⟩
theorem lw_p94 : lw_okq (⟨"TreeFlowsModel", "stopAt", "(II)I"⟩, 44) := ⟨⟨by decide +kernel, by decide +kernel⟩, List.mem_of_getElem? (i := 1029) (by decide +kernel), List.mem_of_getElem? (i := 1551) (by decide +kernel), List.mem_of_getElem? (i := 1552) (by decide +kernel)⟩
theorem lw_p95 : lw_okq (⟨"TreeFlowsModel", "flowIn", "(II)I"⟩, 44) := ⟨⟨by decide +kernel, by decide +kernel⟩, List.mem_of_getElem? (i := 1029) (by decide +kernel), List.mem_of_getElem? (i := 1559) (by decide +kernel), List.mem_of_getElem? (i := 1560) (by decide +kernel)⟩
def lw_privs_6 : List (MethodName × Nat) := [(⟨"TreeFlowsModel", "isArc", "(I)Z"⟩, 44), (⟨"TreeFlowsModel", "becomes", "(III)V"⟩, 44), (⟨"TreeFlowsModel", "copies", "(II)V"⟩, 44), (⟨"TreeFlowsModel", "isDone", "(JIII)Z"⟩, 44), (⟨"TreeFlowsModel", "isDoneArc", "(IIII)Z"⟩, 44), (⟨"TreeFlowsModel", "unmet", "()I"⟩, 44), (⟨"TreeFlowsModel", "below", "(I)I"⟩, 44), (⟨"TreeFlowsModel", "childOf", "(II)I"⟩, 44), (⟨"TreeFlowsModel", "costOfCycle", "()I"⟩, 44), (⟨"TreeFlowsModel", "billed", "()I"⟩, 44), (⟨"TreeFlowsModel", "flowAt", "(I)I"⟩, 44), (⟨"TreeFlowsModel", "goesTrip", "()Z"⟩, 44), (⟨"TreeFlowsModel", "startOf", "()I"⟩, 44), (⟨"TreeFlowsModel", "outOf", "(I)I"⟩, 44), (⟨"TreeFlowsModel", "stopAt", "(II)I"⟩, 44), (⟨"TreeFlowsModel", "flowIn", "(II)I"⟩, 44)]
theorem lw_r6 : ∀ q ∈ lw_privs_6, lw_okq q := List.forall_mem_cons.mpr ⟨lw_p80, List.forall_mem_cons.mpr ⟨lw_p81, List.forall_mem_cons.mpr ⟨lw_p82, List.forall_mem_cons.mpr ⟨lw_p83, List.forall_mem_cons.mpr ⟨lw_p84, List.forall_mem_cons.mpr ⟨lw_p85, List.forall_mem_cons.mpr ⟨lw_p86, List.forall_mem_cons.mpr ⟨lw_p87, List.forall_mem_cons.mpr ⟨lw_p88, List.forall_mem_cons.mpr ⟨lw_p89, List.forall_mem_cons.mpr ⟨lw_p90, List.forall_mem_cons.mpr ⟨lw_p91, List.forall_mem_cons.mpr ⟨lw_p92, List.forall_mem_cons.mpr ⟨lw_p93, List.forall_mem_cons.mpr ⟨lw_p94, List.forall_mem_cons.mpr ⟨lw_p95, fun _ h => absurd h List.not_mem_nil⟩⟩⟩⟩⟩⟩⟩⟩⟩⟩⟩⟩⟩⟩⟩⟩
theorem lw_p96 : lw_okq (⟨"TreeFlowsModel", "asNow", "()V"⟩, 44) := ⟨⟨by decide +kernel, by decide +kernel⟩, List.mem_of_getElem? (i := 1029) (by decide +kernel), List.mem_of_getElem? (i := 1571) (by decide +kernel), List.mem_of_getElem? (i := 1572) (by decide +kernel)⟩
theorem lw_p97 : lw_okq (⟨"TreeFlowsModel", "cheapestCost", "()I"⟩, 44) := ⟨⟨by decide +kernel, by decide +kernel⟩, List.mem_of_getElem? (i := 1029) (by decide +kernel), List.mem_of_getElem? (i := 1575) (by decide +kernel), List.mem_of_getElem? (i := 1576) (by decide +kernel)⟩
theorem lw_p98 : lw_okq (⟨"TreeFlowsModel", "carries", "()Z"⟩, 44) := ⟨⟨by decide +kernel, by decide +kernel⟩, List.mem_of_getElem? (i := 1029) (by decide +kernel), List.mem_of_getElem? (i := 1579) (by decide +kernel), List.mem_of_getElem? (i := 1580) (by decide +kernel)⟩
theorem lw_p99 : lw_okq (⟨"TreeFlowsModel", "laysCheapest", "()V"⟩, 44) := ⟨⟨by decide +kernel, by decide +kernel⟩, List.mem_of_getElem? (i := 1029) (by decide +kernel), List.mem_of_getElem? (i := 1583) (by decide +kernel), List.mem_of_getElem? (i := 1584) (by decide +kernel)⟩
theorem lw_p100 : lw_okq (⟨"TreeFlowsModel", "relaxes", "(II)Z"⟩, 44) := ⟨⟨by decide +kernel, by decide +kernel⟩, List.mem_of_getElem? (i := 1029) (by decide +kernel), List.mem_of_getElem? (i := 1587) (by decide +kernel), List.mem_of_getElem? (i := 1588) (by decide +kernel)⟩
theorem lw_p101 : lw_okq (⟨"TreeFlowsModel", "wanting", "()I"⟩, 44) := ⟨⟨by decide +kernel, by decide +kernel⟩, List.mem_of_getElem? (i := 1029) (by decide +kernel), List.mem_of_getElem? (i := 1591) (by decide +kernel), List.mem_of_getElem? (i := 1592) (by decide +kernel)⟩
theorem lw_p102 : lw_okq (⟨"TreeFlowsModel", "sendsTo", "(I)V"⟩, 44) := ⟨⟨by decide +kernel, by decide +kernel⟩, List.mem_of_getElem? (i := 1029) (by decide +kernel), List.mem_of_getElem? (i := 1595) (by decide +kernel), List.mem_of_getElem? (i := 1596) (by decide +kernel)⟩
theorem lw_p103 : lw_okq (⟨"TreeFlowsModel", "backBy", "(I)I"⟩, 44) := ⟨⟨by decide +kernel, by decide +kernel⟩, List.mem_of_getElem? (i := 1029) (by decide +kernel), List.mem_of_getElem? (i := 1599) (by decide +kernel), List.mem_of_getElem? (i := 1600) (by decide +kernel)⟩
theorem lw_p104 : lw_okq (⟨"TreeFlowsModel", "lessThan", "(II)I"⟩, 44) := ⟨⟨by decide +kernel, by decide +kernel⟩, List.mem_of_getElem? (i := 1029) (by decide +kernel), List.mem_of_getElem? (i := 1608) (by decide +kernel), List.mem_of_getElem? (i := 1609) (by decide +kernel)⟩
theorem lw_p105 : lw_okq (⟨"TreeFlowsModel", "bothOf", "(I)I"⟩, 44) := ⟨⟨by decide +kernel, by decide +kernel⟩, List.mem_of_getElem? (i := 1029) (by decide +kernel), List.mem_of_getElem? (i := 1620) (by decide +kernel), List.mem_of_getElem? (i := 1621) (by decide +kernel)⟩
theorem lw_p106 : lw_okq (⟨"TreeFlowsModel", "copiesText", "(II)V"⟩, 44) := ⟨⟨by decide +kernel, by decide +kernel⟩, List.mem_of_getElem? (i := 1029) (by decide +kernel), List.mem_of_getElem? (i := 1639) (by decide +kernel), List.mem_of_getElem? (i := 1640) (by decide +kernel)⟩
def lw_privs_7 : List (MethodName × Nat) := [(⟨"TreeFlowsModel", "asNow", "()V"⟩, 44), (⟨"TreeFlowsModel", "cheapestCost", "()I"⟩, 44), (⟨"TreeFlowsModel", "carries", "()Z"⟩, 44), (⟨"TreeFlowsModel", "laysCheapest", "()V"⟩, 44), (⟨"TreeFlowsModel", "relaxes", "(II)Z"⟩, 44), (⟨"TreeFlowsModel", "wanting", "()I"⟩, 44), (⟨"TreeFlowsModel", "sendsTo", "(I)V"⟩, 44), (⟨"TreeFlowsModel", "backBy", "(I)I"⟩, 44), (⟨"TreeFlowsModel", "lessThan", "(II)I"⟩, 44), (⟨"TreeFlowsModel", "bothOf", "(I)I"⟩, 44), (⟨"TreeFlowsModel", "copiesText", "(II)V"⟩, 44)]
theorem lw_r7 : ∀ q ∈ lw_privs_7, lw_okq q := List.forall_mem_cons.mpr ⟨lw_p96, List.forall_mem_cons.mpr ⟨lw_p97, List.forall_mem_cons.mpr ⟨lw_p98, List.forall_mem_cons.mpr ⟨lw_p99, List.forall_mem_cons.mpr ⟨lw_p100, List.forall_mem_cons.mpr ⟨lw_p101, List.forall_mem_cons.mpr ⟨lw_p102, List.forall_mem_cons.mpr ⟨lw_p103, List.forall_mem_cons.mpr ⟨lw_p104, List.forall_mem_cons.mpr ⟨lw_p105, List.forall_mem_cons.mpr ⟨lw_p106, fun _ h => absurd h List.not_mem_nil⟩⟩⟩⟩⟩⟩⟩⟩⟩⟩⟩
def lw_privs : List (MethodName × Nat) := lw_privs_1 ++ (lw_privs_2 ++ (lw_privs_3 ++ (lw_privs_4 ++ (lw_privs_5 ++ (lw_privs_6 ++ (lw_privs_7))))))
def lw_tbl : List Cond := k2_sels lw_privs ++ tables_1
theorem lw_privs_ok : ∀ q ∈ lw_privs, lw_okq q := by
  show ∀ q ∈ lw_privs_1 ++ (lw_privs_2 ++ (lw_privs_3 ++ (lw_privs_4 ++ (lw_privs_5 ++ (lw_privs_6 ++ (lw_privs_7)))))), lw_okq q
  exact List.forall_mem_append.mpr ⟨lw_r1, List.forall_mem_append.mpr ⟨lw_r2, List.forall_mem_append.mpr ⟨lw_r3, List.forall_mem_append.mpr ⟨lw_r4, List.forall_mem_append.mpr ⟨lw_r5, List.forall_mem_append.mpr ⟨lw_r6, lw_r7⟩⟩⟩⟩⟩⟩
end
section
/-! ===== BEGIN words of one list among another's, by their places ===== -/
theorem goodIn_r {big : List Cond} (ws : List Cond) (ps : List Nat) (hp : ws = ps.filterMap (fun i => big[i]?)) (h : ws.all goodWord = true) : GoodIn big ws := by
  intro w hw
  have h1 := List.all_eq_true.mp h w hw
  rw [hp] at hw
  obtain ⟨i, -, hi⟩ := List.mem_filterMap.mp hw
  have hm : w ∈ big := by first | exact List.mem_of_getElem? hi | exact List.getElem?_mem hi
  exact ⟨hm, good_of_word h1⟩
theorem goodIn_app {big a b : List Cond} (ha : GoodIn big a) (hb : GoodIn big b) : GoodIn big (a ++ b) := fun w h => (List.mem_append.mp h).elim (ha w) (hb w)
theorem goodIn_ca {big a b : List Cond} {c : Cond} (ha : GoodIn big (c :: a)) (hb : GoodIn big b) : GoodIn big (c :: (a ++ b)) := fun w h => (List.mem_cons.mp h).elim (fun e => ha w (List.mem_cons.mpr (Or.inl e))) (fun h => (List.mem_append.mp h).elim (fun h => ha w (List.mem_cons.mpr (Or.inr h))) (hb w))
theorem goodIn_sub {big ws : List Cond} (hm : ∀ w ∈ ws, w ∈ big) (h : ws.all goodWord = true) : GoodIn big ws := fun w hw => ⟨hm w hw, good_of_word (List.all_eq_true.mp h w hw)⟩
/-! ===== END ===== -/

/-! ===== BEGIN exceptions that leave a method, and their catching by the caller (launches without stack traces) ===== -/
section VXA
/-! The laws vx_back, vx_callV, vx_callS, vx_callSW, vx_throw0, vx_throwS follow proofs of the library, with one case more: JvmDerived/Free/Laws.lean (Back.of_free), Shelf42/LK1.lean (callV, callS), Shelf/KitTraced.lean (throwNew0V, throwNewS). -/
/-- where a method has thrown q: the class by its name, the cell, what was written, the world -/
def vx_T (XC : String → State → State → Prop) (st : State) (q : Addr) (t : State) (mc ms : Nat) (free : Addr → Prop) : Prop :=
  ∃ (E : String) (ce : Cell) (L : List Loc), XC E st t ∧ t.heap[q]? = some ce ∧ ce.vm = .none ∧ st.vm.findClass E = some ce.cls ∧ st.WarmedH t.vm ∧ st.sameButNew ({ t with vm := st.vm } : State) L mc ms ∧ ∀ z ∈ L, free z.base
def vx_Q (Qc : Array Value → State → Outcome → State → Prop) (XC : String → State → State → Prop) (mc ms : Nat) (free : Addr → Prop) : Array Value → State → Outcome → State → Prop := fun a st o t =>
  (Qc a st o t ∧ ∃ L, FrameEnd st o t L mc ms ∧ ∀ q ∈ L, free q.base) ∨ ∃ q, o = .threw q ∧ vx_T XC st q t mc ms free
/-- a callee that returns or throws -/
def vx_Met (l : Launch) (y : MethodName) (ws : List Cond) (rm : Room) (Pc : Array Value → State → Prop) (Qc : Array Value → State → Outcome → State → Prop) (XC : String → State → State → Prop) (mc ms : Nat) (free : Addr → Prop) : Prop :=
  MetFree l y (headSpec ws rm) Pc (fun _ _ _ _ _ => True) (vx_Q Qc XC mc ms free)
def vx_Post (XC : String → State → State → Prop) (mc ms : Nat) (free : Addr → Prop) : Pt → Array Value → Addr → Pt → Prop := fun A a q B =>
  ∃ (g : JFrame) (mk : MethodId) (t : State) (L : List Loc) (E : String) (ce : Cell), B.U.heap = t.heap ∧ B.U.vm = t.vm ∧ XC E (A.U.calling g mk a) t ∧ t.heap[q]? = some ce ∧ ce.vm = .none ∧ A.U.vm.findClass E = some ce.cls ∧ B.locs = A.locs ++ L ∧ (∀ z ∈ L, free z.base) ∧ B.cells = A.cells + mc ∧ B.slots = A.slots + ms
def vx_Back (l : Launch) (R : Room) (p : Program) (e : Env) (below : List Frame) (s : State) (sargs : Array Value) (y : MethodName) (len W9 : Nat)
    (Pre : Pt → Array Value → Prop) (Post : Pt → Array Value → Option Value → Pt → Prop) (PostX : Pt → Array Value → Addr → Pt → Prop) : Prop :=
  ∀ (m : MethodId) (meth : Method) (c : Code) (A : Pt) (g : JFrame) (ig : Instr) (mk : MethodId) (a : Array Value),
    Stand p l e R s m sargs below meth c A.U A.locs A.cells A.slots → g.method = m → g.locals.size = c.maxLocals → decode c.code g.pc = .ok (ig, len) →
    2 * g.monitorRoom + (g.stack.map fun v => v.category).sum ≤ W9 → A.U.methodNamed? y = some mk → Pre A a →
    (∃ (v : Option Value) (B : Pt), Stand p l e R s m sargs below meth c B.U B.locs B.cells B.slots ∧ Post A a v B ∧
      Steps p.tables e below (doInvoke e (A.U.setTop g) [] mk a).1 (B.U.setTop { g with pc := g.pc + len, stack := v.toList ++ g.stack })) ∨
    (∃ (q : Addr) (B : Pt), Stand p l e R s m sargs below meth c B.U B.locs B.cells B.slots ∧ PostX A a q B ∧
      Steps p.tables e below (doInvoke e (A.U.setTop g) [] mk a).1 ((B.U.setTop g).pushFrame (.throwing q)))
section Payer
variable {l : Launch} {R : Room} {p : Program} {e : Env} {below : List Frame} {s : State} {sargs : Array Value} {y : MethodName} {len W9 : Nat}
theorem vx_back {ws : List Cond} {rm : Room} {Pc : Array Value → State → Prop} {Qc : Array Value → State → Outcome → State → Prop} {XC : String → State → State → Prop} {mc ms : Nat} {free : Addr → Prop} {bytes : ByteArray} {maxL : Nat} {ret : Option FieldType}
    (hM : vx_Met l y ws rm Pc Qc XC mc ms free) (hblind : FrameBlind Pc) (hrc : rm.cells = mc) (hrs : rm.slots = ms)
    (hframes : rm.frames + 1 ≤ R.frames) (hlocals : W9 + (maxL + 11) + rm.locals ≤ R.locals)
    (hws : ∀ w ∈ ws, ∀ a' U, s.WarmedH U.vm → w.before a' U = true) (hcode : Cond.code y bytes maxL ret ∈ ws) (hinit : ∀ a' U, s.WarmedH U.vm → (Cond.initialized y.cls).before a' U = true) :
    vx_Back l R p e below s sargs y len W9 (PreOf R mc ms Pc) (PostOf Qc mc ms free) (vx_Post XC mc ms free) := by
  intro m meth c A g ig mk a X hg hsize hdg hW hn hp
  have h1 : (headSpec ws rm).pre.before a A.U = true := atoms_intro fun w hw => hws w hw _ _ X.warmed
  have h2 : (Cond.code y bytes maxL ret).before a A.U = true := hws _ hcode _ _ X.warmed
  have h3 : (Cond.initialized y.cls).before a A.U = true := hinit _ _ X.warmed
  have h4 : A.cells + (headSpec ws rm).room.cells ≤ R.cells := by rw [show (headSpec ws rm).room.cells = mc from hrc]; exact hp.1
  have h5 : A.slots + (headSpec ws rm).room.slots ≤ R.slots := by rw [show (headSpec ws rm).room.slots = ms from hrs]; exact hp.2.1
  have hPc : Pc a (A.U.calling g mk a) := hblind _ _ _ _ hp.2.2
  obtain ⟨U, Ls, c0, s0⟩ := A
  dsimp only [Pt.U, Pt.locs, Pt.cells, Pt.slots] at h1 h2 h3 h4 h5 X hn hPc ⊢
  obtain ⟨methY, cY, hmY, hcY, -, hlY, -, -, -, -⟩ := Cond.code_spec hn h2
  obtain ⟨kY, hkY, -⟩ := className_of_methodNamed hn
  have hinitY : kY.init = .initialized := Cond.initialized_spec (findClass_of_methodNamed hn) hkY h3
  have h : At U g.method c below := by rw [hg]; exact X.here
  have hlocals9 : W9 + (maxL + 11) + (headSpec ws rm).room.locals ≤ R.locals := hlocals
  have happ : (headSpec ws rm).appliesLoose y e.platform (U.calling g mk a) = true :=
    Spec.appliesLoose_calling (g := g) h hdg hn hkY hinitY
      (X.room_calling (g := g) (R' := (headSpec ws rm).room) hsize hmY hcY hframes (by rw [hlY]; omega) h4 h5) h1
  obtain ⟨mid, hmid⟩ := h.above
  have hfr : (U.setTop g).frames = (.java g :: mid) ++ below := by rw [State.frames_setTop' g h.top, hmid]; rfl
  obtain ⟨o, s₂, hsteps, -, hend, hq⟩ := Steps.callFree hM p X.admits X.cas X.clock (acts := []) hfr happ hPc trivial
  have hq' : vx_Q Qc XC mc ms free a (U.calling g mk a) o s₂ := hq
  rw [State.frames_setTop' g h.top] at hend
  obtain ⟨g₀, hg0⟩ := Option.isSome_iff_exists.mp h.top
  obtain ⟨r, hr⟩ := State.topJava?_eq_some.mp hg0
  have hr' : (({ U with heap := s₂.heap, slotsUsed := s₂.slotsUsed } : State).setVm s₂.vm).frames = .java g₀ :: r := hr
  rcases hq' with ⟨hqc, L, hfe, hL⟩ | ⟨q, rfl, E, ce, L, hx, hce, hcv, hcl, hW₂, hsm, hL⟩
  · obtain ⟨⟨v, rfl⟩, hW₂, e2, q2, q3, q4, q5, q6⟩ := id hfe
    have e3 : s₂ = ({ (U.calling g mk a).setFrames s₂.frames with heap := s₂.heap, slotsUsed := s₂.slotsUsed } : State).setVm s₂.vm := by
      have : s₂ = ({ s₂ with vm := (U.calling g mk a).vm } : State).setVm s₂.vm := rfl
      rw [e2] at this
      exact this
    obtain ⟨c₂, i₂, len₂, hc₂, hd₂, hf₂⟩ := hend
    have hW' : U.WarmedH s₂.vm := hW₂
    have hcc : c₂ = c := by
      have h1 : s₂.code? g.method = U.code? g.method := by
        rw [State.code?_eq, State.code?_eq, hW'.alike.method?]
      exact Option.some.inj (hc₂.symm.trans (h1.trans h.code))
    subst hcc
    have hlen : len₂ = len := by rw [hdg] at hd₂; cases hd₂; rfl
    subst hlen
    have hs₂ : s₂ = (({ U with heap := s₂.heap, slotsUsed := s₂.slotsUsed } : State).setVm s₂.vm).setTop { g with pc := g.pc + len₂, stack := v.toList ++ g.stack } := by
      refine e3.trans ?_
      rw [hf₂, State.calling_eq h.top, State.setFrames_setFrames, State.setTop_of_frames _ hr', hr]
      rfl
    have hsame : U.sameButNew ({ U with heap := s₂.heap, slotsUsed := s₂.slotsUsed } : State) L mc ms := by
      refine ⟨?_, q2, q3, q4, q5, q6⟩
      obtain ⟨t, ht, -⟩ := State.frames_cons hr
      show ({ U with heap := s₂.heap, slotsUsed := s₂.slotsUsed } : State) = { U.setFrames U.frames with heap := s₂.heap, slotsUsed := s₂.slotsUsed }
      rw [State.setFrames_self ht]
    subst hg
    refine Or.inl ⟨v, ⟨(({ U with heap := s₂.heap, slotsUsed := s₂.slotsUsed } : State).setVm s₂.vm), Ls ++ L, c0 + mc, s0 + ms⟩,
      ⟨X.admits, X.cas, X.clock, X.frames, X.room, X.hears, X.method, X.code, (X.here.setHeapUsed s₂.heap s₂.slotsUsed).setVm hW'.alike, X.tail, State.WarmedH.trans X.warmed hW', X.limits, X.bytes, X.same.trans (hsame.setVm s.vm)⟩,
      ⟨g, mk, s₂, L, rfl, rfl, hqc, rfl, hL, rfl, rfl⟩, ?_⟩
    show Steps p.tables e below _ ((({ U with heap := s₂.heap, slotsUsed := s₂.slotsUsed } : State).setVm s₂.vm).setTop { g with pc := g.pc + len₂, stack := v.toList ++ g.stack })
    rw [← hs₂]
    exact hsteps
  · obtain ⟨e2, q2, q3, q4, q5, q6⟩ := id hsm
    have e3 : s₂ = ({ (U.calling g mk a).setFrames s₂.frames with heap := s₂.heap, slotsUsed := s₂.slotsUsed } : State).setVm s₂.vm := by
      have : s₂ = ({ s₂ with vm := (U.calling g mk a).vm } : State).setVm s₂.vm := rfl
      rw [e2] at this
      exact this
    have hf₂ : s₂.frames = .throwing q :: .java g :: U.frames.tail := hend
    have hW' : U.WarmedH s₂.vm := hW₂
    have hs₂ : s₂ = ((({ U with heap := s₂.heap, slotsUsed := s₂.slotsUsed } : State).setVm s₂.vm).setTop g).pushFrame (.throwing q) := by
      refine e3.trans ?_
      rw [hf₂, State.calling_eq h.top, State.setFrames_setFrames, State.pushFrame, State.frames_setTop _ hr', State.setTop_of_frames _ hr', State.setFrames_setFrames, hr]
      rfl
    have hsame : U.sameButNew ({ U with heap := s₂.heap, slotsUsed := s₂.slotsUsed } : State) L mc ms := by
      refine ⟨?_, q2, q3, q4, q5, q6⟩
      obtain ⟨t, ht, -⟩ := State.frames_cons hr
      show ({ U with heap := s₂.heap, slotsUsed := s₂.slotsUsed } : State) = { U.setFrames U.frames with heap := s₂.heap, slotsUsed := s₂.slotsUsed }
      rw [State.setFrames_self ht]
    subst hg
    refine Or.inr ⟨q, ⟨(({ U with heap := s₂.heap, slotsUsed := s₂.slotsUsed } : State).setVm s₂.vm), Ls ++ L, c0 + mc, s0 + ms⟩,
      ⟨X.admits, X.cas, X.clock, X.frames, X.room, X.hears, X.method, X.code, (X.here.setHeapUsed s₂.heap s₂.slotsUsed).setVm hW'.alike, X.tail, State.WarmedH.trans X.warmed hW', X.limits, X.bytes, X.same.trans (hsame.setVm s.vm)⟩,
      ⟨g, mk, s₂, L, E, ce, rfl, rfl, hx, hce, hcv, hcl, rfl, hL, rfl, rfl⟩, ?_⟩
    show Steps p.tables e below _ (((({ U with heap := s₂.heap, slotsUsed := s₂.slotsUsed } : State).setVm s₂.vm).setTop g).pushFrame (.throwing q))
    rw [← hs₂]
    exact hsteps
end Payer
section Calls
variable {p : Program} {l : Launch} {e : Env} {R : Room} {s : State} {m : MethodId} {args : Array Value} {below : List Frame} {meth : Method} {c : Code} {T : State} {locs : List Loc} {cells slots : Nat}
theorem vx_callV (X : Stand p l e R s m args below meth c T locs cells slots) (hexec : p.tables.exec = Jvm.exec) {own C : String} {index : Nat} {y : MethodName} {bytes : ByteArray} {maxL : Nat} {ret : Option FieldType}
    (hown : s.vm.findClass own = some m.cls) (hlink : (Cond.methodLink own index y).before args s = true) (hinst : (Cond.instanceMethod y).before args s = true) (hsel : (Cond.selects C y y).before args s = true)
    (hcode : (Cond.code y bytes maxL ret).before args s = true) (hy : y.cls ≠ "java/lang/invoke/MethodHandle" ∧ y.cls ≠ "java/lang/invoke/VarHandle")
    {W9 : Nat} {Pre : Pt → Array Value → Prop} {Post : Pt → Array Value → Option Value → Pt → Prop} {PostX : Pt → Array Value → Addr → Pt → Prop} (hK : vx_Back l R p e below s args y 3 W9 Pre Post PostX)
    {b : Addr} {cellB : Cell} (hcell : T.heap[b]? = some cellB) (hobj : cellB.vm.isStatics = false) (hcls : s.vm.findClass C = some cellB.cls)
    {g : JFrame} (hg : g.method = m) (hsize : g.locals.size = c.maxLocals) {argsL rest : List Value} (hlen : ∀ sig, parseMethodDescriptor y.desc = some sig → argsL.length = sig.parameters.length)
    (hstack : g.stack = argsL.reverse ++ .ref b :: rest) (hW : 2 * g.monitorRoom + (rest.map fun v => v.category).sum ≤ W9) (hdg : decode c.code g.pc = .ok (.invokevirtual index, 3))
    (hpre : ∀ vm₁, s.WarmedH vm₁ → Pre ⟨T.setVm vm₁, locs, cells, slots⟩ (Value.ref b :: argsL).toArray) :
    (∃ (v : Option Value) (vm₁ : Vm) (B : Pt), s.WarmedH vm₁ ∧ Stand p l e R s m args below meth c B.U B.locs B.cells B.slots ∧ Post ⟨T.setVm vm₁, locs, cells, slots⟩ (Value.ref b :: argsL).toArray v B ∧
      ∀ target, Steps p.tables e below (B.U.setTop { g with pc := g.pc + 3, stack := v.toList ++ rest }) target → Steps p.tables e below (T.setTop g) target) ∨
    (∃ (q : Addr) (vm₁ : Vm) (B : Pt), s.WarmedH vm₁ ∧ Stand p l e R s m args below meth c B.U B.locs B.cells B.slots ∧ PostX ⟨T.setVm vm₁, locs, cells, slots⟩ (Value.ref b :: argsL).toArray q B ∧
      Steps p.tables e below (T.setTop g) ((B.U.setTop { g with stack := rest }).pushFrame (.throwing q))) := by
  obtain ⟨mk, methM, hnamed, hmethM, hstM, habM⟩ := Cond.instanceMethod_spec hinst
  obtain ⟨methM', cM, hmethM', -, -, -, -, -, -, hsigM⟩ := Cond.code_spec hnamed hcode
  cases hmethM.symm.trans hmethM'
  obtain ⟨c2, r2, m2, q1, q2, q3, q4, kP, hkP, hkPi⟩ := Cond.selects_spec hsel
  cases hcls.symm.trans q1
  cases (State.methodFound?_of_named hnamed hy).symm.trans q2
  cases hnamed.symm.trans q3
  have hselP : selectMethod e.platform s.vm cellB.cls mk = .method mk := by rw [Launch.admits_selectMethod X.admits]; exact q4
  obtain ⟨vm₁, X₁, hstep₁⟩ := X.invokevirtual hexec hown hlink hnamed hmethM hstM hkP hkPi hy (a := b) (cell := cellB) hcell
    (fun z h => by rw [h] at hobj; cases hobj) hselP hmethM habM hkP hkPi (g := g) hg (argsL := argsL) (rest := rest) (hlen _ hsigM) hstack hdg
  rcases hK m meth c ⟨T.setVm vm₁, locs, cells, slots⟩ { g with stack := rest } (.invokevirtual index) mk (Value.ref b :: argsL).toArray X₁ hg hsize hdg hW (X₁.named hnamed) (hpre vm₁ X₁.warmed) with ⟨v, B, X', hpost, hsteps⟩ | ⟨q, B, X', hpost, hsteps⟩
  · exact Or.inl ⟨v, vm₁, B, X₁.warmed, X', hpost, fun target h => hstep₁ _ fun acts => by rw [doInvoke_state]; exact hsteps.trans h⟩
  · exact Or.inr ⟨q, vm₁, B, X₁.warmed, X', hpost, hstep₁ _ fun acts => by rw [doInvoke_state]; exact hsteps⟩
theorem vx_callS (X : Stand p l e R s m args below meth c T locs cells slots) (hexec : p.tables.exec = Jvm.exec) {own : String} {index : Nat} {y : MethodName} {bytes : ByteArray} {maxL : Nat} {ret : Option FieldType}
    (hown : s.vm.findClass own = some m.cls) (hlink : (Cond.methodLink own index y).before args s = true) (hstat : (Cond.static y).before args s = true) (hinit : (Cond.initialized y.cls).before args s = true)
    (hcode : (Cond.code y bytes maxL ret).before args s = true) (hy : y.cls ≠ "java/lang/invoke/MethodHandle" ∧ y.cls ≠ "java/lang/invoke/VarHandle")
    {W9 : Nat} {Pre : Pt → Array Value → Prop} {Post : Pt → Array Value → Option Value → Pt → Prop} {PostX : Pt → Array Value → Addr → Pt → Prop} (hK : vx_Back l R p e below s args y 3 W9 Pre Post PostX)
    {g : JFrame} (hg : g.method = m) (hsize : g.locals.size = c.maxLocals) {argsL rest : List Value} (hlen : ∀ sig, parseMethodDescriptor y.desc = some sig → argsL.length = sig.parameters.length)
    (hstack : g.stack = argsL.reverse ++ rest) (hW : 2 * g.monitorRoom + (rest.map fun v => v.category).sum ≤ W9) (hdg : decode c.code g.pc = .ok (.invokestatic index, 3))
    (hpre : ∀ vm₁, s.WarmedH vm₁ → Pre ⟨T.setVm vm₁, locs, cells, slots⟩ argsL.toArray) :
    (∃ (v : Option Value) (vm₁ : Vm) (B : Pt), s.WarmedH vm₁ ∧ Stand p l e R s m args below meth c B.U B.locs B.cells B.slots ∧ Post ⟨T.setVm vm₁, locs, cells, slots⟩ argsL.toArray v B ∧
      ∀ target, Steps p.tables e below (B.U.setTop { g with pc := g.pc + 3, stack := v.toList ++ rest }) target → Steps p.tables e below (T.setTop g) target) ∨
    (∃ (q : Addr) (vm₁ : Vm) (B : Pt), s.WarmedH vm₁ ∧ Stand p l e R s m args below meth c B.U B.locs B.cells B.slots ∧ PostX ⟨T.setVm vm₁, locs, cells, slots⟩ argsL.toArray q B ∧
      Steps p.tables e below (T.setTop g) ((B.U.setTop { g with stack := rest }).pushFrame (.throwing q))) := by
  obtain ⟨mk, hnamed⟩ := Cond.code_named hcode
  obtain ⟨methM, cM, hmethM, -, -, -, -, -, -, hsigM⟩ := Cond.code_spec hnamed hcode
  have hstatic : methM.isStatic = true := Cond.static_spec hnamed hmethM hstat
  obtain ⟨kP, hkP, -⟩ := className_of_methodNamed hnamed
  have hinitP : kP.init = .initialized := Cond.initialized_spec (findClass_of_methodNamed hnamed) hkP hinit
  obtain ⟨vm₁, X₁, hstep₁⟩ := X.invokestatic hexec hown hlink hnamed hmethM hstatic hkP hinitP hy (g := g) hg (argsL := argsL) (rest := rest) (hlen _ hsigM) hstack hdg
  rcases hK m meth c ⟨T.setVm vm₁, locs, cells, slots⟩ { g with stack := rest } (.invokestatic index) mk argsL.toArray X₁ hg hsize hdg hW (X₁.named hnamed) (hpre vm₁ X₁.warmed) with ⟨v, B, X', hpost, hsteps⟩ | ⟨q, B, X', hpost, hsteps⟩
  · exact Or.inl ⟨v, vm₁, B, X₁.warmed, X', hpost, fun target h => hstep₁ _ fun acts => by rw [doInvoke_state]; exact hsteps.trans h⟩
  · exact Or.inr ⟨q, vm₁, B, X₁.warmed, X', hpost, hstep₁ _ fun acts => by rw [doInvoke_state]; exact hsteps⟩
end Calls
theorem vx_cls {s : State} {T : State} {vm₁ : Vm} {E : String} {k : ClassId} (hW : s.WarmedH vm₁) (h : (T.setVm vm₁).vm.findClass E = some k) : s.vm.findClass E = some k := by
  have h1 : vm₁.findClass E = some k := h
  rw [hW.alike.findClass] at h1
  exact h1
/-- the method's frame g, with q thrown over it -/
def vx_W (p : Program) (l : Launch) (e : Env) (R : Room) (s : State) (m : MethodId) (args : Array Value) (below : List Frame) (meth : Method) (c : Code) (H : Heap) (locs : List Loc) (cells slots : Nat) (Q : State → Prop) (g : JFrame) (q : Addr) : Prop :=
  ∀ T : State, T.heap = H → Stand p l e R s m args below meth c T locs cells slots → ∃ t, Steps p.tables e below ((T.setTop g).pushFrame (.throwing q)) t ∧ Q t
def vx_Run (p : Program) (l : Launch) (e : Env) (R : Room) (s : State) (m : MethodId) (args : Array Value) (below : List Frame) (meth : Method) (c : Code) (H : Heap) (locs : List Loc) (cells slots mc ms : Nat) (g : JFrame) (rest : List Value) (Qa : State → Outcome → State → Prop) (XC : String → State → State → Prop) (free : Addr → Prop) : Prop :=
  ∀ T : State, T.heap = H → Stand p l e R s m args below meth c T locs cells slots →
    (∃ (v : Option Value) (st₀ t T' : State) (L : List Loc), st₀.heap = H ∧ Stand p l e R s m args below meth c T' (locs ++ L) (cells + mc) (slots + ms) ∧ (∀ q ∈ L, free q.base) ∧ T'.heap = t.heap ∧ T'.vm = t.vm ∧ Qa st₀ (.returned v) t ∧
      Goes p e below T g T' { g with pc := g.pc + 3, stack := v.toList ++ rest }) ∨
    (∃ (q : Addr) (st₀ t T' : State) (L : List Loc) (E : String) (ce : Cell), st₀.heap = H ∧ Stand p l e R s m args below meth c T' (locs ++ L) (cells + mc) (slots + ms) ∧ (∀ z ∈ L, free z.base) ∧ T'.heap = t.heap ∧ T'.vm = t.vm ∧ XC E st₀ t ∧ t.heap[q]? = some ce ∧ ce.vm = .none ∧ s.vm.findClass E = some ce.cls ∧
      Steps p.tables e below (T.setTop g) ((T'.setTop { g with stack := rest }).pushFrame (.throwing q)))
def vx_X {S : Type} (px : S → Prop) (B : String → S → State → Prop) (A : Nat → Prop) : String → State → State → Prop := fun E st t => ∃ u : S, px u ∧ B E u t ∧ va_F A st t
section Runs
variable {p : Program} {l : Launch} {e : Env} {R : Room} {s : State} {m : MethodId} {args : Array Value} {below : List Frame} {meth : Method} {c : Code} {H : Heap} {locs : List Loc} {cells slots : Nat}
variable {y : MethodName} {bytes cc : ByteArray} {maxL nL mc ms n index : Nat} {ret : Option FieldType} {ws : List Cond} {rm : Room} {Pc : Array Value → State → Prop} {Qc : Array Value → State → Outcome → State → Prop} {XC : String → State → State → Prop} {free : Addr → Prop} {Ts : List Cond} {own C : String} {b : Addr} {As rest : List Value} {g : JFrame}
theorem vx_callBack (cb : CallB R s args own index y bytes maxL ret ws rm mc ms n) (hM : vx_Met l y ws rm Pc Qc XC mc ms free) (hbl : FrameBlind Pc) : vx_Back l R p e below s args y 3 8 (PreOf R mc ms Pc) (PostOf Qc mc ms free) (vx_Post XC mc ms free) := by
  obtain ⟨hrc, hrs, hfr, hlo, hws, hcw, -, hini, -⟩ := cb
  exact vx_back (bytes := bytes) (maxL := maxL) (ret := ret) hM hbl hrc hrs hfr hlo hws hcw (fun a' U hW => word_at hW (Or.inl (by first | rfl | simp [Cond.onTables, Cond.keeps, Cond.steady])) hini)
theorem vx_runV (S : CallFix p m c cc nL s args Ts own) (hM : vx_Met l y ws rm Pc Qc XC mc ms free) (cw : CallW R s args own C index y bytes maxL ret ws rm mc ms n) (hp : PreV s H C b Pc As)
    (hg : g.method = m) (hn : As.length = n) (hsize : g.locals.size = nL) (hstack : g.stack = As.reverse ++ .ref b :: rest) (hW : 2 * g.monitorRoom + (rest.map fun v => v.category).sum ≤ 8) (hdg : decode cc g.pc = .ok (.invokevirtual index, 3)) (hf : cells + mc ≤ R.cells ∧ slots + ms ≤ R.slots) :
    vx_Run p l e R s m args below meth c H locs cells slots mc ms g rest (Qc (Value.ref b :: As).toArray) XC free := by
  have hK : vx_Back l R p e below s args y 3 8 (PreOf R mc ms Pc) (PostOf Qc mc ms free) (vx_Post XC mc ms free) := vx_callBack cw.1 hM hp.1
  obtain ⟨⟨-, -, -, -, -, -, hcode, -, hy, hlen, hl⟩, hin, hse⟩ := cw
  obtain ⟨hx, hb, hml, ho, -⟩ := S
  obtain ⟨-, ⟨cellB, hcB, hoB, hclB⟩, hPc⟩ := hp
  intro T hT X
  rcases vx_callV X hx (C := C) (bytes := bytes) (maxL := maxL) (ret := ret) ho hl hin hse hcode hy hK (by rw [hT]; exact hcB) hoB hclB hg (hsize.trans hml.symm) (argsL := As) (rest := rest) (fun sig h => hn.trans (hlen sig h)) hstack hW (by rw [hb]; exact hdg)
    (fun vm₁ hW₁ => ⟨hf.1, hf.2, hPc (T.setVm vm₁) hT hW₁⟩) with ⟨v, vm₁, ⟨U', l2, c2, s2⟩, hW₁, X', ⟨g', mk, t, L, e1, e2, hq, h1, hL, h2, h3⟩, st⟩ | ⟨q, vm₁, ⟨U', l2, c2, s2⟩, hW₁, X', ⟨g', mk, t, L, E, ce, e1, e2, hq, hce, hcv, hcl, h1, hL, h2, h3⟩, st⟩
  · dsimp only [Pt.U, Pt.locs, Pt.cells, Pt.slots] at X' e1 e2 h1 h2 h3 st
    subst h1; subst h2; subst h3
    exact Or.inl ⟨v, (T.setVm vm₁).calling g' mk (Value.ref b :: As).toArray, t, U', L, hT, X', hL, e1, e2, hq, st⟩
  · dsimp only [Pt.U, Pt.locs, Pt.cells, Pt.slots] at X' e1 e2 h1 h2 h3 st hcl
    subst h1; subst h2; subst h3
    exact Or.inr ⟨q, (T.setVm vm₁).calling g' mk (Value.ref b :: As).toArray, t, U', L, E, ce, hT, X', hL, e1, e2, hq, hce, hcv, vx_cls hW₁ hcl, st⟩
theorem vx_runS (S : CallFix p m c cc nL s args Ts own) (hM : vx_Met l y ws rm Pc Qc XC mc ms free) (cw : CallB R s args own index y bytes maxL ret ws rm mc ms n ∧ (Cond.static y).before args s = true) (hp : PreS s H Pc As)
    (hg : g.method = m) (hn : As.length = n) (hsize : g.locals.size = nL) (hstack : g.stack = As.reverse ++ rest) (hW : 2 * g.monitorRoom + (rest.map fun v => v.category).sum ≤ 8) (hdg : decode cc g.pc = .ok (.invokestatic index, 3)) (hf : cells + mc ≤ R.cells ∧ slots + ms ≤ R.slots) :
    vx_Run p l e R s m args below meth c H locs cells slots mc ms g rest (Qc As.toArray) XC free := by
  have hK : vx_Back l R p e below s args y 3 8 (PreOf R mc ms Pc) (PostOf Qc mc ms free) (vx_Post XC mc ms free) := vx_callBack cw.1 hM hp.1
  obtain ⟨⟨-, -, -, -, -, -, hcode, hini, hy, hlen, hl⟩, hstt⟩ := cw
  obtain ⟨hx, hb, hml, ho, -⟩ := S
  intro T hT X
  rcases vx_callS X hx (bytes := bytes) (maxL := maxL) (ret := ret) ho hl hstt hini hcode hy hK hg (hsize.trans hml.symm) (argsL := As) (rest := rest) (fun sig h => hn.trans (hlen sig h)) hstack hW (by rw [hb]; exact hdg)
    (fun vm₁ hW₁ => ⟨hf.1, hf.2, hp.2 (T.setVm vm₁) hT hW₁⟩) with ⟨v, vm₁, ⟨U', l2, c2, s2⟩, hW₁, X', ⟨g', mk, t, L, e1, e2, hq, h1, hL, h2, h3⟩, st⟩ | ⟨q, vm₁, ⟨U', l2, c2, s2⟩, hW₁, X', ⟨g', mk, t, L, E, ce, e1, e2, hq, hce, hcv, hcl, h1, hL, h2, h3⟩, st⟩
  · dsimp only [Pt.U, Pt.locs, Pt.cells, Pt.slots] at X' e1 e2 h1 h2 h3 st
    subst h1; subst h2; subst h3
    exact Or.inl ⟨v, (T.setVm vm₁).calling g' mk As.toArray, t, U', L, hT, X', hL, e1, e2, hq, st⟩
  · dsimp only [Pt.U, Pt.locs, Pt.cells, Pt.slots] at X' e1 e2 h1 h2 h3 st hcl
    subst h1; subst h2; subst h3
    exact Or.inr ⟨q, (T.setVm vm₁).calling g' mk As.toArray, t, U', L, E, ce, hT, X', hL, e1, e2, hq, hce, hcv, vx_cls hW₁ hcl, st⟩
end Runs
section Rows
variable {p : Program} {l : Launch} {e : Env} {R : Room} {s : State} {m : MethodId} {args : Array Value} {below : List Frame} {meth : Method} {c : Code} {H : Heap} {locs : List Loc} {cells slots : Nat} {Q : State → Prop}
variable {mc ms : Nat} {free : Addr → Prop} {A0 A1 : Nat → Prop} {H0 : Heap} {a : Array Value} {pc : Nat} {ls : Array Slot} {st0 rest : List Value}
theorem vx_keep {st₀ t T' : State} {L : List Loc} (h0 : st₀.heap = H) (e1 : T'.heap = t.heap) (hS : va_S A0 H0 H locs) (hA : ∀ q, q < H.size → A1 q → A0 q) (hf : ∀ q, free q → A0 q) (hL : ∀ q ∈ L, free q.base) (hF : va_F A1 st₀ t) :
    H.size ≤ T'.heap.size ∧ (∀ q : Nat, q < H.size → ¬ A1 q → T'.heap[q]? = H[q]?) ∧ va_S A0 H0 T'.heap (locs ++ L) := by
  obtain ⟨hz, hk⟩ := hF
  rw [h0] at hz hk
  exact ⟨by rw [e1]; exact hz, fun q h1 h2 => by rw [e1]; exact hk q h1 h2,
    ⟨Nat.le_trans hS.1 (by rw [e1]; exact hz), fun q h1 h2 => by rw [e1, hk q (Nat.lt_of_lt_of_le h1 hS.1) (fun z => h2 (hA q (Nat.lt_of_lt_of_le h1 hS.1) z))]; exact hS.2.1 q h1 h2, fun q hq => by
      rcases List.mem_append.mp hq with h | h
      · exact hS.2.2 q h
      · exact hf _ (hL q h)⟩⟩
theorem vx_calli {S SX : Type} {post : Int32 → S → Prop} {px : SX → Prop} {B : S → State → Prop} {BX : String → SX → State → Prop} {AX : Nat → Prop} (hr : vx_Run p l e R s m args below meth c H locs cells slots mc ms (F0 m pc ls st0) rest (va_Qi post B A1 a) (vx_X px BX AX) free) (hS : va_S A0 H0 H locs) (hA : ∀ q, q < H.size → A1 q → A0 q) (hf : ∀ q, free q → A0 q) (hAX : ∀ q, q < H.size → AX q → A0 q)
    (kx : ∀ (E : String) (ce : Cell) (q9 : Addr) (u : SX) (t : State) (H1 : Heap) (locs1 : List Loc), t.heap = H1 → s.vm.Alike t.vm → px u → BX E u t → H.size ≤ H1.size → (∀ q : Nat, q < H.size → ¬ AX q → H1[q]? = H[q]?) → va_S A0 H0 H1 locs1 → H1[q9]? = some ce → ce.vm = .none → s.vm.findClass E = some ce.cls → vx_W p l e R s m args below meth c H1 locs1 (cells + mc) (slots + ms) Q (F0 m pc ls rest) q9)
    (kk : ∀ (r : Int32) (u : S) (t : State) (H1 : Heap) (locs1 : List Loc), t.heap = H1 → s.vm.Alike t.vm → post r u → B u t → H.size ≤ H1.size → (∀ q : Nat, q < H.size → ¬ A1 q → H1[q]? = H[q]?) → va_S A0 H0 H1 locs1 → W p l e R s m args below meth c H1 locs1 (cells + mc) (slots + ms) Q (F0 m (pc + 3) ls (.int r :: rest))) : W p l e R s m args below meth c H locs cells slots Q (F0 m pc ls st0) := by
  intro T hT X
  rcases hr T hT X with ⟨v, st₀, t, T', L, h0, X', hL, e1, e2, ⟨⟨r, u, hv, hp, hb⟩, hF⟩, st⟩ | ⟨q, st₀, t, T', L, E, ce, h0, X', hL, e1, e2, ⟨u, hp, hb, hF⟩, hce, hcv, hcl, st⟩
  · cases hv
    obtain ⟨k1, k2, k3⟩ := vx_keep h0 e1 hS hA hf hL hF
    obtain ⟨t2, a1, b1⟩ := kk r u t T'.heap (locs ++ L) e1.symm (by rw [← e2]; exact X'.warmed.alike) hp hb k1 k2 k3 T' rfl X'
    exact ⟨t2, st t2 a1, b1⟩
  · obtain ⟨k1, k2, k3⟩ := vx_keep h0 e1 hS hAX hf hL hF
    obtain ⟨t2, a1, b1⟩ := kx E ce q u t T'.heap (locs ++ L) e1.symm (by rw [← e2]; exact X'.warmed.alike) hp hb k1 k2 k3 (by rw [e1]; exact hce) hcv hcl T' rfl X'
    exact ⟨t2, st.trans a1, b1⟩
theorem vx_calll {S SX : Type} {post : Int64 → S → Prop} {px : SX → Prop} {B : S → State → Prop} {BX : String → SX → State → Prop} {AX : Nat → Prop} (hr : vx_Run p l e R s m args below meth c H locs cells slots mc ms (F0 m pc ls st0) rest (va_Ql post B A1 a) (vx_X px BX AX) free) (hS : va_S A0 H0 H locs) (hA : ∀ q, q < H.size → A1 q → A0 q) (hf : ∀ q, free q → A0 q) (hAX : ∀ q, q < H.size → AX q → A0 q)
    (kx : ∀ (E : String) (ce : Cell) (q9 : Addr) (u : SX) (t : State) (H1 : Heap) (locs1 : List Loc), t.heap = H1 → s.vm.Alike t.vm → px u → BX E u t → H.size ≤ H1.size → (∀ q : Nat, q < H.size → ¬ AX q → H1[q]? = H[q]?) → va_S A0 H0 H1 locs1 → H1[q9]? = some ce → ce.vm = .none → s.vm.findClass E = some ce.cls → vx_W p l e R s m args below meth c H1 locs1 (cells + mc) (slots + ms) Q (F0 m pc ls rest) q9)
    (kk : ∀ (r : Int64) (u : S) (t : State) (H1 : Heap) (locs1 : List Loc), t.heap = H1 → s.vm.Alike t.vm → post r u → B u t → H.size ≤ H1.size → (∀ q : Nat, q < H.size → ¬ A1 q → H1[q]? = H[q]?) → va_S A0 H0 H1 locs1 → W p l e R s m args below meth c H1 locs1 (cells + mc) (slots + ms) Q (F0 m (pc + 3) ls (.long r :: rest))) : W p l e R s m args below meth c H locs cells slots Q (F0 m pc ls st0) := by
  intro T hT X
  rcases hr T hT X with ⟨v, st₀, t, T', L, h0, X', hL, e1, e2, ⟨⟨r, u, hv, hp, hb⟩, hF⟩, st⟩ | ⟨q, st₀, t, T', L, E, ce, h0, X', hL, e1, e2, ⟨u, hp, hb, hF⟩, hce, hcv, hcl, st⟩
  · cases hv
    obtain ⟨k1, k2, k3⟩ := vx_keep h0 e1 hS hA hf hL hF
    obtain ⟨t2, a1, b1⟩ := kk r u t T'.heap (locs ++ L) e1.symm (by rw [← e2]; exact X'.warmed.alike) hp hb k1 k2 k3 T' rfl X'
    exact ⟨t2, st t2 a1, b1⟩
  · obtain ⟨k1, k2, k3⟩ := vx_keep h0 e1 hS hAX hf hL hF
    obtain ⟨t2, a1, b1⟩ := kx E ce q u t T'.heap (locs ++ L) e1.symm (by rw [← e2]; exact X'.warmed.alike) hp hb k1 k2 k3 (by rw [e1]; exact hce) hcv hcl T' rfl X'
    exact ⟨t2, st.trans a1, b1⟩
theorem vx_callf {S SX : Type} {post : UInt32 → S → Prop} {px : SX → Prop} {B : S → State → Prop} {BX : String → SX → State → Prop} {AX : Nat → Prop} (hr : vx_Run p l e R s m args below meth c H locs cells slots mc ms (F0 m pc ls st0) rest (va_Qf post B A1 a) (vx_X px BX AX) free) (hS : va_S A0 H0 H locs) (hA : ∀ q, q < H.size → A1 q → A0 q) (hf : ∀ q, free q → A0 q) (hAX : ∀ q, q < H.size → AX q → A0 q)
    (kx : ∀ (E : String) (ce : Cell) (q9 : Addr) (u : SX) (t : State) (H1 : Heap) (locs1 : List Loc), t.heap = H1 → s.vm.Alike t.vm → px u → BX E u t → H.size ≤ H1.size → (∀ q : Nat, q < H.size → ¬ AX q → H1[q]? = H[q]?) → va_S A0 H0 H1 locs1 → H1[q9]? = some ce → ce.vm = .none → s.vm.findClass E = some ce.cls → vx_W p l e R s m args below meth c H1 locs1 (cells + mc) (slots + ms) Q (F0 m pc ls rest) q9)
    (kk : ∀ (r : UInt32) (u : S) (t : State) (H1 : Heap) (locs1 : List Loc), t.heap = H1 → s.vm.Alike t.vm → post r u → B u t → H.size ≤ H1.size → (∀ q : Nat, q < H.size → ¬ A1 q → H1[q]? = H[q]?) → va_S A0 H0 H1 locs1 → W p l e R s m args below meth c H1 locs1 (cells + mc) (slots + ms) Q (F0 m (pc + 3) ls (.float r :: rest))) : W p l e R s m args below meth c H locs cells slots Q (F0 m pc ls st0) := by
  intro T hT X
  rcases hr T hT X with ⟨v, st₀, t, T', L, h0, X', hL, e1, e2, ⟨⟨r, u, hv, hp, hb⟩, hF⟩, st⟩ | ⟨q, st₀, t, T', L, E, ce, h0, X', hL, e1, e2, ⟨u, hp, hb, hF⟩, hce, hcv, hcl, st⟩
  · cases hv
    obtain ⟨k1, k2, k3⟩ := vx_keep h0 e1 hS hA hf hL hF
    obtain ⟨t2, a1, b1⟩ := kk r u t T'.heap (locs ++ L) e1.symm (by rw [← e2]; exact X'.warmed.alike) hp hb k1 k2 k3 T' rfl X'
    exact ⟨t2, st t2 a1, b1⟩
  · obtain ⟨k1, k2, k3⟩ := vx_keep h0 e1 hS hAX hf hL hF
    obtain ⟨t2, a1, b1⟩ := kx E ce q u t T'.heap (locs ++ L) e1.symm (by rw [← e2]; exact X'.warmed.alike) hp hb k1 k2 k3 (by rw [e1]; exact hce) hcv hcl T' rfl X'
    exact ⟨t2, st.trans a1, b1⟩
theorem vx_calld {S SX : Type} {post : UInt64 → S → Prop} {px : SX → Prop} {B : S → State → Prop} {BX : String → SX → State → Prop} {AX : Nat → Prop} (hr : vx_Run p l e R s m args below meth c H locs cells slots mc ms (F0 m pc ls st0) rest (va_Qd post B A1 a) (vx_X px BX AX) free) (hS : va_S A0 H0 H locs) (hA : ∀ q, q < H.size → A1 q → A0 q) (hf : ∀ q, free q → A0 q) (hAX : ∀ q, q < H.size → AX q → A0 q)
    (kx : ∀ (E : String) (ce : Cell) (q9 : Addr) (u : SX) (t : State) (H1 : Heap) (locs1 : List Loc), t.heap = H1 → s.vm.Alike t.vm → px u → BX E u t → H.size ≤ H1.size → (∀ q : Nat, q < H.size → ¬ AX q → H1[q]? = H[q]?) → va_S A0 H0 H1 locs1 → H1[q9]? = some ce → ce.vm = .none → s.vm.findClass E = some ce.cls → vx_W p l e R s m args below meth c H1 locs1 (cells + mc) (slots + ms) Q (F0 m pc ls rest) q9)
    (kk : ∀ (r : UInt64) (u : S) (t : State) (H1 : Heap) (locs1 : List Loc), t.heap = H1 → s.vm.Alike t.vm → post r u → B u t → H.size ≤ H1.size → (∀ q : Nat, q < H.size → ¬ A1 q → H1[q]? = H[q]?) → va_S A0 H0 H1 locs1 → W p l e R s m args below meth c H1 locs1 (cells + mc) (slots + ms) Q (F0 m (pc + 3) ls (.double r :: rest))) : W p l e R s m args below meth c H locs cells slots Q (F0 m pc ls st0) := by
  intro T hT X
  rcases hr T hT X with ⟨v, st₀, t, T', L, h0, X', hL, e1, e2, ⟨⟨r, u, hv, hp, hb⟩, hF⟩, st⟩ | ⟨q, st₀, t, T', L, E, ce, h0, X', hL, e1, e2, ⟨u, hp, hb, hF⟩, hce, hcv, hcl, st⟩
  · cases hv
    obtain ⟨k1, k2, k3⟩ := vx_keep h0 e1 hS hA hf hL hF
    obtain ⟨t2, a1, b1⟩ := kk r u t T'.heap (locs ++ L) e1.symm (by rw [← e2]; exact X'.warmed.alike) hp hb k1 k2 k3 T' rfl X'
    exact ⟨t2, st t2 a1, b1⟩
  · obtain ⟨k1, k2, k3⟩ := vx_keep h0 e1 hS hAX hf hL hF
    obtain ⟨t2, a1, b1⟩ := kx E ce q u t T'.heap (locs ++ L) e1.symm (by rw [← e2]; exact X'.warmed.alike) hp hb k1 k2 k3 (by rw [e1]; exact hce) hcv hcl T' rfl X'
    exact ⟨t2, st.trans a1, b1⟩
theorem vx_callv {S SX : Type} {post : S → Prop} {px : SX → Prop} {B : S → State → Prop} {BX : String → SX → State → Prop} {AX : Nat → Prop} (hr : vx_Run p l e R s m args below meth c H locs cells slots mc ms (F0 m pc ls st0) rest (va_Qv post B A1 a) (vx_X px BX AX) free) (hS : va_S A0 H0 H locs) (hA : ∀ q, q < H.size → A1 q → A0 q) (hf : ∀ q, free q → A0 q) (hAX : ∀ q, q < H.size → AX q → A0 q)
    (kx : ∀ (E : String) (ce : Cell) (q9 : Addr) (u : SX) (t : State) (H1 : Heap) (locs1 : List Loc), t.heap = H1 → s.vm.Alike t.vm → px u → BX E u t → H.size ≤ H1.size → (∀ q : Nat, q < H.size → ¬ AX q → H1[q]? = H[q]?) → va_S A0 H0 H1 locs1 → H1[q9]? = some ce → ce.vm = .none → s.vm.findClass E = some ce.cls → vx_W p l e R s m args below meth c H1 locs1 (cells + mc) (slots + ms) Q (F0 m pc ls rest) q9)
    (kk : ∀ (u : S) (t : State) (H1 : Heap) (locs1 : List Loc), t.heap = H1 → s.vm.Alike t.vm → post u → B u t → H.size ≤ H1.size → (∀ q : Nat, q < H.size → ¬ A1 q → H1[q]? = H[q]?) → va_S A0 H0 H1 locs1 → W p l e R s m args below meth c H1 locs1 (cells + mc) (slots + ms) Q (F0 m (pc + 3) ls (rest))) : W p l e R s m args below meth c H locs cells slots Q (F0 m pc ls st0) := by
  intro T hT X
  rcases hr T hT X with ⟨v, st₀, t, T', L, h0, X', hL, e1, e2, ⟨⟨u, hv, hp, hb⟩, hF⟩, st⟩ | ⟨q, st₀, t, T', L, E, ce, h0, X', hL, e1, e2, ⟨u, hp, hb, hF⟩, hce, hcv, hcl, st⟩
  · cases hv
    obtain ⟨k1, k2, k3⟩ := vx_keep h0 e1 hS hA hf hL hF
    obtain ⟨t2, a1, b1⟩ := kk u t T'.heap (locs ++ L) e1.symm (by rw [← e2]; exact X'.warmed.alike) hp hb k1 k2 k3 T' rfl X'
    exact ⟨t2, st t2 a1, b1⟩
  · obtain ⟨k1, k2, k3⟩ := vx_keep h0 e1 hS hAX hf hL hF
    obtain ⟨t2, a1, b1⟩ := kx E ce q u t T'.heap (locs ++ L) e1.symm (by rw [← e2]; exact X'.warmed.alike) hp hb k1 k2 k3 (by rw [e1]; exact hce) hcv hcl T' rfl X'
    exact ⟨t2, st.trans a1, b1⟩
/-- caught by the row x of this method's table; the rows ahead don't take it -/
theorem vx_catch {own name : String} {E : String} {ce : Cell} {q : Addr} (hown : s.vm.findClass own = some m.cls) (pre : List ExceptionTableEntry) (x : ExceptionTableEntry) (suf : List ExceptionTableEntry) (hsplit : c.exceptionTable.toList = pre ++ x :: suf)
    (hpass : ∀ z ∈ pre, covers z pc = false ∨ (z.catchType ≠ 0 ∧ ∃ nm : String, (Cond.classLink own z.catchType nm).before args s = true ∧ va_Nc E nm s)) (hx : covers x pc = true) (h0 : x.catchType ≠ 0)
    (hlink : (Cond.classLink own x.catchType name).before args s = true) (hcast : (Cond.castable E name).before args s = true) (hcell : H[q]? = some ce) (hv : ce.vm = .none) (hcl : s.vm.findClass E = some ce.cls)
    (kk : W p l e R s m args below meth c H locs cells slots Q (F0 m x.handlerPc ls [.ref q])) : vx_W p l e R s m args below meth c H locs cells slots Q (F0 m pc ls rest) q := by
  intro T hT X
  have hpl : e.platform.magicAccessors = ({} : Platform).magicAccessors := by rw [X.admits.platform]
  obtain ⟨c3, c4, hc3, hc4, hasg⟩ := Cond.castable_spec hcast
  cases Option.some.inj (hc3.symm.trans hcl)
  obtain ⟨c5, hc5, hcl5⟩ := Cond.classLink_spec hown hlink e.platform hpl
  cases Option.some.inj (hc4.symm.trans hc5)
  obtain ⟨vm', X', st⟩ := X.thenCaughtThrough q (g := F0 m pc ls rest) rfl (Steps.refl _) (by rw [hT]; exact hcell) (by rw [hv]; rfl) (by obtain ⟨k9, h9, -⟩ := Vm.findClass_spec hcl; exact ⟨k9, h9⟩) pre x suf hsplit
    (fun z hz => by
      rcases hpass z hz with h | ⟨hz0, nm, hl1, hn1⟩
      · exact Or.inl h
      · obtain ⟨c6, hc6, hcl6⟩ := Cond.classLink_spec hown hl1 e.platform hpl
        obtain ⟨a8, b8, h1, h2, h3⟩ := hn1
        cases Option.some.inj (h1.symm.trans hcl)
        cases Option.some.inj (h2.symm.trans hc6)
        exact Or.inr ⟨hz0, _, hcl6, h3⟩) hx (Or.inr ⟨h0, c4, hcl5, hasg⟩)
  obtain ⟨t, a1, b1⟩ := kk (T.setVm vm') hT X'
  exact ⟨t, st.trans a1, b1⟩
end Rows
section Ends
variable {p : Program} {l : Launch} {e : Env} {R : Room} {s : State} {m : MethodId} {args : Array Value} {below : List Frame} {meth : Method} {c : Code} {H : Heap} {locs : List Loc} {cells slots : Nat} {Q : State → Prop}
variable {mc ms : Nat} {free : Addr → Prop} {A0 A1 : Nat → Prop} {H0 : Heap} {a : Array Value} {ls : Array Slot} {st0 rest : List Value}
variable {Qc : Array Value → State → Outcome → State → Prop} {XC : String → State → State → Prop}
/-- what a body that may throw owes at its end -/
def vx_MQ (below : List Frame) (Qc : Array Value → State → Outcome → State → Prop) (XC : String → State → State → Prop) (a : Array Value) (s : State) (mc ms : Nat) (free : Addr → Prop) : State → Prop := fun t =>
  ∃ o, t.status = .running ∧ Ended t below o ∧ vx_Q Qc XC mc ms free a s o t
theorem vx_ret {g : JFrame} {mc ms : Nat} (k : W p l e R s m args below meth c H locs cells slots (MQ below Qc args s mc ms free) g) : W p l e R s m args below meth c H locs cells slots (vx_MQ below Qc XC args s mc ms free) g := by
  intro T hT X
  obtain ⟨t, a1, o, b1, b2, b3, b4⟩ := k T hT X
  exact ⟨t, a1, o, b1, b2, Or.inl ⟨b3, b4⟩⟩
/-- not caught here: it goes on to the caller -/
theorem vx_widen {g : JFrame} {q : Addr} {k n : Nat} (h1 : cells ≤ k) (h2 : slots ≤ n) (kk : vx_W p l e R s m args below meth c H locs k n Q g q) : vx_W p l e R s m args below meth c H locs cells slots Q g q := fun T hT X => kk T hT (stand_widen X h1 h2)
theorem vx_out {pc : Nat} {E : String} {ce : Cell} {q : Addr} {mc ms : Nat} (hout : ∀ x ∈ c.exceptionTable.toList, covers x pc = false) (hlocks : meth.locks = false) (hcell : H[q]? = some ce) (hv : ce.vm = .none) (hcl : s.vm.findClass E = some ce.cls)
    (hx : ∀ t : State, t.heap = H → s.vm.Alike t.vm → XC E s t) (hf : ∀ z ∈ locs, free z.base) (hc : cells ≤ mc) (hs : slots ≤ ms) :
    vx_W p l e R s m args below meth c H locs cells slots (vx_MQ below Qc XC args s mc ms free) (F0 m pc ls rest) q := by
  intro T hT X
  obtain ⟨st1, hrun, hend, hW, hsm⟩ := X.leaveThrown q (g := F0 m pc ls rest) rfl rfl rfl hout hlocks
  have hcell9 : (T.setFrames (.throwing q :: below)).heap[q]? = some ce := by
    show T.heap[q]? = some ce
    rw [hT]; exact hcell
  exact ⟨_, st1, .threw q, hrun, hend, Or.inr ⟨q, rfl, E, ce, locs, hx _ hT hW.alike, hcell9, hv, hcl, hW, hsm.mono hc hs, hf⟩⟩
theorem vx_frame {U : State} {k n : Nat} (h : s.sameButNew ({ U with vm := s.vm } : State) locs k n) : s.heap.size ≤ U.heap.size ∧ ∀ q : Nat, q < s.heap.size → (∀ z ∈ locs, z.base ≠ q) → U.heap[q]? = s.heap[q]? := by
  obtain ⟨-, h2, -, -, -, h6⟩ := h
  refine ⟨h2, fun q hq hz => ?_⟩
  obtain ⟨c9, e1, e2, e3, e4⟩ := h6 q _ (Array.getElem?_eq_getElem hq)
  have hs : c9.slots = (s.heap[q]).slots := Array.ext_getElem? fun i => e4 i fun hm => hz _ hm rfl
  have h9 : c9 = s.heap[q] := by
    rw [hs] at e2
    exact e2
  have e5 : U.heap[q]? = some c9 := e1
  rw [e5, h9, Array.getElem?_eq_getElem hq]
/-- the words of a throw but the four that speak of the heap -/
def vx_no (w : Cond) : Bool := decide (w ≠ .isRef (.static Bundle.tN "UNASSIGNED_STACK" Bundle.steD)) && decide (w ≠ .isRef (.static Bundle.tN "SUPPRESSED_SENTINEL" Bundle.listD)) && decide (w ≠ .laysStatic Bundle.tN "UNASSIGNED_STACK" Bundle.steD) && decide (w ≠ .laysStatic Bundle.tN "SUPPRESSED_SENTINEL" Bundle.listD)
def vx_at0 (own : String) (ic : Nat) (X : String) (names : List String) : List Cond := (Bundle.ownAtoms0 own ic X names).filter vx_no
def vx_atS (own : String) (ic : Nat) (X : String) (names : List String) : List Cond := (Bundle.ownAtoms own ic X names).filter vx_no
/-- a word that the tables alone decide, or a good one -/
def vx_ot (w : Cond) : Bool := w.onTables || goodWord w
theorem vx_ot_at {args a' : Array Value} {s U : State} {w : Cond} (hW : s.WarmedH U.vm) (hvm : s.vm = U.vm) (hg : vx_ot w = true) (h : w.before args s = true) : w.before a' U = true := by
  simp only [vx_ot, Bool.or_eq_true] at hg
  rcases hg with hg | hg
  · exact va_tabs hg hvm h
  · exact word_at hW (good_of_word hg) h
/-- a list's words: the good ones out of the method's own list, the others by premises of their own -/
theorem vx_hat {args : Array Value} {s : State} {L B : List Cond} (h1 : ∀ w ∈ L.filter goodWord, w.before args s = true) (h2 : ∀ w ∈ L.filter (fun w => !goodWord w), w ∈ B) (h3 : ∀ w ∈ B, w.before args s = true) : ∀ w ∈ L, w.before args s = true := by
  intro w hw
  by_cases g : goodWord w = true
  · exact h1 w (List.mem_filter.mpr ⟨hw, g⟩)
  · refine h3 w (h2 w (List.mem_filter.mpr ⟨hw, ?_⟩))
    show (!goodWord w) = true
    cases hgw : goodWord w
    · rfl
    · exact absurd hgw g
theorem vx_c {args : Array Value} {s : State} {w : Cond} {B : List Cond} (h : w.before args s = true) (t : ∀ w ∈ B, w.before args s = true) : ∀ w' ∈ w :: B, w'.before args s = true := fun w' h' => (List.mem_cons.mp h').elim (fun e => by rw [e]; exact h) (t w')
theorem vx_n {args : Array Value} {s : State} : ∀ w ∈ ([] : List Cond), w.before args s = true := fun _ h => nomatch h
theorem vx_own {args : Array Value} {s : State} {L : List Cond} (h1 : ∀ w ∈ L.filter vx_no, w.before args s = true)
    (hU : (Cond.isRef (.static Bundle.tN "UNASSIGNED_STACK" Bundle.steD)).before args s = true) (hN : (Cond.isRef (.static Bundle.tN "SUPPRESSED_SENTINEL" Bundle.listD)).before args s = true)
    (lU : (Cond.laysStatic Bundle.tN "UNASSIGNED_STACK" Bundle.steD).before args s = true) (lN : (Cond.laysStatic Bundle.tN "SUPPRESSED_SENTINEL" Bundle.listD).before args s = true) : ∀ w ∈ L, w.before args s = true := by
  intro w hw
  by_cases e1 : w = .isRef (.static Bundle.tN "UNASSIGNED_STACK" Bundle.steD)
  · rw [e1]; exact hU
  · by_cases e2 : w = .isRef (.static Bundle.tN "SUPPRESSED_SENTINEL" Bundle.listD)
    · rw [e2]; exact hN
    · by_cases e3 : w = .laysStatic Bundle.tN "UNASSIGNED_STACK" Bundle.steD
      · rw [e3]; exact lU
      · by_cases e4 : w = .laysStatic Bundle.tN "SUPPRESSED_SENTINEL" Bundle.listD
        · rw [e4]; exact lN
        · exact h1 w (List.mem_filter.mpr ⟨hw, by unfold vx_no; rw [decide_eq_true e1, decide_eq_true e2, decide_eq_true e3, decide_eq_true e4]; rfl⟩)
/-- where a static field lies, its class's statics cell in H -/
def vx_L (C n d : String) (A : Nat → Prop) (U : State) (H : Heap) : Prop := ∃ (c : ClassId) (k : Class) (i : Nat) (f : Field) (a : Nat) (cell : Cell), U.vm.findClass C = some c ∧ U.fieldFound? C n d = some (c, k, i, f) ∧ f.isStatic = true ∧ k.statics = some a ∧ H[a]? = some cell ∧ cell.vm.isStatics = true ∧ cell.cls = c ∧ f.slot < cell.slots.size ∧ k.staticTypes[f.slot]? = some f.type ∧ ¬ A a
theorem vx_L.moved {C n d : String} {A : Nat → Prop} {u U : State} {H : Heap} (hvm : u.vm.Alike U.vm) (h : vx_L C n d A u H) : vx_L C n d A U H := by
  obtain ⟨c, k, i, f, a, cell, h1, h2, h3, h4, h5, h6, h7, h8, h9, h10⟩ := h
  obtain ⟨k', hi', he⟩ := State.fieldFound?_setVm hvm h2
  exact ⟨c, k', i, f, a, cell, by rw [hvm.findClass]; exact h1, hi', h3, by rw [he]; exact h4, h5, h6, h7, h8, by rw [he]; exact h9, h10⟩
theorem vx_L.kept {C n d : String} {A : Nat → Prop} {U : State} {H H1 : Heap} (h : vx_L C n d A U H) (hq : ∀ a : Nat, a < H.size → ¬ A a → H1[a]? = H[a]?) : vx_L C n d A U H1 := by
  obtain ⟨c, k, i, f, a, cell, h1, h2, h3, h4, h5, h6, h7, h8, h9, h10⟩ := h
  exact ⟨c, k, i, f, a, cell, h1, h2, h3, h4, by rw [hq a (Array.getElem?_eq_some_iff.mp h5).1 h10]; exact h5, h6, h7, h8, h9, h10⟩
theorem vx_L.narrow {C n d : String} {A B : Nat → Prop} {U : State} {H : Heap} (h : vx_L C n d A U H) (hAB : ∀ q, B q → A q) : vx_L C n d B U H := by
  obtain ⟨c, k, i, f, a, cell, h1, h2, h3, h4, h5, h6, h7, h8, h9, h10⟩ := h
  exact ⟨c, k, i, f, a, cell, h1, h2, h3, h4, h5, h6, h7, h8, h9, fun z => h10 (hAB _ z)⟩
theorem vx_L.word {C n d : String} {A : Nat → Prop} {s : State} {args : Array Value} (h : vx_L C n d A s s.heap) : (Cond.laysStatic C n d).before args s = true := by
  obtain ⟨c, k, i, f, a, cell, h1, h2, h3, h4, h5, h6, h7, h8, h9, -⟩ := h
  show (Cond.laysStatic C n d).holds args s none s [] = true
  exact Cond.laysStatic_of h1 h2 h3 h4 h5 h6 h7 h8 h9
/-- .. and what it holds: null or some reference -/
def vx_Zq (C n d : String) (A : Nat → Prop) (U : State) (H : Heap) : Prop := va_Zq C n d A U H ∧ vx_L C n d A U H
theorem vx_Zq.moved {C n d : String} {A : Nat → Prop} {u U : State} {H : Heap} (hvm : u.vm.Alike U.vm) (h : vx_Zq C n d A u H) : vx_Zq C n d A U H := ⟨va_Zq.moved hvm h.1, vx_L.moved hvm h.2⟩
theorem vx_Zq.kept {C n d : String} {A : Nat → Prop} {U : State} {H H1 : Heap} (h : vx_Zq C n d A U H) (hq : ∀ a : Nat, a < H.size → ¬ A a → H1[a]? = H[a]?) : vx_Zq C n d A U H1 := ⟨va_Zq.kept h.1 hq, vx_L.kept h.2 hq⟩
theorem vx_Zq.narrow {C n d : String} {A B : Nat → Prop} {U : State} {H : Heap} (h : vx_Zq C n d A U H) (hAB : ∀ q, B q → A q) : vx_Zq C n d B U H := ⟨va_Zq.narrow h.1 hAB, vx_L.narrow h.2 hAB⟩
theorem vx_Zqof {args : Array Value} {s : State} {C n d : String} {A : Nat → Prop} (hl : (Cond.laysStatic C n d).before args s = true) (hini : (Cond.initialized C).before args s = true) (h : (Cond.isRef (.static C n d)).before args s = true) (hA : ∀ a : Nat, a < s.heap.size → ¬ A a) : vx_Zq C n d A s s.heap := by
  refine ⟨va_Zqof hl hini h hA, ?_⟩
  obtain ⟨c, k, i, f, a, cell, h1, h2, h3, h4, h5, h6, h7, h8, h9⟩ := Cond.laysStatic_spec hl
  exact ⟨c, k, i, f, a, cell, h1, h2, h3, h4, h5, h6, h7, h8, h9, hA a (Array.getElem?_eq_some_iff.mp h5).1⟩
theorem vx_isRef {C n d : String} {v : Value} {A : Nat → Prop} {s : State} {args : Array Value} (h : va_Z C n d v A s s.heap) (hv : v.isRef = true) : (Cond.isRef (.static C n d)).before args s = true := by
  obtain ⟨cf, kf, fi, f, a, cell, h1, h2, h3, h4, h5, h6, h7, -⟩ := h
  have he : (Term.static C n d).eval args s none [] s = some v := by
    simp [Term.eval, State.fieldNamed?, h1, h2, h4, h5, h6, h7]
  simp only [Cond.before, Cond.holds, Cond.value, he]
  cases v <;> simp_all [Value.isRef]
theorem vx_isRefq {C n d : String} {A : Nat → Prop} {s : State} {args : Array Value} (h : va_Zq C n d A s s.heap) : (Cond.isRef (.static C n d)).before args s = true := by
  rcases h with h | ⟨t, h⟩
  · exact vx_isRef h rfl
  · exact vx_isRef h rfl
/-- the same frame, seen from here: as if the method were called anew in this heap -/
theorem vx_rebase {T : State} (X : Stand p l e R s m args below meth c T locs cells slots) {R' : Room} (hf : R'.frames ≤ R.frames) (hl : R'.locals ≤ R.locals) (hc : cells + R'.cells ≤ R.cells) (hs : slots + R'.slots ≤ R.slots) :
    Stand p l e R' ((T.setVm s.vm).setFrames (.invoking m args :: below)) m args below meth c T [] 0 0 := by
  have htop : (T.setVm s.vm).topJava?.isSome := X.here.top
  have hF : ((T.setVm s.vm).setFrames (.invoking m args :: below)).frames = .invoking m args :: below := State.frames_setFrames _ (State.cur_lt_of_top htop)
  obtain ⟨g₀, hg0⟩ := Option.isSome_iff_exists.mp htop
  obtain ⟨r, hr⟩ := State.topJava?_eq_some.mp hg0
  have hl9 : e.platform.stackLimits (T.setVm s.vm).me = e.platform.stackLimits s.me := X.limits
  have hb9 : (T.setVm s.vm).me.stackBytes = s.me.stackBytes := X.bytes
  refine ⟨X.admits, X.cas, X.clock, hF, ?_, X.hears, X.method, X.code, X.here, X.tail, X.warmed, ?_, ?_, ?_⟩
  · have h := X.room
    have hU : ((T.setVm s.vm).setFrames (.invoking m args :: below)).localsInUse = s.localsInUse := by
      rw [State.localsInUse_invoking hF (meth := meth) (c := c) X.method X.code, State.localsInUse_invoking X.frames X.method X.code]
    simp only [State.hasRoom, Bool.and_eq_true, decide_eq_true_eq] at h ⊢
    obtain ⟨⟨⟨⟨h1, h2, h3, h4, h5, h6⟩, h7⟩, h8⟩, h9⟩ := h
    rw [X.frames, List.length_cons] at h2 h3
    have q1 := X.heapSize
    have q2 := X.used
    simp only [hF, hU, List.length_cons, State.stackLimits_setFrames, State.stackBytes_setFrames, hl9, hb9]
    refine ⟨⟨⟨⟨by omega, by omega, by omega, by omega, by omega, h6⟩, ?_⟩, ?_⟩, X.book⟩
    · show T.heap.size + R'.cells ≤ e.platform.maxCells
      omega
    · show T.slotsUsed + R'.slots ≤ e.platform.maxSlots
      omega
  · rw [State.stackLimits_setFrames]; rfl
  · rw [State.stackBytes_setFrames]; rfl
  · refine ⟨?_, Nat.le_refl _, Nat.le_refl _, ?_, ?_, fun a c9 h9 => ⟨c9, h9, rfl, rfl, fun _ _ => rfl⟩⟩
    · obtain ⟨t, ht, -⟩ := State.frames_cons hr
      show T.setVm s.vm = { ((T.setVm s.vm).setFrames (.invoking m args :: below)).setFrames (T.setVm s.vm).frames with heap := T.heap, slotsUsed := T.slotsUsed }
      rw [State.setFrames_setFrames, State.setFrames_self ht]
      rfl
    · show T.slotsUsed = T.slotsUsed + ((T.heap.toList.drop T.heap.size).map (·.slots.size)).sum
      rw [List.drop_eq_nil_of_le (Nat.le_of_eq Array.length_toList)]
      rfl
    · show ((T.heap.toList.drop T.heap.size).map (·.slots.size)).sum ≤ 0
      rw [List.drop_eq_nil_of_le (Nat.le_of_eq Array.length_toList)]
      exact Nat.le_refl _
/-- 'throw new E()': new; dup; invokespecial; athrow -/
theorem vx_throw0 {cc : ByteArray} {pc : Nat} (hexec : p.tables.exec = Jvm.exec) (hb : c.code = cc) (hl : l.stackTraces = false) {own cls : String} {names : List String} {ik ic mc ms : Nat} {A : Nat → Prop}
    (hown : s.vm.findClass own = some m.cls) (hcls : Bundle.fit cls = true) (hnames : ∀ n ∈ names, Bundle.fit n = true)
    (hk : (Cond.classLink own ik cls).before args s = true) (hini : (Cond.initialized cls).before args s = true) (hat : ∀ w ∈ vx_at0 own ic cls names, w.before args s = true)
    (hgood : ∀ w ∈ Cond.classLink own ik cls :: Cond.initialized cls :: vx_at0 own ic cls names, vx_ot w = true)
    (hU : vx_Zq Bundle.tN "UNASSIGNED_STACK" Bundle.steD A s s.heap) (hN : vx_Zq Bundle.tN "SUPPRESSED_SENTINEL" Bundle.listD A s s.heap) (hS : va_S A s.heap H locs) (hsize : ls.size = c.maxLocals)
    (d0 : decode cc pc = .ok (.new ik, 3)) (d3 : decode cc (pc + 3) = .ok (.dup, 1)) (d4 : decode cc (pc + 4) = .ok (.invokespecial ic, 3)) (d7 : decode cc (pc + 7) = .ok (.athrow, 1))
    (hout : ∀ x ∈ c.exceptionTable.toList, covers x (pc + 7) = false)
    (hRframes : names.length + 3 < R.frames) (hRlocals : (rest.map fun v => v.category).sum + (13 * (names.length + 1) + 42) ≤ R.locals) (hRcells : cells + 1 ≤ R.cells) (hRslots : slots + 6 ≤ R.slots) (hlocks : meth.locks = false)
    (hx : ∀ t : State, s.vm.Alike t.vm → H.size ≤ t.heap.size → (∀ q : Nat, q < H.size → t.heap[q]? = H[q]?) → XC cls s t)
    (hf : ∀ z ∈ locs, free z.base) (hc : cells + 1 ≤ mc) (hs : slots + 6 ≤ ms) :
    W p l e R s m args below meth c H locs cells slots (vx_MQ below Qc XC args s mc ms free) (F0 m pc ls rest) := by
  intro T hT X
  have htr : e.platform.stackTraces = false := (show e.platform.stackTraces = l.stackTraces by rw [X.admits.platform]).trans hl
  have Y := vx_rebase X (R' := { frames := R.frames, locals := R.locals, cells := 1, slots := 6 }) (Nat.le_refl _) (Nat.le_refl _) hRcells hRslots
  obtain ⟨s', hA⟩ : ∃ z, z = (T.setVm s.vm).setFrames (.invoking m args :: below) := ⟨_, rfl⟩
  rw [← hA] at Y
  have hvm : s'.vm = s.vm := by rw [hA]; rfl
  have hhp : s'.heap = H := by rw [hA]; exact hT
  have hW0 : s.WarmedH s'.vm := by rw [hvm]; exact State.WarmedH.refl s
  have hat' : ∀ w ∈ vx_at0 own ic cls names, w.before args s' = true := fun w hw => vx_ot_at hW0 hvm.symm (hgood w (List.mem_cons_of_mem _ (List.mem_cons_of_mem _ hw))) (hat w hw)
  have hk' : (Cond.classLink own ik cls).before args s' = true := vx_ot_at hW0 hvm.symm (hgood _ List.mem_cons_self) hk
  have hini' : (Cond.initialized cls).before args s' = true := vx_ot_at hW0 hvm.symm (hgood _ (List.mem_cons_of_mem _ List.mem_cons_self)) hini
  have hU' : vx_Zq Bundle.tN "UNASSIGNED_STACK" Bundle.steD A s' s'.heap := by rw [hhp]; exact vx_Zq.moved hW0.alike (hU.kept hS.2.1)
  have hN' : vx_Zq Bundle.tN "SUPPRESSED_SENTINEL" Bundle.listD A s' s'.heap := by rw [hhp]; exact vx_Zq.moved hW0.alike (hN.kept hS.2.1)
  have h : ∀ w ∈ Bundle.ownAtoms0 own ic cls names, w.before args s' = true := vx_own hat' (vx_isRefq hU'.1) (vx_isRefq hN'.1) hU'.2.word hN'.2.word
  have hown' : s'.vm.findClass own = some m.cls := by rw [hvm]; exact hown
  have hins : (Cond.instantiable cls 6).before args s' = true := h _ (by simp [Bundle.ownAtoms0])
  obtain ⟨vm₁, cX, kX, hfX, hkX, -, -, X₁, st1⟩ := Y.newCold hexec (own := own) (C := cls) (index := ik) (n := 6) hown' hk' hins hini'
    (g := F0 m pc ls rest) rfl (by rw [hb]; exact d0) (Nat.le_refl _) (Nat.le_refl _)
  generalize hT1 : (T.setVm vm₁).pushCell { cls := cX, slots := kX.instanceTypes.map defaultValue, vm := .none } = T1 at X₁ st1
  have hcat : (Value.ref T.heap.size).category = 1 := rfl
  have hcellA : T1.heap[T.heap.size]? = some (freshCell cX kX) := by rw [← hT1]; exact State.heap_pushCell_size _ _
  have d3' : decode c.code (pc + 3) = .ok (.dup, 1) := by rw [hb]; exact d3
  obtain ⟨U, hsteps, hrun, hend, hW, hsame, ce, hce, hO⟩ := X₁.ctorThrow0 hexec htr (own := own) (cls := cls) (names := names) (ic := ic) hown' hcls hnames h (fun x hx => nomatch hx) hfX hkX hcellA (by rw [hhp, hT]; exact Nat.le_refl _)
    (g := { method := m, pc := pc + 4, locals := ls, stack := .ref T.heap.size :: .ref T.heap.size :: rest, locked := none }) rfl hsize rfl rfl (rest := rest) rfl
    (by rw [hb]; exact d4) (by rw [hb]; exact d7) hout hRframes (by simp only [List.map_cons, List.sum_cons, hcat]; omega) hlocks
  obtain ⟨f1, f2⟩ := vx_frame hsame
  rw [hhp] at f1 f2
  have hWs : s.WarmedH U.vm := State.WarmedH.trans hW0 hW
  have hcl : s.vm.findClass cls = some ce.cls := by
    have h9 := hO.cls
    rw [hvm] at h9
    exact h9
  have hall : s.sameButNew ({ U with vm := s.vm } : State) locs mc ms := by
    subst hA
    obtain ⟨e1, e2⟩ := hsame
    rw [State.setFrames_setFrames] at e1
    have h2 : (T.setVm s.vm).sameButNew ({ U with vm := s.vm } : State) [] (0 + 1) (0 + 6) := ⟨e1, e2⟩
    have h3 := X.same.trans h2
    rw [List.append_nil] at h3
    exact h3.mono hc hs
  refine ⟨U, ?_, .threw T.heap.size, hrun, hend, Or.inr ⟨T.heap.size, rfl, cls, ce, locs, hx U hWs.alike f1 (fun q hq => f2 q hq (fun z hz => nomatch hz)), hce, hO.vm, hcl, hWs, hall, hf⟩⟩
  refine st1 _ ?_
  show Steps p.tables e below (T1.setTop { method := m, pc := pc + 3, locals := ls, stack := .ref T.heap.size :: rest, locked := none }) _
  jvm_step X₁.here [X₁.here.top, hexec, d3', Value.category]
  exact hsteps
/-- 'throw new E("text")': new; dup; ldc; invokespecial; athrow -/
theorem vx_throwS {cc : ByteArray} {pc : Nat} (hexec : p.tables.exec = Jvm.exec) (hb : c.code = cc) (hl : l.stackTraces = false) {own cls text : String} {names : List String} {ik is ic mc ms sa : Nat} {A : Nat → Prop}
    (hown : s.vm.findClass own = some m.cls) (hcls : Bundle.fit cls = true) (hnames : ∀ n ∈ names, Bundle.fit n = true)
    (hk : (Cond.classLink own ik cls).before args s = true) (hini : (Cond.initialized cls).before args s = true) (hstr : vk_R own is text sa s) (hat : ∀ w ∈ vx_atS own ic cls names, w.before args s = true)
    (hgood : ∀ w ∈ Cond.classLink own ik cls :: Cond.initialized cls :: vx_atS own ic cls names, vx_ot w = true)
    (hU : vx_Zq Bundle.tN "UNASSIGNED_STACK" Bundle.steD A s s.heap) (hN : vx_Zq Bundle.tN "SUPPRESSED_SENTINEL" Bundle.listD A s s.heap) (hS : va_S A s.heap H locs) (hsize : ls.size = c.maxLocals)
    (d0 : decode cc pc = .ok (.new ik, 3)) (d3 : decode cc (pc + 3) = .ok (.dup, 1)) (d4 : decode cc (pc + 4) = .ok (.ldc is, 2)) (d6 : decode cc (pc + 6) = .ok (.invokespecial ic, 3)) (d9 : decode cc (pc + 9) = .ok (.athrow, 1))
    (hout : ∀ x ∈ c.exceptionTable.toList, covers x (pc + 9) = false)
    (hRframes : names.length + 3 < R.frames) (hRlocals : (rest.map fun v => v.category).sum + (13 * (names.length + 1) + 43) ≤ R.locals) (hRcells : cells + 1 ≤ R.cells) (hRslots : slots + 6 ≤ R.slots) (hlocks : meth.locks = false)
    (hx : ∀ t : State, s.vm.Alike t.vm → H.size ≤ t.heap.size → (∀ q : Nat, q < H.size → t.heap[q]? = H[q]?) → XC cls s t)
    (hf : ∀ z ∈ locs, free z.base) (hc : cells + 1 ≤ mc) (hs : slots + 6 ≤ ms) :
    W p l e R s m args below meth c H locs cells slots (vx_MQ below Qc XC args s mc ms free) (F0 m pc ls rest) := by
  intro T hT X
  have htr : e.platform.stackTraces = false := (show e.platform.stackTraces = l.stackTraces by rw [X.admits.platform]).trans hl
  have Y := vx_rebase X (R' := { frames := R.frames, locals := R.locals, cells := 1, slots := 6 }) (Nat.le_refl _) (Nat.le_refl _) hRcells hRslots
  obtain ⟨s', hA⟩ : ∃ z, z = (T.setVm s.vm).setFrames (.invoking m args :: below) := ⟨_, rfl⟩
  rw [← hA] at Y
  have hvm : s'.vm = s.vm := by rw [hA]; rfl
  have hhp : s'.heap = H := by rw [hA]; exact hT
  have hW0 : s.WarmedH s'.vm := by rw [hvm]; exact State.WarmedH.refl s
  have hat' : ∀ w ∈ vx_atS own ic cls names, w.before args s' = true := fun w hw => vx_ot_at hW0 hvm.symm (hgood w (List.mem_cons_of_mem _ (List.mem_cons_of_mem _ hw))) (hat w hw)
  have hk' : (Cond.classLink own ik cls).before args s' = true := vx_ot_at hW0 hvm.symm (hgood _ List.mem_cons_self) hk
  have hini' : (Cond.initialized cls).before args s' = true := vx_ot_at hW0 hvm.symm (hgood _ (List.mem_cons_of_mem _ List.mem_cons_self)) hini
  have hU' : vx_Zq Bundle.tN "UNASSIGNED_STACK" Bundle.steD A s' s'.heap := by rw [hhp]; exact vx_Zq.moved hW0.alike (hU.kept hS.2.1)
  have hN' : vx_Zq Bundle.tN "SUPPRESSED_SENTINEL" Bundle.listD A s' s'.heap := by rw [hhp]; exact vx_Zq.moved hW0.alike (hN.kept hS.2.1)
  have h : ∀ w ∈ Bundle.ownAtoms own ic cls names, w.before args s' = true := vx_own hat' (vx_isRefq hU'.1) (vx_isRefq hN'.1) hU'.2.word hN'.2.word
  have hown' : s'.vm.findClass own = some m.cls := by rw [hvm]; exact hown
  have hins : (Cond.instantiable cls 6).before args s' = true := h _ (by simp [Bundle.ownAtoms])
  obtain ⟨vm₁, cX, kX, hfX, hkX, -, -, X₁, st1⟩ := Y.newCold hexec (own := own) (C := cls) (index := ik) (n := 6) hown' hk' hins hini'
    (g := F0 m pc ls rest) rfl (by rw [hb]; exact d0) (Nat.le_refl _) (Nat.le_refl _)
  generalize hT1 : (T.setVm vm₁).pushCell { cls := cX, slots := kX.instanceTypes.map defaultValue, vm := .none } = T1 at X₁ st1
  have hcat : (Value.ref T.heap.size).category = 1 := rfl
  have hcellA : T1.heap[T.heap.size]? = some (freshCell cX kX) := by rw [← hT1]; exact State.heap_pushCell_size _ _
  have d3' : decode c.code (pc + 3) = .ok (.dup, 1) := by rw [hb]; exact d3
  have d4' : decode c.code (pc + 4) = .ok (.ldc is, 2) := by rw [hb]; exact d4
  have hstr' : vk_R own is text sa s' := vk_R.warm hW0 hstr
  obtain ⟨U, hsteps, hrun, hend, hW, hsame, ce, hce, hO⟩ := X₁.ctorThrowS hexec htr (own := own) (cls := cls) (names := names) (ic := ic) hown' hcls hnames h (fun x hx => nomatch hx) hfX hkX hcellA (by rw [hhp, hT]; exact Nat.le_refl _) (msg := .ref sa) rfl
    (g := { method := m, pc := pc + 6, locals := ls, stack := .ref sa :: .ref T.heap.size :: .ref T.heap.size :: rest, locked := none }) rfl hsize rfl rfl (rest := rest) rfl
    (by rw [hb]; exact d6) (by rw [hb]; exact d9) hout hRframes (by simp only [List.map_cons, List.sum_cons, hcat]; omega) hlocks
  obtain ⟨f1, f2⟩ := vx_frame hsame
  rw [hhp] at f1 f2
  have hWs : s.WarmedH U.vm := State.WarmedH.trans hW0 hW
  have hcl : s.vm.findClass cls = some ce.cls := by
    have h9 := hO.cls
    rw [hvm] at h9
    exact h9
  have hall : s.sameButNew ({ U with vm := s.vm } : State) locs mc ms := by
    subst hA
    obtain ⟨e1, e2⟩ := hsame
    rw [State.setFrames_setFrames] at e1
    have h2 : (T.setVm s.vm).sameButNew ({ U with vm := s.vm } : State) [] (0 + 1) (0 + 6) := ⟨e1, e2⟩
    have h3 := X.same.trans h2
    rw [List.append_nil] at h3
    exact h3.mono hc hs
  refine ⟨U, ?_, .threw T.heap.size, hrun, hend, Or.inr ⟨T.heap.size, rfl, cls, ce, locs, hx U hWs.alike f1 (fun q hq => f2 q hq (fun z hz => nomatch hz)), hce, hO.vm, hcl, hWs, hall, hf⟩⟩
  refine st1 _ ?_
  show Steps p.tables e below (T1.setTop { method := m, pc := pc + 3, locals := ls, stack := .ref T.heap.size :: rest, locked := none }) _
  jvm_step X₁.here [X₁.here.top, hexec, d3', Value.category]
  exact X₁.ldcString hexec (own := own) (text := text) (index := is) (a := sa) hown' hstr'.1 hstr'.2
    (g := { method := m, pc := pc + 4, locals := ls, stack := .ref T.heap.size :: .ref T.heap.size :: rest, locked := none }) rfl d4' _ hsteps
/-- 'throw new E("text")', the text by a wide index -/
theorem vx_throwSW {cc : ByteArray} {pc : Nat} (hexec : p.tables.exec = Jvm.exec) (hb : c.code = cc) (hl : l.stackTraces = false) {own cls text : String} {names : List String} {ik is ic mc ms sa : Nat} {A : Nat → Prop}
    (hown : s.vm.findClass own = some m.cls) (hcls : Bundle.fit cls = true) (hnames : ∀ n ∈ names, Bundle.fit n = true)
    (hk : (Cond.classLink own ik cls).before args s = true) (hini : (Cond.initialized cls).before args s = true) (hstr : vk_R own is text sa s) (hat : ∀ w ∈ vx_atS own ic cls names, w.before args s = true)
    (hgood : ∀ w ∈ Cond.classLink own ik cls :: Cond.initialized cls :: vx_atS own ic cls names, vx_ot w = true)
    (hU : vx_Zq Bundle.tN "UNASSIGNED_STACK" Bundle.steD A s s.heap) (hN : vx_Zq Bundle.tN "SUPPRESSED_SENTINEL" Bundle.listD A s s.heap) (hS : va_S A s.heap H locs) (hsize : ls.size = c.maxLocals)
    (d0 : decode cc pc = .ok (.new ik, 3)) (d3 : decode cc (pc + 3) = .ok (.dup, 1)) (d4 : decode cc (pc + 4) = .ok (.ldc_w is, 3)) (d7 : decode cc (pc + 7) = .ok (.invokespecial ic, 3)) (d10 : decode cc (pc + 10) = .ok (.athrow, 1))
    (hout : ∀ x ∈ c.exceptionTable.toList, covers x (pc + 10) = false)
    (hRframes : names.length + 3 < R.frames) (hRlocals : (rest.map fun v => v.category).sum + (13 * (names.length + 1) + 43) ≤ R.locals) (hRcells : cells + 1 ≤ R.cells) (hRslots : slots + 6 ≤ R.slots) (hlocks : meth.locks = false)
    (hx : ∀ t : State, s.vm.Alike t.vm → H.size ≤ t.heap.size → (∀ q : Nat, q < H.size → t.heap[q]? = H[q]?) → XC cls s t)
    (hf : ∀ z ∈ locs, free z.base) (hc : cells + 1 ≤ mc) (hs : slots + 6 ≤ ms) :
    W p l e R s m args below meth c H locs cells slots (vx_MQ below Qc XC args s mc ms free) (F0 m pc ls rest) := by
  intro T hT X
  have htr : e.platform.stackTraces = false := (show e.platform.stackTraces = l.stackTraces by rw [X.admits.platform]).trans hl
  have Y := vx_rebase X (R' := { frames := R.frames, locals := R.locals, cells := 1, slots := 6 }) (Nat.le_refl _) (Nat.le_refl _) hRcells hRslots
  obtain ⟨s', hA⟩ : ∃ z, z = (T.setVm s.vm).setFrames (.invoking m args :: below) := ⟨_, rfl⟩
  rw [← hA] at Y
  have hvm : s'.vm = s.vm := by rw [hA]; rfl
  have hhp : s'.heap = H := by rw [hA]; exact hT
  have hW0 : s.WarmedH s'.vm := by rw [hvm]; exact State.WarmedH.refl s
  have hat' : ∀ w ∈ vx_atS own ic cls names, w.before args s' = true := fun w hw => vx_ot_at hW0 hvm.symm (hgood w (List.mem_cons_of_mem _ (List.mem_cons_of_mem _ hw))) (hat w hw)
  have hk' : (Cond.classLink own ik cls).before args s' = true := vx_ot_at hW0 hvm.symm (hgood _ List.mem_cons_self) hk
  have hini' : (Cond.initialized cls).before args s' = true := vx_ot_at hW0 hvm.symm (hgood _ (List.mem_cons_of_mem _ List.mem_cons_self)) hini
  have hU' : vx_Zq Bundle.tN "UNASSIGNED_STACK" Bundle.steD A s' s'.heap := by rw [hhp]; exact vx_Zq.moved hW0.alike (hU.kept hS.2.1)
  have hN' : vx_Zq Bundle.tN "SUPPRESSED_SENTINEL" Bundle.listD A s' s'.heap := by rw [hhp]; exact vx_Zq.moved hW0.alike (hN.kept hS.2.1)
  have h : ∀ w ∈ Bundle.ownAtoms own ic cls names, w.before args s' = true := vx_own hat' (vx_isRefq hU'.1) (vx_isRefq hN'.1) hU'.2.word hN'.2.word
  have hown' : s'.vm.findClass own = some m.cls := by rw [hvm]; exact hown
  have hins : (Cond.instantiable cls 6).before args s' = true := h _ (by simp [Bundle.ownAtoms])
  obtain ⟨vm₁, cX, kX, hfX, hkX, -, -, X₁, st1⟩ := Y.newCold hexec (own := own) (C := cls) (index := ik) (n := 6) hown' hk' hins hini'
    (g := F0 m pc ls rest) rfl (by rw [hb]; exact d0) (Nat.le_refl _) (Nat.le_refl _)
  generalize hT1 : (T.setVm vm₁).pushCell { cls := cX, slots := kX.instanceTypes.map defaultValue, vm := .none } = T1 at X₁ st1
  have hcat : (Value.ref T.heap.size).category = 1 := rfl
  have hcellA : T1.heap[T.heap.size]? = some (freshCell cX kX) := by rw [← hT1]; exact State.heap_pushCell_size _ _
  have d3' : decode c.code (pc + 3) = .ok (.dup, 1) := by rw [hb]; exact d3
  have d4' : decode c.code (pc + 4) = .ok (.ldc_w is, 3) := by rw [hb]; exact d4
  have hstr' : vk_R own is text sa s' := vk_R.warm hW0 hstr
  obtain ⟨U, hsteps, hrun, hend, hW, hsame, ce, hce, hO⟩ := X₁.ctorThrowS hexec htr (own := own) (cls := cls) (names := names) (ic := ic) hown' hcls hnames h (fun x hx => nomatch hx) hfX hkX hcellA (by rw [hhp, hT]; exact Nat.le_refl _) (msg := .ref sa) rfl
    (g := { method := m, pc := pc + 7, locals := ls, stack := .ref sa :: .ref T.heap.size :: .ref T.heap.size :: rest, locked := none }) rfl hsize rfl rfl (rest := rest) rfl
    (by rw [hb]; exact d7) (by rw [hb]; exact d10) hout hRframes (by simp only [List.map_cons, List.sum_cons, hcat]; omega) hlocks
  obtain ⟨f1, f2⟩ := vx_frame hsame
  rw [hhp] at f1 f2
  have hWs : s.WarmedH U.vm := State.WarmedH.trans hW0 hW
  have hcl : s.vm.findClass cls = some ce.cls := by
    have h9 := hO.cls
    rw [hvm] at h9
    exact h9
  have hall : s.sameButNew ({ U with vm := s.vm } : State) locs mc ms := by
    subst hA
    obtain ⟨e1, e2⟩ := hsame
    rw [State.setFrames_setFrames] at e1
    have h2 : (T.setVm s.vm).sameButNew ({ U with vm := s.vm } : State) [] (0 + 1) (0 + 6) := ⟨e1, e2⟩
    have h3 := X.same.trans h2
    rw [List.append_nil] at h3
    exact h3.mono hc hs
  refine ⟨U, ?_, .threw T.heap.size, hrun, hend, Or.inr ⟨T.heap.size, rfl, cls, ce, locs, hx U hWs.alike f1 (fun q hq => f2 q hq (fun z hz => nomatch hz)), hce, hO.vm, hcl, hWs, hall, hf⟩⟩
  refine st1 _ ?_
  show Steps p.tables e below (T1.setTop { method := m, pc := pc + 3, locals := ls, stack := .ref T.heap.size :: rest, locked := none }) _
  jvm_step X₁.here [X₁.here.top, hexec, d3', Value.category]
  exact X₁.ldcStringW hexec (own := own) (text := text) (index := is) (a := sa) hown' hstr'.1 hstr'.2
    (g := { method := m, pc := pc + 4, locals := ls, stack := .ref T.heap.size :: .ref T.heap.size :: rest, locked := none }) rfl d4' _ hsteps
end Ends
section Bodies
variable {l : Launch}
theorem vx_ofW {y : MethodName} {ws ws' : List Cond} {rm : Room} {Pc : Array Value → State → Prop} {Qc : Array Value → State → Outcome → State → Prop} {XC : String → State → State → Prop} {mc ms : Nat} {free : Addr → Prop} {cc : ByteArray} {maxL : Nat} {ret : Option FieldType}
    (hy : plainName y.cls = true) (hw : ws = Cond.code y cc maxL ret :: ws')
    (body : ∀ p e s m args below meth c s₁, BodyLoose p l y (headSpec ws rm) cc maxL ret e s m args below meth c s₁ → c.maxLocals = maxL → (∀ x ∈ c.exceptionTable.toList, False) → Pc args s →
      W p l e (headSpec ws rm).room s m args below meth c s.heap [] 0 0 (vx_MQ below Qc XC args s mc ms free) (entryFrame m args maxL)) : vx_Met l y ws rm Pc Qc XC mc ms free := by
  refine MetFree.of_bodyS (code := cc) (maxLocals := maxL) (ret := ret) hy ?_ ?_
  · intro args s m h hn
    obtain ⟨meth, c, h1, h2, h3, h4, h5, h6, -, -⟩ := Cond.code_spec hn (atoms_spec (ws := ws) h _ (by rw [hw]; exact List.mem_cons_self))
    exact ⟨meth, c, h1, h2, h3, h4, h5, h6⟩
  · intro p e s m args below meth c s₁ B hml hP _
    have hh0 : s₁.heap = s.heap := by rw [B.state]; rfl
    have ht : ∀ x ∈ c.exceptionTable.toList, False := by
      obtain ⟨meth9, c9, h1, h2, -, -, -, -, h7, -⟩ := Cond.code_spec B.named (atoms_spec (ws := ws) B.pre _ (by rw [hw]; exact List.mem_cons_self))
      cases Option.some.inj (h1.symm.trans B.method)
      cases Option.some.inj (h2.symm.trans (Stand.of_body B).code)
      intro x hx
      rw [Array.isEmpty_iff.mp h7] at hx
      cases hx
    obtain ⟨t, a1, o, b1, b2, b3⟩ := body p e s m args below meth c s₁ B hml ht hP s₁ hh0 (Stand.of_body B)
    exact ⟨t, o, a1, b1, b2, b3⟩
/-- the table of a body with handlers -/
theorem vx_table {p : Program} {x y : MethodName} {S : Spec} {cc bytes : ByteArray} {maxL maxL' : Nat} {ret ret' : Option FieldType} {e : Env} {s s₁ : State} {m : MethodId} {args : Array Value} {below : List Frame} {meth : Method} {c : Code} {hh : List (Nat × Nat × Nat × Nat)}
    (B : BodyLoose p l y S cc maxL ret e s m args below meth c s₁) (h : (Cond.codeWith y bytes maxL' ret' hh).before args s = true) : c.exceptionTable.toList = tableOf hh := by
  obtain ⟨m9, meth9, c9, hn9, h1, h2, -, -, h6, -⟩ := Cond.codeWith_spec h
  cases Option.some.inj (hn9.symm.trans B.named)
  cases Option.some.inj (h1.symm.trans B.method)
  cases Option.some.inj (h2.symm.trans (Stand.of_body B).code)
  rw [← h6, table_eq]
end Bodies
end VXA
/-! ===== END ===== -/
/-! ===== BEGIN a static call of a method with an exception table ===== -/
section VXS
variable {p : Program} {l : Launch} {e : Env} {R : Room} {s : State} {m : MethodId} {args : Array Value} {below : List Frame} {meth : Method} {c : Code} {T : State} {H : Heap} {locs : List Loc} {cells slots : Nat}
abbrev vx_CSW (R : Room) (s : State) (args : Array Value) (own : String) (index : Nat) (y : MethodName) (bytes : ByteArray) (maxL : Nat) (ret : Option FieldType) (hh : List (Nat × Nat × Nat × Nat)) (ws : List Cond) (rm : Room) (mc ms n : Nat) : Prop :=
  (rm.cells = mc ∧ rm.slots = ms ∧ rm.frames + 1 ≤ R.frames ∧ 8 + (maxL + 11) + rm.locals ≤ R.locals ∧ (∀ w ∈ ws, ∀ (a' : Array Value) (U : State), s.WarmedH U.vm → w.before a' U = true) ∧ Cond.codeWith y bytes maxL ret hh ∈ ws) ∧
  (Cond.codeWith y bytes maxL ret hh).before args s = true ∧ (Cond.initialized y.cls).before args s = true ∧ (y.cls ≠ "java/lang/invoke/MethodHandle" ∧ y.cls ≠ "java/lang/invoke/VarHandle") ∧
  (∀ sig, parseMethodDescriptor y.desc = some sig → n = sig.parameters.length) ∧ (Cond.methodLink own index y).before args s = true ∧ (Cond.static y).before args s = true
theorem vx_cwSW {own : String} {index maxL mc ms : Nat} {y : MethodName} {bytes : ByteArray} {ret : Option FieldType} {hh : List (Nat × Nat × Nat × Nat)} {Ts ws ws' : List Cond} {rm : Room} (n : Nat) (ht : ∀ w ∈ Ts, w.before args s = true) (hT : GoodIn Ts (va_wsS own index y ws)) (hw : ws = Cond.codeWith y bytes maxL ret hh :: ws') (hrc : rm.cells = mc) (hrs : rm.slots = ms)
    (hd : y.cls ≠ "java/lang/invoke/MethodHandle" ∧ y.cls ≠ "java/lang/invoke/VarHandle" ∧ (parseMethodDescriptor y.desc).map (fun d => d.parameters.length) = some n) (hR : rm.frames + 1 ≤ R.frames ∧ 8 + (maxL + 11) + rm.locals ≤ R.locals) :
    vx_CSW R s args own index y bytes maxL ret hh ws rm mc ms n := by
  have ok : ∀ w ∈ va_wsS own index y ws, w.before args s = true := fun w h => ht w (hT w h).1
  have hG : GoodIn Ts ws := fun w h => hT w (by unfold va_wsS; exact List.mem_append_right _ h)
  have hc : Cond.codeWith y bytes maxL ret hh ∈ ws := by rw [hw]; exact List.mem_cons_self
  refine ⟨⟨hrc, hrs, hR.1, hR.2, pay_in ht hG, hc⟩, ht _ (hG _ hc).1, ok _ (by simp [va_wsS]), ⟨hd.1, hd.2.1⟩, fun sig h => ?_, ok _ (by simp [va_wsS]), ok _ (by simp [va_wsS])⟩
  have h2 := hd.2.2
  rw [h] at h2
  exact (Option.some.inj h2).symm
theorem vx_callSW (X : Stand p l e R s m args below meth c T locs cells slots) (hexec : p.tables.exec = Jvm.exec) {own : String} {index : Nat} {y : MethodName} {bytes : ByteArray} {maxL : Nat} {ret : Option FieldType} {hh : List (Nat × Nat × Nat × Nat)}
    (hown : s.vm.findClass own = some m.cls) (hlink : (Cond.methodLink own index y).before args s = true) (hstat : (Cond.static y).before args s = true) (hinit : (Cond.initialized y.cls).before args s = true)
    (hcode : (Cond.codeWith y bytes maxL ret hh).before args s = true) (hy : y.cls ≠ "java/lang/invoke/MethodHandle" ∧ y.cls ≠ "java/lang/invoke/VarHandle")
    {W9 : Nat} {Pre : Pt → Array Value → Prop} {Post : Pt → Array Value → Option Value → Pt → Prop} (hK : Back l R p e below s args y 3 W9 Pre Post)
    {g : JFrame} (hg : g.method = m) (hsize : g.locals.size = c.maxLocals) {argsL rest : List Value} (hlen : ∀ sig, parseMethodDescriptor y.desc = some sig → argsL.length = sig.parameters.length)
    (hstack : g.stack = argsL.reverse ++ rest) (hW : 2 * g.monitorRoom + (rest.map fun v => v.category).sum ≤ W9) (hdg : decode c.code g.pc = .ok (.invokestatic index, 3))
    (hpre : ∀ vm₁, s.WarmedH vm₁ → Pre ⟨T.setVm vm₁, locs, cells, slots⟩ argsL.toArray) :
    ∃ (v : Option Value) (vm₁ : Vm) (B : Pt), s.WarmedH vm₁ ∧ Stand p l e R s m args below meth c B.U B.locs B.cells B.slots ∧ Post ⟨T.setVm vm₁, locs, cells, slots⟩ argsL.toArray v B ∧
      ∀ target, Steps p.tables e below (B.U.setTop { g with pc := g.pc + 3, stack := v.toList ++ rest }) target → Steps p.tables e below (T.setTop g) target := by
  obtain ⟨mk, methM, cM, hnamed, hmethM, -, -, -, -, -, -, hsigM⟩ := Cond.codeWith_spec hcode
  have hstatic : methM.isStatic = true := Cond.static_spec hnamed hmethM hstat
  obtain ⟨kP, hkP, -⟩ := className_of_methodNamed hnamed
  have hinitP : kP.init = .initialized := Cond.initialized_spec (findClass_of_methodNamed hnamed) hkP hinit
  obtain ⟨vm₁, X₁, hstep₁⟩ := X.invokestatic hexec hown hlink hnamed hmethM hstatic hkP hinitP hy (g := g) hg (argsL := argsL) (rest := rest) (hlen _ hsigM) hstack hdg
  obtain ⟨v, B, X', hpost, hsteps⟩ := hK m meth c ⟨T.setVm vm₁, locs, cells, slots⟩ { g with stack := rest } (.invokestatic index) mk argsL.toArray X₁ hg hsize hdg hW (X₁.named hnamed) (hpre vm₁ X₁.warmed)
  exact ⟨v, vm₁, B, X₁.warmed, X', hpost, fun target h => hstep₁ _ fun acts => by rw [doInvoke_state]; exact hsteps.trans h⟩
theorem vx_runSW {y : MethodName} {bytes cc : ByteArray} {maxL nL mc ms n index : Nat} {ret : Option FieldType} {hh : List (Nat × Nat × Nat × Nat)} {ws : List Cond} {rm : Room} {Pc : Array Value → State → Prop} {Qc : Array Value → State → Outcome → State → Prop} {free : Addr → Prop} {Ts : List Cond} {own : String} {As rest : List Value} {g : JFrame}
    (S : CallFix p m c cc nL s args Ts own) (hM : Met l y ws rm Pc Qc mc ms free) (cw : vx_CSW R s args own index y bytes maxL ret hh ws rm mc ms n) (hp : PreS s H Pc As)
    (hg : g.method = m) (hn : As.length = n) (hsize : g.locals.size = nL) (hstack : g.stack = As.reverse ++ rest) (hW : 2 * g.monitorRoom + (rest.map fun v => v.category).sum ≤ 8) (hdg : decode cc g.pc = .ok (.invokestatic index, 3)) (hf : cells + mc ≤ R.cells ∧ slots + ms ≤ R.slots) :
    va_Run p l e R s m args below meth c H locs cells slots mc ms g rest (Qc As.toArray) (free) := by
  obtain ⟨⟨hrc, hrs, hfr, hlo, hws, hcw⟩, hcode, hini, hy, hlen, hl, hstt⟩ := cw
  have hK : Back l R p e below s args y 3 8 (PreOf R mc ms Pc) (PostOf Qc mc ms free) := va_backW (hh := hh) (bytes := bytes) (maxL := maxL) (ret := ret) hM hp.1 hrc hrs hfr hlo hws hcw (fun a' U hW => word_at hW (Or.inl (by first | rfl | simp [Cond.onTables, Cond.keeps, Cond.steady])) hini)
  obtain ⟨hx, hb, hml, ho, -⟩ := S
  intro T hT X
  obtain ⟨v, vm₁, ⟨U', l2, c2, s2⟩, hW₁, X', ⟨g', mk, t, L, e1, e2, hq, h1, hL, h2, h3⟩, st⟩ := vx_callSW X hx (hh := hh) (bytes := bytes) (maxL := maxL) (ret := ret) ho hl hstt hini hcode hy hK hg (hsize.trans hml.symm) (argsL := As) (rest := rest) (fun sig h => hn.trans (hlen sig h)) hstack hW (by rw [hb]; exact hdg)
    (fun vm₁ hW₁ => ⟨hf.1, hf.2, hp.2 (T.setVm vm₁) hT hW₁⟩)
  dsimp only [Pt.U, Pt.locs, Pt.cells, Pt.slots] at X' e1 e2 h1 h2 h3 st
  subst h1; subst h2; subst h3
  exact ⟨v, (T.setVm vm₁).calling g' mk As.toArray, t, U', L, hT, X', hL, e1, e2, hq, st⟩
/-- not caught here, past rows that name other classes: it goes on to the caller -/
theorem vx_outP {p : Program} {l : Launch} {e : Env} {R : Room} {s : State} {m : MethodId} {args : Array Value} {below : List Frame} {meth : Method} {c : Code} {H : Heap} {locs : List Loc} {cells slots : Nat} {free : Addr → Prop} {ls : Array Slot} {rest : List Value} {Qc : Array Value → State → Outcome → State → Prop} {XC : String → State → State → Prop}
    {pc : Nat} {own E : String} {ce : Cell} {q : Addr} {mc ms : Nat} (hown : s.vm.findClass own = some m.cls) (hlocks : meth.locks = false)
    (hpass : ∀ z ∈ c.exceptionTable.toList, covers z pc = false ∨ (z.catchType ≠ 0 ∧ ∃ nm : String, (Cond.classLink own z.catchType nm).before args s = true ∧ va_Nc E nm s)) (hcell : H[q]? = some ce) (hv : ce.vm = .none) (hcl : s.vm.findClass E = some ce.cls)
    (hx : ∀ t : State, t.heap = H → s.vm.Alike t.vm → XC E s t) (hf : ∀ z ∈ locs, free z.base) (hc : cells ≤ mc) (hs : slots ≤ ms) :
    vx_W p l e R s m args below meth c H locs cells slots (vx_MQ below Qc XC args s mc ms free) (F0 m pc ls rest) q := by
  intro T hT X
  have hpl : e.platform.magicAccessors = ({} : Platform).magicAccessors := by rw [X.admits.platform]
  obtain ⟨vm', hW', X', st⟩ := X.outThrough hlocks q (g := F0 m pc ls rest) rfl rfl rfl (cell := ce) (by rw [hT]; exact hcell) (by rw [hv]; rfl)
    (by obtain ⟨k9, h9, -⟩ := Vm.findClass_spec hcl; exact ⟨k9, h9⟩) (fun z hz => by
      rcases hpass z hz with h | ⟨hz0, nm, hl1, hn1⟩
      · exact Or.inl h
      · obtain ⟨c6, hc6, hcl6⟩ := Cond.classLink_spec hown hl1 e.platform hpl
        obtain ⟨a8, b8, h1, h2, h3⟩ := hn1
        cases Option.some.inj (h1.symm.trans hcl)
        cases Option.some.inj (h2.symm.trans hc6)
        exact Or.inr ⟨hz0, _, hcl6, h3⟩)
  obtain ⟨g₀, hfr⟩ := X'.frames_eq
  have hcell9 : ((T.setVm vm').setFrames (.throwing q :: below)).heap[q]? = some ce := by
    show T.heap[q]? = some ce
    rw [hT]; exact hcell
  have hend : Ended ((T.setVm vm').setFrames (.throwing q :: below)) below (.threw q) := State.frames_setFrames _ (State.cur_lt_of_frames hfr)
  refine ⟨(T.setVm vm').setFrames (.throwing q :: below), ?_, .threw q, X'.here.running, hend, Or.inr ⟨q, rfl, E, ce, locs, hx _ hT (X'.ends _).1.alike, hcell9, hv, hcl, (X'.ends _).1, (X'.ends _).2.mono hc hs, hf⟩⟩
  rw [X.pushThrowing_eq]
  exact st
/-- a thing of a world lies in the heap -/
theorem vx_lt {D : va_G} {cl : List vw_C} {ws : va_W} {H1 : Heap} (h : va_P D cl ws H1) {k : Nat} {q : Nat × va_E} (hk : ws[k]? = some q) : q.1 < H1.size := (h k q hk).lt
end VXS
/-! ===== END ===== -/
/-! ===== BEGIN methods with a table of their own: called by a name, returning or throwing ===== -/
section VXH
/-! vx_backW, vx_callVX, vx_callSX, vx_callVW, vx_runVW, vx_runVX, vx_runSX, vx_ofWH follow the same proofs as their sisters above (Free/Laws.lean, Shelf42/LK1.lean); vx_outP calls Shelf42/NT130.lean (outThrough). -/
section
variable {l : Launch} {R : Room} {p : Program} {e : Env} {below : List Frame} {s : State} {sargs : Array Value} {y : MethodName} {len W9 : Nat}
theorem vx_backW {ws : List Cond} {rm : Room} {Pc : Array Value → State → Prop} {Qc : Array Value → State → Outcome → State → Prop} {XC : String → State → State → Prop} {mc ms : Nat} {free : Addr → Prop} {bytes : ByteArray} {maxL : Nat} {ret : Option FieldType} {hh : List (Nat × Nat × Nat × Nat)}
    (hM : vx_Met l y ws rm Pc Qc XC mc ms free) (hblind : FrameBlind Pc) (hrc : rm.cells = mc) (hrs : rm.slots = ms)
    (hframes : rm.frames + 1 ≤ R.frames) (hlocals : W9 + (maxL + 11) + rm.locals ≤ R.locals)
    (hws : ∀ w ∈ ws, ∀ a' U, s.WarmedH U.vm → w.before a' U = true) (hcode : Cond.codeWith y bytes maxL ret hh ∈ ws) (hinit : ∀ a' U, s.WarmedH U.vm → (Cond.initialized y.cls).before a' U = true) :
    vx_Back l R p e below s sargs y len W9 (PreOf R mc ms Pc) (PostOf Qc mc ms free) (vx_Post XC mc ms free) := by
  intro m meth c A g ig mk a X hg hsize hdg hW hn hp
  have h1 : (headSpec ws rm).pre.before a A.U = true := atoms_intro fun w hw => hws w hw _ _ X.warmed
  have h2 : (Cond.codeWith y bytes maxL ret hh).before a A.U = true := hws _ hcode _ _ X.warmed
  have h3 : (Cond.initialized y.cls).before a A.U = true := hinit _ _ X.warmed
  have h4 : A.cells + (headSpec ws rm).room.cells ≤ R.cells := by rw [show (headSpec ws rm).room.cells = mc from hrc]; exact hp.1
  have h5 : A.slots + (headSpec ws rm).room.slots ≤ R.slots := by rw [show (headSpec ws rm).room.slots = ms from hrs]; exact hp.2.1
  have hPc : Pc a (A.U.calling g mk a) := hblind _ _ _ _ hp.2.2
  obtain ⟨U, Ls, c0, s0⟩ := A
  dsimp only [Pt.U, Pt.locs, Pt.cells, Pt.slots] at h1 h2 h3 h4 h5 X hn hPc ⊢
  obtain ⟨m9, methY, cY, hn9, hmY, hcY, -, hlY, -⟩ := Cond.codeWith_spec h2
  cases Option.some.inj (hn9.symm.trans hn)
  obtain ⟨kY, hkY, -⟩ := className_of_methodNamed hn
  have hinitY : kY.init = .initialized := Cond.initialized_spec (findClass_of_methodNamed hn) hkY h3
  have h : At U g.method c below := by rw [hg]; exact X.here
  have hlocals9 : W9 + (maxL + 11) + (headSpec ws rm).room.locals ≤ R.locals := hlocals
  have happ : (headSpec ws rm).appliesLoose y e.platform (U.calling g mk a) = true :=
    Spec.appliesLoose_calling (g := g) h hdg hn hkY hinitY
      (X.room_calling (g := g) (R' := (headSpec ws rm).room) hsize hmY hcY hframes (by rw [hlY]; omega) h4 h5) h1
  obtain ⟨mid, hmid⟩ := h.above
  have hfr : (U.setTop g).frames = (.java g :: mid) ++ below := by rw [State.frames_setTop' g h.top, hmid]; rfl
  obtain ⟨o, s₂, hsteps, -, hend, hq⟩ := Steps.callFree hM p X.admits X.cas X.clock (acts := []) hfr happ hPc trivial
  have hq' : vx_Q Qc XC mc ms free a (U.calling g mk a) o s₂ := hq
  rw [State.frames_setTop' g h.top] at hend
  obtain ⟨g₀, hg0⟩ := Option.isSome_iff_exists.mp h.top
  obtain ⟨r, hr⟩ := State.topJava?_eq_some.mp hg0
  have hr' : (({ U with heap := s₂.heap, slotsUsed := s₂.slotsUsed } : State).setVm s₂.vm).frames = .java g₀ :: r := hr
  rcases hq' with ⟨hqc, L, hfe, hL⟩ | ⟨q, rfl, E, ce, L, hx, hce, hcv, hcl, hW₂, hsm, hL⟩
  · obtain ⟨⟨v, rfl⟩, hW₂, e2, q2, q3, q4, q5, q6⟩ := id hfe
    have e3 : s₂ = ({ (U.calling g mk a).setFrames s₂.frames with heap := s₂.heap, slotsUsed := s₂.slotsUsed } : State).setVm s₂.vm := by
      have : s₂ = ({ s₂ with vm := (U.calling g mk a).vm } : State).setVm s₂.vm := rfl
      rw [e2] at this
      exact this
    obtain ⟨c₂, i₂, len₂, hc₂, hd₂, hf₂⟩ := hend
    have hW' : U.WarmedH s₂.vm := hW₂
    have hcc : c₂ = c := by
      have h1 : s₂.code? g.method = U.code? g.method := by
        rw [State.code?_eq, State.code?_eq, hW'.alike.method?]
      exact Option.some.inj (hc₂.symm.trans (h1.trans h.code))
    subst hcc
    have hlen : len₂ = len := by rw [hdg] at hd₂; cases hd₂; rfl
    subst hlen
    have hs₂ : s₂ = (({ U with heap := s₂.heap, slotsUsed := s₂.slotsUsed } : State).setVm s₂.vm).setTop { g with pc := g.pc + len₂, stack := v.toList ++ g.stack } := by
      refine e3.trans ?_
      rw [hf₂, State.calling_eq h.top, State.setFrames_setFrames, State.setTop_of_frames _ hr', hr]
      rfl
    have hsame : U.sameButNew ({ U with heap := s₂.heap, slotsUsed := s₂.slotsUsed } : State) L mc ms := by
      refine ⟨?_, q2, q3, q4, q5, q6⟩
      obtain ⟨t, ht, -⟩ := State.frames_cons hr
      show ({ U with heap := s₂.heap, slotsUsed := s₂.slotsUsed } : State) = { U.setFrames U.frames with heap := s₂.heap, slotsUsed := s₂.slotsUsed }
      rw [State.setFrames_self ht]
    subst hg
    refine Or.inl ⟨v, ⟨(({ U with heap := s₂.heap, slotsUsed := s₂.slotsUsed } : State).setVm s₂.vm), Ls ++ L, c0 + mc, s0 + ms⟩,
      ⟨X.admits, X.cas, X.clock, X.frames, X.room, X.hears, X.method, X.code, (X.here.setHeapUsed s₂.heap s₂.slotsUsed).setVm hW'.alike, X.tail, State.WarmedH.trans X.warmed hW', X.limits, X.bytes, X.same.trans (hsame.setVm s.vm)⟩,
      ⟨g, mk, s₂, L, rfl, rfl, hqc, rfl, hL, rfl, rfl⟩, ?_⟩
    show Steps p.tables e below _ ((({ U with heap := s₂.heap, slotsUsed := s₂.slotsUsed } : State).setVm s₂.vm).setTop { g with pc := g.pc + len₂, stack := v.toList ++ g.stack })
    rw [← hs₂]
    exact hsteps
  · obtain ⟨e2, q2, q3, q4, q5, q6⟩ := id hsm
    have e3 : s₂ = ({ (U.calling g mk a).setFrames s₂.frames with heap := s₂.heap, slotsUsed := s₂.slotsUsed } : State).setVm s₂.vm := by
      have : s₂ = ({ s₂ with vm := (U.calling g mk a).vm } : State).setVm s₂.vm := rfl
      rw [e2] at this
      exact this
    have hf₂ : s₂.frames = .throwing q :: .java g :: U.frames.tail := hend
    have hW' : U.WarmedH s₂.vm := hW₂
    have hs₂ : s₂ = ((({ U with heap := s₂.heap, slotsUsed := s₂.slotsUsed } : State).setVm s₂.vm).setTop g).pushFrame (.throwing q) := by
      refine e3.trans ?_
      rw [hf₂, State.calling_eq h.top, State.setFrames_setFrames, State.pushFrame, State.frames_setTop _ hr', State.setTop_of_frames _ hr', State.setFrames_setFrames, hr]
      rfl
    have hsame : U.sameButNew ({ U with heap := s₂.heap, slotsUsed := s₂.slotsUsed } : State) L mc ms := by
      refine ⟨?_, q2, q3, q4, q5, q6⟩
      obtain ⟨t, ht, -⟩ := State.frames_cons hr
      show ({ U with heap := s₂.heap, slotsUsed := s₂.slotsUsed } : State) = { U.setFrames U.frames with heap := s₂.heap, slotsUsed := s₂.slotsUsed }
      rw [State.setFrames_self ht]
    subst hg
    refine Or.inr ⟨q, ⟨(({ U with heap := s₂.heap, slotsUsed := s₂.slotsUsed } : State).setVm s₂.vm), Ls ++ L, c0 + mc, s0 + ms⟩,
      ⟨X.admits, X.cas, X.clock, X.frames, X.room, X.hears, X.method, X.code, (X.here.setHeapUsed s₂.heap s₂.slotsUsed).setVm hW'.alike, X.tail, State.WarmedH.trans X.warmed hW', X.limits, X.bytes, X.same.trans (hsame.setVm s.vm)⟩,
      ⟨g, mk, s₂, L, E, ce, rfl, rfl, hx, hce, hcv, hcl, rfl, hL, rfl, rfl⟩, ?_⟩
    show Steps p.tables e below _ (((({ U with heap := s₂.heap, slotsUsed := s₂.slotsUsed } : State).setVm s₂.vm).setTop g).pushFrame (.throwing q))
    rw [← hs₂]
    exact hsteps
end
variable {p : Program} {l : Launch} {e : Env} {R : Room} {s : State} {m : MethodId} {args : Array Value} {below : List Frame} {meth : Method} {c : Code} {T : State} {H : Heap} {locs : List Loc} {cells slots : Nat}
theorem vx_callVX (X : Stand p l e R s m args below meth c T locs cells slots) (hexec : p.tables.exec = Jvm.exec) {own C : String} {index : Nat} {y : MethodName} {bytes : ByteArray} {maxL : Nat} {ret : Option FieldType} {hh : List (Nat × Nat × Nat × Nat)}
    (hown : s.vm.findClass own = some m.cls) (hlink : (Cond.methodLink own index y).before args s = true) (hinst : (Cond.instanceMethod y).before args s = true) (hsel : (Cond.selects C y y).before args s = true)
    (hcode : (Cond.codeWith y bytes maxL ret hh).before args s = true) (hy : y.cls ≠ "java/lang/invoke/MethodHandle" ∧ y.cls ≠ "java/lang/invoke/VarHandle")
    {W9 : Nat} {Pre : Pt → Array Value → Prop} {Post : Pt → Array Value → Option Value → Pt → Prop} {PostX : Pt → Array Value → Addr → Pt → Prop} (hK : vx_Back l R p e below s args y 3 W9 Pre Post PostX)
    {b : Addr} {cellB : Cell} (hcell : T.heap[b]? = some cellB) (hobj : cellB.vm.isStatics = false) (hcls : s.vm.findClass C = some cellB.cls)
    {g : JFrame} (hg : g.method = m) (hsize : g.locals.size = c.maxLocals) {argsL rest : List Value} (hlen : ∀ sig, parseMethodDescriptor y.desc = some sig → argsL.length = sig.parameters.length)
    (hstack : g.stack = argsL.reverse ++ .ref b :: rest) (hW : 2 * g.monitorRoom + (rest.map fun v => v.category).sum ≤ W9) (hdg : decode c.code g.pc = .ok (.invokevirtual index, 3))
    (hpre : ∀ vm₁, s.WarmedH vm₁ → Pre ⟨T.setVm vm₁, locs, cells, slots⟩ (Value.ref b :: argsL).toArray) :
    (∃ (v : Option Value) (vm₁ : Vm) (B : Pt), s.WarmedH vm₁ ∧ Stand p l e R s m args below meth c B.U B.locs B.cells B.slots ∧ Post ⟨T.setVm vm₁, locs, cells, slots⟩ (Value.ref b :: argsL).toArray v B ∧
      ∀ target, Steps p.tables e below (B.U.setTop { g with pc := g.pc + 3, stack := v.toList ++ rest }) target → Steps p.tables e below (T.setTop g) target) ∨
    (∃ (q : Addr) (vm₁ : Vm) (B : Pt), s.WarmedH vm₁ ∧ Stand p l e R s m args below meth c B.U B.locs B.cells B.slots ∧ PostX ⟨T.setVm vm₁, locs, cells, slots⟩ (Value.ref b :: argsL).toArray q B ∧
      Steps p.tables e below (T.setTop g) ((B.U.setTop { g with stack := rest }).pushFrame (.throwing q))) := by
  obtain ⟨mk, methM, hnamed, hmethM, hstM, habM⟩ := Cond.instanceMethod_spec hinst
  obtain ⟨m8, methM', cM, hn8, hmethM', -, -, -, -, -, -, hsigM⟩ := Cond.codeWith_spec hcode
  cases Option.some.inj (hn8.symm.trans hnamed)
  cases hmethM.symm.trans hmethM'
  obtain ⟨c2, r2, m2, q1, q2, q3, q4, kP, hkP, hkPi⟩ := Cond.selects_spec hsel
  cases hcls.symm.trans q1
  cases (State.methodFound?_of_named hnamed hy).symm.trans q2
  cases hnamed.symm.trans q3
  have hselP : selectMethod e.platform s.vm cellB.cls mk = .method mk := by rw [Launch.admits_selectMethod X.admits]; exact q4
  obtain ⟨vm₁, X₁, hstep₁⟩ := X.invokevirtual hexec hown hlink hnamed hmethM hstM hkP hkPi hy (a := b) (cell := cellB) hcell
    (fun z h => by rw [h] at hobj; cases hobj) hselP hmethM habM hkP hkPi (g := g) hg (argsL := argsL) (rest := rest) (hlen _ hsigM) hstack hdg
  rcases hK m meth c ⟨T.setVm vm₁, locs, cells, slots⟩ { g with stack := rest } (.invokevirtual index) mk (Value.ref b :: argsL).toArray X₁ hg hsize hdg hW (X₁.named hnamed) (hpre vm₁ X₁.warmed) with ⟨v, B, X', hpost, hsteps⟩ | ⟨q, B, X', hpost, hsteps⟩
  · exact Or.inl ⟨v, vm₁, B, X₁.warmed, X', hpost, fun target h => hstep₁ _ fun acts => by rw [doInvoke_state]; exact hsteps.trans h⟩
  · exact Or.inr ⟨q, vm₁, B, X₁.warmed, X', hpost, hstep₁ _ fun acts => by rw [doInvoke_state]; exact hsteps⟩
theorem vx_callSX (X : Stand p l e R s m args below meth c T locs cells slots) (hexec : p.tables.exec = Jvm.exec) {own : String} {index : Nat} {y : MethodName} {bytes : ByteArray} {maxL : Nat} {ret : Option FieldType} {hh : List (Nat × Nat × Nat × Nat)}
    (hown : s.vm.findClass own = some m.cls) (hlink : (Cond.methodLink own index y).before args s = true) (hstat : (Cond.static y).before args s = true) (hinit : (Cond.initialized y.cls).before args s = true)
    (hcode : (Cond.codeWith y bytes maxL ret hh).before args s = true) (hy : y.cls ≠ "java/lang/invoke/MethodHandle" ∧ y.cls ≠ "java/lang/invoke/VarHandle")
    {W9 : Nat} {Pre : Pt → Array Value → Prop} {Post : Pt → Array Value → Option Value → Pt → Prop} {PostX : Pt → Array Value → Addr → Pt → Prop} (hK : vx_Back l R p e below s args y 3 W9 Pre Post PostX)
    {g : JFrame} (hg : g.method = m) (hsize : g.locals.size = c.maxLocals) {argsL rest : List Value} (hlen : ∀ sig, parseMethodDescriptor y.desc = some sig → argsL.length = sig.parameters.length)
    (hstack : g.stack = argsL.reverse ++ rest) (hW : 2 * g.monitorRoom + (rest.map fun v => v.category).sum ≤ W9) (hdg : decode c.code g.pc = .ok (.invokestatic index, 3))
    (hpre : ∀ vm₁, s.WarmedH vm₁ → Pre ⟨T.setVm vm₁, locs, cells, slots⟩ argsL.toArray) :
    (∃ (v : Option Value) (vm₁ : Vm) (B : Pt), s.WarmedH vm₁ ∧ Stand p l e R s m args below meth c B.U B.locs B.cells B.slots ∧ Post ⟨T.setVm vm₁, locs, cells, slots⟩ argsL.toArray v B ∧
      ∀ target, Steps p.tables e below (B.U.setTop { g with pc := g.pc + 3, stack := v.toList ++ rest }) target → Steps p.tables e below (T.setTop g) target) ∨
    (∃ (q : Addr) (vm₁ : Vm) (B : Pt), s.WarmedH vm₁ ∧ Stand p l e R s m args below meth c B.U B.locs B.cells B.slots ∧ PostX ⟨T.setVm vm₁, locs, cells, slots⟩ argsL.toArray q B ∧
      Steps p.tables e below (T.setTop g) ((B.U.setTop { g with stack := rest }).pushFrame (.throwing q))) := by
  obtain ⟨mk, methM, cM, hnamed, hmethM, -, -, -, -, -, -, hsigM⟩ := Cond.codeWith_spec hcode
  have hstatic : methM.isStatic = true := Cond.static_spec hnamed hmethM hstat
  obtain ⟨kP, hkP, -⟩ := className_of_methodNamed hnamed
  have hinitP : kP.init = .initialized := Cond.initialized_spec (findClass_of_methodNamed hnamed) hkP hinit
  obtain ⟨vm₁, X₁, hstep₁⟩ := X.invokestatic hexec hown hlink hnamed hmethM hstatic hkP hinitP hy (g := g) hg (argsL := argsL) (rest := rest) (hlen _ hsigM) hstack hdg
  rcases hK m meth c ⟨T.setVm vm₁, locs, cells, slots⟩ { g with stack := rest } (.invokestatic index) mk argsL.toArray X₁ hg hsize hdg hW (X₁.named hnamed) (hpre vm₁ X₁.warmed) with ⟨v, B, X', hpost, hsteps⟩ | ⟨q, B, X', hpost, hsteps⟩
  · exact Or.inl ⟨v, vm₁, B, X₁.warmed, X', hpost, fun target h => hstep₁ _ fun acts => by rw [doInvoke_state]; exact hsteps.trans h⟩
  · exact Or.inr ⟨q, vm₁, B, X₁.warmed, X', hpost, hstep₁ _ fun acts => by rw [doInvoke_state]; exact hsteps⟩
theorem vx_callVW (X : Stand p l e R s m args below meth c T locs cells slots) (hexec : p.tables.exec = Jvm.exec) {own C : String} {index : Nat} {y : MethodName} {bytes : ByteArray} {maxL : Nat} {ret : Option FieldType} {hh : List (Nat × Nat × Nat × Nat)}
    (hown : s.vm.findClass own = some m.cls) (hlink : (Cond.methodLink own index y).before args s = true) (hinst : (Cond.instanceMethod y).before args s = true) (hsel : (Cond.selects C y y).before args s = true)
    (hcode : (Cond.codeWith y bytes maxL ret hh).before args s = true) (hy : y.cls ≠ "java/lang/invoke/MethodHandle" ∧ y.cls ≠ "java/lang/invoke/VarHandle")
    {W9 : Nat} {Pre : Pt → Array Value → Prop} {Post : Pt → Array Value → Option Value → Pt → Prop} (hK : Back l R p e below s args y 3 W9 Pre Post)
    {b : Addr} {cellB : Cell} (hcell : T.heap[b]? = some cellB) (hobj : cellB.vm.isStatics = false) (hcls : s.vm.findClass C = some cellB.cls)
    {g : JFrame} (hg : g.method = m) (hsize : g.locals.size = c.maxLocals) {argsL rest : List Value} (hlen : ∀ sig, parseMethodDescriptor y.desc = some sig → argsL.length = sig.parameters.length)
    (hstack : g.stack = argsL.reverse ++ .ref b :: rest) (hW : 2 * g.monitorRoom + (rest.map fun v => v.category).sum ≤ W9) (hdg : decode c.code g.pc = .ok (.invokevirtual index, 3))
    (hpre : ∀ vm₁, s.WarmedH vm₁ → Pre ⟨T.setVm vm₁, locs, cells, slots⟩ (Value.ref b :: argsL).toArray) :
    ∃ (v : Option Value) (vm₁ : Vm) (B : Pt), s.WarmedH vm₁ ∧ Stand p l e R s m args below meth c B.U B.locs B.cells B.slots ∧ Post ⟨T.setVm vm₁, locs, cells, slots⟩ (Value.ref b :: argsL).toArray v B ∧
      ∀ target, Steps p.tables e below (B.U.setTop { g with pc := g.pc + 3, stack := v.toList ++ rest }) target → Steps p.tables e below (T.setTop g) target := by
  obtain ⟨mk, methM, hnamed, hmethM, hstM, habM⟩ := Cond.instanceMethod_spec hinst
  obtain ⟨m8, methM', cM, hn8, hmethM', -, -, -, -, -, -, hsigM⟩ := Cond.codeWith_spec hcode
  cases Option.some.inj (hn8.symm.trans hnamed)
  cases hmethM.symm.trans hmethM'
  obtain ⟨c2, r2, m2, q1, q2, q3, q4, kP, hkP, hkPi⟩ := Cond.selects_spec hsel
  cases hcls.symm.trans q1
  cases (State.methodFound?_of_named hnamed hy).symm.trans q2
  cases hnamed.symm.trans q3
  have hselP : selectMethod e.platform s.vm cellB.cls mk = .method mk := by rw [Launch.admits_selectMethod X.admits]; exact q4
  obtain ⟨vm₁, X₁, hstep₁⟩ := X.invokevirtual hexec hown hlink hnamed hmethM hstM hkP hkPi hy (a := b) (cell := cellB) hcell
    (fun z h => by rw [h] at hobj; cases hobj) hselP hmethM habM hkP hkPi (g := g) hg (argsL := argsL) (rest := rest) (hlen _ hsigM) hstack hdg
  obtain ⟨v, B, X', hpost, hsteps⟩ := hK m meth c ⟨T.setVm vm₁, locs, cells, slots⟩ { g with stack := rest } (.invokevirtual index) mk (Value.ref b :: argsL).toArray X₁ hg hsize hdg hW (X₁.named hnamed) (hpre vm₁ X₁.warmed)
  exact ⟨v, vm₁, B, X₁.warmed, X', hpost, fun target h => hstep₁ _ fun acts => by rw [doInvoke_state]; exact hsteps.trans h⟩
abbrev vx_CVW (R : Room) (s : State) (args : Array Value) (own C : String) (index : Nat) (y : MethodName) (bytes : ByteArray) (maxL : Nat) (ret : Option FieldType) (hh : List (Nat × Nat × Nat × Nat)) (ws : List Cond) (rm : Room) (mc ms n : Nat) : Prop :=
  (rm.cells = mc ∧ rm.slots = ms ∧ rm.frames + 1 ≤ R.frames ∧ 8 + (maxL + 11) + rm.locals ≤ R.locals ∧ (∀ w ∈ ws, ∀ (a' : Array Value) (U : State), s.WarmedH U.vm → w.before a' U = true) ∧ Cond.codeWith y bytes maxL ret hh ∈ ws) ∧
  (Cond.codeWith y bytes maxL ret hh).before args s = true ∧ (Cond.initialized y.cls).before args s = true ∧ (y.cls ≠ "java/lang/invoke/MethodHandle" ∧ y.cls ≠ "java/lang/invoke/VarHandle") ∧
  (∀ sig, parseMethodDescriptor y.desc = some sig → n = sig.parameters.length) ∧ (Cond.methodLink own index y).before args s = true ∧ (Cond.instanceMethod y).before args s = true ∧ (Cond.selects C y y).before args s = true
theorem vx_cwVW {own C : String} {index maxL mc ms : Nat} {y : MethodName} {bytes : ByteArray} {ret : Option FieldType} {hh : List (Nat × Nat × Nat × Nat)} {Ts ws ws' : List Cond} {rm : Room} (n : Nat) (ht : ∀ w ∈ Ts, w.before args s = true) (hT : GoodIn Ts (wsV own index C y ws)) (hw : ws = Cond.codeWith y bytes maxL ret hh :: ws') (hrc : rm.cells = mc) (hrs : rm.slots = ms)
    (hd : y.cls = C ∧ y.cls ≠ "java/lang/invoke/MethodHandle" ∧ y.cls ≠ "java/lang/invoke/VarHandle" ∧ (parseMethodDescriptor y.desc).map (fun d => d.parameters.length) = some n) (hR : rm.frames + 1 ≤ R.frames ∧ 8 + (maxL + 11) + rm.locals ≤ R.locals) :
    vx_CVW R s args own C index y bytes maxL ret hh ws rm mc ms n := by
  obtain ⟨hC, hd⟩ := hd
  subst hC
  have ok : ∀ w ∈ wsV own index y.cls y ws, w.before args s = true := fun w h => ht w (hT w h).1
  have hG : GoodIn Ts ws := fun w h => hT w (by unfold wsV; exact List.mem_append_right _ h)
  have hc : Cond.codeWith y bytes maxL ret hh ∈ ws := by rw [hw]; exact List.mem_cons_self
  refine ⟨⟨hrc, hrs, hR.1, hR.2, pay_in ht hG, hc⟩, ht _ (hG _ hc).1, ok _ (by simp [wsV]), ⟨hd.1, hd.2.1⟩, fun sig h => ?_, ok _ (by simp [wsV]), ok _ (by simp [wsV]), ok _ (by simp [wsV])⟩
  have h2 := hd.2.2
  rw [h] at h2
  exact (Option.some.inj h2).symm
theorem vx_runVW {y : MethodName} {bytes cc : ByteArray} {maxL nL mc ms n index : Nat} {ret : Option FieldType} {hh : List (Nat × Nat × Nat × Nat)} {ws : List Cond} {rm : Room} {Pc : Array Value → State → Prop} {Qc : Array Value → State → Outcome → State → Prop} {free : Addr → Prop} {Ts : List Cond} {own C : String} {b : Addr} {As rest : List Value} {g : JFrame}
    (S : CallFix p m c cc nL s args Ts own) (hM : Met l y ws rm Pc Qc mc ms free) (cw : vx_CVW R s args own C index y bytes maxL ret hh ws rm mc ms n) (hp : PreV s H C b Pc As)
    (hg : g.method = m) (hn : As.length = n) (hsize : g.locals.size = nL) (hstack : g.stack = As.reverse ++ .ref b :: rest) (hW : 2 * g.monitorRoom + (rest.map fun v => v.category).sum ≤ 8) (hdg : decode cc g.pc = .ok (.invokevirtual index, 3)) (hf : cells + mc ≤ R.cells ∧ slots + ms ≤ R.slots) :
    va_Run p l e R s m args below meth c H locs cells slots mc ms g rest (Qc (Value.ref b :: As).toArray) free := by
  obtain ⟨⟨hrc, hrs, hfr, hlo, hws, hcw⟩, hcode, hini, hy, hlen, hl, hin, hse⟩ := cw
  have hK : Back l R p e below s args y 3 8 (PreOf R mc ms Pc) (PostOf Qc mc ms free) := va_backW (hh := hh) (bytes := bytes) (maxL := maxL) (ret := ret) hM hp.1 hrc hrs hfr hlo hws hcw (fun a' U hW => word_at hW (Or.inl (by first | rfl | simp [Cond.onTables, Cond.keeps, Cond.steady])) hini)
  obtain ⟨hx, hb, hml, ho, -⟩ := S
  obtain ⟨-, ⟨cellB, hcB, hoB, hclB⟩, hPc⟩ := hp
  intro T hT X
  obtain ⟨v, vm₁, ⟨U', l2, c2, s2⟩, hW₁, X', ⟨g', mk, t, L, e1, e2, hq, h1, hL, h2, h3⟩, st⟩ := vx_callVW X hx (C := C) (hh := hh) (bytes := bytes) (maxL := maxL) (ret := ret) ho hl hin hse hcode hy hK (by rw [hT]; exact hcB) hoB hclB hg (hsize.trans hml.symm) (argsL := As) (rest := rest) (fun sig h => hn.trans (hlen sig h)) hstack hW (by rw [hb]; exact hdg)
    (fun vm₁ hW₁ => ⟨hf.1, hf.2, hPc (T.setVm vm₁) hT hW₁⟩)
  dsimp only [Pt.U, Pt.locs, Pt.cells, Pt.slots] at X' e1 e2 h1 h2 h3 st
  subst h1; subst h2; subst h3
  exact ⟨v, (T.setVm vm₁).calling g' mk (Value.ref b :: As).toArray, t, U', L, hT, X', hL, e1, e2, hq, st⟩
section
variable {y : MethodName} {bytes cc : ByteArray} {maxL nL mc ms n index : Nat} {ret : Option FieldType} {ws : List Cond} {rm : Room} {Pc : Array Value → State → Prop} {Qc : Array Value → State → Outcome → State → Prop} {XC : String → State → State → Prop} {free : Addr → Prop} {Ts : List Cond} {own C : String} {b : Addr} {As rest : List Value} {g : JFrame}
theorem vx_runVX {hh : List (Nat × Nat × Nat × Nat)} (S : CallFix p m c cc nL s args Ts own) (hM : vx_Met l y ws rm Pc Qc XC mc ms free) (cw : vx_CVW R s args own C index y bytes maxL ret hh ws rm mc ms n) (hp : PreV s H C b Pc As)
    (hg : g.method = m) (hn : As.length = n) (hsize : g.locals.size = nL) (hstack : g.stack = As.reverse ++ .ref b :: rest) (hW : 2 * g.monitorRoom + (rest.map fun v => v.category).sum ≤ 8) (hdg : decode cc g.pc = .ok (.invokevirtual index, 3)) (hf : cells + mc ≤ R.cells ∧ slots + ms ≤ R.slots) :
    vx_Run p l e R s m args below meth c H locs cells slots mc ms g rest (Qc (Value.ref b :: As).toArray) XC free := by
  obtain ⟨⟨hrc, hrs, hfr, hlo, hws, hcw⟩, hcode, hini, hy, hlen, hl, hin, hse⟩ := cw
  have hK : vx_Back l R p e below s args y 3 8 (PreOf R mc ms Pc) (PostOf Qc mc ms free) (vx_Post XC mc ms free) := vx_backW (hh := hh) (bytes := bytes) (maxL := maxL) (ret := ret) hM hp.1 hrc hrs hfr hlo hws hcw (fun a' U hW => word_at hW (Or.inl (by first | rfl | simp [Cond.onTables, Cond.keeps, Cond.steady])) hini)
  obtain ⟨hx, hb, hml, ho, -⟩ := S
  obtain ⟨-, ⟨cellB, hcB, hoB, hclB⟩, hPc⟩ := hp
  intro T hT X
  rcases vx_callVX X hx (C := C) (hh := hh) (bytes := bytes) (maxL := maxL) (ret := ret) ho hl hin hse hcode hy hK (by rw [hT]; exact hcB) hoB hclB hg (hsize.trans hml.symm) (argsL := As) (rest := rest) (fun sig h => hn.trans (hlen sig h)) hstack hW (by rw [hb]; exact hdg)
    (fun vm₁ hW₁ => ⟨hf.1, hf.2, hPc (T.setVm vm₁) hT hW₁⟩) with ⟨v, vm₁, ⟨U', l2, c2, s2⟩, hW₁, X', ⟨g', mk, t, L, e1, e2, hq, h1, hL, h2, h3⟩, st⟩ | ⟨q, vm₁, ⟨U', l2, c2, s2⟩, hW₁, X', ⟨g', mk, t, L, E, ce, e1, e2, hq, hce, hcv, hcl, h1, hL, h2, h3⟩, st⟩
  · dsimp only [Pt.U, Pt.locs, Pt.cells, Pt.slots] at X' e1 e2 h1 h2 h3 st
    subst h1; subst h2; subst h3
    exact Or.inl ⟨v, (T.setVm vm₁).calling g' mk (Value.ref b :: As).toArray, t, U', L, hT, X', hL, e1, e2, hq, st⟩
  · dsimp only [Pt.U, Pt.locs, Pt.cells, Pt.slots] at X' e1 e2 h1 h2 h3 st hcl
    subst h1; subst h2; subst h3
    exact Or.inr ⟨q, (T.setVm vm₁).calling g' mk (Value.ref b :: As).toArray, t, U', L, E, ce, hT, X', hL, e1, e2, hq, hce, hcv, vx_cls hW₁ hcl, st⟩
theorem vx_runSX {hh : List (Nat × Nat × Nat × Nat)} (S : CallFix p m c cc nL s args Ts own) (hM : vx_Met l y ws rm Pc Qc XC mc ms free) (cw : vx_CSW R s args own index y bytes maxL ret hh ws rm mc ms n) (hp : PreS s H Pc As)
    (hg : g.method = m) (hn : As.length = n) (hsize : g.locals.size = nL) (hstack : g.stack = As.reverse ++ rest) (hW : 2 * g.monitorRoom + (rest.map fun v => v.category).sum ≤ 8) (hdg : decode cc g.pc = .ok (.invokestatic index, 3)) (hf : cells + mc ≤ R.cells ∧ slots + ms ≤ R.slots) :
    vx_Run p l e R s m args below meth c H locs cells slots mc ms g rest (Qc As.toArray) XC free := by
  obtain ⟨⟨hrc, hrs, hfr, hlo, hws, hcw⟩, hcode, hini, hy, hlen, hl, hstt⟩ := cw
  have hK : vx_Back l R p e below s args y 3 8 (PreOf R mc ms Pc) (PostOf Qc mc ms free) (vx_Post XC mc ms free) := vx_backW (hh := hh) (bytes := bytes) (maxL := maxL) (ret := ret) hM hp.1 hrc hrs hfr hlo hws hcw (fun a' U hW => word_at hW (Or.inl (by first | rfl | simp [Cond.onTables, Cond.keeps, Cond.steady])) hini)
  obtain ⟨hx, hb, hml, ho, -⟩ := S
  intro T hT X
  rcases vx_callSX X hx (hh := hh) (bytes := bytes) (maxL := maxL) (ret := ret) ho hl hstt hini hcode hy hK hg (hsize.trans hml.symm) (argsL := As) (rest := rest) (fun sig h => hn.trans (hlen sig h)) hstack hW (by rw [hb]; exact hdg)
    (fun vm₁ hW₁ => ⟨hf.1, hf.2, hp.2 (T.setVm vm₁) hT hW₁⟩) with ⟨v, vm₁, ⟨U', l2, c2, s2⟩, hW₁, X', ⟨g', mk, t, L, e1, e2, hq, h1, hL, h2, h3⟩, st⟩ | ⟨q, vm₁, ⟨U', l2, c2, s2⟩, hW₁, X', ⟨g', mk, t, L, E, ce, e1, e2, hq, hce, hcv, hcl, h1, hL, h2, h3⟩, st⟩
  · dsimp only [Pt.U, Pt.locs, Pt.cells, Pt.slots] at X' e1 e2 h1 h2 h3 st
    subst h1; subst h2; subst h3
    exact Or.inl ⟨v, (T.setVm vm₁).calling g' mk As.toArray, t, U', L, hT, X', hL, e1, e2, hq, st⟩
  · dsimp only [Pt.U, Pt.locs, Pt.cells, Pt.slots] at X' e1 e2 h1 h2 h3 st hcl
    subst h1; subst h2; subst h3
    exact Or.inr ⟨q, (T.setVm vm₁).calling g' mk As.toArray, t, U', L, E, ce, hT, X', hL, e1, e2, hq, hce, hcv, vx_cls hW₁ hcl, st⟩
end
end VXH
theorem vx_ofWH {l : Launch} {y : MethodName} {ws ws' : List Cond} {rm : Room} {Pc : Array Value → State → Prop} {Qc : Array Value → State → Outcome → State → Prop} {XC : String → State → State → Prop} {mc ms : Nat} {free : Addr → Prop} {cc : ByteArray} {maxL : Nat} {ret : Option FieldType} {hh : List (Nat × Nat × Nat × Nat)}
    (hy : plainName y.cls = true) (hw : ws = Cond.codeWith y cc maxL ret hh :: ws')
    (body : ∀ p e s m args below meth c s₁, BodyLoose p l y (headSpec ws rm) cc maxL ret e s m args below meth c s₁ → c.maxLocals = maxL → Pc args s →
      W p l e (headSpec ws rm).room s m args below meth c s.heap [] 0 0 (vx_MQ below Qc XC args s mc ms free) (entryFrame m args maxL)) : vx_Met l y ws rm Pc Qc XC mc ms free := by
  refine MetFree.of_bodyS (code := cc) (maxLocals := maxL) (ret := ret) hy ?_ ?_
  · intro args s m h hn
    obtain ⟨m9, meth, c, hn9, h1, h2, h3, h4, -, h5, h6, -⟩ := Cond.codeWith_spec (atoms_spec (ws := ws) h _ (by rw [hw]; exact List.mem_cons_self))
    cases hn.symm.trans hn9
    exact ⟨meth, c, h1, h2, h3, h4, h5, h6⟩
  · intro p e s m args below meth c s₁ B hml hP _
    have hh0 : s₁.heap = s.heap := by rw [B.state]; rfl
    obtain ⟨t, a1, o, b1, b2, b3⟩ := body p e s m args below meth c s₁ B hml hP s₁ hh0 (Stand.of_body B)
    exact ⟨t, o, a1, b1, b2, b3⟩
/-! ===== END ===== -/

/-! ===== BEGIN printed: names, fields, word lists, decode rows ===== -/
def RX0 : String := "TreeFlows$1"
def TX0 : u_T := fun k => match k with
  | _ => ("", "", "", false)
def tyX0 : Nat → FieldType := fun k => match k with
  | _ => .int
abbrev wsX00 : List Cond := u_ws RX0 TX0 0
theorem nmX0 : ∀ a, a < 0 → ∀ b, b < 0 → a ≠ b → (TX0 a).2.1 ≠ (TX0 b).2.1 := by decide +kernel
theorem tyX0_ok : ∀ k, k < 0 → parseFieldDescriptor (TX0 k).2.2.1 = some (tyX0 k) := by decide +kernel
def RX1 : String := "TreeFlows$Net"
def TX1 : u_T := fun k => match k with
  | 0 => ("TreeFlows$Net", "points", "I", false)
  | 1 => ("TreeFlows$Net", "arcs", "I", false)
  | 2 => ("TreeFlows$Net", "ruleKept", "I", false)
  | 3 => ("TreeFlows$Net", "supply", "[I", true)
  | 4 => ("TreeFlows$Net", "tail", "[I", true)
  | 5 => ("TreeFlows$Net", "head", "[I", true)
  | 6 => ("TreeFlows$Net", "bound", "[I", true)
  | 7 => ("TreeFlows$Net", "cost", "[I", true)
  | 8 => ("TreeFlows$Net", "flow", "[I", true)
  | 9 => ("TreeFlows$Net", "state", "[I", true)
  | 10 => ("TreeFlows$Net", "up", "[I", true)
  | 11 => ("TreeFlows$Net", "upEdge", "[I", true)
  | 12 => ("TreeFlows$Net", "price", "[I", true)
  | _ => ("TreeFlows$Net", "tally", "LTreeFlows$Tally;", true)
def tyX1 : Nat → FieldType := fun k => match k with
  | 0 => .int
  | 1 => .int
  | 2 => .int
  | 3 => .array .int
  | 4 => .array .int
  | 5 => .array .int
  | 6 => .array .int
  | 7 => .array .int
  | 8 => .array .int
  | 9 => .array .int
  | 10 => .array .int
  | 11 => .array .int
  | 12 => .array .int
  | _ => .object "TreeFlows$Tally"
abbrev wsX10 : List Cond := u_ws RX1 TX1 14
theorem nmX1 : ∀ a, a < 14 → ∀ b, b < 14 → a ≠ b → (TX1 a).2.1 ≠ (TX1 b).2.1 := by decide +kernel
theorem tyX1_ok : ∀ k, k < 14 → parseFieldDescriptor (TX1 k).2.2.1 = some (tyX1 k) := by decide +kernel
abbrev cX1_init : ByteArray := prog_3_method_1_code
def yX1_init : MethodName := ⟨RX1, "<init>", "()V"⟩
abbrev cX1_copyFrom : ByteArray := prog_3_method_2_code
def yX1_copyFrom : MethodName := ⟨RX1, "copyFrom", "(LTreeFlows$Net;)V"⟩
abbrev cX1_clear : ByteArray := prog_3_method_3_code
def yX1_clear : MethodName := ⟨RX1, "clear", "(I)V"⟩
abbrev cX1_addArc : ByteArray := prog_3_method_4_code
def yX1_addArc : MethodName := ⟨RX1, "addArc", "(IIII)V"⟩
abbrev cX1_hasArc : ByteArray := prog_3_method_5_code
def yX1_hasArc : MethodName := ⟨RX1, "hasArc", "(I)Z"⟩
abbrev cX1_hasPoint : ByteArray := prog_3_method_6_code
def yX1_hasPoint : MethodName := ⟨RX1, "hasPoint", "(I)Z"⟩
abbrev cX1_hasTwoPoints : ByteArray := prog_3_method_7_code
def yX1_hasTwoPoints : MethodName := ⟨RX1, "hasTwoPoints", "(II)Z"⟩
abbrev cX1_toldNode : ByteArray := prog_3_method_8_code
def yX1_toldNode : MethodName := ⟨RX1, "toldNode", "(I)I"⟩
abbrev cX1_setRule : ByteArray := prog_3_method_9_code
def yX1_setRule : MethodName := ⟨RX1, "setRule", "(I)Z"⟩
abbrev cX1_moveSupply : ByteArray := prog_3_method_10_code
def yX1_moveSupply : MethodName := ⟨RX1, "moveSupply", "(III)Z"⟩
abbrev cX1_setOpen : ByteArray := prog_3_method_11_code
def yX1_setOpen : MethodName := ⟨RX1, "setOpen", "(IZ)Z"⟩
abbrev cX1_setBound : ByteArray := prog_3_method_12_code
def yX1_setBound : MethodName := ⟨RX1, "setBound", "(II)Z"⟩
abbrev cX1_setCost : ByteArray := prog_3_method_13_code
def yX1_setCost : MethodName := ⟨RX1, "setCost", "(II)Z"⟩
abbrev cX1_begin : ByteArray := prog_3_method_14_code
def yX1_begin : MethodName := ⟨RX1, "begin", "(Z)V"⟩
abbrev cX1_hangByLoan : ByteArray := prog_3_method_15_code
def yX1_hangByLoan : MethodName := ⟨RX1, "hangByLoan", "(I)V"⟩
abbrev cX1_setPrices : ByteArray := prog_3_method_16_code
def yX1_setPrices : MethodName := ⟨RX1, "setPrices", "()V"⟩
abbrev cX1_reduced : ByteArray := prog_3_method_17_code
def yX1_reduced : MethodName := ⟨RX1, "reduced", "(I)I"⟩
abbrev cX1_mayOffer : ByteArray := prog_3_method_18_code
def yX1_mayOffer : MethodName := ⟨RX1, "mayOffer", "(I)Z"⟩
abbrev cX1_offer : ByteArray := prog_3_method_19_code
def yX1_offer : MethodName := ⟨RX1, "offer", "(I)I"⟩
abbrev cX1_countOffers : ByteArray := prog_3_method_20_code
def yX1_countOffers : MethodName := ⟨RX1, "countOffers", "()I"⟩
abbrev cX1_pick : ByteArray := prog_3_method_21_code
def yX1_pick : MethodName := ⟨RX1, "pick", "(I)I"⟩
abbrev cX1_room : ByteArray := prog_3_method_22_code
def yX1_room : MethodName := ⟨RX1, "room", "(IZ)I"⟩
abbrev cX1_hasOnWay : ByteArray := prog_3_method_23_code
def yX1_hasOnWay : MethodName := ⟨RX1, "hasOnWay", "(II)Z"⟩
abbrev cX1_depth : ByteArray := prog_3_method_24_code
def yX1_depth : MethodName := ⟨RX1, "depth", "(I)I"⟩
abbrev cX1_countBelow : ByteArray := prog_3_method_25_code
def yX1_countBelow : MethodName := ⟨RX1, "countBelow", "(I)I"⟩
abbrev cX1_loanFlow : ByteArray := prog_3_method_26_code
def yX1_loanFlow : MethodName := ⟨RX1, "loanFlow", "(I)I"⟩
abbrev cX1_childBehind : ByteArray := prog_3_method_27_code
def yX1_childBehind : MethodName := ⟨RX1, "childBehind", "(II)I"⟩
abbrev cX1_threadBehind : ByteArray := prog_3_method_28_code
def yX1_threadBehind : MethodName := ⟨RX1, "threadBehind", "(I)I"⟩
abbrev cX1_rehang : ByteArray := prog_3_method_29_code
def yX1_rehang : MethodName := ⟨RX1, "rehang", "(IIII)V"⟩
abbrev cX1_unmet : ByteArray := prog_3_method_30_code
def yX1_unmet : MethodName := ⟨RX1, "unmet", "()I"⟩
abbrev cX1_spent : ByteArray := prog_3_method_31_code
def yX1_spent : MethodName := ⟨RX1, "spent", "()I"⟩
abbrev cX1_flowingCostAbove : ByteArray := prog_3_method_32_code
def yX1_flowingCostAbove : MethodName := ⟨RX1, "flowingCostAbove", "(I)I"⟩
abbrev cX1_flowAtCost : ByteArray := prog_3_method_33_code
def yX1_flowAtCost : MethodName := ⟨RX1, "flowAtCost", "(I)I"⟩
abbrev cX1_countApart : ByteArray := prog_3_method_34_code
def yX1_countApart : MethodName := ⟨RX1, "countApart", "(LTreeFlows$Net;)I"⟩
abbrev cX1_spread : ByteArray := prog_3_method_35_code
def yX1_spread : MethodName := ⟨RX1, "spread", "([I)V"⟩
abbrev cX1_shortOf : ByteArray := prog_3_method_36_code
def yX1_shortOf : MethodName := ⟨RX1, "shortOf", "(I)I"⟩
abbrev cX1_worstSet : ByteArray := prog_3_method_37_code
def yX1_worstSet : MethodName := ⟨RX1, "worstSet", "()I"⟩
abbrev cX1_lowestCost : ByteArray := prog_3_method_38_code
def yX1_lowestCost : MethodName := ⟨RX1, "lowestCost", "(I)I"⟩
abbrev cX1_highestCost : ByteArray := prog_3_method_39_code
def yX1_highestCost : MethodName := ⟨RX1, "highestCost", "(I)I"⟩
abbrev cX1_slope : ByteArray := prog_3_method_40_code
def yX1_slope : MethodName := ⟨RX1, "slope", "(II)I"⟩
def RX2 : String := "TreeFlows$Page"
def TX2 : u_T := fun k => match k with
  | 0 => ("TreeFlows$Page", "signs", "[C", true)
  | 1 => ("TreeFlows$Page", "length", "I", false)
  | 2 => ("TreeFlows$Page", "faultKind", "I", false)
  | _ => ("TreeFlows$Page", "faultPlace", "I", false)
def tyX2 : Nat → FieldType := fun k => match k with
  | 0 => .array .char
  | 1 => .int
  | 2 => .int
  | _ => .int
abbrev wsX20 : List Cond := u_ws RX2 TX2 4
theorem nmX2 : ∀ a, a < 4 → ∀ b, b < 4 → a ≠ b → (TX2 a).2.1 ≠ (TX2 b).2.1 := by decide +kernel
theorem tyX2_ok : ∀ k, k < 4 → parseFieldDescriptor (TX2 k).2.2.1 = some (tyX2 k) := by decide +kernel
abbrev cX2_init : ByteArray := prog_4_method_1_code
def yX2_init : MethodName := ⟨RX2, "<init>", "()V"⟩
abbrev cX2_put : ByteArray := prog_4_method_2_code
def yX2_put : MethodName := ⟨RX2, "put", "(I)V"⟩
abbrev cX2_copyFrom : ByteArray := prog_4_method_3_code
def yX2_copyFrom : MethodName := ⟨RX2, "copyFrom", "(LTreeFlows$Page;)V"⟩
def RX3 : String := "TreeFlows$Route"
def TX3 : u_T := fun k => match k with
  | 0 => ("TreeFlows$Route", "edge", "[I", true)
  | 1 => ("TreeFlows$Route", "along", "[Z", true)
  | 2 => ("TreeFlows$Route", "count", "I", false)
  | 3 => ("TreeFlows$Route", "join", "I", false)
  | 4 => ("TreeFlows$Route", "delta", "I", false)
  | 5 => ("TreeFlows$Route", "enterAt", "I", false)
  | _ => ("TreeFlows$Route", "leaveAt", "I", false)
def tyX3 : Nat → FieldType := fun k => match k with
  | 0 => .array .int
  | 1 => .array .boolean
  | 2 => .int
  | 3 => .int
  | 4 => .int
  | 5 => .int
  | _ => .int
abbrev wsX30 : List Cond := u_ws RX3 TX3 7
theorem nmX3 : ∀ a, a < 7 → ∀ b, b < 7 → a ≠ b → (TX3 a).2.1 ≠ (TX3 b).2.1 := by decide +kernel
theorem tyX3_ok : ∀ k, k < 7 → parseFieldDescriptor (TX3 k).2.2.1 = some (tyX3 k) := by decide +kernel
abbrev cX3_init : ByteArray := prog_5_method_1_code
def yX3_init : MethodName := ⟨RX3, "<init>", "()V"⟩
abbrev cX3_way : ByteArray := prog_5_method_2_code
def yX3_way : MethodName := ⟨RX3, "way", "(LTreeFlows$Net;II)V"⟩
abbrev cX3_cycle : ByteArray := prog_5_method_3_code
def yX3_cycle : MethodName := ⟨RX3, "cycle", "(LTreeFlows$Net;I)V"⟩
abbrev cX3_step : ByteArray := prog_5_method_4_code
def yX3_step : MethodName := ⟨RX3, "step", "(LTreeFlows$Net;I)I"⟩
abbrev cX3_run : ByteArray := prog_5_method_5_code
def yX3_run : MethodName := ⟨RX3, "run", "(LTreeFlows$Net;II)I"⟩
abbrev cX3_leaving : ByteArray := prog_5_method_6_code
def yX3_leaving : MethodName := ⟨RX3, "leaving", "()I"⟩
abbrev cX3_leastRoom : ByteArray := prog_5_method_7_code
def yX3_leastRoom : MethodName := ⟨RX3, "leastRoom", "(LTreeFlows$Net;)I"⟩
abbrev cX3_cost : ByteArray := prog_5_method_8_code
def yX3_cost : MethodName := ⟨RX3, "cost", "(LTreeFlows$Net;)I"⟩
abbrev cX3_told : ByteArray := prog_5_method_9_code
def yX3_told : MethodName := ⟨RX3, "told", "(II)I"⟩
abbrev cX3_exchange : ByteArray := prog_5_method_10_code
def yX3_exchange : MethodName := ⟨RX3, "exchange", "(LTreeFlows$Net;II)V"⟩
abbrev cX3_meeting : ByteArray := prog_5_method_11_code
def yX3_meeting : MethodName := ⟨RX3, "meeting", "(LTreeFlows$Net;II)I"⟩
abbrev cX3_climb : ByteArray := prog_5_method_12_code
def yX3_climb : MethodName := ⟨RX3, "climb", "(LTreeFlows$Net;I)V"⟩
abbrev cX3_descend : ByteArray := prog_5_method_13_code
def yX3_descend : MethodName := ⟨RX3, "descend", "(LTreeFlows$Net;I)V"⟩
abbrev cX3_add : ByteArray := prog_5_method_14_code
def yX3_add : MethodName := ⟨RX3, "add", "(IZ)V"⟩
def RX4 : String := "TreeFlows$Script"
def TX4 : u_T := fun k => match k with
  | 0 => ("TreeFlows$Script", "count", "I", false)
  | 1 => ("TreeFlows$Script", "fault", "I", false)
  | 2 => ("TreeFlows$Script", "faultPlace", "I", false)
  | 3 => ("TreeFlows$Script", "verbs", "[LTreeFlows$Verb;", true)
  | 4 => ("TreeFlows$Script", "places", "[I", true)
  | 5 => ("TreeFlows$Script", "numbers", "[I", true)
  | 6 => ("TreeFlows$Script", "numberPlaces", "[I", true)
  | 7 => ("TreeFlows$Script", "supplies", "[I", true)
  | 8 => ("TreeFlows$Script", "token", "I", false)
  | 9 => ("TreeFlows$Script", "tokenPlace", "I", false)
  | _ => ("TreeFlows$Script", "tokenEnd", "I", false)
def tyX4 : Nat → FieldType := fun k => match k with
  | 0 => .int
  | 1 => .int
  | 2 => .int
  | 3 => .array (.object "TreeFlows$Verb")
  | 4 => .array .int
  | 5 => .array .int
  | 6 => .array .int
  | 7 => .array .int
  | 8 => .int
  | 9 => .int
  | _ => .int
abbrev wsX40 : List Cond := u_ws RX4 TX4 11
theorem nmX4 : ∀ a, a < 11 → ∀ b, b < 11 → a ≠ b → (TX4 a).2.1 ≠ (TX4 b).2.1 := by decide +kernel
theorem tyX4_ok : ∀ k, k < 11 → parseFieldDescriptor (TX4 k).2.2.1 = some (tyX4 k) := by decide +kernel
abbrev cX4_init : ByteArray := prog_6_method_1_code
def yX4_init : MethodName := ⟨RX4, "<init>", "()V"⟩
abbrev cX4_read : ByteArray := prog_6_method_2_code
def yX4_read : MethodName := ⟨RX4, "read", "(LTreeFlows$Page;Z)V"⟩
abbrev cX4_readLine : ByteArray := prog_6_method_3_code
def yX4_readLine : MethodName := ⟨RX4, "readLine", "(LTreeFlows$Page;Z)Z"⟩
abbrev cX4_blame : ByteArray := prog_6_method_4_code
def yX4_blame : MethodName := ⟨RX4, "blame", "(II)V"⟩
abbrev cX4_findToken : ByteArray := prog_6_method_5_code
def yX4_findToken : MethodName := ⟨RX4, "findToken", "(LTreeFlows$Page;)V"⟩
abbrev cX4_kindOf : ByteArray := prog_6_method_6_code
def yX4_kindOf : MethodName := ⟨RX4, "kindOf", "(C)I"⟩
abbrev cX4_verbHere : ByteArray := prog_6_method_7_code
def yX4_verbHere : MethodName := ⟨RX4, "verbHere", "(LTreeFlows$Page;Z)LTreeFlows$Verb;"⟩
abbrev cX4_isHere : ByteArray := prog_6_method_8_code
def yX4_isHere : MethodName := ⟨RX4, "isHere", "(LTreeFlows$Page;Ljava/lang/String;)Z"⟩
abbrev cX4_numberHere : ByteArray := prog_6_method_9_code
def yX4_numberHere : MethodName := ⟨RX4, "numberHere", "(LTreeFlows$Page;)I"⟩
abbrev cX4_number : ByteArray := prog_6_method_10_code
def yX4_number : MethodName := ⟨RX4, "number", "(II)I"⟩
abbrev cX4_want : ByteArray := prog_6_method_11_code
def yX4_want : MethodName := ⟨RX4, "want", "(IIIII)V"⟩
abbrev cX4_checkGrid : ByteArray := prog_6_method_12_code
def yX4_checkGrid : MethodName := ⟨RX4, "checkGrid", "(I)V"⟩
abbrev cX4_checkGridLine : ByteArray := prog_6_method_13_code
def yX4_checkGridLine : MethodName := ⟨RX4, "checkGridLine", "(II)V"⟩
abbrev cX4_checkPointsThere : ByteArray := prog_6_method_14_code
def yX4_checkPointsThere : MethodName := ⟨RX4, "checkPointsThere", "()V"⟩
abbrev cX4_isArc : ByteArray := prog_6_method_15_code
def yX4_isArc : MethodName := ⟨RX4, "isArc", "(I)Z"⟩
abbrev cX4_pointsTold : ByteArray := prog_6_method_16_code
def yX4_pointsTold : MethodName := ⟨RX4, "pointsTold", "()I"⟩
abbrev cX4_sumOfSupplies : ByteArray := prog_6_method_17_code
def yX4_sumOfSupplies : MethodName := ⟨RX4, "sumOfSupplies", "()I"⟩
abbrev cX4_checkOrders : ByteArray := prog_6_method_18_code
def yX4_checkOrders : MethodName := ⟨RX4, "checkOrders", "()V"⟩
abbrev cX4_fill : ByteArray := prog_6_method_19_code
def yX4_fill : MethodName := ⟨RX4, "fill", "(LTreeFlows$Net;)V"⟩
abbrev cX4_fillLine : ByteArray := prog_6_method_20_code
def yX4_fillLine : MethodName := ⟨RX4, "fillLine", "(ILTreeFlows$Net;)V"⟩
abbrev cX4_obey : ByteArray := prog_6_method_21_code
def yX4_obey : MethodName := ⟨RX4, "obey", "(ILTreeFlows$Net;LTreeFlows$Route;)Z"⟩
def RX5 : String := "TreeFlows$Tally"
def TX5 : u_T := fun k => match k with
  | 0 => ("TreeFlows$Tally", "pivotsMade", "I", false)
  | 1 => ("TreeFlows$Tally", "pivotsStill", "I", false)
  | 2 => ("TreeFlows$Tally", "begun", "I", false)
  | 3 => ("TreeFlows$Tally", "entered", "I", false)
  | 4 => ("TreeFlows$Tally", "pastEntered", "[I", true)
  | 5 => ("TreeFlows$Tally", "pastLeft", "[I", true)
  | _ => ("TreeFlows$Tally", "pastDelta", "[I", true)
def tyX5 : Nat → FieldType := fun k => match k with
  | 0 => .int
  | 1 => .int
  | 2 => .int
  | 3 => .int
  | 4 => .array .int
  | 5 => .array .int
  | _ => .array .int
abbrev wsX50 : List Cond := u_ws RX5 TX5 7
theorem nmX5 : ∀ a, a < 7 → ∀ b, b < 7 → a ≠ b → (TX5 a).2.1 ≠ (TX5 b).2.1 := by decide +kernel
theorem tyX5_ok : ∀ k, k < 7 → parseFieldDescriptor (TX5 k).2.2.1 = some (tyX5 k) := by decide +kernel
abbrev cX5_init : ByteArray := prog_7_method_1_code
def yX5_init : MethodName := ⟨RX5, "<init>", "()V"⟩
abbrev cX5_clear : ByteArray := prog_7_method_2_code
def yX5_clear : MethodName := ⟨RX5, "clear", "()V"⟩
abbrev cX5_copyFrom : ByteArray := prog_7_method_3_code
def yX5_copyFrom : MethodName := ⟨RX5, "copyFrom", "(LTreeFlows$Tally;)V"⟩
abbrev cX5_count : ByteArray := prog_7_method_4_code
def yX5_count : MethodName := ⟨RX5, "count", "(III)V"⟩
abbrev cX5_told : ByteArray := prog_7_method_5_code
def yX5_told : MethodName := ⟨RX5, "told", "(II)I"⟩
def RX6 : String := "TreeFlows$Trips"
def TX6 : u_T := fun k => match k with
  | 0 => ("TreeFlows$Trips", "count", "I", false)
  | 1 => ("TreeFlows$Trips", "much", "[I", true)
  | 2 => ("TreeFlows$Trips", "length", "[I", true)
  | 3 => ("TreeFlows$Trips", "arcs", "[I", true)
  | 4 => ("TreeFlows$Trips", "left", "[I", true)
  | 5 => ("TreeFlows$Trips", "walk", "[I", true)
  | 6 => ("TreeFlows$Trips", "ahead", "[I", true)
  | 7 => ("TreeFlows$Trips", "walked", "I", false)
  | _ => ("TreeFlows$Trips", "loopAt", "I", false)
def tyX6 : Nat → FieldType := fun k => match k with
  | 0 => .int
  | 1 => .array .int
  | 2 => .array .int
  | 3 => .array .int
  | 4 => .array .int
  | 5 => .array .int
  | 6 => .array .int
  | 7 => .int
  | _ => .int
abbrev wsX60 : List Cond := u_ws RX6 TX6 9
theorem nmX6 : ∀ a, a < 9 → ∀ b, b < 9 → a ≠ b → (TX6 a).2.1 ≠ (TX6 b).2.1 := by decide +kernel
theorem tyX6_ok : ∀ k, k < 9 → parseFieldDescriptor (TX6 k).2.2.1 = some (tyX6 k) := by decide +kernel
abbrev cX6_init : ByteArray := prog_8_method_1_code
def yX6_init : MethodName := ⟨RX6, "<init>", "()V"⟩
abbrev cX6_split : ByteArray := prog_8_method_2_code
def yX6_split : MethodName := ⟨RX6, "split", "(LTreeFlows$Net;)V"⟩
abbrev cX6_told : ByteArray := prog_8_method_3_code
def yX6_told : MethodName := ⟨RX6, "told", "(II)I"⟩
abbrev cX6_start : ByteArray := prog_8_method_4_code
def yX6_start : MethodName := ⟨RX6, "start", "(LTreeFlows$Net;)I"⟩
abbrev cX6_surplus : ByteArray := prog_8_method_5_code
def yX6_surplus : MethodName := ⟨RX6, "surplus", "(LTreeFlows$Net;I)I"⟩
abbrev cX6_arcOut : ByteArray := prog_8_method_6_code
def yX6_arcOut : MethodName := ⟨RX6, "arcOut", "(LTreeFlows$Net;I)I"⟩
abbrev cX6_go : ByteArray := prog_8_method_7_code
def yX6_go : MethodName := ⟨RX6, "go", "(LTreeFlows$Net;I)V"⟩
abbrev cX6_keep : ByteArray := prog_8_method_8_code
def yX6_keep : MethodName := ⟨RX6, "keep", "()V"⟩
def RX7 : String := "TreeFlows$Verb"
def TX7 : u_T := fun k => match k with
  | _ => ("", "", "", false)
def tyX7 : Nat → FieldType := fun k => match k with
  | _ => .int
abbrev wsX70 : List Cond := u_ws RX7 TX7 0
theorem nmX7 : ∀ a, a < 0 → ∀ b, b < 0 → a ≠ b → (TX7 a).2.1 ≠ (TX7 b).2.1 := by decide +kernel
theorem tyX7_ok : ∀ k, k < 0 → parseFieldDescriptor (TX7 k).2.2.1 = some (tyX7 k) := by decide +kernel
abbrev cX7_numbers : ByteArray := prog_9_method_4_code
def yX7_numbers : MethodName := ⟨RX7, "numbers", "(Z)I"⟩
def RX8 : String := "TreeFlows"
def TX8 : u_T := fun k => match k with
  | 0 => ("TreeFlows", "net", "LTreeFlows$Net;", true)
  | 1 => ("TreeFlows", "trial", "LTreeFlows$Net;", true)
  | 2 => ("TreeFlows", "route", "LTreeFlows$Route;", true)
  | 3 => ("TreeFlows", "trips", "LTreeFlows$Trips;", true)
  | 4 => ("TreeFlows", "page", "LTreeFlows$Page;", true)
  | 5 => ("TreeFlows", "script", "LTreeFlows$Script;", true)
  | 6 => ("TreeFlows", "reach", "[I", true)
  | 7 => ("TreeFlows", "undoRows", "[LTreeFlows$Net;", true)
  | 8 => ("TreeFlows", "undoTop", "I", false)
  | 9 => ("TreeFlows", "undoCount", "I", false)
  | 10 => ("TreeFlows", "imageNets", "[LTreeFlows$Net;", true)
  | 11 => ("TreeFlows", "imagePages", "[LTreeFlows$Page;", true)
  | _ => ("TreeFlows", "imageThere", "[Z", true)
def tyX8 : Nat → FieldType := fun k => match k with
  | 0 => .object "TreeFlows$Net"
  | 1 => .object "TreeFlows$Net"
  | 2 => .object "TreeFlows$Route"
  | 3 => .object "TreeFlows$Trips"
  | 4 => .object "TreeFlows$Page"
  | 5 => .object "TreeFlows$Script"
  | 6 => .array .int
  | 7 => .array (.object "TreeFlows$Net")
  | 8 => .int
  | 9 => .int
  | 10 => .array (.object "TreeFlows$Net")
  | 11 => .array (.object "TreeFlows$Page")
  | _ => .array .boolean
abbrev wsX80 : List Cond := u_ws RX8 TX8 13
theorem nmX8 : ∀ a, a < 13 → ∀ b, b < 13 → a ≠ b → (TX8 a).2.1 ≠ (TX8 b).2.1 := by decide +kernel
theorem tyX8_ok : ∀ k, k < 13 → parseFieldDescriptor (TX8 k).2.2.1 = some (tyX8 k) := by decide +kernel
abbrev cX8_init : ByteArray := prog_1_method_1_code
def yX8_init : MethodName := ⟨RX8, "<init>", "()V"⟩
abbrev cX8_spell : ByteArray := prog_1_method_2_code
def yX8_spell : MethodName := ⟨RX8, "spell", "(J)I"⟩
abbrev cX8_lay : ByteArray := prog_1_method_3_code
def yX8_lay : MethodName := ⟨RX8, "lay", "()I"⟩
abbrev cX8_fault : ByteArray := prog_1_method_4_code
def yX8_fault : MethodName := ⟨RX8, "fault", "(Z)I"⟩
abbrev cX8_pivot : ByteArray := prog_1_method_5_code
def yX8_pivot : MethodName := ⟨RX8, "pivot", "()I"⟩
abbrev cX8_pivots : ByteArray := prog_1_method_6_code
def yX8_pivots : MethodName := ⟨RX8, "pivots", "(I)I"⟩
abbrev cX8_rule : ByteArray := prog_1_method_7_code
def yX8_rule : MethodName := ⟨RX8, "rule", "(I)Z"⟩
abbrev cX8_shift : ByteArray := prog_1_method_8_code
def yX8_shift : MethodName := ⟨RX8, "shift", "(III)Z"⟩
abbrev cX8_block : ByteArray := prog_1_method_9_code
def yX8_block : MethodName := ⟨RX8, "block", "(IZ)Z"⟩
abbrev cX8_widen : ByteArray := prog_1_method_10_code
def yX8_widen : MethodName := ⟨RX8, "widen", "(II)Z"⟩
abbrev cX8_charge : ByteArray := prog_1_method_11_code
def yX8_charge : MethodName := ⟨RX8, "charge", "(II)Z"⟩
abbrev cX8_cold : ByteArray := prog_1_method_12_code
def yX8_cold : MethodName := ⟨RX8, "cold", "()V"⟩
abbrev cX8_work : ByteArray := prog_1_method_13_code
def yX8_work : MethodName := ⟨RX8, "work", "()I"⟩
abbrev cX8_undo : ByteArray := prog_1_method_14_code
def yX8_undo : MethodName := ⟨RX8, "undo", "()I"⟩
abbrev cX8_grid : ByteArray := prog_1_method_15_code
def yX8_grid : MethodName := ⟨RX8, "grid", "(I)I"⟩
abbrev cX8_arc : ByteArray := prog_1_method_16_code
def yX8_arc : MethodName := ⟨RX8, "arc", "(II)I"⟩
abbrev cX8_point : ByteArray := prog_1_method_17_code
def yX8_point : MethodName := ⟨RX8, "point", "(II)I"⟩
abbrev cX8_thread : ByteArray := prog_1_method_18_code
def yX8_thread : MethodName := ⟨RX8, "thread", "(I)I"⟩
abbrev cX8_path : ByteArray := prog_1_method_19_code
def yX8_path : MethodName := ⟨RX8, "path", "(III)I"⟩
abbrev cX8_next : ByteArray := prog_1_method_20_code
def yX8_next : MethodName := ⟨RX8, "next", "(I)I"⟩
abbrev cX8_past : ByteArray := prog_1_method_21_code
def yX8_past : MethodName := ⟨RX8, "past", "(II)I"⟩
abbrev cX8_bill : ByteArray := prog_1_method_22_code
def yX8_bill : MethodName := ⟨RX8, "bill", "(I)I"⟩
abbrev cX8_ledger : ByteArray := prog_1_method_23_code
def yX8_ledger : MethodName := ⟨RX8, "ledger", "(IZ)I"⟩
abbrev cX8_wide : ByteArray := prog_1_method_24_code
def yX8_wide : MethodName := ⟨RX8, "wide", "(II)I"⟩
abbrev cX8_trip : ByteArray := prog_1_method_25_code
def yX8_trip : MethodName := ⟨RX8, "trip", "(II)I"⟩
abbrev cX8_apart : ByteArray := prog_1_method_26_code
def yX8_apart : MethodName := ⟨RX8, "apart", "(I)I"⟩
abbrev cX8_span : ByteArray := prog_1_method_27_code
def yX8_span : MethodName := ⟨RX8, "span", "(IZ)I"⟩
abbrev cX8_least : ByteArray := prog_1_method_28_code
def yX8_least : MethodName := ⟨RX8, "least", "()I"⟩
abbrev cX8_lack : ByteArray := prog_1_method_29_code
def yX8_lack : MethodName := ⟨RX8, "lack", "()I"⟩
abbrev cX8_cut : ByteArray := prog_1_method_30_code
def yX8_cut : MethodName := ⟨RX8, "cut", "()I"⟩
abbrev cX8_steps : ByteArray := prog_1_method_31_code
def yX8_steps : MethodName := ⟨RX8, "steps", "(I)I"⟩
abbrev cX8_worth : ByteArray := prog_1_method_32_code
def yX8_worth : MethodName := ⟨RX8, "worth", "(II)I"⟩
abbrev cX8_toll : ByteArray := prog_1_method_33_code
def yX8_toll : MethodName := ⟨RX8, "toll", "(II)I"⟩
abbrev cX8_image : ByteArray := prog_1_method_34_code
def yX8_image : MethodName := ⟨RX8, "image", "(I)Z"⟩
abbrev cX8_again : ByteArray := prog_1_method_35_code
def yX8_again : MethodName := ⟨RX8, "again", "(I)Z"⟩
abbrev cX8_hasImage : ByteArray := prog_1_method_36_code
def yX8_hasImage : MethodName := ⟨RX8, "hasImage", "(I)Z"⟩
abbrev cX8_takeFault : ByteArray := prog_1_method_37_code
def yX8_takeFault : MethodName := ⟨RX8, "takeFault", "()V"⟩
abbrev cX8_saveAhead : ByteArray := prog_1_method_38_code
def yX8_saveAhead : MethodName := ⟨RX8, "saveAhead", "()V"⟩
abbrev cX8_countAct : ByteArray := prog_1_method_39_code
def yX8_countAct : MethodName := ⟨RX8, "countAct", "(Z)Z"⟩
abbrev cX8_leastOfTrial : ByteArray := prog_1_method_40_code
def yX8_leastOfTrial : MethodName := ⟨RX8, "leastOfTrial", "()I"⟩
abbrev cX8_less : ByteArray := prog_1_method_41_code
def yX8_less : MethodName := ⟨RX8, "less", "(II)I"⟩
abbrev cX8_byteOf : ByteArray := prog_1_method_42_code
def yX8_byteOf : MethodName := ⟨RX8, "byteOf", "(JI)I"⟩
abbrev cX8_toldEdge : ByteArray := prog_1_method_43_code
def yX8_toldEdge : MethodName := ⟨RX8, "toldEdge", "(I)I"⟩
abbrev cX8_isRule : ByteArray := prog_1_method_44_code
def yX8_isRule : MethodName := ⟨RX8, "isRule", "(I)Z"⟩
def RX9 : String := "TreeFlowsModel"
def TX9 : u_T := fun k => match k with
  | 0 => ("TreeFlowsModel", "raised", "I", false)
  | 1 => ("TreeFlowsModel", "all", "[I", true)
  | 2 => ("TreeFlowsModel", "text", "[B", true)
  | 3 => ("TreeFlowsModel", "saved", "[Z", true)
  | 4 => ("TreeFlowsModel", "undone", "[I", true)
  | 5 => ("TreeFlowsModel", "undos", "I", false)
  | 6 => ("TreeFlowsModel", "reached", "I", false)
  | 7 => ("TreeFlowsModel", "length", "I", false)
  | 8 => ("TreeFlowsModel", "begin", "I", false)
  | 9 => ("TreeFlowsModel", "sort", "I", false)
  | 10 => ("TreeFlowsModel", "value", "I", false)
  | 11 => ("TreeFlowsModel", "word", "J", false)
  | 12 => ("TreeFlowsModel", "wrongAt", "I", false)
  | 13 => ("TreeFlowsModel", "badAt", "I", false)
  | 14 => ("TreeFlowsModel", "read", "[I", true)
  | 15 => ("TreeFlowsModel", "supplies", "[I", true)
  | 16 => ("TreeFlowsModel", "told", "[I", true)
  | 17 => ("TreeFlowsModel", "firstAt", "[I", true)
  | 18 => ("TreeFlowsModel", "points", "I", false)
  | 19 => ("TreeFlowsModel", "arcs", "I", false)
  | 20 => ("TreeFlowsModel", "rule", "I", false)
  | 21 => ("TreeFlowsModel", "orders", "[J", true)
  | 22 => ("TreeFlowsModel", "numbers", "[I", true)
  | 23 => ("TreeFlowsModel", "orderMany", "I", false)
  | 24 => ("TreeFlowsModel", "up", "[I", true)
  | 25 => ("TreeFlowsModel", "by", "[I", true)
  | 26 => ("TreeFlowsModel", "deep", "[I", true)
  | 27 => ("TreeFlowsModel", "price", "[I", true)
  | 28 => ("TreeFlowsModel", "cycle", "[I", true)
  | 29 => ("TreeFlowsModel", "along", "[Z", true)
  | 30 => ("TreeFlowsModel", "cycleMany", "I", false)
  | 31 => ("TreeFlowsModel", "joint", "I", false)
  | 32 => ("TreeFlowsModel", "rooms", "[I", true)
  | 33 => ("TreeFlowsModel", "left", "[I", true)
  | 34 => ("TreeFlowsModel", "trip", "[I", true)
  | 35 => ("TreeFlowsModel", "stops", "[I", true)
  | 36 => ("TreeFlowsModel", "tripMany", "I", false)
  | 37 => ("TreeFlowsModel", "tripMuch", "I", false)
  | 38 => ("TreeFlowsModel", "bounds", "[I", true)
  | 39 => ("TreeFlowsModel", "costs", "[I", true)
  | 40 => ("TreeFlowsModel", "carried", "[I", true)
  | 41 => ("TreeFlowsModel", "surplus", "[I", true)
  | 42 => ("TreeFlowsModel", "cheapest", "[I", true)
  | _ => ("TreeFlowsModel", "cameBy", "[I", true)
def tyX9 : Nat → FieldType := fun k => match k with
  | 0 => .int
  | 1 => .array .int
  | 2 => .array .byte
  | 3 => .array .boolean
  | 4 => .array .int
  | 5 => .int
  | 6 => .int
  | 7 => .int
  | 8 => .int
  | 9 => .int
  | 10 => .int
  | 11 => .long
  | 12 => .int
  | 13 => .int
  | 14 => .array .int
  | 15 => .array .int
  | 16 => .array .int
  | 17 => .array .int
  | 18 => .int
  | 19 => .int
  | 20 => .int
  | 21 => .array .long
  | 22 => .array .int
  | 23 => .int
  | 24 => .array .int
  | 25 => .array .int
  | 26 => .array .int
  | 27 => .array .int
  | 28 => .array .int
  | 29 => .array .boolean
  | 30 => .int
  | 31 => .int
  | 32 => .array .int
  | 33 => .array .int
  | 34 => .array .int
  | 35 => .array .int
  | 36 => .int
  | 37 => .int
  | 38 => .array .int
  | 39 => .array .int
  | 40 => .array .int
  | 41 => .array .int
  | 42 => .array .int
  | _ => .array .int
abbrev wsX90 : List Cond := u_ws RX9 TX9 44
theorem nmX9 : ∀ a, a < 44 → ∀ b, b < 44 → a ≠ b → (TX9 a).2.1 ≠ (TX9 b).2.1 := by decide +kernel
theorem tyX9_ok : ∀ k, k < 44 → parseFieldDescriptor (TX9 k).2.2.1 = some (tyX9 k) := by decide +kernel
abbrev cX9_init : ByteArray := prog_11_method_1_code
def yX9_init : MethodName := ⟨RX9, "<init>", "()V"⟩
abbrev cX9_in : ByteArray := prog_11_method_3_code
def yX9_in : MethodName := ⟨RX9, "in", "(III)Z"⟩
abbrev cX9_lesser : ByteArray := prog_11_method_4_code
def yX9_lesser : MethodName := ⟨RX9, "lesser", "(II)I"⟩
abbrev cX9_greater : ByteArray := prog_11_method_5_code
def yX9_greater : MethodName := ⟨RX9, "greater", "(II)I"⟩
abbrev cX9_of : ByteArray := prog_11_method_6_code
def yX9_of : MethodName := ⟨RX9, "of", "(II)I"⟩
abbrev cX9_puts : ByteArray := prog_11_method_7_code
def yX9_puts : MethodName := ⟨RX9, "puts", "(III)V"⟩
abbrev cX9_isArc : ByteArray := prog_11_method_8_code
def yX9_isArc : MethodName := ⟨RX9, "isArc", "(I)Z"⟩
abbrev cX9_isPoint : ByteArray := prog_11_method_9_code
def yX9_isPoint : MethodName := ⟨RX9, "isPoint", "(I)Z"⟩
abbrev cX9_areTwo : ByteArray := prog_11_method_10_code
def yX9_areTwo : MethodName := ⟨RX9, "areTwo", "(II)Z"⟩
abbrev cX9_spell : ByteArray := prog_11_method_11_code
def yX9_spell : MethodName := ⟨RX9, "spell", "(J)I"⟩
abbrev cX9_see : ByteArray := prog_11_method_12_code
def yX9_see : MethodName := ⟨RX9, "see", "()I"⟩
abbrev cX9_token : ByteArray := prog_11_method_13_code
def yX9_token : MethodName := ⟨RX9, "token", "()V"⟩
abbrev cX9_fails : ByteArray := prog_11_method_14_code
def yX9_fails : MethodName := ⟨RX9, "fails", "()Z"⟩
abbrev cX9_isBad : ByteArray := prog_11_method_15_code
def yX9_isBad : MethodName := ⟨RX9, "isBad", "(I)V"⟩
abbrev cX9_takes : ByteArray := prog_11_method_16_code
def yX9_takes : MethodName := ⟨RX9, "takes", "(III)Z"⟩
abbrev cX9_atFirst : ByteArray := prog_11_method_17_code
def yX9_atFirst : MethodName := ⟨RX9, "atFirst", "()V"⟩
abbrev cX9_takesPoint : ByteArray := prog_11_method_18_code
def yX9_takesPoint : MethodName := ⟨RX9, "takesPoint", "(II)Z"⟩
abbrev cX9_arcLine : ByteArray := prog_11_method_19_code
def yX9_arcLine : MethodName := ⟨RX9, "arcLine", "(I)Z"⟩
abbrev cX9_ruleBy : ByteArray := prog_11_method_20_code
def yX9_ruleBy : MethodName := ⟨RX9, "ruleBy", "(J)I"⟩
abbrev cX9_gridLine : ByteArray := prog_11_method_21_code
def yX9_gridLine : MethodName := ⟨RX9, "gridLine", "(J)Z"⟩
abbrev cX9_orderLine : ByteArray := prog_11_method_22_code
def yX9_orderLine : MethodName := ⟨RX9, "orderLine", "(J)Z"⟩
abbrev cX9_allLines : ByteArray := prog_11_method_23_code
def yX9_allLines : MethodName := ⟨RX9, "allLines", "(Z)Z"⟩
abbrev cX9_missing : ByteArray := prog_11_method_24_code
def yX9_missing : MethodName := ⟨RX9, "missing", "()I"⟩
abbrev cX9_isFaulty : ByteArray := prog_11_method_25_code
def yX9_isFaulty : MethodName := ⟨RX9, "isFaulty", "(II)V"⟩
abbrev cX9_taken : ByteArray := prog_11_method_26_code
def yX9_taken : MethodName := ⟨RX9, "taken", "()V"⟩
abbrev cX9_lay : ByteArray := prog_11_method_27_code
def yX9_lay : MethodName := ⟨RX9, "lay", "()I"⟩
abbrev cX9_fault : ByteArray := prog_11_method_28_code
def yX9_fault : MethodName := ⟨RX9, "fault", "(Z)I"⟩
abbrev cX9_root : ByteArray := prog_11_method_29_code
def yX9_root : MethodName := ⟨RX9, "root", "()I"⟩
abbrev cX9_isLoan : ByteArray := prog_11_method_30_code
def yX9_isLoan : MethodName := ⟨RX9, "isLoan", "(I)Z"⟩
abbrev cX9_hangs : ByteArray := prog_11_method_31_code
def yX9_hangs : MethodName := ⟨RX9, "hangs", "(I)Z"⟩
abbrev cX9_settles : ByteArray := prog_11_method_32_code
def yX9_settles : MethodName := ⟨RX9, "settles", "(IIII)V"⟩
abbrev cX9_laysTree : ByteArray := prog_11_method_33_code
def yX9_laysTree : MethodName := ⟨RX9, "laysTree", "()V"⟩
abbrev cX9_reduced : ByteArray := prog_11_method_34_code
def yX9_reduced : MethodName := ⟨RX9, "reduced", "(I)I"⟩
abbrev cX9_offers : ByteArray := prog_11_method_35_code
def yX9_offers : MethodName := ⟨RX9, "offers", "(I)Z"⟩
abbrev cX9_isBest : ByteArray := prog_11_method_36_code
def yX9_isBest : MethodName := ⟨RX9, "isBest", "()Z"⟩
abbrev cX9_offerMany : ByteArray := prog_11_method_37_code
def yX9_offerMany : MethodName := ⟨RX9, "offerMany", "()I"⟩
abbrev cX9_farOf : ByteArray := prog_11_method_38_code
def yX9_farOf : MethodName := ⟨RX9, "farOf", "(I)I"⟩
abbrev cX9_enters : ByteArray := prog_11_method_39_code
def yX9_enters : MethodName := ⟨RX9, "enters", "()I"⟩
abbrev cX9_isAlong : ByteArray := prog_11_method_40_code
def yX9_isAlong : MethodName := ⟨RX9, "isAlong", "(II)Z"⟩
abbrev cX9_addsStep : ByteArray := prog_11_method_41_code
def yX9_addsStep : MethodName := ⟨RX9, "addsStep", "(II)V"⟩
abbrev cX9_meets : ByteArray := prog_11_method_42_code
def yX9_meets : MethodName := ⟨RX9, "meets", "(II)I"⟩
abbrev cX9_goesDown : ByteArray := prog_11_method_43_code
def yX9_goesDown : MethodName := ⟨RX9, "goesDown", "(II)V"⟩
abbrev cX9_goesUp : ByteArray := prog_11_method_44_code
def yX9_goesUp : MethodName := ⟨RX9, "goesUp", "(II)V"⟩
abbrev cX9_roomOf : ByteArray := prog_11_method_45_code
def yX9_roomOf : MethodName := ⟨RX9, "roomOf", "(I)I"⟩
abbrev cX9_leastRoom : ByteArray := prog_11_method_46_code
def yX9_leastRoom : MethodName := ⟨RX9, "leastRoom", "()I"⟩
abbrev cX9_laysCycle : ByteArray := prog_11_method_47_code
def yX9_laysCycle : MethodName := ⟨RX9, "laysCycle", "(I)V"⟩
abbrev cX9_leaves : ByteArray := prog_11_method_48_code
def yX9_leaves : MethodName := ⟨RX9, "leaves", "(I)I"⟩
abbrev cX9_flows : ByteArray := prog_11_method_49_code
def yX9_flows : MethodName := ⟨RX9, "flows", "(I)V"⟩
abbrev cX9_goesOut : ByteArray := prog_11_method_50_code
def yX9_goesOut : MethodName := ⟨RX9, "goesOut", "(I)V"⟩
abbrev cX9_isPast : ByteArray := prog_11_method_51_code
def yX9_isPast : MethodName := ⟨RX9, "isPast", "(III)V"⟩
abbrev cX9_turns : ByteArray := prog_11_method_52_code
def yX9_turns : MethodName := ⟨RX9, "turns", "()I"⟩
abbrev cX9_pivotsTill : ByteArray := prog_11_method_53_code
def yX9_pivotsTill : MethodName := ⟨RX9, "pivotsTill", "(I)I"⟩
abbrev cX9_begins : ByteArray := prog_11_method_54_code
def yX9_begins : MethodName := ⟨RX9, "begins", "(Z)V"⟩
abbrev cX9_beginsAgain : ByteArray := prog_11_method_55_code
def yX9_beginsAgain : MethodName := ⟨RX9, "beginsAgain", "(Z)V"⟩
abbrev cX9_keeps : ByteArray := prog_11_method_56_code
def yX9_keeps : MethodName := ⟨RX9, "keeps", "(I)V"⟩
abbrev cX9_pivot : ByteArray := prog_11_method_57_code
def yX9_pivot : MethodName := ⟨RX9, "pivot", "()I"⟩
abbrev cX9_pivots : ByteArray := prog_11_method_58_code
def yX9_pivots : MethodName := ⟨RX9, "pivots", "(I)I"⟩
abbrev cX9_rule : ByteArray := prog_11_method_59_code
def yX9_rule : MethodName := ⟨RX9, "rule", "(I)Z"⟩
abbrev cX9_canShift : ByteArray := prog_11_method_60_code
def yX9_canShift : MethodName := ⟨RX9, "canShift", "(III)Z"⟩
abbrev cX9_shifts : ByteArray := prog_11_method_61_code
def yX9_shifts : MethodName := ⟨RX9, "shifts", "(III)V"⟩
abbrev cX9_shift : ByteArray := prog_11_method_62_code
def yX9_shift : MethodName := ⟨RX9, "shift", "(III)Z"⟩
abbrev cX9_canBe : ByteArray := prog_11_method_63_code
def yX9_canBe : MethodName := ⟨RX9, "canBe", "(IIII)Z"⟩
abbrev cX9_becomes : ByteArray := prog_11_method_64_code
def yX9_becomes : MethodName := ⟨RX9, "becomes", "(III)V"⟩
abbrev cX9_tells : ByteArray := prog_11_method_65_code
def yX9_tells : MethodName := ⟨RX9, "tells", "(IIII)Z"⟩
abbrev cX9_block : ByteArray := prog_11_method_66_code
def yX9_block : MethodName := ⟨RX9, "block", "(IZ)Z"⟩
abbrev cX9_widen : ByteArray := prog_11_method_67_code
def yX9_widen : MethodName := ⟨RX9, "widen", "(II)Z"⟩
abbrev cX9_charge : ByteArray := prog_11_method_68_code
def yX9_charge : MethodName := ⟨RX9, "charge", "(II)Z"⟩
abbrev cX9_cold : ByteArray := prog_11_method_69_code
def yX9_cold : MethodName := ⟨RX9, "cold", "()V"⟩
abbrev cX9_isDoneArc : ByteArray := prog_11_method_70_code
def yX9_isDoneArc : MethodName := ⟨RX9, "isDoneArc", "(IIII)Z"⟩
abbrev cX9_isDone : ByteArray := prog_11_method_71_code
def yX9_isDone : MethodName := ⟨RX9, "isDone", "(JIII)Z"⟩
abbrev cX9_work : ByteArray := prog_11_method_72_code
def yX9_work : MethodName := ⟨RX9, "work", "()I"⟩
abbrev cX9_undo : ByteArray := prog_11_method_73_code
def yX9_undo : MethodName := ⟨RX9, "undo", "()I"⟩
abbrev cX9_unmet : ByteArray := prog_11_method_74_code
def yX9_unmet : MethodName := ⟨RX9, "unmet", "()I"⟩
abbrev cX9_grid : ByteArray := prog_11_method_75_code
def yX9_grid : MethodName := ⟨RX9, "grid", "(I)I"⟩
abbrev cX9_arc : ByteArray := prog_11_method_76_code
def yX9_arc : MethodName := ⟨RX9, "arc", "(II)I"⟩
abbrev cX9_below : ByteArray := prog_11_method_77_code
def yX9_below : MethodName := ⟨RX9, "below", "(I)I"⟩
abbrev cX9_point : ByteArray := prog_11_method_78_code
def yX9_point : MethodName := ⟨RX9, "point", "(II)I"⟩
abbrev cX9_childOf : ByteArray := prog_11_method_79_code
def yX9_childOf : MethodName := ⟨RX9, "childOf", "(II)I"⟩
abbrev cX9_thread : ByteArray := prog_11_method_80_code
def yX9_thread : MethodName := ⟨RX9, "thread", "(I)I"⟩
abbrev cX9_costOfCycle : ByteArray := prog_11_method_81_code
def yX9_costOfCycle : MethodName := ⟨RX9, "costOfCycle", "()I"⟩
abbrev cX9_path : ByteArray := prog_11_method_82_code
def yX9_path : MethodName := ⟨RX9, "path", "(III)I"⟩
abbrev cX9_next : ByteArray := prog_11_method_83_code
def yX9_next : MethodName := ⟨RX9, "next", "(I)I"⟩
abbrev cX9_past : ByteArray := prog_11_method_84_code
def yX9_past : MethodName := ⟨RX9, "past", "(II)I"⟩
abbrev cX9_billed : ByteArray := prog_11_method_85_code
def yX9_billed : MethodName := ⟨RX9, "billed", "()I"⟩
abbrev cX9_bill : ByteArray := prog_11_method_86_code
def yX9_bill : MethodName := ⟨RX9, "bill", "(I)I"⟩
abbrev cX9_flowAt : ByteArray := prog_11_method_87_code
def yX9_flowAt : MethodName := ⟨RX9, "flowAt", "(I)I"⟩
abbrev cX9_ledger : ByteArray := prog_11_method_88_code
def yX9_ledger : MethodName := ⟨RX9, "ledger", "(IZ)I"⟩
abbrev cX9_wide : ByteArray := prog_11_method_89_code
def yX9_wide : MethodName := ⟨RX9, "wide", "(II)I"⟩
abbrev cX9_outOf : ByteArray := prog_11_method_90_code
def yX9_outOf : MethodName := ⟨RX9, "outOf", "(I)I"⟩
abbrev cX9_startOf : ByteArray := prog_11_method_91_code
def yX9_startOf : MethodName := ⟨RX9, "startOf", "()I"⟩
abbrev cX9_stopAt : ByteArray := prog_11_method_92_code
def yX9_stopAt : MethodName := ⟨RX9, "stopAt", "(II)I"⟩
abbrev cX9_goesTrip : ByteArray := prog_11_method_93_code
def yX9_goesTrip : MethodName := ⟨RX9, "goesTrip", "()Z"⟩
abbrev cX9_trip : ByteArray := prog_11_method_94_code
def yX9_trip : MethodName := ⟨RX9, "trip", "(II)I"⟩
abbrev cX9_flowIn : ByteArray := prog_11_method_95_code
def yX9_flowIn : MethodName := ⟨RX9, "flowIn", "(II)I"⟩
abbrev cX9_apart : ByteArray := prog_11_method_96_code
def yX9_apart : MethodName := ⟨RX9, "apart", "(I)I"⟩
abbrev cX9_span : ByteArray := prog_11_method_97_code
def yX9_span : MethodName := ⟨RX9, "span", "(IZ)I"⟩
abbrev cX9_asNow : ByteArray := prog_11_method_98_code
def yX9_asNow : MethodName := ⟨RX9, "asNow", "()V"⟩
abbrev cX9_relaxes : ByteArray := prog_11_method_99_code
def yX9_relaxes : MethodName := ⟨RX9, "relaxes", "(II)Z"⟩
abbrev cX9_laysCheapest : ByteArray := prog_11_method_100_code
def yX9_laysCheapest : MethodName := ⟨RX9, "laysCheapest", "()V"⟩
abbrev cX9_wanting : ByteArray := prog_11_method_101_code
def yX9_wanting : MethodName := ⟨RX9, "wanting", "()I"⟩
abbrev cX9_backBy : ByteArray := prog_11_method_102_code
def yX9_backBy : MethodName := ⟨RX9, "backBy", "(I)I"⟩
abbrev cX9_sendsTo : ByteArray := prog_11_method_103_code
def yX9_sendsTo : MethodName := ⟨RX9, "sendsTo", "(I)V"⟩
abbrev cX9_carries : ByteArray := prog_11_method_104_code
def yX9_carries : MethodName := ⟨RX9, "carries", "()Z"⟩
abbrev cX9_cheapestCost : ByteArray := prog_11_method_105_code
def yX9_cheapestCost : MethodName := ⟨RX9, "cheapestCost", "()I"⟩
abbrev cX9_least : ByteArray := prog_11_method_106_code
def yX9_least : MethodName := ⟨RX9, "least", "()I"⟩
abbrev cX9_lessThan : ByteArray := prog_11_method_107_code
def yX9_lessThan : MethodName := ⟨RX9, "lessThan", "(II)I"⟩
abbrev cX9_worth : ByteArray := prog_11_method_108_code
def yX9_worth : MethodName := ⟨RX9, "worth", "(II)I"⟩
abbrev cX9_toll : ByteArray := prog_11_method_109_code
def yX9_toll : MethodName := ⟨RX9, "toll", "(II)I"⟩
abbrev cX9_bothOf : ByteArray := prog_11_method_110_code
def yX9_bothOf : MethodName := ⟨RX9, "bothOf", "(I)I"⟩
abbrev cX9_ones : ByteArray := prog_11_method_111_code
def yX9_ones : MethodName := ⟨RX9, "ones", "(I)I"⟩
abbrev cX9_cut : ByteArray := prog_11_method_112_code
def yX9_cut : MethodName := ⟨RX9, "cut", "()I"⟩
abbrev cX9_lack : ByteArray := prog_11_method_113_code
def yX9_lack : MethodName := ⟨RX9, "lack", "()I"⟩
abbrev cX9_steps : ByteArray := prog_11_method_114_code
def yX9_steps : MethodName := ⟨RX9, "steps", "(I)I"⟩
abbrev cX9_copies : ByteArray := prog_11_method_115_code
def yX9_copies : MethodName := ⟨RX9, "copies", "(II)V"⟩
abbrev cX9_copiesText : ByteArray := prog_11_method_116_code
def yX9_copiesText : MethodName := ⟨RX9, "copiesText", "(II)V"⟩
abbrev cX9_image : ByteArray := prog_11_method_117_code
def yX9_image : MethodName := ⟨RX9, "image", "(I)Z"⟩
abbrev cX9_again : ByteArray := prog_11_method_118_code
def yX9_again : MethodName := ⟨RX9, "again", "(I)Z"⟩
def RJx145de : String := "java/io/Serializable"
def TJx145de : u_T := fun k => match k with
  | _ => ("", "", "", false)
def tyJx145de : Nat → FieldType := fun k => match k with
  | _ => .int
abbrev wsJx145de0 : List Cond := u_ws RJx145de TJx145de 0
theorem nmJx145de : ∀ a, a < 0 → ∀ b, b < 0 → a ≠ b → (TJx145de a).2.1 ≠ (TJx145de b).2.1 := by decide +kernel
theorem tyJx145de_ok : ∀ k, k < 0 → parseFieldDescriptor (TJx145de k).2.2.1 = some (tyJx145de k) := by decide +kernel
def RJx9f9b0 : String := "java/lang/CharSequence"
def TJx9f9b0 : u_T := fun k => match k with
  | _ => ("", "", "", false)
def tyJx9f9b0 : Nat → FieldType := fun k => match k with
  | _ => .int
abbrev wsJx9f9b00 : List Cond := u_ws RJx9f9b0 TJx9f9b0 0
theorem nmJx9f9b0 : ∀ a, a < 0 → ∀ b, b < 0 → a ≠ b → (TJx9f9b0 a).2.1 ≠ (TJx9f9b0 b).2.1 := by decide +kernel
theorem tyJx9f9b0_ok : ∀ k, k < 0 → parseFieldDescriptor (TJx9f9b0 k).2.2.1 = some (tyJx9f9b0 k) := by decide +kernel
def RJxb160c : String := "java/lang/Comparable"
def TJxb160c : u_T := fun k => match k with
  | _ => ("", "", "", false)
def tyJxb160c : Nat → FieldType := fun k => match k with
  | _ => .int
abbrev wsJxb160c0 : List Cond := u_ws RJxb160c TJxb160c 0
theorem nmJxb160c : ∀ a, a < 0 → ∀ b, b < 0 → a ≠ b → (TJxb160c a).2.1 ≠ (TJxb160c b).2.1 := by decide +kernel
theorem tyJxb160c_ok : ∀ k, k < 0 → parseFieldDescriptor (TJxb160c k).2.2.1 = some (tyJxb160c k) := by decide +kernel
def RJx29ce0 : String := "java/lang/Enum"
def TJx29ce0 : u_T := fun k => match k with
  | _ => ("", "", "", false)
def tyJx29ce0 : Nat → FieldType := fun k => match k with
  | _ => .int
abbrev wsJx29ce00 : List Cond := u_ws RJx29ce0 TJx29ce0 0
theorem nmJx29ce0 : ∀ a, a < 0 → ∀ b, b < 0 → a ≠ b → (TJx29ce0 a).2.1 ≠ (TJx29ce0 b).2.1 := by decide +kernel
theorem tyJx29ce0_ok : ∀ k, k < 0 → parseFieldDescriptor (TJx29ce0 k).2.2.1 = some (tyJx29ce0 k) := by decide +kernel
abbrev cJx29ce0_ordinal_8abf5 : ByteArray := prog_15_method_2_code
def yJx29ce0_ordinal_8abf5 : MethodName := ⟨RJx29ce0, "ordinal", "()I"⟩
def RJ6 : String := "java/lang/Integer"
def TJ6 : u_T := fun k => match k with
  | _ => ("", "", "", false)
def tyJ6 : Nat → FieldType := fun k => match k with
  | _ => .int
abbrev wsJ60 : List Cond := u_ws RJ6 TJ6 0
theorem nmJ6 : ∀ a, a < 0 → ∀ b, b < 0 → a ≠ b → (TJ6 a).2.1 ≠ (TJ6 b).2.1 := by decide +kernel
theorem tyJ6_ok : ∀ k, k < 0 → parseFieldDescriptor (TJ6 k).2.2.1 = some (tyJ6 k) := by decide +kernel
abbrev cJ6_bitCount_0f7a4 : ByteArray := prog_17_method_49_code
def yJ6_bitCount_0f7a4 : MethodName := ⟨RJ6, "bitCount", "(I)I"⟩
def RJ9 : String := "java/lang/Math"
def TJ9 : u_T := fun k => match k with
  | _ => ("", "", "", false)
def tyJ9 : Nat → FieldType := fun k => match k with
  | _ => .int
abbrev wsJ90 : List Cond := u_ws RJ9 TJ9 0
theorem nmJ9 : ∀ a, a < 0 → ∀ b, b < 0 → a ≠ b → (TJ9 a).2.1 ≠ (TJ9 b).2.1 := by decide +kernel
theorem tyJ9_ok : ∀ k, k < 0 → parseFieldDescriptor (TJ9 k).2.2.1 = some (tyJ9 k) := by decide +kernel
abbrev cJ9_abs_0f7a4 : ByteArray := prog_18_method_59_code
def yJ9_abs_0f7a4 : MethodName := ⟨RJ9, "abs", "(I)I"⟩
abbrev cJ9_max_7cf53 : ByteArray := prog_18_method_65_code
def yJ9_max_7cf53 : MethodName := ⟨RJ9, "max", "(II)I"⟩
abbrev cJ9_min_7cf53 : ByteArray := prog_18_method_69_code
def yJ9_min_7cf53 : MethodName := ⟨RJ9, "min", "(II)I"⟩
def RJ0 : String := "java/lang/String"
def TJ0 : u_T := fun k => match k with
  | _ => ("", "", "", false)
def tyJ0 : Nat → FieldType := fun k => match k with
  | _ => .int
abbrev wsJ00 : List Cond := u_ws RJ0 TJ0 0
theorem nmJ0 : ∀ a, a < 0 → ∀ b, b < 0 → a ≠ b → (TJ0 a).2.1 ≠ (TJ0 b).2.1 := by decide +kernel
theorem tyJ0_ok : ∀ k, k < 0 → parseFieldDescriptor (TJ0 k).2.2.1 = some (tyJ0 k) := by decide +kernel
abbrev cJ0_length_8abf5 : ByteArray := prog_20_method_54_code
def yJ0_length_8abf5 : MethodName := ⟨RJ0, "length", "()I"⟩
abbrev cJ0_charAt_5068e : ByteArray := prog_20_method_56_code
def yJ0_charAt_5068e : MethodName := ⟨RJ0, "charAt", "(I)C"⟩
abbrev cJ0_coder_7d493 : ByteArray := prog_20_method_152_code
def yJ0_coder_7d493 : MethodName := ⟨RJ0, "coder", "()B"⟩
abbrev cJ0_isLatin1_aae02 : ByteArray := prog_20_method_154_code
def yJ0_isLatin1_aae02 : MethodName := ⟨RJ0, "isLatin1", "()Z"⟩
abbrev cJ0_checkIndex_df160 : ByteArray := prog_20_method_155_code
def yJ0_checkIndex_df160 : MethodName := ⟨RJ0, "checkIndex", "(II)V"⟩
def RJ1 : String := "java/lang/StringLatin1"
def TJ1 : u_T := fun k => match k with
  | _ => ("", "", "", false)
def tyJ1 : Nat → FieldType := fun k => match k with
  | _ => .int
abbrev wsJ10 : List Cond := u_ws RJ1 TJ1 0
theorem nmJ1 : ∀ a, a < 0 → ∀ b, b < 0 → a ≠ b → (TJ1 a).2.1 ≠ (TJ1 b).2.1 := by decide +kernel
theorem tyJ1_ok : ∀ k, k < 0 → parseFieldDescriptor (TJ1 k).2.2.1 = some (tyJ1 k) := by decide +kernel
abbrev cJ1_charAt_3b067 : ByteArray := prog_21_method_2_code
def yJ1_charAt_3b067 : MethodName := ⟨RJ1, "charAt", "([BI)C"⟩
def RJ2 : String := "java/lang/StringUTF16"
def TJ2 : u_T := fun k => match k with
  | _ => ("", "", "", false)
def tyJ2 : Nat → FieldType := fun k => match k with
  | _ => .int
abbrev wsJ20 : List Cond := u_ws RJ2 TJ2 0
theorem nmJ2 : ∀ a, a < 0 → ∀ b, b < 0 → a ≠ b → (TJ2 a).2.1 ≠ (TJ2 b).2.1 := by decide +kernel
theorem tyJ2_ok : ∀ k, k < 0 → parseFieldDescriptor (TJ2 k).2.2.1 = some (tyJ2 k) := by decide +kernel
abbrev cJ2_getChar_3b067 : ByteArray := prog_22_method_5_code
def yJ2_getChar_3b067 : MethodName := ⟨RJ2, "getChar", "([BI)C"⟩
abbrev cJ2_length_9d52b : ByteArray := prog_22_method_6_code
def yJ2_length_9d52b : MethodName := ⟨RJ2, "length", "([B)I"⟩
abbrev cJ2_charAt_3b067 : ByteArray := prog_22_method_83_code
def yJ2_charAt_3b067 : MethodName := ⟨RJ2, "charAt", "([BI)C"⟩
abbrev cJ2_checkIndex_2214a : ByteArray := prog_22_method_91_code
def yJ2_checkIndex_2214a : MethodName := ⟨RJ2, "checkIndex", "(I[B)V"⟩
def RJ10 : String := "java/lang/System"
def TJ10 : u_T := fun k => match k with
  | _ => ("", "", "", false)
def tyJ10 : Nat → FieldType := fun k => match k with
  | _ => .int
abbrev wsJ100 : List Cond := u_ws RJ10 TJ10 0
theorem nmJ10 : ∀ a, a < 0 → ∀ b, b < 0 → a ≠ b → (TJ10 a).2.1 ≠ (TJ10 b).2.1 := by decide +kernel
theorem tyJ10_ok : ∀ k, k < 0 → parseFieldDescriptor (TJ10 k).2.2.1 = some (tyJ10 k) := by decide +kernel
def RJxfd54e : String := "java/lang/constant/Constable"
def TJxfd54e : u_T := fun k => match k with
  | _ => ("", "", "", false)
def tyJxfd54e : Nat → FieldType := fun k => match k with
  | _ => .int
abbrev wsJxfd54e0 : List Cond := u_ws RJxfd54e TJxfd54e 0
theorem nmJxfd54e : ∀ a, a < 0 → ∀ b, b < 0 → a ≠ b → (TJxfd54e a).2.1 ≠ (TJxfd54e b).2.1 := by decide +kernel
theorem tyJxfd54e_ok : ∀ k, k < 0 → parseFieldDescriptor (TJxfd54e k).2.2.1 = some (tyJxfd54e k) := by decide +kernel
def RJx3cf43 : String := "java/lang/constant/ConstantDesc"
def TJx3cf43 : u_T := fun k => match k with
  | _ => ("", "", "", false)
def tyJx3cf43 : Nat → FieldType := fun k => match k with
  | _ => .int
abbrev wsJx3cf430 : List Cond := u_ws RJx3cf43 TJx3cf43 0
theorem nmJx3cf43 : ∀ a, a < 0 → ∀ b, b < 0 → a ≠ b → (TJx3cf43 a).2.1 ≠ (TJx3cf43 b).2.1 := by decide +kernel
theorem tyJx3cf43_ok : ∀ k, k < 0 → parseFieldDescriptor (TJx3cf43 k).2.2.1 = some (tyJx3cf43 k) := by decide +kernel
def RJ3 : String := "jdk/internal/util/Preconditions"
def TJ3 : u_T := fun k => match k with
  | _ => ("", "", "", false)
def tyJ3 : Nat → FieldType := fun k => match k with
  | _ => .int
abbrev wsJ30 : List Cond := u_ws RJ3 TJ3 0
theorem nmJ3 : ∀ a, a < 0 → ∀ b, b < 0 → a ≠ b → (TJ3 a).2.1 ≠ (TJ3 b).2.1 := by decide +kernel
theorem tyJ3_ok : ∀ k, k < 0 → parseFieldDescriptor (TJ3 k).2.2.1 = some (tyJ3 k) := by decide +kernel
abbrev cJ3_checkIndex_8e157 : ByteArray := prog_28_method_11_code
def yJ3_checkIndex_8e157 : MethodName := ⟨RJ3, "checkIndex", "(IILjava/util/function/BiFunction;)I"⟩
def RL : String := "TreeFlowsLaw"
abbrev cL_arc : ByteArray := method_3_code
def yL_arc : MethodName := ⟨RL, "arc", "(LTreeFlows;II[J)I"⟩
abbrev cL_point : ByteArray := method_4_code
def yL_point : MethodName := ⟨RL, "point", "(LTreeFlows;II[J)I"⟩
abbrev cL_law : ByteArray := code
def yL_law : MethodName := ⟨RL, "law", "([I)Z"⟩
abbrev vwCl : List vw_C := [(RX1, TX1, 14), (RX2, TX2, 4), (RX3, TX3, 7), (RX4, TX4, 11), (RX5, TX5, 7), (RX6, TX6, 9), (RX8, TX8, 13), (RX9, TX9, 44)]
end
section
/-! ===== THE LIGHT MACHINE: the world as one table of numbers; references stand still ===== -/
abbrev LH : Type := (Nat → Nat → Int32) × (Nat → Nat → Int64)
/-- nothing: an unset local, the second half of a long, the answer of a void method -/
def tf_z : Value := .retAddr 0
def tf_up (h : Nat → Nat → Int32) (c i : Nat) (v : Int32) : Nat → Nat → Int32 := fun d => if d = c then upd (h c) i v else h d
def tf_upL (h : Nat → Nat → Int64) (c i : Nat) (v : Int64) : Nat → Nat → Int64 := fun d => if d = c then vp_updL (h c) i v else h d
/-- how many cells the world has -/
def tf_NC : Nat := 298
def tf_Kl : List Nat := [0, 8, 8, 8, 8, 8, 8, 8, 8, 8, 8, 4, 8, 8, 8, 0, 8, 8, 8, 8, 8, 8, 8, 8, 8, 8, 4, 8, 8, 8, 0, 8, 8, 8, 8, 8, 8, 8, 8, 8, 8, 4, 8, 8, 8, 0, 8, 8, 8, 8, 8, 8, 8, 8, 8, 8, 4, 8, 8, 8, 0, 8, 8, 8, 8, 8, 8, 8, 8, 8, 8, 4, 8, 8, 8, 0, 8, 8, 8, 8, 8, 8, 8, 8, 8, 8, 4, 8, 8, 8, 0, 8, 8, 8, 8, 8, 8, 8, 8, 8, 8, 4, 8, 8, 8, 0, 8, 8, 8, 8, 8, 8, 8, 8, 8, 8, 4, 8, 8, 8, 0, 8, 8, 8, 8, 8, 8, 8, 8, 8, 8, 4, 8, 8, 8, 0, 8, 8, 8, 8, 8, 8, 8, 8, 8, 8, 4, 8, 8, 8, 0, 8, 8, 8, 8, 8, 8, 8, 8, 8, 8, 4, 8, 8, 8, 0, 8, 8, 8, 8, 8, 8, 8, 8, 8, 8, 4, 8, 8, 8, 0, 8, 8, 8, 8, 8, 8, 8, 8, 8, 8, 4, 8, 8, 8, 0, 8, 8, 8, 8, 8, 8, 8, 8, 8, 8, 4, 8, 8, 8, 0, 8, 8, 8, 8, 8, 8, 8, 8, 8, 8, 4, 8, 8, 8, 0, 8, 8, 8, 8, 8, 8, 8, 8, 8, 8, 4, 8, 8, 8, 6, 2, 8, 11, 5, 8, 8, 8, 8, 8, 8, 1, 9, 1, 9, 1, 9, 1, 9, 3, 15, 8, 8, 8, 8, 8, 13, 13, 14, 11, 7, 8, 10, 11, 8, 8, 8, 8, 8, 12, 8, 8, 8, 8, 8, 8, 11, 8, 8, 8, 8, 8, 8, 8, 8, 8, 8, 12]
def tf_Nl : List Nat := [14, 7, 21, 21, 21, 21, 21, 21, 7, 7, 8, 7, 12, 12, 12, 14, 7, 21, 21, 21, 21, 21, 21, 7, 7, 8, 7, 12, 12, 12, 14, 7, 21, 21, 21, 21, 21, 21, 7, 7, 8, 7, 12, 12, 12, 14, 7, 21, 21, 21, 21, 21, 21, 7, 7, 8, 7, 12, 12, 12, 14, 7, 21, 21, 21, 21, 21, 21, 7, 7, 8, 7, 12, 12, 12, 14, 7, 21, 21, 21, 21, 21, 21, 7, 7, 8, 7, 12, 12, 12, 14, 7, 21, 21, 21, 21, 21, 21, 7, 7, 8, 7, 12, 12, 12, 14, 7, 21, 21, 21, 21, 21, 21, 7, 7, 8, 7, 12, 12, 12, 14, 7, 21, 21, 21, 21, 21, 21, 7, 7, 8, 7, 12, 12, 12, 14, 7, 21, 21, 21, 21, 21, 21, 7, 7, 8, 7, 12, 12, 12, 14, 7, 21, 21, 21, 21, 21, 21, 7, 7, 8, 7, 12, 12, 12, 14, 7, 21, 21, 21, 21, 21, 21, 7, 7, 8, 7, 12, 12, 12, 14, 7, 21, 21, 21, 21, 21, 21, 7, 7, 8, 7, 12, 12, 12, 14, 7, 21, 21, 21, 21, 21, 21, 7, 7, 8, 7, 12, 12, 12, 14, 7, 21, 21, 21, 21, 21, 21, 7, 7, 8, 7, 12, 12, 12, 14, 7, 21, 21, 21, 21, 21, 21, 7, 7, 8, 7, 12, 12, 12, 13, 7, 8, 8, 9, 14, 14, 98, 14, 7, 7, 4, 400, 4, 400, 4, 400, 4, 400, 11, 80, 80, 320, 320, 7, 7, 11, 3, 3, 3, 44, 865, 1600, 3, 1700, 4, 7, 98, 7, 100, 400, 8, 8, 8, 8, 16, 16, 64, 14, 8, 9, 14, 14, 14, 7, 7, 7, 1]
/-- the kind of a cell: 0 to 7 an object (place in vwCl), 8 int[], 9 char[], 10 byte[], 11 boolean[], 12 long[], 13 Net[], 14 Page[], 15 Verb[] -/
def tf_K (c : Nat) : Nat := tf_Kl.getD c 99
def tf_N (c : Nat) : Nat := tf_Nl.getD c 0
def tf_Sl : List (List Nat) := [[0, 0, 0, 2, 2, 2, 2, 2, 2, 2, 2, 2, 2, 2], [2, 0, 0, 0], [2, 2, 0, 0, 0, 0, 0], [0, 0, 0, 2, 2, 2, 2, 2, 0, 0, 0], [0, 0, 0, 0, 2, 2, 2], [0, 2, 2, 2, 2, 2, 2, 0, 0], [2, 2, 2, 2, 2, 2, 2, 2, 0, 0, 2, 2, 2], [0, 2, 2, 2, 2, 0, 0, 0, 0, 0, 0, 1, 0, 0, 2, 2, 2, 2, 0, 0, 0, 2, 2, 0, 2, 2, 2, 2, 2, 2, 0, 0, 2, 2, 2, 2, 0, 0, 2, 2, 2, 2, 2, 2]]
def tf_S (ci k : Nat) : Nat := (tf_Sl.getD ci []).getD k 9
def tf_Wl (ci : Nat) : Nat := (tf_Sl.getD ci []).length
def tf_R6 : List Nat := [0, 15, 241, 244, 251, 259, 265, 266, 0, 0, 267, 268, 269]
def tf_R7 : List Nat := [0, 271, 272, 273, 274, 0, 0, 0, 0, 0, 0, 0, 0, 0, 275, 276, 277, 278, 0, 0, 0, 279, 280, 0, 281, 282, 283, 284, 285, 286, 0, 0, 287, 288, 289, 290, 0, 0, 291, 292, 293, 294, 295, 296]
/-- where a reference leads: of an object's field, of a row of objects -/
def tf_R (c k : Nat) : Nat :=
  match tf_K c with
  | 0 => c + k - 2
  | 1 => c + 1
  | 2 => c + 1 + k
  | 3 => c + k - 2
  | 4 => c + k - 3
  | 5 => c + k
  | 6 => tf_R6.getD k 0
  | 7 => tf_R7.getD k 0
  | 13 => if c = 266 then 15 * (k + 2) else 15 * (k + 13)
  | _ => 253 + 2 * k
/-- a reference of the light machine as the heap has it -/
def tf_tr (ad : Nat → Nat) (v : Value) : Value := match v with
  | .ref c => .ref (ad c)
  | v => v
def tf_fv (ad : Nat → Nat) (h : LH) (c k : Nat) : Value := if tf_S (tf_K c) k = 0 then .int (h.1 c k) else if tf_S (tf_K c) k = 1 then .long (h.2 c k) else .ref (ad (tf_R c k))
def tf_vb (ad : Nat → Nat) (v : Int32) : Option Nat := if v < 0 then none else some (ad (400 + v.toNatClampNeg))
def tf_E (cA : Nat → ClassId) (ad : Nat → Nat) (h : LH) (c : Nat) : va_E :=
  if tf_K c < 8 then .inr (tf_K c, (List.range (tf_Wl (tf_K c))).map (tf_fv ad h c))
  else if tf_K c < 12 then .inl (cA (tf_K c), tf_N c, .inl (h.1 c))
  else if tf_K c = 12 then .inl (cA 12, tf_N c, .inr (.inl (h.2 c)))
  else if tf_K c = 15 then .inl (cA 15, tf_N c, .inr (.inr (.inr (.inr (fun i => tf_vb ad (h.1 c i))))))
  else .inl (cA (tf_K c), tf_N c, .inr (.inr (.inr (.inr (fun i => some (ad (tf_R c i)))))))
def tf_ws (cA : Nat → ClassId) (ad : Nat → Nat) (nc : Nat) (h : LH) : va_W := (List.range nc).map (fun c => (ad c, tf_E cA ad h c))
def tf_ty (cA : Nat → ClassId) : List (ClassId × FieldType) := [(cA 8, .int), (cA 9, .char), (cA 10, .byte), (cA 11, .boolean), (cA 12, .long), (cA 13, .object "TreeFlows$Net"), (cA 14, .object "TreeFlows$Page"), (cA 15, .object "TreeFlows$Verb")]
def tf_inj (ad : Nat → Nat) (nc : Nat) : Prop := ∀ i j, i < nc → j < nc → ad i = ad j → i = j
section TFN
variable {nc : Nat}
theorem tf_ws_get {cA : Nat → ClassId} {ad : Nat → Nat} {h : LH} {c : Nat} (hc : c < nc) : (tf_ws cA ad nc h)[c]? = some (ad c, tf_E cA ad h c) := by
  simp [tf_ws, hc]
theorem tf_ws_lt {cA : Nat → ClassId} {ad : Nat → Nat} {h : LH} {k : Nat} {q : Nat × va_E} (hk : (tf_ws cA ad nc h)[k]? = some q) : k < nc ∧ q = (ad k, tf_E cA ad h k) := by
  have hl : k < nc := by
    have := (List.getElem?_eq_some_iff.mp hk).1
    simpa [tf_ws] using this
  rw [tf_ws_get hl] at hk
  exact ⟨hl, (Option.some.inj hk).symm⟩
theorem tf_ws_set {cA : Nat → ClassId} {ad : Nat → Nat} {h h' : LH} {c : Nat} {e : va_E} (he : e = tf_E cA ad h' c) (ho : ∀ d, d ≠ c → tf_E cA ad h' d = tf_E cA ad h d) : (tf_ws cA ad nc h).set c (ad c, e) = tf_ws cA ad nc h' := by
  subst he
  refine List.ext_getElem? fun k => ?_
  by_cases hk : k < nc
  · rw [tf_ws_get hk]
    by_cases hkc : k = c
    · subst hkc
      rw [List.getElem?_set_self (by simpa [tf_ws] using hk)]
    · rw [List.getElem?_set_ne (Ne.symm hkc), tf_ws_get hk, ho k hkc]
  · rw [List.getElem?_eq_none (by simpa [tf_ws] using hk), List.getElem?_eq_none (by simpa [tf_ws] using hk)]
theorem tf_ws_D {cA : Nat → ClassId} {ad : Nat → Nat} {h : LH} {A : Nat → Prop} (hj : tf_inj ad nc) (hA : ∀ c, c < nc → A (ad c)) : va_D A (tf_ws cA ad nc h) := by
  refine ⟨fun i j p q hi hj' hpq => ?_, fun k q hk => ?_⟩
  · obtain ⟨li, rfl⟩ := tf_ws_lt hi
    obtain ⟨lj, rfl⟩ := tf_ws_lt hj'
    exact hj i j li lj hpq
  · obtain ⟨lk, rfl⟩ := tf_ws_lt hk
    exact hA k lk
theorem tf_ws_A {cA : Nat → ClassId} {ad : Nat → Nat} {h : LH} {sz q : Nat} : va_A (tf_ws cA ad nc h) sz q ↔ (∃ c, c < nc ∧ q = ad c) ∨ sz ≤ q := by
  constructor
  · rintro (⟨k, e, hk⟩ | hk)
    · obtain ⟨lk, he⟩ := tf_ws_lt hk
      exact Or.inl ⟨k, lk, congrArg Prod.fst he⟩
    · exact Or.inr hk
  · rintro (⟨c, hc, rfl⟩ | hk)
    · exact Or.inl ⟨c, _, tf_ws_get hc⟩
    · exact Or.inr hk
theorem tf_ws_At {cA : Nat → ClassId} {ad : Nat → Nat} {h h' : LH} {sz : Nat} : va_A (tf_ws cA ad nc h) sz = va_A (tf_ws cA ad nc h') sz := by
  funext q
  exact propext (tf_ws_A.trans tf_ws_A.symm)
end TFN
-- what a write does to the table
theorem tf_E_up {cA : Nat → ClassId} {ad : Nat → Nat} {h : LH} {c i : Nat} {v : Int32} {d : Nat} (hd : d ≠ c) : tf_E cA ad (tf_up h.1 c i v, h.2) d = tf_E cA ad h d := by
  have e1 : tf_up h.1 c i v d = h.1 d := by simp [tf_up, hd]
  have e2 : tf_fv ad (tf_up h.1 c i v, h.2) d = tf_fv ad h d := by funext k; simp [tf_fv, e1]
  simp only [tf_E, e2, e1]
theorem tf_E_upL {cA : Nat → ClassId} {ad : Nat → Nat} {h : LH} {c i : Nat} {v : Int64} {d : Nat} (hd : d ≠ c) : tf_E cA ad (h.1, tf_upL h.2 c i v) d = tf_E cA ad h d := by
  have e1 : tf_upL h.2 c i v d = h.2 d := by simp [tf_upL, hd]
  have e2 : tf_fv ad (h.1, tf_upL h.2 c i v) d = tf_fv ad h d := by funext k; simp [tf_fv, e1]
  simp only [tf_E, e2, e1]
theorem tf_set_map {α : Type} {f g : Nat → α} {k n : Nat} {v : α} (hk : g k = v) (ho : ∀ j, j ≠ k → g j = f j) : ((List.range n).map f).set k v = (List.range n).map g := by
  refine List.ext_getElem? fun j => ?_
  by_cases hj : j < n
  · by_cases hjk : j = k
    · subst hjk
      rw [List.getElem?_set_self (by simpa using hj)]
      simp [hj, hk]
    · rw [List.getElem?_set_ne (Ne.symm hjk)]
      simp [hj, ho j hjk]
  · rw [List.getElem?_eq_none (by simpa using hj), List.getElem?_eq_none (by simpa using hj)]
theorem tf_put_i {cA : Nat → ClassId} {ad : Nat → Nat} {h : LH} {c k : Nat} {v : Int32} (hk8 : tf_K c < 8) (hs : tf_S (tf_K c) k = 0) : (.inr (tf_K c, ((List.range (tf_Wl (tf_K c))).map (tf_fv ad h c)).set k (.int v)) : va_E) = tf_E cA ad (tf_up h.1 c k v, h.2) c := by
  rw [tf_E, if_pos hk8]
  refine congrArg (fun l => Sum.inr (tf_K c, l)) (tf_set_map ?_ fun j hj => ?_)
  · simp [tf_fv, hs, tf_up, upd]
  · simp [tf_fv, tf_up, upd, hj]
theorem tf_put_l {cA : Nat → ClassId} {ad : Nat → Nat} {h : LH} {c k : Nat} {v : Int64} (hk8 : tf_K c < 8) (hs : tf_S (tf_K c) k = 1) : (.inr (tf_K c, ((List.range (tf_Wl (tf_K c))).map (tf_fv ad h c)).set k (.long v)) : va_E) = tf_E cA ad (h.1, tf_upL h.2 c k v) c := by
  rw [tf_E, if_pos hk8]
  refine congrArg (fun l => Sum.inr (tf_K c, l)) (tf_set_map ?_ fun j hj => ?_)
  · simp [tf_fv, hs, tf_upL, vp_updL]
  · simp [tf_fv, tf_upL, vp_updL, hj]
-- locals
def tf_s1 (L : List Value) (i : Nat) (v : Value) : List Value := match i with
  | 0 => L.set 0 v
  | j + 1 => match L[j]? with
    | some (.long _) => (L.set j tf_z).set (j + 1) v
    | some (.double _) => (L.set j tf_z).set (j + 1) v
    | _ => L.set (j + 1) v
def tf_s2 (L : List Value) (i : Nat) (v : Value) : List Value := (tf_s1 L i v).set (i + 1) tf_z
def tf_rel (ad : Nat → Nat) (ls : Array Slot) (nL : Nat) (L : List Value) : Prop := ls.size = nL ∧ lv_wf ls ∧ L.length = nL ∧ ∀ (i : Nat) (v : Value), L[i]? = some v → v ≠ tf_z → ls[i]? = some (.val (tf_tr ad v))
def tf_prs (ad : Nat → Nat) : Nat → List Value → List (Nat × Value)
  | _, [] => []
  | i, v :: r => if v = tf_z then tf_prs ad (i + 1) r else (i, tf_tr ad v) :: tf_prs ad (i + 1) r
theorem tf_prs_mem {ad : Nat → Nat} : ∀ (L : List Value) (i : Nat) (q : Nat × Value), q ∈ tf_prs ad i L ↔ ∃ (j : Nat) (v : Value), L[j]? = some v ∧ v ≠ tf_z ∧ q = (i + j, tf_tr ad v)
  | [], i, q => by simp [tf_prs]
  | v :: r, i, q => by
    rw [tf_prs]
    constructor
    · intro h
      by_cases hv : v = tf_z
      · rw [if_pos hv] at h
        obtain ⟨j, w, h1, h2, h3⟩ := (tf_prs_mem r (i + 1) q).mp h
        exact ⟨j + 1, w, by simpa using h1, h2, by rw [h3]; simp; omega⟩
      · rw [if_neg hv] at h
        rcases List.mem_cons.mp h with h | h
        · exact ⟨0, v, by simp, hv, by simpa using h⟩
        · obtain ⟨j, w, h1, h2, h3⟩ := (tf_prs_mem r (i + 1) q).mp h
          exact ⟨j + 1, w, by simpa using h1, h2, by rw [h3]; simp; omega⟩
    · rintro ⟨j, w, h1, h2, h3⟩
      cases j with
      | zero =>
        simp only [List.getElem?_cons_zero, Option.some.injEq] at h1
        subst h1
        rw [if_neg h2, h3]
        exact List.mem_cons_self
      | succ j =>
        have hm : q ∈ tf_prs ad (i + 1) r := (tf_prs_mem r (i + 1) q).mpr ⟨j, w, by simpa using h1, h2, by rw [h3]; simp; omega⟩
        by_cases hv : v = tf_z
        · rw [if_pos hv]; exact hm
        · rw [if_neg hv]; exact List.mem_cons_of_mem _ hm
theorem tf_rel_has {ad : Nat → Nat} {ls : Array Slot} {nL : Nat} {L : List Value} (h : tf_rel ad ls nL L) : lv_has ls nL (tf_prs ad 0 L) := by
  refine ⟨h.1, h.2.1, fun q hq => ?_⟩
  obtain ⟨j, v, h1, h2, h3⟩ := (tf_prs_mem L 0 q).mp hq
  rw [h3]
  simpa using h.2.2.2 j v h1 h2
theorem tf_cat {ad : Nat → Nat} (v : Value) : (tf_tr ad v).category = v.category := by cases v <;> rfl
theorem tf_cat2 {v : Value} (h : v.category = 2) : (∃ x, v = .long x) ∨ ∃ x, v = .double x := by cases v <;> simp [Value.category] at h <;> simp
theorem tf_s1_len (L : List Value) (i : Nat) (v : Value) : (tf_s1 L i v).length = L.length := by
  unfold tf_s1
  split
  · simp
  · split <;> simp
theorem tf_s1_get {L : List Value} {i : Nat} {v w : Value} {j : Nat} (h : (tf_s1 L i v)[j]? = some w) (hw : w ≠ tf_z) : (j = i ∧ w = v) ∨ (j ≠ i ∧ L[j]? = some w ∧ (j + 1 = i → w.category ≠ 2)) := by
  have key : ∀ {i : Nat}, ((L.set i tf_z).set (i + 1) v)[j]? = some w → (j = i + 1 ∧ w = v) ∨ (j ≠ i + 1 ∧ L[j]? = some w ∧ (j + 1 = i + 1 → w.category ≠ 2)) := by
    intro i h
    by_cases hj : j = i + 1
    · subst hj
      refine Or.inl ⟨rfl, ?_⟩
      rw [List.getElem?_set] at h
      simp only [if_true, List.length_set] at h
      split at h
      · exact (Option.some.inj h).symm
      · cases h
    · rw [List.getElem?_set_ne (Ne.symm hj)] at h
      by_cases hji : j = i
      · subst hji
        rw [List.getElem?_set] at h
        simp only [if_true] at h
        split at h
        · exact absurd (Option.some.inj h).symm hw
        · cases h
      · rw [List.getElem?_set_ne (Ne.symm hji)] at h
        exact Or.inr ⟨hj, h, fun e => by omega⟩
  unfold tf_s1 at h
  cases i with
  | zero =>
    simp only at h
    by_cases hj : j = 0
    · subst hj
      rw [List.getElem?_set] at h
      split at h
      · split at h
        · exact Or.inl ⟨rfl, (Option.some.inj h).symm⟩
        · cases h
      · omega
    · rw [List.getElem?_set_ne (Ne.symm hj)] at h
      exact Or.inr ⟨hj, h, fun e => by omega⟩
  | succ i =>
    simp only at h
    split at h
    · exact key h
    · exact key h
    · rename_i hx hy
      by_cases hj : j = i + 1
      · subst hj
        refine Or.inl ⟨rfl, ?_⟩
        rw [List.getElem?_set] at h
        simp only [if_true] at h
        split at h
        · exact (Option.some.inj h).symm
        · cases h
      · rw [List.getElem?_set_ne (Ne.symm hj)] at h
        refine Or.inr ⟨hj, h, fun e hc => ?_⟩
        have hji : j = i := by omega
        subst hji
        rcases tf_cat2 hc with ⟨x, hq⟩ | ⟨x, hq⟩
        · exact hx x (by rw [h, hq])
        · exact hy x (by rw [h, hq])
theorem tf_rel_s1 {ad : Nat → Nat} {ls' : Array Slot} {nL : Nat} {L : List Value} {i : Nat} {v : Value} (hlen : L.length = nL)
    (h : lv_has ls' nL ((i, tf_tr ad v) :: (tf_prs ad 0 L).filter (fun q => !(q.1 == i) && !(q.1 + 1 == i && q.2.category == 2)))) : tf_rel ad ls' nL (tf_s1 L i v) := by
  refine ⟨h.1, h.2.1, by rw [tf_s1_len]; exact hlen, fun j w hj hw => ?_⟩
  rcases tf_s1_get hj hw with ⟨rfl, rfl⟩ | ⟨hne, hL, hl⟩
  · exact h.2.2 (j, tf_tr ad w) List.mem_cons_self
  · refine h.2.2 (j, tf_tr ad w) (List.mem_cons_of_mem _ (List.mem_filter.mpr ⟨(tf_prs_mem L 0 _).mpr ⟨j, w, hL, hw, by simp⟩, ?_⟩))
    simp only [Bool.and_eq_true, Bool.not_eq_true', beq_eq_false_iff_ne, ne_eq, Bool.and_eq_false_imp, beq_iff_eq]
    refine ⟨hne, fun e => ?_⟩
    rw [tf_cat]
    exact hl e
theorem tf_rel_s2 {ad : Nat → Nat} {ls' : Array Slot} {nL : Nat} {L : List Value} {i : Nat} {v : Value} (hlen : L.length = nL)
    (h : lv_has ls' nL ((i, tf_tr ad v) :: (tf_prs ad 0 L).filter (fun q => !(q.1 == i) && (!(q.1 == i + 1) && !(q.1 + 1 == i && q.2.category == 2))))) : tf_rel ad ls' nL (tf_s2 L i v) := by
  refine ⟨h.1, h.2.1, by rw [tf_s2, List.length_set, tf_s1_len]; exact hlen, fun j w hj hw => ?_⟩
  rw [tf_s2] at hj
  by_cases hji : j = i + 1
  · subst hji
    rw [List.getElem?_set] at hj
    simp only [if_true] at hj
    split at hj
    · exact absurd (Option.some.inj hj).symm hw
    · cases hj
  · rw [List.getElem?_set_ne (Ne.symm hji)] at hj
    rcases tf_s1_get hj hw with ⟨rfl, rfl⟩ | ⟨hne, hL, hl⟩
    · exact h.2.2 (j, tf_tr ad w) List.mem_cons_self
    · refine h.2.2 (j, tf_tr ad w) (List.mem_cons_of_mem _ (List.mem_filter.mpr ⟨(tf_prs_mem L 0 _).mpr ⟨j, w, hL, hw, by simp⟩, ?_⟩))
      simp only [Bool.and_eq_true, Bool.not_eq_true', beq_eq_false_iff_ne, ne_eq, Bool.and_eq_false_imp, beq_iff_eq]
      refine ⟨hne, hji, fun e => ?_⟩
      rw [tf_cat]
      exact hl e
-- entry
def tf_ar : List Value → List Value
  | [] => []
  | v :: r => if v.category = 2 then v :: tf_z :: tf_ar r else v :: tf_ar r
def tf_en (n : Nat) (As : List Value) : List Value := tf_ar As ++ List.replicate (n - (tf_ar As).length) tf_z
theorem tf_sl_len (ad : Nat → Nat) : ∀ As : List Value, (lg_sl (As.map (tf_tr ad))).length = (tf_ar As).length
  | [] => rfl
  | v :: r => by
    have ih := tf_sl_len ad r
    simp only [List.map_cons, lg_sl, List.flatMap_cons, List.length_append, tf_ar, tf_cat] at *
    split
    · simp only [List.length_cons, List.length_nil]; omega
    · simp only [List.length_cons, List.length_nil]; omega
theorem tf_ar_at (ad : Nat → Nat) : ∀ (As : List Value) (i j : Nat) (v : Value), (tf_ar As)[j]? = some v → v ≠ tf_z → (i + j, tf_tr ad v) ∈ lv_args i (As.map (tf_tr ad))
  | [], i, j, v, h, _ => by simp [tf_ar] at h
  | a :: r, i, j, v, h, hv => by
    simp only [List.map_cons, lv_args, tf_cat]
    simp only [tf_ar] at h
    split at h
    · rename_i hc
      rw [if_pos hc]
      cases j with
      | zero => simp at h; subst h; exact List.mem_cons_self
      | succ j =>
        cases j with
        | zero => simp at h; exact absurd h.symm hv
        | succ j =>
          have := tf_ar_at ad r (i + 2) j v (by simpa using h) hv
          refine List.mem_cons_of_mem _ ?_
          rwa [show i + (j + 1 + 1) = i + 2 + j by omega]
    · rename_i hc
      rw [if_neg hc]
      cases j with
      | zero => simp at h; subst h; exact List.mem_cons_self
      | succ j =>
        have := tf_ar_at ad r (i + 1) j v (by simpa using h) hv
        refine List.mem_cons_of_mem _ ?_
        rwa [show i + (j + 1) = i + 1 + j by omega]
theorem tf_rel_en {ad : Nat → Nat} {As : List Value} {n : Nat} (hn : (tf_ar As).length ≤ n) : tf_rel ad ((lg_sl (As.map (tf_tr ad)) ++ List.replicate (n - (lg_sl (As.map (tf_tr ad))).length) Slot.unset).toArray) n (tf_en n As) := by
  have h := lv_entry (As.map (tf_tr ad)) (n := n) (by rw [tf_sl_len]; exact hn)
  refine ⟨h.1, h.2.1, by simp [tf_en]; omega, fun i v hi hv => ?_⟩
  rw [tf_en] at hi
  by_cases hl : i < (tf_ar As).length
  · rw [List.getElem?_append_left hl] at hi
    have := h.2.2 _ (tf_ar_at ad As 0 i v hi hv)
    simpa using this
  · rw [List.getElem?_append_right (by omega), List.getElem?_replicate] at hi
    split at hi
    · exact absurd (Option.some.inj hi).symm hv
    · cases hi
end
section
/-- what an int answer must be, by the kind of answer: 1 int, 2 boolean -/
def tf_rb (rk : Nat) (v : Int32) : Prop := match rk with
  | 1 => True
  | 2 => vp_nar .boolean v = v
  | _ => False
/-! ===== the light machine's step, as what must hold before it ===== -/
abbrev tf_X : Type := Nat → List Value → List Value → LH → Prop
abbrev tf_Q : Type := Value → LH → Prop
abbrev tf_C : Type := Nat → List Value → LH → tf_Q → Prop
abbrev tf_Kt : Type := List Value → List Value → LH → Prop
abbrev tf_Hk : Type := Nat → Option (List Value → List Value → LH → tf_Kt → tf_X → Prop)
def tf_t (pc : Nat) (off : Int) : Nat := ((pc : Int) + off).toNat
def tf_br (c : ClassFile.Cond) (x y : Int32) (T F : Prop) : Prop := match c with
  | .eq => (x = y → T) ∧ (¬ x = y → F)
  | .ne => (x = y → F) ∧ (¬ x = y → T)
  | .lt => (x < y → T) ∧ (¬ x < y → F)
  | .ge => (y ≤ x → T) ∧ (¬ y ≤ x → F)
  | .gt => (y < x → T) ∧ (¬ y < x → F)
  | .le => (x ≤ y → T) ∧ (¬ x ≤ y → F)
def tf_gv (h : LH) (c ci k : Nat) : Value := if tf_S ci k = 0 then .int (h.1 c k) else if tf_S ci k = 1 then .long (h.2 c k) else .ref (tf_R c k)
def tf_sw (T : Int → Prop) (x : Int32) : Int → List Int → Prop
  | _, [] => True
  | lo, o :: r => (x.toInt = lo → T o) ∧ tf_sw T x (lo + 1) r

def tf_st (nc : Nat) (C : tf_C) (F : Nat → Option (Nat × Nat)) (M : Nat → Option (Nat × Nat × Bool)) (I : Nat → Option Value) (rk : Nat) (Q : tf_Q) (X : tf_X) (pc : Nat) (i : Instr) (L st : List Value) (h : LH) (k : tf_Kt) : Prop := match i with
  | .iconst v => k L (.int (Int32.ofInt v) :: st) h
  | .bipush v => k L (.int (Int8.ofInt v).toInt32 :: st) h
  | .sipush v => k L (.int (Int16.ofInt v).toInt32 :: st) h
  | .lconst v => k L (.long (Int64.ofNat (v : Nat)) :: st) h
  | .ldc j => (match I j with | some (.int v) => k L (.int v :: st) h | _ => False)
  | .ldc_w j => (match I j with | some (.int v) => k L (.int v :: st) h | _ => False)
  | .ldc2_w j => (match I j with | some (.long v) => k L (.long v :: st) h | _ => False)
  | .iload_n i => (match L[(i : Nat)]? with | some (.int x) => k L (.int x :: st) h | _ => False)
  | .iload i => (match L[i]? with | some (.int x) => k L (.int x :: st) h | _ => False)
  | .lload_n i => (match L[(i : Nat)]? with | some (.long x) => k L (.long x :: st) h | _ => False)
  | .aload_n i => (match L[(i : Nat)]? with | some (.ref x) => k L (.ref x :: st) h | some .null => k L (.null :: st) h | _ => False)
  | .aload i => (match L[i]? with | some (.ref x) => k L (.ref x :: st) h | some .null => k L (.null :: st) h | _ => False)
  | .istore_n i => (match st with | .int x :: st => k (tf_s1 L (i : Nat) (.int x)) st h | _ => False)
  | .istore i => (match st with | .int x :: st => k (tf_s1 L i (.int x)) st h | _ => False)
  | .astore_n i => (match st with | .ref x :: st => k (tf_s1 L (i : Nat) (.ref x)) st h | _ => False)
  | .astore i => (match st with | .ref x :: st => k (tf_s1 L i (.ref x)) st h | _ => False)
  | .lstore_n i => (match st with | .long x :: st => k (tf_s2 L (i : Nat) (.long x)) st h | _ => False)
  | .iinc i v => (match L[i]? with | some (.int x) => k (tf_s1 L i (.int (x + Int32.ofInt v))) st h | _ => False)
  | .iadd => (match st with | .int y :: .int x :: st => k L (.int (x + y) :: st) h | _ => False)
  | .isub => (match st with | .int y :: .int x :: st => k L (.int (x - y) :: st) h | _ => False)
  | .imul => (match st with | .int y :: .int x :: st => k L (.int (x * y) :: st) h | _ => False)
  | .iand => (match st with | .int y :: .int x :: st => k L (.int (x &&& y) :: st) h | _ => False)
  | .ior => (match st with | .int y :: .int x :: st => k L (.int (x ||| y) :: st) h | _ => False)
  | .ishl => (match st with | .int y :: .int x :: st => k L (.int (x <<< (y &&& 31)) :: st) h | _ => False)
  | .ishr => (match st with | .int y :: .int x :: st => k L (.int (x >>> (y &&& 31)) :: st) h | _ => False)
  | .ineg => (match st with | .int x :: st => k L (.int (-x) :: st) h | _ => False)
  | .idiv => (match st with | .int y :: .int x :: st => (¬ y = 0) ∧ k L (.int (x / y) :: st) h | _ => False)
  | .irem => (match st with | .int y :: .int x :: st => (¬ y = 0) ∧ k L (.int (x - x / y * y) :: st) h | _ => False)
  | .lmul => (match st with | .long y :: .long x :: st => k L (.long (x * y) :: st) h | _ => False)
  | .land => (match st with | .long y :: .long x :: st => k L (.long (x &&& y) :: st) h | _ => False)
  | .lor => (match st with | .long y :: .long x :: st => k L (.long (x ||| y) :: st) h | _ => False)
  | .lshl => (match st with | .int y :: .long x :: st => k L (.long (x <<< (y.toInt64 &&& 63)) :: st) h | _ => False)
  | .lshr => (match st with | .int y :: .long x :: st => k L (.long (x >>> (y.toInt64 &&& 63)) :: st) h | _ => False)
  | .lushr => (match st with | .int y :: .long x :: st => k L (.long ((x.toUInt64 >>> (y.toInt64.toUInt64 &&& Int64.toUInt64 63)).toInt64) :: st) h | _ => False)
  | .iushr => (match st with | .int y :: .int x :: st => k L (.int ((x.toUInt32 >>> (y.toUInt32 &&& Int32.toUInt32 31)).toInt32) :: st) h | _ => False)
  | .lcmp => (match st with | .long y :: .long x :: st => k L (.int (lg_cmp x y) :: st) h | _ => False)
  | .i2l => (match st with | .int x :: st => k L (.long (x.toInt64) :: st) h | _ => False)
  | .l2i => (match st with | .long x :: st => k L (.int (x.toInt32) :: st) h | _ => False)
  | .i2b => (match st with | .int x :: st => k L (.int (x.toInt8.toInt32) :: st) h | _ => False)
  | .i2c => (match st with | .int x :: st => k L (.int ((x.toUInt32 % 65536).toInt32) :: st) h | _ => False)
  | .dup => (match st with | .int x :: st => k L (.int x :: .int x :: st) h | .ref x :: st => k L (.ref x :: .ref x :: st) h | _ => False)
  | .pop => (match st with | .int x :: st => k L st h | .ref x :: st => k L st h | _ => False)
  | .dup2 => (match st with | .int x :: .ref y :: st => k L (.int x :: .ref y :: .int x :: .ref y :: st) h | _ => False)
  | .aconst_null => k L (.null :: st) h
  | .goto o => X (tf_t pc o) L st h
  | .ifCond c o => (match st with | .int x :: st => tf_br c x 0 (X (tf_t pc o) L st h) (k L st h) | _ => False)
  | .if_icmp c o => (match st with | .int y :: .int x :: st => tf_br c x y (X (tf_t pc o) L st h) (k L st h) | _ => False)
  | .ifnull o => (match st with | .null :: st => X (tf_t pc o) L st h | .ref x :: st => k L st h | _ => False)
  | .tableswitch d lo hi os => (match st with | .int x :: st => ((x.toInt < lo ∨ hi < x.toInt) → X (tf_t pc d) L st h) ∧ tf_sw (fun o => X (tf_t pc o) L st h) x lo os.toList | _ => False)
  | .getfield j => (match F j, st with | some (ci, q), .ref x :: st => (tf_K x = ci ∧ x < nc) ∧ k L (tf_gv h x ci q :: st) h | _, _ => False)
  | .putfield j => (match F j, st with | some (ci, q), .int v :: .ref x :: st => (tf_K x = ci ∧ x < nc ∧ tf_S ci q = 0) ∧ k L st (tf_up h.1 x q v, h.2) | some (ci, q), .long v :: .ref x :: st => (tf_K x = ci ∧ x < nc ∧ tf_S ci q = 1) ∧ k L st (h.1, tf_upL h.2 x q v) | _, _ => False)
  | .iaload => (match st with | .int i :: .ref x :: st => (tf_K x = 8 ∧ x < nc ∧ vp_in i (tf_N x)) ∧ k L (.int (h.1 x i.toNatClampNeg) :: st) h | _ => False)
  | .caload => (match st with | .int i :: .ref x :: st => (tf_K x = 9 ∧ x < nc ∧ vp_in i (tf_N x)) ∧ k L (.int (h.1 x i.toNatClampNeg) :: st) h | _ => False)
  | .baload => (match st with | .int i :: .ref x :: st => ((tf_K x = 10 ∨ tf_K x = 11) ∧ x < nc ∧ vp_in i (tf_N x)) ∧ k L (.int (h.1 x i.toNatClampNeg) :: st) h | _ => False)
  | .laload => (match st with | .int i :: .ref x :: st => (tf_K x = 12 ∧ x < nc ∧ vp_in i (tf_N x)) ∧ k L (.long (h.2 x i.toNatClampNeg) :: st) h | _ => False)
  | .aaload => (match st with | .int i :: .ref x :: st => ((tf_K x = 13 ∨ tf_K x = 14) ∧ x < nc ∧ vp_in i (tf_N x)) ∧ k L (.ref (tf_R x i.toNatClampNeg) :: st) h | _ => False)
  | .iastore => (match st with | .int v :: .int i :: .ref x :: st => (tf_K x = 8 ∧ x < nc ∧ vp_in i (tf_N x)) ∧ k L st (tf_up h.1 x i.toNatClampNeg v, h.2) | _ => False)
  | .castore => (match st with | .int v :: .int i :: .ref x :: st => (tf_K x = 9 ∧ x < nc ∧ vp_in i (tf_N x)) ∧ k L st (tf_up h.1 x i.toNatClampNeg (vp_nar .char v), h.2) | _ => False)
  | .bastore => (match st with | .int v :: .int i :: .ref x :: st => (x < nc ∧ vp_in i (tf_N x)) ∧ ((tf_K x = 10 ∧ k L st (tf_up h.1 x i.toNatClampNeg (vp_nar .byte v), h.2)) ∨ (tf_K x = 11 ∧ k L st (tf_up h.1 x i.toNatClampNeg (vp_nar .boolean v), h.2))) | _ => False)
  | .lastore => (match st with | .long v :: .int i :: .ref x :: st => (tf_K x = 12 ∧ x < nc ∧ vp_in i (tf_N x)) ∧ k L st (h.1, tf_upL h.2 x i.toNatClampNeg v) | _ => False)
  | .invokevirtual j => (match M j with | some (kn, na, vd) => na ≤ st.length ∧ ((st.drop na).map Value.category).sum ≤ 8 ∧ C kn (st.take na).reverse h (fun r h => k L (if vd = true then st.drop na else r :: st.drop na) h) | none => False)
  | .invokestatic j => (match M (j + 100000) with | some (kn, na, vd) => na ≤ st.length ∧ ((st.drop na).map Value.category).sum ≤ 8 ∧ C kn (st.take na).reverse h (fun r h => k L (if vd = true then st.drop na else r :: st.drop na) h) | none => False)
  | .ireturn => (match st with | [.int v] => tf_rb rk v ∧ Q (.int v) h | _ => False)
  | .areturn => (match st with | [.ref v] => rk = 3 ∧ Q (.ref v) h | [.null] => rk = 3 ∧ Q .null h | _ => False)
  | .return_ => (match st with | [] => rk = 0 ∧ Q tf_z h | _ => False)
  | _ => False
/-- an instruction is as long as it says, its local is there, it jumps forward of 0 -/
def tf_ck (nL pc : Nat) (i : Instr) (n : Nat) : Bool := match i with
  | .iconst v => n == 1
  | .bipush v => n == 2
  | .sipush v => n == 3
  | .lconst v => n == 1
  | .ldc j => n == 2
  | .ldc_w j => n == 3
  | .ldc2_w j => n == 3
  | .iload_n i => n == 1
  | .iload i => n == 2
  | .lload_n i => n == 1
  | .aload_n i => n == 1
  | .aload i => n == 2
  | .istore_n i => n == 1 && decide ((i : Nat) < nL)
  | .istore i => n == 2 && decide (i < nL)
  | .astore_n i => n == 1 && decide ((i : Nat) < nL)
  | .astore i => n == 2 && decide (i < nL)
  | .lstore_n i => n == 1 && decide ((i : Nat) + 1 < nL)
  | .iinc i v => n == 3 && decide (i < nL)
  | .iadd => n == 1
  | .isub => n == 1
  | .imul => n == 1
  | .iand => n == 1
  | .ior => n == 1
  | .ishl => n == 1
  | .ishr => n == 1
  | .ineg => n == 1
  | .idiv => n == 1
  | .irem => n == 1
  | .lmul => n == 1
  | .land => n == 1
  | .lor => n == 1
  | .lshl => n == 1
  | .lshr => n == 1
  | .lushr => n == 1
  | .iushr => n == 1
  | .lcmp => n == 1
  | .i2l => n == 1
  | .l2i => n == 1
  | .i2b => n == 1
  | .i2c => n == 1
  | .dup => n == 1
  | .pop => n == 1
  | .dup2 => n == 1
  | .aconst_null => n == 1
  | .goto o => n == 3 && decide (0 ≤ (pc : Int) + o)
  | .ifCond c o => n == 3 && decide (0 ≤ (pc : Int) + o)
  | .if_icmp c o => n == 3 && decide (0 ≤ (pc : Int) + o)
  | .ifnull o => n == 3 && decide (0 ≤ (pc : Int) + o)
  | .tableswitch d lo hi os => decide (0 ≤ (pc : Int) + d) && os.toList.all (fun o => decide (0 ≤ (pc : Int) + o)) && decide (hi = lo + os.size - 1)
  | .getfield j => n == 3
  | .putfield j => n == 3
  | .iaload => n == 1
  | .caload => n == 1
  | .baload => n == 1
  | .laload => n == 1
  | .aaload => n == 1
  | .iastore => n == 1
  | .castore => n == 1
  | .bastore => n == 1
  | .lastore => n == 1
  | .invokevirtual j => n == 3 && decide (j < 100000)
  | .invokestatic j => n == 3 && decide (j < 100000)
  | .ireturn => n == 1
  | .areturn => n == 1
  | .return_ => n == 1
  | _ => true
theorem tf_tgt {pc : Nat} {o : Int} (h : 0 ≤ (pc : Int) + o) : (pc : Int) + o = ((tf_t pc o : Nat) : Int) := by
  unfold tf_t
  omega
theorem tf_sw_at {T : Int → Prop} {x : Int32} : ∀ {os : List Int} {lo : Int} {j : Nat} (_ : tf_sw T x lo os) (hj : j < os.length), x.toInt = lo + j → T os[j]
  | [], _, _, _, hj, _ => absurd hj (Nat.not_lt_zero _)
  | o :: r, lo, 0, h, _, e => h.1 (by simpa using e)
  | o :: r, lo, j + 1, h, hj, e => tf_sw_at (os := r) h.2 (by simpa using hj) (by rw [e]; simp; omega)
/-- where the machine stands: at pc, with these locals, this stack, this table -/
def tf_At (Wf : Heap → List Loc → JFrame → Prop) (m : MethodId) (H0 : Heap) (D : va_G) (cA : Nat → ClassId) (ad : Nat → Nat) (A : Nat → Prop) (nc nL pc : Nat) (L st : List Value) (h : LH) : Prop :=
  ∀ (H : Heap) (locs : List Loc) (ls : Array Slot), va_P D vwCl (tf_ws cA ad nc h) H → va_S A H0 H locs → tf_rel ad ls nL L → Wf H locs (F0 m pc ls (st.map (tf_tr ad)))
/-- what a field's place in the pool must be -/
def tf_Fok (own : String) (F : Nat → Option (Nat × Nat)) (Ts : List Jvm.Cond) : Prop := ∀ j ci q, F j = some (ci, q) → ∃ (C : String) (T : u_T) (N : Nat) (ty : Nat → FieldType), vwCl[ci]? = some (C, T, N) ∧ q < N ∧ N = tf_Wl ci ∧ ci < 8 ∧ Jvm.Cond.fieldLink own j (T q).1 (T q).2.1 (T q).2.2.1 ∈ Ts ∧ (∀ w ∈ u_ws C T N, w ∈ Ts) ∧ (∀ k, k < N → parseFieldDescriptor (T k).2.2.1 = some (ty k)) ∧ (∀ a, a < N → ∀ b, b < N → a ≠ b → (T a).2.1 ≠ (T b).2.1) ∧ (tf_S ci q = 0 → (T q).2.2.2 = false ∧ ty q = .int) ∧ (tf_S ci q = 1 → (T q).2.2.2 = false ∧ ty q = .long)
section TFS
variable {p : Program} {l : Launch} {e : Env} {R : Room} {s : State} {m : MethodId} {args : Array Value} {below : List Frame} {meth : Method} {c : Code} {cells slots : Nat} {QW : State → Prop}
variable {cc : ByteArray} {D : va_G} {cA : Nat → ClassId} {ad : Nat → Nat} {A : Nat → Prop} {nc nL : Nat} {own : String} {Ts : List Jvm.Cond}
variable {C : tf_C} {F : Nat → Option (Nat × Nat)} {M : Nat → Option (Nat × Nat × Bool)} {I : Nat → Option Value} {rk : Nat} {Q : tf_Q} {X : tf_X} {k : tf_Kt}

set_option maxHeartbeats 4000000 in
theorem tf_st_ok (hx : p.tables.exec = Jvm.exec) (hb : c.code = cc) (hown : s.vm.findClass own = some m.cls) (hts : ∀ w ∈ Ts, w.before args s = true) (hK : va_K D vwCl (tf_ty cA) s) (hj : tf_inj ad nc) (hA : ∀ d, d < nc → A (ad d))
    (hF : tf_Fok own F Ts) (hI : ∀ j v, I j = some (.int v) → (Jvm.Cond.constant own j v).before args s = true) (hJ : ∀ j v, I j = some (.long v) → (Jvm.Cond.constantLong own j v).before args s = true)
    (hC : ∀ (pc : Nat) (i : Instr) (j j2 kn na : Nat) (vd : Bool) (L st : List Value) (h : LH) (K : tf_Q), j < 100000 → ((i = .invokevirtual j ∧ j2 = j) ∨ (i = .invokestatic j ∧ j2 = j + 100000)) → decode cc pc = .ok (i, 3) → M j2 = some (kn, na, vd) → na ≤ st.length → ((st.drop na).map Value.category).sum ≤ 8 → C kn (st.take na).reverse h K → (∀ r h, K r h → tf_At (fun H locs g => W p l e R s m args below meth c H locs cells slots QW g) m s.heap D cA ad A nc nL (pc + 3) L (if vd = true then st.drop na else r :: st.drop na) h) → tf_At (fun H locs g => W p l e R s m args below meth c H locs cells slots QW g) m s.heap D cA ad A nc nL pc L st h)
    (hR1 : ∀ (v : Int32) (h : LH) (pc : Nat) (L : List Value), decode cc pc = .ok (.ireturn, 1) → (tf_rb rk v ∧ Q (.int v) h) → tf_At (fun H locs g => W p l e R s m args below meth c H locs cells slots QW g) m s.heap D cA ad A nc nL pc L [.int v] h)
    (hR0 : ∀ (h : LH) (pc : Nat) (L : List Value), decode cc pc = .ok (.return_, 1) → (rk = 0 ∧ Q tf_z h) → tf_At (fun H locs g => W p l e R s m args below meth c H locs cells slots QW g) m s.heap D cA ad A nc nL pc L [] h)
    (hRa : ∀ (v : Value) (h : LH) (pc : Nat) (L : List Value), decode cc pc = .ok (.areturn, 1) → (v = .null ∨ ∃ a, v = .ref a) → (rk = 3 ∧ Q v h) → tf_At (fun H locs g => W p l e R s m args below meth c H locs cells slots QW g) m s.heap D cA ad A nc nL pc L [v] h)
    {pc n : Nat} {i : Instr} {L st : List Value} {h : LH} (hd : decode cc pc = .ok (i, n)) (hck : tf_ck nL pc i n = true)
    (hst : tf_st nc C F M I rk Q X pc i L st h k) (hk : ∀ L st h, k L st h → tf_At (fun H locs g => W p l e R s m args below meth c H locs cells slots QW g) m s.heap D cA ad A nc nL (pc + n) L st h)
    (hX : ∀ pc L st h, X pc L st h → tf_At (fun H locs g => W p l e R s m args below meth c H locs cells slots QW g) m s.heap D cA ad A nc nL pc L st h) : tf_At (fun H locs g => W p l e R s m args below meth c H locs cells slots QW g) m s.heap D cA ad A nc nL pc L st h := by
  cases i <;> try exact False.elim hst
  case iconst v =>
    simp only [tf_ck, beq_iff_eq] at hck
    subst hck
    simp only [tf_st] at hst
    intro H locs ls hP hS hL
    exact lv_iconst hx hb hd rfl (hk _ _ _ hst H locs ls hP hS hL)
  case bipush v =>
    simp only [tf_ck, beq_iff_eq] at hck
    subst hck
    simp only [tf_st] at hst
    intro H locs ls hP hS hL
    exact lv_bipush hx hb hd rfl (hk _ _ _ hst H locs ls hP hS hL)
  case sipush v =>
    simp only [tf_ck, beq_iff_eq] at hck
    subst hck
    simp only [tf_st] at hst
    intro H locs ls hP hS hL
    exact lv_sipush hx hb hd rfl (hk _ _ _ hst H locs ls hP hS hL)
  case lconst v =>
    simp only [tf_ck, beq_iff_eq] at hck
    subst hck
    simp only [tf_st] at hst
    intro H locs ls hP hS hL
    exact lv_lconst hx hb hd rfl (hk _ _ _ hst H locs ls hP hS hL)
  case ldc j =>
    simp only [tf_ck, beq_iff_eq] at hck
    subst hck
    simp only [tf_st] at hst
    split at hst
    · rename_i x he
      intro H locs ls hP hS hL
      exact lv_ldc hx hb hown (hI _ _ he) hd (hk _ _ _ hst H locs ls hP hS hL)
    · exact hst.elim
  case ldc_w j =>
    simp only [tf_ck, beq_iff_eq] at hck
    subst hck
    simp only [tf_st] at hst
    split at hst
    · rename_i x he
      intro H locs ls hP hS hL
      exact lv_ldcw hx hb hown (hI _ _ he) hd (hk _ _ _ hst H locs ls hP hS hL)
    · exact hst.elim
  case ldc2_w j =>
    simp only [tf_ck, beq_iff_eq] at hck
    subst hck
    simp only [tf_st] at hst
    split at hst
    · rename_i x he
      intro H locs ls hP hS hL
      exact lv_ldc2 hx hb hown (hJ _ _ he) hd (hk _ _ _ hst H locs ls hP hS hL)
    · exact hst.elim
  case iload_n i =>
    simp only [tf_ck, beq_iff_eq] at hck
    subst hck
    simp only [tf_st] at hst
    split at hst
    · rename_i x he
      intro H locs ls hP hS hL
      exact lv_iload_n hx hb hd rfl (by simpa [tf_tr] using hL.2.2.2 _ _ he (by simp [tf_z])) (hk _ _ _ hst H locs ls hP hS hL)
    · exact hst.elim
  case iload i =>
    simp only [tf_ck, beq_iff_eq] at hck
    subst hck
    simp only [tf_st] at hst
    split at hst
    · rename_i x he
      intro H locs ls hP hS hL
      exact lv_iload hx hb hd (by simpa [tf_tr] using hL.2.2.2 _ _ he (by simp [tf_z])) (hk _ _ _ hst H locs ls hP hS hL)
    · exact hst.elim
  case lload_n i =>
    simp only [tf_ck, beq_iff_eq] at hck
    subst hck
    simp only [tf_st] at hst
    split at hst
    · rename_i x he
      intro H locs ls hP hS hL
      exact lv_lload_n hx hb hd rfl (by simpa [tf_tr] using hL.2.2.2 _ _ he (by simp [tf_z])) (hk _ _ _ hst H locs ls hP hS hL)
    · exact hst.elim
  case aload_n i =>
    simp only [tf_ck, beq_iff_eq] at hck
    subst hck
    simp only [tf_st] at hst
    split at hst
    · rename_i x he
      intro H locs ls hP hS hL
      exact lv_aload_n hx hb hd rfl (by simpa [tf_tr] using hL.2.2.2 _ _ he (by simp [tf_z])) (hk _ _ _ hst H locs ls hP hS hL)
    · rename_i he
      intro H locs ls hP hS hL
      exact lv_aload_nN hx hb hd rfl (by simpa [tf_tr] using hL.2.2.2 _ _ he (by simp [tf_z])) (hk _ _ _ hst H locs ls hP hS hL)
    · exact hst.elim
  case aload i =>
    simp only [tf_ck, beq_iff_eq] at hck
    subst hck
    simp only [tf_st] at hst
    split at hst
    · rename_i x he
      intro H locs ls hP hS hL
      exact lv_aload hx hb hd (by simpa [tf_tr] using hL.2.2.2 _ _ he (by simp [tf_z])) (hk _ _ _ hst H locs ls hP hS hL)
    · rename_i he
      intro H locs ls hP hS hL
      exact lv_aloadN hx hb hd (by simpa [tf_tr] using hL.2.2.2 _ _ he (by simp [tf_z])) (hk _ _ _ hst H locs ls hP hS hL)
    · exact hst.elim
  case istore_n i =>
    simp only [tf_ck, Bool.and_eq_true, beq_iff_eq, decide_eq_true_eq] at hck
    obtain ⟨rfl, hn⟩ := hck
    simp only [tf_st] at hst
    split at hst
    · intro H locs ls hP hS hL
      exact lv_istore_n hx hb hd rfl (tf_rel_has hL) hn rfl (fun ls' hl' => hk _ _ _ hst H locs ls' hP hS (tf_rel_s1 hL.2.2.1 hl'))
    · exact hst.elim
  case istore i =>
    simp only [tf_ck, Bool.and_eq_true, beq_iff_eq, decide_eq_true_eq] at hck
    obtain ⟨rfl, hn⟩ := hck
    simp only [tf_st] at hst
    split at hst
    · intro H locs ls hP hS hL
      exact lv_istore hx hb hd (tf_rel_has hL) hn rfl (fun ls' hl' => hk _ _ _ hst H locs ls' hP hS (tf_rel_s1 hL.2.2.1 hl'))
    · exact hst.elim
  case astore_n i =>
    simp only [tf_ck, Bool.and_eq_true, beq_iff_eq, decide_eq_true_eq] at hck
    obtain ⟨rfl, hn⟩ := hck
    simp only [tf_st] at hst
    split at hst
    · intro H locs ls hP hS hL
      exact lv_astore_n hx hb hd rfl (tf_rel_has hL) hn rfl (fun ls' hl' => hk _ _ _ hst H locs ls' hP hS (tf_rel_s1 hL.2.2.1 hl'))
    · exact hst.elim
  case astore i =>
    simp only [tf_ck, Bool.and_eq_true, beq_iff_eq, decide_eq_true_eq] at hck
    obtain ⟨rfl, hn⟩ := hck
    simp only [tf_st] at hst
    split at hst
    · intro H locs ls hP hS hL
      exact lv_astore hx hb hd (tf_rel_has hL) hn rfl (fun ls' hl' => hk _ _ _ hst H locs ls' hP hS (tf_rel_s1 hL.2.2.1 hl'))
    · exact hst.elim
  case lstore_n i =>
    simp only [tf_ck, Bool.and_eq_true, beq_iff_eq, decide_eq_true_eq] at hck
    obtain ⟨rfl, hn⟩ := hck
    simp only [tf_st] at hst
    split at hst
    · intro H locs ls hP hS hL
      exact lv_lstore_n hx hb hd rfl (tf_rel_has hL) hn rfl (fun ls' hl' => hk _ _ _ hst H locs ls' hP hS (tf_rel_s2 hL.2.2.1 hl'))
    · exact hst.elim
  case iinc i v =>
    simp only [tf_ck, Bool.and_eq_true, beq_iff_eq, decide_eq_true_eq] at hck
    obtain ⟨rfl, hn⟩ := hck
    simp only [tf_st] at hst
    split at hst
    · rename_i x he
      intro H locs ls hP hS hL
      have hm : (i, tf_tr ad (.int x)) ∈ tf_prs ad 0 L := (tf_prs_mem L 0 _).mpr ⟨i, _, he, by simp [tf_z], by simp⟩
      obtain ⟨q, hq⟩ := List.getElem?_of_mem hm
      exact lv_iinc hx hb hd (tf_rel_has hL) (k := q) hq rfl hn rfl (fun ls' hl' => hk _ _ _ hst H locs ls' hP hS (tf_rel_s1 (v := .int _) hL.2.2.1 hl'))
    · exact hst.elim
  case iadd =>
    simp only [tf_ck, beq_iff_eq] at hck
    subst hck
    simp only [tf_st] at hst
    split at hst
    · intro H locs ls hP hS hL
      exact lv_iadd hx hb hd (hk _ _ _ hst H locs ls hP hS hL)
    · exact hst.elim
  case isub =>
    simp only [tf_ck, beq_iff_eq] at hck
    subst hck
    simp only [tf_st] at hst
    split at hst
    · intro H locs ls hP hS hL
      exact lv_isub hx hb hd (hk _ _ _ hst H locs ls hP hS hL)
    · exact hst.elim
  case imul =>
    simp only [tf_ck, beq_iff_eq] at hck
    subst hck
    simp only [tf_st] at hst
    split at hst
    · intro H locs ls hP hS hL
      exact lv_imul hx hb hd (hk _ _ _ hst H locs ls hP hS hL)
    · exact hst.elim
  case iand =>
    simp only [tf_ck, beq_iff_eq] at hck
    subst hck
    simp only [tf_st] at hst
    split at hst
    · intro H locs ls hP hS hL
      exact lv_iand hx hb hd (hk _ _ _ hst H locs ls hP hS hL)
    · exact hst.elim
  case ior =>
    simp only [tf_ck, beq_iff_eq] at hck
    subst hck
    simp only [tf_st] at hst
    split at hst
    · intro H locs ls hP hS hL
      exact lv_ior hx hb hd (hk _ _ _ hst H locs ls hP hS hL)
    · exact hst.elim
  case ishl =>
    simp only [tf_ck, beq_iff_eq] at hck
    subst hck
    simp only [tf_st] at hst
    split at hst
    · intro H locs ls hP hS hL
      exact lv_ishl hx hb hd (hk _ _ _ hst H locs ls hP hS hL)
    · exact hst.elim
  case ishr =>
    simp only [tf_ck, beq_iff_eq] at hck
    subst hck
    simp only [tf_st] at hst
    split at hst
    · intro H locs ls hP hS hL
      exact lv_ishr hx hb hd (hk _ _ _ hst H locs ls hP hS hL)
    · exact hst.elim
  case ineg =>
    simp only [tf_ck, beq_iff_eq] at hck
    subst hck
    simp only [tf_st] at hst
    split at hst
    · intro H locs ls hP hS hL
      exact lv_ineg hx hb hd (hk _ _ _ hst H locs ls hP hS hL)
    · exact hst.elim
  case idiv =>
    simp only [tf_ck, beq_iff_eq] at hck
    subst hck
    simp only [tf_st] at hst
    split at hst
    · intro H locs ls hP hS hL
      exact lv_idiv hx hb hd hst.1 (hk _ _ _ hst.2 H locs ls hP hS hL)
    · exact hst.elim
  case irem =>
    simp only [tf_ck, beq_iff_eq] at hck
    subst hck
    simp only [tf_st] at hst
    split at hst
    · intro H locs ls hP hS hL
      exact lv_irem hx hb hd hst.1 (hk _ _ _ hst.2 H locs ls hP hS hL)
    · exact hst.elim
  case lmul =>
    simp only [tf_ck, beq_iff_eq] at hck
    subst hck
    simp only [tf_st] at hst
    split at hst
    · intro H locs ls hP hS hL
      exact lv_lmul hx hb hd (hk _ _ _ hst H locs ls hP hS hL)
    · exact hst.elim
  case land =>
    simp only [tf_ck, beq_iff_eq] at hck
    subst hck
    simp only [tf_st] at hst
    split at hst
    · intro H locs ls hP hS hL
      exact lv_land hx hb hd (hk _ _ _ hst H locs ls hP hS hL)
    · exact hst.elim
  case lor =>
    simp only [tf_ck, beq_iff_eq] at hck
    subst hck
    simp only [tf_st] at hst
    split at hst
    · intro H locs ls hP hS hL
      exact lv_lor hx hb hd (hk _ _ _ hst H locs ls hP hS hL)
    · exact hst.elim
  case lshl =>
    simp only [tf_ck, beq_iff_eq] at hck
    subst hck
    simp only [tf_st] at hst
    split at hst
    · intro H locs ls hP hS hL
      exact lv_lshl hx hb hd rfl (hk _ _ _ hst H locs ls hP hS hL)
    · exact hst.elim
  case lshr =>
    simp only [tf_ck, beq_iff_eq] at hck
    subst hck
    simp only [tf_st] at hst
    split at hst
    · intro H locs ls hP hS hL
      exact lv_lshr hx hb hd rfl (hk _ _ _ hst H locs ls hP hS hL)
    · exact hst.elim
  case lushr =>
    simp only [tf_ck, beq_iff_eq] at hck
    subst hck
    simp only [tf_st] at hst
    split at hst
    · intro H locs ls hP hS hL
      exact lv_lushr hx hb hd rfl (hk _ _ _ hst H locs ls hP hS hL)
    · exact hst.elim
  case iushr =>
    simp only [tf_ck, beq_iff_eq] at hck
    subst hck
    simp only [tf_st] at hst
    split at hst
    · intro H locs ls hP hS hL
      exact lv_iushr hx hb hd rfl (hk _ _ _ hst H locs ls hP hS hL)
    · exact hst.elim
  case lcmp =>
    simp only [tf_ck, beq_iff_eq] at hck
    subst hck
    simp only [tf_st] at hst
    split at hst
    · intro H locs ls hP hS hL
      exact W.lcmp hx hb hd (hk _ _ _ hst H locs ls hP hS hL)
    · exact hst.elim
  case i2l =>
    simp only [tf_ck, beq_iff_eq] at hck
    subst hck
    simp only [tf_st] at hst
    split at hst
    · intro H locs ls hP hS hL
      exact lv_i2l hx hb hd rfl (hk _ _ _ hst H locs ls hP hS hL)
    · exact hst.elim
  case l2i =>
    simp only [tf_ck, beq_iff_eq] at hck
    subst hck
    simp only [tf_st] at hst
    split at hst
    · intro H locs ls hP hS hL
      exact lv_l2i hx hb hd rfl (hk _ _ _ hst H locs ls hP hS hL)
    · exact hst.elim
  case i2b =>
    simp only [tf_ck, beq_iff_eq] at hck
    subst hck
    simp only [tf_st] at hst
    split at hst
    · intro H locs ls hP hS hL
      exact lv_i2b hx hb hd rfl (hk _ _ _ hst H locs ls hP hS hL)
    · exact hst.elim
  case i2c =>
    simp only [tf_ck, beq_iff_eq] at hck
    subst hck
    simp only [tf_st] at hst
    split at hst
    · intro H locs ls hP hS hL
      exact lv_i2c hx hb hd rfl (hk _ _ _ hst H locs ls hP hS hL)
    · exact hst.elim
  case dup =>
    simp only [tf_ck, beq_iff_eq] at hck
    subst hck
    simp only [tf_st] at hst
    split at hst
    · intro H locs ls hP hS hL
      exact lv_dup hx hb hd rfl (hk _ _ _ hst H locs ls hP hS hL)
    · intro H locs ls hP hS hL
      exact lv_dup hx hb hd rfl (hk _ _ _ hst H locs ls hP hS hL)
    · exact hst.elim
  case pop =>
    simp only [tf_ck, beq_iff_eq] at hck
    subst hck
    simp only [tf_st] at hst
    split at hst
    · intro H locs ls hP hS hL
      exact lv_pop hx hb hd rfl (hk _ _ _ hst H locs ls hP hS hL)
    · intro H locs ls hP hS hL
      exact lv_pop hx hb hd rfl (hk _ _ _ hst H locs ls hP hS hL)
    · exact hst.elim
  case dup2 =>
    simp only [tf_ck, beq_iff_eq] at hck
    subst hck
    simp only [tf_st] at hst
    split at hst
    · intro H locs ls hP hS hL
      exact lv_dup2_11 hx hb hd rfl rfl (hk _ _ _ hst H locs ls hP hS hL)
    · exact hst.elim
  case aconst_null =>
    simp only [tf_ck, beq_iff_eq] at hck
    subst hck
    simp only [tf_st] at hst
    intro H locs ls hP hS hL
    exact lv_null hx hb hd (hk _ _ _ hst H locs ls hP hS hL)
  case goto o =>
    simp only [tf_ck, Bool.and_eq_true, beq_iff_eq, decide_eq_true_eq] at hck
    obtain ⟨rfl, hn⟩ := hck
    simp only [tf_st] at hst
    intro H locs ls hP hS hL
    exact lv_goto hx hb hd (tf_tgt hn) (hX _ _ _ _ hst H locs ls hP hS hL)
  case ifCond c9 o =>
    simp only [tf_ck, Bool.and_eq_true, beq_iff_eq, decide_eq_true_eq] at hck
    obtain ⟨rfl, hn⟩ := hck
    simp only [tf_st] at hst
    split at hst
    · intro H locs ls hP hS hL
      cases c9 <;> simp only [tf_br] at hst
      case eq => exact lv_if_eq hx hb hd (tf_tgt hn) (fun q => hX _ _ _ _ (hst.1 q) H locs ls hP hS hL) (fun q => hk _ _ _ (hst.2 q) H locs ls hP hS hL)
      case ne => exact lv_if_ne hx hb hd (tf_tgt hn) (fun q => hX _ _ _ _ (hst.2 q) H locs ls hP hS hL) (fun q => hk _ _ _ (hst.1 q) H locs ls hP hS hL)
      case lt => exact lv_if_lt hx hb hd (tf_tgt hn) (fun q => hX _ _ _ _ (hst.1 q) H locs ls hP hS hL) (fun q => hk _ _ _ (hst.2 q) H locs ls hP hS hL)
      case ge => exact lv_if_ge hx hb hd (tf_tgt hn) (fun q => hX _ _ _ _ (hst.1 q) H locs ls hP hS hL) (fun q => hk _ _ _ (hst.2 q) H locs ls hP hS hL)
      case gt => exact lv_if_gt hx hb hd (tf_tgt hn) (fun q => hX _ _ _ _ (hst.1 q) H locs ls hP hS hL) (fun q => hk _ _ _ (hst.2 q) H locs ls hP hS hL)
      case le => exact lv_if_le hx hb hd (tf_tgt hn) (fun q => hX _ _ _ _ (hst.1 q) H locs ls hP hS hL) (fun q => hk _ _ _ (hst.2 q) H locs ls hP hS hL)
    · exact hst.elim
  case if_icmp c9 o =>
    simp only [tf_ck, Bool.and_eq_true, beq_iff_eq, decide_eq_true_eq] at hck
    obtain ⟨rfl, hn⟩ := hck
    simp only [tf_st] at hst
    split at hst
    · intro H locs ls hP hS hL
      cases c9 <;> simp only [tf_br] at hst
      case eq => exact lv_icmp_eq hx hb hd (tf_tgt hn) (fun q => hX _ _ _ _ (hst.1 q) H locs ls hP hS hL) (fun q => hk _ _ _ (hst.2 q) H locs ls hP hS hL)
      case ne => exact lv_icmp_ne hx hb hd (tf_tgt hn) (fun q => hX _ _ _ _ (hst.2 q) H locs ls hP hS hL) (fun q => hk _ _ _ (hst.1 q) H locs ls hP hS hL)
      case lt => exact lv_icmp_lt hx hb hd (tf_tgt hn) (fun q => hX _ _ _ _ (hst.1 q) H locs ls hP hS hL) (fun q => hk _ _ _ (hst.2 q) H locs ls hP hS hL)
      case ge => exact lv_icmp_ge hx hb hd (tf_tgt hn) (fun q => hX _ _ _ _ (hst.1 q) H locs ls hP hS hL) (fun q => hk _ _ _ (hst.2 q) H locs ls hP hS hL)
      case gt => exact lv_icmp_gt hx hb hd (tf_tgt hn) (fun q => hX _ _ _ _ (hst.1 q) H locs ls hP hS hL) (fun q => hk _ _ _ (hst.2 q) H locs ls hP hS hL)
      case le => exact lv_icmp_le hx hb hd (tf_tgt hn) (fun q => hX _ _ _ _ (hst.1 q) H locs ls hP hS hL) (fun q => hk _ _ _ (hst.2 q) H locs ls hP hS hL)
    · exact hst.elim
  case ifnull o =>
    simp only [tf_ck, Bool.and_eq_true, beq_iff_eq, decide_eq_true_eq] at hck
    obtain ⟨rfl, hn⟩ := hck
    simp only [tf_st] at hst
    split at hst
    · intro H locs ls hP hS hL
      exact lv_ifnullN hx hb hd (tf_tgt hn) (hX _ _ _ _ hst H locs ls hP hS hL)
    · intro H locs ls hP hS hL
      exact lv_ifnull hx hb hd (hk _ _ _ hst H locs ls hP hS hL)
    · exact hst.elim
  case tableswitch d lo hi os =>
    simp only [tf_st] at hst
    simp only [tf_ck, Bool.and_eq_true, decide_eq_true_eq, List.all_eq_true] at hck
    obtain ⟨⟨hn, hos⟩, hhi⟩ := hck
    split at hst
    · rename_i x st'
      intro H locs ls hP hS hL
      by_cases hout : x.toInt < lo ∨ hi < x.toInt
      · exact lv_tableOut hx hb hd hout (tf_tgt hn) (hX _ _ _ _ (hst.1 hout) H locs ls hP hS hL)
      · have h1 : ¬ x.toInt < lo := fun q => hout (Or.inl q)
        have h2 : ¬ hi < x.toInt := fun q => hout (Or.inr q)
        have hlt : (x.toInt - lo).toNat < os.toList.length := by rw [Array.length_toList]; omega
        have hget : os[(x.toInt - lo).toNat]? = some (os.toList[(x.toInt - lo).toNat]) := by rw [← Array.getElem?_toList]; exact List.getElem?_eq_getElem hlt
        have hsw := tf_sw_at (j := (x.toInt - lo).toNat) hst.2 hlt (by omega)
        exact lv_tableIn hx hb hd h1 h2 hget (tf_tgt (hos _ (List.getElem_mem hlt))) (hX _ _ _ _ hsw H locs ls hP hS hL)
    · exact hst.elim
  case getfield j =>
    simp only [tf_ck, beq_iff_eq] at hck
    subst hck
    simp only [tf_st] at hst
    split at hst
    · rename_i ci q x st' hf
      obtain ⟨⟨hkx, hxn⟩, hst⟩ := hst
      obtain ⟨CC, T, N, ty, h1, h2, h3, h4, h5, h6, h7, h8, h9, h10⟩ := hF _ _ _ hf
      intro H locs ls hP hS hL
      have hwe : (tf_ws cA ad nc h)[x]? = some (ad x, .inr (ci, (List.range (tf_Wl ci)).map (tf_fv ad h x))) := by rw [tf_ws_get hxn, tf_E, hkx, if_pos h4]
      refine va_get (D := D) (C := CC) (T := T) (N := N) hx hb hts h6 hown hK hP x hwe h1 q h2 (hts _ h5) (fun _ h => h) (v := tf_tr ad (tf_gv h x ci q)) ?_ hd (hk _ _ _ hst H locs ls hP hS hL)
      rw [List.getElem?_map, List.getElem?_range (by omega)]
      simp only [Option.map_some, tf_fv, tf_gv, hkx]
      split
      · rfl
      · split <;> rfl
    · exact hst.elim
  case putfield j =>
    simp only [tf_ck, beq_iff_eq] at hck
    subst hck
    simp only [tf_st] at hst
    split at hst
    · rename_i ci q v x st' hf
      obtain ⟨⟨hkx, hxn, hs0⟩, hst⟩ := hst
      obtain ⟨CC, T, N, ty, h1, h2, h3, h4, h5, h6, h7, h8, h9, h10⟩ := hF _ _ _ hf
      intro H locs ls hP hS hL
      have hwe : (tf_ws cA ad nc h)[x]? = some (ad x, .inr (ci, (List.range (tf_Wl ci)).map (tf_fv ad h x))) := by rw [tf_ws_get hxn, tf_E, hkx, if_pos h4]
      have hset : (tf_ws cA ad nc h).set x (ad x, .inr (ci, ((List.range (tf_Wl ci)).map (tf_fv ad h x)).set q (.int v))) = tf_ws cA ad nc (tf_up h.1 x q v, h.2) := by
        refine tf_ws_set ?_ (fun d hd => tf_E_up hd)
        have := tf_put_i (cA := cA) (ad := ad) (h := h) (c := x) (k := q) (v := v) (by rw [hkx]; exact h4) (by rw [hkx]; exact hs0)
        rw [hkx] at this
        exact this
      refine va_put (D := D) (v := .int v) (ty := .int) (C := CC) (T := T) (N := N) hx hb hts h6 ty h7 h8 hown hK hP (tf_ws_D hj hA) hS x hwe h1 q h2 (hts _ h5) (fun _ h => h) (h9 hs0).1 (by rw [h7 q h2, (h9 hs0).2]) rfl rfl (by simp; omega) hd (fun H1 locs1 hP1 hD1 hS1 => ?_)
      rw [hset] at hP1
      exact hk _ _ _ hst H1 locs1 ls hP1 hS1 hL
    · rename_i ci q v x st' hf
      obtain ⟨⟨hkx, hxn, hs0⟩, hst⟩ := hst
      obtain ⟨CC, T, N, ty, h1, h2, h3, h4, h5, h6, h7, h8, h9, h10⟩ := hF _ _ _ hf
      intro H locs ls hP hS hL
      have hwe : (tf_ws cA ad nc h)[x]? = some (ad x, .inr (ci, (List.range (tf_Wl ci)).map (tf_fv ad h x))) := by rw [tf_ws_get hxn, tf_E, hkx, if_pos h4]
      have hset : (tf_ws cA ad nc h).set x (ad x, .inr (ci, ((List.range (tf_Wl ci)).map (tf_fv ad h x)).set q (.long v))) = tf_ws cA ad nc (h.1, tf_upL h.2 x q v) := by
        refine tf_ws_set ?_ (fun d hd => tf_E_upL hd)
        have := tf_put_l (cA := cA) (ad := ad) (h := h) (c := x) (k := q) (v := v) (by rw [hkx]; exact h4) (by rw [hkx]; exact hs0)
        rw [hkx] at this
        exact this
      refine va_put (D := D) (v := .long v) (ty := .long) (C := CC) (T := T) (N := N) hx hb hts h6 ty h7 h8 hown hK hP (tf_ws_D hj hA) hS x hwe h1 q h2 (hts _ h5) (fun _ h => h) (h10 hs0).1 (by rw [h7 q h2, (h10 hs0).2]) rfl rfl (by simp; omega) hd (fun H1 locs1 hP1 hD1 hS1 => ?_)
      rw [hset] at hP1
      exact hk _ _ _ hst H1 locs1 ls hP1 hS1 hL
    · exact hst.elim
  case iaload =>
    simp only [tf_ck, beq_iff_eq] at hck
    subst hck
    simp only [tf_st] at hst
    split at hst
    · rename_i i x st'
      obtain ⟨⟨hkx, hxn, hin⟩, hst⟩ := hst
      intro H locs ls hP hS hL
      exact va_iald hx hb hK hP x 0 (n := tf_N x) (f := h.1 x) (cA := cA 8) (by rw [tf_ws_get hxn, tf_E, hkx]; rfl) rfl hin hd (hk _ _ _ hst H locs ls hP hS hL)
    · exact hst.elim
  case caload =>
    simp only [tf_ck, beq_iff_eq] at hck
    subst hck
    simp only [tf_st] at hst
    split at hst
    · rename_i i x st'
      obtain ⟨⟨hkx, hxn, hin⟩, hst⟩ := hst
      intro H locs ls hP hS hL
      exact va_cald hx hb hK hP x 1 (n := tf_N x) (f := h.1 x) (cA := cA 9) (by rw [tf_ws_get hxn, tf_E, hkx]; rfl) rfl hin hd (hk _ _ _ hst H locs ls hP hS hL)
    · exact hst.elim
  case baload =>
    simp only [tf_ck, beq_iff_eq] at hck
    subst hck
    simp only [tf_st] at hst
    split at hst
    · rename_i i x st'
      obtain ⟨⟨hkx, hxn, hin⟩, hst⟩ := hst
      intro H locs ls hP hS hL
      rcases hkx with hkx | hkx
      · exact va_bald hx hb hK hP x 2 (n := tf_N x) (f := h.1 x) (cA := cA 10) (by rw [tf_ws_get hxn, tf_E, hkx]; rfl) rfl hin hd (hk _ _ _ hst H locs ls hP hS hL)
      · exact va_zald hx hb hK hP x 3 (n := tf_N x) (f := h.1 x) (cA := cA 11) (by rw [tf_ws_get hxn, tf_E, hkx]; rfl) rfl hin hd (hk _ _ _ hst H locs ls hP hS hL)
    · exact hst.elim
  case laload =>
    simp only [tf_ck, beq_iff_eq] at hck
    subst hck
    simp only [tf_st] at hst
    split at hst
    · rename_i i x st'
      obtain ⟨⟨hkx, hxn, hin⟩, hst⟩ := hst
      intro H locs ls hP hS hL
      exact va_lald hx hb hK hP x 4 (n := tf_N x) (f := h.2 x) (cA := cA 12) (by rw [tf_ws_get hxn, tf_E, hkx]; rfl) rfl hin hd (hk _ _ _ hst H locs ls hP hS hL)
    · exact hst.elim
  case aaload =>
    simp only [tf_ck, beq_iff_eq] at hck
    subst hck
    simp only [tf_st] at hst
    split at hst
    · rename_i i x st'
      obtain ⟨⟨hkx, hxn, hin⟩, hst⟩ := hst
      intro H locs ls hP hS hL
      rcases hkx with hkx | hkx
      · exact va_aldq hx hb hK hP x 5 (n := tf_N x) (f := fun i => some (ad (tf_R x i))) (cA := cA 13) (by rw [tf_ws_get hxn, tf_E, hkx]; rfl) rfl hin hd (hk _ _ _ hst H locs ls hP hS hL)
      · exact va_aldq hx hb hK hP x 6 (n := tf_N x) (f := fun i => some (ad (tf_R x i))) (cA := cA 14) (by rw [tf_ws_get hxn, tf_E, hkx]; rfl) rfl hin hd (hk _ _ _ hst H locs ls hP hS hL)
    · exact hst.elim
  case iastore =>
    simp only [tf_ck, beq_iff_eq] at hck
    subst hck
    simp only [tf_st] at hst
    split at hst
    · rename_i v i x st'
      obtain ⟨⟨hkx, hxn, hin⟩, hst⟩ := hst
      intro H locs ls hP hS hL
      refine va_iast hx hb hK hP (tf_ws_D hj hA) hS x 0 (n := tf_N x) (f := h.1 x) (cA := cA 8) (by rw [tf_ws_get hxn, tf_E, hkx]; rfl) rfl hin hd (fun H1 locs1 hP1 hD1 hS1 => hk _ _ _ hst H1 locs1 ls ?_ hS1 hL)
      rw [tf_ws_set (h' := (tf_up h.1 x i.toNatClampNeg _, h.2)) (by rw [tf_E, hkx]; simp [tf_up]; rfl) (fun d hd => tf_E_up hd)] at hP1
      exact hP1
    · exact hst.elim
  case castore =>
    simp only [tf_ck, beq_iff_eq] at hck
    subst hck
    simp only [tf_st] at hst
    split at hst
    · rename_i v i x st'
      obtain ⟨⟨hkx, hxn, hin⟩, hst⟩ := hst
      intro H locs ls hP hS hL
      refine va_cast hx hb hK hP (tf_ws_D hj hA) hS x 1 (n := tf_N x) (f := h.1 x) (cA := cA 9) (by rw [tf_ws_get hxn, tf_E, hkx]; rfl) rfl hin hd (fun H1 locs1 hP1 hD1 hS1 => hk _ _ _ hst H1 locs1 ls ?_ hS1 hL)
      rw [tf_ws_set (h' := (tf_up h.1 x i.toNatClampNeg _, h.2)) (by rw [tf_E, hkx]; simp [tf_up]; rfl) (fun d hd => tf_E_up hd)] at hP1
      exact hP1
    · exact hst.elim
  case bastore =>
    simp only [tf_ck, beq_iff_eq] at hck
    subst hck
    simp only [tf_st] at hst
    split at hst
    · rename_i v i x st'
      obtain ⟨⟨hxn, hin⟩, ⟨hkx, hst⟩ | ⟨hkx, hst⟩⟩ := hst
      · intro H locs ls hP hS hL
        refine va_bast hx hb hK hP (tf_ws_D hj hA) hS x 2 (n := tf_N x) (f := h.1 x) (cA := cA 10) (by rw [tf_ws_get hxn, tf_E, hkx]; rfl) rfl hin hd (fun H1 locs1 hP1 hD1 hS1 => hk _ _ _ hst H1 locs1 ls ?_ hS1 hL)
        rw [tf_ws_set (h' := (tf_up h.1 x i.toNatClampNeg _, h.2)) (by rw [tf_E, hkx]; simp [tf_up]; rfl) (fun d hd => tf_E_up hd)] at hP1
        exact hP1
      · intro H locs ls hP hS hL
        refine va_zast hx hb hK hP (tf_ws_D hj hA) hS x 3 (n := tf_N x) (f := h.1 x) (cA := cA 11) (by rw [tf_ws_get hxn, tf_E, hkx]; rfl) rfl hin hd (fun H1 locs1 hP1 hD1 hS1 => hk _ _ _ hst H1 locs1 ls ?_ hS1 hL)
        rw [tf_ws_set (h' := (tf_up h.1 x i.toNatClampNeg _, h.2)) (by rw [tf_E, hkx]; simp [tf_up]; rfl) (fun d hd => tf_E_up hd)] at hP1
        exact hP1
    · exact hst.elim
  case lastore =>
    simp only [tf_ck, beq_iff_eq] at hck
    subst hck
    simp only [tf_st] at hst
    split at hst
    · rename_i v i x st'
      obtain ⟨⟨hkx, hxn, hin⟩, hst⟩ := hst
      intro H locs ls hP hS hL
      refine va_last hx hb hK hP (tf_ws_D hj hA) hS x 4 (n := tf_N x) (f := h.2 x) (cA := cA 12) (by rw [tf_ws_get hxn, tf_E, hkx]; rfl) rfl hin hd (fun H1 locs1 hP1 hD1 hS1 => hk _ _ _ hst H1 locs1 ls ?_ hS1 hL)
      rw [tf_ws_set (h' := (h.1, tf_upL h.2 x i.toNatClampNeg _)) (by rw [tf_E, hkx]; simp [tf_upL]; rfl) (fun d hd => tf_E_upL hd)] at hP1
      exact hP1
    · exact hst.elim
  case invokevirtual j =>
    simp only [tf_ck, Bool.and_eq_true, beq_iff_eq, decide_eq_true_eq] at hck
    obtain ⟨rfl, hn⟩ := hck
    simp only [tf_st] at hst
    split at hst
    · rename_i kn na vd hm
      exact hC pc _ j _ kn na vd L st h _ hn (by first | exact Or.inl ⟨rfl, rfl⟩ | exact Or.inr ⟨rfl, rfl⟩) hd hm hst.1 hst.2.1 hst.2.2 (fun r h hkr => hk _ _ _ hkr)
    · exact hst.elim
  case invokestatic j =>
    simp only [tf_ck, Bool.and_eq_true, beq_iff_eq, decide_eq_true_eq] at hck
    obtain ⟨rfl, hn⟩ := hck
    simp only [tf_st] at hst
    split at hst
    · rename_i kn na vd hm
      exact hC pc _ j _ kn na vd L st h _ hn (by first | exact Or.inl ⟨rfl, rfl⟩ | exact Or.inr ⟨rfl, rfl⟩) hd hm hst.1 hst.2.1 hst.2.2 (fun r h hkr => hk _ _ _ hkr)
    · exact hst.elim
  case ireturn =>
    simp only [tf_ck, beq_iff_eq] at hck
    subst hck
    simp only [tf_st] at hst
    split at hst
    · intro H locs ls hP hS hL
      exact hR1 _ _ _ _ hd hst H locs ls hP hS hL
    · exact hst.elim
  case areturn =>
    simp only [tf_ck, beq_iff_eq] at hck
    subst hck
    simp only [tf_st] at hst
    split at hst
    · intro H locs ls hP hS hL
      exact hRa _ _ _ _ hd (Or.inr ⟨_, rfl⟩) hst H locs ls hP hS hL
    · intro H locs ls hP hS hL
      exact hRa _ _ _ _ hd (Or.inl rfl) hst H locs ls hP hS hL
    · exact hst.elim
  case return_ =>
    simp only [tf_ck, beq_iff_eq] at hck
    subst hck
    simp only [tf_st] at hst
    split at hst
    · intro H locs ls hP hS hL
      exact hR0 _ _ _ hd hst H locs ls hP hS hL
    · exact hst.elim
end TFS
end
section
/-! ===== blocks, loops, methods of the light machine ===== -/
def tf_wp (nc : Nat) (C : tf_C) (F : Nat → Option (Nat × Nat)) (M : Nat → Option (Nat × Nat × Bool)) (I : Nat → Option Value) (E : tf_Hk) (rk : Nat) (Q : tf_Q) (X : tf_X) : Nat → List (Instr × Nat) → List Value → List Value → LH → Prop
  | pc, [], L, st, h => X pc L st h
  | pc, (i, n) :: r, L, st, h => match E pc with
    | some f => f L st h (fun L st h => tf_wp nc C F M I E rk Q X (pc + n) r L st h) X
    | none => tf_st nc C F M I rk Q X pc i L st h (fun L st h => tf_wp nc C F M I E rk Q X (pc + n) r L st h)
abbrev tf_Bk : Type := List (Nat × List (Instr × Nat))
def tf_at (B : tf_Bk) (pc : Nat) : List (Instr × Nat) := (B.lookup pc).getD []
/-- the least that holds along the blocks -/
def tf_LW (nc : Nat) (C : tf_C) (F : Nat → Option (Nat × Nat)) (M : Nat → Option (Nat × Nat × Bool)) (I : Nat → Option Value) (E : tf_Hk) (rk : Nat) (B : tf_Bk) (Q : tf_Q) : tf_X := fun pc L st h =>
  ∀ X : tf_X, (∀ (Y : tf_X) (pc : Nat) (L st : List Value) (h : LH), (∀ pc L st h, Y pc L st h → X pc L st h) → tf_wp nc C F M I E rk Q Y pc (tf_at B pc) L st h → X pc L st h) → X pc L st h
theorem tf_LW_go {nc : Nat} {C : tf_C} {F : Nat → Option (Nat × Nat)} {M : Nat → Option (Nat × Nat × Bool)} {I : Nat → Option Value} {E : tf_Hk} {rk : Nat} {B : tf_Bk} {Q : tf_Q} {pc : Nat} {L st : List Value} {h : LH} (hw : tf_wp nc C F M I E rk Q (tf_LW nc C F M I E rk B Q) pc (tf_at B pc) L st h) : tf_LW nc C F M I E rk B Q pc L st h :=
  fun X hX => hX (tf_LW nc C F M I E rk B Q) pc L st h (fun _ _ _ _ q => q X hX) hw
def tf_bck (cc : ByteArray) (nL : Nat) : Nat → List (Instr × Nat) → Bool
  | _, [] => true
  | pc, (i, n) :: r => decide (decode cc pc = .ok (i, n)) && tf_ck nL pc i n && tf_bck cc nL (pc + n) r
def tf_Bck (cc : ByteArray) (nL : Nat) (B : tf_Bk) : Bool := B.all (fun q => tf_bck cc nL q.1 q.2)
theorem tf_at_ck {cc : ByteArray} {nL : Nat} : ∀ {B : tf_Bk} (_ : tf_Bck cc nL B = true) (pc : Nat), tf_bck cc nL pc (tf_at B pc) = true
  | [], _, pc => rfl
  | (q, b) :: r, h, pc => by
    simp only [tf_Bck, List.all_cons, Bool.and_eq_true] at h
    unfold tf_at
    by_cases hq : pc = q
    · subst hq
      simp [List.lookup, h.1]
    · have h2 := tf_at_ck (B := r) (cc := cc) (nL := nL) h.2 pc
      unfold tf_at at h2
      have hb : (pc == q) = false := by simpa using hq
      simp only [List.lookup, hb]
      exact h2
section TFW
variable {p : Program} {l : Launch} {e : Env} {R : Room} {s : State} {m : MethodId} {args : Array Value} {below : List Frame} {meth : Method} {c : Code} {cells slots : Nat} {QW : State → Prop}
variable {cc : ByteArray} {D : va_G} {cA : Nat → ClassId} {ad : Nat → Nat} {A : Nat → Prop} {nc nL : Nat} {own : String} {Ts : List Jvm.Cond}
variable {C : tf_C} {F : Nat → Option (Nat × Nat)} {M : Nat → Option (Nat × Nat × Bool)} {I : Nat → Option Value} {E : tf_Hk} {rk : Nat} {Q : tf_Q} {B : tf_Bk}
set_option maxHeartbeats 1000000 in
theorem tf_LW_ok (hx : p.tables.exec = Jvm.exec) (hb : c.code = cc) (hown : s.vm.findClass own = some m.cls) (hts : ∀ w ∈ Ts, w.before args s = true) (hK : va_K D vwCl (tf_ty cA) s) (hj : tf_inj ad nc) (hA : ∀ d, d < nc → A (ad d))
    (hF : tf_Fok own F Ts) (hI : ∀ j v, I j = some (.int v) → (Jvm.Cond.constant own j v).before args s = true) (hJ : ∀ j v, I j = some (.long v) → (Jvm.Cond.constantLong own j v).before args s = true)
    (hC : ∀ (pc : Nat) (i : Instr) (j j2 kn na : Nat) (vd : Bool) (L st : List Value) (h : LH) (K : tf_Q), j < 100000 → ((i = .invokevirtual j ∧ j2 = j) ∨ (i = .invokestatic j ∧ j2 = j + 100000)) → decode cc pc = .ok (i, 3) → M j2 = some (kn, na, vd) → na ≤ st.length → ((st.drop na).map Value.category).sum ≤ 8 → C kn (st.take na).reverse h K → (∀ r h, K r h → tf_At (fun H locs g => W p l e R s m args below meth c H locs cells slots QW g) m s.heap D cA ad A nc nL (pc + 3) L (if vd = true then st.drop na else r :: st.drop na) h) → tf_At (fun H locs g => W p l e R s m args below meth c H locs cells slots QW g) m s.heap D cA ad A nc nL pc L st h)
    (hE : ∀ (pc n : Nat) (i : Instr) (f : List Value → List Value → LH → tf_Kt → tf_X → Prop) (L st : List Value) (h : LH) (k : tf_Kt) (X : tf_X), E pc = some f → decode cc pc = .ok (i, n) → f L st h k X → (∀ L st h, k L st h → tf_At (fun H locs g => W p l e R s m args below meth c H locs cells slots QW g) m s.heap D cA ad A nc nL (pc + n) L st h) → (∀ pc L st h, X pc L st h → tf_At (fun H locs g => W p l e R s m args below meth c H locs cells slots QW g) m s.heap D cA ad A nc nL pc L st h) → tf_At (fun H locs g => W p l e R s m args below meth c H locs cells slots QW g) m s.heap D cA ad A nc nL pc L st h)
    (hR1 : ∀ (v : Int32) (h : LH) (pc : Nat) (L : List Value), decode cc pc = .ok (.ireturn, 1) → (tf_rb rk v ∧ Q (.int v) h) → tf_At (fun H locs g => W p l e R s m args below meth c H locs cells slots QW g) m s.heap D cA ad A nc nL pc L [.int v] h)
    (hR0 : ∀ (h : LH) (pc : Nat) (L : List Value), decode cc pc = .ok (.return_, 1) → (rk = 0 ∧ Q tf_z h) → tf_At (fun H locs g => W p l e R s m args below meth c H locs cells slots QW g) m s.heap D cA ad A nc nL pc L [] h)
    (hRa : ∀ (v : Value) (h : LH) (pc : Nat) (L : List Value), decode cc pc = .ok (.areturn, 1) → (v = .null ∨ ∃ a, v = .ref a) → (rk = 3 ∧ Q v h) → tf_At (fun H locs g => W p l e R s m args below meth c H locs cells slots QW g) m s.heap D cA ad A nc nL pc L [v] h)
    (hB : tf_Bck cc nL B = true) {pc : Nat} {L st : List Value} {h : LH} (hw : tf_LW nc C F M I E rk B Q pc L st h) : tf_At (fun H locs g => W p l e R s m args below meth c H locs cells slots QW g) m s.heap D cA ad A nc nL pc L st h := by
  refine hw (fun pc L st h => tf_At (fun H locs g => W p l e R s m args below meth c H locs cells slots QW g) m s.heap D cA ad A nc nL pc L st h) ?_
  intro Y pc L st h hY
  have key : ∀ (b : List (Instr × Nat)) (pc : Nat) (L st : List Value) (h : LH), tf_bck cc nL pc b = true → tf_wp nc C F M I E rk Q Y pc b L st h → tf_At (fun H locs g => W p l e R s m args below meth c H locs cells slots QW g) m s.heap D cA ad A nc nL pc L st h := by
    intro b
    induction b with
    | nil =>
      intro pc L st h _ hq
      exact hY _ _ _ _ hq
    | cons a r ih =>
      obtain ⟨i, n⟩ := a
      intro pc L st h hb2 hq
      simp only [tf_bck, Bool.and_eq_true, decide_eq_true_eq] at hb2
      obtain ⟨⟨hd, hck⟩, hr⟩ := hb2
      rw [tf_wp] at hq
      cases hEp : E pc with
      | some f =>
        rw [hEp] at hq
        exact hE pc n i f L st h _ Y hEp hd hq (fun L st h hk => ih (pc + n) L st h hr hk) hY
      | none =>
        rw [hEp] at hq
        exact tf_st_ok hx hb hown hts hK hj hA hF hI hJ hC hR1 hR0 hRa hd hck hq (fun L st h hk => ih (pc + n) L st h hr hk) hY
  exact key _ _ _ _ _ (tf_at_ck hB pc)
end TFW
/-! what lies outside the world and stands still: the links to a nest mate's private methods, the statics (tf_SY) -/
/-- the words of texts: their names, how many numbers follow, their letters -/
def tv_nm : List String := ["POINTS", "ARC", "GAIN", "SUPPLY", "WANT", "BLOCK", "TAKE_FIRST", "TAKE_STEEP", "TAKE_ROUND", "PIVOT", "SHIFT", "OPEN", "WIDEN", "CHARGE", "COLD"]
def tv_g : List Int32 := [1, 4, 4, 2, 2, 1, 0, 0, 0, -1, -1, -1, -1, -1, -1]
def tv_o : List Int32 := [-1, -1, 2, -1, -1, 1, 0, 0, 0, 1, 3, 1, 2, 2, 0]
def tv_ord : List Int32 := [0, 1, 2, 3, 4, 5, 6, 7, 8, 9, 10, 11, 12, 13, 14]
def tv_F : List (String × String × String × List Int32) := [("java/lang/Enum", "ordinal", "I", tv_ord), ("TreeFlows$Verb", "inGrid", "I", tv_g), ("TreeFlows$Verb", "inOrders", "I", tv_o)]
def tv_sm : List Int32 := [1, 2, 3, 4, 5, 6, 12, 13, 14, 7, 8, 9, 10, 11, 15]
def tv_len : List Nat := [6, 3, 4, 6, 4, 5, 5, 5, 5, 5, 5, 4, 5, 6, 4]
def tv_byt : List (List Int32) := [[112, 111, 105, 110, 116, 115], [97, 114, 99], [103, 97, 105, 110], [115, 117, 112, 112, 108, 121], [119, 97, 110, 116], [98, 108, 111, 99, 107], [102, 105, 114, 115, 116], [115, 116, 101, 101, 112], [114, 111, 117, 110, 100], [112, 105, 118, 111, 116], [115, 104, 105, 102, 116], [111, 112, 101, 110], [119, 105, 100, 101, 110], [99, 104, 97, 114, 103, 101], [99, 111, 108, 100]]
/-- the words as Strings (430 ..), their letters (450 ..) -/
def tv_S (ad : Nat → Nat) (A : Nat → Prop) (U : State) (H : Heap) : Prop := vk_S 15 tv_len tv_byt (fun i => ad (430 + i)) (fun i => ad (450 + i)) A U H ∧ va_Z "java/lang/String" "COMPACT_STRINGS" "Z" (.int 1) A U H ∧ va_Zq "jdk/internal/util/Preconditions" "SIOOBE_FORMATTER" "Ljava/util/function/BiFunction;" A U H
/-- the verbs (400 ..), their row (420), the switch's row (421) -/
def tv_V (ad : Nat → Nat) (A : Nat → Prop) (U : State) (H : Heap) : Prop := va_En "TreeFlows$Verb" "LTreeFlows$Verb;" tv_nm tv_F (fun i => ad (400 + i)) A U H ∧ va_Ef 15 "TreeFlows$Verb" "word" "Ljava/lang/String;" (fun i => .ref (ad (430 + i))) (fun i => ad (400 + i)) A U H ∧ (va_Z "TreeFlows$Verb" "ALL" "[LTreeFlows$Verb;" (.ref (ad 420)) A U H ∧ va_T (.object "TreeFlows$Verb") (ad 420) 15 (fun i => .ref (ad (400 + i))) A U H) ∧ va_Z "TreeFlows$1" "$SwitchMap$TreeFlows$Verb" "[I" (.ref (ad 421)) A U H ∧ va_T .int (ad 421) 15 (fun i => .int (tv_sm.getD i 0)) A U H
def tv_K (ad : Nat → Nat) (A : Nat → Prop) (U : State) (H : Heap) : Prop := tv_V ad A U H ∧ tv_S ad A U H
theorem tv_S.moved {ad : Nat → Nat} {A : Nat → Prop} {u U : State} {H : Heap} (hvm : u.vm.Alike U.vm) (h : tv_S ad A u H) : tv_S ad A U H := ⟨vk_S.moved hvm h.1, va_Z.moved hvm h.2.1, va_Zq.moved hvm h.2.2⟩
theorem tv_S.kept {ad : Nat → Nat} {A : Nat → Prop} {U : State} {H H1 : Heap} (h : tv_S ad A U H) (hq : ∀ a : Nat, a < H.size → ¬ A a → H1[a]? = H[a]?) : tv_S ad A U H1 := ⟨h.1.kept hq, h.2.1.kept hq, h.2.2.kept hq⟩
theorem tv_S.narrow {ad : Nat → Nat} {A B : Nat → Prop} {U : State} {H : Heap} (h : tv_S ad A U H) (hAB : ∀ q, B q → A q) : tv_S ad B U H := ⟨h.1.narrow hAB, h.2.1.narrow hAB, h.2.2.narrow hAB⟩
theorem tv_V.moved {ad : Nat → Nat} {A : Nat → Prop} {u U : State} {H : Heap} (hvm : u.vm.Alike U.vm) (h : tv_V ad A u H) : tv_V ad A U H := ⟨va_En.moved hvm h.1, va_Ef.moved hvm h.2.1, ⟨va_Z.moved hvm h.2.2.1.1, va_T.moved hvm h.2.2.1.2⟩, va_Z.moved hvm h.2.2.2.1, va_T.moved hvm h.2.2.2.2⟩
theorem tv_V.kept {ad : Nat → Nat} {A : Nat → Prop} {U : State} {H H1 : Heap} (h : tv_V ad A U H) (hq : ∀ a : Nat, a < H.size → ¬ A a → H1[a]? = H[a]?) : tv_V ad A U H1 := ⟨h.1.kept hq, h.2.1.kept hq, ⟨h.2.2.1.1.kept hq, h.2.2.1.2.kept hq⟩, h.2.2.2.1.kept hq, h.2.2.2.2.kept hq⟩
theorem tv_V.narrow {ad : Nat → Nat} {A B : Nat → Prop} {U : State} {H : Heap} (h : tv_V ad A U H) (hAB : ∀ q, B q → A q) : tv_V ad B U H := ⟨h.1.narrow hAB, h.2.1.narrow hAB, ⟨h.2.2.1.1.narrow hAB, h.2.2.1.2.narrow hAB⟩, h.2.2.2.1.narrow hAB, h.2.2.2.2.narrow hAB⟩
/-- once the law runs (all its cells are there), the verbs and the words stand as told -/
def tf_SY (nc : Nat) (ad : Nat → Nat) (A : Nat → Prop) (U : State) (H : Heap) : Prop := nc = 298 → tv_K ad A U H
def tf_w1 : Jvm.Cond := .methodLinkNest RX1 73 yX8_isRule RX8
def tf_w2 : Jvm.Cond := .methodLinkNest RX3 106 yX8_toldEdge RX8
def tf_w3 : Jvm.Cond := .methodLinkNest RX5 40 yX8_toldEdge RX8
def tf_w4 : Jvm.Cond := .fieldLinkNest RX4 85 "TreeFlows$Verb" "ALL" "[LTreeFlows$Verb;" RX8
def tf_SX (nc : Nat) (ad : Nat → Nat) (A : Nat → Prop) (U : State) (H : Heap) : Prop := (va_Nw tf_w1 U ∧ va_Nw tf_w2 U ∧ va_Nw tf_w3 U) ∧ (nc = 298 → va_Nw tf_w4 U) ∧ tf_SY nc ad A U H
theorem tf_SY.moved {nc : Nat} {ad : Nat → Nat} {A : Nat → Prop} {u U : State} {H : Heap} (hvm : u.vm.Alike U.vm) (h : tf_SY nc ad A u H) : tf_SY nc ad A U H := fun z => ⟨tv_V.moved hvm (h z).1, tv_S.moved hvm (h z).2⟩
theorem tf_SY.kept {nc : Nat} {ad : Nat → Nat} {A : Nat → Prop} {U : State} {H H1 : Heap} (h : tf_SY nc ad A U H) (hq : ∀ a : Nat, a < H.size → ¬ A a → H1[a]? = H[a]?) : tf_SY nc ad A U H1 := fun z => ⟨(h z).1.kept hq, (h z).2.kept hq⟩
theorem tf_SY.narrow {nc : Nat} {ad : Nat → Nat} {A B : Nat → Prop} {U : State} {H : Heap} (h : tf_SY nc ad A U H) (hAB : ∀ q, B q → A q) : tf_SY nc ad B U H := fun z => ⟨(h z).1.narrow hAB, (h z).2.narrow hAB⟩
theorem tf_SX.warm {nc : Nat} {ad : Nat → Nat} {A : Nat → Prop} {u U : State} {H : Heap} (hW : u.WarmedH U.vm) (h : tf_SX nc ad A u H) : tf_SX nc ad A U H := ⟨⟨h.1.1.warmM hW, h.1.2.1.warmM hW, h.1.2.2.warmM hW⟩, fun z => (h.2.1 z).warmF hW, h.2.2.moved hW.alike⟩
theorem tf_SX.same {nc : Nat} {ad : Nat → Nat} {A : Nat → Prop} {u U : State} {H : Heap} (hv : u.vm = U.vm) (h : tf_SX nc ad A u H) : tf_SX nc ad A U H := ⟨⟨h.1.1.same rfl hv, h.1.2.1.same rfl hv, h.1.2.2.same rfl hv⟩, fun z => (h.2.1 z).same rfl hv, h.2.2.moved (by rw [hv]; exact Vm.Alike.refl _)⟩
theorem tf_SX.kept {nc : Nat} {ad : Nat → Nat} {A : Nat → Prop} {U : State} {H H1 : Heap} (h : tf_SX nc ad A U H) (hq : ∀ a : Nat, a < H.size → ¬ A a → H1[a]? = H[a]?) : tf_SX nc ad A U H1 := ⟨h.1, h.2.1, h.2.2.kept hq⟩
theorem tf_SX.narrow {nc : Nat} {ad : Nat → Nat} {A B : Nat → Prop} {U : State} {H : Heap} (h : tf_SX nc ad A U H) (hAB : ∀ q, B q → A q) : tf_SX nc ad B U H := ⟨h.1, h.2.1, h.2.2.narrow hAB⟩
/-! ===== contracts ===== -/
def tf_rm (d : Nat) : Room := { frames := d, cells := 0, slots := 0, locals := 32 * d }
/-- the world at a call -/
def tf_Pc (D : va_G) (cA : Nat → ClassId) (ad : Nat → Nat) (nc : Nat) (As : List Value) (h : LH) (sz : Nat) : Array Value → State → Prop := va_Pc (As.map (tf_tr ad)) (fun U => U.heap.size = sz ∧ va_P D vwCl (tf_ws cA ad nc h) U.heap ∧ va_K D vwCl (tf_ty cA) U ∧ tf_SX nc ad (va_A (tf_ws cA ad nc h) sz) U U.heap)
def tf_out (ad : Nat → Nat) (ret : Option FieldType) (v : Value) : Option Value := match ret with
  | none => none
  | some _ => some (tf_tr ad v)
/-- the world behind it: an answer and a table for which Q holds -/
def tf_Qc (D : va_G) (cA : Nat → ClassId) (ad : Nat → Nat) (nc : Nat) (ret : Option FieldType) (Q : tf_Q) (A : Nat → Prop) : Array Value → State → Outcome → State → Prop := fun _ st oc t => (∃ (v : Value) (h : LH), oc = .returned (tf_out ad ret v) ∧ Q v h ∧ va_P D vwCl (tf_ws cA ad nc h) t.heap) ∧ va_F A st t
/-- a method's contract: whatever the light machine's spec Cs promises -/
def tf_Met (l : Launch) (D : va_G) (cA : Nat → ClassId) (ad : Nat → Nat) (nc : Nat) (y : MethodName) (ws : List Jvm.Cond) (rm : Room) (ret : Option FieldType) (Cs : List Value → LH → tf_Q → Prop) : Prop :=
  ∀ (As : List Value) (h : LH) (Q : tf_Q) (sz : Nat), Cs As h Q → Met l y ws rm (tf_Pc D cA ad nc As h sz) (tf_Qc D cA ad nc ret Q (va_A (tf_ws cA ad nc h) sz)) 0 0 (va_A (tf_ws cA ad nc h) sz)
def tf_rkOf (ret : Option FieldType) : Nat := match ret with
  | none => 0
  | some .int => 1
  | some .boolean => 2
  | some (.object _) => 3
  | some _ => 4
theorem tf_nar_b {v : Int32} (h : vp_nar .boolean v = v) : narrow .boolean (.int v) = .int v := by
  have : narrow .boolean (.int v) = .int (vp_nar .boolean v) := by simp [vp_nar, narrow]
  rw [this, h]
/-- who is called: an object of the class, its arguments fit the locals -/
def tf_rc (nc ci maxL : Nat) (As : List Value) : Prop := (tf_ar As).length ≤ maxL ∧ (ci = 99 ∨ match As with
  | .ref b :: _ => tf_K b = ci ∧ b < nc
  | _ => False)
end
section
/-! ===== calls of the light machine ===== -/
theorem tf_Pc_blind {D : va_G} {cA : Nat → ClassId} {ad : Nat → Nat} {nc : Nat} {As : List Value} {h : LH} {sz : Nat} : FrameBlind (tf_Pc D cA ad nc As h sz) := by
  intro a U g mk q
  obtain ⟨q0, q1, qP, qK, qX⟩ := q
  exact ⟨q0, q1, qP, va_K.moved (u := U) (U := U.calling g mk a) (Vm.Alike.refl U.vm) qK, tf_SX.same (u := U) (U := U.calling g mk a) rfl qX⟩
theorem tf_catsum {ad : Nat → Nat} (st : List Value) : ((st.map (tf_tr ad)).map fun v => v.category).sum = (st.map Value.category).sum := by
  rw [List.map_map]
  congr 1
  exact List.map_congr_left fun v _ => tf_cat v
section TFC
variable {p : Program} {l : Launch} {e : Env} {R : Room} {s : State} {m : MethodId} {args : Array Value} {below : List Frame} {meth : Method} {c : Code} {QW : State → Prop}
variable {cc : ByteArray} {D : va_G} {cA : Nat → ClassId} {ad : Nat → Nat} {nc nL cells slots : Nat} {own : String} {Ts BW : List Jvm.Cond}
theorem tf_callU {H H0 : Heap} {locs : List Loc} {pc : Nat} {ls : Array Slot} {st0 rest : List Value} {a : Array Value} {A0 A1 : Nat → Prop} {free : Addr → Prop} {Q2 : tf_Q} {ret : Option FieldType}
    (hr : va_Run p l e R s m args below meth c H locs cells slots 0 0 (F0 m pc ls st0) rest (tf_Qc D cA ad nc ret Q2 A1 a) free) (hS : va_S A0 H0 H locs) (hA : ∀ q, q < H.size → A1 q → A0 q) (hf : ∀ q, free q → A0 q)
    (kk : ∀ (v : Value) (h : LH) (H1 : Heap) (locs1 : List Loc), Q2 v h → va_P D vwCl (tf_ws cA ad nc h) H1 → va_S A0 H0 H1 locs1 → W p l e R s m args below meth c H1 locs1 cells slots QW (F0 m (pc + 3) ls ((tf_out ad ret v).toList ++ rest))) : W p l e R s m args below meth c H locs cells slots QW (F0 m pc ls st0) := by
  intro T hT X
  obtain ⟨v, st₀, t, T', L, h0, X', hL, e1, e2, ⟨⟨r, u, hv, hp, hb⟩, hz, hk⟩, st⟩ := hr T hT X
  cases hv
  rw [h0] at hz hk
  obtain ⟨t2, a1, b1⟩ := kk r u T'.heap (locs ++ L) hp (by rw [e1]; exact hb)
    ⟨Nat.le_trans hS.1 (by rw [e1]; exact hz), fun q h1 h2 => by rw [e1, hk q (Nat.lt_of_lt_of_le h1 hS.1) (fun z => h2 (hA q (Nat.lt_of_lt_of_le h1 hS.1) z))]; exact hS.2.1 q h1 h2, fun q hq => by
      rcases List.mem_append.mp hq with h | h
      · exact hS.2.2 q h
      · exact hf _ (hL q h)⟩ T' rfl X'
  exact ⟨t2, st t2 a1, b1⟩
theorem tf_sub {A : Nat → Prop} {H : Heap} {locs : List Loc} {h : LH} (hA : ∀ d, d < nc → A (ad d)) (hA2 : ∀ q, s.heap.size ≤ q → A q) (hS : va_S A s.heap H locs) : ∀ q, va_A (tf_ws cA ad nc h) H.size q → A q := by
  intro q hq
  rcases tf_ws_A.mp hq with ⟨c, hc, rfl⟩ | hq
  · exact hA c hc
  · exact hA2 q (Nat.le_trans hS.1 hq)
theorem tf_pre {A : Nat → Prop} {H : Heap} {locs : List Loc} {h : LH} {As : List Value} (hA : ∀ d, d < nc → A (ad d)) (hA2 : ∀ q, s.heap.size ≤ q → A q) (hK : va_K D vwCl (tf_ty cA) s) (hSX : tf_SX nc ad A s s.heap) (hP : va_P D vwCl (tf_ws cA ad nc h) H) (hS : va_S A s.heap H locs) : ∀ U : State, U.heap = H → s.WarmedH U.vm → tf_Pc D cA ad nc As h H.size (As.map (tf_tr ad)).toArray U := by
  intro U hU hW
  refine ⟨rfl, by rw [hU], by rw [hU]; exact hP, va_K.moved hW.alike hK, ?_⟩
  rw [hU]
  exact ((hSX.kept (fun a h1 h2 => hS.2.1 a h1 h2)).narrow (tf_sub hA hA2 hS)).warm hW
theorem tf_goodBW {y : MethodName} {cc : ByteArray} {maxL : Nat} {ret : Option FieldType} (hG : ∀ w ∈ BW, goodWord w = true) (hsub : ∀ w ∈ BW, w ∈ Ts) (hc : Jvm.Cond.code y cc maxL ret ∈ BW) : GoodIn Ts (Jvm.Cond.code y cc maxL ret :: BW) := by
  intro w hw
  rcases List.mem_cons.mp hw with rfl | hw
  · exact ⟨hsub _ hc, Or.inl rfl⟩
  · exact ⟨hsub w hw, good_of_word (hG w hw)⟩
set_option maxHeartbeats 1000000 in
theorem tf_callV_ok {A : Nat → Prop} {yk : MethodName} {bk : ByteArray} {Lk nk ci d j : Nat} {retk : Option FieldType} {Ck : List Value → LH → tf_Q → Prop} {T : u_T} {N : Nat} {vd : Bool}
    (hx : p.tables.exec = Jvm.exec) (hb : c.code = cc) (hml : c.maxLocals = nL) (hown : s.vm.findClass own = some m.cls) (hts : ∀ w ∈ Ts, w.before args s = true) (hsub : ∀ w ∈ BW, w ∈ Ts) (hK : va_K D vwCl (tf_ty cA) s) (hA : ∀ d, d < nc → A (ad d)) (hA2 : ∀ q, s.heap.size ≤ q → A q) (hSX : tf_SX nc ad A s s.heap) (hG : ∀ w ∈ BW, goodWord w = true)
    (hMk : tf_Met l D cA ad nc yk (Jvm.Cond.code yk bk Lk retk :: BW) (tf_rm d) retk Ck) (hrc : ∀ As h Q, Ck As h Q → tf_rc nc ci Lk As) (hci : ci ≠ 99) (hcl : vwCl[ci]? = some (yk.cls, T, N))
    (hcode : Jvm.Cond.code yk bk Lk retk ∈ BW) (hl : Jvm.Cond.methodLink own j yk ∈ BW) (hin : Jvm.Cond.instanceMethod yk ∈ BW) (hse : Jvm.Cond.selects yk.cls yk yk ∈ BW) (hini : Jvm.Cond.initialized yk.cls ∈ BW)
    (hdd : yk.cls ≠ "java/lang/invoke/MethodHandle" ∧ yk.cls ≠ "java/lang/invoke/VarHandle" ∧ (parseMethodDescriptor yk.desc).map (fun d => d.parameters.length) = some nk) (hR : d + 1 ≤ R.frames ∧ 8 + (Lk + 11) + 32 * d ≤ R.locals) (hvd : vd = retk.isNone) (hcs : cells ≤ R.cells ∧ slots ≤ R.slots)
    {pc : Nat} {L st : List Value} {h : LH} {K : tf_Q} (hd : decode cc pc = .ok (.invokevirtual j, 3)) (hlen : nk + 1 ≤ st.length) (hsum : ((st.drop (nk + 1)).map Value.category).sum ≤ 8) (hCk : Ck (st.take (nk + 1)).reverse h K)
    (hk : ∀ r h, K r h → tf_At (fun H locs g => W p l e R s m args below meth c H locs cells slots QW g) m s.heap D cA ad A nc nL (pc + 3) L (if vd = true then st.drop (nk + 1) else r :: st.drop (nk + 1)) h) : tf_At (fun H locs g => W p l e R s m args below meth c H locs cells slots QW g) m s.heap D cA ad A nc nL pc L st h := by
  intro H locs ls hP hS hL
  obtain ⟨-, hrc⟩ := hrc _ _ _ hCk
  rcases hrc with hrc | hrc
  · exact absurd hrc hci
  generalize hArg : (st.take (nk + 1)).reverse = Arg at hCk hrc
  cases Arg with
  | nil => exact hrc.elim
  | cons v As =>
    cases v with
    | ref b =>
      simp only at hrc
      obtain ⟨hkb, hbn⟩ := hrc
      have htk : st.take (nk + 1) = As.reverse ++ [.ref b] := by
        have := congrArg List.reverse hArg
        simpa using this
      have hst : st = As.reverse ++ .ref b :: st.drop (nk + 1) := by
        conv => lhs; rw [← List.take_append_drop (nk + 1) st, htk]
        simp
      have hAl : As.length = nk := by
        have h1 := congrArg List.length htk
        rw [List.length_take, Nat.min_eq_left hlen] at h1
        simp at h1
        omega
      have hM := hMk (.ref b :: As) h K H.size hCk
      have hts' : ∀ w ∈ BW, w.before args s = true := fun w hw => hts w (hsub w hw)
      have cw : CallW R s args own yk.cls j yk bk Lk retk (Jvm.Cond.code yk bk Lk retk :: BW) (tf_rm d) 0 0 nk :=
        ⟨callB_of nk hts (tf_goodBW hG hsub hcode) rfl rfl rfl (hts' _ hini) (hts' _ hl) hdd hR, hts' _ hin, hts' _ hse⟩
      have hw4 : vwCl[ci]? = some (yk.cls, T, N) := hcl
      have hci8 : ci < 8 := by
        have := (List.getElem?_eq_some_iff.mp hcl).1
        simpa using this
      have hrecv := va_recv hK hP hcl (q0 := b) (a := ad b) (fs := (List.range (tf_Wl ci)).map (tf_fv ad h b)) (by rw [tf_ws_get hbn, tf_E, hkb, if_pos hci8])
      have hstk : st.map (tf_tr ad) = (As.map (tf_tr ad)).reverse ++ .ref (ad b) :: (st.drop (nk + 1)).map (tf_tr ad) := by
        conv => lhs; rw [hst]
        simp [tf_tr]
      have hfin : va_Run p l e R s m args below meth c H locs cells slots 0 0 (F0 m pc ls (st.map (tf_tr ad))) ((st.drop (nk + 1)).map (tf_tr ad)) (tf_Qc D cA ad nc retk K (va_A (tf_ws cA ad nc h) H.size) (Value.ref (ad b) :: As.map (tf_tr ad)).toArray) (va_A (tf_ws cA ad nc h) H.size) :=
        va_runV (As := As.map (tf_tr ad)) (rest := (st.drop (nk + 1)).map (tf_tr ad)) (b := ad b) ⟨hx, hb, hml, hown, hts⟩ hM cw ⟨tf_Pc_blind, hrecv, tf_pre (As := .ref b :: As) hA hA2 hK hSX hP hS⟩ rfl (by simpa using hAl) hL.1 hstk (by show 2 * 0 + _ ≤ 8; rw [tf_catsum]; omega) hd hcs
      refine tf_callU hfin hS (fun q _ hq => tf_sub hA hA2 hS q hq) (tf_sub hA hA2 hS) (fun v h1 H1 locs1 hQ hP1 hS1 => ?_)
      have := hk v h1 hQ H1 locs1 ls hP1 hS1 hL
      cases retk with
      | none =>
        subst hvd
        exact this
      | some rt =>
        subst hvd
        exact this
    | _ => exact hrc.elim
set_option maxHeartbeats 1000000 in
theorem tf_callS_ok {A : Nat → Prop} {yk : MethodName} {bk : ByteArray} {Lk nk d j : Nat} {retk : Option FieldType} {Ck : List Value → LH → tf_Q → Prop} {vd : Bool}
    (hx : p.tables.exec = Jvm.exec) (hb : c.code = cc) (hml : c.maxLocals = nL) (hown : s.vm.findClass own = some m.cls) (hts : ∀ w ∈ Ts, w.before args s = true) (hsub : ∀ w ∈ BW, w ∈ Ts) (hK : va_K D vwCl (tf_ty cA) s) (hA : ∀ d, d < nc → A (ad d)) (hA2 : ∀ q, s.heap.size ≤ q → A q) (hSX : tf_SX nc ad A s s.heap) (hG : ∀ w ∈ BW, goodWord w = true)
    (hMk : tf_Met l D cA ad nc yk (Jvm.Cond.code yk bk Lk retk :: BW) (tf_rm d) retk Ck)
    (hcode : Jvm.Cond.code yk bk Lk retk ∈ BW) (hstt : Jvm.Cond.static yk ∈ BW) (hini : Jvm.Cond.initialized yk.cls ∈ BW) (hlink : Jvm.Cond.methodLink own j yk ∈ BW ∨ ∃ host, va_Nw (.methodLinkNest own j yk host) s)
    (hdd : yk.cls ≠ "java/lang/invoke/MethodHandle" ∧ yk.cls ≠ "java/lang/invoke/VarHandle" ∧ (parseMethodDescriptor yk.desc).map (fun d => d.parameters.length) = some nk) (hR : d + 1 ≤ R.frames ∧ 8 + (Lk + 11) + 32 * d ≤ R.locals) (hvd : vd = retk.isNone) (hcs : cells ≤ R.cells ∧ slots ≤ R.slots)
    {pc : Nat} {L st : List Value} {h : LH} {K : tf_Q} (hd : decode cc pc = .ok (.invokestatic j, 3)) (hlen : nk ≤ st.length) (hsum : ((st.drop nk).map Value.category).sum ≤ 8) (hCk : Ck (st.take nk).reverse h K)
    (hk : ∀ r h, K r h → tf_At (fun H locs g => W p l e R s m args below meth c H locs cells slots QW g) m s.heap D cA ad A nc nL (pc + 3) L (if vd = true then st.drop nk else r :: st.drop nk) h) : tf_At (fun H locs g => W p l e R s m args below meth c H locs cells slots QW g) m s.heap D cA ad A nc nL pc L st h := by
  intro H locs ls hP hS hL
  have hst : st.map (tf_tr ad) = (((st.take nk).reverse).map (tf_tr ad)).reverse ++ (st.drop nk).map (tf_tr ad) := by
    rw [← List.map_reverse, List.reverse_reverse, ← List.map_append, List.take_append_drop]
  have hAl : (((st.take nk).reverse).map (tf_tr ad)).length = nk := by
    simp
    omega
  have hM := hMk (st.take nk).reverse h K H.size hCk
  have hts' : ∀ w ∈ BW, w.before args s = true := fun w hw => hts w (hsub w hw)
  have hfin : va_Run p l e R s m args below meth c H locs cells slots 0 0 (F0 m pc ls (st.map (tf_tr ad))) ((st.drop nk).map (tf_tr ad)) (tf_Qc D cA ad nc retk K (va_A (tf_ws cA ad nc h) H.size) (((st.take nk).reverse).map (tf_tr ad)).toArray) (va_A (tf_ws cA ad nc h) H.size) := by
    rcases hlink with hlink | ⟨host, hlink⟩
    · exact va_runS (As := ((st.take nk).reverse).map (tf_tr ad)) (rest := (st.drop nk).map (tf_tr ad)) ⟨hx, hb, hml, hown, hts⟩ hM ⟨callB_of nk hts (tf_goodBW hG hsub hcode) rfl rfl rfl (hts' _ hini) (hts' _ hlink) hdd hR, hts' _ hstt⟩ ⟨tf_Pc_blind, tf_pre hA hA2 hK hSX hP hS⟩ rfl hAl hL.1 hst (by show 2 * 0 + _ ≤ 8; rw [tf_catsum]; omega) hd hcs
    · exact va_runSN (As := ((st.take nk).reverse).map (tf_tr ad)) (rest := (st.drop nk).map (tf_tr ad)) ⟨hx, hb, hml, hown, hts⟩ hM ⟨va_cnB nk hts (tf_goodBW hG hsub hcode) rfl rfl rfl hlink (hts' _ hini) hdd hR, hts' _ hstt, trivial⟩ ⟨tf_Pc_blind, tf_pre hA hA2 hK hSX hP hS⟩ rfl hAl hL.1 hst (by show 2 * 0 + _ ≤ 8; rw [tf_catsum]; omega) hd hcs
  refine tf_callU hfin hS (fun q _ hq => tf_sub hA hA2 hS q hq) (tf_sub hA hA2 hS) (fun v h1 H1 locs1 hQ hP1 hS1 => ?_)
  have := hk v h1 hQ H1 locs1 ls hP1 hS1 hL
  cases retk with
  | none =>
    subst hvd
    exact this
  | some rt =>
    subst hvd
    exact this
end TFC
end
section
/-! ===== the methods' code, block by block (printed by program out of the claim's decode rows) ===== -/
def tb_X9_in : tf_Bk := [(0, [(.iload_n 0, 1), (.iload_n 1, 1), (.if_icmp .lt 12, 3), (.iload_n 0, 1), (.iload_n 2, 1), (.if_icmp .gt 7, 3), (.iconst 1, 1), (.goto 4, 3)]),
  (14, [(.iconst 0, 1)]),
  (15, [(.ireturn, 1)])]
def tb_X9_lesser : tf_Bk := [(0, [(.iload_n 0, 1), (.iload_n 1, 1), (.if_icmp .ge 7, 3), (.iload_n 0, 1), (.goto 4, 3)]),
  (9, [(.iload_n 1, 1)]),
  (10, [(.ireturn, 1)])]
def tb_X9_greater : tf_Bk := [(0, [(.iload_n 0, 1), (.iload_n 1, 1), (.if_icmp .le 7, 3), (.iload_n 0, 1), (.goto 4, 3)]),
  (9, [(.iload_n 1, 1)]),
  (10, [(.ireturn, 1)])]
def tb_X9_of : tf_Bk := [(0, [(.aload_n 0, 1), (.getfield 7, 3), (.bipush 72, 2), (.bipush 7, 2), (.iload_n 1, 1), (.imul, 1), (.iadd, 1), (.iload_n 2, 1), (.iadd, 1), (.iaload, 1), (.ireturn, 1)])]
def tb_X9_puts : tf_Bk := [(0, [(.aload_n 0, 1), (.getfield 7, 3), (.bipush 72, 2), (.bipush 7, 2), (.iload_n 1, 1), (.imul, 1), (.iadd, 1), (.iload_n 2, 1), (.iadd, 1), (.iload_n 3, 1), (.iastore, 1), (.return_, 1)])]
def tb_X9_isArc : tf_Bk := [(0, [(.iload_n 1, 1), (.iconst 0, 1), (.aload_n 0, 1), (.getfield 7, 3), (.iconst 1, 1), (.iaload, 1), (.iconst 1, 1), (.isub, 1), (.invokestatic 101, 3)]),
  (13, [(.ireturn, 1)])]
def tb_X9_isPoint : tf_Bk := [(0, [(.iload_n 1, 1), (.iconst 0, 1), (.aload_n 0, 1), (.getfield 7, 3), (.iconst 0, 1), (.iaload, 1), (.iconst 1, 1), (.isub, 1), (.invokestatic 101, 3)]),
  (13, [(.ireturn, 1)])]
def tb_X9_areTwo : tf_Bk := [(0, [(.aload_n 0, 1), (.iload_n 1, 1), (.invokevirtual 105, 3)]),
  (5, [(.ifCond .eq 20, 3), (.aload_n 0, 1), (.iload_n 2, 1), (.invokevirtual 105, 3)]),
  (13, [(.ifCond .eq 12, 3), (.iload_n 1, 1), (.iload_n 2, 1), (.if_icmp .eq 7, 3), (.iconst 1, 1), (.goto 4, 3)]),
  (25, [(.iconst 0, 1)]),
  (26, [(.ireturn, 1)])]
def tb_X9_spell : tf_Bk := [(0, [(.aload_n 0, 1), (.iconst 0, 1), (.putfield 97, 3), (.iconst 0, 1), (.istore_n 3, 1)]),
  (7, [(.iload_n 3, 1), (.bipush 8, 2), (.if_icmp .ge 27, 3), (.lload_n 1, 1), (.bipush 56, 2), (.bipush 8, 2), (.iload_n 3, 1), (.imul, 1), (.isub, 1), (.lshr, 1), (.ldc2_w 109, 3), (.land, 1), (.lconst 0, 1), (.lcmp, 1), (.ifCond .eq 9, 3), (.iinc 3 1, 3), (.goto (-27), 3)]),
  (37, [(.aload_n 0, 1), (.getfield 7, 3), (.sipush 170, 3), (.iaload, 1), (.iload_n 3, 1), (.iadd, 1), (.sipush 400, 3), (.if_icmp .le 5, 3), (.iconst (-1), 1), (.ireturn, 1)]),
  (55, [(.iconst 0, 1), (.istore 4, 2)]),
  (58, [(.iload 4, 2), (.iload_n 3, 1), (.if_icmp .ge 46, 3), (.aload_n 0, 1), (.getfield 13, 3), (.aload_n 0, 1), (.getfield 7, 3), (.sipush 170, 3), (.iaload, 1), (.lload_n 1, 1), (.bipush 56, 2), (.bipush 8, 2), (.iload 4, 2), (.imul, 1), (.isub, 1), (.lshr, 1), (.l2i, 1), (.i2b, 1), (.bastore, 1), (.aload_n 0, 1), (.getfield 7, 3), (.sipush 170, 3), (.dup2, 1), (.iaload, 1), (.iconst 1, 1), (.iadd, 1), (.iastore, 1), (.iinc 4 1, 3), (.goto (-46), 3)]),
  (107, [(.aload_n 0, 1), (.getfield 7, 3), (.sipush 170, 3), (.iaload, 1), (.ireturn, 1)])]
def tb_X9_see : tf_Bk := [(0, [(.aload_n 0, 1), (.getfield 111, 3), (.aload_n 0, 1), (.getfield 114, 3), (.if_icmp .ge 19, 3), (.aload_n 0, 1), (.getfield 13, 3), (.aload_n 0, 1), (.getfield 111, 3), (.baload, 1), (.sipush 255, 3), (.iand, 1), (.goto 4, 3)]),
  (27, [(.iconst (-1), 1)]),
  (28, [(.ireturn, 1)])]
def tb_X9_token : tf_Bk := [(0, [(.aload_n 0, 1), (.invokevirtual 117, 3)]),
  (4, [(.bipush 10, 2), (.if_icmp .eq 12, 3), (.aload_n 0, 1), (.invokevirtual 117, 3)]),
  (13, [(.bipush 32, 2), (.if_icmp .ne 16, 3)]),
  (18, [(.aload_n 0, 1), (.dup, 1), (.getfield 111, 3), (.iconst 1, 1), (.iadd, 1), (.putfield 111, 3), (.goto (-28), 3)]),
  (31, [(.aload_n 0, 1), (.aload_n 0, 1), (.getfield 111, 3), (.putfield 121, 3), (.aload_n 0, 1), (.invokevirtual 117, 3)]),
  (43, [(.istore_n 1, 1), (.aload_n 0, 1), (.lconst 0, 1), (.putfield 124, 3), (.iconst 0, 1), (.istore_n 2, 1), (.iload_n 1, 1), (.ifCond .ge 11, 3), (.aload_n 0, 1), (.iconst 0, 1), (.putfield 128, 3), (.goto 206, 3)]),
  (63, [(.iload_n 1, 1), (.bipush 97, 2), (.bipush 122, 2), (.invokestatic 101, 3)]),
  (71, [(.ifCond .eq 76, 3)]),
  (74, [(.aload_n 0, 1), (.invokevirtual 117, 3)]),
  (78, [(.bipush 97, 2), (.bipush 122, 2), (.invokestatic 101, 3)]),
  (85, [(.ifCond .eq 36, 3), (.aload_n 0, 1), (.aload_n 0, 1), (.getfield 124, 3), (.bipush 8, 2), (.lshl, 1), (.aload_n 0, 1), (.invokevirtual 117, 3)]),
  (100, [(.i2l, 1), (.lor, 1), (.putfield 124, 3), (.aload_n 0, 1), (.dup, 1), (.getfield 111, 3), (.iconst 1, 1), (.iadd, 1), (.putfield 111, 3), (.iinc 2 1, 3), (.goto (-44), 3)]),
  (121, [(.aload_n 0, 1), (.iload_n 2, 1), (.bipush 8, 2), (.if_icmp .le 7, 3), (.lconst 0, 1), (.goto 7, 3)]),
  (132, [(.aload_n 0, 1), (.getfield 124, 3)]),
  (136, [(.putfield 124, 3), (.aload_n 0, 1), (.iconst 2, 1), (.putfield 128, 3), (.goto 122, 3)]),
  (147, [(.iload_n 1, 1), (.bipush 48, 2), (.bipush 57, 2), (.invokestatic 101, 3)]),
  (155, [(.ifCond .eq 86, 3), (.aload_n 0, 1), (.iconst 0, 1), (.putfield 131, 3)]),
  (163, [(.aload_n 0, 1), (.invokevirtual 117, 3)]),
  (167, [(.bipush 48, 2), (.bipush 57, 2), (.invokestatic 101, 3)]),
  (174, [(.ifCond .eq 50, 3), (.aload_n 0, 1), (.iload_n 2, 1), (.iconst 2, 1), (.if_icmp .ge 21, 3), (.bipush 10, 2), (.aload_n 0, 1), (.getfield 131, 3), (.imul, 1), (.aload_n 0, 1), (.invokevirtual 117, 3)]),
  (194, [(.iadd, 1), (.bipush 48, 2), (.isub, 1), (.goto 7, 3)]),
  (201, [(.aload_n 0, 1), (.getfield 131, 3)]),
  (205, [(.putfield 131, 3), (.aload_n 0, 1), (.dup, 1), (.getfield 111, 3), (.iconst 1, 1), (.iadd, 1), (.putfield 111, 3), (.iinc 2 1, 3), (.goto (-58), 3)]),
  (224, [(.aload_n 0, 1), (.iload_n 2, 1), (.iconst 2, 1), (.if_icmp .le 7, 3), (.iconst 1, 1), (.goto 4, 3)]),
  (234, [(.iconst 3, 1)]),
  (235, [(.putfield 128, 3), (.goto 28, 3)]),
  (241, [(.aload_n 0, 1), (.dup, 1), (.getfield 111, 3), (.iconst 1, 1), (.iadd, 1), (.putfield 111, 3), (.aload_n 0, 1), (.iload_n 1, 1), (.bipush 59, 2), (.if_icmp .ne 7, 3), (.iconst 4, 1), (.goto 4, 3)]),
  (262, [(.iconst 1, 1)]),
  (263, [(.putfield 128, 3)]),
  (266, [(.return_, 1)])]
def tb_X9_fails : tf_Bk := [(0, [(.aload_n 0, 1), (.aload_n 0, 1), (.getfield 121, 3), (.putfield 134, 3), (.iconst 0, 1), (.ireturn, 1)])]
def tb_X9_isBad : tf_Bk := [(0, [(.aload_n 0, 1), (.aload_n 0, 1), (.getfield 137, 3), (.iconst (-1), 1), (.if_icmp .ne 7, 3), (.iload_n 1, 1), (.goto 7, 3)]),
  (13, [(.aload_n 0, 1), (.getfield 137, 3)]),
  (17, [(.putfield 137, 3), (.return_, 1)])]
def tb_X9_takes : tf_Bk := [(0, [(.aload_n 0, 1), (.getfield 128, 3), (.iconst 3, 1), (.if_icmp .eq 8, 3), (.aload_n 0, 1), (.invokevirtual 140, 3)]),
  (12, [(.ireturn, 1)]),
  (13, [(.aload_n 0, 1), (.getfield 24, 3), (.iload_n 1, 1), (.aload_n 0, 1), (.getfield 131, 3), (.iastore, 1), (.aload_n 0, 1), (.getfield 131, 3), (.iload_n 2, 1), (.iload_n 3, 1), (.invokestatic 101, 3)]),
  (32, [(.ifCond .ne 18, 3), (.aload_n 0, 1), (.aload_n 0, 1), (.getfield 121, 3), (.invokevirtual 144, 3)]),
  (43, [(.aload_n 0, 1), (.getfield 24, 3), (.iload_n 1, 1), (.iload_n 2, 1), (.iastore, 1)]),
  (50, [(.aload_n 0, 1), (.invokevirtual 148, 3)]),
  (54, [(.iconst 1, 1), (.ireturn, 1)])]
def tb_X9_atFirst : tf_Bk := [(0, [(.aload_n 0, 1), (.iconst 2, 1), (.putfield 151, 3), (.aload_n 0, 1), (.iconst 0, 1), (.putfield 154, 3), (.aload_n 0, 1), (.iconst 0, 1), (.putfield 157, 3), (.iconst 0, 1), (.istore_n 1, 1)]),
  (17, [(.iload_n 1, 1), (.bipush 7, 2), (.if_icmp .ge 23, 3), (.aload_n 0, 1), (.getfield 27, 3), (.iload_n 1, 1), (.iconst 0, 1), (.iastore, 1), (.aload_n 0, 1), (.getfield 33, 3), (.iload_n 1, 1), (.iconst (-1), 1), (.iastore, 1), (.iinc 1 1, 3), (.goto (-23), 3)]),
  (43, [(.iconst 0, 1), (.istore_n 1, 1)]),
  (45, [(.iload_n 1, 1), (.bipush 98, 2), (.if_icmp .ge 16, 3), (.aload_n 0, 1), (.getfield 30, 3), (.iload_n 1, 1), (.iconst 0, 1), (.iastore, 1), (.iinc 1 1, 3), (.goto (-16), 3)]),
  (64, [(.aload_n 0, 1), (.iconst (-1), 1), (.putfield 137, 3), (.aload_n 0, 1), (.iconst 0, 1), (.putfield 111, 3), (.return_, 1)])]
def tb_X9_takesPoint : tf_Bk := [(0, [(.aload_n 0, 1), (.getfield 121, 3), (.istore_n 3, 1), (.aload_n 0, 1), (.iload_n 1, 1), (.iconst 0, 1), (.bipush 6, 2), (.invokevirtual 160, 3)]),
  (13, [(.ifCond .ne 5, 3), (.iconst 0, 1), (.ireturn, 1)]),
  (18, [(.aload_n 0, 1), (.getfield 24, 3), (.iload_n 1, 1), (.iaload, 1), (.iload_n 2, 1), (.if_icmp .ne 8, 3), (.aload_n 0, 1), (.iload_n 3, 1), (.invokevirtual 144, 3)]),
  (33, [(.aload_n 0, 1), (.getfield 33, 3), (.aload_n 0, 1), (.getfield 24, 3), (.iload_n 1, 1), (.iaload, 1), (.aload_n 0, 1), (.getfield 33, 3), (.aload_n 0, 1), (.getfield 24, 3), (.iload_n 1, 1), (.iaload, 1), (.iaload, 1), (.iconst (-1), 1), (.if_icmp .ne 7, 3), (.iload_n 3, 1), (.goto 14, 3)]),
  (62, [(.aload_n 0, 1), (.getfield 33, 3), (.aload_n 0, 1), (.getfield 24, 3), (.iload_n 1, 1), (.iaload, 1), (.iaload, 1)]),
  (73, [(.iastore, 1), (.iconst 1, 1), (.ireturn, 1)])]
def tb_X9_arcLine : tf_Bk := [(0, [(.aload_n 0, 1), (.getfield 154, 3), (.bipush 14, 2), (.if_icmp .ne 11, 3), (.aload_n 0, 1), (.aload_n 0, 1), (.getfield 121, 3), (.invokevirtual 144, 3)]),
  (17, [(.aload_n 0, 1), (.invokevirtual 148, 3)]),
  (21, [(.aload_n 0, 1), (.iconst 0, 1), (.iconst (-1), 1), (.invokevirtual 163, 3)]),
  (27, [(.ifCond .eq 39, 3), (.aload_n 0, 1), (.iconst 1, 1), (.aload_n 0, 1), (.getfield 24, 3), (.iconst 0, 1), (.iaload, 1), (.invokevirtual 163, 3)]),
  (41, [(.ifCond .eq 25, 3), (.aload_n 0, 1), (.iconst 2, 1), (.iconst 0, 1), (.bipush 99, 2), (.invokevirtual 160, 3)]),
  (52, [(.ifCond .eq 14, 3), (.aload_n 0, 1), (.iconst 3, 1), (.iconst 0, 1), (.bipush 99, 2), (.invokevirtual 160, 3)]),
  (63, [(.ifCond .ne 5, 3)]),
  (66, [(.iconst 0, 1), (.ireturn, 1)]),
  (68, [(.aload_n 0, 1), (.getfield 154, 3), (.bipush 14, 2), (.if_icmp .ge 79, 3), (.bipush 7, 2), (.aload_n 0, 1), (.getfield 154, 3), (.imul, 1), (.istore_n 2, 1), (.aload_n 0, 1), (.getfield 30, 3), (.iload_n 2, 1), (.iconst 0, 1), (.iadd, 1), (.aload_n 0, 1), (.getfield 24, 3), (.iconst 0, 1), (.iaload, 1), (.iastore, 1), (.aload_n 0, 1), (.getfield 30, 3), (.iload_n 2, 1), (.iconst 1, 1), (.iadd, 1), (.aload_n 0, 1), (.getfield 24, 3), (.iconst 1, 1), (.iaload, 1), (.iastore, 1), (.aload_n 0, 1), (.getfield 30, 3), (.iload_n 2, 1), (.iconst 2, 1), (.iadd, 1), (.aload_n 0, 1), (.getfield 24, 3), (.iconst 2, 1), (.iaload, 1), (.iastore, 1), (.aload_n 0, 1), (.getfield 30, 3), (.iload_n 2, 1), (.iconst 3, 1), (.iadd, 1), (.iload_n 1, 1), (.aload_n 0, 1), (.getfield 24, 3), (.iconst 3, 1), (.iaload, 1), (.imul, 1), (.iastore, 1), (.aload_n 0, 1), (.dup, 1), (.getfield 154, 3), (.iconst 1, 1), (.iadd, 1), (.putfield 154, 3)]),
  (153, [(.iconst 1, 1), (.ireturn, 1)])]
def tb_X9_ruleBy : tf_Bk := [(0, [(.lload_n 0, 1), (.ldc2_w 167, 3), (.lcmp, 1), (.ifCond .ne 7, 3), (.iconst 0, 1), (.goto 28, 3)]),
  (12, [(.lload_n 0, 1), (.ldc2_w 169, 3), (.lcmp, 1), (.ifCond .ne 7, 3), (.iconst 1, 1), (.goto 16, 3)]),
  (24, [(.lload_n 0, 1), (.ldc2_w 171, 3), (.lcmp, 1), (.ifCond .ne 7, 3), (.iconst 2, 1), (.goto 4, 3)]),
  (36, [(.iconst (-1), 1)]),
  (37, [(.ireturn, 1)])]
def tb_X9_gridLine : tf_Bk := [(0, [(.lload_n 1, 1), (.ldc2_w 173, 3), (.lcmp, 1), (.ifCond .eq 11, 3), (.lload_n 1, 1), (.ldc2_w 175, 3), (.lcmp, 1), (.ifCond .ne 21, 3)]),
  (16, [(.aload_n 0, 1), (.lload_n 1, 1), (.ldc2_w 173, 3), (.lcmp, 1), (.ifCond .ne 7, 3), (.iconst 1, 1), (.goto 4, 3)]),
  (29, [(.iconst (-1), 1)]),
  (30, [(.invokevirtual 177, 3)]),
  (33, [(.ireturn, 1)]),
  (34, [(.lload_n 1, 1), (.invokestatic 180, 3)]),
  (38, [(.iconst (-1), 1), (.if_icmp .eq 17, 3), (.aload_n 0, 1), (.lload_n 1, 1), (.invokestatic 180, 3)]),
  (47, [(.putfield 157, 3), (.aload_n 0, 1), (.invokevirtual 148, 3)]),
  (54, [(.iconst 1, 1), (.ireturn, 1)]),
  (56, [(.lload_n 1, 1), (.ldc2_w 184, 3), (.lcmp, 1), (.ifCond .ne 28, 3), (.aload_n 0, 1), (.invokevirtual 148, 3)]),
  (68, [(.aload_n 0, 1), (.iconst 0, 1), (.iconst 2, 1), (.bipush 7, 2), (.invokevirtual 160, 3)]),
  (76, [(.istore_n 3, 1), (.aload_n 0, 1), (.aload_n 0, 1), (.getfield 24, 3), (.iconst 0, 1), (.iaload, 1), (.putfield 151, 3), (.iload_n 3, 1), (.ireturn, 1)]),
  (89, [(.lload_n 1, 1), (.ldc2_w 186, 3), (.lcmp, 1), (.ifCond .ne 63, 3), (.aload_n 0, 1), (.invokevirtual 148, 3)]),
  (101, [(.aload_n 0, 1), (.iconst 0, 1), (.iconst 0, 1), (.aload_n 0, 1), (.getfield 154, 3), (.iconst 1, 1), (.isub, 1), (.invokevirtual 160, 3)]),
  (113, [(.istore_n 3, 1), (.iload_n 3, 1), (.ifCond .eq 40, 3), (.aload_n 0, 1), (.getfield 24, 3), (.iconst 0, 1), (.iaload, 1), (.iconst 0, 1), (.aload_n 0, 1), (.getfield 154, 3), (.iconst 1, 1), (.isub, 1), (.invokestatic 101, 3)]),
  (134, [(.ifCond .eq 21, 3), (.aload_n 0, 1), (.getfield 30, 3), (.bipush 7, 2), (.aload_n 0, 1), (.getfield 24, 3), (.iconst 0, 1), (.iaload, 1), (.imul, 1), (.bipush 6, 2), (.iadd, 1), (.iconst 1, 1), (.iastore, 1)]),
  (155, [(.iload_n 3, 1), (.ireturn, 1)]),
  (157, [(.lload_n 1, 1), (.ldc2_w 188, 3), (.lcmp, 1), (.ifCond .eq 16, 3), (.lload_n 1, 1), (.ldc2_w 190, 3), (.lcmp, 1), (.ifCond .eq 8, 3), (.aload_n 0, 1), (.invokevirtual 140, 3)]),
  (177, [(.ireturn, 1)]),
  (178, [(.aload_n 0, 1), (.invokevirtual 148, 3)]),
  (182, [(.aload_n 0, 1), (.iconst 0, 1), (.iconst (-1), 1), (.invokevirtual 163, 3)]),
  (188, [(.ifCond .eq 14, 3), (.aload_n 0, 1), (.iconst 1, 1), (.iconst 0, 1), (.bipush 99, 2), (.invokevirtual 160, 3)]),
  (199, [(.ifCond .ne 5, 3)]),
  (202, [(.iconst 0, 1), (.ireturn, 1)]),
  (204, [(.aload_n 0, 1), (.getfield 27, 3), (.aload_n 0, 1), (.getfield 24, 3), (.iconst 0, 1), (.iaload, 1), (.lload_n 1, 1), (.ldc2_w 188, 3), (.lcmp, 1), (.ifCond .ne 12, 3), (.aload_n 0, 1), (.getfield 24, 3), (.iconst 1, 1), (.iaload, 1), (.goto 10, 3)]),
  (231, [(.aload_n 0, 1), (.getfield 24, 3), (.iconst 1, 1), (.iaload, 1), (.ineg, 1)]),
  (238, [(.iastore, 1), (.iconst 1, 1), (.ireturn, 1)])]
def tb_X9_orderLine : tf_Bk := [(0, [(.lload_n 1, 1), (.ldc2_w 192, 3), (.lcmp, 1), (.ifCond .eq 11, 3), (.lload_n 1, 1), (.invokestatic 180, 3)]),
  (12, [(.iconst (-1), 1), (.if_icmp .eq 7, 3)]),
  (16, [(.iconst 1, 1), (.goto 4, 3)]),
  (20, [(.iconst 0, 1)]),
  (21, [(.istore_n 3, 1), (.lload_n 1, 1), (.ldc2_w 194, 3), (.lcmp, 1), (.ifCond .eq 19, 3), (.lload_n 1, 1), (.ldc2_w 186, 3), (.lcmp, 1), (.ifCond .eq 11, 3), (.lload_n 1, 1), (.ldc2_w 196, 3), (.lcmp, 1), (.ifCond .ne 7, 3)]),
  (46, [(.iconst 1, 1), (.goto 4, 3)]),
  (50, [(.iconst 0, 1)]),
  (51, [(.istore 4, 2), (.lload_n 1, 1), (.ldc2_w 198, 3), (.lcmp, 1), (.ifCond .eq 19, 3), (.lload_n 1, 1), (.ldc2_w 200, 3), (.lcmp, 1), (.ifCond .eq 11, 3), (.lload_n 1, 1), (.ldc2_w 175, 3), (.lcmp, 1), (.ifCond .ne 7, 3)]),
  (77, [(.iconst 1, 1), (.goto 4, 3)]),
  (81, [(.iconst 0, 1)]),
  (82, [(.istore 5, 2), (.iload_n 3, 1), (.ifCond .ne 26, 3), (.iload 4, 2), (.ifCond .ne 21, 3), (.iload 5, 2), (.ifCond .ne 16, 3), (.lload_n 1, 1), (.ldc2_w 202, 3), (.lcmp, 1), (.ifCond .eq 8, 3), (.aload_n 0, 1), (.invokevirtual 140, 3)]),
  (110, [(.ireturn, 1)]),
  (111, [(.aload_n 0, 1), (.invokevirtual 148, 3)]),
  (115, [(.aload_n 0, 1), (.getfield 24, 3), (.iconst 1, 1), (.iconst 0, 1), (.iastore, 1), (.aload_n 0, 1), (.getfield 24, 3), (.iconst 2, 1), (.iconst 0, 1), (.iastore, 1), (.iload_n 3, 1), (.ifCond .ne 58, 3), (.lload_n 1, 1), (.ldc2_w 194, 3), (.lcmp, 1), (.ifCond .ne 17, 3), (.aload_n 0, 1), (.iconst 0, 1), (.iconst 1, 1), (.bipush 60, 2), (.invokevirtual 160, 3)]),
  (149, [(.ifCond .eq 43, 3), (.goto 36, 3)]),
  (155, [(.lload_n 1, 1), (.ldc2_w 202, 3), (.lcmp, 1), (.ifCond .ne 17, 3), (.aload_n 0, 1), (.iconst 0, 1), (.iconst 0, 1), (.bipush 6, 2), (.invokevirtual 160, 3)]),
  (171, [(.ifCond .eq 21, 3), (.goto 14, 3)]),
  (177, [(.aload_n 0, 1), (.iconst 0, 1), (.iconst 0, 1), (.bipush 13, 2), (.invokevirtual 160, 3)]),
  (185, [(.ifCond .eq 7, 3)]),
  (188, [(.iconst 1, 1), (.goto 4, 3)]),
  (192, [(.iconst 0, 1)]),
  (193, [(.istore 6, 2), (.iload 6, 2), (.ifCond .eq 49, 3), (.iload_n 3, 1), (.ifCond .ne 41, 3), (.iload 4, 2), (.ifCond .ne 36, 3), (.lload_n 1, 1), (.ldc2_w 202, 3), (.lcmp, 1), (.ifCond .ne 17, 3), (.aload_n 0, 1), (.iconst 1, 1), (.iconst 0, 1), (.bipush 6, 2), (.invokevirtual 160, 3)]),
  (225, [(.ifCond .eq 21, 3), (.goto 14, 3)]),
  (231, [(.aload_n 0, 1), (.iconst 1, 1), (.iconst 0, 1), (.bipush 99, 2), (.invokevirtual 160, 3)]),
  (239, [(.ifCond .eq 7, 3)]),
  (242, [(.iconst 1, 1), (.goto 4, 3)]),
  (246, [(.iconst 0, 1)]),
  (247, [(.istore 6, 2), (.iload 6, 2), (.ifCond .eq 26, 3), (.lload_n 1, 1), (.ldc2_w 202, 3), (.lcmp, 1), (.ifCond .ne 14, 3), (.aload_n 0, 1), (.iconst 2, 1), (.iconst 1, 1), (.bipush 99, 2), (.invokevirtual 160, 3)]),
  (270, [(.ifCond .eq 7, 3)]),
  (273, [(.iconst 1, 1), (.goto 4, 3)]),
  (277, [(.iconst 0, 1)]),
  (278, [(.istore 6, 2), (.aload_n 0, 1), (.getfield 36, 3), (.aload_n 0, 1), (.getfield 204, 3), (.lload_n 1, 1), (.lastore, 1), (.iconst 0, 1), (.istore 7, 2)]),
  (293, [(.iload 7, 2), (.iconst 3, 1), (.if_icmp .ge 30, 3), (.aload_n 0, 1), (.getfield 40, 3), (.iconst 4, 1), (.aload_n 0, 1), (.getfield 204, 3), (.imul, 1), (.iload 7, 2), (.iadd, 1), (.aload_n 0, 1), (.getfield 24, 3), (.iload 7, 2), (.iaload, 1), (.iastore, 1), (.iinc 7 1, 3), (.goto (-30), 3)]),
  (326, [(.aload_n 0, 1), (.dup, 1), (.getfield 204, 3), (.iconst 1, 1), (.iadd, 1), (.putfield 204, 3), (.iload 6, 2), (.ireturn, 1)])]
def tb_X9_allLines : tf_Bk := [(0, [(.aload_n 0, 1), (.aload_n 0, 1), (.getfield 7, 3), (.sipush 170, 3), (.iaload, 1), (.putfield 114, 3), (.aload_n 0, 1), (.getfield 7, 3), (.sipush 170, 3), (.iconst 0, 1), (.iastore, 1), (.aload_n 0, 1), (.iconst (-1), 1), (.putfield 137, 3), (.aload_n 0, 1), (.iconst 0, 1), (.putfield 111, 3), (.aload_n 0, 1), (.iconst 0, 1), (.putfield 204, 3), (.aload_n 0, 1), (.invokevirtual 148, 3)]),
  (40, [(.iconst 1, 1), (.istore_n 2, 1)]),
  (42, [(.iload_n 2, 1), (.ifCond .eq 73, 3), (.aload_n 0, 1), (.getfield 128, 3), (.ifCond .eq 66, 3), (.aload_n 0, 1), (.getfield 128, 3), (.iconst 2, 1), (.if_icmp .ne 10, 3), (.aload_n 0, 1), (.getfield 124, 3), (.goto 4, 3)]),
  (68, [(.lconst 0, 1)]),
  (69, [(.lstore_n 3, 1), (.iload_n 1, 1), (.ifCond .eq 11, 3), (.aload_n 0, 1), (.lload_n 3, 1), (.invokevirtual 207, 3)]),
  (79, [(.goto 8, 3)]),
  (82, [(.aload_n 0, 1), (.lload_n 3, 1), (.invokevirtual 211, 3)]),
  (87, [(.istore_n 2, 1), (.iload_n 2, 1), (.ifCond .eq 16, 3), (.aload_n 0, 1), (.getfield 128, 3), (.iconst 4, 1), (.if_icmp .eq 8, 3), (.aload_n 0, 1), (.invokevirtual 140, 3)]),
  (104, [(.istore_n 2, 1)]),
  (105, [(.iload_n 2, 1), (.ifCond .eq 7, 3), (.aload_n 0, 1), (.invokevirtual 148, 3)]),
  (113, [(.goto (-71), 3)]),
  (116, [(.iload_n 2, 1), (.ireturn, 1)])]
def tb_X9_missing : tf_Bk := [(0, [(.iconst (-1), 1), (.istore_n 1, 1), (.aload_n 0, 1), (.getfield 151, 3), (.istore_n 2, 1)]),
  (7, [(.iload_n 2, 1), (.bipush 7, 2), (.if_icmp .ge 45, 3), (.aload_n 0, 1), (.getfield 33, 3), (.iload_n 2, 1), (.iaload, 1), (.iconst (-1), 1), (.if_icmp .eq 27, 3), (.iload_n 1, 1), (.iconst (-1), 1), (.if_icmp .eq 13, 3), (.aload_n 0, 1), (.getfield 33, 3), (.iload_n 2, 1), (.iaload, 1), (.iload_n 1, 1), (.if_icmp .ge 12, 3)]),
  (38, [(.aload_n 0, 1), (.getfield 33, 3), (.iload_n 2, 1), (.iaload, 1), (.goto 4, 3)]),
  (47, [(.iload_n 1, 1)]),
  (48, [(.istore_n 1, 1), (.iinc 2 1, 3), (.goto (-45), 3)]),
  (55, [(.iload_n 1, 1), (.ireturn, 1)])]
def tb_X9_isFaulty : tf_Bk := [(0, [(.aload_n 0, 1), (.getfield 7, 3), (.sipush 171, 3), (.iload_n 1, 1), (.iastore, 1), (.aload_n 0, 1), (.getfield 7, 3), (.sipush 172, 3), (.iload_n 2, 1), (.iastore, 1), (.return_, 1)])]
def tb_X9_taken : tf_Bk := [(0, [(.iconst 0, 1), (.istore_n 1, 1)]),
  (2, [(.iload_n 1, 1), (.sipush 170, 3), (.if_icmp .ge 16, 3), (.aload_n 0, 1), (.getfield 7, 3), (.iload_n 1, 1), (.iconst 0, 1), (.iastore, 1), (.iinc 1 1, 3), (.goto (-17), 3)]),
  (22, [(.aload_n 0, 1), (.getfield 7, 3), (.iconst 0, 1), (.aload_n 0, 1), (.getfield 151, 3), (.iastore, 1), (.aload_n 0, 1), (.getfield 7, 3), (.iconst 1, 1), (.aload_n 0, 1), (.getfield 154, 3), (.iastore, 1), (.aload_n 0, 1), (.getfield 7, 3), (.iconst 2, 1), (.aload_n 0, 1), (.getfield 157, 3), (.iastore, 1), (.aload_n 0, 1), (.getfield 7, 3), (.bipush 6, 2), (.iconst (-1), 1), (.iastore, 1), (.iconst 0, 1), (.istore_n 1, 1)]),
  (62, [(.iload_n 1, 1), (.bipush 7, 2), (.if_icmp .ge 24, 3), (.aload_n 0, 1), (.getfield 7, 3), (.bipush 44, 2), (.iload_n 1, 1), (.iadd, 1), (.aload_n 0, 1), (.getfield 27, 3), (.iload_n 1, 1), (.iaload, 1), (.iastore, 1), (.iinc 1 1, 3), (.goto (-24), 3)]),
  (89, [(.iconst 0, 1), (.istore_n 1, 1)]),
  (91, [(.iload_n 1, 1), (.bipush 98, 2), (.if_icmp .ge 24, 3), (.aload_n 0, 1), (.getfield 7, 3), (.bipush 72, 2), (.iload_n 1, 1), (.iadd, 1), (.aload_n 0, 1), (.getfield 30, 3), (.iload_n 1, 1), (.iaload, 1), (.iastore, 1), (.iinc 1 1, 3), (.goto (-24), 3)]),
  (118, [(.aload_n 0, 1), (.iconst 0, 1), (.putfield 214, 3), (.aload_n 0, 1), (.iconst 0, 1), (.invokevirtual 217, 3)]),
  (128, [(.return_, 1)])]
def tb_X9_lay : tf_Bk := [(0, [(.aload_n 0, 1), (.iconst 0, 1), (.putfield 97, 3), (.aload_n 0, 1), (.invokevirtual 91, 3)]),
  (9, [(.aload_n 0, 1), (.iconst 1, 1), (.invokevirtual 221, 3)]),
  (14, [(.istore_n 1, 1), (.iconst 0, 1), (.istore_n 2, 1), (.iconst 0, 1), (.istore_n 3, 1)]),
  (19, [(.iload_n 3, 1), (.bipush 7, 2), (.if_icmp .ge 18, 3), (.iload_n 2, 1), (.aload_n 0, 1), (.getfield 27, 3), (.iload_n 3, 1), (.iaload, 1), (.iadd, 1), (.istore_n 2, 1), (.iinc 3 1, 3), (.goto (-18), 3)]),
  (40, [(.iload_n 1, 1), (.ifCond .ne 15, 3), (.aload_n 0, 1), (.iconst 1, 1), (.aload_n 0, 1), (.getfield 134, 3), (.invokevirtual 225, 3)]),
  (53, [(.goto 68, 3)]),
  (56, [(.aload_n 0, 1), (.getfield 137, 3), (.iconst (-1), 1), (.if_icmp .eq 15, 3), (.aload_n 0, 1), (.iconst 2, 1), (.aload_n 0, 1), (.getfield 137, 3), (.invokevirtual 225, 3)]),
  (73, [(.goto 48, 3)]),
  (76, [(.aload_n 0, 1), (.invokevirtual 229, 3)]),
  (80, [(.iconst (-1), 1), (.if_icmp .eq 15, 3), (.aload_n 0, 1), (.iconst 3, 1), (.aload_n 0, 1), (.invokevirtual 229, 3)]),
  (90, [(.invokevirtual 225, 3)]),
  (93, [(.goto 28, 3)]),
  (96, [(.aload_n 0, 1), (.iload_n 2, 1), (.ifCond .ne 7, 3), (.iconst 0, 1), (.goto 4, 3)]),
  (105, [(.iconst 4, 1)]),
  (106, [(.iload_n 2, 1), (.ifCond .ne 7, 3), (.iconst (-1), 1), (.goto 7, 3)]),
  (114, [(.aload_n 0, 1), (.getfield 114, 3)]),
  (118, [(.invokevirtual 225, 3)]),
  (121, [(.aload_n 0, 1), (.getfield 7, 3), (.sipush 171, 3), (.iaload, 1), (.ifCond .eq 5, 3), (.iconst (-1), 1), (.ireturn, 1)]),
  (134, [(.aload_n 0, 1), (.invokevirtual 94, 3)]),
  (138, [(.aload_n 0, 1), (.getfield 7, 3), (.iconst 1, 1), (.iaload, 1), (.ireturn, 1)])]
def tb_X9_fault : tf_Bk := [(0, [(.aload_n 0, 1), (.iconst 0, 1), (.putfield 97, 3), (.iload_n 1, 1), (.ifCond .eq 14, 3), (.aload_n 0, 1), (.getfield 7, 3), (.sipush 172, 3), (.iaload, 1), (.goto 11, 3)]),
  (20, [(.aload_n 0, 1), (.getfield 7, 3), (.sipush 171, 3), (.iaload, 1)]),
  (28, [(.ireturn, 1)])]
def tb_X9_root : tf_Bk := [(0, [(.aload_n 0, 1), (.getfield 7, 3), (.iconst 0, 1), (.iaload, 1), (.ireturn, 1)])]
def tb_X9_isLoan : tf_Bk := [(0, [(.iload_n 0, 1), (.bipush 100, 2), (.if_icmp .lt 7, 3), (.iconst 1, 1), (.goto 4, 3)]),
  (10, [(.iconst 0, 1)]),
  (11, [(.ireturn, 1)])]
def tb_X9_hangs : tf_Bk := [(0, [(.aload_n 0, 1), (.iload_n 1, 1), (.iconst 5, 1), (.invokevirtual 232, 3)]),
  (6, [(.iconst 2, 1), (.if_icmp .ne 7, 3), (.iconst 1, 1), (.goto 4, 3)]),
  (14, [(.iconst 0, 1)]),
  (15, [(.ireturn, 1)])]
def tb_X9_settles : tf_Bk := [(0, [(.aload_n 0, 1), (.getfield 43, 3), (.iload_n 1, 1), (.iload_n 2, 1), (.iastore, 1), (.aload_n 0, 1), (.getfield 46, 3), (.iload_n 1, 1), (.iload_n 3, 1), (.iastore, 1), (.aload_n 0, 1), (.getfield 49, 3), (.iload_n 1, 1), (.aload_n 0, 1), (.getfield 49, 3), (.iload_n 2, 1), (.iaload, 1), (.iconst 1, 1), (.iadd, 1), (.iastore, 1), (.aload_n 0, 1), (.getfield 52, 3), (.iload_n 1, 1), (.iload 4, 2), (.iastore, 1), (.return_, 1)])]
def tb_X9_laysTree : tf_Bk := [(0, [(.iconst 0, 1), (.istore_n 1, 1)]),
  (2, [(.iload_n 1, 1), (.bipush 7, 2), (.if_icmp .gt 37, 3), (.aload_n 0, 1), (.getfield 43, 3), (.iload_n 1, 1), (.iconst (-1), 1), (.iastore, 1), (.aload_n 0, 1), (.getfield 46, 3), (.iload_n 1, 1), (.iconst (-1), 1), (.iastore, 1), (.aload_n 0, 1), (.getfield 49, 3), (.iload_n 1, 1), (.iconst 0, 1), (.iastore, 1), (.aload_n 0, 1), (.getfield 52, 3), (.iload_n 1, 1), (.iconst 0, 1), (.iastore, 1), (.iinc 1 1, 3), (.goto (-37), 3)]),
  (42, [(.iconst 0, 1), (.istore_n 1, 1)]),
  (44, [(.iload_n 1, 1), (.aload_n 0, 1), (.getfield 7, 3), (.iconst 0, 1), (.iaload, 1), (.if_icmp .ge 57, 3), (.aload_n 0, 1), (.getfield 7, 3), (.bipush 51, 2), (.iload_n 1, 1), (.iadd, 1), (.iaload, 1), (.iconst 1, 1), (.if_icmp .ne 38, 3), (.aload_n 0, 1), (.iload_n 1, 1), (.aload_n 0, 1), (.invokevirtual 236, 3)]),
  (73, [(.bipush 100, 2), (.iload_n 1, 1), (.iadd, 1), (.aload_n 0, 1), (.getfield 7, 3), (.bipush 58, 2), (.iload_n 1, 1), (.iadd, 1), (.iaload, 1), (.iconst 1, 1), (.if_icmp .ne 9, 3), (.sipush (-10000), 3), (.goto 6, 3)]),
  (96, [(.sipush 10000, 3)]),
  (99, [(.invokevirtual 239, 3)]),
  (102, [(.iinc 1 1, 3), (.goto (-61), 3)]),
  (108, [(.iconst 0, 1), (.istore_n 1, 1)]),
  (110, [(.iload_n 1, 1), (.aload_n 0, 1), (.getfield 7, 3), (.iconst 0, 1), (.iaload, 1), (.if_icmp .ge 146, 3), (.iconst 0, 1), (.istore_n 2, 1)]),
  (122, [(.iload_n 2, 1), (.aload_n 0, 1), (.getfield 7, 3), (.iconst 1, 1), (.iaload, 1), (.if_icmp .ge 128, 3), (.aload_n 0, 1), (.iload_n 2, 1), (.iconst 0, 1), (.invokevirtual 232, 3)]),
  (138, [(.istore_n 3, 1), (.aload_n 0, 1), (.iload_n 2, 1), (.iconst 1, 1), (.invokevirtual 232, 3)]),
  (145, [(.istore 4, 2), (.aload_n 0, 1), (.iload_n 2, 1), (.invokevirtual 243, 3)]),
  (152, [(.ifCond .eq 48, 3), (.aload_n 0, 1), (.getfield 43, 3), (.iload_n 3, 1), (.iaload, 1), (.iconst (-1), 1), (.if_icmp .eq 38, 3), (.aload_n 0, 1), (.getfield 43, 3), (.iload 4, 2), (.iaload, 1), (.iconst (-1), 1), (.if_icmp .ne 27, 3), (.aload_n 0, 1), (.iload 4, 2), (.iload_n 3, 1), (.iload_n 2, 1), (.aload_n 0, 1), (.getfield 52, 3), (.iload_n 3, 1), (.iaload, 1), (.aload_n 0, 1), (.iload_n 2, 1), (.iconst 3, 1), (.invokevirtual 232, 3)]),
  (193, [(.iadd, 1), (.invokevirtual 239, 3)]),
  (197, [(.goto 54, 3)]),
  (200, [(.aload_n 0, 1), (.iload_n 2, 1), (.invokevirtual 243, 3)]),
  (205, [(.ifCond .eq 46, 3), (.aload_n 0, 1), (.getfield 43, 3), (.iload 4, 2), (.iaload, 1), (.iconst (-1), 1), (.if_icmp .eq 35, 3), (.aload_n 0, 1), (.getfield 43, 3), (.iload_n 3, 1), (.iaload, 1), (.iconst (-1), 1), (.if_icmp .ne 25, 3), (.aload_n 0, 1), (.iload_n 3, 1), (.iload 4, 2), (.iload_n 2, 1), (.aload_n 0, 1), (.getfield 52, 3), (.iload 4, 2), (.iaload, 1), (.aload_n 0, 1), (.iload_n 2, 1), (.iconst 3, 1), (.invokevirtual 232, 3)]),
  (247, [(.isub, 1), (.invokevirtual 239, 3)]),
  (251, [(.iinc 2 1, 3), (.goto (-132), 3)]),
  (257, [(.iinc 1 1, 3), (.goto (-150), 3)]),
  (263, [(.return_, 1)])]
def tb_X9_reduced : tf_Bk := [(0, [(.aload_n 0, 1), (.iload_n 1, 1), (.iconst 3, 1), (.invokevirtual 232, 3)]),
  (6, [(.aload_n 0, 1), (.getfield 52, 3), (.aload_n 0, 1), (.iload_n 1, 1), (.iconst 0, 1), (.invokevirtual 232, 3)]),
  (16, [(.iaload, 1), (.iadd, 1), (.aload_n 0, 1), (.getfield 52, 3), (.aload_n 0, 1), (.iload_n 1, 1), (.iconst 1, 1), (.invokevirtual 232, 3)]),
  (28, [(.iaload, 1), (.isub, 1), (.ireturn, 1)])]
def tb_X9_offers : tf_Bk := [(0, [(.aload_n 0, 1), (.iload_n 1, 1), (.invokevirtual 246, 3)]),
  (5, [(.istore_n 2, 1), (.aload_n 0, 1), (.iload_n 1, 1), (.bipush 6, 2), (.invokevirtual 232, 3)]),
  (13, [(.ifCond .ne 43, 3), (.aload_n 0, 1), (.iload_n 1, 1), (.iconst 2, 1), (.invokevirtual 232, 3)]),
  (22, [(.ifCond .le 34, 3), (.aload_n 0, 1), (.iload_n 1, 1), (.iconst 5, 1), (.invokevirtual 232, 3)]),
  (31, [(.ifCond .ne 7, 3), (.iload_n 2, 1), (.ifCond .lt 17, 3)]),
  (38, [(.aload_n 0, 1), (.iload_n 1, 1), (.iconst 5, 1), (.invokevirtual 232, 3)]),
  (44, [(.iconst 1, 1), (.if_icmp .ne 11, 3), (.iload_n 2, 1), (.ifCond .le 7, 3)]),
  (52, [(.iconst 1, 1), (.goto 4, 3)]),
  (56, [(.iconst 0, 1)]),
  (57, [(.ireturn, 1)])]
def tb_X9_isBest : tf_Bk := [(0, [(.aload_n 0, 1), (.invokevirtual 250, 3)]),
  (4, [(.aload_n 0, 1), (.invokevirtual 253, 3)]),
  (8, [(.ifCond .ne 7, 3), (.iconst 1, 1), (.goto 4, 3)]),
  (15, [(.iconst 0, 1)]),
  (16, [(.ireturn, 1)])]
def tb_X9_offerMany : tf_Bk := [(0, [(.iconst 0, 1), (.istore_n 1, 1), (.iconst 0, 1), (.istore_n 2, 1)]),
  (4, [(.iload_n 2, 1), (.aload_n 0, 1), (.getfield 7, 3), (.iconst 1, 1), (.iaload, 1), (.if_icmp .ge 25, 3), (.iload_n 1, 1), (.aload_n 0, 1), (.iload_n 2, 1), (.invokevirtual 256, 3)]),
  (20, [(.ifCond .eq 7, 3), (.iconst 1, 1), (.goto 4, 3)]),
  (27, [(.iconst 0, 1)]),
  (28, [(.iadd, 1), (.istore_n 1, 1), (.iinc 2 1, 3), (.goto (-29), 3)]),
  (36, [(.iload_n 1, 1), (.ireturn, 1)])]
def tb_X9_farOf : tf_Bk := [(0, [(.aload_n 0, 1), (.iload_n 1, 1), (.invokevirtual 246, 3)]),
  (5, [(.istore_n 2, 1), (.iload_n 2, 1), (.ifCond .ge 8, 3), (.iload_n 2, 1), (.ineg, 1), (.goto 4, 3)]),
  (15, [(.iload_n 2, 1)]),
  (16, [(.ireturn, 1)])]
def tb_X9_enters : tf_Bk := [(0, [(.iconst (-1), 1), (.istore_n 1, 1), (.iconst 0, 1), (.istore_n 2, 1)]),
  (4, [(.iload_n 2, 1), (.aload_n 0, 1), (.getfield 7, 3), (.iconst 1, 1), (.iaload, 1), (.if_icmp .ge 99, 3), (.aload_n 0, 1), (.getfield 7, 3), (.iconst 2, 1), (.iaload, 1), (.iconst 2, 1), (.if_icmp .ne 24, 3), (.aload_n 0, 1), (.getfield 7, 3), (.bipush 6, 2), (.iaload, 1), (.iconst 1, 1), (.iadd, 1), (.iload_n 2, 1), (.iadd, 1), (.aload_n 0, 1), (.getfield 7, 3), (.iconst 1, 1), (.iaload, 1), (.irem, 1), (.goto 4, 3)]),
  (45, [(.iload_n 2, 1)]),
  (46, [(.istore_n 3, 1), (.aload_n 0, 1), (.iload_n 3, 1), (.invokevirtual 256, 3)]),
  (52, [(.ifCond .ne 6, 3), (.goto 49, 3)]),
  (58, [(.iload_n 1, 1), (.iconst (-1), 1), (.if_icmp .eq 26, 3), (.aload_n 0, 1), (.getfield 7, 3), (.iconst 2, 1), (.iaload, 1), (.iconst 1, 1), (.if_icmp .ne 20, 3), (.aload_n 0, 1), (.iload_n 3, 1), (.invokevirtual 259, 3)]),
  (78, [(.aload_n 0, 1), (.iload_n 1, 1), (.invokevirtual 259, 3)]),
  (83, [(.if_icmp .le 7, 3)]),
  (86, [(.iconst 1, 1), (.goto 4, 3)]),
  (90, [(.iconst 0, 1)]),
  (91, [(.istore 4, 2), (.iload 4, 2), (.ifCond .eq 7, 3), (.iload_n 3, 1), (.goto 4, 3)]),
  (102, [(.iload_n 1, 1)]),
  (103, [(.istore_n 1, 1)]),
  (104, [(.iinc 2 1, 3), (.goto (-103), 3)]),
  (110, [(.iload_n 1, 1), (.ireturn, 1)])]
def tb_X9_isAlong : tf_Bk := [(0, [(.iload_n 1, 1), (.invokestatic 262, 3)]),
  (4, [(.ifCond .eq 48, 3), (.aload_n 0, 1), (.getfield 7, 3), (.bipush 58, 2), (.iload_n 1, 1), (.iadd, 1), (.bipush 100, 2), (.isub, 1), (.iaload, 1), (.iconst 1, 1), (.if_icmp .ne 7, 3), (.iconst 1, 1), (.goto 4, 3)]),
  (27, [(.iconst 0, 1)]),
  (28, [(.iload_n 2, 1), (.aload_n 0, 1), (.invokevirtual 236, 3)]),
  (33, [(.if_icmp .eq 7, 3), (.iconst 1, 1), (.goto 4, 3)]),
  (40, [(.iconst 0, 1)]),
  (41, [(.if_icmp .ne 7, 3), (.iconst 1, 1), (.goto 22, 3)]),
  (48, [(.iconst 0, 1), (.goto 18, 3)]),
  (52, [(.aload_n 0, 1), (.iload_n 1, 1), (.iconst 0, 1), (.invokevirtual 232, 3)]),
  (58, [(.iload_n 2, 1), (.if_icmp .ne 7, 3), (.iconst 1, 1), (.goto 4, 3)]),
  (66, [(.iconst 0, 1)]),
  (67, [(.ireturn, 1)])]
def tb_X9_addsStep : tf_Bk := [(0, [(.aload_n 0, 1), (.getfield 55, 3), (.aload_n 0, 1), (.getfield 265, 3), (.iload_n 1, 1), (.iastore, 1), (.aload_n 0, 1), (.getfield 58, 3), (.aload_n 0, 1), (.getfield 265, 3), (.aload_n 0, 1), (.iload_n 1, 1), (.iload_n 2, 1), (.invokevirtual 268, 3)]),
  (24, [(.bastore, 1), (.aload_n 0, 1), (.dup, 1), (.getfield 265, 3), (.iconst 1, 1), (.iadd, 1), (.putfield 265, 3), (.return_, 1)])]
def tb_X9_meets : tf_Bk := [(0, [(.iload_n 1, 1), (.istore_n 3, 1), (.iload_n 2, 1), (.istore 4, 2)]),
  (5, [(.iload_n 3, 1), (.iload 4, 2), (.if_icmp .eq 41, 3), (.aload_n 0, 1), (.getfield 49, 3), (.iload_n 3, 1), (.iaload, 1), (.aload_n 0, 1), (.getfield 49, 3), (.iload 4, 2), (.iaload, 1), (.if_icmp .lt 13, 3), (.aload_n 0, 1), (.getfield 43, 3), (.iload_n 3, 1), (.iaload, 1), (.istore_n 3, 1), (.goto (-29), 3)]),
  (37, [(.aload_n 0, 1), (.getfield 43, 3), (.iload 4, 2), (.iaload, 1), (.istore 4, 2), (.goto (-41), 3)]),
  (49, [(.iload_n 3, 1), (.ireturn, 1)])]
def tb_X9_goesDown : tf_Bk := [(0, [(.aload_n 0, 1), (.getfield 49, 3), (.iload_n 2, 1), (.iaload, 1), (.aload_n 0, 1), (.getfield 49, 3), (.iload_n 1, 1), (.iaload, 1), (.isub, 1), (.istore_n 3, 1), (.iload_n 3, 1), (.istore 4, 2)]),
  (17, [(.iload 4, 2), (.ifCond .le 55, 3), (.iload_n 2, 1), (.istore 5, 2), (.iconst 1, 1), (.istore 6, 2)]),
  (28, [(.iload 6, 2), (.iload 4, 2), (.if_icmp .ge 18, 3), (.aload_n 0, 1), (.getfield 43, 3), (.iload 5, 2), (.iaload, 1), (.istore 5, 2), (.iinc 6 1, 3), (.goto (-19), 3)]),
  (50, [(.aload_n 0, 1), (.aload_n 0, 1), (.getfield 46, 3), (.iload 5, 2), (.iaload, 1), (.aload_n 0, 1), (.getfield 43, 3), (.iload 5, 2), (.iaload, 1), (.invokevirtual 271, 3)]),
  (68, [(.iinc 4 (-1), 3), (.goto (-54), 3)]),
  (74, [(.return_, 1)])]
def tb_X9_goesUp : tf_Bk := [(0, [(.iload_n 1, 1), (.istore_n 3, 1)]),
  (2, [(.iload_n 3, 1), (.iload_n 2, 1), (.if_icmp .eq 24, 3), (.aload_n 0, 1), (.aload_n 0, 1), (.getfield 46, 3), (.iload_n 3, 1), (.iaload, 1), (.iload_n 3, 1), (.invokevirtual 271, 3)]),
  (18, [(.aload_n 0, 1), (.getfield 43, 3), (.iload_n 3, 1), (.iaload, 1), (.istore_n 3, 1), (.goto (-23), 3)]),
  (28, [(.return_, 1)])]
def tb_X9_roomOf : tf_Bk := [(0, [(.aload_n 0, 1), (.getfield 55, 3), (.iload_n 1, 1), (.iaload, 1), (.istore_n 2, 1), (.iload_n 2, 1), (.invokestatic 262, 3)]),
  (11, [(.ifCond .eq 31, 3), (.aload_n 0, 1), (.getfield 58, 3), (.iload_n 1, 1), (.baload, 1), (.ifCond .eq 9, 3), (.ldc_w 274, 3), (.goto 15, 3)]),
  (29, [(.aload_n 0, 1), (.getfield 7, 3), (.bipush 65, 2), (.iload_n 2, 1), (.iadd, 1), (.bipush 100, 2), (.isub, 1), (.iaload, 1)]),
  (41, [(.ireturn, 1)]),
  (42, [(.aload_n 0, 1), (.getfield 58, 3), (.iload_n 1, 1), (.baload, 1), (.ifCond .eq 19, 3), (.aload_n 0, 1), (.iload_n 2, 1), (.iconst 2, 1), (.invokevirtual 232, 3)]),
  (57, [(.aload_n 0, 1), (.iload_n 2, 1), (.iconst 4, 1), (.invokevirtual 232, 3)]),
  (63, [(.isub, 1), (.goto 9, 3)]),
  (67, [(.aload_n 0, 1), (.iload_n 2, 1), (.iconst 4, 1), (.invokevirtual 232, 3)]),
  (73, [(.ireturn, 1)])]
def tb_X9_leastRoom : tf_Bk := [(0, [(.ldc_w 274, 3), (.istore_n 1, 1), (.iconst 0, 1), (.istore_n 2, 1)]),
  (6, [(.iload_n 2, 1), (.aload_n 0, 1), (.getfield 265, 3), (.if_icmp .ge 19, 3), (.iload_n 1, 1), (.aload_n 0, 1), (.iload_n 2, 1), (.invokevirtual 275, 3)]),
  (20, [(.invokestatic 278, 3)]),
  (23, [(.istore_n 1, 1), (.iinc 2 1, 3), (.goto (-21), 3)]),
  (30, [(.iload_n 1, 1), (.ireturn, 1)])]
def tb_X9_laysCycle : tf_Bk := [(0, [(.aload_n 0, 1), (.iload_n 1, 1), (.iconst 5, 1), (.invokevirtual 232, 3)]),
  (6, [(.ifCond .ne 7, 3), (.iconst 1, 1), (.goto 4, 3)]),
  (13, [(.iconst 0, 1)]),
  (14, [(.istore_n 2, 1), (.aload_n 0, 1), (.iload_n 1, 1), (.iload_n 2, 1), (.ifCond .eq 7, 3), (.iconst 0, 1), (.goto 4, 3)]),
  (25, [(.iconst 1, 1)]),
  (26, [(.invokevirtual 232, 3)]),
  (29, [(.istore_n 3, 1), (.aload_n 0, 1), (.iload_n 1, 1), (.iload_n 2, 1), (.ifCond .eq 7, 3), (.iconst 1, 1), (.goto 4, 3)]),
  (40, [(.iconst 0, 1)]),
  (41, [(.invokevirtual 232, 3)]),
  (44, [(.istore 4, 2), (.aload_n 0, 1), (.aload_n 0, 1), (.iload_n 3, 1), (.iload 4, 2), (.invokevirtual 281, 3)]),
  (54, [(.putfield 284, 3), (.aload_n 0, 1), (.iconst 0, 1), (.putfield 265, 3), (.aload_n 0, 1), (.aload_n 0, 1), (.getfield 284, 3), (.iload_n 3, 1), (.invokevirtual 287, 3)]),
  (71, [(.aload_n 0, 1), (.iload_n 1, 1), (.iload_n 3, 1), (.invokevirtual 271, 3)]),
  (77, [(.aload_n 0, 1), (.iload 4, 2), (.aload_n 0, 1), (.getfield 284, 3), (.invokevirtual 290, 3)]),
  (87, [(.return_, 1)])]
def tb_X9_leaves : tf_Bk := [(0, [(.iconst (-1), 1), (.istore_n 2, 1), (.iconst 0, 1), (.istore_n 3, 1)]),
  (4, [(.iload_n 3, 1), (.aload_n 0, 1), (.getfield 265, 3), (.if_icmp .ge 24, 3), (.aload_n 0, 1), (.iload_n 3, 1), (.invokevirtual 275, 3)]),
  (17, [(.iload_n 1, 1), (.if_icmp .ne 7, 3), (.iload_n 3, 1), (.goto 4, 3)]),
  (25, [(.iload_n 2, 1)]),
  (26, [(.istore_n 2, 1), (.iinc 3 1, 3), (.goto (-26), 3)]),
  (33, [(.aload_n 0, 1), (.getfield 55, 3), (.iload_n 2, 1), (.iaload, 1), (.ireturn, 1)])]
def tb_X9_flows : tf_Bk := [(0, [(.iconst 0, 1), (.istore_n 2, 1)]),
  (2, [(.iload_n 2, 1), (.aload_n 0, 1), (.getfield 265, 3), (.if_icmp .ge 69, 3), (.aload_n 0, 1), (.getfield 55, 3), (.iload_n 2, 1), (.iaload, 1), (.istore_n 3, 1), (.iload_n 3, 1), (.invokestatic 262, 3)]),
  (21, [(.ifCond .eq 13, 3), (.bipush 65, 2), (.iload_n 3, 1), (.iadd, 1), (.bipush 100, 2), (.isub, 1), (.goto 12, 3)]),
  (34, [(.bipush 72, 2), (.bipush 7, 2), (.iload_n 3, 1), (.imul, 1), (.iadd, 1), (.iconst 4, 1), (.iadd, 1)]),
  (43, [(.istore 4, 2), (.aload_n 0, 1), (.getfield 7, 3), (.iload 4, 2), (.dup2, 1), (.iaload, 1), (.aload_n 0, 1), (.getfield 58, 3), (.iload_n 2, 1), (.baload, 1), (.ifCond .eq 7, 3), (.iload_n 1, 1), (.goto 5, 3)]),
  (66, [(.iload_n 1, 1), (.ineg, 1)]),
  (68, [(.iadd, 1), (.iastore, 1), (.iinc 2 1, 3), (.goto (-71), 3)]),
  (76, [(.return_, 1)])]
def tb_X9_goesOut : tf_Bk := [(0, [(.iload_n 1, 1), (.invokestatic 262, 3)]),
  (4, [(.ifCond .eq 19, 3), (.aload_n 0, 1), (.getfield 7, 3), (.bipush 51, 2), (.iload_n 1, 1), (.iadd, 1), (.bipush 100, 2), (.isub, 1), (.iconst 0, 1), (.iastore, 1), (.goto 23, 3)]),
  (23, [(.aload_n 0, 1), (.iload_n 1, 1), (.iconst 5, 1), (.aload_n 0, 1), (.iload_n 1, 1), (.iconst 4, 1), (.invokevirtual 232, 3)]),
  (32, [(.ifCond .ne 7, 3), (.iconst 0, 1), (.goto 4, 3)]),
  (39, [(.iconst 1, 1)]),
  (40, [(.invokevirtual 293, 3)]),
  (43, [(.return_, 1)])]
def tb_X9_isPast : tf_Bk := [(0, [(.bipush 35, 2), (.istore 4, 2)]),
  (4, [(.iload 4, 2), (.iconst 3, 1), (.if_icmp .lt 31, 3), (.aload_n 0, 1), (.getfield 7, 3), (.bipush 8, 2), (.iload 4, 2), (.iadd, 1), (.aload_n 0, 1), (.getfield 7, 3), (.bipush 8, 2), (.iload 4, 2), (.iadd, 1), (.iconst 3, 1), (.isub, 1), (.iaload, 1), (.iastore, 1), (.iinc 4 (-1), 3), (.goto (-31), 3)]),
  (38, [(.aload_n 0, 1), (.getfield 7, 3), (.bipush 8, 2), (.iload_n 1, 1), (.iastore, 1), (.aload_n 0, 1), (.getfield 7, 3), (.bipush 9, 2), (.iload_n 2, 1), (.iastore, 1), (.aload_n 0, 1), (.getfield 7, 3), (.bipush 10, 2), (.iload_n 3, 1), (.iastore, 1), (.aload_n 0, 1), (.getfield 7, 3), (.bipush 7, 2), (.bipush 12, 2), (.aload_n 0, 1), (.getfield 7, 3), (.bipush 7, 2), (.iaload, 1), (.iconst 1, 1), (.iadd, 1), (.invokestatic 278, 3)]),
  (82, [(.iastore, 1), (.aload_n 0, 1), (.getfield 7, 3), (.iconst 3, 1), (.dup2, 1), (.iaload, 1), (.iconst 1, 1), (.iadd, 1), (.iastore, 1), (.aload_n 0, 1), (.getfield 7, 3), (.iconst 4, 1), (.dup2, 1), (.iaload, 1), (.iload_n 3, 1), (.ifCond .ne 7, 3), (.iconst 1, 1), (.goto 4, 3)]),
  (108, [(.iconst 0, 1)]),
  (109, [(.iadd, 1), (.iastore, 1), (.aload_n 0, 1), (.getfield 7, 3), (.bipush 6, 2), (.iload_n 1, 1), (.iastore, 1), (.return_, 1)])]
def tb_X9_turns : tf_Bk := [(0, [(.aload_n 0, 1), (.invokevirtual 250, 3)]),
  (4, [(.aload_n 0, 1), (.invokevirtual 297, 3)]),
  (8, [(.istore_n 1, 1), (.iload_n 1, 1), (.iconst (-1), 1), (.if_icmp .ne 5, 3), (.iconst (-1), 1), (.ireturn, 1)]),
  (16, [(.aload_n 0, 1), (.iload_n 1, 1), (.invokevirtual 300, 3)]),
  (21, [(.aload_n 0, 1), (.invokevirtual 303, 3)]),
  (25, [(.istore_n 2, 1), (.aload_n 0, 1), (.iload_n 2, 1), (.invokevirtual 306, 3)]),
  (31, [(.istore_n 3, 1), (.aload_n 0, 1), (.iload_n 2, 1), (.invokevirtual 309, 3)]),
  (37, [(.iload_n 3, 1), (.iload_n 1, 1), (.if_icmp .ne 26, 3), (.aload_n 0, 1), (.iload_n 1, 1), (.iconst 5, 1), (.aload_n 0, 1), (.iload_n 1, 1), (.iconst 5, 1), (.invokevirtual 232, 3)]),
  (51, [(.ifCond .ne 7, 3), (.iconst 1, 1), (.goto 4, 3)]),
  (58, [(.iconst 0, 1)]),
  (59, [(.invokevirtual 293, 3)]),
  (62, [(.goto 15, 3)]),
  (65, [(.aload_n 0, 1), (.iload_n 1, 1), (.iconst 5, 1), (.iconst 2, 1), (.invokevirtual 293, 3)]),
  (72, [(.aload_n 0, 1), (.iload_n 3, 1), (.invokevirtual 312, 3)]),
  (77, [(.aload_n 0, 1), (.iload_n 1, 1), (.iload_n 3, 1), (.iload_n 2, 1), (.invokevirtual 315, 3)]),
  (84, [(.iload_n 1, 1), (.ireturn, 1)])]
def tb_X9_pivotsTill : tf_Bk := [(0, [(.iconst 0, 1), (.istore_n 2, 1)]),
  (2, [(.iload_n 2, 1), (.iload_n 1, 1), (.if_icmp .ge 17, 3), (.aload_n 0, 1), (.invokevirtual 318, 3)]),
  (11, [(.iconst (-1), 1), (.if_icmp .eq 9, 3), (.iinc 2 1, 3), (.goto (-16), 3)]),
  (21, [(.iload_n 2, 1), (.ireturn, 1)])]
def tb_X9_begins : tf_Bk := [(0, [(.iconst 0, 1), (.istore_n 2, 1)]),
  (2, [(.iload_n 2, 1), (.aload_n 0, 1), (.getfield 7, 3), (.iconst 1, 1), (.iaload, 1), (.if_icmp .ge 90, 3), (.iload_n 1, 1), (.ifCond .eq 43, 3), (.aload_n 0, 1), (.iload_n 2, 1), (.bipush 6, 2), (.invokevirtual 232, 3)]),
  (23, [(.ifCond .ne 33, 3), (.aload_n 0, 1), (.iload_n 2, 1), (.iconst 2, 1), (.invokevirtual 232, 3)]),
  (32, [(.ifCond .le 24, 3), (.iconst 2, 1), (.aload_n 0, 1), (.iload_n 2, 1), (.iconst 4, 1), (.invokevirtual 232, 3)]),
  (42, [(.imul, 1), (.aload_n 0, 1), (.iload_n 2, 1), (.iconst 2, 1), (.invokevirtual 232, 3)]),
  (49, [(.if_icmp .lt 7, 3), (.iconst 1, 1), (.goto 4, 3)]),
  (56, [(.iconst 0, 1)]),
  (57, [(.istore_n 3, 1), (.aload_n 0, 1), (.iload_n 2, 1), (.iconst 5, 1), (.iload_n 3, 1), (.ifCond .eq 7, 3), (.iconst 1, 1), (.goto 4, 3)]),
  (69, [(.iconst 0, 1)]),
  (70, [(.invokevirtual 293, 3)]),
  (73, [(.aload_n 0, 1), (.iload_n 2, 1), (.iconst 4, 1), (.iload_n 3, 1), (.ifCond .eq 12, 3), (.aload_n 0, 1), (.iload_n 2, 1), (.iconst 2, 1), (.invokevirtual 232, 3)]),
  (86, [(.goto 4, 3)]),
  (89, [(.iconst 0, 1)]),
  (90, [(.invokevirtual 293, 3)]),
  (93, [(.iinc 2 1, 3), (.goto (-94), 3)]),
  (99, [(.iconst 0, 1), (.istore_n 2, 1)]),
  (101, [(.iload_n 2, 1), (.aload_n 0, 1), (.getfield 7, 3), (.iconst 0, 1), (.iaload, 1), (.if_icmp .ge 133, 3), (.aload_n 0, 1), (.getfield 7, 3), (.bipush 44, 2), (.iload_n 2, 1), (.iadd, 1), (.iaload, 1), (.istore_n 3, 1), (.iconst 0, 1), (.istore 4, 2)]),
  (124, [(.iload 4, 2), (.aload_n 0, 1), (.getfield 7, 3), (.iconst 1, 1), (.iaload, 1), (.if_icmp .ge 56, 3), (.iload_n 3, 1), (.aload_n 0, 1), (.iload 4, 2), (.iconst 1, 1), (.invokevirtual 232, 3)]),
  (143, [(.iload_n 2, 1), (.if_icmp .ne 13, 3), (.aload_n 0, 1), (.iload 4, 2), (.iconst 4, 1), (.invokevirtual 232, 3)]),
  (154, [(.goto 26, 3)]),
  (157, [(.aload_n 0, 1), (.iload 4, 2), (.iconst 0, 1), (.invokevirtual 232, 3)]),
  (164, [(.iload_n 2, 1), (.if_icmp .ne 14, 3), (.aload_n 0, 1), (.iload 4, 2), (.iconst 4, 1), (.invokevirtual 232, 3)]),
  (175, [(.ineg, 1), (.goto 4, 3)]),
  (179, [(.iconst 0, 1)]),
  (180, [(.iadd, 1), (.istore_n 3, 1), (.iinc 4 1, 3), (.goto (-61), 3)]),
  (188, [(.aload_n 0, 1), (.getfield 7, 3), (.bipush 51, 2), (.iload_n 2, 1), (.iadd, 1), (.iconst 1, 1), (.iastore, 1), (.aload_n 0, 1), (.getfield 7, 3), (.bipush 58, 2), (.iload_n 2, 1), (.iadd, 1), (.iload_n 3, 1), (.ifCond .lt 7, 3), (.iconst 1, 1), (.goto 4, 3)]),
  (214, [(.iconst (-1), 1)]),
  (215, [(.iastore, 1), (.aload_n 0, 1), (.getfield 7, 3), (.bipush 65, 2), (.iload_n 2, 1), (.iadd, 1), (.iload_n 3, 1), (.ifCond .lt 7, 3), (.iload_n 3, 1), (.goto 5, 3)]),
  (232, [(.iload_n 3, 1), (.ineg, 1)]),
  (234, [(.iastore, 1), (.iinc 2 1, 3), (.goto (-137), 3)]),
  (241, [(.return_, 1)])]
def tb_X9_beginsAgain : tf_Bk := [(0, [(.aload_n 0, 1), (.iload_n 1, 1), (.invokevirtual 217, 3)]),
  (5, [(.aload_n 0, 1), (.getfield 7, 3), (.iconst 5, 1), (.dup2, 1), (.iaload, 1), (.iconst 1, 1), (.iadd, 1), (.iastore, 1), (.return_, 1)])]
def tb_X9_keeps : tf_Bk := [(0, [(.aload_n 0, 1), (.getfield 214, 3), (.bipush 10, 2), (.if_icmp .ne 44, 3), (.iconst 0, 1), (.istore_n 2, 1)]),
  (11, [(.iload_n 2, 1), (.sipush 1530, 3), (.if_icmp .ge 25, 3), (.aload_n 0, 1), (.getfield 21, 3), (.iload_n 2, 1), (.aload_n 0, 1), (.getfield 21, 3), (.iload_n 2, 1), (.sipush 170, 3), (.iadd, 1), (.iaload, 1), (.iastore, 1), (.iinc 2 1, 3), (.goto (-26), 3)]),
  (40, [(.aload_n 0, 1), (.dup, 1), (.getfield 214, 3), (.iconst 1, 1), (.isub, 1), (.putfield 214, 3)]),
  (50, [(.iconst 0, 1), (.istore_n 2, 1)]),
  (52, [(.iload_n 2, 1), (.sipush 170, 3), (.if_icmp .ge 36, 3), (.aload_n 0, 1), (.getfield 21, 3), (.sipush 170, 3), (.aload_n 0, 1), (.getfield 214, 3), (.imul, 1), (.iload_n 2, 1), (.iadd, 1), (.aload_n 0, 1), (.getfield 7, 3), (.sipush 173, 3), (.iload_n 1, 1), (.imul, 1), (.iload_n 2, 1), (.iadd, 1), (.iaload, 1), (.iastore, 1), (.iinc 2 1, 3), (.goto (-37), 3)]),
  (92, [(.aload_n 0, 1), (.dup, 1), (.getfield 214, 3), (.iconst 1, 1), (.iadd, 1), (.putfield 214, 3), (.return_, 1)])]
def tb_X9_pivot : tf_Bk := [(0, [(.aload_n 0, 1), (.iconst 0, 1), (.putfield 97, 3), (.aload_n 0, 1), (.invokevirtual 321, 3)]),
  (9, [(.ifCond .eq 5, 3), (.iconst (-1), 1), (.ireturn, 1)]),
  (14, [(.aload_n 0, 1), (.iconst 0, 1), (.invokevirtual 324, 3)]),
  (19, [(.aload_n 0, 1), (.invokevirtual 318, 3)]),
  (23, [(.ireturn, 1)])]
def tb_X9_pivots : tf_Bk := [(0, [(.aload_n 0, 1), (.iconst 0, 1), (.putfield 97, 3), (.iload_n 1, 1), (.iconst 1, 1), (.bipush 60, 2), (.invokestatic 101, 3)]),
  (12, [(.ifCond .ne 5, 3), (.iconst (-1), 1), (.ireturn, 1)]),
  (17, [(.aload_n 0, 1), (.invokevirtual 321, 3)]),
  (21, [(.ifCond .eq 5, 3), (.iconst 0, 1), (.ireturn, 1)]),
  (26, [(.aload_n 0, 1), (.iconst 0, 1), (.invokevirtual 324, 3)]),
  (31, [(.aload_n 0, 1), (.iload_n 1, 1), (.invokevirtual 327, 3)]),
  (36, [(.ireturn, 1)])]
def tb_X9_rule : tf_Bk := [(0, [(.aload_n 0, 1), (.iconst 0, 1), (.putfield 97, 3), (.iload_n 1, 1), (.iconst 0, 1), (.iconst 2, 1), (.invokestatic 101, 3)]),
  (11, [(.ifCond .ne 5, 3), (.iconst 0, 1), (.ireturn, 1)]),
  (16, [(.aload_n 0, 1), (.iconst 0, 1), (.invokevirtual 324, 3)]),
  (21, [(.aload_n 0, 1), (.getfield 7, 3), (.iconst 2, 1), (.iload_n 1, 1), (.iastore, 1), (.iconst 1, 1), (.ireturn, 1)])]
def tb_X9_canShift : tf_Bk := [(0, [(.aload_n 0, 1), (.iload_n 1, 1), (.iload_n 2, 1), (.invokevirtual 330, 3)]),
  (6, [(.ifCond .eq 49, 3), (.iload_n 3, 1), (.iconst 1, 1), (.bipush 99, 2), (.invokestatic 101, 3)]),
  (16, [(.ifCond .eq 39, 3), (.aload_n 0, 1), (.getfield 7, 3), (.bipush 44, 2), (.iload_n 1, 1), (.iadd, 1), (.iaload, 1), (.iload_n 3, 1), (.iadd, 1), (.bipush 99, 2), (.if_icmp .gt 23, 3), (.aload_n 0, 1), (.getfield 7, 3), (.bipush 44, 2), (.iload_n 2, 1), (.iadd, 1), (.iaload, 1), (.iload_n 3, 1), (.isub, 1), (.bipush (-99), 2), (.if_icmp .lt 7, 3), (.iconst 1, 1), (.goto 4, 3)]),
  (55, [(.iconst 0, 1)]),
  (56, [(.ireturn, 1)])]
def tb_X9_shifts : tf_Bk := [(0, [(.aload_n 0, 1), (.getfield 7, 3), (.bipush 44, 2), (.iload_n 1, 1), (.iadd, 1), (.dup2, 1), (.iaload, 1), (.iload_n 3, 1), (.iadd, 1), (.iastore, 1), (.aload_n 0, 1), (.getfield 7, 3), (.bipush 44, 2), (.iload_n 2, 1), (.iadd, 1), (.dup2, 1), (.iaload, 1), (.iload_n 3, 1), (.isub, 1), (.iastore, 1), (.aload_n 0, 1), (.iconst 1, 1), (.invokevirtual 333, 3)]),
  (31, [(.return_, 1)])]
def tb_X9_shift : tf_Bk := [(0, [(.aload_n 0, 1), (.iconst 0, 1), (.putfield 97, 3), (.aload_n 0, 1), (.iload_n 1, 1), (.iload_n 2, 1), (.iload_n 3, 1), (.invokevirtual 336, 3)]),
  (12, [(.ifCond .ne 5, 3), (.iconst 0, 1), (.ireturn, 1)]),
  (17, [(.aload_n 0, 1), (.iconst 0, 1), (.invokevirtual 324, 3)]),
  (22, [(.aload_n 0, 1), (.iload_n 1, 1), (.iload_n 2, 1), (.iload_n 3, 1), (.invokevirtual 339, 3)]),
  (29, [(.iconst 1, 1), (.ireturn, 1)])]
def tb_X9_canBe : tf_Bk := [(0, [(.aload_n 0, 1), (.iload_n 1, 1), (.invokevirtual 342, 3)]),
  (5, [(.ifCond .eq 38, 3), (.iload_n 3, 1), (.iload 4, 2), (.iload_n 2, 1), (.bipush 6, 2), (.if_icmp .ne 7, 3), (.iconst 1, 1), (.goto 5, 3)]),
  (21, [(.bipush 99, 2)]),
  (23, [(.invokestatic 101, 3)]),
  (26, [(.ifCond .eq 17, 3), (.aload_n 0, 1), (.iload_n 1, 1), (.iload_n 2, 1), (.invokevirtual 232, 3)]),
  (35, [(.iload_n 3, 1), (.if_icmp .eq 7, 3), (.iconst 1, 1), (.goto 4, 3)]),
  (43, [(.iconst 0, 1)]),
  (44, [(.ireturn, 1)])]
def tb_X9_becomes : tf_Bk := [(0, [(.aload_n 0, 1), (.iload_n 1, 1), (.iload_n 2, 1), (.iload_n 3, 1), (.invokevirtual 293, 3)]),
  (7, [(.iload_n 2, 1), (.iconst 3, 1), (.if_icmp .eq 8, 3), (.aload_n 0, 1), (.iconst 1, 1), (.invokevirtual 333, 3)]),
  (17, [(.return_, 1)])]
def tb_X9_tells : tf_Bk := [(0, [(.aload_n 0, 1), (.iconst 0, 1), (.putfield 97, 3), (.aload_n 0, 1), (.iload_n 1, 1), (.iload_n 2, 1), (.iload_n 3, 1), (.iload 4, 2), (.invokevirtual 345, 3)]),
  (14, [(.ifCond .ne 5, 3), (.iconst 0, 1), (.ireturn, 1)]),
  (19, [(.aload_n 0, 1), (.iconst 0, 1), (.invokevirtual 324, 3)]),
  (24, [(.aload_n 0, 1), (.iload_n 1, 1), (.iload_n 2, 1), (.iload_n 3, 1), (.invokevirtual 349, 3)]),
  (31, [(.iconst 1, 1), (.ireturn, 1)])]
def tb_X9_block : tf_Bk := [(0, [(.aload_n 0, 1), (.iload_n 1, 1), (.bipush 6, 2), (.iload_n 2, 1), (.ifCond .eq 7, 3), (.iconst 0, 1), (.goto 4, 3)]),
  (12, [(.iconst 1, 1)]),
  (13, [(.iconst 0, 1), (.invokevirtual 352, 3)]),
  (17, [(.ireturn, 1)])]
def tb_X9_widen : tf_Bk := [(0, [(.aload_n 0, 1), (.iload_n 1, 1), (.iconst 2, 1), (.iload_n 2, 1), (.iconst 0, 1), (.invokevirtual 352, 3)]),
  (8, [(.ireturn, 1)])]
def tb_X9_charge : tf_Bk := [(0, [(.aload_n 0, 1), (.iload_n 1, 1), (.iconst 3, 1), (.iload_n 2, 1), (.bipush (-99), 2), (.invokevirtual 352, 3)]),
  (9, [(.ireturn, 1)])]
def tb_X9_cold : tf_Bk := [(0, [(.aload_n 0, 1), (.iconst 0, 1), (.putfield 97, 3), (.aload_n 0, 1), (.iconst 0, 1), (.invokevirtual 324, 3)]),
  (10, [(.aload_n 0, 1), (.iconst 0, 1), (.invokevirtual 333, 3)]),
  (15, [(.return_, 1)])]
def tb_X9_isDoneArc : tf_Bk := [(0, [(.aload_n 0, 1), (.iload_n 1, 1), (.iload_n 2, 1), (.iload_n 3, 1), (.iload 4, 2), (.invokevirtual 345, 3)]),
  (9, [(.istore 5, 2), (.iload 5, 2), (.ifCond .eq 10, 3), (.aload_n 0, 1), (.iload_n 1, 1), (.iload_n 2, 1), (.iload_n 3, 1), (.invokevirtual 349, 3)]),
  (23, [(.iload 5, 2), (.ireturn, 1)])]
def tb_X9_isDone : tf_Bk := [(0, [(.lload_n 1, 1), (.ldc2_w 194, 3), (.lcmp, 1), (.ifCond .ne 17, 3), (.aload_n 0, 1), (.iload_n 3, 1), (.invokevirtual 327, 3)]),
  (13, [(.ifCond .le 7, 3), (.iconst 1, 1), (.goto 4, 3)]),
  (20, [(.iconst 0, 1)]),
  (21, [(.ireturn, 1)]),
  (22, [(.lload_n 1, 1), (.ldc2_w 202, 3), (.lcmp, 1), (.ifCond .ne 31, 3), (.aload_n 0, 1), (.iload_n 3, 1), (.iload 4, 2), (.iload 5, 2), (.invokevirtual 336, 3)]),
  (39, [(.istore 6, 2), (.iload 6, 2), (.ifCond .eq 12, 3), (.aload_n 0, 1), (.iload_n 3, 1), (.iload 4, 2), (.iload 5, 2), (.invokevirtual 339, 3)]),
  (55, [(.iload 6, 2), (.ireturn, 1)]),
  (58, [(.lload_n 1, 1), (.ldc2_w 186, 3), (.lcmp, 1), (.ifCond .eq 11, 3), (.lload_n 1, 1), (.ldc2_w 196, 3), (.lcmp, 1), (.ifCond .ne 25, 3)]),
  (74, [(.aload_n 0, 1), (.iload_n 3, 1), (.bipush 6, 2), (.lload_n 1, 1), (.ldc2_w 186, 3), (.lcmp, 1), (.ifCond .ne 7, 3), (.iconst 1, 1), (.goto 4, 3)]),
  (90, [(.iconst 0, 1)]),
  (91, [(.iconst 0, 1), (.invokevirtual 355, 3)]),
  (95, [(.ireturn, 1)]),
  (96, [(.lload_n 1, 1), (.ldc2_w 198, 3), (.lcmp, 1), (.ifCond .ne 13, 3), (.aload_n 0, 1), (.iload_n 3, 1), (.iconst 2, 1), (.iload 4, 2), (.iconst 0, 1), (.invokevirtual 355, 3)]),
  (113, [(.ireturn, 1)]),
  (114, [(.lload_n 1, 1), (.ldc2_w 200, 3), (.lcmp, 1), (.ifCond .eq 11, 3), (.lload_n 1, 1), (.ldc2_w 175, 3), (.lcmp, 1), (.ifCond .ne 28, 3)]),
  (130, [(.aload_n 0, 1), (.iload_n 3, 1), (.iconst 3, 1), (.lload_n 1, 1), (.ldc2_w 175, 3), (.lcmp, 1), (.ifCond .ne 9, 3), (.iload 4, 2), (.ineg, 1), (.goto 5, 3)]),
  (147, [(.iload 4, 2)]),
  (149, [(.bipush (-99), 2), (.invokevirtual 355, 3)]),
  (154, [(.ireturn, 1)]),
  (155, [(.lload_n 1, 1), (.ldc2_w 192, 3), (.lcmp, 1), (.ifCond .ne 11, 3), (.aload_n 0, 1), (.iconst 0, 1), (.invokevirtual 333, 3)]),
  (168, [(.goto 13, 3)]),
  (171, [(.aload_n 0, 1), (.getfield 7, 3), (.iconst 2, 1), (.lload_n 1, 1), (.invokestatic 180, 3)]),
  (180, [(.iastore, 1)]),
  (181, [(.iconst 1, 1), (.ireturn, 1)])]
def tb_X9_work : tf_Bk := [(0, [(.aload_n 0, 1), (.iconst 0, 1), (.putfield 97, 3), (.aload_n 0, 1), (.iconst 0, 1), (.invokevirtual 221, 3)]),
  (10, [(.istore_n 1, 1), (.aload_n 0, 1), (.iload_n 1, 1), (.ifCond .ne 7, 3), (.iconst 1, 1), (.goto 16, 3)]),
  (20, [(.aload_n 0, 1), (.getfield 137, 3), (.iconst (-1), 1), (.if_icmp .eq 7, 3), (.iconst 2, 1), (.goto 4, 3)]),
  (32, [(.iconst 0, 1)]),
  (33, [(.iload_n 1, 1), (.ifCond .ne 10, 3), (.aload_n 0, 1), (.getfield 134, 3), (.goto 7, 3)]),
  (44, [(.aload_n 0, 1), (.getfield 137, 3)]),
  (48, [(.invokevirtual 225, 3)]),
  (51, [(.aload_n 0, 1), (.getfield 7, 3), (.sipush 171, 3), (.iaload, 1), (.ifCond .eq 5, 3), (.iconst (-1), 1), (.ireturn, 1)]),
  (64, [(.aload_n 0, 1), (.iconst 0, 1), (.iconst 4, 1), (.invokevirtual 358, 3)]),
  (70, [(.iconst 0, 1), (.istore_n 2, 1)]),
  (72, [(.iload_n 2, 1), (.aload_n 0, 1), (.getfield 204, 3), (.if_icmp .ge 50, 3), (.aload_n 0, 1), (.aload_n 0, 1), (.getfield 36, 3), (.iload_n 2, 1), (.laload, 1), (.aload_n 0, 1), (.getfield 40, 3), (.iconst 4, 1), (.iload_n 2, 1), (.imul, 1), (.iaload, 1), (.aload_n 0, 1), (.getfield 40, 3), (.iconst 4, 1), (.iload_n 2, 1), (.imul, 1), (.iconst 1, 1), (.iadd, 1), (.iaload, 1), (.aload_n 0, 1), (.getfield 40, 3), (.iconst 4, 1), (.iload_n 2, 1), (.imul, 1), (.iconst 2, 1), (.iadd, 1), (.iaload, 1), (.invokevirtual 361, 3)]),
  (118, [(.ifCond .eq 9, 3), (.iinc 2 1, 3), (.goto (-52), 3)]),
  (127, [(.iload_n 2, 1), (.ifCond .le 8, 3), (.aload_n 0, 1), (.iconst 4, 1), (.invokevirtual 324, 3)]),
  (136, [(.iload_n 2, 1), (.ireturn, 1)])]
def tb_X9_undo : tf_Bk := [(0, [(.aload_n 0, 1), (.iconst 0, 1), (.putfield 97, 3), (.aload_n 0, 1), (.getfield 214, 3), (.ifCond .ne 5, 3), (.iconst (-1), 1), (.ireturn, 1)]),
  (14, [(.aload_n 0, 1), (.dup, 1), (.getfield 214, 3), (.iconst 1, 1), (.isub, 1), (.putfield 214, 3), (.iconst 0, 1), (.istore_n 1, 1)]),
  (26, [(.iload_n 1, 1), (.sipush 170, 3), (.if_icmp .ge 30, 3), (.aload_n 0, 1), (.getfield 7, 3), (.iload_n 1, 1), (.aload_n 0, 1), (.getfield 21, 3), (.sipush 170, 3), (.aload_n 0, 1), (.getfield 214, 3), (.imul, 1), (.iload_n 1, 1), (.iadd, 1), (.iaload, 1), (.iastore, 1), (.iinc 1 1, 3), (.goto (-31), 3)]),
  (60, [(.aload_n 0, 1), (.getfield 214, 3), (.ireturn, 1)])]
def tb_X9_unmet : tf_Bk := [(0, [(.iconst 0, 1), (.istore_n 1, 1), (.iconst 0, 1), (.istore_n 2, 1)]),
  (4, [(.iload_n 2, 1), (.aload_n 0, 1), (.getfield 7, 3), (.iconst 0, 1), (.iaload, 1), (.if_icmp .ge 21, 3), (.iload_n 1, 1), (.aload_n 0, 1), (.getfield 7, 3), (.bipush 65, 2), (.iload_n 2, 1), (.iadd, 1), (.iaload, 1), (.iadd, 1), (.istore_n 1, 1), (.iinc 2 1, 3), (.goto (-25), 3)]),
  (32, [(.iload_n 1, 1), (.ireturn, 1)])]
def tb_X9_grid : tf_Bk := [(0, [(.aload_n 0, 1), (.iconst 0, 1), (.putfield 97, 3), (.aload_n 0, 1), (.invokevirtual 250, 3)]),
  (9, [(.iload_n 1, 1), (.tableswitch 117 0 11 #[62, 62, 62, 69, 82, 87, 87, 87, 87, 98, 103, 112], 62)]),
  (72, [(.aload_n 0, 1), (.getfield 7, 3), (.iload_n 1, 1), (.iaload, 1), (.ireturn, 1)]),
  (79, [(.aload_n 0, 1), (.invokevirtual 253, 3)]),
  (83, [(.ifCond .ne 7, 3), (.iconst 1, 1), (.goto 4, 3)]),
  (90, [(.iconst 0, 1)]),
  (91, [(.ireturn, 1)]),
  (92, [(.aload_n 0, 1), (.invokevirtual 365, 3)]),
  (96, [(.ireturn, 1)]),
  (97, [(.aload_n 0, 1), (.getfield 7, 3), (.iconst 3, 1), (.iload_n 1, 1), (.iadd, 1), (.iconst 5, 1), (.isub, 1), (.iaload, 1), (.ireturn, 1)]),
  (108, [(.aload_n 0, 1), (.invokevirtual 253, 3)]),
  (112, [(.ireturn, 1)]),
  (113, [(.aload_n 0, 1), (.getfield 7, 3), (.sipush 170, 3), (.iaload, 1), (.ireturn, 1)]),
  (122, [(.aload_n 0, 1), (.getfield 214, 3), (.ireturn, 1)]),
  (127, [(.iconst (-1), 1), (.ireturn, 1)])]
def tb_X9_arc : tf_Bk := [(0, [(.aload_n 0, 1), (.aload_n 0, 1), (.iload_n 1, 1), (.invokevirtual 342, 3)]),
  (6, [(.ifCond .eq 17, 3), (.iload_n 2, 1), (.iconst 0, 1), (.bipush 7, 2), (.invokestatic 101, 3)]),
  (16, [(.ifCond .eq 7, 3), (.iconst 0, 1), (.goto 4, 3)]),
  (23, [(.iconst 1, 1)]),
  (24, [(.putfield 97, 3), (.aload_n 0, 1), (.getfield 97, 3), (.ifCond .le 5, 3), (.iconst 0, 1), (.ireturn, 1)]),
  (36, [(.aload_n 0, 1), (.invokevirtual 250, 3)]),
  (40, [(.iload_n 2, 1), (.iconst 5, 1), (.if_icmp .ne 25, 3), (.aload_n 0, 1), (.iload_n 1, 1), (.bipush 6, 2), (.invokevirtual 232, 3)]),
  (52, [(.iconst 1, 1), (.if_icmp .ne 7, 3), (.iconst 3, 1), (.goto 9, 3)]),
  (60, [(.aload_n 0, 1), (.iload_n 1, 1), (.iconst 5, 1), (.invokevirtual 232, 3)]),
  (66, [(.ireturn, 1)]),
  (67, [(.iload_n 2, 1), (.bipush 6, 2), (.if_icmp .ne 11, 3), (.aload_n 0, 1), (.iload_n 1, 1), (.invokevirtual 246, 3)]),
  (78, [(.goto 31, 3)]),
  (81, [(.iload_n 2, 1), (.bipush 7, 2), (.if_icmp .ne 19, 3), (.aload_n 0, 1), (.iload_n 1, 1), (.invokevirtual 256, 3)]),
  (92, [(.ifCond .eq 7, 3), (.iconst 1, 1), (.goto 13, 3)]),
  (99, [(.iconst 0, 1), (.goto 9, 3)]),
  (103, [(.aload_n 0, 1), (.iload_n 1, 1), (.iload_n 2, 1), (.invokevirtual 232, 3)]),
  (109, [(.ireturn, 1)])]
def tb_X9_below : tf_Bk := [(0, [(.iconst 0, 1), (.istore_n 2, 1), (.iconst 0, 1), (.istore_n 3, 1)]),
  (4, [(.iload_n 3, 1), (.aload_n 0, 1), (.getfield 7, 3), (.iconst 0, 1), (.iaload, 1), (.if_icmp .ge 53, 3), (.iload_n 3, 1), (.istore 4, 2)]),
  (17, [(.iload 4, 2), (.aload_n 0, 1), (.invokevirtual 236, 3)]),
  (23, [(.if_icmp .eq 21, 3), (.iload 4, 2), (.iload_n 1, 1), (.if_icmp .eq 15, 3), (.aload_n 0, 1), (.getfield 43, 3), (.iload 4, 2), (.iaload, 1), (.istore 4, 2), (.goto (-24), 3)]),
  (44, [(.iload_n 2, 1), (.iload 4, 2), (.iload_n 1, 1), (.if_icmp .ne 7, 3), (.iconst 1, 1), (.goto 4, 3)]),
  (55, [(.iconst 0, 1)]),
  (56, [(.iadd, 1), (.istore_n 2, 1), (.iinc 3 1, 3), (.goto (-57), 3)]),
  (64, [(.iload_n 2, 1), (.ireturn, 1)])]
def tb_X9_point : tf_Bk := [(0, [(.aload_n 0, 1), (.aload_n 0, 1), (.iload_n 1, 1), (.invokevirtual 105, 3)]),
  (6, [(.ifCond .eq 17, 3), (.iload_n 2, 1), (.iconst 0, 1), (.bipush 6, 2), (.invokestatic 101, 3)]),
  (16, [(.ifCond .eq 7, 3), (.iconst 0, 1), (.goto 4, 3)]),
  (23, [(.iconst 1, 1)]),
  (24, [(.putfield 97, 3), (.aload_n 0, 1), (.getfield 97, 3), (.ifCond .le 5, 3), (.iconst 0, 1), (.ireturn, 1)]),
  (36, [(.aload_n 0, 1), (.invokevirtual 250, 3)]),
  (40, [(.iload_n 2, 1), (.tableswitch 83 0 5 #[39, 49, 56, 63, 70, 77], 39)]),
  (80, [(.aload_n 0, 1), (.getfield 7, 3), (.bipush 44, 2), (.iload_n 1, 1), (.iadd, 1), (.iaload, 1), (.ireturn, 1)]),
  (90, [(.aload_n 0, 1), (.getfield 52, 3), (.iload_n 1, 1), (.iaload, 1), (.ireturn, 1)]),
  (97, [(.aload_n 0, 1), (.getfield 43, 3), (.iload_n 1, 1), (.iaload, 1), (.ireturn, 1)]),
  (104, [(.aload_n 0, 1), (.getfield 46, 3), (.iload_n 1, 1), (.iaload, 1), (.ireturn, 1)]),
  (111, [(.aload_n 0, 1), (.getfield 49, 3), (.iload_n 1, 1), (.iaload, 1), (.ireturn, 1)]),
  (118, [(.aload_n 0, 1), (.iload_n 1, 1), (.invokevirtual 368, 3)]),
  (123, [(.ireturn, 1)]),
  (124, [(.aload_n 0, 1), (.getfield 7, 3), (.bipush 65, 2), (.iload_n 1, 1), (.iadd, 1), (.iaload, 1), (.aload_n 0, 1), (.getfield 7, 3), (.bipush 58, 2), (.iload_n 1, 1), (.iadd, 1), (.iaload, 1), (.imul, 1), (.ireturn, 1)])]
def tb_X9_childOf : tf_Bk := [(0, [(.iload_n 2, 1), (.iconst 1, 1), (.iadd, 1), (.istore_n 3, 1)]),
  (4, [(.iload_n 3, 1), (.aload_n 0, 1), (.getfield 7, 3), (.iconst 0, 1), (.iaload, 1), (.if_icmp .ge 21, 3), (.aload_n 0, 1), (.getfield 43, 3), (.iload_n 3, 1), (.iaload, 1), (.iload_n 1, 1), (.if_icmp .ne 5, 3), (.iload_n 3, 1), (.ireturn, 1)]),
  (26, [(.iinc 3 1, 3), (.goto (-25), 3)]),
  (32, [(.iconst (-1), 1), (.ireturn, 1)])]
def tb_X9_thread : tf_Bk := [(0, [(.aload_n 0, 1), (.iconst 0, 1), (.putfield 97, 3), (.iload_n 1, 1), (.iconst 0, 1), (.aload_n 0, 1), (.getfield 7, 3), (.iconst 0, 1), (.iaload, 1), (.iconst 1, 1), (.isub, 1), (.invokestatic 101, 3)]),
  (18, [(.ifCond .ne 5, 3), (.iconst (-1), 1), (.ireturn, 1)]),
  (23, [(.aload_n 0, 1), (.invokevirtual 250, 3)]),
  (27, [(.aload_n 0, 1), (.aload_n 0, 1), (.invokevirtual 236, 3)]),
  (32, [(.iconst (-1), 1), (.invokevirtual 371, 3)]),
  (36, [(.istore_n 2, 1), (.iconst 0, 1), (.istore_n 3, 1)]),
  (39, [(.iload_n 3, 1), (.iload_n 1, 1), (.if_icmp .ge 49, 3), (.aload_n 0, 1), (.iload_n 2, 1), (.iconst (-1), 1), (.invokevirtual 371, 3)]),
  (50, [(.istore 4, 2)]),
  (52, [(.iload 4, 2), (.iconst (-1), 1), (.if_icmp .ne 26, 3), (.aload_n 0, 1), (.aload_n 0, 1), (.getfield 43, 3), (.iload_n 2, 1), (.iaload, 1), (.iload_n 2, 1), (.invokevirtual 371, 3)]),
  (69, [(.istore 4, 2), (.aload_n 0, 1), (.getfield 43, 3), (.iload_n 2, 1), (.iaload, 1), (.istore_n 2, 1), (.goto (-26), 3)]),
  (81, [(.iload 4, 2), (.istore_n 2, 1), (.iinc 3 1, 3), (.goto (-48), 3)]),
  (90, [(.iload_n 2, 1), (.ireturn, 1)])]
def tb_X9_costOfCycle : tf_Bk := [(0, [(.iconst 0, 1), (.istore_n 1, 1), (.iconst 0, 1), (.istore_n 2, 1)]),
  (4, [(.iload_n 2, 1), (.aload_n 0, 1), (.getfield 265, 3), (.if_icmp .ge 57, 3), (.aload_n 0, 1), (.getfield 55, 3), (.iload_n 2, 1), (.iaload, 1), (.invokestatic 262, 3)]),
  (21, [(.ifCond .eq 9, 3), (.sipush 10000, 3), (.goto 14, 3)]),
  (30, [(.aload_n 0, 1), (.aload_n 0, 1), (.getfield 55, 3), (.iload_n 2, 1), (.iaload, 1), (.iconst 3, 1), (.invokevirtual 232, 3)]),
  (41, [(.istore_n 3, 1), (.iload_n 1, 1), (.aload_n 0, 1), (.getfield 58, 3), (.iload_n 2, 1), (.baload, 1), (.ifCond .eq 7, 3), (.iload_n 3, 1), (.goto 5, 3)]),
  (56, [(.iload_n 3, 1), (.ineg, 1)]),
  (58, [(.iadd, 1), (.istore_n 1, 1), (.iinc 2 1, 3), (.goto (-59), 3)]),
  (66, [(.iload_n 1, 1), (.ireturn, 1)])]
def tb_X9_path : tf_Bk := [(0, [(.aload_n 0, 1), (.iconst 0, 1), (.putfield 97, 3), (.aload_n 0, 1), (.iload_n 1, 1), (.iload_n 2, 1), (.invokevirtual 330, 3)]),
  (11, [(.ifCond .ne 7, 3), (.sipush (-1000), 3), (.ireturn, 1)]),
  (18, [(.aload_n 0, 1), (.invokevirtual 250, 3)]),
  (22, [(.aload_n 0, 1), (.aload_n 0, 1), (.iload_n 1, 1), (.iload_n 2, 1), (.invokevirtual 281, 3)]),
  (29, [(.putfield 284, 3), (.aload_n 0, 1), (.iconst 0, 1), (.putfield 265, 3), (.aload_n 0, 1), (.iload_n 1, 1), (.aload_n 0, 1), (.getfield 284, 3), (.invokevirtual 290, 3)]),
  (46, [(.aload_n 0, 1), (.aload_n 0, 1), (.getfield 284, 3), (.iload_n 2, 1), (.invokevirtual 287, 3)]),
  (55, [(.iload_n 3, 1), (.ifCond .ne 8, 3), (.aload_n 0, 1), (.getfield 265, 3), (.ireturn, 1)]),
  (64, [(.iload_n 3, 1), (.iconst 1, 1), (.if_icmp .ne 24, 3), (.aload_n 0, 1), (.invokevirtual 303, 3)]),
  (73, [(.istore 4, 2), (.iload 4, 2), (.ldc_w 274, 3), (.if_icmp .ne 7, 3), (.iconst (-1), 1), (.goto 5, 3)]),
  (87, [(.iload 4, 2)]),
  (89, [(.ireturn, 1)]),
  (90, [(.iload_n 3, 1), (.iconst 2, 1), (.if_icmp .ne 10, 3), (.aload_n 0, 1), (.invokevirtual 374, 3)]),
  (99, [(.goto 35, 3)]),
  (102, [(.iload_n 3, 1), (.bipush 10, 2), (.isub, 1), (.iconst 0, 1), (.aload_n 0, 1), (.getfield 265, 3), (.iconst 1, 1), (.isub, 1), (.invokestatic 101, 3)]),
  (116, [(.ifCond .eq 15, 3), (.aload_n 0, 1), (.getfield 55, 3), (.iload_n 3, 1), (.bipush 10, 2), (.isub, 1), (.iaload, 1), (.goto 6, 3)]),
  (131, [(.sipush (-1000), 3)]),
  (134, [(.ireturn, 1)])]
def tb_X9_next : tf_Bk := [(0, [(.aload_n 0, 1), (.iconst 0, 1), (.putfield 97, 3), (.aload_n 0, 1), (.invokevirtual 250, 3)]),
  (9, [(.aload_n 0, 1), (.invokevirtual 297, 3)]),
  (13, [(.istore_n 2, 1), (.iload_n 2, 1), (.iconst (-1), 1), (.if_icmp .ne 5, 3), (.iconst (-1), 1), (.ireturn, 1)]),
  (21, [(.aload_n 0, 1), (.iload_n 2, 1), (.invokevirtual 300, 3)]),
  (26, [(.aload_n 0, 1), (.invokevirtual 303, 3)]),
  (30, [(.istore_n 3, 1), (.iload_n 1, 1), (.tableswitch 56 0 4 #[36, 38, 44, 46, 51], 36)]),
  (68, [(.iload_n 2, 1), (.ireturn, 1)]),
  (70, [(.aload_n 0, 1), (.iload_n 3, 1), (.invokevirtual 306, 3)]),
  (75, [(.ireturn, 1)]),
  (76, [(.iload_n 3, 1), (.ireturn, 1)]),
  (78, [(.aload_n 0, 1), (.getfield 284, 3), (.ireturn, 1)]),
  (83, [(.aload_n 0, 1), (.getfield 265, 3), (.ireturn, 1)]),
  (88, [(.iload_n 1, 1), (.bipush 10, 2), (.isub, 1), (.iconst 0, 1), (.aload_n 0, 1), (.getfield 265, 3), (.iconst 1, 1), (.isub, 1), (.invokestatic 101, 3)]),
  (102, [(.ifCond .eq 15, 3), (.aload_n 0, 1), (.getfield 55, 3), (.iload_n 1, 1), (.bipush 10, 2), (.isub, 1), (.iaload, 1), (.goto 4, 3)]),
  (117, [(.iconst (-1), 1)]),
  (118, [(.ireturn, 1)])]
def tb_X9_past : tf_Bk := [(0, [(.aload_n 0, 1), (.iconst 0, 1), (.putfield 97, 3), (.iload_n 1, 1), (.iconst 0, 1), (.aload_n 0, 1), (.getfield 7, 3), (.bipush 7, 2), (.iaload, 1), (.iconst 1, 1), (.isub, 1), (.invokestatic 101, 3)]),
  (19, [(.ifCond .eq 28, 3), (.iload_n 2, 1), (.iconst 0, 1), (.iconst 2, 1), (.invokestatic 101, 3)]),
  (28, [(.ifCond .eq 19, 3), (.aload_n 0, 1), (.getfield 7, 3), (.bipush 8, 2), (.iconst 3, 1), (.iload_n 1, 1), (.imul, 1), (.iadd, 1), (.iload_n 2, 1), (.iadd, 1), (.iaload, 1), (.goto 4, 3)]),
  (47, [(.iconst (-1), 1)]),
  (48, [(.ireturn, 1)])]
def tb_X9_billed : tf_Bk := [(0, [(.iconst 0, 1), (.istore_n 1, 1), (.iconst 0, 1), (.istore_n 2, 1)]),
  (4, [(.iload_n 2, 1), (.aload_n 0, 1), (.getfield 7, 3), (.iconst 1, 1), (.iaload, 1), (.if_icmp .ge 25, 3), (.iload_n 1, 1), (.aload_n 0, 1), (.iload_n 2, 1), (.iconst 4, 1), (.invokevirtual 232, 3)]),
  (21, [(.aload_n 0, 1), (.iload_n 2, 1), (.iconst 3, 1), (.invokevirtual 232, 3)]),
  (27, [(.imul, 1), (.iadd, 1), (.istore_n 1, 1), (.iinc 2 1, 3), (.goto (-29), 3)]),
  (36, [(.iload_n 1, 1), (.ireturn, 1)])]
def tb_X9_bill : tf_Bk := [(0, [(.aload_n 0, 1), (.iconst 0, 1), (.putfield 97, 3), (.aload_n 0, 1), (.invokevirtual 377, 3)]),
  (9, [(.i2l, 1), (.iload_n 1, 1), (.i2l, 1), (.lmul, 1), (.lstore_n 2, 1), (.lload_n 2, 1), (.lload_n 2, 1), (.l2i, 1), (.i2l, 1), (.lcmp, 1), (.ifCond .ne 8, 3), (.lload_n 2, 1), (.l2i, 1), (.goto 6, 3)]),
  (27, [(.ldc_w 380, 3)]),
  (30, [(.ireturn, 1)])]
def tb_X9_flowAt : tf_Bk := [(0, [(.iconst 0, 1), (.istore_n 2, 1), (.iconst 0, 1), (.istore_n 3, 1)]),
  (4, [(.iload_n 3, 1), (.aload_n 0, 1), (.getfield 7, 3), (.iconst 1, 1), (.iaload, 1), (.if_icmp .ge 32, 3), (.iload_n 2, 1), (.aload_n 0, 1), (.iload_n 3, 1), (.iconst 3, 1), (.invokevirtual 232, 3)]),
  (21, [(.iload_n 1, 1), (.if_icmp .ne 12, 3), (.aload_n 0, 1), (.iload_n 3, 1), (.iconst 4, 1), (.invokevirtual 232, 3)]),
  (31, [(.goto 4, 3)]),
  (34, [(.iconst 0, 1)]),
  (35, [(.iadd, 1), (.istore_n 2, 1), (.iinc 3 1, 3), (.goto (-36), 3)]),
  (43, [(.iload_n 2, 1), (.ireturn, 1)])]
def tb_X9_ledger : tf_Bk := [(0, [(.aload_n 0, 1), (.iconst 0, 1), (.putfield 97, 3), (.iconst 0, 1), (.istore_n 3, 1), (.bipush (-99), 2), (.istore 4, 2)]),
  (11, [(.iload 4, 2), (.bipush 99, 2), (.if_icmp .gt 42, 3), (.aload_n 0, 1), (.iload 4, 2), (.invokevirtual 381, 3)]),
  (24, [(.ifCond .le 27, 3), (.iload_n 3, 1), (.iload_n 1, 1), (.if_icmp .ne 19, 3), (.iload_n 2, 1), (.ifCond .eq 12, 3), (.aload_n 0, 1), (.iload 4, 2), (.invokevirtual 381, 3)]),
  (42, [(.goto 5, 3)]),
  (45, [(.iload 4, 2)]),
  (47, [(.ireturn, 1)]),
  (48, [(.iinc 3 1, 3)]),
  (51, [(.iinc 4 1, 3), (.goto (-43), 3)]),
  (57, [(.iload_n 1, 1), (.iconst (-1), 1), (.if_icmp .ne 7, 3), (.iload_n 3, 1), (.goto 6, 3)]),
  (66, [(.sipush (-1000), 3)]),
  (69, [(.ireturn, 1)])]
def tb_X9_wide : tf_Bk := [(0, [(.aload_n 0, 1), (.iconst 0, 1), (.putfield 97, 3), (.aload_n 0, 1), (.iload_n 1, 1), (.iload_n 2, 1), (.invokevirtual 330, 3)]),
  (11, [(.ifCond .ne 5, 3), (.iconst (-1), 1), (.ireturn, 1)]),
  (16, [(.iconst 0, 1), (.istore_n 3, 1)]),
  (18, [(.iload_n 3, 1), (.bipush 64, 2), (.if_icmp .ge 16, 3), (.aload_n 0, 1), (.getfield 61, 3), (.iload_n 3, 1), (.iconst 0, 1), (.iastore, 1), (.iinc 3 1, 3), (.goto (-16), 3)]),
  (37, [(.iconst 0, 1), (.istore_n 3, 1)]),
  (39, [(.iload_n 3, 1), (.aload_n 0, 1), (.getfield 7, 3), (.iconst 1, 1), (.iaload, 1), (.if_icmp .ge 128, 3), (.bipush 8, 2), (.aload_n 0, 1), (.iload_n 3, 1), (.iconst 0, 1), (.invokevirtual 232, 3)]),
  (57, [(.imul, 1), (.aload_n 0, 1), (.iload_n 3, 1), (.iconst 1, 1), (.invokevirtual 232, 3)]),
  (64, [(.iadd, 1), (.istore 4, 2), (.bipush 8, 2), (.aload_n 0, 1), (.iload_n 3, 1), (.iconst 1, 1), (.invokevirtual 232, 3)]),
  (75, [(.imul, 1), (.aload_n 0, 1), (.iload_n 3, 1), (.iconst 0, 1), (.invokevirtual 232, 3)]),
  (82, [(.iadd, 1), (.istore 5, 2), (.aload_n 0, 1), (.getfield 61, 3), (.iload 4, 2), (.aload_n 0, 1), (.getfield 61, 3), (.iload 4, 2), (.iaload, 1), (.aload_n 0, 1), (.iload_n 3, 1), (.bipush 6, 2), (.invokevirtual 232, 3)]),
  (105, [(.iconst 1, 1), (.if_icmp .ne 7, 3), (.iconst 0, 1), (.goto 16, 3)]),
  (113, [(.aload_n 0, 1), (.iload_n 3, 1), (.iconst 2, 1), (.invokevirtual 232, 3)]),
  (119, [(.aload_n 0, 1), (.iload_n 3, 1), (.iconst 4, 1), (.invokevirtual 232, 3)]),
  (125, [(.isub, 1)]),
  (126, [(.invokestatic 384, 3)]),
  (129, [(.iastore, 1), (.aload_n 0, 1), (.getfield 61, 3), (.iload 5, 2), (.aload_n 0, 1), (.getfield 61, 3), (.iload 5, 2), (.iaload, 1), (.aload_n 0, 1), (.iload_n 3, 1), (.bipush 6, 2), (.invokevirtual 232, 3)]),
  (150, [(.iconst 1, 1), (.if_icmp .ne 7, 3), (.iconst 0, 1), (.goto 9, 3)]),
  (158, [(.aload_n 0, 1), (.iload_n 3, 1), (.iconst 4, 1), (.invokevirtual 232, 3)]),
  (164, [(.invokestatic 384, 3)]),
  (167, [(.iastore, 1), (.iinc 3 1, 3), (.goto (-132), 3)]),
  (174, [(.iconst 0, 1), (.istore_n 3, 1)]),
  (176, [(.iload_n 3, 1), (.aload_n 0, 1), (.getfield 7, 3), (.iconst 0, 1), (.iaload, 1), (.if_icmp .ge 75, 3), (.iconst 0, 1), (.istore 4, 2)]),
  (189, [(.iload 4, 2), (.bipush 64, 2), (.if_icmp .ge 59, 3), (.aload_n 0, 1), (.getfield 61, 3), (.iload 4, 2), (.aload_n 0, 1), (.getfield 61, 3), (.iload 4, 2), (.iaload, 1), (.aload_n 0, 1), (.getfield 61, 3), (.iload 4, 2), (.bipush 8, 2), (.idiv, 1), (.bipush 8, 2), (.imul, 1), (.iload_n 3, 1), (.iadd, 1), (.iaload, 1), (.aload_n 0, 1), (.getfield 61, 3), (.bipush 8, 2), (.iload_n 3, 1), (.imul, 1), (.iload 4, 2), (.bipush 8, 2), (.irem, 1), (.iadd, 1), (.iaload, 1), (.invokestatic 278, 3)]),
  (242, [(.invokestatic 384, 3)]),
  (245, [(.iastore, 1), (.iinc 4 1, 3), (.goto (-60), 3)]),
  (252, [(.iinc 3 1, 3), (.goto (-79), 3)]),
  (258, [(.aload_n 0, 1), (.getfield 61, 3), (.bipush 8, 2), (.iload_n 1, 1), (.imul, 1), (.iload_n 2, 1), (.iadd, 1), (.iaload, 1), (.ireturn, 1)])]
def tb_X9_outOf : tf_Bk := [(0, [(.iconst 0, 1), (.istore_n 2, 1)]),
  (2, [(.iload_n 2, 1), (.aload_n 0, 1), (.getfield 7, 3), (.iconst 1, 1), (.iaload, 1), (.if_icmp .ge 30, 3), (.aload_n 0, 1), (.iload_n 2, 1), (.iconst 0, 1), (.invokevirtual 232, 3)]),
  (18, [(.iload_n 1, 1), (.if_icmp .ne 14, 3), (.aload_n 0, 1), (.getfield 64, 3), (.iload_n 2, 1), (.iaload, 1), (.ifCond .le 5, 3), (.iload_n 2, 1), (.ireturn, 1)]),
  (33, [(.iinc 2 1, 3), (.goto (-34), 3)]),
  (39, [(.iconst (-1), 1), (.ireturn, 1)])]
def tb_X9_startOf : tf_Bk := [(0, [(.iconst (-1), 1), (.istore_n 1, 1), (.iconst 0, 1), (.istore_n 2, 1)]),
  (4, [(.iload_n 2, 1), (.aload_n 0, 1), (.getfield 7, 3), (.iconst 0, 1), (.iaload, 1), (.if_icmp .ge 104, 3), (.iconst 0, 1), (.istore_n 3, 1), (.iconst 0, 1), (.istore 4, 2)]),
  (19, [(.iload 4, 2), (.aload_n 0, 1), (.getfield 7, 3), (.iconst 1, 1), (.iaload, 1), (.if_icmp .ge 56, 3), (.iload_n 3, 1), (.aload_n 0, 1), (.iload 4, 2), (.iconst 0, 1), (.invokevirtual 232, 3)]),
  (38, [(.iload_n 2, 1), (.if_icmp .ne 13, 3), (.aload_n 0, 1), (.getfield 64, 3), (.iload 4, 2), (.iaload, 1), (.goto 26, 3)]),
  (52, [(.aload_n 0, 1), (.iload 4, 2), (.iconst 1, 1), (.invokevirtual 232, 3)]),
  (59, [(.iload_n 2, 1), (.if_icmp .ne 14, 3), (.aload_n 0, 1), (.getfield 64, 3), (.iload 4, 2), (.iaload, 1), (.ineg, 1), (.goto 4, 3)]),
  (74, [(.iconst 0, 1)]),
  (75, [(.iadd, 1), (.istore_n 3, 1), (.iinc 4 1, 3), (.goto (-61), 3)]),
  (83, [(.iload_n 3, 1), (.ifCond .le 5, 3), (.iload_n 2, 1), (.ireturn, 1)]),
  (89, [(.iload_n 1, 1), (.iconst (-1), 1), (.if_icmp .ne 16, 3), (.aload_n 0, 1), (.iload_n 2, 1), (.invokevirtual 387, 3)]),
  (99, [(.iconst (-1), 1), (.if_icmp .eq 7, 3), (.iload_n 2, 1), (.goto 4, 3)]),
  (107, [(.iload_n 1, 1)]),
  (108, [(.istore_n 1, 1), (.iinc 2 1, 3), (.goto (-108), 3)]),
  (115, [(.iload_n 1, 1), (.ireturn, 1)])]
def tb_X9_stopAt : tf_Bk := [(0, [(.iconst 0, 1), (.istore_n 3, 1)]),
  (2, [(.iload_n 3, 1), (.iload_n 2, 1), (.if_icmp .ge 21, 3), (.aload_n 0, 1), (.getfield 70, 3), (.iload_n 3, 1), (.iaload, 1), (.iload_n 1, 1), (.if_icmp .ne 5, 3), (.iload_n 3, 1), (.ireturn, 1)]),
  (19, [(.iinc 3 1, 3), (.goto (-20), 3)]),
  (25, [(.iconst (-1), 1), (.ireturn, 1)])]
def tb_X9_goesTrip : tf_Bk := [(0, [(.aload_n 0, 1), (.invokevirtual 390, 3)]),
  (4, [(.istore_n 1, 1), (.iload_n 1, 1), (.iconst (-1), 1), (.if_icmp .ne 5, 3), (.iconst 0, 1), (.ireturn, 1)]),
  (12, [(.iconst 0, 1), (.istore_n 2, 1), (.iconst 0, 1), (.istore_n 3, 1), (.aload_n 0, 1), (.getfield 70, 3), (.iconst 0, 1), (.iload_n 1, 1), (.iastore, 1), (.iconst 1, 1), (.istore 4, 2)]),
  (26, [(.iload 4, 2), (.ifCond .eq 82, 3), (.aload_n 0, 1), (.iload_n 1, 1), (.invokevirtual 387, 3)]),
  (36, [(.istore 5, 2), (.aload_n 0, 1), (.getfield 67, 3), (.iload_n 2, 1), (.iload 5, 2), (.iastore, 1), (.iinc 2 1, 3), (.aload_n 0, 1), (.iload 5, 2), (.iconst 1, 1), (.invokevirtual 232, 3)]),
  (56, [(.istore_n 1, 1), (.aload_n 0, 1), (.iload_n 1, 1), (.iload_n 2, 1), (.invokevirtual 393, 3)]),
  (63, [(.istore 6, 2), (.iload 6, 2), (.iconst (-1), 1), (.if_icmp .ne 7, 3), (.iconst 0, 1), (.goto 5, 3)]),
  (75, [(.iload 6, 2)]),
  (77, [(.istore_n 3, 1), (.aload_n 0, 1), (.getfield 70, 3), (.iload_n 2, 1), (.iload_n 1, 1), (.iastore, 1), (.iload 6, 2), (.iconst (-1), 1), (.if_icmp .ne 16, 3), (.aload_n 0, 1), (.iload_n 1, 1), (.invokevirtual 387, 3)]),
  (96, [(.iconst (-1), 1), (.if_icmp .eq 7, 3), (.iconst 1, 1), (.goto 4, 3)]),
  (104, [(.iconst 0, 1)]),
  (105, [(.istore 4, 2), (.goto (-81), 3)]),
  (110, [(.aload_n 0, 1), (.iload_n 2, 1), (.iload_n 3, 1), (.isub, 1), (.putfield 396, 3), (.aload_n 0, 1), (.ldc_w 274, 3), (.putfield 399, 3), (.iconst 0, 1), (.istore 5, 2)]),
  (127, [(.iload 5, 2), (.aload_n 0, 1), (.getfield 396, 3), (.if_icmp .ge 48, 3), (.aload_n 0, 1), (.getfield 67, 3), (.iload 5, 2), (.aload_n 0, 1), (.getfield 67, 3), (.iload 5, 2), (.iload_n 3, 1), (.iadd, 1), (.iaload, 1), (.iastore, 1), (.aload_n 0, 1), (.aload_n 0, 1), (.getfield 399, 3), (.aload_n 0, 1), (.getfield 64, 3), (.aload_n 0, 1), (.getfield 67, 3), (.iload 5, 2), (.iaload, 1), (.iaload, 1), (.invokestatic 278, 3)]),
  (172, [(.putfield 399, 3), (.iinc 5 1, 3), (.goto (-51), 3)]),
  (181, [(.iconst 0, 1), (.istore 5, 2)]),
  (184, [(.iload 5, 2), (.aload_n 0, 1), (.getfield 396, 3), (.if_icmp .ge 28, 3), (.aload_n 0, 1), (.getfield 64, 3), (.aload_n 0, 1), (.getfield 67, 3), (.iload 5, 2), (.iaload, 1), (.dup2, 1), (.iaload, 1), (.aload_n 0, 1), (.getfield 399, 3), (.isub, 1), (.iastore, 1), (.iinc 5 1, 3), (.goto (-31), 3)]),
  (218, [(.iconst 1, 1), (.ireturn, 1)])]
def tb_X9_trip : tf_Bk := [(0, [(.aload_n 0, 1), (.iconst 0, 1), (.putfield 97, 3), (.iconst 0, 1), (.istore_n 3, 1)]),
  (7, [(.iload_n 3, 1), (.aload_n 0, 1), (.getfield 7, 3), (.iconst 1, 1), (.iaload, 1), (.if_icmp .ge 21, 3), (.aload_n 0, 1), (.getfield 64, 3), (.iload_n 3, 1), (.aload_n 0, 1), (.iload_n 3, 1), (.iconst 4, 1), (.invokevirtual 232, 3)]),
  (28, [(.iastore, 1), (.iinc 3 1, 3), (.goto (-25), 3)]),
  (35, [(.iconst 0, 1), (.istore_n 3, 1), (.aload_n 0, 1), (.invokevirtual 402, 3)]),
  (41, [(.istore 4, 2)]),
  (43, [(.iload 4, 2), (.ifCond .eq 20, 3), (.iload_n 3, 1), (.iload_n 1, 1), (.if_icmp .eq 15, 3), (.iinc 3 1, 3), (.aload_n 0, 1), (.invokevirtual 402, 3)]),
  (60, [(.istore 4, 2), (.goto (-19), 3)]),
  (65, [(.iload 4, 2), (.ifCond .ne 18, 3), (.iload_n 1, 1), (.iconst (-1), 1), (.if_icmp .ne 11, 3), (.iload_n 2, 1), (.ifCond .ne 7, 3), (.iload_n 3, 1), (.goto 4, 3)]),
  (83, [(.iconst (-1), 1)]),
  (84, [(.ireturn, 1)]),
  (85, [(.iload_n 2, 1), (.ifCond .ne 10, 3), (.aload_n 0, 1), (.getfield 399, 3), (.goto 45, 3)]),
  (96, [(.iload_n 2, 1), (.iconst 1, 1), (.if_icmp .ne 10, 3), (.aload_n 0, 1), (.getfield 396, 3), (.goto 33, 3)]),
  (108, [(.iload_n 2, 1), (.bipush 10, 2), (.isub, 1), (.iconst 0, 1), (.aload_n 0, 1), (.getfield 396, 3), (.iconst 1, 1), (.isub, 1), (.invokestatic 101, 3)]),
  (122, [(.ifCond .eq 15, 3), (.aload_n 0, 1), (.getfield 67, 3), (.iload_n 2, 1), (.bipush 10, 2), (.isub, 1), (.iaload, 1), (.goto 4, 3)]),
  (137, [(.iconst (-1), 1)]),
  (138, [(.ireturn, 1)])]
def tb_X9_flowIn : tf_Bk := [(0, [(.sipush 173, 3), (.iload_n 1, 1), (.imul, 1), (.istore_n 3, 1), (.iload_n 2, 1), (.aload_n 0, 1), (.getfield 7, 3), (.iload_n 3, 1), (.iconst 1, 1), (.iadd, 1), (.iaload, 1), (.if_icmp .ge 22, 3), (.aload_n 0, 1), (.getfield 7, 3), (.iload_n 3, 1), (.bipush 72, 2), (.iadd, 1), (.bipush 7, 2), (.iload_n 2, 1), (.imul, 1), (.iadd, 1), (.iconst 4, 1), (.iadd, 1), (.iaload, 1), (.goto 4, 3)]),
  (37, [(.iconst 0, 1)]),
  (38, [(.ireturn, 1)])]
def tb_X9_apart : tf_Bk := [(0, [(.aload_n 0, 1), (.iconst 0, 1), (.putfield 97, 3), (.iload_n 1, 1), (.iconst 0, 1), (.iconst 2, 1), (.invokestatic 101, 3)]),
  (11, [(.ifCond .eq 12, 3), (.aload_n 0, 1), (.getfield 17, 3), (.iload_n 1, 1), (.baload, 1), (.ifCond .ne 5, 3)]),
  (23, [(.iconst (-1), 1), (.ireturn, 1)]),
  (25, [(.iconst 0, 1), (.istore_n 2, 1), (.iconst 0, 1), (.istore_n 3, 1)]),
  (29, [(.iload_n 3, 1), (.bipush 14, 2), (.if_icmp .ge 34, 3), (.iload_n 2, 1), (.aload_n 0, 1), (.iconst 0, 1), (.iload_n 3, 1), (.invokevirtual 405, 3)]),
  (42, [(.aload_n 0, 1), (.iload_n 1, 1), (.iconst 1, 1), (.iadd, 1), (.iload_n 3, 1), (.invokevirtual 405, 3)]),
  (50, [(.if_icmp .ne 7, 3), (.iconst 0, 1), (.goto 4, 3)]),
  (57, [(.iconst 1, 1)]),
  (58, [(.iadd, 1), (.istore_n 2, 1), (.iinc 3 1, 3), (.goto (-34), 3)]),
  (66, [(.iload_n 2, 1), (.ireturn, 1)])]
def tb_X9_span : tf_Bk := [(0, [(.aload_n 0, 1), (.iconst 0, 1), (.putfield 97, 3), (.aload_n 0, 1), (.iload_n 1, 1), (.invokevirtual 342, 3)]),
  (10, [(.ifCond .eq 10, 3), (.aload_n 0, 1), (.invokevirtual 321, 3)]),
  (17, [(.ifCond .ne 7, 3)]),
  (20, [(.sipush (-1000), 3), (.ireturn, 1)]),
  (24, [(.aload_n 0, 1), (.iload_n 1, 1), (.iconst 3, 1), (.invokevirtual 232, 3)]),
  (30, [(.istore_n 3, 1), (.sipush (-1000), 3), (.istore 4, 2), (.bipush (-99), 2), (.istore 5, 2)]),
  (40, [(.iload 5, 2), (.bipush 99, 2), (.if_icmp .gt 47, 3), (.iload_n 2, 1), (.ifCond .eq 8, 3), (.iload 5, 2), (.goto 6, 3)]),
  (56, [(.iload 5, 2), (.ineg, 1)]),
  (59, [(.istore 6, 2), (.aload_n 0, 1), (.iload_n 1, 1), (.iconst 3, 1), (.iload 6, 2), (.invokevirtual 293, 3)]),
  (69, [(.aload_n 0, 1), (.invokevirtual 321, 3)]),
  (73, [(.ifCond .eq 8, 3), (.iload 6, 2), (.goto 5, 3)]),
  (81, [(.iload 4, 2)]),
  (83, [(.istore 4, 2), (.iinc 5 1, 3), (.goto (-48), 3)]),
  (91, [(.aload_n 0, 1), (.iload_n 1, 1), (.iconst 3, 1), (.iload_n 3, 1), (.invokevirtual 293, 3)]),
  (98, [(.iload 4, 2), (.ireturn, 1)])]
def tb_X9_asNow : tf_Bk := [(0, [(.iconst 0, 1), (.istore_n 1, 1)]),
  (2, [(.iload_n 1, 1), (.aload_n 0, 1), (.getfield 7, 3), (.iconst 1, 1), (.iaload, 1), (.if_icmp .ge 48, 3), (.aload_n 0, 1), (.getfield 73, 3), (.iload_n 1, 1), (.aload_n 0, 1), (.iload_n 1, 1), (.bipush 6, 2), (.invokevirtual 232, 3)]),
  (24, [(.iconst 1, 1), (.if_icmp .ne 7, 3), (.iconst 0, 1), (.goto 9, 3)]),
  (32, [(.aload_n 0, 1), (.iload_n 1, 1), (.iconst 2, 1), (.invokevirtual 232, 3)]),
  (38, [(.iastore, 1), (.aload_n 0, 1), (.getfield 76, 3), (.iload_n 1, 1), (.aload_n 0, 1), (.iload_n 1, 1), (.iconst 3, 1), (.invokevirtual 232, 3)]),
  (50, [(.iastore, 1), (.iinc 1 1, 3), (.goto (-52), 3)]),
  (57, [(.iconst 0, 1), (.istore_n 1, 1)]),
  (59, [(.iload_n 1, 1), (.aload_n 0, 1), (.getfield 7, 3), (.iconst 0, 1), (.iaload, 1), (.if_icmp .ge 24, 3), (.aload_n 0, 1), (.getfield 82, 3), (.iload_n 1, 1), (.aload_n 0, 1), (.getfield 7, 3), (.bipush 44, 2), (.iload_n 1, 1), (.iadd, 1), (.iaload, 1), (.iastore, 1), (.iinc 1 1, 3), (.goto (-28), 3)]),
  (90, [(.return_, 1)])]
def tb_X9_relaxes : tf_Bk := [(0, [(.iload_n 2, 1), (.ifCond .ne 19, 3), (.aload_n 0, 1), (.getfield 73, 3), (.iload_n 1, 1), (.iaload, 1), (.aload_n 0, 1), (.getfield 79, 3), (.iload_n 1, 1), (.iaload, 1), (.isub, 1), (.goto 9, 3)]),
  (20, [(.aload_n 0, 1), (.getfield 79, 3), (.iload_n 1, 1), (.iaload, 1)]),
  (26, [(.istore_n 3, 1), (.aload_n 0, 1), (.iload_n 1, 1), (.iload_n 2, 1), (.ifCond .ne 7, 3), (.iconst 0, 1), (.goto 4, 3)]),
  (37, [(.iconst 1, 1)]),
  (38, [(.invokevirtual 232, 3)]),
  (41, [(.istore 4, 2), (.aload_n 0, 1), (.iload_n 1, 1), (.iload_n 2, 1), (.ifCond .ne 7, 3), (.iconst 1, 1), (.goto 4, 3)]),
  (53, [(.iconst 0, 1)]),
  (54, [(.invokevirtual 232, 3)]),
  (57, [(.istore 5, 2), (.iload_n 2, 1), (.ifCond .ne 12, 3), (.aload_n 0, 1), (.getfield 76, 3), (.iload_n 1, 1), (.iaload, 1), (.goto 10, 3)]),
  (72, [(.aload_n 0, 1), (.getfield 76, 3), (.iload_n 1, 1), (.iaload, 1), (.ineg, 1)]),
  (79, [(.istore 6, 2), (.iload_n 3, 1), (.ifCond .eq 36, 3), (.aload_n 0, 1), (.getfield 85, 3), (.iload 4, 2), (.iaload, 1), (.ldc_w 274, 3), (.if_icmp .eq 23, 3), (.aload_n 0, 1), (.getfield 85, 3), (.iload 4, 2), (.iaload, 1), (.iload 6, 2), (.iadd, 1), (.aload_n 0, 1), (.getfield 85, 3), (.iload 5, 2), (.iaload, 1), (.if_icmp .lt 5, 3)]),
  (118, [(.iconst 0, 1), (.ireturn, 1)]),
  (120, [(.aload_n 0, 1), (.getfield 85, 3), (.iload 5, 2), (.aload_n 0, 1), (.getfield 85, 3), (.iload 4, 2), (.iaload, 1), (.iload 6, 2), (.iadd, 1), (.iastore, 1), (.aload_n 0, 1), (.getfield 88, 3), (.iload 5, 2), (.iconst 2, 1), (.iload_n 1, 1), (.imul, 1), (.iload_n 2, 1), (.iadd, 1), (.iastore, 1), (.iconst 1, 1), (.ireturn, 1)])]
def tb_X9_laysCheapest : tf_Bk := [(0, [(.iconst 0, 1), (.istore_n 1, 1)]),
  (2, [(.iload_n 1, 1), (.aload_n 0, 1), (.getfield 7, 3), (.iconst 0, 1), (.iaload, 1), (.if_icmp .ge 38, 3), (.aload_n 0, 1), (.getfield 85, 3), (.iload_n 1, 1), (.aload_n 0, 1), (.getfield 82, 3), (.iload_n 1, 1), (.iaload, 1), (.ifCond .le 7, 3), (.iconst 0, 1), (.goto 6, 3)]),
  (30, [(.ldc_w 274, 3)]),
  (33, [(.iastore, 1), (.aload_n 0, 1), (.getfield 88, 3), (.iload_n 1, 1), (.iconst (-1), 1), (.iastore, 1), (.iinc 1 1, 3), (.goto (-42), 3)]),
  (47, [(.iconst 1, 1), (.istore_n 1, 1), (.iconst 0, 1), (.istore_n 2, 1)]),
  (51, [(.iload_n 2, 1), (.bipush 7, 2), (.if_icmp .gt 48, 3), (.iload_n 1, 1), (.ifCond .eq 44, 3), (.iconst 0, 1), (.istore_n 1, 1), (.iconst 0, 1), (.istore_n 3, 1)]),
  (65, [(.iload_n 3, 1), (.iconst 2, 1), (.aload_n 0, 1), (.getfield 7, 3), (.iconst 1, 1), (.iaload, 1), (.imul, 1), (.if_icmp .ge 22, 3), (.iload_n 1, 1), (.aload_n 0, 1), (.iload_n 3, 1), (.iconst 2, 1), (.idiv, 1), (.iload_n 3, 1), (.iconst 2, 1), (.irem, 1), (.invokevirtual 408, 3)]),
  (88, [(.ior, 1), (.istore_n 1, 1), (.iinc 3 1, 3), (.goto (-28), 3)]),
  (96, [(.iinc 2 1, 3), (.goto (-48), 3)]),
  (102, [(.return_, 1)])]
def tb_X9_wanting : tf_Bk := [(0, [(.iconst (-1), 1), (.istore_n 1, 1), (.iconst 0, 1), (.istore_n 2, 1)]),
  (4, [(.iload_n 2, 1), (.aload_n 0, 1), (.getfield 7, 3), (.iconst 0, 1), (.iaload, 1), (.if_icmp .ge 52, 3), (.aload_n 0, 1), (.getfield 82, 3), (.iload_n 2, 1), (.iaload, 1), (.ifCond .ge 37, 3), (.aload_n 0, 1), (.getfield 85, 3), (.iload_n 2, 1), (.iaload, 1), (.ldc_w 274, 3), (.if_icmp .ge 25, 3), (.iload_n 1, 1), (.iconst (-1), 1), (.if_icmp .eq 18, 3), (.aload_n 0, 1), (.getfield 85, 3), (.iload_n 2, 1), (.iaload, 1), (.aload_n 0, 1), (.getfield 85, 3), (.iload_n 1, 1), (.iaload, 1), (.if_icmp .ge 5, 3)]),
  (55, [(.iload_n 2, 1), (.istore_n 1, 1)]),
  (57, [(.iinc 2 1, 3), (.goto (-56), 3)]),
  (63, [(.iload_n 1, 1), (.ireturn, 1)])]
def tb_X9_backBy : tf_Bk := [(0, [(.aload_n 0, 1), (.aload_n 0, 1), (.getfield 88, 3), (.iload_n 1, 1), (.iaload, 1), (.iconst 2, 1), (.idiv, 1), (.aload_n 0, 1), (.getfield 88, 3), (.iload_n 1, 1), (.iaload, 1), (.iconst 2, 1), (.irem, 1), (.ifCond .ne 7, 3), (.iconst 0, 1), (.goto 4, 3)]),
  (24, [(.iconst 1, 1)]),
  (25, [(.invokevirtual 232, 3)]),
  (28, [(.ireturn, 1)])]
def tb_X9_sendsTo : tf_Bk := [(0, [(.aload_n 0, 1), (.getfield 82, 3), (.iload_n 1, 1), (.iaload, 1), (.ineg, 1), (.istore_n 2, 1), (.iload_n 1, 1), (.istore_n 3, 1)]),
  (10, [(.aload_n 0, 1), (.getfield 88, 3), (.iload_n 3, 1), (.iaload, 1), (.iconst (-1), 1), (.if_icmp .eq 63, 3), (.aload_n 0, 1), (.getfield 88, 3), (.iload_n 3, 1), (.iaload, 1), (.iconst 2, 1), (.idiv, 1), (.istore 4, 2), (.iload_n 2, 1), (.aload_n 0, 1), (.getfield 88, 3), (.iload_n 3, 1), (.iaload, 1), (.iconst 2, 1), (.irem, 1), (.ifCond .ne 21, 3), (.aload_n 0, 1), (.getfield 73, 3), (.iload 4, 2), (.iaload, 1), (.aload_n 0, 1), (.getfield 79, 3), (.iload 4, 2), (.iaload, 1), (.isub, 1), (.goto 10, 3)]),
  (60, [(.aload_n 0, 1), (.getfield 79, 3), (.iload 4, 2), (.iaload, 1)]),
  (67, [(.invokestatic 278, 3)]),
  (70, [(.istore_n 2, 1), (.aload_n 0, 1), (.iload_n 3, 1), (.invokevirtual 411, 3)]),
  (76, [(.istore_n 3, 1), (.goto (-67), 3)]),
  (80, [(.iload_n 2, 1), (.aload_n 0, 1), (.getfield 82, 3), (.iload_n 3, 1), (.iaload, 1), (.invokestatic 278, 3)]),
  (90, [(.istore_n 2, 1), (.aload_n 0, 1), (.getfield 82, 3), (.iload_n 3, 1), (.dup2, 1), (.iaload, 1), (.iload_n 2, 1), (.isub, 1), (.iastore, 1), (.aload_n 0, 1), (.getfield 82, 3), (.iload_n 1, 1), (.dup2, 1), (.iaload, 1), (.iload_n 2, 1), (.iadd, 1), (.iastore, 1), (.iload_n 1, 1), (.istore_n 3, 1)]),
  (113, [(.aload_n 0, 1), (.getfield 88, 3), (.iload_n 3, 1), (.iaload, 1), (.iconst (-1), 1), (.if_icmp .eq 45, 3), (.aload_n 0, 1), (.getfield 79, 3), (.aload_n 0, 1), (.getfield 88, 3), (.iload_n 3, 1), (.iaload, 1), (.iconst 2, 1), (.idiv, 1), (.dup2, 1), (.iaload, 1), (.aload_n 0, 1), (.getfield 88, 3), (.iload_n 3, 1), (.iaload, 1), (.iconst 2, 1), (.irem, 1), (.ifCond .ne 7, 3), (.iload_n 2, 1), (.goto 5, 3)]),
  (152, [(.iload_n 2, 1), (.ineg, 1)]),
  (154, [(.iadd, 1), (.iastore, 1), (.aload_n 0, 1), (.iload_n 3, 1), (.invokevirtual 411, 3)]),
  (161, [(.istore_n 3, 1), (.goto (-49), 3)]),
  (165, [(.return_, 1)])]
def tb_X9_carries : tf_Bk := [(0, [(.iconst 0, 1), (.istore_n 1, 1)]),
  (2, [(.iload_n 1, 1), (.aload_n 0, 1), (.getfield 7, 3), (.iconst 1, 1), (.iaload, 1), (.if_icmp .ge 74, 3), (.aload_n 0, 1), (.getfield 79, 3), (.iload_n 1, 1), (.aload_n 0, 1), (.getfield 76, 3), (.iload_n 1, 1), (.iaload, 1), (.ifCond .ge 12, 3), (.aload_n 0, 1), (.getfield 73, 3), (.iload_n 1, 1), (.iaload, 1), (.goto 4, 3)]),
  (35, [(.iconst 0, 1)]),
  (36, [(.iastore, 1), (.aload_n 0, 1), (.getfield 82, 3), (.aload_n 0, 1), (.iload_n 1, 1), (.iconst 0, 1), (.invokevirtual 232, 3)]),
  (47, [(.dup2, 1), (.iaload, 1), (.aload_n 0, 1), (.getfield 79, 3), (.iload_n 1, 1), (.iaload, 1), (.isub, 1), (.iastore, 1), (.aload_n 0, 1), (.getfield 82, 3), (.aload_n 0, 1), (.iload_n 1, 1), (.iconst 1, 1), (.invokevirtual 232, 3)]),
  (67, [(.dup2, 1), (.iaload, 1), (.aload_n 0, 1), (.getfield 79, 3), (.iload_n 1, 1), (.iaload, 1), (.iadd, 1), (.iastore, 1), (.iinc 1 1, 3), (.goto (-78), 3)]),
  (83, [(.iconst 0, 1), (.istore_n 1, 1), (.iconst 0, 1), (.istore_n 2, 1)]),
  (87, [(.iload_n 2, 1), (.sipush 10000, 3), (.if_icmp .ge 33, 3), (.iload_n 1, 1), (.iconst (-1), 1), (.if_icmp .eq 28, 3), (.aload_n 0, 1), (.invokevirtual 414, 3)]),
  (103, [(.aload_n 0, 1), (.invokevirtual 417, 3)]),
  (107, [(.istore_n 1, 1), (.iload_n 1, 1), (.iconst (-1), 1), (.if_icmp .eq 8, 3), (.aload_n 0, 1), (.iload_n 1, 1), (.invokevirtual 420, 3)]),
  (118, [(.iinc 2 1, 3), (.goto (-34), 3)]),
  (124, [(.iconst 0, 1), (.istore_n 2, 1)]),
  (126, [(.iload_n 2, 1), (.aload_n 0, 1), (.getfield 7, 3), (.iconst 0, 1), (.iaload, 1), (.if_icmp .ge 20, 3), (.aload_n 0, 1), (.getfield 82, 3), (.iload_n 2, 1), (.iaload, 1), (.ifCond .eq 5, 3), (.iconst 0, 1), (.ireturn, 1)]),
  (147, [(.iinc 2 1, 3), (.goto (-24), 3)]),
  (153, [(.iconst 1, 1), (.ireturn, 1)])]
def tb_X9_cheapestCost : tf_Bk := [(0, [(.aload_n 0, 1), (.invokevirtual 423, 3)]),
  (4, [(.ifCond .ne 7, 3), (.ldc_w 426, 3), (.ireturn, 1)]),
  (11, [(.iconst 0, 1), (.istore_n 1, 1), (.iconst 0, 1), (.istore_n 2, 1)]),
  (15, [(.iload_n 2, 1), (.aload_n 0, 1), (.getfield 7, 3), (.iconst 1, 1), (.iaload, 1), (.if_icmp .ge 25, 3), (.iload_n 1, 1), (.aload_n 0, 1), (.getfield 79, 3), (.iload_n 2, 1), (.iaload, 1), (.aload_n 0, 1), (.getfield 76, 3), (.iload_n 2, 1), (.iaload, 1), (.imul, 1), (.iadd, 1), (.istore_n 1, 1), (.iinc 2 1, 3), (.goto (-29), 3)]),
  (47, [(.iload_n 1, 1), (.ireturn, 1)])]
def tb_X9_least : tf_Bk := [(0, [(.aload_n 0, 1), (.iconst 0, 1), (.putfield 97, 3), (.aload_n 0, 1), (.invokevirtual 427, 3)]),
  (9, [(.aload_n 0, 1), (.invokevirtual 430, 3)]),
  (13, [(.ireturn, 1)])]
def tb_X9_lessThan : tf_Bk := [(0, [(.iload_n 1, 1), (.ldc_w 426, 3), (.if_icmp .eq 10, 3), (.iload_n 2, 1), (.ldc_w 426, 3), (.if_icmp .ne 9, 3)]),
  (14, [(.ldc_w 426, 3), (.goto 6, 3)]),
  (20, [(.iload_n 1, 1), (.iload_n 2, 1), (.isub, 1)]),
  (23, [(.ireturn, 1)])]
def tb_X9_worth : tf_Bk := [(0, [(.aload_n 0, 1), (.iconst 0, 1), (.putfield 97, 3), (.aload_n 0, 1), (.iload_n 1, 1), (.invokevirtual 342, 3)]),
  (10, [(.ifCond .eq 12, 3), (.iload_n 2, 1), (.iconst 0, 1), (.iconst 2, 1), (.invokestatic 101, 3)]),
  (19, [(.ifCond .ne 7, 3)]),
  (22, [(.ldc_w 426, 3), (.ireturn, 1)]),
  (26, [(.aload_n 0, 1), (.invokevirtual 427, 3)]),
  (30, [(.aload_n 0, 1), (.invokevirtual 430, 3)]),
  (34, [(.istore_n 3, 1), (.aload_n 0, 1), (.invokevirtual 427, 3)]),
  (39, [(.iload_n 2, 1), (.iconst 2, 1), (.if_icmp .ne 16, 3), (.aload_n 0, 1), (.getfield 76, 3), (.iload_n 1, 1), (.dup2, 1), (.iaload, 1), (.iconst 1, 1), (.iadd, 1), (.iastore, 1), (.goto 38, 3)]),
  (57, [(.iload_n 2, 1), (.iconst 1, 1), (.if_icmp .ne 13, 3), (.aload_n 0, 1), (.getfield 73, 3), (.iload_n 1, 1), (.iconst 0, 1), (.iastore, 1), (.goto 23, 3)]),
  (72, [(.aload_n 0, 1), (.iload_n 1, 1), (.bipush 6, 2), (.invokevirtual 232, 3)]),
  (79, [(.ifCond .ne 13, 3), (.aload_n 0, 1), (.getfield 73, 3), (.iload_n 1, 1), (.dup2, 1), (.iaload, 1), (.iconst 1, 1), (.iadd, 1), (.iastore, 1)]),
  (92, [(.aload_n 0, 1), (.aload_n 0, 1), (.invokevirtual 430, 3)]),
  (97, [(.iload_n 3, 1), (.invokevirtual 433, 3)]),
  (101, [(.ireturn, 1)])]
def tb_X9_toll : tf_Bk := [(0, [(.aload_n 0, 1), (.iconst 0, 1), (.putfield 97, 3), (.aload_n 0, 1), (.iload_n 1, 1), (.iload_n 2, 1), (.invokevirtual 330, 3)]),
  (11, [(.ifCond .ne 7, 3), (.ldc_w 426, 3), (.ireturn, 1)]),
  (18, [(.aload_n 0, 1), (.invokevirtual 427, 3)]),
  (22, [(.aload_n 0, 1), (.invokevirtual 430, 3)]),
  (26, [(.istore_n 3, 1), (.aload_n 0, 1), (.invokevirtual 427, 3)]),
  (31, [(.aload_n 0, 1), (.getfield 82, 3), (.iload_n 1, 1), (.dup2, 1), (.iaload, 1), (.iconst 1, 1), (.iadd, 1), (.iastore, 1), (.aload_n 0, 1), (.getfield 82, 3), (.iload_n 2, 1), (.dup2, 1), (.iaload, 1), (.iconst 1, 1), (.isub, 1), (.iastore, 1), (.aload_n 0, 1), (.aload_n 0, 1), (.invokevirtual 430, 3)]),
  (56, [(.iload_n 3, 1), (.invokevirtual 433, 3)]),
  (60, [(.ireturn, 1)])]
def tb_X9_bothOf : tf_Bk := [(0, [(.iconst 0, 1), (.istore_n 2, 1), (.iconst 0, 1), (.istore_n 3, 1)]),
  (4, [(.iload_n 3, 1), (.aload_n 0, 1), (.getfield 7, 3), (.iconst 0, 1), (.iaload, 1), (.if_icmp .ge 34, 3), (.iload_n 2, 1), (.iload_n 1, 1), (.iload_n 3, 1), (.ishr, 1), (.iconst 1, 1), (.iand, 1), (.iconst 1, 1), (.if_icmp .ne 15, 3), (.aload_n 0, 1), (.getfield 7, 3), (.bipush 44, 2), (.iload_n 3, 1), (.iadd, 1), (.iaload, 1), (.goto 4, 3)]),
  (36, [(.iconst 0, 1)]),
  (37, [(.iadd, 1), (.istore_n 2, 1), (.iinc 3 1, 3), (.goto (-38), 3)]),
  (45, [(.iconst 0, 1), (.istore_n 3, 1)]),
  (47, [(.iload_n 3, 1), (.aload_n 0, 1), (.getfield 7, 3), (.iconst 1, 1), (.iaload, 1), (.if_icmp .ge 71, 3), (.iload_n 1, 1), (.aload_n 0, 1), (.iload_n 3, 1), (.iconst 0, 1), (.invokevirtual 232, 3)]),
  (64, [(.ishr, 1), (.iconst 1, 1), (.iand, 1), (.iconst 1, 1), (.if_icmp .ne 20, 3), (.iload_n 1, 1), (.aload_n 0, 1), (.iload_n 3, 1), (.iconst 1, 1), (.invokevirtual 232, 3)]),
  (78, [(.ishr, 1), (.iconst 1, 1), (.iand, 1), (.ifCond .ne 7, 3), (.iconst 1, 1), (.goto 4, 3)]),
  (88, [(.iconst 0, 1)]),
  (89, [(.istore 4, 2), (.iload_n 2, 1), (.iload 4, 2), (.ifCond .eq 22, 3), (.aload_n 0, 1), (.iload_n 3, 1), (.bipush 6, 2), (.invokevirtual 232, 3)]),
  (104, [(.ifCond .ne 12, 3), (.aload_n 0, 1), (.iload_n 3, 1), (.iconst 2, 1), (.invokevirtual 232, 3)]),
  (113, [(.goto 4, 3)]),
  (116, [(.iconst 0, 1)]),
  (117, [(.isub, 1), (.istore_n 2, 1), (.iinc 3 1, 3), (.goto (-75), 3)]),
  (125, [(.iload_n 2, 1), (.ireturn, 1)])]
def tb_X9_ones : tf_Bk := [(0, [(.iconst 0, 1), (.istore_n 1, 1), (.iconst 0, 1), (.istore_n 2, 1)]),
  (4, [(.iload_n 2, 1), (.bipush 7, 2), (.if_icmp .ge 17, 3), (.iload_n 1, 1), (.iload_n 0, 1), (.iload_n 2, 1), (.ishr, 1), (.iconst 1, 1), (.iand, 1), (.iadd, 1), (.istore_n 1, 1), (.iinc 2 1, 3), (.goto (-17), 3)]),
  (24, [(.iload_n 1, 1), (.ireturn, 1)])]
def tb_X9_cut : tf_Bk := [(0, [(.aload_n 0, 1), (.iconst 0, 1), (.putfield 97, 3), (.iconst 0, 1), (.istore_n 1, 1), (.iconst 1, 1), (.istore_n 2, 1)]),
  (9, [(.iload_n 2, 1), (.iconst 1, 1), (.aload_n 0, 1), (.getfield 7, 3), (.iconst 0, 1), (.iaload, 1), (.ishl, 1), (.if_icmp .ge 46, 3), (.aload_n 0, 1), (.iload_n 2, 1), (.invokevirtual 436, 3)]),
  (26, [(.aload_n 0, 1), (.iload_n 1, 1), (.invokevirtual 436, 3)]),
  (31, [(.isub, 1), (.istore_n 3, 1), (.iload_n 3, 1), (.ifCond .gt 18, 3), (.iload_n 3, 1), (.ifCond .ne 18, 3), (.iload_n 2, 1), (.invokestatic 439, 3)]),
  (45, [(.iload_n 1, 1), (.invokestatic 439, 3)]),
  (49, [(.if_icmp .ge 7, 3)]),
  (52, [(.iload_n 2, 1), (.goto 4, 3)]),
  (56, [(.iload_n 1, 1)]),
  (57, [(.istore_n 1, 1), (.iinc 2 1, 3), (.goto (-52), 3)]),
  (64, [(.iload_n 1, 1), (.ireturn, 1)])]
def tb_X9_lack : tf_Bk := [(0, [(.aload_n 0, 1), (.iconst 0, 1), (.putfield 97, 3), (.iconst 0, 1), (.istore_n 1, 1), (.iconst 1, 1), (.istore_n 2, 1)]),
  (9, [(.iload_n 2, 1), (.iconst 1, 1), (.aload_n 0, 1), (.getfield 7, 3), (.iconst 0, 1), (.iaload, 1), (.ishl, 1), (.if_icmp .ge 19, 3), (.iload_n 1, 1), (.aload_n 0, 1), (.iload_n 2, 1), (.invokevirtual 436, 3)]),
  (27, [(.invokestatic 384, 3)]),
  (30, [(.istore_n 1, 1), (.iinc 2 1, 3), (.goto (-25), 3)]),
  (37, [(.iconst 2, 1), (.iload_n 1, 1), (.imul, 1), (.ireturn, 1)])]
def tb_X9_steps : tf_Bk := [(0, [(.aload_n 0, 1), (.iconst 0, 1), (.putfield 97, 3), (.iload_n 1, 1), (.iconst 0, 1), (.iconst 2, 1), (.invokestatic 101, 3)]),
  (11, [(.ifCond .ne 5, 3), (.iconst (-1), 1), (.ireturn, 1)]),
  (16, [(.aload_n 0, 1), (.iconst 0, 1), (.iconst 4, 1), (.invokevirtual 358, 3)]),
  (22, [(.aload_n 0, 1), (.getfield 7, 3), (.iconst 2, 1), (.iload_n 1, 1), (.iastore, 1), (.aload_n 0, 1), (.sipush 10000, 3), (.invokevirtual 327, 3)]),
  (36, [(.istore_n 2, 1), (.aload_n 0, 1), (.iconst 4, 1), (.iconst 0, 1), (.invokevirtual 358, 3)]),
  (43, [(.iload_n 2, 1), (.ireturn, 1)])]
def tb_X9_copies : tf_Bk := [(0, [(.iconst 0, 1), (.istore_n 3, 1)]),
  (2, [(.iload_n 3, 1), (.sipush 173, 3), (.if_icmp .ge 33, 3), (.aload_n 0, 1), (.getfield 7, 3), (.sipush 173, 3), (.iload_n 2, 1), (.imul, 1), (.iload_n 3, 1), (.iadd, 1), (.aload_n 0, 1), (.getfield 7, 3), (.sipush 173, 3), (.iload_n 1, 1), (.imul, 1), (.iload_n 3, 1), (.iadd, 1), (.iaload, 1), (.iastore, 1), (.iinc 3 1, 3), (.goto (-34), 3)]),
  (39, [(.return_, 1)])]
def tb_X9_copiesText : tf_Bk := [(0, [(.aload_n 0, 1), (.iload_n 1, 1), (.iload_n 2, 1), (.invokevirtual 358, 3)]),
  (6, [(.iconst 0, 1), (.istore_n 3, 1)]),
  (8, [(.iload_n 3, 1), (.sipush 400, 3), (.if_icmp .ge 33, 3), (.aload_n 0, 1), (.getfield 13, 3), (.sipush 400, 3), (.iload_n 2, 1), (.imul, 1), (.iload_n 3, 1), (.iadd, 1), (.aload_n 0, 1), (.getfield 13, 3), (.sipush 400, 3), (.iload_n 1, 1), (.imul, 1), (.iload_n 3, 1), (.iadd, 1), (.baload, 1), (.bastore, 1), (.iinc 3 1, 3), (.goto (-34), 3)]),
  (45, [(.return_, 1)])]
def tb_X9_image : tf_Bk := [(0, [(.aload_n 0, 1), (.iconst 0, 1), (.putfield 97, 3), (.iload_n 1, 1), (.iconst 0, 1), (.iconst 2, 1), (.invokestatic 101, 3)]),
  (11, [(.ifCond .ne 5, 3), (.iconst 0, 1), (.ireturn, 1)]),
  (16, [(.aload_n 0, 1), (.iconst 0, 1), (.iload_n 1, 1), (.iconst 1, 1), (.iadd, 1), (.invokevirtual 442, 3)]),
  (24, [(.aload_n 0, 1), (.getfield 17, 3), (.iload_n 1, 1), (.iconst 1, 1), (.bastore, 1), (.iconst 1, 1), (.ireturn, 1)])]
def tb_X9_again : tf_Bk := [(0, [(.aload_n 0, 1), (.iconst 0, 1), (.putfield 97, 3), (.iload_n 1, 1), (.iconst 0, 1), (.iconst 2, 1), (.invokestatic 101, 3)]),
  (11, [(.ifCond .eq 12, 3), (.aload_n 0, 1), (.getfield 17, 3), (.iload_n 1, 1), (.baload, 1), (.ifCond .ne 5, 3)]),
  (23, [(.iconst 0, 1), (.ireturn, 1)]),
  (25, [(.aload_n 0, 1), (.iload_n 1, 1), (.iconst 1, 1), (.iadd, 1), (.iconst 0, 1), (.invokevirtual 442, 3)]),
  (33, [(.aload_n 0, 1), (.iconst 0, 1), (.putfield 214, 3), (.iconst 1, 1), (.ireturn, 1)])]
end
section
/-! ===== the methods' code, block by block (printed by program out of the claim's decode rows) ===== -/
def tb_X1_copyFrom : tf_Bk := [(0, [(.aload_n 0, 1), (.aload_n 1, 1), (.getfield 49, 3), (.putfield 49, 3), (.aload_n 0, 1), (.aload_n 1, 1), (.getfield 53, 3), (.putfield 53, 3), (.aload_n 0, 1), (.aload_n 1, 1), (.getfield 56, 3), (.putfield 56, 3), (.aload_n 1, 1), (.getfield 9, 3), (.iconst 0, 1), (.aload_n 0, 1), (.getfield 9, 3), (.iconst 0, 1), (.bipush 7, 2), (.invokestatic 59, 3)]),
  (39, [(.aload_n 1, 1), (.getfield 15, 3), (.iconst 0, 1), (.aload_n 0, 1), (.getfield 15, 3), (.iconst 0, 1), (.bipush 21, 2), (.invokestatic 59, 3)]),
  (54, [(.aload_n 1, 1), (.getfield 18, 3), (.iconst 0, 1), (.aload_n 0, 1), (.getfield 18, 3), (.iconst 0, 1), (.bipush 21, 2), (.invokestatic 59, 3)]),
  (69, [(.aload_n 1, 1), (.getfield 21, 3), (.iconst 0, 1), (.aload_n 0, 1), (.getfield 21, 3), (.iconst 0, 1), (.bipush 21, 2), (.invokestatic 59, 3)]),
  (84, [(.aload_n 1, 1), (.getfield 24, 3), (.iconst 0, 1), (.aload_n 0, 1), (.getfield 24, 3), (.iconst 0, 1), (.bipush 21, 2), (.invokestatic 59, 3)]),
  (99, [(.aload_n 1, 1), (.getfield 27, 3), (.iconst 0, 1), (.aload_n 0, 1), (.getfield 27, 3), (.iconst 0, 1), (.bipush 21, 2), (.invokestatic 59, 3)]),
  (114, [(.aload_n 1, 1), (.getfield 30, 3), (.iconst 0, 1), (.aload_n 0, 1), (.getfield 30, 3), (.iconst 0, 1), (.bipush 21, 2), (.invokestatic 59, 3)]),
  (129, [(.aload_n 1, 1), (.getfield 33, 3), (.iconst 0, 1), (.aload_n 0, 1), (.getfield 33, 3), (.iconst 0, 1), (.bipush 7, 2), (.invokestatic 59, 3)]),
  (144, [(.aload_n 1, 1), (.getfield 36, 3), (.iconst 0, 1), (.aload_n 0, 1), (.getfield 36, 3), (.iconst 0, 1), (.bipush 7, 2), (.invokestatic 59, 3)]),
  (159, [(.aload_n 1, 1), (.getfield 39, 3), (.iconst 0, 1), (.aload_n 0, 1), (.getfield 39, 3), (.iconst 0, 1), (.bipush 8, 2), (.invokestatic 59, 3)]),
  (174, [(.aload_n 0, 1), (.getfield 45, 3), (.aload_n 1, 1), (.getfield 45, 3), (.invokevirtual 65, 3)]),
  (185, [(.return_, 1)])]
def tb_X1_clear : tf_Bk := [(0, [(.aload_n 0, 1), (.iload_n 1, 1), (.putfield 49, 3), (.aload_n 0, 1), (.iconst 0, 1), (.putfield 53, 3), (.aload_n 0, 1), (.iconst 0, 1), (.putfield 56, 3), (.iconst 0, 1), (.istore_n 2, 1)]),
  (17, [(.iload_n 2, 1), (.bipush 7, 2), (.if_icmp .ge 16, 3), (.aload_n 0, 1), (.getfield 9, 3), (.iload_n 2, 1), (.iconst 0, 1), (.iastore, 1), (.iinc 2 1, 3), (.goto (-16), 3)]),
  (36, [(.return_, 1)])]
def tb_X1_addArc : tf_Bk := [(0, [(.aload_n 0, 1), (.getfield 53, 3), (.bipush 14, 2), (.if_icmp .lt 4, 3), (.return_, 1)]),
  (10, [(.aload_n 0, 1), (.getfield 15, 3), (.aload_n 0, 1), (.getfield 53, 3), (.iload_n 1, 1), (.iastore, 1), (.aload_n 0, 1), (.getfield 18, 3), (.aload_n 0, 1), (.getfield 53, 3), (.iload_n 2, 1), (.iastore, 1), (.aload_n 0, 1), (.getfield 21, 3), (.aload_n 0, 1), (.getfield 53, 3), (.iload_n 3, 1), (.iastore, 1), (.aload_n 0, 1), (.getfield 24, 3), (.aload_n 0, 1), (.getfield 53, 3), (.iload 4, 2), (.iastore, 1), (.aload_n 0, 1), (.getfield 27, 3), (.aload_n 0, 1), (.getfield 53, 3), (.iconst 0, 1), (.iastore, 1), (.aload_n 0, 1), (.getfield 30, 3), (.aload_n 0, 1), (.getfield 53, 3), (.iconst 0, 1), (.iastore, 1), (.aload_n 0, 1), (.dup, 1), (.getfield 53, 3), (.iconst 1, 1), (.iadd, 1), (.putfield 53, 3), (.return_, 1)])]
def tb_X1_hasArc : tf_Bk := [(0, [(.iload_n 1, 1), (.ifCond .lt 15, 3), (.iload_n 1, 1), (.aload_n 0, 1), (.getfield 53, 3), (.if_icmp .ge 7, 3), (.iconst 1, 1), (.goto 4, 3)]),
  (16, [(.iconst 0, 1)]),
  (17, [(.ireturn, 1)])]
def tb_X1_hasPoint : tf_Bk := [(0, [(.iload_n 1, 1), (.ifCond .lt 15, 3), (.iload_n 1, 1), (.aload_n 0, 1), (.getfield 49, 3), (.if_icmp .ge 7, 3), (.iconst 1, 1), (.goto 4, 3)]),
  (16, [(.iconst 0, 1)]),
  (17, [(.ireturn, 1)])]
def tb_X1_hasTwoPoints : tf_Bk := [(0, [(.aload_n 0, 1), (.iload_n 1, 1), (.invokevirtual 69, 3)]),
  (5, [(.ifCond .eq 20, 3), (.aload_n 0, 1), (.iload_n 2, 1), (.invokevirtual 69, 3)]),
  (13, [(.ifCond .eq 12, 3), (.iload_n 1, 1), (.iload_n 2, 1), (.if_icmp .eq 7, 3), (.iconst 1, 1), (.goto 4, 3)]),
  (25, [(.iconst 0, 1)]),
  (26, [(.ireturn, 1)])]
def tb_X1_toldNode : tf_Bk := [(0, [(.iload_n 1, 1), (.bipush 7, 2), (.if_icmp .ne 10, 3), (.aload_n 0, 1), (.getfield 49, 3), (.goto 4, 3)]),
  (13, [(.iload_n 1, 1)]),
  (14, [(.ireturn, 1)])]
def tb_X1_setRule : tf_Bk := [(0, [(.iload_n 1, 1), (.invokestatic 73, 3)]),
  (4, [(.ifCond .ne 5, 3), (.iconst 0, 1), (.ireturn, 1)]),
  (9, [(.aload_n 0, 1), (.iload_n 1, 1), (.putfield 56, 3), (.iconst 1, 1), (.ireturn, 1)])]
def tb_X1_moveSupply : tf_Bk := [(0, [(.aload_n 0, 1), (.iload_n 1, 1), (.iload_n 2, 1), (.invokevirtual 76, 3)]),
  (6, [(.ifCond .eq 14, 3), (.iload_n 3, 1), (.iconst 1, 1), (.if_icmp .lt 9, 3), (.iload_n 3, 1), (.bipush 99, 2), (.if_icmp .le 5, 3)]),
  (20, [(.iconst 0, 1), (.ireturn, 1)]),
  (22, [(.aload_n 0, 1), (.getfield 9, 3), (.iload_n 1, 1), (.iaload, 1), (.iload_n 3, 1), (.iadd, 1), (.bipush 99, 2), (.if_icmp .gt 16, 3), (.aload_n 0, 1), (.getfield 9, 3), (.iload_n 2, 1), (.iaload, 1), (.iload_n 3, 1), (.isub, 1), (.bipush (-99), 2), (.if_icmp .ge 5, 3)]),
  (48, [(.iconst 0, 1), (.ireturn, 1)]),
  (50, [(.aload_n 0, 1), (.getfield 9, 3), (.iload_n 1, 1), (.dup2, 1), (.iaload, 1), (.iload_n 3, 1), (.iadd, 1), (.iastore, 1), (.aload_n 0, 1), (.getfield 9, 3), (.iload_n 2, 1), (.dup2, 1), (.iaload, 1), (.iload_n 3, 1), (.isub, 1), (.iastore, 1), (.aload_n 0, 1), (.iconst 1, 1), (.invokevirtual 80, 3)]),
  (75, [(.iconst 1, 1), (.ireturn, 1)])]
def tb_X1_setOpen : tf_Bk := [(0, [(.aload_n 0, 1), (.iload_n 1, 1), (.invokevirtual 84, 3)]),
  (5, [(.ifCond .eq 22, 3), (.aload_n 0, 1), (.getfield 30, 3), (.iload_n 1, 1), (.iaload, 1), (.iconst 3, 1), (.if_icmp .eq 7, 3), (.iconst 1, 1), (.goto 4, 3)]),
  (22, [(.iconst 0, 1)]),
  (23, [(.iload_n 2, 1), (.if_icmp .ne 5, 3)]),
  (27, [(.iconst 0, 1), (.ireturn, 1)]),
  (29, [(.aload_n 0, 1), (.getfield 30, 3), (.iload_n 1, 1), (.iload_n 2, 1), (.ifCond .eq 7, 3), (.iconst 0, 1), (.goto 4, 3)]),
  (42, [(.iconst 3, 1)]),
  (43, [(.iastore, 1), (.aload_n 0, 1), (.iconst 1, 1), (.invokevirtual 80, 3)]),
  (49, [(.iconst 1, 1), (.ireturn, 1)])]
def tb_X1_setBound : tf_Bk := [(0, [(.aload_n 0, 1), (.iload_n 1, 1), (.invokevirtual 84, 3)]),
  (5, [(.ifCond .eq 23, 3), (.iload_n 2, 1), (.ifCond .lt 19, 3), (.iload_n 2, 1), (.bipush 99, 2), (.if_icmp .gt 13, 3), (.iload_n 2, 1), (.aload_n 0, 1), (.getfield 21, 3), (.iload_n 1, 1), (.iaload, 1), (.if_icmp .ne 5, 3)]),
  (28, [(.iconst 0, 1), (.ireturn, 1)]),
  (30, [(.aload_n 0, 1), (.getfield 21, 3), (.iload_n 1, 1), (.iload_n 2, 1), (.iastore, 1), (.aload_n 0, 1), (.iconst 1, 1), (.invokevirtual 80, 3)]),
  (42, [(.iconst 1, 1), (.ireturn, 1)])]
def tb_X1_setCost : tf_Bk := [(0, [(.aload_n 0, 1), (.iload_n 1, 1), (.invokevirtual 84, 3)]),
  (5, [(.ifCond .eq 25, 3), (.iload_n 2, 1), (.bipush (-99), 2), (.if_icmp .lt 19, 3), (.iload_n 2, 1), (.bipush 99, 2), (.if_icmp .gt 13, 3), (.iload_n 2, 1), (.aload_n 0, 1), (.getfield 24, 3), (.iload_n 1, 1), (.iaload, 1), (.if_icmp .ne 5, 3)]),
  (30, [(.iconst 0, 1), (.ireturn, 1)]),
  (32, [(.aload_n 0, 1), (.getfield 24, 3), (.iload_n 1, 1), (.iload_n 2, 1), (.iastore, 1), (.aload_n 0, 1), (.invokevirtual 87, 3)]),
  (43, [(.iconst 1, 1), (.ireturn, 1)])]
def tb_X1_begin : tf_Bk := [(0, [(.iconst 0, 1), (.istore_n 2, 1)]),
  (2, [(.iload_n 2, 1), (.aload_n 0, 1), (.getfield 53, 3), (.if_icmp .ge 100, 3), (.aload_n 0, 1), (.getfield 30, 3), (.iload_n 2, 1), (.iaload, 1), (.iconst 3, 1), (.if_icmp .ne 13, 3), (.aload_n 0, 1), (.getfield 27, 3), (.iload_n 2, 1), (.iconst 0, 1), (.iastore, 1), (.goto 74, 3)]),
  (30, [(.iload_n 1, 1), (.ifCond .eq 33, 3), (.aload_n 0, 1), (.getfield 21, 3), (.iload_n 2, 1), (.iaload, 1), (.ifCond .le 24, 3), (.iconst 2, 1), (.aload_n 0, 1), (.getfield 27, 3), (.iload_n 2, 1), (.iaload, 1), (.imul, 1), (.aload_n 0, 1), (.getfield 21, 3), (.iload_n 2, 1), (.iaload, 1), (.if_icmp .lt 7, 3), (.iconst 1, 1), (.goto 4, 3)]),
  (64, [(.iconst 0, 1)]),
  (65, [(.istore_n 3, 1), (.aload_n 0, 1), (.getfield 30, 3), (.iload_n 2, 1), (.iload_n 3, 1), (.ifCond .eq 7, 3), (.iconst 1, 1), (.goto 4, 3)]),
  (79, [(.iconst 0, 1)]),
  (80, [(.iastore, 1), (.aload_n 0, 1), (.getfield 27, 3), (.iload_n 2, 1), (.iload_n 3, 1), (.ifCond .eq 12, 3), (.aload_n 0, 1), (.getfield 21, 3), (.iload_n 2, 1), (.iaload, 1), (.goto 4, 3)]),
  (99, [(.iconst 0, 1)]),
  (100, [(.iastore, 1)]),
  (101, [(.iinc 2 1, 3), (.goto (-102), 3)]),
  (107, [(.iconst 0, 1), (.istore_n 2, 1)]),
  (109, [(.iload_n 2, 1), (.aload_n 0, 1), (.getfield 49, 3), (.if_icmp .ge 14, 3), (.aload_n 0, 1), (.iload_n 2, 1), (.invokevirtual 90, 3)]),
  (122, [(.iinc 2 1, 3), (.goto (-16), 3)]),
  (128, [(.aload_n 0, 1), (.invokevirtual 87, 3)]),
  (132, [(.aload_n 0, 1), (.getfield 45, 3), (.dup, 1), (.getfield 94, 3), (.iconst 1, 1), (.iadd, 1), (.putfield 94, 3), (.return_, 1)])]
def tb_X1_hangByLoan : tf_Bk := [(0, [(.aload_n 0, 1), (.getfield 9, 3), (.iload_n 1, 1), (.iaload, 1), (.istore_n 2, 1), (.iconst 0, 1), (.istore_n 3, 1)]),
  (9, [(.iload_n 3, 1), (.aload_n 0, 1), (.getfield 53, 3), (.if_icmp .ge 50, 3), (.aload_n 0, 1), (.getfield 18, 3), (.iload_n 3, 1), (.iaload, 1), (.iload_n 1, 1), (.if_icmp .ne 15, 3), (.iload_n 2, 1), (.aload_n 0, 1), (.getfield 27, 3), (.iload_n 3, 1), (.iaload, 1), (.iadd, 1), (.istore_n 2, 1), (.goto 22, 3)]),
  (39, [(.aload_n 0, 1), (.getfield 15, 3), (.iload_n 3, 1), (.iaload, 1), (.iload_n 1, 1), (.if_icmp .ne 12, 3), (.iload_n 2, 1), (.aload_n 0, 1), (.getfield 27, 3), (.iload_n 3, 1), (.iaload, 1), (.isub, 1), (.istore_n 2, 1)]),
  (58, [(.iinc 3 1, 3), (.goto (-52), 3)]),
  (64, [(.bipush 14, 2), (.iload_n 1, 1), (.iadd, 1), (.istore_n 3, 1), (.aload_n 0, 1), (.getfield 15, 3), (.iload_n 3, 1), (.iload_n 2, 1), (.ifCond .lt 7, 3), (.iload_n 1, 1), (.goto 5, 3)]),
  (82, [(.bipush 7, 2)]),
  (84, [(.iastore, 1), (.aload_n 0, 1), (.getfield 18, 3), (.iload_n 3, 1), (.iload_n 2, 1), (.ifCond .lt 8, 3), (.bipush 7, 2), (.goto 4, 3)]),
  (99, [(.iload_n 1, 1)]),
  (100, [(.iastore, 1), (.aload_n 0, 1), (.getfield 24, 3), (.iload_n 3, 1), (.sipush 10000, 3), (.iastore, 1), (.aload_n 0, 1), (.getfield 27, 3), (.iload_n 3, 1), (.iload_n 2, 1), (.invokestatic 97, 3)]),
  (119, [(.iastore, 1), (.aload_n 0, 1), (.getfield 30, 3), (.iload_n 3, 1), (.iconst 2, 1), (.iastore, 1), (.aload_n 0, 1), (.getfield 33, 3), (.iload_n 1, 1), (.bipush 7, 2), (.iastore, 1), (.aload_n 0, 1), (.getfield 36, 3), (.iload_n 1, 1), (.iload_n 3, 1), (.iastore, 1), (.return_, 1)])]
def tb_X1_setPrices : tf_Bk := [(0, [(.aload_n 0, 1), (.getfield 39, 3), (.bipush 7, 2), (.iconst 0, 1), (.iastore, 1), (.iconst 0, 1), (.istore_n 1, 1)]),
  (10, [(.iload_n 1, 1), (.aload_n 0, 1), (.getfield 49, 3), (.if_icmp .ge 91, 3), (.iconst 0, 1), (.istore_n 2, 1), (.iload_n 1, 1), (.istore_n 3, 1), (.iconst 0, 1), (.istore 4, 2)]),
  (25, [(.iload 4, 2), (.aload_n 0, 1), (.getfield 49, 3), (.if_icmp .ge 62, 3), (.iload_n 3, 1), (.bipush 7, 2), (.if_icmp .eq 56, 3), (.aload_n 0, 1), (.getfield 36, 3), (.iload_n 3, 1), (.iaload, 1), (.istore 5, 2), (.iload_n 2, 1), (.aload_n 0, 1), (.getfield 15, 3), (.iload 5, 2), (.iaload, 1), (.iload_n 3, 1), (.if_icmp .ne 14, 3), (.aload_n 0, 1), (.getfield 24, 3), (.iload 5, 2), (.iaload, 1), (.ineg, 1), (.goto 10, 3)]),
  (71, [(.aload_n 0, 1), (.getfield 24, 3), (.iload 5, 2), (.iaload, 1)]),
  (78, [(.iadd, 1), (.istore_n 2, 1), (.aload_n 0, 1), (.getfield 33, 3), (.iload_n 3, 1), (.iaload, 1), (.istore_n 3, 1), (.iinc 4 1, 3), (.goto (-65), 3)]),
  (93, [(.aload_n 0, 1), (.getfield 39, 3), (.iload_n 1, 1), (.iload_n 2, 1), (.iastore, 1), (.iinc 1 1, 3), (.goto (-93), 3)]),
  (106, [(.return_, 1)])]
def tb_X1_reduced : tf_Bk := [(0, [(.aload_n 0, 1), (.getfield 24, 3), (.iload_n 1, 1), (.iaload, 1), (.aload_n 0, 1), (.getfield 39, 3), (.aload_n 0, 1), (.getfield 15, 3), (.iload_n 1, 1), (.iaload, 1), (.iaload, 1), (.iadd, 1), (.aload_n 0, 1), (.getfield 39, 3), (.aload_n 0, 1), (.getfield 18, 3), (.iload_n 1, 1), (.iaload, 1), (.iaload, 1), (.isub, 1), (.ireturn, 1)])]
def tb_X1_mayOffer : tf_Bk := [(0, [(.aload_n 0, 1), (.getfield 30, 3), (.iload_n 1, 1), (.iaload, 1), (.ifCond .eq 13, 3), (.aload_n 0, 1), (.getfield 30, 3), (.iload_n 1, 1), (.iaload, 1), (.iconst 1, 1), (.if_icmp .ne 16, 3)]),
  (19, [(.aload_n 0, 1), (.getfield 21, 3), (.iload_n 1, 1), (.iaload, 1), (.ifCond .le 7, 3), (.iconst 1, 1), (.goto 4, 3)]),
  (32, [(.iconst 0, 1)]),
  (33, [(.ireturn, 1)])]
def tb_X1_offer : tf_Bk := [(0, [(.aload_n 0, 1), (.iload_n 1, 1), (.invokevirtual 103, 3)]),
  (5, [(.ifCond .ne 5, 3), (.iconst 0, 1), (.ireturn, 1)]),
  (10, [(.iconst 0, 1), (.aload_n 0, 1), (.getfield 30, 3), (.iload_n 1, 1), (.iaload, 1), (.ifCond .ne 12, 3), (.aload_n 0, 1), (.iload_n 1, 1), (.invokevirtual 106, 3)]),
  (25, [(.ineg, 1), (.goto 8, 3)]),
  (29, [(.aload_n 0, 1), (.iload_n 1, 1), (.invokevirtual 106, 3)]),
  (34, [(.invokestatic 109, 3)]),
  (37, [(.ireturn, 1)])]
def tb_X1_countOffers : tf_Bk := [(0, [(.iconst 0, 1), (.istore_n 1, 1), (.iconst 0, 1), (.istore_n 2, 1)]),
  (4, [(.iload_n 2, 1), (.aload_n 0, 1), (.getfield 53, 3), (.if_icmp .ge 20, 3), (.aload_n 0, 1), (.iload_n 2, 1), (.invokevirtual 113, 3)]),
  (17, [(.ifCond .le 6, 3), (.iinc 1 1, 3)]),
  (23, [(.iinc 2 1, 3), (.goto (-22), 3)]),
  (29, [(.iload_n 1, 1), (.ireturn, 1)])]
def tb_X1_pick : tf_Bk := [(0, [(.iload_n 1, 1), (.iconst 2, 1), (.if_icmp .ne 15, 3), (.aload_n 0, 1), (.getfield 45, 3), (.getfield 116, 3), (.iconst 1, 1), (.iadd, 1), (.goto 4, 3)]),
  (17, [(.iconst 0, 1)]),
  (18, [(.istore_n 2, 1), (.iconst (-1), 1), (.istore_n 3, 1), (.iconst 0, 1), (.istore 4, 2), (.iconst 0, 1), (.istore 5, 2)]),
  (27, [(.iload 5, 2), (.aload_n 0, 1), (.getfield 53, 3), (.if_icmp .ge 55, 3), (.iload_n 2, 1), (.iload 5, 2), (.iadd, 1), (.aload_n 0, 1), (.getfield 53, 3), (.irem, 1), (.istore 6, 2), (.aload_n 0, 1), (.iload 6, 2), (.invokevirtual 113, 3)]),
  (53, [(.istore 7, 2), (.iload 7, 2), (.ifCond .le 11, 3), (.iload_n 1, 1), (.iconst 1, 1), (.if_icmp .eq 6, 3), (.iload 6, 2), (.ireturn, 1)]),
  (68, [(.iload 7, 2), (.iload 4, 2), (.if_icmp .le 10, 3), (.iload 6, 2), (.istore_n 3, 1), (.iload 7, 2), (.istore 4, 2)]),
  (82, [(.iinc 5 1, 3), (.goto (-58), 3)]),
  (88, [(.iload_n 3, 1), (.ireturn, 1)])]
def tb_X1_room : tf_Bk := [(0, [(.iload_n 2, 1), (.ifCond .ne 10, 3), (.aload_n 0, 1), (.getfield 27, 3), (.iload_n 1, 1), (.iaload, 1), (.ireturn, 1)]),
  (11, [(.iload_n 1, 1), (.bipush 14, 2), (.if_icmp .ge 19, 3), (.aload_n 0, 1), (.getfield 21, 3), (.iload_n 1, 1), (.iaload, 1), (.aload_n 0, 1), (.getfield 27, 3), (.iload_n 1, 1), (.iaload, 1), (.isub, 1), (.goto 5, 3)]),
  (33, [(.ldc 119, 2)]),
  (35, [(.ireturn, 1)])]
def tb_X1_hasOnWay : tf_Bk := [(0, [(.iload_n 1, 1), (.istore_n 3, 1), (.iconst 0, 1), (.istore 4, 2)]),
  (5, [(.iload 4, 2), (.aload_n 0, 1), (.getfield 49, 3), (.if_icmp .ge 29, 3), (.iload_n 3, 1), (.bipush 7, 2), (.if_icmp .eq 23, 3), (.iload_n 3, 1), (.iload_n 2, 1), (.if_icmp .ne 5, 3), (.iconst 1, 1), (.ireturn, 1)]),
  (27, [(.aload_n 0, 1), (.getfield 33, 3), (.iload_n 3, 1), (.iaload, 1), (.istore_n 3, 1), (.iinc 4 1, 3), (.goto (-32), 3)]),
  (40, [(.iload_n 3, 1), (.iload_n 2, 1), (.if_icmp .ne 7, 3), (.iconst 1, 1), (.goto 4, 3)]),
  (49, [(.iconst 0, 1)]),
  (50, [(.ireturn, 1)])]
def tb_X1_depth : tf_Bk := [(0, [(.iconst 0, 1), (.istore_n 2, 1), (.iload_n 1, 1), (.istore_n 3, 1)]),
  (4, [(.iload_n 2, 1), (.aload_n 0, 1), (.getfield 49, 3), (.if_icmp .ge 22, 3), (.iload_n 3, 1), (.bipush 7, 2), (.if_icmp .eq 16, 3), (.aload_n 0, 1), (.getfield 33, 3), (.iload_n 3, 1), (.iaload, 1), (.istore_n 3, 1), (.iinc 2 1, 3), (.goto (-24), 3)]),
  (31, [(.iload_n 2, 1), (.ireturn, 1)])]
def tb_X1_countBelow : tf_Bk := [(0, [(.iconst 0, 1), (.istore_n 2, 1), (.iconst 0, 1), (.istore_n 3, 1)]),
  (4, [(.iload_n 3, 1), (.aload_n 0, 1), (.getfield 49, 3), (.if_icmp .ge 21, 3), (.aload_n 0, 1), (.iload_n 3, 1), (.iload_n 1, 1), (.invokevirtual 120, 3)]),
  (18, [(.ifCond .eq 6, 3), (.iinc 2 1, 3)]),
  (24, [(.iinc 3 1, 3), (.goto (-23), 3)]),
  (30, [(.iload_n 2, 1), (.ireturn, 1)])]
def tb_X1_loanFlow : tf_Bk := [(0, [(.bipush 14, 2), (.iload_n 1, 1), (.iadd, 1), (.istore_n 2, 1), (.aload_n 0, 1), (.getfield 15, 3), (.iload_n 2, 1), (.iaload, 1), (.iload_n 1, 1), (.if_icmp .ne 12, 3), (.aload_n 0, 1), (.getfield 27, 3), (.iload_n 2, 1), (.iaload, 1), (.goto 10, 3)]),
  (24, [(.aload_n 0, 1), (.getfield 27, 3), (.iload_n 2, 1), (.iaload, 1), (.ineg, 1)]),
  (31, [(.ireturn, 1)])]
def tb_X1_childBehind : tf_Bk := [(0, [(.iload_n 2, 1), (.iconst 1, 1), (.iadd, 1), (.istore_n 3, 1)]),
  (4, [(.iload_n 3, 1), (.aload_n 0, 1), (.getfield 49, 3), (.if_icmp .ge 21, 3), (.aload_n 0, 1), (.getfield 33, 3), (.iload_n 3, 1), (.iaload, 1), (.iload_n 1, 1), (.if_icmp .ne 5, 3), (.iload_n 3, 1), (.ireturn, 1)]),
  (24, [(.iinc 3 1, 3), (.goto (-23), 3)]),
  (30, [(.iconst (-1), 1), (.ireturn, 1)])]
def tb_X1_threadBehind : tf_Bk := [(0, [(.aload_n 0, 1), (.iload_n 1, 1), (.iconst (-1), 1), (.invokevirtual 123, 3)]),
  (6, [(.istore_n 2, 1), (.iload_n 1, 1), (.istore_n 3, 1), (.iconst 0, 1), (.istore 4, 2)]),
  (12, [(.iload 4, 2), (.aload_n 0, 1), (.getfield 49, 3), (.if_icmp .ge 44, 3), (.iload_n 2, 1), (.iconst (-1), 1), (.if_icmp .ne 39, 3), (.iload_n 3, 1), (.iconst (-1), 1), (.if_icmp .eq 34, 3), (.iload_n 3, 1), (.bipush 7, 2), (.if_icmp .eq 28, 3), (.aload_n 0, 1), (.aload_n 0, 1), (.getfield 33, 3), (.iload_n 3, 1), (.iaload, 1), (.iload_n 3, 1), (.invokevirtual 123, 3)]),
  (48, [(.istore_n 2, 1), (.aload_n 0, 1), (.getfield 33, 3), (.iload_n 3, 1), (.iaload, 1), (.istore_n 3, 1), (.iinc 4 1, 3), (.goto (-47), 3)]),
  (62, [(.iload_n 2, 1), (.ireturn, 1)])]
def tb_X1_rehang : tf_Bk := [(0, [(.iload_n 1, 1), (.istore 5, 2), (.iload_n 2, 1), (.istore 6, 2), (.iload_n 3, 1), (.istore 7, 2), (.iconst 0, 1), (.istore 8, 2)]),
  (12, [(.iload 8, 2), (.aload_n 0, 1), (.getfield 49, 3), (.if_icmp .ge 74, 3), (.iload 5, 2), (.bipush 7, 2), (.if_icmp .eq 67, 3), (.aload_n 0, 1), (.getfield 33, 3), (.iload 5, 2), (.iaload, 1), (.istore 9, 2), (.aload_n 0, 1), (.getfield 36, 3), (.iload 5, 2), (.iaload, 1), (.istore 10, 2), (.aload_n 0, 1), (.getfield 33, 3), (.iload 5, 2), (.iload 6, 2), (.iastore, 1), (.aload_n 0, 1), (.getfield 36, 3), (.iload 5, 2), (.iload 7, 2), (.iastore, 1), (.iload 10, 2), (.iload 4, 2), (.if_icmp .ne 6, 3), (.goto 21, 3)]),
  (74, [(.iload 5, 2), (.istore 6, 2), (.iload 10, 2), (.istore 7, 2), (.iload 9, 2), (.istore 5, 2), (.iinc 8 1, 3), (.goto (-77), 3)]),
  (92, [(.return_, 1)])]
def tb_X1_unmet : tf_Bk := [(0, [(.iconst 0, 1), (.istore_n 1, 1), (.iconst 0, 1), (.istore_n 2, 1)]),
  (4, [(.iload_n 2, 1), (.aload_n 0, 1), (.getfield 49, 3), (.if_icmp .ge 21, 3), (.iload_n 1, 1), (.aload_n 0, 1), (.getfield 27, 3), (.bipush 14, 2), (.iload_n 2, 1), (.iadd, 1), (.iaload, 1), (.iadd, 1), (.istore_n 1, 1), (.iinc 2 1, 3), (.goto (-23), 3)]),
  (30, [(.iload_n 1, 1), (.ireturn, 1)])]
def tb_X1_spent : tf_Bk := [(0, [(.iconst 0, 1), (.istore_n 1, 1), (.iconst 0, 1), (.istore_n 2, 1)]),
  (4, [(.iload_n 2, 1), (.aload_n 0, 1), (.getfield 53, 3), (.if_icmp .ge 25, 3), (.iload_n 1, 1), (.aload_n 0, 1), (.getfield 27, 3), (.iload_n 2, 1), (.iaload, 1), (.aload_n 0, 1), (.getfield 24, 3), (.iload_n 2, 1), (.iaload, 1), (.imul, 1), (.iadd, 1), (.istore_n 1, 1), (.iinc 2 1, 3), (.goto (-27), 3)]),
  (34, [(.iload_n 1, 1), (.ireturn, 1)])]
def tb_X1_flowingCostAbove : tf_Bk := [(0, [(.bipush 100, 2), (.istore_n 2, 1), (.iconst 0, 1), (.istore_n 3, 1)]),
  (5, [(.iload_n 3, 1), (.aload_n 0, 1), (.getfield 53, 3), (.if_icmp .ge 45, 3), (.aload_n 0, 1), (.getfield 27, 3), (.iload_n 3, 1), (.iaload, 1), (.ifCond .le 30, 3), (.aload_n 0, 1), (.getfield 24, 3), (.iload_n 3, 1), (.iaload, 1), (.iload_n 1, 1), (.if_icmp .le 20, 3), (.aload_n 0, 1), (.getfield 24, 3), (.iload_n 3, 1), (.iaload, 1), (.iload_n 2, 1), (.if_icmp .ge 10, 3), (.aload_n 0, 1), (.getfield 24, 3), (.iload_n 3, 1), (.iaload, 1), (.istore_n 2, 1)]),
  (49, [(.iinc 3 1, 3), (.goto (-47), 3)]),
  (55, [(.iload_n 2, 1), (.ireturn, 1)])]
def tb_X1_flowAtCost : tf_Bk := [(0, [(.iconst 0, 1), (.istore_n 2, 1), (.iconst 0, 1), (.istore_n 3, 1)]),
  (4, [(.iload_n 3, 1), (.aload_n 0, 1), (.getfield 53, 3), (.if_icmp .ge 28, 3), (.aload_n 0, 1), (.getfield 24, 3), (.iload_n 3, 1), (.iaload, 1), (.iload_n 1, 1), (.if_icmp .ne 12, 3), (.iload_n 2, 1), (.aload_n 0, 1), (.getfield 27, 3), (.iload_n 3, 1), (.iaload, 1), (.iadd, 1), (.istore_n 2, 1)]),
  (31, [(.iinc 3 1, 3), (.goto (-30), 3)]),
  (37, [(.iload_n 2, 1), (.ireturn, 1)])]
def tb_X1_countApart : tf_Bk := [(0, [(.iconst 0, 1), (.istore_n 2, 1), (.iconst 0, 1), (.istore_n 3, 1)]),
  (4, [(.iload_n 3, 1), (.bipush 14, 2), (.if_icmp .ge 59, 3), (.iload_n 3, 1), (.aload_n 0, 1), (.getfield 53, 3), (.if_icmp .ge 12, 3), (.aload_n 0, 1), (.getfield 27, 3), (.iload_n 3, 1), (.iaload, 1), (.goto 4, 3)]),
  (27, [(.iconst 0, 1)]),
  (28, [(.istore 4, 2), (.iload_n 3, 1), (.aload_n 1, 1), (.getfield 53, 3), (.if_icmp .ge 12, 3), (.aload_n 1, 1), (.getfield 27, 3), (.iload_n 3, 1), (.iaload, 1), (.goto 4, 3)]),
  (47, [(.iconst 0, 1)]),
  (48, [(.istore 5, 2), (.iload 4, 2), (.iload 5, 2), (.if_icmp .eq 6, 3), (.iinc 2 1, 3)]),
  (60, [(.iinc 3 1, 3), (.goto (-59), 3)]),
  (66, [(.iload_n 2, 1), (.ireturn, 1)])]
def tb_X1_spread : tf_Bk := [(0, [(.iconst 0, 1), (.istore_n 2, 1)]),
  (2, [(.iload_n 2, 1), (.aload_n 0, 1), (.getfield 53, 3), (.if_icmp .ge 86, 3), (.aload_n 0, 1), (.getfield 30, 3), (.iload_n 2, 1), (.iaload, 1), (.iconst 3, 1), (.if_icmp .eq 70, 3), (.aload_n 0, 1), (.getfield 15, 3), (.iload_n 2, 1), (.iaload, 1), (.istore_n 3, 1), (.aload_n 0, 1), (.getfield 18, 3), (.iload_n 2, 1), (.iaload, 1), (.istore 4, 2), (.aload_n 1, 1), (.iload 4, 2), (.aload_n 1, 1), (.iload 4, 2), (.iaload, 1), (.aload_n 1, 1), (.iload_n 3, 1), (.iaload, 1), (.aload_n 0, 1), (.getfield 21, 3), (.iload_n 2, 1), (.iaload, 1), (.aload_n 0, 1), (.getfield 27, 3), (.iload_n 2, 1), (.iaload, 1), (.isub, 1), (.invokestatic 126, 3)]),
  (61, [(.invokestatic 109, 3)]),
  (64, [(.iastore, 1), (.aload_n 1, 1), (.iload_n 3, 1), (.aload_n 1, 1), (.iload_n 3, 1), (.iaload, 1), (.aload_n 1, 1), (.iload 4, 2), (.iaload, 1), (.aload_n 0, 1), (.getfield 27, 3), (.iload_n 2, 1), (.iaload, 1), (.invokestatic 126, 3)]),
  (83, [(.invokestatic 109, 3)]),
  (86, [(.iastore, 1)]),
  (87, [(.iinc 2 1, 3), (.goto (-88), 3)]),
  (93, [(.return_, 1)])]
def tb_X1_shortOf : tf_Bk := [(0, [(.iconst 0, 1), (.istore_n 2, 1), (.iconst 0, 1), (.istore_n 3, 1)]),
  (4, [(.iload_n 3, 1), (.aload_n 0, 1), (.getfield 49, 3), (.if_icmp .ge 27, 3), (.iload_n 1, 1), (.iload_n 3, 1), (.ishr, 1), (.iconst 1, 1), (.iand, 1), (.iconst 1, 1), (.if_icmp .ne 12, 3), (.iload_n 2, 1), (.aload_n 0, 1), (.getfield 9, 3), (.iload_n 3, 1), (.iaload, 1), (.iadd, 1), (.istore_n 2, 1)]),
  (30, [(.iinc 3 1, 3), (.goto (-29), 3)]),
  (36, [(.iconst 0, 1), (.istore_n 3, 1)]),
  (38, [(.iload_n 3, 1), (.aload_n 0, 1), (.getfield 53, 3), (.if_icmp .ge 55, 3), (.aload_n 0, 1), (.getfield 30, 3), (.iload_n 3, 1), (.iaload, 1), (.iconst 3, 1), (.if_icmp .eq 39, 3), (.iload_n 1, 1), (.aload_n 0, 1), (.getfield 15, 3), (.iload_n 3, 1), (.iaload, 1), (.ishr, 1), (.iconst 1, 1), (.iand, 1), (.iconst 1, 1), (.if_icmp .ne 25, 3), (.iload_n 1, 1), (.aload_n 0, 1), (.getfield 18, 3), (.iload_n 3, 1), (.iaload, 1), (.ishr, 1), (.iconst 1, 1), (.iand, 1), (.ifCond .ne 12, 3), (.iload_n 2, 1), (.aload_n 0, 1), (.getfield 21, 3), (.iload_n 3, 1), (.iaload, 1), (.isub, 1), (.istore_n 2, 1)]),
  (92, [(.iinc 3 1, 3), (.goto (-57), 3)]),
  (98, [(.iload_n 2, 1), (.ireturn, 1)])]
def tb_X1_worstSet : tf_Bk := [(0, [(.iconst 0, 1), (.istore_n 1, 1), (.iconst 0, 1), (.istore_n 2, 1), (.iconst 1, 1), (.istore_n 3, 1)]),
  (6, [(.iload_n 3, 1), (.iconst 1, 1), (.aload_n 0, 1), (.getfield 49, 3), (.ishl, 1), (.if_icmp .ge 56, 3), (.aload_n 0, 1), (.iload_n 3, 1), (.invokevirtual 129, 3)]),
  (21, [(.istore 4, 2), (.iload_n 3, 1), (.invokestatic 132, 3)]),
  (27, [(.iload_n 1, 1), (.invokestatic 132, 3)]),
  (31, [(.if_icmp .ge 7, 3), (.iconst 1, 1), (.goto 4, 3)]),
  (38, [(.iconst 0, 1)]),
  (39, [(.istore 5, 2), (.iload 4, 2), (.iload_n 2, 1), (.if_icmp .gt 14, 3), (.iload 4, 2), (.iload_n 2, 1), (.if_icmp .ne 13, 3), (.iload 5, 2), (.ifCond .eq 8, 3)]),
  (58, [(.iload_n 3, 1), (.istore_n 1, 1), (.iload 4, 2), (.istore_n 2, 1)]),
  (63, [(.iinc 3 1, 3), (.goto (-60), 3)]),
  (69, [(.iload_n 1, 1), (.ireturn, 1)])]
def tb_X1_lowestCost : tf_Bk := [(0, [(.bipush (-99), 2), (.istore_n 2, 1), (.iconst 0, 1), (.istore_n 3, 1)]),
  (5, [(.iload_n 3, 1), (.aload_n 0, 1), (.getfield 53, 3), (.if_icmp .ge 81, 3), (.aload_n 0, 1), (.iload_n 3, 1), (.invokevirtual 103, 3)]),
  (18, [(.ifCond .eq 12, 3), (.aload_n 0, 1), (.iload_n 1, 1), (.iload_n 3, 1), (.invokevirtual 137, 3)]),
  (27, [(.goto 4, 3)]),
  (30, [(.iconst 0, 1)]),
  (31, [(.istore 4, 2), (.iload 4, 2), (.ifCond .eq 50, 3), (.aload_n 0, 1), (.getfield 30, 3), (.iload_n 3, 1), (.iaload, 1), (.ifCond .ne 7, 3), (.iconst 1, 1), (.goto 4, 3)]),
  (51, [(.iconst 0, 1)]),
  (52, [(.iload 4, 2), (.ifCond .le 7, 3), (.iconst 1, 1), (.goto 4, 3)]),
  (61, [(.iconst 0, 1)]),
  (62, [(.if_icmp .ne 23, 3), (.iload_n 2, 1), (.aload_n 0, 1), (.getfield 24, 3), (.iload_n 1, 1), (.iaload, 1), (.aload_n 0, 1), (.iload_n 3, 1), (.invokevirtual 106, 3)]),
  (77, [(.iload 4, 2), (.imul, 1), (.isub, 1), (.invokestatic 109, 3)]),
  (84, [(.istore_n 2, 1)]),
  (85, [(.iinc 3 1, 3), (.goto (-83), 3)]),
  (91, [(.iload_n 2, 1), (.ireturn, 1)])]
def tb_X1_highestCost : tf_Bk := [(0, [(.bipush 99, 2), (.istore_n 2, 1), (.iconst 0, 1), (.istore_n 3, 1)]),
  (5, [(.iload_n 3, 1), (.aload_n 0, 1), (.getfield 53, 3), (.if_icmp .ge 81, 3), (.aload_n 0, 1), (.iload_n 3, 1), (.invokevirtual 103, 3)]),
  (18, [(.ifCond .eq 12, 3), (.aload_n 0, 1), (.iload_n 1, 1), (.iload_n 3, 1), (.invokevirtual 137, 3)]),
  (27, [(.goto 4, 3)]),
  (30, [(.iconst 0, 1)]),
  (31, [(.istore 4, 2), (.iload 4, 2), (.ifCond .eq 50, 3), (.aload_n 0, 1), (.getfield 30, 3), (.iload_n 3, 1), (.iaload, 1), (.ifCond .ne 7, 3), (.iconst 1, 1), (.goto 4, 3)]),
  (51, [(.iconst 0, 1)]),
  (52, [(.iload 4, 2), (.ifCond .le 7, 3), (.iconst 1, 1), (.goto 4, 3)]),
  (61, [(.iconst 0, 1)]),
  (62, [(.if_icmp .eq 23, 3), (.iload_n 2, 1), (.aload_n 0, 1), (.getfield 24, 3), (.iload_n 1, 1), (.iaload, 1), (.aload_n 0, 1), (.iload_n 3, 1), (.invokevirtual 106, 3)]),
  (77, [(.iload 4, 2), (.imul, 1), (.isub, 1), (.invokestatic 126, 3)]),
  (84, [(.istore_n 2, 1)]),
  (85, [(.iinc 3 1, 3), (.goto (-83), 3)]),
  (91, [(.iload_n 2, 1), (.ireturn, 1)])]
def tb_X1_slope : tf_Bk := [(0, [(.aload_n 0, 1), (.getfield 30, 3), (.iload_n 1, 1), (.iaload, 1), (.iconst 2, 1), (.if_icmp .eq 14, 3), (.iload_n 1, 1), (.iload_n 2, 1), (.if_icmp .ne 7, 3), (.iconst 1, 1), (.goto 4, 3)]),
  (19, [(.iconst 0, 1)]),
  (20, [(.ireturn, 1)]),
  (21, [(.aload_n 0, 1), (.getfield 36, 3), (.aload_n 0, 1), (.getfield 18, 3), (.iload_n 1, 1), (.iaload, 1), (.iaload, 1), (.iload_n 1, 1), (.if_icmp .ne 7, 3), (.iconst 1, 1), (.goto 4, 3)]),
  (40, [(.iconst 0, 1)]),
  (41, [(.istore_n 3, 1), (.iload_n 3, 1), (.ifCond .eq 12, 3), (.aload_n 0, 1), (.getfield 18, 3), (.iload_n 1, 1), (.iaload, 1), (.goto 9, 3)]),
  (55, [(.aload_n 0, 1), (.getfield 15, 3), (.iload_n 1, 1), (.iaload, 1)]),
  (61, [(.istore 4, 2), (.aload_n 0, 1), (.aload_n 0, 1), (.getfield 15, 3), (.iload_n 2, 1), (.iaload, 1), (.iload 4, 2), (.invokevirtual 120, 3)]),
  (75, [(.ifCond .eq 7, 3), (.iconst 1, 1), (.goto 4, 3)]),
  (82, [(.iconst 0, 1)]),
  (83, [(.istore 5, 2), (.aload_n 0, 1), (.aload_n 0, 1), (.getfield 18, 3), (.iload_n 2, 1), (.iaload, 1), (.iload 4, 2), (.invokevirtual 120, 3)]),
  (97, [(.ifCond .eq 7, 3), (.iconst 1, 1), (.goto 4, 3)]),
  (104, [(.iconst 0, 1)]),
  (105, [(.istore 6, 2), (.iload_n 3, 1), (.ifCond .eq 11, 3), (.iload 5, 2), (.iload 6, 2), (.isub, 1), (.goto 8, 3)]),
  (119, [(.iload 6, 2), (.iload 5, 2), (.isub, 1)]),
  (124, [(.ireturn, 1)])]
def tb_X2_put : tf_Bk := [(0, [(.aload_n 0, 1), (.getfield 19, 3), (.sipush 400, 3), (.if_icmp .ge 24, 3), (.aload_n 0, 1), (.getfield 9, 3), (.aload_n 0, 1), (.getfield 19, 3), (.iload_n 1, 1), (.i2c, 1), (.castore, 1), (.aload_n 0, 1), (.dup, 1), (.getfield 19, 3), (.iconst 1, 1), (.iadd, 1), (.putfield 19, 3)]),
  (31, [(.return_, 1)])]
def tb_X2_copyFrom : tf_Bk := [(0, [(.aload_n 1, 1), (.getfield 9, 3), (.iconst 0, 1), (.aload_n 0, 1), (.getfield 9, 3), (.iconst 0, 1), (.sipush 400, 3), (.invokestatic 22, 3)]),
  (16, [(.aload_n 0, 1), (.aload_n 1, 1), (.getfield 19, 3), (.putfield 19, 3), (.aload_n 0, 1), (.aload_n 1, 1), (.getfield 28, 3), (.putfield 28, 3), (.aload_n 0, 1), (.aload_n 1, 1), (.getfield 15, 3), (.putfield 15, 3), (.return_, 1)])]
def tb_X3_way : tf_Bk := [(0, [(.aload_n 0, 1), (.iconst 0, 1), (.putfield 19, 3), (.aload_n 0, 1), (.aload_n 1, 1), (.iload_n 2, 1), (.iload_n 3, 1), (.invokestatic 23, 3)]),
  (12, [(.putfield 27, 3), (.aload_n 0, 1), (.aload_n 1, 1), (.iload_n 2, 1), (.invokevirtual 30, 3)]),
  (21, [(.aload_n 0, 1), (.aload_n 1, 1), (.iload_n 3, 1), (.invokevirtual 34, 3)]),
  (27, [(.return_, 1)])]
def tb_X3_cycle : tf_Bk := [(0, [(.aload_n 1, 1), (.getfield 37, 3), (.iload_n 2, 1), (.iaload, 1), (.ifCond .ne 7, 3), (.iconst 1, 1), (.goto 4, 3)]),
  (13, [(.iconst 0, 1)]),
  (14, [(.istore_n 3, 1), (.iload_n 3, 1), (.ifCond .eq 12, 3), (.aload_n 1, 1), (.getfield 42, 3), (.iload_n 2, 1), (.iaload, 1), (.goto 9, 3)]),
  (28, [(.aload_n 1, 1), (.getfield 45, 3), (.iload_n 2, 1), (.iaload, 1)]),
  (34, [(.istore 4, 2), (.iload_n 3, 1), (.ifCond .eq 12, 3), (.aload_n 1, 1), (.getfield 45, 3), (.iload_n 2, 1), (.iaload, 1), (.goto 9, 3)]),
  (49, [(.aload_n 1, 1), (.getfield 42, 3), (.iload_n 2, 1), (.iaload, 1)]),
  (55, [(.istore 5, 2), (.aload_n 0, 1), (.iconst 0, 1), (.putfield 19, 3), (.aload_n 0, 1), (.aload_n 1, 1), (.iload 4, 2), (.iload 5, 2), (.invokestatic 23, 3)]),
  (71, [(.putfield 27, 3), (.aload_n 0, 1), (.aload_n 1, 1), (.iload 4, 2), (.invokevirtual 34, 3)]),
  (81, [(.aload_n 0, 1), (.aload_n 0, 1), (.getfield 19, 3), (.putfield 48, 3), (.aload_n 0, 1), (.iload_n 2, 1), (.iload_n 3, 1), (.invokevirtual 51, 3)]),
  (95, [(.aload_n 0, 1), (.aload_n 1, 1), (.iload 5, 2), (.invokevirtual 30, 3)]),
  (102, [(.aload_n 0, 1), (.aload_n 0, 1), (.aload_n 1, 1), (.invokevirtual 55, 3)]),
  (108, [(.putfield 59, 3), (.aload_n 0, 1), (.aload_n 0, 1), (.getfield 48, 3), (.putfield 62, 3), (.iconst 0, 1), (.istore 6, 2)]),
  (122, [(.iload 6, 2), (.aload_n 0, 1), (.getfield 19, 3), (.if_icmp .ge 40, 3), (.aload_n 1, 1), (.aload_n 0, 1), (.getfield 9, 3), (.iload 6, 2), (.iaload, 1), (.aload_n 0, 1), (.getfield 15, 3), (.iload 6, 2), (.baload, 1), (.invokevirtual 65, 3)]),
  (149, [(.aload_n 0, 1), (.getfield 59, 3), (.if_icmp .ne 9, 3), (.aload_n 0, 1), (.iload 6, 2), (.putfield 62, 3)]),
  (162, [(.iinc 6 1, 3), (.goto (-43), 3)]),
  (168, [(.return_, 1)])]
def tb_X3_step : tf_Bk := [(0, [(.aload_n 1, 1), (.iload_n 2, 1), (.invokevirtual 69, 3)]),
  (5, [(.istore_n 3, 1), (.iload_n 3, 1), (.iconst (-1), 1), (.if_icmp .ne 5, 3), (.iconst (-1), 1), (.ireturn, 1)]),
  (13, [(.aload_n 0, 1), (.aload_n 1, 1), (.iload_n 3, 1), (.invokevirtual 73, 3)]),
  (19, [(.iconst 0, 1), (.istore 4, 2)]),
  (22, [(.iload 4, 2), (.aload_n 0, 1), (.getfield 19, 3), (.if_icmp .ge 46, 3), (.aload_n 1, 1), (.getfield 76, 3), (.aload_n 0, 1), (.getfield 9, 3), (.iload 4, 2), (.iaload, 1), (.dup2, 1), (.iaload, 1), (.aload_n 0, 1), (.getfield 15, 3), (.iload 4, 2), (.baload, 1), (.ifCond .eq 10, 3), (.aload_n 0, 1), (.getfield 59, 3), (.goto 8, 3)]),
  (61, [(.aload_n 0, 1), (.getfield 59, 3), (.ineg, 1)]),
  (66, [(.iadd, 1), (.iastore, 1), (.iinc 4 1, 3), (.goto (-49), 3)]),
  (74, [(.aload_n 0, 1), (.aload_n 1, 1), (.iload_n 3, 1), (.aload_n 0, 1), (.getfield 9, 3), (.aload_n 0, 1), (.getfield 62, 3), (.iaload, 1), (.invokevirtual 79, 3)]),
  (89, [(.aload_n 1, 1), (.getfield 83, 3), (.iload_n 3, 1), (.aload_n 0, 1), (.getfield 9, 3), (.aload_n 0, 1), (.getfield 62, 3), (.iaload, 1), (.aload_n 0, 1), (.getfield 59, 3), (.invokevirtual 87, 3)]),
  (110, [(.iload_n 3, 1), (.ireturn, 1)])]
def tb_X3_run : tf_Bk := [(0, [(.iconst 0, 1), (.istore 4, 2)]),
  (3, [(.iload 4, 2), (.iload_n 3, 1), (.if_icmp .ge 19, 3), (.aload_n 0, 1), (.aload_n 1, 1), (.iload_n 2, 1), (.invokevirtual 92, 3)]),
  (15, [(.iconst (-1), 1), (.if_icmp .eq 9, 3), (.iinc 4 1, 3), (.goto (-19), 3)]),
  (25, [(.iload 4, 2), (.ireturn, 1)])]
def tb_X3_leaving : tf_Bk := [(0, [(.aload_n 0, 1), (.getfield 9, 3), (.aload_n 0, 1), (.getfield 62, 3), (.iaload, 1), (.ireturn, 1)])]
def tb_X3_leastRoom : tf_Bk := [(0, [(.ldc 96, 2), (.istore_n 2, 1), (.iconst 0, 1), (.istore_n 3, 1)]),
  (5, [(.iload_n 3, 1), (.aload_n 0, 1), (.getfield 19, 3), (.if_icmp .ge 30, 3), (.iload_n 2, 1), (.aload_n 1, 1), (.aload_n 0, 1), (.getfield 9, 3), (.iload_n 3, 1), (.iaload, 1), (.aload_n 0, 1), (.getfield 15, 3), (.iload_n 3, 1), (.baload, 1), (.invokevirtual 65, 3)]),
  (30, [(.invokestatic 97, 3)]),
  (33, [(.istore_n 2, 1), (.iinc 3 1, 3), (.goto (-32), 3)]),
  (40, [(.iload_n 2, 1), (.ireturn, 1)])]
def tb_X3_cost : tf_Bk := [(0, [(.iconst 0, 1), (.istore_n 2, 1), (.iconst 0, 1), (.istore_n 3, 1)]),
  (4, [(.iload_n 3, 1), (.aload_n 0, 1), (.getfield 19, 3), (.if_icmp .ge 47, 3), (.iload_n 2, 1), (.aload_n 0, 1), (.getfield 15, 3), (.iload_n 3, 1), (.baload, 1), (.ifCond .eq 17, 3), (.aload_n 1, 1), (.getfield 103, 3), (.aload_n 0, 1), (.getfield 9, 3), (.iload_n 3, 1), (.iaload, 1), (.iaload, 1), (.goto 15, 3)]),
  (36, [(.aload_n 1, 1), (.getfield 103, 3), (.aload_n 0, 1), (.getfield 9, 3), (.iload_n 3, 1), (.iaload, 1), (.iaload, 1), (.ineg, 1)]),
  (48, [(.iadd, 1), (.istore_n 2, 1), (.iinc 3 1, 3), (.goto (-49), 3)]),
  (56, [(.iload_n 2, 1), (.ireturn, 1)])]
def tb_X3_told : tf_Bk := [(0, [(.iload_n 1, 1), (.bipush 10, 2), (.if_icmp .lt 14, 3), (.iload_n 1, 1), (.bipush 10, 2), (.isub, 1), (.aload_n 0, 1), (.getfield 19, 3), (.if_icmp .lt 5, 3)]),
  (17, [(.iload_n 2, 1), (.ireturn, 1)]),
  (19, [(.aload_n 0, 1), (.getfield 9, 3), (.iload_n 1, 1), (.bipush 10, 2), (.isub, 1), (.iaload, 1), (.invokestatic 106, 3)]),
  (31, [(.ireturn, 1)])]
def tb_X3_exchange : tf_Bk := [(0, [(.iload_n 3, 1), (.iload_n 2, 1), (.if_icmp .ne 27, 3), (.aload_n 1, 1), (.getfield 37, 3), (.iload_n 2, 1), (.aload_n 0, 1), (.getfield 15, 3), (.aload_n 0, 1), (.getfield 48, 3), (.baload, 1), (.ifCond .eq 7, 3), (.iconst 1, 1), (.goto 4, 3)]),
  (26, [(.iconst 0, 1)]),
  (27, [(.iastore, 1), (.return_, 1)]),
  (29, [(.aload_n 0, 1), (.getfield 15, 3), (.aload_n 0, 1), (.getfield 48, 3), (.baload, 1), (.ifCond .eq 12, 3), (.aload_n 1, 1), (.getfield 42, 3), (.iload_n 2, 1), (.iaload, 1), (.goto 9, 3)]),
  (50, [(.aload_n 1, 1), (.getfield 45, 3), (.iload_n 2, 1), (.iaload, 1)]),
  (56, [(.istore 4, 2), (.aload_n 0, 1), (.getfield 15, 3), (.aload_n 0, 1), (.getfield 48, 3), (.baload, 1), (.ifCond .eq 12, 3), (.aload_n 1, 1), (.getfield 45, 3), (.iload_n 2, 1), (.iaload, 1), (.goto 9, 3)]),
  (79, [(.aload_n 1, 1), (.getfield 42, 3), (.iload_n 2, 1), (.iaload, 1)]),
  (85, [(.istore 5, 2), (.aload_n 1, 1), (.getfield 37, 3), (.iload_n 2, 1), (.iconst 2, 1), (.iastore, 1), (.aload_n 1, 1), (.getfield 37, 3), (.iload_n 3, 1), (.aload_n 1, 1), (.getfield 76, 3), (.iload_n 3, 1), (.iaload, 1), (.ifCond .ne 7, 3), (.iconst 0, 1), (.goto 4, 3)]),
  (112, [(.iconst 1, 1)]),
  (113, [(.iastore, 1), (.aload_n 0, 1), (.getfield 62, 3), (.aload_n 0, 1), (.getfield 48, 3), (.if_icmp .ge 16, 3), (.aload_n 1, 1), (.iload 4, 2), (.iload 5, 2), (.iload_n 2, 1), (.iload_n 3, 1), (.invokevirtual 109, 3)]),
  (135, [(.goto 13, 3)]),
  (138, [(.aload_n 1, 1), (.iload 5, 2), (.iload 4, 2), (.iload_n 2, 1), (.iload_n 3, 1), (.invokevirtual 109, 3)]),
  (148, [(.aload_n 1, 1), (.invokevirtual 113, 3)]),
  (152, [(.return_, 1)])]
def tb_X3_meeting : tf_Bk := [(0, [(.iload_n 1, 1), (.istore_n 3, 1), (.iconst 0, 1), (.istore 4, 2)]),
  (5, [(.iload 4, 2), (.bipush 8, 2), (.if_icmp .ge 33, 3), (.iload_n 3, 1), (.bipush 7, 2), (.if_icmp .eq 27, 3), (.aload_n 0, 1), (.iload_n 2, 1), (.iload_n 3, 1), (.invokevirtual 116, 3)]),
  (24, [(.ifCond .eq 5, 3), (.iload_n 3, 1), (.ireturn, 1)]),
  (29, [(.aload_n 0, 1), (.getfield 120, 3), (.iload_n 3, 1), (.iaload, 1), (.istore_n 3, 1), (.iinc 4 1, 3), (.goto (-34), 3)]),
  (42, [(.bipush 7, 2), (.ireturn, 1)])]
def tb_X3_climb : tf_Bk := [(0, [(.iload_n 2, 1), (.istore_n 3, 1), (.iconst 0, 1), (.istore 4, 2)]),
  (5, [(.iload 4, 2), (.bipush 8, 2), (.if_icmp .ge 60, 3), (.iload_n 3, 1), (.aload_n 0, 1), (.getfield 27, 3), (.if_icmp .eq 52, 3), (.iload_n 3, 1), (.bipush 7, 2), (.if_icmp .eq 46, 3), (.aload_n 1, 1), (.getfield 123, 3), (.iload_n 3, 1), (.iaload, 1), (.istore 5, 2), (.aload_n 0, 1), (.iload 5, 2), (.aload_n 1, 1), (.getfield 42, 3), (.iload 5, 2), (.iaload, 1), (.iload_n 3, 1), (.if_icmp .ne 7, 3), (.iconst 1, 1), (.goto 4, 3)]),
  (52, [(.iconst 0, 1)]),
  (53, [(.invokevirtual 51, 3)]),
  (56, [(.aload_n 1, 1), (.getfield 120, 3), (.iload_n 3, 1), (.iaload, 1), (.istore_n 3, 1), (.iinc 4 1, 3), (.goto (-61), 3)]),
  (69, [(.return_, 1)])]
def tb_X3_descend : tf_Bk := [(0, [(.aload_n 1, 1), (.iload_n 2, 1), (.invokevirtual 126, 3)]),
  (5, [(.aload_n 1, 1), (.aload_n 0, 1), (.getfield 27, 3), (.invokevirtual 126, 3)]),
  (13, [(.isub, 1), (.istore_n 3, 1), (.iload_n 3, 1), (.ifCond .lt 14, 3), (.aload_n 0, 1), (.getfield 19, 3), (.iload_n 3, 1), (.iadd, 1), (.bipush 8, 2), (.if_icmp .le 4, 3)]),
  (30, [(.return_, 1)]),
  (31, [(.iload_n 2, 1), (.istore 4, 2), (.aload_n 0, 1), (.getfield 19, 3), (.iload_n 3, 1), (.iadd, 1), (.iconst 1, 1), (.isub, 1), (.istore 5, 2)]),
  (44, [(.iload 5, 2), (.aload_n 0, 1), (.getfield 19, 3), (.if_icmp .lt 68, 3), (.iload 4, 2), (.bipush 7, 2), (.if_icmp .eq 61, 3), (.aload_n 0, 1), (.getfield 9, 3), (.iload 5, 2), (.aload_n 1, 1), (.getfield 123, 3), (.iload 4, 2), (.iaload, 1), (.iastore, 1), (.aload_n 0, 1), (.getfield 15, 3), (.iload 5, 2), (.aload_n 1, 1), (.getfield 42, 3), (.aload_n 0, 1), (.getfield 9, 3), (.iload 5, 2), (.iaload, 1), (.iaload, 1), (.iload 4, 2), (.if_icmp .eq 7, 3), (.iconst 1, 1), (.goto 4, 3)]),
  (101, [(.iconst 0, 1)]),
  (102, [(.bastore, 1), (.aload_n 1, 1), (.getfield 120, 3), (.iload 4, 2), (.iaload, 1), (.istore 4, 2), (.iinc 5 (-1), 3), (.goto (-71), 3)]),
  (118, [(.aload_n 0, 1), (.dup, 1), (.getfield 19, 3), (.iload_n 3, 1), (.iadd, 1), (.putfield 19, 3), (.return_, 1)])]
def tb_X3_add : tf_Bk := [(0, [(.aload_n 0, 1), (.getfield 19, 3), (.bipush 8, 2), (.if_icmp .ge 33, 3), (.aload_n 0, 1), (.getfield 9, 3), (.aload_n 0, 1), (.getfield 19, 3), (.iload_n 1, 1), (.iastore, 1), (.aload_n 0, 1), (.getfield 15, 3), (.aload_n 0, 1), (.getfield 19, 3), (.iload_n 2, 1), (.bastore, 1), (.aload_n 0, 1), (.dup, 1), (.getfield 19, 3), (.iconst 1, 1), (.iadd, 1), (.putfield 19, 3)]),
  (39, [(.return_, 1)])]
def tb_X5_clear : tf_Bk := [(0, [(.aload_n 0, 1), (.iconst 0, 1), (.putfield 25, 3), (.aload_n 0, 1), (.iconst 0, 1), (.putfield 28, 3), (.aload_n 0, 1), (.iconst 0, 1), (.putfield 31, 3), (.aload_n 0, 1), (.iconst (-1), 1), (.putfield 9, 3), (.return_, 1)])]
def tb_X5_copyFrom : tf_Bk := [(0, [(.aload_n 0, 1), (.aload_n 1, 1), (.getfield 25, 3), (.putfield 25, 3), (.aload_n 0, 1), (.aload_n 1, 1), (.getfield 28, 3), (.putfield 28, 3), (.aload_n 0, 1), (.aload_n 1, 1), (.getfield 31, 3), (.putfield 31, 3), (.aload_n 0, 1), (.aload_n 1, 1), (.getfield 9, 3), (.putfield 9, 3), (.aload_n 1, 1), (.getfield 15, 3), (.iconst 0, 1), (.aload_n 0, 1), (.getfield 15, 3), (.iconst 0, 1), (.bipush 12, 2), (.invokestatic 34, 3)]),
  (47, [(.aload_n 1, 1), (.getfield 19, 3), (.iconst 0, 1), (.aload_n 0, 1), (.getfield 19, 3), (.iconst 0, 1), (.bipush 12, 2), (.invokestatic 34, 3)]),
  (62, [(.aload_n 1, 1), (.getfield 22, 3), (.iconst 0, 1), (.aload_n 0, 1), (.getfield 22, 3), (.iconst 0, 1), (.bipush 12, 2), (.invokestatic 34, 3)]),
  (77, [(.return_, 1)])]
def tb_X5_count : tf_Bk := [(0, [(.aload_n 0, 1), (.getfield 25, 3), (.bipush 12, 2), (.irem, 1), (.istore 4, 2), (.aload_n 0, 1), (.getfield 15, 3), (.iload 4, 2), (.iload_n 1, 1), (.iastore, 1), (.aload_n 0, 1), (.getfield 19, 3), (.iload 4, 2), (.iload_n 2, 1), (.iastore, 1), (.aload_n 0, 1), (.getfield 22, 3), (.iload 4, 2), (.iload_n 3, 1), (.iastore, 1), (.aload_n 0, 1), (.dup, 1), (.getfield 25, 3), (.iconst 1, 1), (.iadd, 1), (.putfield 25, 3), (.iload_n 3, 1), (.ifCond .ne 13, 3), (.aload_n 0, 1), (.dup, 1), (.getfield 28, 3), (.iconst 1, 1), (.iadd, 1), (.putfield 28, 3)]),
  (57, [(.aload_n 0, 1), (.iload_n 1, 1), (.putfield 9, 3), (.return_, 1)])]
def tb_X5_told : tf_Bk := [(0, [(.iload_n 1, 1), (.ifCond .lt 17, 3), (.iload_n 1, 1), (.bipush 12, 2), (.if_icmp .ge 11, 3), (.iload_n 1, 1), (.aload_n 0, 1), (.getfield 25, 3), (.if_icmp .lt 5, 3)]),
  (18, [(.iconst (-1), 1), (.ireturn, 1)]),
  (20, [(.aload_n 0, 1), (.getfield 25, 3), (.iconst 1, 1), (.isub, 1), (.iload_n 1, 1), (.isub, 1), (.bipush 12, 2), (.irem, 1), (.istore_n 3, 1), (.iload_n 2, 1), (.tableswitch 51 0 2 #[27, 34, 44], 27)]),
  (60, [(.aload_n 0, 1), (.getfield 15, 3), (.iload_n 3, 1), (.iaload, 1), (.ireturn, 1)]),
  (67, [(.aload_n 0, 1), (.getfield 19, 3), (.iload_n 3, 1), (.iaload, 1), (.invokestatic 40, 3)]),
  (76, [(.ireturn, 1)]),
  (77, [(.aload_n 0, 1), (.getfield 22, 3), (.iload_n 3, 1), (.iaload, 1), (.ireturn, 1)]),
  (84, [(.iconst (-1), 1), (.ireturn, 1)])]
def tb_X6_split : tf_Bk := [(0, [(.aload_n 0, 1), (.iconst 0, 1), (.putfield 30, 3), (.iconst 0, 1), (.istore_n 2, 1)]),
  (7, [(.iload_n 2, 1), (.aload_n 1, 1), (.getfield 34, 3), (.if_icmp .ge 21, 3), (.aload_n 0, 1), (.getfield 21, 3), (.iload_n 2, 1), (.aload_n 1, 1), (.getfield 38, 3), (.iload_n 2, 1), (.iaload, 1), (.iastore, 1), (.iinc 2 1, 3), (.goto (-23), 3)]),
  (33, [(.aload_n 0, 1), (.aload_n 1, 1), (.invokevirtual 41, 3)]),
  (38, [(.istore_n 2, 1), (.iconst 0, 1), (.istore_n 3, 1)]),
  (41, [(.iload_n 3, 1), (.bipush 14, 2), (.if_icmp .ge 30, 3), (.iload_n 2, 1), (.iconst (-1), 1), (.if_icmp .eq 25, 3), (.aload_n 0, 1), (.aload_n 1, 1), (.iload_n 2, 1), (.invokevirtual 45, 3)]),
  (58, [(.aload_n 0, 1), (.invokevirtual 49, 3)]),
  (62, [(.aload_n 0, 1), (.aload_n 1, 1), (.invokevirtual 41, 3)]),
  (67, [(.istore_n 2, 1), (.iinc 3 1, 3), (.goto (-30), 3)]),
  (74, [(.return_, 1)])]
def tb_X6_told : tf_Bk := [(0, [(.iload_n 1, 1), (.ifCond .lt 11, 3), (.iload_n 1, 1), (.aload_n 0, 1), (.getfield 30, 3), (.if_icmp .lt 5, 3)]),
  (12, [(.iconst (-1), 1), (.ireturn, 1)]),
  (14, [(.iload_n 2, 1), (.ifCond .ne 10, 3), (.aload_n 0, 1), (.getfield 9, 3), (.iload_n 1, 1), (.iaload, 1), (.ireturn, 1)]),
  (25, [(.iload_n 2, 1), (.iconst 1, 1), (.if_icmp .ne 10, 3), (.aload_n 0, 1), (.getfield 15, 3), (.iload_n 1, 1), (.iaload, 1), (.ireturn, 1)]),
  (37, [(.iload_n 2, 1), (.bipush 10, 2), (.if_icmp .lt 16, 3), (.iload_n 2, 1), (.bipush 10, 2), (.isub, 1), (.aload_n 0, 1), (.getfield 15, 3), (.iload_n 1, 1), (.iaload, 1), (.if_icmp .lt 5, 3)]),
  (56, [(.iconst (-1), 1), (.ireturn, 1)]),
  (58, [(.aload_n 0, 1), (.getfield 18, 3), (.iload_n 1, 1), (.bipush 7, 2), (.imul, 1), (.iload_n 2, 1), (.iadd, 1), (.bipush 10, 2), (.isub, 1), (.iaload, 1), (.ireturn, 1)])]
def tb_X6_start : tf_Bk := [(0, [(.iconst 0, 1), (.istore_n 2, 1)]),
  (2, [(.iload_n 2, 1), (.aload_n 1, 1), (.getfield 52, 3), (.if_icmp .ge 20, 3), (.aload_n 0, 1), (.aload_n 1, 1), (.iload_n 2, 1), (.invokevirtual 55, 3)]),
  (16, [(.ifCond .le 5, 3), (.iload_n 2, 1), (.ireturn, 1)]),
  (21, [(.iinc 2 1, 3), (.goto (-22), 3)]),
  (27, [(.iconst 0, 1), (.istore_n 2, 1)]),
  (29, [(.iload_n 2, 1), (.aload_n 1, 1), (.getfield 52, 3), (.if_icmp .ge 21, 3), (.aload_n 0, 1), (.aload_n 1, 1), (.iload_n 2, 1), (.invokevirtual 59, 3)]),
  (43, [(.iconst (-1), 1), (.if_icmp .eq 5, 3), (.iload_n 2, 1), (.ireturn, 1)]),
  (49, [(.iinc 2 1, 3), (.goto (-23), 3)]),
  (55, [(.iconst (-1), 1), (.ireturn, 1)])]
def tb_X6_surplus : tf_Bk := [(0, [(.iconst 0, 1), (.istore_n 3, 1), (.iconst 0, 1), (.istore 4, 2)]),
  (5, [(.iload 4, 2), (.aload_n 1, 1), (.getfield 34, 3), (.if_icmp .ge 54, 3), (.aload_n 1, 1), (.getfield 62, 3), (.iload 4, 2), (.iaload, 1), (.iload_n 2, 1), (.if_icmp .ne 16, 3), (.iload_n 3, 1), (.aload_n 0, 1), (.getfield 21, 3), (.iload 4, 2), (.iaload, 1), (.iadd, 1), (.istore_n 3, 1), (.goto 24, 3)]),
  (38, [(.aload_n 1, 1), (.getfield 65, 3), (.iload 4, 2), (.iaload, 1), (.iload_n 2, 1), (.if_icmp .ne 13, 3), (.iload_n 3, 1), (.aload_n 0, 1), (.getfield 21, 3), (.iload 4, 2), (.iaload, 1), (.isub, 1), (.istore_n 3, 1)]),
  (59, [(.iinc 4 1, 3), (.goto (-57), 3)]),
  (65, [(.iload_n 3, 1), (.ireturn, 1)])]
def tb_X6_arcOut : tf_Bk := [(0, [(.iconst 0, 1), (.istore_n 3, 1)]),
  (2, [(.iload_n 3, 1), (.aload_n 1, 1), (.getfield 34, 3), (.if_icmp .ge 30, 3), (.aload_n 1, 1), (.getfield 62, 3), (.iload_n 3, 1), (.iaload, 1), (.iload_n 2, 1), (.if_icmp .ne 14, 3), (.aload_n 0, 1), (.getfield 21, 3), (.iload_n 3, 1), (.iaload, 1), (.ifCond .le 5, 3), (.iload_n 3, 1), (.ireturn, 1)]),
  (31, [(.iinc 3 1, 3), (.goto (-32), 3)]),
  (37, [(.iconst (-1), 1), (.ireturn, 1)])]
def tb_X6_go : tf_Bk := [(0, [(.iconst 0, 1), (.istore_n 3, 1)]),
  (2, [(.iload_n 3, 1), (.bipush 7, 2), (.if_icmp .ge 16, 3), (.aload_n 0, 1), (.getfield 27, 3), (.iload_n 3, 1), (.iconst (-1), 1), (.iastore, 1), (.iinc 3 1, 3), (.goto (-16), 3)]),
  (21, [(.aload_n 0, 1), (.iconst 0, 1), (.putfield 68, 3), (.aload_n 0, 1), (.iconst 0, 1), (.putfield 71, 3), (.iload_n 2, 1), (.istore_n 3, 1)]),
  (33, [(.aload_n 0, 1), (.getfield 68, 3), (.bipush 7, 2), (.if_icmp .ge 81, 3), (.aload_n 0, 1), (.getfield 27, 3), (.iload_n 3, 1), (.aload_n 0, 1), (.getfield 68, 3), (.iastore, 1), (.aload_n 0, 1), (.aload_n 1, 1), (.iload_n 3, 1), (.invokevirtual 59, 3)]),
  (58, [(.istore 4, 2), (.iload 4, 2), (.iconst (-1), 1), (.if_icmp .ne 4, 3), (.return_, 1)]),
  (67, [(.aload_n 0, 1), (.getfield 24, 3), (.aload_n 0, 1), (.getfield 68, 3), (.iload 4, 2), (.iastore, 1), (.aload_n 0, 1), (.dup, 1), (.getfield 68, 3), (.iconst 1, 1), (.iadd, 1), (.putfield 68, 3), (.aload_n 1, 1), (.getfield 65, 3), (.iload 4, 2), (.iaload, 1), (.istore_n 3, 1), (.aload_n 0, 1), (.getfield 27, 3), (.iload_n 3, 1), (.iaload, 1), (.iconst (-1), 1), (.if_icmp .eq 14, 3), (.aload_n 0, 1), (.aload_n 0, 1), (.getfield 27, 3), (.iload_n 3, 1), (.iaload, 1), (.putfield 71, 3), (.return_, 1)]),
  (117, [(.goto (-84), 3)]),
  (120, [(.return_, 1)])]
def tb_X6_keep : tf_Bk := [(0, [(.ldc 74, 2), (.istore_n 1, 1), (.aload_n 0, 1), (.getfield 71, 3), (.istore_n 2, 1)]),
  (8, [(.iload_n 2, 1), (.aload_n 0, 1), (.getfield 68, 3), (.if_icmp .ge 25, 3), (.iload_n 1, 1), (.aload_n 0, 1), (.getfield 21, 3), (.aload_n 0, 1), (.getfield 24, 3), (.iload_n 2, 1), (.iaload, 1), (.iaload, 1), (.invokestatic 75, 3)]),
  (31, [(.istore_n 1, 1), (.iinc 2 1, 3), (.goto (-27), 3)]),
  (38, [(.aload_n 0, 1), (.getfield 71, 3), (.istore_n 2, 1)]),
  (43, [(.iload_n 2, 1), (.aload_n 0, 1), (.getfield 68, 3), (.if_icmp .ge 49, 3), (.aload_n 0, 1), (.getfield 21, 3), (.aload_n 0, 1), (.getfield 24, 3), (.iload_n 2, 1), (.iaload, 1), (.dup2, 1), (.iaload, 1), (.iload_n 1, 1), (.isub, 1), (.iastore, 1), (.aload_n 0, 1), (.getfield 18, 3), (.aload_n 0, 1), (.getfield 30, 3), (.bipush 7, 2), (.imul, 1), (.iload_n 2, 1), (.iadd, 1), (.aload_n 0, 1), (.getfield 71, 3), (.isub, 1), (.aload_n 0, 1), (.getfield 24, 3), (.iload_n 2, 1), (.iaload, 1), (.iastore, 1), (.iinc 2 1, 3), (.goto (-51), 3)]),
  (97, [(.aload_n 0, 1), (.getfield 9, 3), (.aload_n 0, 1), (.getfield 30, 3), (.iload_n 1, 1), (.iastore, 1), (.aload_n 0, 1), (.getfield 15, 3), (.aload_n 0, 1), (.getfield 30, 3), (.aload_n 0, 1), (.getfield 68, 3), (.aload_n 0, 1), (.getfield 71, 3), (.isub, 1), (.iastore, 1), (.aload_n 0, 1), (.dup, 1), (.getfield 30, 3), (.iconst 1, 1), (.iadd, 1), (.putfield 30, 3), (.return_, 1)])]
def tb_X8_spell : tf_Bk := [(0, [(.iconst 0, 1), (.istore_n 3, 1)]),
  (2, [(.iload_n 3, 1), (.bipush 8, 2), (.if_icmp .ge 17, 3), (.lload_n 1, 1), (.iload_n 3, 1), (.invokestatic 82, 3)]),
  (13, [(.ifCond .eq 9, 3), (.iinc 3 1, 3), (.goto (-17), 3)]),
  (22, [(.aload_n 0, 1), (.getfield 36, 3), (.getfield 86, 3), (.iload_n 3, 1), (.iadd, 1), (.sipush 400, 3), (.if_icmp .le 5, 3), (.iconst (-1), 1), (.ireturn, 1)]),
  (39, [(.iconst 0, 1), (.istore 4, 2)]),
  (42, [(.iload 4, 2), (.iload_n 3, 1), (.if_icmp .ge 22, 3), (.aload_n 0, 1), (.getfield 36, 3), (.lload_n 1, 1), (.iload 4, 2), (.invokestatic 82, 3)]),
  (58, [(.invokevirtual 90, 3)]),
  (61, [(.iinc 4 1, 3), (.goto (-22), 3)]),
  (67, [(.aload_n 0, 1), (.getfield 36, 3), (.getfield 86, 3), (.ireturn, 1)])]
def tb_X8_lay : tf_Bk := [(0, [(.aload_n 0, 1), (.getfield 43, 3), (.aload_n 0, 1), (.getfield 36, 3), (.iconst 0, 1), (.invokevirtual 93, 3)]),
  (12, [(.aload_n 0, 1), (.getfield 43, 3), (.getfield 97, 3), (.ifCond .ne 17, 3), (.aload_n 0, 1), (.getfield 43, 3), (.aload_n 0, 1), (.getfield 36, 3), (.getfield 86, 3), (.invokevirtual 100, 3)]),
  (36, [(.aload_n 0, 1), (.invokevirtual 103, 3)]),
  (40, [(.aload_n 0, 1), (.getfield 43, 3), (.getfield 97, 3), (.ifCond .eq 5, 3), (.iconst (-1), 1), (.ireturn, 1)]),
  (52, [(.aload_n 0, 1), (.getfield 43, 3), (.aload_n 0, 1), (.getfield 12, 3), (.invokevirtual 106, 3)]),
  (63, [(.aload_n 0, 1), (.getfield 12, 3), (.iconst 0, 1), (.invokevirtual 70, 3)]),
  (71, [(.aload_n 0, 1), (.getfield 12, 3), (.getfield 74, 3), (.invokevirtual 78, 3)]),
  (81, [(.aload_n 0, 1), (.iconst 0, 1), (.putfield 110, 3), (.aload_n 0, 1), (.getfield 12, 3), (.getfield 113, 3), (.ireturn, 1)])]
def tb_X8_fault : tf_Bk := [(0, [(.iload_n 1, 1), (.ifCond .eq 13, 3), (.aload_n 0, 1), (.getfield 36, 3), (.getfield 116, 3), (.goto 10, 3)]),
  (14, [(.aload_n 0, 1), (.getfield 36, 3), (.getfield 119, 3)]),
  (21, [(.ireturn, 1)])]
def tb_X8_pivot : tf_Bk := [(0, [(.aload_n 0, 1), (.invokevirtual 122, 3)]),
  (4, [(.aload_n 0, 1), (.getfield 22, 3), (.aload_n 0, 1), (.getfield 12, 3), (.aload_n 0, 1), (.getfield 12, 3), (.getfield 125, 3), (.invokevirtual 128, 3)]),
  (22, [(.istore_n 1, 1), (.aload_n 0, 1), (.iload_n 1, 1), (.iconst (-1), 1), (.if_icmp .eq 7, 3), (.iconst 1, 1), (.goto 4, 3)]),
  (33, [(.iconst 0, 1)]),
  (34, [(.invokevirtual 132, 3)]),
  (37, [(.pop, 1), (.iload_n 1, 1), (.ireturn, 1)])]
def tb_X8_pivots : tf_Bk := [(0, [(.iload_n 1, 1), (.iconst 1, 1), (.if_icmp .lt 9, 3), (.iload_n 1, 1), (.bipush 60, 2), (.if_icmp .le 5, 3)]),
  (11, [(.iconst (-1), 1), (.ireturn, 1)]),
  (13, [(.aload_n 0, 1), (.invokevirtual 122, 3)]),
  (17, [(.aload_n 0, 1), (.getfield 22, 3), (.aload_n 0, 1), (.getfield 12, 3), (.aload_n 0, 1), (.getfield 12, 3), (.getfield 125, 3), (.iload_n 1, 1), (.invokevirtual 136, 3)]),
  (36, [(.istore_n 2, 1), (.aload_n 0, 1), (.iload_n 2, 1), (.ifCond .le 7, 3), (.iconst 1, 1), (.goto 4, 3)]),
  (46, [(.iconst 0, 1)]),
  (47, [(.invokevirtual 132, 3)]),
  (50, [(.pop, 1), (.iload_n 2, 1), (.ireturn, 1)])]
def tb_X8_rule : tf_Bk := [(0, [(.aload_n 0, 1), (.invokevirtual 122, 3)]),
  (4, [(.aload_n 0, 1), (.aload_n 0, 1), (.getfield 12, 3), (.iload_n 1, 1), (.invokevirtual 140, 3)]),
  (13, [(.invokevirtual 132, 3)]),
  (16, [(.ireturn, 1)])]
def tb_X8_shift : tf_Bk := [(0, [(.aload_n 0, 1), (.invokevirtual 122, 3)]),
  (4, [(.aload_n 0, 1), (.aload_n 0, 1), (.getfield 12, 3), (.iload_n 1, 1), (.iload_n 2, 1), (.iload_n 3, 1), (.invokevirtual 144, 3)]),
  (15, [(.invokevirtual 132, 3)]),
  (18, [(.ireturn, 1)])]
def tb_X8_block : tf_Bk := [(0, [(.aload_n 0, 1), (.invokevirtual 122, 3)]),
  (4, [(.aload_n 0, 1), (.aload_n 0, 1), (.getfield 12, 3), (.iload_n 1, 1), (.iload_n 2, 1), (.invokevirtual 148, 3)]),
  (14, [(.invokevirtual 132, 3)]),
  (17, [(.ireturn, 1)])]
def tb_X8_widen : tf_Bk := [(0, [(.aload_n 0, 1), (.invokevirtual 122, 3)]),
  (4, [(.aload_n 0, 1), (.aload_n 0, 1), (.getfield 12, 3), (.iload_n 1, 1), (.iload_n 2, 1), (.invokevirtual 152, 3)]),
  (14, [(.invokevirtual 132, 3)]),
  (17, [(.ireturn, 1)])]
def tb_X8_charge : tf_Bk := [(0, [(.aload_n 0, 1), (.invokevirtual 122, 3)]),
  (4, [(.aload_n 0, 1), (.aload_n 0, 1), (.getfield 12, 3), (.iload_n 1, 1), (.iload_n 2, 1), (.invokevirtual 156, 3)]),
  (14, [(.invokevirtual 132, 3)]),
  (17, [(.ireturn, 1)])]
def tb_X8_cold : tf_Bk := [(0, [(.aload_n 0, 1), (.invokevirtual 122, 3)]),
  (4, [(.aload_n 0, 1), (.getfield 12, 3), (.iconst 0, 1), (.invokevirtual 70, 3)]),
  (12, [(.aload_n 0, 1), (.iconst 1, 1), (.invokevirtual 132, 3)]),
  (17, [(.pop, 1), (.return_, 1)])]
def tb_X8_work : tf_Bk := [(0, [(.aload_n 0, 1), (.getfield 43, 3), (.aload_n 0, 1), (.getfield 36, 3), (.iconst 1, 1), (.invokevirtual 93, 3)]),
  (12, [(.aload_n 0, 1), (.getfield 43, 3), (.getfield 97, 3), (.ifCond .ne 10, 3), (.aload_n 0, 1), (.getfield 43, 3), (.invokevirtual 159, 3)]),
  (29, [(.aload_n 0, 1), (.invokevirtual 103, 3)]),
  (33, [(.aload_n 0, 1), (.getfield 43, 3), (.getfield 97, 3), (.ifCond .eq 5, 3), (.iconst (-1), 1), (.ireturn, 1)]),
  (45, [(.aload_n 0, 1), (.invokevirtual 122, 3)]),
  (49, [(.iconst 0, 1), (.istore_n 1, 1)]),
  (51, [(.iload_n 1, 1), (.aload_n 0, 1), (.getfield 43, 3), (.getfield 162, 3), (.if_icmp .ge 28, 3), (.aload_n 0, 1), (.getfield 43, 3), (.iload_n 1, 1), (.aload_n 0, 1), (.getfield 12, 3), (.aload_n 0, 1), (.getfield 22, 3), (.invokevirtual 165, 3)]),
  (78, [(.ifCond .eq 9, 3), (.iinc 1 1, 3), (.goto (-33), 3)]),
  (87, [(.aload_n 0, 1), (.iload_n 1, 1), (.ifCond .le 7, 3), (.iconst 1, 1), (.goto 4, 3)]),
  (96, [(.iconst 0, 1)]),
  (97, [(.invokevirtual 132, 3)]),
  (100, [(.pop, 1), (.iload_n 1, 1), (.ireturn, 1)])]
def tb_X8_undo : tf_Bk := [(0, [(.aload_n 0, 1), (.getfield 110, 3), (.ifCond .ne 5, 3), (.iconst (-1), 1), (.ireturn, 1)]),
  (9, [(.aload_n 0, 1), (.aload_n 0, 1), (.getfield 169, 3), (.ifCond .ne 8, 3), (.bipush 10, 2), (.goto 9, 3)]),
  (22, [(.aload_n 0, 1), (.getfield 169, 3), (.iconst 1, 1), (.isub, 1)]),
  (28, [(.putfield 169, 3), (.aload_n 0, 1), (.dup, 1), (.getfield 110, 3), (.iconst 1, 1), (.isub, 1), (.putfield 110, 3), (.aload_n 0, 1), (.getfield 12, 3), (.aload_n 0, 1), (.getfield 51, 3), (.aload_n 0, 1), (.getfield 169, 3), (.aaload, 1), (.invokevirtual 172, 3)]),
  (57, [(.aload_n 0, 1), (.getfield 110, 3), (.ireturn, 1)])]
def tb_X8_grid : tf_Bk := [(0, [(.iload_n 1, 1), (.tableswitch 176 0 11 #[63, 71, 79, 87, 103, 111, 122, 133, 144, 155, 163, 171], 63)]),
  (64, [(.aload_n 0, 1), (.getfield 12, 3), (.getfield 175, 3), (.ireturn, 1)]),
  (72, [(.aload_n 0, 1), (.getfield 12, 3), (.getfield 113, 3), (.ireturn, 1)]),
  (80, [(.aload_n 0, 1), (.getfield 12, 3), (.getfield 125, 3), (.ireturn, 1)]),
  (88, [(.aload_n 0, 1), (.getfield 12, 3), (.invokevirtual 178, 3)]),
  (95, [(.ifCond .ne 7, 3), (.iconst 1, 1), (.goto 4, 3)]),
  (102, [(.iconst 0, 1)]),
  (103, [(.ireturn, 1)]),
  (104, [(.aload_n 0, 1), (.getfield 12, 3), (.invokevirtual 182, 3)]),
  (111, [(.ireturn, 1)]),
  (112, [(.aload_n 0, 1), (.getfield 12, 3), (.getfield 74, 3), (.getfield 185, 3), (.ireturn, 1)]),
  (123, [(.aload_n 0, 1), (.getfield 12, 3), (.getfield 74, 3), (.getfield 188, 3), (.ireturn, 1)]),
  (134, [(.aload_n 0, 1), (.getfield 12, 3), (.getfield 74, 3), (.getfield 191, 3), (.ireturn, 1)]),
  (145, [(.aload_n 0, 1), (.getfield 12, 3), (.getfield 74, 3), (.getfield 194, 3), (.ireturn, 1)]),
  (156, [(.aload_n 0, 1), (.getfield 12, 3), (.invokevirtual 178, 3)]),
  (163, [(.ireturn, 1)]),
  (164, [(.aload_n 0, 1), (.getfield 36, 3), (.getfield 86, 3), (.ireturn, 1)]),
  (172, [(.aload_n 0, 1), (.getfield 110, 3), (.ireturn, 1)]),
  (177, [(.iconst (-1), 1), (.ireturn, 1)])]
def tb_X8_thread : tf_Bk := [(0, [(.iload_n 1, 1), (.ifCond .lt 14, 3), (.iload_n 1, 1), (.aload_n 0, 1), (.getfield 12, 3), (.getfield 175, 3), (.if_icmp .lt 5, 3)]),
  (15, [(.iconst (-1), 1), (.ireturn, 1)]),
  (17, [(.aload_n 0, 1), (.getfield 12, 3), (.bipush 7, 2), (.iconst (-1), 1), (.invokevirtual 258, 3)]),
  (27, [(.istore_n 2, 1), (.iconst 0, 1), (.istore_n 3, 1)]),
  (30, [(.iload_n 3, 1), (.iload_n 1, 1), (.if_icmp .ge 18, 3), (.aload_n 0, 1), (.getfield 12, 3), (.iload_n 2, 1), (.invokevirtual 262, 3)]),
  (43, [(.istore_n 2, 1), (.iinc 3 1, 3), (.goto (-17), 3)]),
  (50, [(.iload_n 2, 1), (.ireturn, 1)])]
def tb_X8_path : tf_Bk := [(0, [(.aload_n 0, 1), (.getfield 12, 3), (.iload_n 1, 1), (.iload_n 2, 1), (.invokevirtual 265, 3)]),
  (9, [(.ifCond .ne 7, 3), (.sipush (-1000), 3), (.ireturn, 1)]),
  (16, [(.aload_n 0, 1), (.getfield 22, 3), (.aload_n 0, 1), (.getfield 12, 3), (.iload_n 1, 1), (.iload_n 2, 1), (.invokevirtual 268, 3)]),
  (29, [(.iload_n 3, 1), (.tableswitch 74 0 2 #[26, 34, 62], 26)]),
  (56, [(.aload_n 0, 1), (.getfield 22, 3), (.getfield 272, 3), (.ireturn, 1)]),
  (64, [(.aload_n 0, 1), (.getfield 22, 3), (.aload_n 0, 1), (.getfield 12, 3), (.invokevirtual 273, 3)]),
  (75, [(.istore 4, 2), (.iload 4, 2), (.ldc_w 277, 3), (.if_icmp .lt 7, 3), (.iconst (-1), 1), (.goto 5, 3)]),
  (89, [(.iload 4, 2)]),
  (91, [(.ireturn, 1)]),
  (92, [(.aload_n 0, 1), (.getfield 22, 3), (.aload_n 0, 1), (.getfield 12, 3), (.invokevirtual 278, 3)]),
  (103, [(.ireturn, 1)]),
  (104, [(.aload_n 0, 1), (.getfield 22, 3), (.iload_n 3, 1), (.sipush (-1000), 3), (.invokevirtual 280, 3)]),
  (115, [(.ireturn, 1)])]
def tb_X8_next : tf_Bk := [(0, [(.aload_n 0, 1), (.getfield 12, 3), (.aload_n 0, 1), (.getfield 12, 3), (.getfield 125, 3), (.invokevirtual 283, 3)]),
  (14, [(.istore_n 2, 1), (.iload_n 2, 1), (.iconst (-1), 1), (.if_icmp .ne 5, 3), (.iconst (-1), 1), (.ireturn, 1)]),
  (22, [(.aload_n 0, 1), (.getfield 22, 3), (.aload_n 0, 1), (.getfield 12, 3), (.iload_n 2, 1), (.invokevirtual 286, 3)]),
  (34, [(.iload_n 1, 1), (.tableswitch 77 0 4 #[33, 35, 46, 54, 69], 33)]),
  (68, [(.iload_n 2, 1), (.ireturn, 1)]),
  (70, [(.aload_n 0, 1), (.getfield 22, 3), (.invokevirtual 290, 3)]),
  (77, [(.invokestatic 246, 3)]),
  (80, [(.ireturn, 1)]),
  (81, [(.aload_n 0, 1), (.getfield 22, 3), (.getfield 293, 3), (.ireturn, 1)]),
  (89, [(.aload_n 0, 1), (.getfield 12, 3), (.aload_n 0, 1), (.getfield 22, 3), (.getfield 296, 3), (.invokevirtual 240, 3)]),
  (103, [(.ireturn, 1)]),
  (104, [(.aload_n 0, 1), (.getfield 22, 3), (.getfield 272, 3), (.ireturn, 1)]),
  (112, [(.aload_n 0, 1), (.getfield 22, 3), (.iload_n 1, 1), (.iconst (-1), 1), (.invokevirtual 280, 3)]),
  (121, [(.ireturn, 1)])]
def tb_X8_past : tf_Bk := [(0, [(.aload_n 0, 1), (.getfield 12, 3), (.getfield 74, 3), (.iload_n 1, 1), (.iload_n 2, 1), (.invokevirtual 299, 3)]),
  (12, [(.ireturn, 1)])]
def tb_X8_bill : tf_Bk := [(0, [(.aload_n 0, 1), (.getfield 12, 3), (.invokevirtual 300, 3)]),
  (7, [(.i2l, 1), (.iload_n 1, 1), (.i2l, 1), (.lmul, 1), (.lstore_n 2, 1), (.lload_n 2, 1), (.ldc2_w 305, 3), (.lcmp, 1), (.ifCond .lt 11, 3), (.lload_n 2, 1), (.ldc2_w 307, 3), (.lcmp, 1), (.ifCond .le 7, 3)]),
  (28, [(.ldc_w 309, 3), (.ireturn, 1)]),
  (32, [(.lload_n 2, 1), (.l2i, 1), (.ireturn, 1)])]
def tb_X8_ledger : tf_Bk := [(0, [(.iload_n 1, 1), (.iconst (-1), 1), (.if_icmp .ge 7, 3), (.sipush (-1000), 3), (.ireturn, 1)]),
  (9, [(.iconst 0, 1), (.istore_n 3, 1), (.aload_n 0, 1), (.getfield 12, 3), (.bipush (-100), 2), (.invokevirtual 310, 3)]),
  (20, [(.istore 4, 2)]),
  (22, [(.iload_n 3, 1), (.bipush 14, 2), (.if_icmp .ge 51, 3), (.iload 4, 2), (.bipush 99, 2), (.if_icmp .gt 44, 3), (.iload_n 3, 1), (.iload_n 1, 1), (.if_icmp .ne 22, 3), (.iload_n 2, 1), (.ifCond .eq 15, 3), (.aload_n 0, 1), (.getfield 12, 3), (.iload 4, 2), (.invokevirtual 313, 3)]),
  (53, [(.goto 5, 3)]),
  (56, [(.iload 4, 2)]),
  (58, [(.ireturn, 1)]),
  (59, [(.iinc 3 1, 3), (.aload_n 0, 1), (.getfield 12, 3), (.iload 4, 2), (.invokevirtual 310, 3)]),
  (71, [(.istore 4, 2), (.goto (-51), 3)]),
  (76, [(.iload_n 1, 1), (.iconst (-1), 1), (.if_icmp .ne 7, 3), (.iload_n 3, 1), (.goto 6, 3)]),
  (85, [(.sipush (-1000), 3)]),
  (88, [(.ireturn, 1)])]
def tb_X8_wide : tf_Bk := [(0, [(.aload_n 0, 1), (.getfield 12, 3), (.iload_n 1, 1), (.iload_n 2, 1), (.invokevirtual 265, 3)]),
  (9, [(.ifCond .ne 5, 3), (.iconst (-1), 1), (.ireturn, 1)]),
  (14, [(.iconst 0, 1), (.istore_n 3, 1)]),
  (16, [(.iload_n 3, 1), (.aload_n 0, 1), (.getfield 12, 3), (.getfield 175, 3), (.if_icmp .ge 16, 3), (.aload_n 0, 1), (.getfield 47, 3), (.iload_n 3, 1), (.iconst 0, 1), (.iastore, 1), (.iinc 3 1, 3), (.goto (-21), 3)]),
  (40, [(.aload_n 0, 1), (.getfield 47, 3), (.iload_n 1, 1), (.ldc_w 277, 3), (.iastore, 1), (.iconst 1, 1), (.istore_n 3, 1)]),
  (51, [(.iload_n 3, 1), (.aload_n 0, 1), (.getfield 12, 3), (.getfield 175, 3), (.if_icmp .ge 20, 3), (.aload_n 0, 1), (.getfield 12, 3), (.aload_n 0, 1), (.getfield 47, 3), (.invokevirtual 316, 3)]),
  (73, [(.iinc 3 1, 3), (.goto (-25), 3)]),
  (79, [(.aload_n 0, 1), (.getfield 47, 3), (.iload_n 2, 1), (.iaload, 1), (.ireturn, 1)])]
def tb_X8_trip : tf_Bk := [(0, [(.aload_n 0, 1), (.getfield 29, 3), (.aload_n 0, 1), (.getfield 12, 3), (.invokevirtual 320, 3)]),
  (11, [(.iload_n 1, 1), (.iconst (-1), 1), (.if_icmp .ne 19, 3), (.iload_n 2, 1), (.ifCond .ne 13, 3), (.aload_n 0, 1), (.getfield 29, 3), (.getfield 323, 3), (.goto 4, 3)]),
  (30, [(.iconst (-1), 1)]),
  (31, [(.ireturn, 1)]),
  (32, [(.aload_n 0, 1), (.getfield 29, 3), (.iload_n 1, 1), (.iload_n 2, 1), (.invokevirtual 324, 3)]),
  (41, [(.ireturn, 1)])]
def tb_X8_apart : tf_Bk := [(0, [(.aload_n 0, 1), (.iload_n 1, 1), (.invokevirtual 325, 3)]),
  (5, [(.ifCond .eq 19, 3), (.aload_n 0, 1), (.getfield 12, 3), (.aload_n 0, 1), (.getfield 55, 3), (.iload_n 1, 1), (.aaload, 1), (.invokevirtual 328, 3)]),
  (21, [(.goto 4, 3)]),
  (24, [(.iconst (-1), 1)]),
  (25, [(.ireturn, 1)])]
def tb_X8_span : tf_Bk := [(0, [(.aload_n 0, 1), (.getfield 12, 3), (.iload_n 1, 1), (.invokevirtual 197, 3)]),
  (8, [(.ifCond .eq 13, 3), (.aload_n 0, 1), (.getfield 12, 3), (.invokevirtual 178, 3)]),
  (18, [(.ifCond .le 7, 3)]),
  (21, [(.sipush (-1000), 3), (.ireturn, 1)]),
  (25, [(.iload_n 2, 1), (.ifCond .eq 14, 3), (.aload_n 0, 1), (.getfield 12, 3), (.iload_n 1, 1), (.invokevirtual 331, 3)]),
  (37, [(.goto 11, 3)]),
  (40, [(.aload_n 0, 1), (.getfield 12, 3), (.iload_n 1, 1), (.invokevirtual 334, 3)]),
  (48, [(.ireturn, 1)])]
def tb_X8_least : tf_Bk := [(0, [(.aload_n 0, 1), (.getfield 16, 3), (.aload_n 0, 1), (.getfield 12, 3), (.invokevirtual 172, 3)]),
  (11, [(.aload_n 0, 1), (.invokevirtual 337, 3)]),
  (15, [(.ireturn, 1)])]
def tb_X8_lack : tf_Bk := [(0, [(.iconst 2, 1), (.aload_n 0, 1), (.getfield 12, 3), (.aload_n 0, 1), (.getfield 12, 3), (.invokevirtual 340, 3)]),
  (12, [(.invokevirtual 343, 3)]),
  (15, [(.imul, 1), (.ireturn, 1)])]
def tb_X8_cut : tf_Bk := [(0, [(.aload_n 0, 1), (.getfield 12, 3), (.invokevirtual 340, 3)]),
  (7, [(.ireturn, 1)])]
def tb_X8_steps : tf_Bk := [(0, [(.iload_n 1, 1), (.invokestatic 346, 3)]),
  (4, [(.ifCond .ne 5, 3), (.iconst (-1), 1), (.ireturn, 1)]),
  (9, [(.aload_n 0, 1), (.getfield 16, 3), (.aload_n 0, 1), (.getfield 12, 3), (.invokevirtual 172, 3)]),
  (20, [(.aload_n 0, 1), (.getfield 22, 3), (.aload_n 0, 1), (.getfield 16, 3), (.iload_n 1, 1), (.ldc_w 277, 3), (.invokevirtual 136, 3)]),
  (35, [(.ireturn, 1)])]
def tb_X8_worth : tf_Bk := [(0, [(.aload_n 0, 1), (.getfield 12, 3), (.iload_n 1, 1), (.invokevirtual 197, 3)]),
  (8, [(.ifCond .eq 12, 3), (.iload_n 2, 1), (.ifCond .lt 8, 3), (.iload_n 2, 1), (.iconst 2, 1), (.if_icmp .le 7, 3)]),
  (20, [(.ldc_w 349, 3), (.ireturn, 1)]),
  (24, [(.aload_n 0, 1), (.getfield 16, 3), (.aload_n 0, 1), (.getfield 12, 3), (.invokevirtual 172, 3)]),
  (35, [(.aload_n 0, 1), (.invokevirtual 337, 3)]),
  (39, [(.istore_n 3, 1), (.aload_n 0, 1), (.getfield 16, 3), (.aload_n 0, 1), (.getfield 12, 3), (.invokevirtual 172, 3)]),
  (51, [(.iload_n 2, 1), (.ifCond .ne 19, 3), (.aload_n 0, 1), (.getfield 16, 3), (.getfield 209, 3), (.iload_n 1, 1), (.dup2, 1), (.iaload, 1), (.iconst 1, 1), (.iadd, 1), (.iastore, 1), (.goto 34, 3)]),
  (71, [(.iload_n 2, 1), (.iconst 1, 1), (.if_icmp .ne 16, 3), (.aload_n 0, 1), (.getfield 16, 3), (.getfield 218, 3), (.iload_n 1, 1), (.iconst 3, 1), (.iastore, 1), (.goto 16, 3)]),
  (89, [(.aload_n 0, 1), (.getfield 16, 3), (.getfield 212, 3), (.iload_n 1, 1), (.dup2, 1), (.iaload, 1), (.iconst 1, 1), (.iadd, 1), (.iastore, 1)]),
  (102, [(.aload_n 0, 1), (.getfield 16, 3), (.iconst 1, 1), (.invokevirtual 70, 3)]),
  (110, [(.aload_n 0, 1), (.invokevirtual 337, 3)]),
  (114, [(.iload_n 3, 1), (.invokestatic 350, 3)]),
  (118, [(.ireturn, 1)])]
def tb_X8_toll : tf_Bk := [(0, [(.aload_n 0, 1), (.getfield 12, 3), (.iload_n 1, 1), (.iload_n 2, 1), (.invokevirtual 265, 3)]),
  (9, [(.ifCond .ne 7, 3), (.ldc_w 349, 3), (.ireturn, 1)]),
  (16, [(.aload_n 0, 1), (.getfield 16, 3), (.aload_n 0, 1), (.getfield 12, 3), (.invokevirtual 172, 3)]),
  (27, [(.aload_n 0, 1), (.invokevirtual 337, 3)]),
  (31, [(.istore_n 3, 1), (.aload_n 0, 1), (.getfield 16, 3), (.aload_n 0, 1), (.getfield 12, 3), (.invokevirtual 172, 3)]),
  (43, [(.aload_n 0, 1), (.getfield 16, 3), (.getfield 231, 3), (.iload_n 1, 1), (.dup2, 1), (.iaload, 1), (.iconst 1, 1), (.iadd, 1), (.iastore, 1), (.aload_n 0, 1), (.getfield 16, 3), (.getfield 231, 3), (.iload_n 2, 1), (.dup2, 1), (.iaload, 1), (.iconst 1, 1), (.isub, 1), (.iastore, 1), (.aload_n 0, 1), (.getfield 16, 3), (.iconst 1, 1), (.invokevirtual 70, 3)]),
  (77, [(.aload_n 0, 1), (.invokevirtual 337, 3)]),
  (81, [(.iload_n 3, 1), (.invokestatic 350, 3)]),
  (85, [(.ireturn, 1)])]
def tb_X8_image : tf_Bk := [(0, [(.iload_n 1, 1), (.ifCond .lt 8, 3), (.iload_n 1, 1), (.iconst 3, 1), (.if_icmp .lt 5, 3)]),
  (9, [(.iconst 0, 1), (.ireturn, 1)]),
  (11, [(.aload_n 0, 1), (.getfield 55, 3), (.iload_n 1, 1), (.aaload, 1), (.aload_n 0, 1), (.getfield 12, 3), (.invokevirtual 172, 3)]),
  (24, [(.aload_n 0, 1), (.getfield 58, 3), (.iload_n 1, 1), (.aaload, 1), (.aload_n 0, 1), (.getfield 36, 3), (.invokevirtual 353, 3)]),
  (37, [(.aload_n 0, 1), (.getfield 62, 3), (.iload_n 1, 1), (.iconst 1, 1), (.bastore, 1), (.iconst 1, 1), (.ireturn, 1)])]
def tb_X8_again : tf_Bk := [(0, [(.aload_n 0, 1), (.iload_n 1, 1), (.invokevirtual 325, 3)]),
  (5, [(.ifCond .ne 5, 3), (.iconst 0, 1), (.ireturn, 1)]),
  (10, [(.aload_n 0, 1), (.getfield 12, 3), (.aload_n 0, 1), (.getfield 55, 3), (.iload_n 1, 1), (.aaload, 1), (.invokevirtual 172, 3)]),
  (23, [(.aload_n 0, 1), (.getfield 36, 3), (.aload_n 0, 1), (.getfield 58, 3), (.iload_n 1, 1), (.aaload, 1), (.invokevirtual 353, 3)]),
  (36, [(.aload_n 0, 1), (.iconst 0, 1), (.putfield 110, 3), (.iconst 1, 1), (.ireturn, 1)])]
def tb_X8_hasImage : tf_Bk := [(0, [(.iload_n 1, 1), (.ifCond .lt 21, 3), (.iload_n 1, 1), (.iconst 3, 1), (.if_icmp .ge 16, 3), (.aload_n 0, 1), (.getfield 62, 3), (.iload_n 1, 1), (.baload, 1), (.ifCond .eq 7, 3), (.iconst 1, 1), (.goto 4, 3)]),
  (22, [(.iconst 0, 1)]),
  (23, [(.ireturn, 1)])]
def tb_X8_takeFault : tf_Bk := [(0, [(.aload_n 0, 1), (.getfield 36, 3), (.iconst 0, 1), (.putfield 86, 3), (.aload_n 0, 1), (.getfield 36, 3), (.aload_n 0, 1), (.getfield 43, 3), (.getfield 97, 3), (.putfield 119, 3), (.aload_n 0, 1), (.getfield 36, 3), (.aload_n 0, 1), (.getfield 43, 3), (.getfield 356, 3), (.putfield 116, 3), (.return_, 1)])]
def tb_X8_saveAhead : tf_Bk := [(0, [(.aload_n 0, 1), (.getfield 51, 3), (.aload_n 0, 1), (.getfield 169, 3), (.aaload, 1), (.aload_n 0, 1), (.getfield 12, 3), (.invokevirtual 172, 3)]),
  (16, [(.return_, 1)])]
def tb_X8_countAct : tf_Bk := [(0, [(.iload_n 1, 1), (.ifCond .eq 41, 3), (.aload_n 0, 1), (.aload_n 0, 1), (.getfield 169, 3), (.bipush 10, 2), (.if_icmp .ne 7, 3), (.iconst 0, 1), (.goto 9, 3)]),
  (18, [(.aload_n 0, 1), (.getfield 169, 3), (.iconst 1, 1), (.iadd, 1)]),
  (24, [(.putfield 169, 3), (.aload_n 0, 1), (.aload_n 0, 1), (.getfield 110, 3), (.iconst 1, 1), (.iadd, 1), (.bipush 10, 2), (.invokestatic 357, 3)]),
  (39, [(.putfield 110, 3)]),
  (42, [(.iload_n 1, 1), (.ireturn, 1)])]
def tb_X8_leastOfTrial : tf_Bk := [(0, [(.aload_n 0, 1), (.getfield 22, 3), (.aload_n 0, 1), (.getfield 16, 3), (.iconst 1, 1), (.ldc_w 277, 3), (.invokevirtual 136, 3)]),
  (15, [(.pop, 1), (.aload_n 0, 1), (.getfield 16, 3), (.invokevirtual 182, 3)]),
  (23, [(.ifCond .ne 13, 3), (.aload_n 0, 1), (.getfield 16, 3), (.invokevirtual 300, 3)]),
  (33, [(.goto 6, 3)]),
  (36, [(.ldc_w 349, 3)]),
  (39, [(.ireturn, 1)])]
def tb_X8_less : tf_Bk := [(0, [(.iload_n 1, 1), (.ldc_w 349, 3), (.if_icmp .eq 10, 3), (.iload_n 0, 1), (.ldc_w 349, 3), (.if_icmp .ne 9, 3)]),
  (14, [(.ldc_w 349, 3), (.goto 6, 3)]),
  (20, [(.iload_n 0, 1), (.iload_n 1, 1), (.isub, 1)]),
  (23, [(.ireturn, 1)])]
def tb_X8_byteOf : tf_Bk := [(0, [(.lload_n 0, 1), (.bipush 56, 2), (.bipush 8, 2), (.iload_n 2, 1), (.imul, 1), (.isub, 1), (.lushr, 1), (.l2i, 1), (.sipush 255, 3), (.iand, 1), (.ireturn, 1)])]
def tb_X8_toldEdge : tf_Bk := [(0, [(.iload_n 0, 1), (.bipush 14, 2), (.if_icmp .ge 7, 3), (.iload_n 0, 1), (.goto 10, 3)]),
  (10, [(.bipush 100, 2), (.iload_n 0, 1), (.iadd, 1), (.bipush 14, 2), (.isub, 1)]),
  (17, [(.ireturn, 1)])]
def tb_X8_isRule : tf_Bk := [(0, [(.iload_n 0, 1), (.ifCond .lt 12, 3), (.iload_n 0, 1), (.iconst 2, 1), (.if_icmp .gt 7, 3), (.iconst 1, 1), (.goto 4, 3)]),
  (13, [(.iconst 0, 1)]),
  (14, [(.ireturn, 1)])]
def tb_X4_read : tf_Bk := [(0, [(.aload_n 0, 1), (.iconst 0, 1), (.putfield 34, 3), (.aload_n 0, 1), (.iconst 0, 1), (.putfield 37, 3), (.aload_n 0, 1), (.iconst (-1), 1), (.putfield 9, 3), (.aload_n 0, 1), (.iconst 0, 1), (.putfield 40, 3), (.aload_n 0, 1), (.aload_n 1, 1), (.invokevirtual 43, 3)]),
  (25, [(.iconst 1, 1), (.istore_n 3, 1), (.iconst 0, 1), (.istore 4, 2)]),
  (30, [(.iload 4, 2), (.bipush 80, 2), (.if_icmp .ge 27, 3), (.iload_n 3, 1), (.ifCond .eq 23, 3), (.aload_n 0, 1), (.getfield 47, 3), (.ifCond .eq 16, 3), (.aload_n 0, 1), (.aload_n 1, 1), (.iload_n 2, 1), (.invokevirtual 50, 3)]),
  (54, [(.istore_n 3, 1), (.iinc 4 1, 3), (.goto (-28), 3)]),
  (61, [(.iload_n 3, 1), (.ifCond .eq 10, 3), (.aload_n 0, 1), (.getfield 47, 3), (.ifCond .eq 12, 3)]),
  (72, [(.aload_n 0, 1), (.iconst 1, 1), (.aload_n 0, 1), (.getfield 54, 3), (.invokevirtual 57, 3)]),
  (81, [(.return_, 1)])]
def tb_X4_readLine : tf_Bk := [(0, [(.aload_n 0, 1), (.getfield 47, 3), (.iconst 1, 1), (.if_icmp .ne 12, 3), (.aload_n 0, 1), (.aload_n 1, 1), (.iload_n 2, 1), (.invokevirtual 61, 3)]),
  (14, [(.goto 4, 3)]),
  (17, [(.aconst_null, 1)]),
  (18, [(.astore_n 3, 1), (.aload_n 3, 1), (.ifnull 12, 3), (.aload_n 0, 1), (.getfield 34, 3), (.bipush 80, 2), (.if_icmp .lt 5, 3)]),
  (32, [(.iconst 0, 1), (.ireturn, 1)]),
  (34, [(.aload_n 0, 1), (.getfield 17, 3), (.aload_n 0, 1), (.getfield 34, 3), (.aload_n 3, 1), (.aastore, 1), (.aload_n 0, 1), (.getfield 21, 3), (.aload_n 0, 1), (.getfield 34, 3), (.aload_n 0, 1), (.getfield 54, 3), (.iastore, 1), (.aload_n 0, 1), (.aload_n 1, 1), (.invokevirtual 43, 3)]),
  (62, [(.iconst 0, 1), (.istore 4, 2)]),
  (65, [(.iload 4, 2), (.aload_n 3, 1), (.iload_n 2, 1), (.invokevirtual 65, 3)]),
  (72, [(.if_icmp .ge 58, 3), (.aload_n 0, 1), (.getfield 47, 3), (.iconst 2, 1), (.if_icmp .eq 5, 3), (.iconst 0, 1), (.ireturn, 1)]),
  (85, [(.aload_n 0, 1), (.getfield 34, 3), (.iconst 4, 1), (.imul, 1), (.iload 4, 2), (.iadd, 1), (.istore 5, 2), (.aload_n 0, 1), (.getfield 25, 3), (.iload 5, 2), (.aload_n 0, 1), (.aload_n 1, 1), (.invokevirtual 68, 3)]),
  (107, [(.iastore, 1), (.aload_n 0, 1), (.getfield 28, 3), (.iload 5, 2), (.aload_n 0, 1), (.getfield 54, 3), (.iastore, 1), (.aload_n 0, 1), (.aload_n 1, 1), (.invokevirtual 43, 3)]),
  (124, [(.iinc 4 1, 3), (.goto (-62), 3)]),
  (130, [(.aload_n 0, 1), (.getfield 47, 3), (.iconst 3, 1), (.if_icmp .eq 5, 3), (.iconst 0, 1), (.ireturn, 1)]),
  (140, [(.aload_n 0, 1), (.aload_n 1, 1), (.invokevirtual 43, 3)]),
  (145, [(.aload_n 0, 1), (.dup, 1), (.getfield 34, 3), (.iconst 1, 1), (.iadd, 1), (.putfield 34, 3), (.iconst 1, 1), (.ireturn, 1)])]
def tb_X4_blame : tf_Bk := [(0, [(.aload_n 0, 1), (.getfield 37, 3), (.ifCond .ne 13, 3), (.aload_n 0, 1), (.iload_n 1, 1), (.putfield 37, 3), (.aload_n 0, 1), (.iload_n 2, 1), (.putfield 9, 3)]),
  (17, [(.return_, 1)])]
def tb_X4_findToken : tf_Bk := [(0, [(.aload_n 0, 1), (.getfield 40, 3), (.istore_n 2, 1)]),
  (5, [(.iload_n 2, 1), (.aload_n 1, 1), (.getfield 72, 3), (.if_icmp .ge 31, 3), (.aload_n 1, 1), (.getfield 77, 3), (.iload_n 2, 1), (.caload, 1), (.bipush 32, 2), (.if_icmp .eq 14, 3), (.aload_n 1, 1), (.getfield 77, 3), (.iload_n 2, 1), (.caload, 1), (.bipush 10, 2), (.if_icmp .ne 9, 3)]),
  (35, [(.iinc 2 1, 3), (.goto (-33), 3)]),
  (41, [(.aload_n 0, 1), (.iload_n 2, 1), (.putfield 54, 3), (.aload_n 0, 1), (.iload_n 2, 1), (.aload_n 1, 1), (.getfield 72, 3), (.if_icmp .ge 15, 3), (.aload_n 1, 1), (.getfield 77, 3), (.iload_n 2, 1), (.caload, 1), (.invokestatic 81, 3)]),
  (64, [(.goto 4, 3)]),
  (67, [(.iconst 0, 1)]),
  (68, [(.putfield 47, 3), (.aload_n 0, 1), (.getfield 47, 3), (.iconst 1, 1), (.if_icmp .eq 11, 3), (.aload_n 0, 1), (.getfield 47, 3), (.iconst 2, 1), (.if_icmp .ne 38, 3)]),
  (87, [(.aload_n 0, 1), (.getfield 47, 3), (.istore_n 3, 1)]),
  (92, [(.iload_n 2, 1), (.aload_n 1, 1), (.getfield 72, 3), (.if_icmp .ge 22, 3), (.aload_n 1, 1), (.getfield 77, 3), (.iload_n 2, 1), (.caload, 1), (.invokestatic 81, 3)]),
  (109, [(.iload_n 3, 1), (.if_icmp .ne 9, 3), (.iinc 2 1, 3), (.goto (-24), 3)]),
  (119, [(.goto 14, 3)]),
  (122, [(.aload_n 0, 1), (.getfield 47, 3), (.iconst 3, 1), (.if_icmp .ne 6, 3), (.iinc 2 1, 3)]),
  (133, [(.aload_n 0, 1), (.iload_n 2, 1), (.putfield 40, 3), (.aload_n 0, 1), (.getfield 47, 3), (.iconst 2, 1), (.if_icmp .ne 21, 3), (.aload_n 0, 1), (.getfield 40, 3), (.aload_n 0, 1), (.getfield 54, 3), (.isub, 1), (.iconst 2, 1), (.if_icmp .le 8, 3), (.aload_n 0, 1), (.iconst 4, 1), (.putfield 47, 3)]),
  (164, [(.return_, 1)])]
def tb_X4_kindOf : tf_Bk := [(0, [(.iload_n 0, 1), (.bipush 97, 2), (.if_icmp .lt 11, 3), (.iload_n 0, 1), (.bipush 122, 2), (.if_icmp .gt 5, 3), (.iconst 1, 1), (.ireturn, 1)]),
  (14, [(.iload_n 0, 1), (.bipush 48, 2), (.if_icmp .lt 11, 3), (.iload_n 0, 1), (.bipush 57, 2), (.if_icmp .gt 5, 3), (.iconst 2, 1), (.ireturn, 1)]),
  (28, [(.iload_n 0, 1), (.bipush 59, 2), (.if_icmp .ne 7, 3), (.iconst 3, 1), (.goto 4, 3)]),
  (38, [(.iconst 4, 1)]),
  (39, [(.ireturn, 1)])]
def tb_X4_verbHere : tf_Bk := [(0, [(.iconst 0, 1), (.istore_n 3, 1)]),
  (2, [(.iload_n 3, 1), (.getstatic 85, 3), (.arraylength, 1), (.if_icmp .ge 42, 3), (.getstatic 85, 3), (.iload_n 3, 1), (.aaload, 1), (.astore 4, 2), (.aload 4, 2), (.iload_n 2, 1), (.invokevirtual 65, 3)]),
  (23, [(.iconst (-1), 1), (.if_icmp .eq 19, 3), (.aload_n 0, 1), (.aload_n 1, 1), (.aload 4, 2), (.getfield 88, 3), (.invokevirtual 92, 3)]),
  (37, [(.ifCond .eq 6, 3), (.aload 4, 2), (.areturn, 1)]),
  (43, [(.iinc 3 1, 3), (.goto (-44), 3)]),
  (49, [(.aconst_null, 1), (.areturn, 1)])]
def tb_X4_isHere : tf_Bk := [(0, [(.aload_n 2, 1), (.invokevirtual 96, 3)]),
  (4, [(.aload_n 0, 1), (.getfield 40, 3), (.aload_n 0, 1), (.getfield 54, 3), (.isub, 1), (.if_icmp .eq 5, 3), (.iconst 0, 1), (.ireturn, 1)]),
  (18, [(.iconst 0, 1), (.istore_n 3, 1)]),
  (20, [(.iload_n 3, 1), (.aload_n 2, 1), (.invokevirtual 96, 3)]),
  (25, [(.if_icmp .ge 30, 3), (.aload_n 2, 1), (.iload_n 3, 1), (.invokevirtual 101, 3)]),
  (33, [(.aload_n 1, 1), (.getfield 77, 3), (.aload_n 0, 1), (.getfield 54, 3), (.iload_n 3, 1), (.iadd, 1), (.caload, 1), (.if_icmp .eq 5, 3), (.iconst 0, 1), (.ireturn, 1)]),
  (49, [(.iinc 3 1, 3), (.goto (-32), 3)]),
  (55, [(.iconst 1, 1), (.ireturn, 1)])]
def tb_X4_numberHere : tf_Bk := [(0, [(.iconst 0, 1), (.istore_n 2, 1), (.aload_n 0, 1), (.getfield 54, 3), (.istore_n 3, 1)]),
  (7, [(.iload_n 3, 1), (.aload_n 0, 1), (.getfield 40, 3), (.if_icmp .ge 24, 3), (.iload_n 2, 1), (.bipush 10, 2), (.imul, 1), (.aload_n 1, 1), (.getfield 77, 3), (.iload_n 3, 1), (.caload, 1), (.iadd, 1), (.bipush 48, 2), (.isub, 1), (.istore_n 2, 1), (.iinc 3 1, 3), (.goto (-26), 3)]),
  (36, [(.iload_n 2, 1), (.ireturn, 1)])]
def tb_X4_number : tf_Bk := [(0, [(.aload_n 0, 1), (.getfield 25, 3), (.iload_n 1, 1), (.iconst 4, 1), (.imul, 1), (.iload_n 2, 1), (.iadd, 1), (.iaload, 1), (.ireturn, 1)])]
def tb_X4_want : tf_Bk := [(0, [(.aload_n 0, 1), (.iload_n 1, 1), (.iload_n 2, 1), (.invokevirtual 105, 3)]),
  (6, [(.istore 6, 2), (.iload 6, 2), (.iload_n 3, 1), (.if_icmp .lt 10, 3), (.iload 6, 2), (.iload 4, 2), (.if_icmp .le 19, 3)]),
  (21, [(.aload_n 0, 1), (.iload 5, 2), (.aload_n 0, 1), (.getfield 28, 3), (.iload_n 1, 1), (.iconst 4, 1), (.imul, 1), (.iload_n 2, 1), (.iadd, 1), (.iaload, 1), (.invokevirtual 57, 3)]),
  (37, [(.return_, 1)])]
def tb_X4_checkGrid : tf_Bk := [(0, [(.iconst 0, 1), (.istore_n 2, 1), (.iconst 0, 1), (.istore_n 3, 1)]),
  (4, [(.iload_n 3, 1), (.aload_n 0, 1), (.getfield 34, 3), (.if_icmp .ge 31, 3), (.aload_n 0, 1), (.iload_n 3, 1), (.iload_n 2, 1), (.invokevirtual 109, 3)]),
  (18, [(.iload_n 2, 1), (.aload_n 0, 1), (.iload_n 3, 1), (.invokevirtual 112, 3)]),
  (24, [(.ifCond .eq 7, 3), (.iconst 1, 1), (.goto 4, 3)]),
  (31, [(.iconst 0, 1)]),
  (32, [(.iadd, 1), (.istore_n 2, 1), (.iinc 3 1, 3), (.goto (-33), 3)]),
  (40, [(.aload_n 0, 1), (.getfield 37, 3), (.ifCond .ne 7, 3), (.aload_n 0, 1), (.invokevirtual 116, 3)]),
  (51, [(.aload_n 0, 1), (.getfield 37, 3), (.ifCond .ne 16, 3), (.aload_n 0, 1), (.invokevirtual 119, 3)]),
  (62, [(.ifCond .eq 9, 3), (.aload_n 0, 1), (.iconst 4, 1), (.iload_n 1, 1), (.invokevirtual 57, 3)]),
  (71, [(.return_, 1)])]
def tb_X4_checkGridLine : tf_Bk := [(0, [(.getstatic 122, 3), (.aload_n 0, 1), (.getfield 17, 3), (.iload_n 1, 1), (.aaload, 1), (.invokevirtual 127, 3)]),
  (12, [(.iaload, 1), (.tableswitch 149 1 6 #[39, 52, 52, 122, 122, 135], 39)]),
  (52, [(.aload_n 0, 1), (.iload_n 1, 1), (.iconst 0, 1), (.iconst 2, 1), (.bipush 7, 2), (.iconst 2, 1), (.invokevirtual 130, 3)]),
  (62, [(.goto 100, 3)]),
  (65, [(.iload_n 2, 1), (.bipush 14, 2), (.if_icmp .ne 14, 3), (.aload_n 0, 1), (.iconst 2, 1), (.aload_n 0, 1), (.getfield 21, 3), (.iload_n 1, 1), (.iaload, 1), (.invokevirtual 57, 3)]),
  (82, [(.aload_n 0, 1), (.iload_n 1, 1), (.iconst 0, 1), (.iconst 0, 1), (.bipush 6, 2), (.iconst 2, 1), (.invokevirtual 130, 3)]),
  (92, [(.aload_n 0, 1), (.iload_n 1, 1), (.iconst 1, 1), (.iconst 0, 1), (.bipush 6, 2), (.iconst 2, 1), (.invokevirtual 130, 3)]),
  (102, [(.aload_n 0, 1), (.iload_n 1, 1), (.iconst 0, 1), (.invokevirtual 105, 3)]),
  (108, [(.aload_n 0, 1), (.iload_n 1, 1), (.iconst 1, 1), (.invokevirtual 105, 3)]),
  (114, [(.if_icmp .ne 48, 3), (.aload_n 0, 1), (.iconst 2, 1), (.aload_n 0, 1), (.getfield 28, 3), (.iload_n 1, 1), (.iconst 4, 1), (.imul, 1), (.iconst 1, 1), (.iadd, 1), (.iaload, 1), (.invokevirtual 57, 3)]),
  (132, [(.goto 30, 3)]),
  (135, [(.aload_n 0, 1), (.iload_n 1, 1), (.iconst 0, 1), (.iconst 0, 1), (.bipush 6, 2), (.iconst 2, 1), (.invokevirtual 130, 3)]),
  (145, [(.goto 17, 3)]),
  (148, [(.aload_n 0, 1), (.iload_n 1, 1), (.iconst 0, 1), (.iconst 0, 1), (.iload_n 2, 1), (.iconst 1, 1), (.isub, 1), (.iconst 2, 1), (.invokevirtual 130, 3)]),
  (159, [(.goto 3, 3)]),
  (162, [(.return_, 1)])]
def tb_X4_checkPointsThere : tf_Bk := [(0, [(.aload_n 0, 1), (.invokevirtual 134, 3)]),
  (4, [(.iconst 1, 1), (.isub, 1), (.istore_n 1, 1), (.iconst 0, 1), (.istore_n 2, 1)]),
  (9, [(.iload_n 2, 1), (.aload_n 0, 1), (.getfield 34, 3), (.if_icmp .ge 71, 3), (.aload_n 0, 1), (.iload_n 2, 1), (.invokevirtual 112, 3)]),
  (22, [(.ifCond .eq 24, 3), (.aload_n 0, 1), (.iload_n 2, 1), (.iconst 0, 1), (.iconst 0, 1), (.iload_n 1, 1), (.iconst 3, 1), (.invokevirtual 130, 3)]),
  (34, [(.aload_n 0, 1), (.iload_n 2, 1), (.iconst 1, 1), (.iconst 0, 1), (.iload_n 1, 1), (.iconst 3, 1), (.invokevirtual 130, 3)]),
  (43, [(.goto 36, 3)]),
  (46, [(.aload_n 0, 1), (.getfield 17, 3), (.iload_n 2, 1), (.aaload, 1), (.getstatic 137, 3), (.if_acmp .eq 15, 3), (.aload_n 0, 1), (.getfield 17, 3), (.iload_n 2, 1), (.aaload, 1), (.getstatic 141, 3), (.if_acmp .ne 12, 3)]),
  (70, [(.aload_n 0, 1), (.iload_n 2, 1), (.iconst 0, 1), (.iconst 0, 1), (.iload_n 1, 1), (.iconst 3, 1), (.invokevirtual 130, 3)]),
  (79, [(.iinc 2 1, 3), (.goto (-73), 3)]),
  (85, [(.return_, 1)])]
def tb_X4_isArc : tf_Bk := [(0, [(.aload_n 0, 1), (.getfield 17, 3), (.iload_n 1, 1), (.aaload, 1), (.getstatic 144, 3), (.if_acmp .eq 15, 3), (.aload_n 0, 1), (.getfield 17, 3), (.iload_n 1, 1), (.aaload, 1), (.getstatic 147, 3), (.if_acmp .ne 7, 3)]),
  (24, [(.iconst 1, 1), (.goto 4, 3)]),
  (28, [(.iconst 0, 1)]),
  (29, [(.ireturn, 1)])]
def tb_X4_pointsTold : tf_Bk := [(0, [(.iconst 2, 1), (.istore_n 1, 1), (.iconst 0, 1), (.istore_n 2, 1)]),
  (4, [(.iload_n 2, 1), (.aload_n 0, 1), (.getfield 34, 3), (.if_icmp .ge 28, 3), (.aload_n 0, 1), (.getfield 17, 3), (.iload_n 2, 1), (.aaload, 1), (.getstatic 150, 3), (.if_acmp .ne 10, 3), (.aload_n 0, 1), (.iload_n 2, 1), (.iconst 0, 1), (.invokevirtual 105, 3)]),
  (30, [(.istore_n 1, 1)]),
  (31, [(.iinc 2 1, 3), (.goto (-30), 3)]),
  (37, [(.iload_n 1, 1), (.ireturn, 1)])]
def tb_X4_sumOfSupplies : tf_Bk := [(0, [(.iconst 0, 1), (.istore_n 1, 1)]),
  (2, [(.iload_n 1, 1), (.bipush 7, 2), (.if_icmp .ge 16, 3), (.aload_n 0, 1), (.getfield 31, 3), (.iload_n 1, 1), (.iconst 0, 1), (.iastore, 1), (.iinc 1 1, 3), (.goto (-16), 3)]),
  (21, [(.iconst 0, 1), (.istore_n 1, 1)]),
  (23, [(.iload_n 1, 1), (.aload_n 0, 1), (.getfield 34, 3), (.if_icmp .ge 71, 3), (.aload_n 0, 1), (.getfield 17, 3), (.iload_n 1, 1), (.aaload, 1), (.getstatic 137, 3), (.if_acmp .ne 23, 3), (.aload_n 0, 1), (.getfield 31, 3), (.aload_n 0, 1), (.iload_n 1, 1), (.iconst 0, 1), (.invokevirtual 105, 3)]),
  (53, [(.aload_n 0, 1), (.iload_n 1, 1), (.iconst 1, 1), (.invokevirtual 105, 3)]),
  (59, [(.iastore, 1), (.goto 33, 3)]),
  (63, [(.aload_n 0, 1), (.getfield 17, 3), (.iload_n 1, 1), (.aaload, 1), (.getstatic 141, 3), (.if_acmp .ne 21, 3), (.aload_n 0, 1), (.getfield 31, 3), (.aload_n 0, 1), (.iload_n 1, 1), (.iconst 0, 1), (.invokevirtual 105, 3)]),
  (85, [(.aload_n 0, 1), (.iload_n 1, 1), (.iconst 1, 1), (.invokevirtual 105, 3)]),
  (91, [(.ineg, 1), (.iastore, 1)]),
  (93, [(.iinc 1 1, 3), (.goto (-73), 3)]),
  (99, [(.iconst 0, 1), (.istore_n 1, 1), (.iconst 0, 1), (.istore_n 2, 1)]),
  (103, [(.iload_n 2, 1), (.bipush 7, 2), (.if_icmp .ge 18, 3), (.iload_n 1, 1), (.aload_n 0, 1), (.getfield 31, 3), (.iload_n 2, 1), (.iaload, 1), (.iadd, 1), (.istore_n 1, 1), (.iinc 2 1, 3), (.goto (-18), 3)]),
  (124, [(.iload_n 1, 1), (.ireturn, 1)])]
def tb_X4_checkOrders : tf_Bk := [(0, [(.iconst 0, 1), (.istore_n 1, 1)]),
  (2, [(.iload_n 1, 1), (.aload_n 0, 1), (.getfield 34, 3), (.if_icmp .ge 130, 3), (.getstatic 122, 3), (.aload_n 0, 1), (.getfield 17, 3), (.iload_n 1, 1), (.aaload, 1), (.invokevirtual 127, 3)]),
  (22, [(.iaload, 1), (.tableswitch 108 3 11 #[95, 108, 108, 95, 49, 62, 95, 95, 95], 49)]),
  (72, [(.aload_n 0, 1), (.iload_n 1, 1), (.iconst 0, 1), (.iconst 1, 1), (.bipush 60, 2), (.iconst 2, 1), (.invokevirtual 130, 3)]),
  (82, [(.goto 49, 3)]),
  (85, [(.aload_n 0, 1), (.iload_n 1, 1), (.iconst 0, 1), (.iconst 0, 1), (.bipush 6, 2), (.iconst 2, 1), (.invokevirtual 130, 3)]),
  (95, [(.aload_n 0, 1), (.iload_n 1, 1), (.iconst 1, 1), (.iconst 0, 1), (.bipush 6, 2), (.iconst 2, 1), (.invokevirtual 130, 3)]),
  (105, [(.aload_n 0, 1), (.iload_n 1, 1), (.iconst 2, 1), (.iconst 1, 1), (.bipush 99, 2), (.iconst 2, 1), (.invokevirtual 130, 3)]),
  (115, [(.goto 16, 3)]),
  (118, [(.aload_n 0, 1), (.iload_n 1, 1), (.iconst 0, 1), (.iconst 0, 1), (.bipush 13, 2), (.iconst 2, 1), (.invokevirtual 130, 3)]),
  (128, [(.goto 3, 3)]),
  (131, [(.iinc 1 1, 3), (.goto (-132), 3)]),
  (137, [(.return_, 1)])]
def tb_X4_fill : tf_Bk := [(0, [(.aload_n 1, 1), (.aload_n 0, 1), (.invokevirtual 134, 3)]),
  (5, [(.invokevirtual 153, 3)]),
  (8, [(.iconst 0, 1), (.istore_n 2, 1)]),
  (10, [(.iload_n 2, 1), (.aload_n 1, 1), (.getfield 159, 3), (.if_icmp .ge 21, 3), (.aload_n 1, 1), (.getfield 162, 3), (.iload_n 2, 1), (.aload_n 0, 1), (.getfield 31, 3), (.iload_n 2, 1), (.iaload, 1), (.iastore, 1), (.iinc 2 1, 3), (.goto (-23), 3)]),
  (36, [(.iconst 0, 1), (.istore_n 2, 1)]),
  (38, [(.iload_n 2, 1), (.aload_n 0, 1), (.getfield 34, 3), (.if_icmp .ge 15, 3), (.aload_n 0, 1), (.iload_n 2, 1), (.aload_n 1, 1), (.invokevirtual 165, 3)]),
  (52, [(.iinc 2 1, 3), (.goto (-17), 3)]),
  (58, [(.return_, 1)])]
def tb_X4_fillLine : tf_Bk := [(0, [(.getstatic 122, 3), (.aload_n 0, 1), (.getfield 17, 3), (.iload_n 1, 1), (.aaload, 1), (.invokevirtual 127, 3)]),
  (12, [(.iaload, 1), (.tableswitch 169 2 14 #[67, 98, 169, 169, 130, 169, 169, 169, 169, 169, 145, 153, 161], 67)]),
  (80, [(.aload_n 2, 1), (.aload_n 0, 1), (.iload_n 1, 1), (.iconst 0, 1), (.invokevirtual 105, 3)]),
  (87, [(.aload_n 0, 1), (.iload_n 1, 1), (.iconst 1, 1), (.invokevirtual 105, 3)]),
  (93, [(.aload_n 0, 1), (.iload_n 1, 1), (.iconst 2, 1), (.invokevirtual 105, 3)]),
  (99, [(.aload_n 0, 1), (.iload_n 1, 1), (.iconst 3, 1), (.invokevirtual 105, 3)]),
  (105, [(.invokevirtual 169, 3)]),
  (108, [(.goto 74, 3)]),
  (111, [(.aload_n 2, 1), (.aload_n 0, 1), (.iload_n 1, 1), (.iconst 0, 1), (.invokevirtual 105, 3)]),
  (118, [(.aload_n 0, 1), (.iload_n 1, 1), (.iconst 1, 1), (.invokevirtual 105, 3)]),
  (124, [(.aload_n 0, 1), (.iload_n 1, 1), (.iconst 2, 1), (.invokevirtual 105, 3)]),
  (130, [(.aload_n 0, 1), (.iload_n 1, 1), (.iconst 3, 1), (.invokevirtual 105, 3)]),
  (136, [(.ineg, 1), (.invokevirtual 169, 3)]),
  (140, [(.goto 42, 3)]),
  (143, [(.aload_n 2, 1), (.getfield 173, 3), (.aload_n 0, 1), (.iload_n 1, 1), (.iconst 0, 1), (.invokevirtual 105, 3)]),
  (153, [(.iconst 3, 1), (.iastore, 1), (.goto 27, 3)]),
  (158, [(.aload_n 2, 1), (.iconst 0, 1), (.putfield 176, 3), (.goto 19, 3)]),
  (166, [(.aload_n 2, 1), (.iconst 1, 1), (.putfield 176, 3), (.goto 11, 3)]),
  (174, [(.aload_n 2, 1), (.iconst 2, 1), (.putfield 176, 3), (.goto 3, 3)]),
  (182, [(.return_, 1)])]
def tb_X4_obey : tf_Bk := [(0, [(.getstatic 122, 3), (.aload_n 0, 1), (.getfield 17, 3), (.iload_n 1, 1), (.aaload, 1), (.invokevirtual 127, 3)]),
  (12, [(.iaload, 1), (.tableswitch 215 3 15 #[172, 215, 215, 114, 67, 91, 126, 138, 155, 197, 203, 209, 190], 67)]),
  (80, [(.aload_n 3, 1), (.aload_n 2, 1), (.aload_n 2, 1), (.getfield 176, 3), (.aload_n 0, 1), (.iload_n 1, 1), (.iconst 0, 1), (.invokevirtual 105, 3)]),
  (92, [(.invokevirtual 179, 3)]),
  (95, [(.ifCond .le 7, 3), (.iconst 1, 1), (.goto 4, 3)]),
  (102, [(.iconst 0, 1)]),
  (103, [(.ireturn, 1)]),
  (104, [(.aload_n 2, 1), (.aload_n 0, 1), (.iload_n 1, 1), (.iconst 0, 1), (.invokevirtual 105, 3)]),
  (111, [(.aload_n 0, 1), (.iload_n 1, 1), (.iconst 1, 1), (.invokevirtual 105, 3)]),
  (117, [(.aload_n 0, 1), (.iload_n 1, 1), (.iconst 2, 1), (.invokevirtual 105, 3)]),
  (123, [(.invokevirtual 185, 3)]),
  (126, [(.ireturn, 1)]),
  (127, [(.aload_n 2, 1), (.aload_n 0, 1), (.iload_n 1, 1), (.iconst 0, 1), (.invokevirtual 105, 3)]),
  (134, [(.iconst 0, 1), (.invokevirtual 189, 3)]),
  (138, [(.ireturn, 1)]),
  (139, [(.aload_n 2, 1), (.aload_n 0, 1), (.iload_n 1, 1), (.iconst 0, 1), (.invokevirtual 105, 3)]),
  (146, [(.iconst 1, 1), (.invokevirtual 189, 3)]),
  (150, [(.ireturn, 1)]),
  (151, [(.aload_n 2, 1), (.aload_n 0, 1), (.iload_n 1, 1), (.iconst 0, 1), (.invokevirtual 105, 3)]),
  (158, [(.aload_n 0, 1), (.iload_n 1, 1), (.iconst 1, 1), (.invokevirtual 105, 3)]),
  (164, [(.invokevirtual 193, 3)]),
  (167, [(.ireturn, 1)]),
  (168, [(.aload_n 2, 1), (.aload_n 0, 1), (.iload_n 1, 1), (.iconst 0, 1), (.invokevirtual 105, 3)]),
  (175, [(.aload_n 0, 1), (.iload_n 1, 1), (.iconst 1, 1), (.invokevirtual 105, 3)]),
  (181, [(.invokevirtual 197, 3)]),
  (184, [(.ireturn, 1)]),
  (185, [(.aload_n 2, 1), (.aload_n 0, 1), (.iload_n 1, 1), (.iconst 0, 1), (.invokevirtual 105, 3)]),
  (192, [(.aload_n 0, 1), (.iload_n 1, 1), (.iconst 1, 1), (.invokevirtual 105, 3)]),
  (198, [(.ineg, 1), (.invokevirtual 197, 3)]),
  (202, [(.ireturn, 1)]),
  (203, [(.aload_n 2, 1), (.iconst 0, 1), (.invokevirtual 200, 3)]),
  (208, [(.iconst 1, 1), (.ireturn, 1)]),
  (210, [(.aload_n 2, 1), (.iconst 0, 1), (.invokevirtual 204, 3)]),
  (215, [(.ireturn, 1)]),
  (216, [(.aload_n 2, 1), (.iconst 1, 1), (.invokevirtual 204, 3)]),
  (221, [(.ireturn, 1)]),
  (222, [(.aload_n 2, 1), (.iconst 2, 1), (.invokevirtual 204, 3)]),
  (227, [(.ireturn, 1)]),
  (228, [(.iconst 0, 1), (.ireturn, 1)])]
def tb_X7_numbers : tf_Bk := [(0, [(.iload_n 1, 1), (.ifCond .eq 10, 3), (.aload_n 0, 1), (.getfield 78, 3), (.goto 7, 3)]),
  (11, [(.aload_n 0, 1), (.getfield 74, 3)]),
  (15, [(.ireturn, 1)])]
def tb_J6_bitCount_0f7a4 : tf_Bk := [(0, [(.iload_n 0, 1), (.iload_n 0, 1), (.iconst 1, 1), (.iushr, 1), (.ldc_w 265, 3), (.iand, 1), (.isub, 1), (.istore_n 0, 1), (.iload_n 0, 1), (.ldc_w 266, 3), (.iand, 1), (.iload_n 0, 1), (.iconst 2, 1), (.iushr, 1), (.ldc_w 266, 3), (.iand, 1), (.iadd, 1), (.istore_n 0, 1), (.iload_n 0, 1), (.iload_n 0, 1), (.iconst 4, 1), (.iushr, 1), (.iadd, 1), (.ldc_w 267, 3), (.iand, 1), (.istore_n 0, 1), (.iload_n 0, 1), (.iload_n 0, 1), (.bipush 8, 2), (.iushr, 1), (.iadd, 1), (.istore_n 0, 1), (.iload_n 0, 1), (.iload_n 0, 1), (.bipush 16, 2), (.iushr, 1), (.iadd, 1), (.istore_n 0, 1), (.iload_n 0, 1), (.bipush 63, 2), (.iand, 1), (.ireturn, 1)])]
end
section
/-! ===== each block is what the bytes decode to ===== -/
theorem ck_X9_in : tf_Bck cX9_in 3 tb_X9_in = true := by decide +kernel
theorem ck_X9_lesser : tf_Bck cX9_lesser 2 tb_X9_lesser = true := by decide +kernel
theorem ck_X9_greater : tf_Bck cX9_greater 2 tb_X9_greater = true := by decide +kernel
theorem ck_X9_of : tf_Bck cX9_of 3 tb_X9_of = true := by decide +kernel
theorem ck_X9_puts : tf_Bck cX9_puts 4 tb_X9_puts = true := by decide +kernel
theorem ck_X9_isArc : tf_Bck cX9_isArc 2 tb_X9_isArc = true := by decide +kernel
theorem ck_X9_isPoint : tf_Bck cX9_isPoint 2 tb_X9_isPoint = true := by decide +kernel
theorem ck_X9_areTwo : tf_Bck cX9_areTwo 3 tb_X9_areTwo = true := by decide +kernel
theorem ck_X9_spell : tf_Bck cX9_spell 5 tb_X9_spell = true := by decide +kernel
theorem ck_X9_see : tf_Bck cX9_see 1 tb_X9_see = true := by decide +kernel
theorem ck_X9_token : tf_Bck cX9_token 3 tb_X9_token = true := by decide +kernel
theorem ck_X9_fails : tf_Bck cX9_fails 1 tb_X9_fails = true := by decide +kernel
theorem ck_X9_isBad : tf_Bck cX9_isBad 2 tb_X9_isBad = true := by decide +kernel
theorem ck_X9_takes : tf_Bck cX9_takes 4 tb_X9_takes = true := by decide +kernel
theorem ck_X9_atFirst : tf_Bck cX9_atFirst 2 tb_X9_atFirst = true := by decide +kernel
theorem ck_X9_takesPoint : tf_Bck cX9_takesPoint 4 tb_X9_takesPoint = true := by decide +kernel
theorem ck_X9_arcLine : tf_Bck cX9_arcLine 3 tb_X9_arcLine = true := by decide +kernel
theorem ck_X9_ruleBy : tf_Bck cX9_ruleBy 2 tb_X9_ruleBy = true := by decide +kernel
theorem ck_X9_gridLine : tf_Bck cX9_gridLine 4 tb_X9_gridLine = true := by decide +kernel
theorem ck_X9_orderLine : tf_Bck cX9_orderLine 8 tb_X9_orderLine = true := by decide +kernel
theorem ck_X9_allLines : tf_Bck cX9_allLines 5 tb_X9_allLines = true := by decide +kernel
theorem ck_X9_missing : tf_Bck cX9_missing 3 tb_X9_missing = true := by decide +kernel
theorem ck_X9_isFaulty : tf_Bck cX9_isFaulty 3 tb_X9_isFaulty = true := by decide +kernel
theorem ck_X9_taken : tf_Bck cX9_taken 2 tb_X9_taken = true := by decide +kernel
theorem ck_X9_lay : tf_Bck cX9_lay 4 tb_X9_lay = true := by decide +kernel
theorem ck_X9_fault : tf_Bck cX9_fault 2 tb_X9_fault = true := by decide +kernel
theorem ck_X9_root : tf_Bck cX9_root 1 tb_X9_root = true := by decide +kernel
theorem ck_X9_isLoan : tf_Bck cX9_isLoan 1 tb_X9_isLoan = true := by decide +kernel
theorem ck_X9_hangs : tf_Bck cX9_hangs 2 tb_X9_hangs = true := by decide +kernel
theorem ck_X9_settles : tf_Bck cX9_settles 5 tb_X9_settles = true := by decide +kernel
theorem ck_X9_laysTree : tf_Bck cX9_laysTree 5 tb_X9_laysTree = true := by decide +kernel
theorem ck_X9_reduced : tf_Bck cX9_reduced 2 tb_X9_reduced = true := by decide +kernel
theorem ck_X9_offers : tf_Bck cX9_offers 3 tb_X9_offers = true := by decide +kernel
theorem ck_X9_isBest : tf_Bck cX9_isBest 1 tb_X9_isBest = true := by decide +kernel
theorem ck_X9_offerMany : tf_Bck cX9_offerMany 3 tb_X9_offerMany = true := by decide +kernel
theorem ck_X9_farOf : tf_Bck cX9_farOf 3 tb_X9_farOf = true := by decide +kernel
theorem ck_X9_enters : tf_Bck cX9_enters 5 tb_X9_enters = true := by decide +kernel
theorem ck_X9_isAlong : tf_Bck cX9_isAlong 3 tb_X9_isAlong = true := by decide +kernel
theorem ck_X9_addsStep : tf_Bck cX9_addsStep 3 tb_X9_addsStep = true := by decide +kernel
theorem ck_X9_meets : tf_Bck cX9_meets 5 tb_X9_meets = true := by decide +kernel
theorem ck_X9_goesDown : tf_Bck cX9_goesDown 7 tb_X9_goesDown = true := by decide +kernel
theorem ck_X9_goesUp : tf_Bck cX9_goesUp 4 tb_X9_goesUp = true := by decide +kernel
theorem ck_X9_roomOf : tf_Bck cX9_roomOf 3 tb_X9_roomOf = true := by decide +kernel
theorem ck_X9_leastRoom : tf_Bck cX9_leastRoom 3 tb_X9_leastRoom = true := by decide +kernel
theorem ck_X9_laysCycle : tf_Bck cX9_laysCycle 5 tb_X9_laysCycle = true := by decide +kernel
theorem ck_X9_leaves : tf_Bck cX9_leaves 4 tb_X9_leaves = true := by decide +kernel
theorem ck_X9_flows : tf_Bck cX9_flows 5 tb_X9_flows = true := by decide +kernel
theorem ck_X9_goesOut : tf_Bck cX9_goesOut 2 tb_X9_goesOut = true := by decide +kernel
theorem ck_X9_isPast : tf_Bck cX9_isPast 5 tb_X9_isPast = true := by decide +kernel
theorem ck_X9_turns : tf_Bck cX9_turns 4 tb_X9_turns = true := by decide +kernel
theorem ck_X9_pivotsTill : tf_Bck cX9_pivotsTill 3 tb_X9_pivotsTill = true := by decide +kernel
theorem ck_X9_begins : tf_Bck cX9_begins 5 tb_X9_begins = true := by decide +kernel
theorem ck_X9_beginsAgain : tf_Bck cX9_beginsAgain 2 tb_X9_beginsAgain = true := by decide +kernel
theorem ck_X9_keeps : tf_Bck cX9_keeps 3 tb_X9_keeps = true := by decide +kernel
theorem ck_X9_pivot : tf_Bck cX9_pivot 1 tb_X9_pivot = true := by decide +kernel
theorem ck_X9_pivots : tf_Bck cX9_pivots 2 tb_X9_pivots = true := by decide +kernel
theorem ck_X9_rule : tf_Bck cX9_rule 2 tb_X9_rule = true := by decide +kernel
theorem ck_X9_canShift : tf_Bck cX9_canShift 4 tb_X9_canShift = true := by decide +kernel
theorem ck_X9_shifts : tf_Bck cX9_shifts 4 tb_X9_shifts = true := by decide +kernel
theorem ck_X9_shift : tf_Bck cX9_shift 4 tb_X9_shift = true := by decide +kernel
theorem ck_X9_canBe : tf_Bck cX9_canBe 5 tb_X9_canBe = true := by decide +kernel
theorem ck_X9_becomes : tf_Bck cX9_becomes 4 tb_X9_becomes = true := by decide +kernel
theorem ck_X9_tells : tf_Bck cX9_tells 5 tb_X9_tells = true := by decide +kernel
theorem ck_X9_block : tf_Bck cX9_block 3 tb_X9_block = true := by decide +kernel
theorem ck_X9_widen : tf_Bck cX9_widen 3 tb_X9_widen = true := by decide +kernel
theorem ck_X9_charge : tf_Bck cX9_charge 3 tb_X9_charge = true := by decide +kernel
theorem ck_X9_cold : tf_Bck cX9_cold 1 tb_X9_cold = true := by decide +kernel
theorem ck_X9_isDoneArc : tf_Bck cX9_isDoneArc 6 tb_X9_isDoneArc = true := by decide +kernel
theorem ck_X9_isDone : tf_Bck cX9_isDone 7 tb_X9_isDone = true := by decide +kernel
theorem ck_X9_work : tf_Bck cX9_work 3 tb_X9_work = true := by decide +kernel
theorem ck_X9_undo : tf_Bck cX9_undo 2 tb_X9_undo = true := by decide +kernel
theorem ck_X9_unmet : tf_Bck cX9_unmet 3 tb_X9_unmet = true := by decide +kernel
theorem ck_X9_grid : tf_Bck cX9_grid 2 tb_X9_grid = true := by decide +kernel
theorem ck_X9_arc : tf_Bck cX9_arc 3 tb_X9_arc = true := by decide +kernel
theorem ck_X9_below : tf_Bck cX9_below 5 tb_X9_below = true := by decide +kernel
theorem ck_X9_point : tf_Bck cX9_point 3 tb_X9_point = true := by decide +kernel
theorem ck_X9_childOf : tf_Bck cX9_childOf 4 tb_X9_childOf = true := by decide +kernel
theorem ck_X9_thread : tf_Bck cX9_thread 5 tb_X9_thread = true := by decide +kernel
theorem ck_X9_costOfCycle : tf_Bck cX9_costOfCycle 4 tb_X9_costOfCycle = true := by decide +kernel
theorem ck_X9_path : tf_Bck cX9_path 5 tb_X9_path = true := by decide +kernel
theorem ck_X9_next : tf_Bck cX9_next 4 tb_X9_next = true := by decide +kernel
theorem ck_X9_past : tf_Bck cX9_past 3 tb_X9_past = true := by decide +kernel
theorem ck_X9_billed : tf_Bck cX9_billed 3 tb_X9_billed = true := by decide +kernel
theorem ck_X9_bill : tf_Bck cX9_bill 4 tb_X9_bill = true := by decide +kernel
theorem ck_X9_flowAt : tf_Bck cX9_flowAt 4 tb_X9_flowAt = true := by decide +kernel
theorem ck_X9_ledger : tf_Bck cX9_ledger 5 tb_X9_ledger = true := by decide +kernel
theorem ck_X9_wide : tf_Bck cX9_wide 6 tb_X9_wide = true := by decide +kernel
theorem ck_X9_outOf : tf_Bck cX9_outOf 3 tb_X9_outOf = true := by decide +kernel
theorem ck_X9_startOf : tf_Bck cX9_startOf 5 tb_X9_startOf = true := by decide +kernel
theorem ck_X9_stopAt : tf_Bck cX9_stopAt 4 tb_X9_stopAt = true := by decide +kernel
theorem ck_X9_goesTrip : tf_Bck cX9_goesTrip 7 tb_X9_goesTrip = true := by decide +kernel
theorem ck_X9_trip : tf_Bck cX9_trip 5 tb_X9_trip = true := by decide +kernel
theorem ck_X9_flowIn : tf_Bck cX9_flowIn 4 tb_X9_flowIn = true := by decide +kernel
theorem ck_X9_apart : tf_Bck cX9_apart 4 tb_X9_apart = true := by decide +kernel
theorem ck_X9_span : tf_Bck cX9_span 7 tb_X9_span = true := by decide +kernel
theorem ck_X9_asNow : tf_Bck cX9_asNow 2 tb_X9_asNow = true := by decide +kernel
theorem ck_X9_relaxes : tf_Bck cX9_relaxes 7 tb_X9_relaxes = true := by decide +kernel
theorem ck_X9_laysCheapest : tf_Bck cX9_laysCheapest 4 tb_X9_laysCheapest = true := by decide +kernel
theorem ck_X9_wanting : tf_Bck cX9_wanting 3 tb_X9_wanting = true := by decide +kernel
theorem ck_X9_backBy : tf_Bck cX9_backBy 2 tb_X9_backBy = true := by decide +kernel
theorem ck_X9_sendsTo : tf_Bck cX9_sendsTo 5 tb_X9_sendsTo = true := by decide +kernel
theorem ck_X9_carries : tf_Bck cX9_carries 3 tb_X9_carries = true := by decide +kernel
theorem ck_X9_cheapestCost : tf_Bck cX9_cheapestCost 3 tb_X9_cheapestCost = true := by decide +kernel
theorem ck_X9_least : tf_Bck cX9_least 1 tb_X9_least = true := by decide +kernel
theorem ck_X9_lessThan : tf_Bck cX9_lessThan 3 tb_X9_lessThan = true := by decide +kernel
theorem ck_X9_worth : tf_Bck cX9_worth 4 tb_X9_worth = true := by decide +kernel
theorem ck_X9_toll : tf_Bck cX9_toll 4 tb_X9_toll = true := by decide +kernel
theorem ck_X9_bothOf : tf_Bck cX9_bothOf 5 tb_X9_bothOf = true := by decide +kernel
theorem ck_X9_ones : tf_Bck cX9_ones 3 tb_X9_ones = true := by decide +kernel
theorem ck_X9_cut : tf_Bck cX9_cut 4 tb_X9_cut = true := by decide +kernel
theorem ck_X9_lack : tf_Bck cX9_lack 3 tb_X9_lack = true := by decide +kernel
theorem ck_X9_steps : tf_Bck cX9_steps 3 tb_X9_steps = true := by decide +kernel
theorem ck_X9_copies : tf_Bck cX9_copies 4 tb_X9_copies = true := by decide +kernel
theorem ck_X9_copiesText : tf_Bck cX9_copiesText 4 tb_X9_copiesText = true := by decide +kernel
theorem ck_X9_image : tf_Bck cX9_image 2 tb_X9_image = true := by decide +kernel
theorem ck_X9_again : tf_Bck cX9_again 2 tb_X9_again = true := by decide +kernel
end
section
/-! ===== each block is what the bytes decode to ===== -/
theorem ck_X1_copyFrom : tf_Bck cX1_copyFrom 2 tb_X1_copyFrom = true := by decide +kernel
theorem ck_X1_clear : tf_Bck cX1_clear 3 tb_X1_clear = true := by decide +kernel
theorem ck_X1_addArc : tf_Bck cX1_addArc 5 tb_X1_addArc = true := by decide +kernel
theorem ck_X1_hasArc : tf_Bck cX1_hasArc 2 tb_X1_hasArc = true := by decide +kernel
theorem ck_X1_hasPoint : tf_Bck cX1_hasPoint 2 tb_X1_hasPoint = true := by decide +kernel
theorem ck_X1_hasTwoPoints : tf_Bck cX1_hasTwoPoints 3 tb_X1_hasTwoPoints = true := by decide +kernel
theorem ck_X1_toldNode : tf_Bck cX1_toldNode 2 tb_X1_toldNode = true := by decide +kernel
theorem ck_X1_setRule : tf_Bck cX1_setRule 2 tb_X1_setRule = true := by decide +kernel
theorem ck_X1_moveSupply : tf_Bck cX1_moveSupply 4 tb_X1_moveSupply = true := by decide +kernel
theorem ck_X1_setOpen : tf_Bck cX1_setOpen 3 tb_X1_setOpen = true := by decide +kernel
theorem ck_X1_setBound : tf_Bck cX1_setBound 3 tb_X1_setBound = true := by decide +kernel
theorem ck_X1_setCost : tf_Bck cX1_setCost 3 tb_X1_setCost = true := by decide +kernel
theorem ck_X1_begin : tf_Bck cX1_begin 4 tb_X1_begin = true := by decide +kernel
theorem ck_X1_hangByLoan : tf_Bck cX1_hangByLoan 4 tb_X1_hangByLoan = true := by decide +kernel
theorem ck_X1_setPrices : tf_Bck cX1_setPrices 6 tb_X1_setPrices = true := by decide +kernel
theorem ck_X1_reduced : tf_Bck cX1_reduced 2 tb_X1_reduced = true := by decide +kernel
theorem ck_X1_mayOffer : tf_Bck cX1_mayOffer 2 tb_X1_mayOffer = true := by decide +kernel
theorem ck_X1_offer : tf_Bck cX1_offer 2 tb_X1_offer = true := by decide +kernel
theorem ck_X1_countOffers : tf_Bck cX1_countOffers 3 tb_X1_countOffers = true := by decide +kernel
theorem ck_X1_pick : tf_Bck cX1_pick 8 tb_X1_pick = true := by decide +kernel
theorem ck_X1_room : tf_Bck cX1_room 3 tb_X1_room = true := by decide +kernel
theorem ck_X1_hasOnWay : tf_Bck cX1_hasOnWay 5 tb_X1_hasOnWay = true := by decide +kernel
theorem ck_X1_depth : tf_Bck cX1_depth 4 tb_X1_depth = true := by decide +kernel
theorem ck_X1_countBelow : tf_Bck cX1_countBelow 4 tb_X1_countBelow = true := by decide +kernel
theorem ck_X1_loanFlow : tf_Bck cX1_loanFlow 3 tb_X1_loanFlow = true := by decide +kernel
theorem ck_X1_childBehind : tf_Bck cX1_childBehind 4 tb_X1_childBehind = true := by decide +kernel
theorem ck_X1_threadBehind : tf_Bck cX1_threadBehind 5 tb_X1_threadBehind = true := by decide +kernel
theorem ck_X1_rehang : tf_Bck cX1_rehang 11 tb_X1_rehang = true := by decide +kernel
theorem ck_X1_unmet : tf_Bck cX1_unmet 3 tb_X1_unmet = true := by decide +kernel
theorem ck_X1_spent : tf_Bck cX1_spent 3 tb_X1_spent = true := by decide +kernel
theorem ck_X1_flowingCostAbove : tf_Bck cX1_flowingCostAbove 4 tb_X1_flowingCostAbove = true := by decide +kernel
theorem ck_X1_flowAtCost : tf_Bck cX1_flowAtCost 4 tb_X1_flowAtCost = true := by decide +kernel
theorem ck_X1_countApart : tf_Bck cX1_countApart 6 tb_X1_countApart = true := by decide +kernel
theorem ck_X1_spread : tf_Bck cX1_spread 5 tb_X1_spread = true := by decide +kernel
theorem ck_X1_shortOf : tf_Bck cX1_shortOf 4 tb_X1_shortOf = true := by decide +kernel
theorem ck_X1_worstSet : tf_Bck cX1_worstSet 6 tb_X1_worstSet = true := by decide +kernel
theorem ck_X1_lowestCost : tf_Bck cX1_lowestCost 5 tb_X1_lowestCost = true := by decide +kernel
theorem ck_X1_highestCost : tf_Bck cX1_highestCost 5 tb_X1_highestCost = true := by decide +kernel
theorem ck_X1_slope : tf_Bck cX1_slope 7 tb_X1_slope = true := by decide +kernel
theorem ck_X2_put : tf_Bck cX2_put 2 tb_X2_put = true := by decide +kernel
theorem ck_X2_copyFrom : tf_Bck cX2_copyFrom 2 tb_X2_copyFrom = true := by decide +kernel
theorem ck_X3_way : tf_Bck cX3_way 4 tb_X3_way = true := by decide +kernel
theorem ck_X3_cycle : tf_Bck cX3_cycle 7 tb_X3_cycle = true := by decide +kernel
theorem ck_X3_step : tf_Bck cX3_step 5 tb_X3_step = true := by decide +kernel
theorem ck_X3_run : tf_Bck cX3_run 5 tb_X3_run = true := by decide +kernel
theorem ck_X3_leaving : tf_Bck cX3_leaving 1 tb_X3_leaving = true := by decide +kernel
theorem ck_X3_leastRoom : tf_Bck cX3_leastRoom 4 tb_X3_leastRoom = true := by decide +kernel
theorem ck_X3_cost : tf_Bck cX3_cost 4 tb_X3_cost = true := by decide +kernel
theorem ck_X3_told : tf_Bck cX3_told 3 tb_X3_told = true := by decide +kernel
theorem ck_X3_exchange : tf_Bck cX3_exchange 6 tb_X3_exchange = true := by decide +kernel
theorem ck_X3_meeting : tf_Bck cX3_meeting 5 tb_X3_meeting = true := by decide +kernel
theorem ck_X3_climb : tf_Bck cX3_climb 6 tb_X3_climb = true := by decide +kernel
theorem ck_X3_descend : tf_Bck cX3_descend 6 tb_X3_descend = true := by decide +kernel
theorem ck_X3_add : tf_Bck cX3_add 3 tb_X3_add = true := by decide +kernel
theorem ck_X5_clear : tf_Bck cX5_clear 1 tb_X5_clear = true := by decide +kernel
theorem ck_X5_copyFrom : tf_Bck cX5_copyFrom 2 tb_X5_copyFrom = true := by decide +kernel
theorem ck_X5_count : tf_Bck cX5_count 5 tb_X5_count = true := by decide +kernel
theorem ck_X5_told : tf_Bck cX5_told 4 tb_X5_told = true := by decide +kernel
theorem ck_X6_split : tf_Bck cX6_split 4 tb_X6_split = true := by decide +kernel
theorem ck_X6_told : tf_Bck cX6_told 3 tb_X6_told = true := by decide +kernel
theorem ck_X6_start : tf_Bck cX6_start 3 tb_X6_start = true := by decide +kernel
theorem ck_X6_surplus : tf_Bck cX6_surplus 5 tb_X6_surplus = true := by decide +kernel
theorem ck_X6_arcOut : tf_Bck cX6_arcOut 4 tb_X6_arcOut = true := by decide +kernel
theorem ck_X6_go : tf_Bck cX6_go 5 tb_X6_go = true := by decide +kernel
theorem ck_X6_keep : tf_Bck cX6_keep 3 tb_X6_keep = true := by decide +kernel
theorem ck_X8_spell : tf_Bck cX8_spell 5 tb_X8_spell = true := by decide +kernel
theorem ck_X8_lay : tf_Bck cX8_lay 1 tb_X8_lay = true := by decide +kernel
theorem ck_X8_fault : tf_Bck cX8_fault 2 tb_X8_fault = true := by decide +kernel
theorem ck_X8_pivot : tf_Bck cX8_pivot 2 tb_X8_pivot = true := by decide +kernel
theorem ck_X8_pivots : tf_Bck cX8_pivots 3 tb_X8_pivots = true := by decide +kernel
theorem ck_X8_rule : tf_Bck cX8_rule 2 tb_X8_rule = true := by decide +kernel
theorem ck_X8_shift : tf_Bck cX8_shift 4 tb_X8_shift = true := by decide +kernel
theorem ck_X8_block : tf_Bck cX8_block 3 tb_X8_block = true := by decide +kernel
theorem ck_X8_widen : tf_Bck cX8_widen 3 tb_X8_widen = true := by decide +kernel
theorem ck_X8_charge : tf_Bck cX8_charge 3 tb_X8_charge = true := by decide +kernel
theorem ck_X8_cold : tf_Bck cX8_cold 1 tb_X8_cold = true := by decide +kernel
theorem ck_X8_work : tf_Bck cX8_work 2 tb_X8_work = true := by decide +kernel
theorem ck_X8_undo : tf_Bck cX8_undo 1 tb_X8_undo = true := by decide +kernel
theorem ck_X8_grid : tf_Bck cX8_grid 2 tb_X8_grid = true := by decide +kernel
theorem ck_X8_thread : tf_Bck cX8_thread 4 tb_X8_thread = true := by decide +kernel
theorem ck_X8_path : tf_Bck cX8_path 5 tb_X8_path = true := by decide +kernel
theorem ck_X8_next : tf_Bck cX8_next 3 tb_X8_next = true := by decide +kernel
theorem ck_X8_past : tf_Bck cX8_past 3 tb_X8_past = true := by decide +kernel
theorem ck_X8_bill : tf_Bck cX8_bill 4 tb_X8_bill = true := by decide +kernel
theorem ck_X8_ledger : tf_Bck cX8_ledger 5 tb_X8_ledger = true := by decide +kernel
theorem ck_X8_wide : tf_Bck cX8_wide 4 tb_X8_wide = true := by decide +kernel
theorem ck_X8_trip : tf_Bck cX8_trip 3 tb_X8_trip = true := by decide +kernel
theorem ck_X8_apart : tf_Bck cX8_apart 2 tb_X8_apart = true := by decide +kernel
theorem ck_X8_span : tf_Bck cX8_span 3 tb_X8_span = true := by decide +kernel
theorem ck_X8_least : tf_Bck cX8_least 1 tb_X8_least = true := by decide +kernel
theorem ck_X8_lack : tf_Bck cX8_lack 1 tb_X8_lack = true := by decide +kernel
theorem ck_X8_cut : tf_Bck cX8_cut 1 tb_X8_cut = true := by decide +kernel
theorem ck_X8_steps : tf_Bck cX8_steps 2 tb_X8_steps = true := by decide +kernel
theorem ck_X8_worth : tf_Bck cX8_worth 4 tb_X8_worth = true := by decide +kernel
theorem ck_X8_toll : tf_Bck cX8_toll 4 tb_X8_toll = true := by decide +kernel
theorem ck_X8_image : tf_Bck cX8_image 2 tb_X8_image = true := by decide +kernel
theorem ck_X8_again : tf_Bck cX8_again 2 tb_X8_again = true := by decide +kernel
theorem ck_X8_hasImage : tf_Bck cX8_hasImage 2 tb_X8_hasImage = true := by decide +kernel
theorem ck_X8_takeFault : tf_Bck cX8_takeFault 1 tb_X8_takeFault = true := by decide +kernel
theorem ck_X8_saveAhead : tf_Bck cX8_saveAhead 1 tb_X8_saveAhead = true := by decide +kernel
theorem ck_X8_countAct : tf_Bck cX8_countAct 2 tb_X8_countAct = true := by decide +kernel
theorem ck_X8_leastOfTrial : tf_Bck cX8_leastOfTrial 1 tb_X8_leastOfTrial = true := by decide +kernel
theorem ck_X8_less : tf_Bck cX8_less 2 tb_X8_less = true := by decide +kernel
theorem ck_X8_byteOf : tf_Bck cX8_byteOf 3 tb_X8_byteOf = true := by decide +kernel
theorem ck_X8_toldEdge : tf_Bck cX8_toldEdge 1 tb_X8_toldEdge = true := by decide +kernel
theorem ck_X8_isRule : tf_Bck cX8_isRule 1 tb_X8_isRule = true := by decide +kernel
theorem ck_X4_read : tf_Bck cX4_read 5 tb_X4_read = true := by decide +kernel
theorem ck_X4_readLine : tf_Bck cX4_readLine 6 tb_X4_readLine = true := by decide +kernel
theorem ck_X4_blame : tf_Bck cX4_blame 3 tb_X4_blame = true := by decide +kernel
theorem ck_X4_findToken : tf_Bck cX4_findToken 4 tb_X4_findToken = true := by decide +kernel
theorem ck_X4_kindOf : tf_Bck cX4_kindOf 1 tb_X4_kindOf = true := by decide +kernel
theorem ck_X4_verbHere : tf_Bck cX4_verbHere 5 tb_X4_verbHere = true := by decide +kernel
theorem ck_X4_isHere : tf_Bck cX4_isHere 4 tb_X4_isHere = true := by decide +kernel
theorem ck_X4_numberHere : tf_Bck cX4_numberHere 4 tb_X4_numberHere = true := by decide +kernel
theorem ck_X4_number : tf_Bck cX4_number 3 tb_X4_number = true := by decide +kernel
theorem ck_X4_want : tf_Bck cX4_want 7 tb_X4_want = true := by decide +kernel
theorem ck_X4_checkGrid : tf_Bck cX4_checkGrid 4 tb_X4_checkGrid = true := by decide +kernel
theorem ck_X4_checkGridLine : tf_Bck cX4_checkGridLine 3 tb_X4_checkGridLine = true := by decide +kernel
theorem ck_X4_checkPointsThere : tf_Bck cX4_checkPointsThere 3 tb_X4_checkPointsThere = true := by decide +kernel
theorem ck_X4_isArc : tf_Bck cX4_isArc 2 tb_X4_isArc = true := by decide +kernel
theorem ck_X4_pointsTold : tf_Bck cX4_pointsTold 3 tb_X4_pointsTold = true := by decide +kernel
theorem ck_X4_sumOfSupplies : tf_Bck cX4_sumOfSupplies 3 tb_X4_sumOfSupplies = true := by decide +kernel
theorem ck_X4_checkOrders : tf_Bck cX4_checkOrders 2 tb_X4_checkOrders = true := by decide +kernel
theorem ck_X4_fill : tf_Bck cX4_fill 3 tb_X4_fill = true := by decide +kernel
theorem ck_X4_fillLine : tf_Bck cX4_fillLine 3 tb_X4_fillLine = true := by decide +kernel
theorem ck_X4_obey : tf_Bck cX4_obey 4 tb_X4_obey = true := by decide +kernel
theorem ck_X7_numbers : tf_Bck cX7_numbers 2 tb_X7_numbers = true := by decide +kernel
theorem ck_J6_bitCount_0f7a4 : tf_Bck cJ6_bitCount_0f7a4 1 tb_J6_bitCount_0f7a4 = true := by decide +kernel
end
section
/-! ===== tables: methods by number, pools by class, the places of their words ===== -/
def tf_BW : List Jvm.Cond := lw_tbl.filter goodWord
theorem tf_inBW {w : Jvm.Cond} (i : Nat) (h : lw_tbl[i]? = some w) (hg : goodWord w = true) : w ∈ tf_BW := List.mem_filter.mpr ⟨List.mem_of_getElem? h, hg⟩
theorem tf_BW_good : ∀ w ∈ tf_BW, goodWord w = true := fun _ h => (List.mem_filter.mp h).2
def tf_NM : Nat := 244
set_option maxRecDepth 100000 in
theorem cw_X9_in : Jvm.Cond.code yX9_in cX9_in 3 (some .boolean) ∈ lw_tbl := List.mem_of_getElem? (i := 1319) rfl
set_option maxRecDepth 100000 in
theorem cw_X9_lesser : Jvm.Cond.code yX9_lesser cX9_lesser 2 (some .int) ∈ lw_tbl := List.mem_of_getElem? (i := 1468) rfl
set_option maxRecDepth 100000 in
theorem cw_X9_greater : Jvm.Cond.code yX9_greater cX9_greater 2 (some .int) ∈ lw_tbl := List.mem_of_getElem? (i := 1640) rfl
set_option maxRecDepth 100000 in
theorem cw_X9_of : Jvm.Cond.code yX9_of cX9_of 3 (some .int) ∈ lw_tbl := List.mem_of_getElem? (i := 1156) rfl
set_option maxRecDepth 100000 in
theorem cw_X9_puts : Jvm.Cond.code yX9_puts cX9_puts 4 (none) ∈ lw_tbl := List.mem_of_getElem? (i := 1160) rfl
set_option maxRecDepth 100000 in
theorem cw_X9_isArc : Jvm.Cond.code yX9_isArc cX9_isArc 2 (some .boolean) ∈ lw_tbl := List.mem_of_getElem? (i := 1536) rfl
set_option maxRecDepth 100000 in
theorem cw_X9_isPoint : Jvm.Cond.code yX9_isPoint cX9_isPoint 2 (some .boolean) ∈ lw_tbl := List.mem_of_getElem? (i := 1512) rfl
set_option maxRecDepth 100000 in
theorem cw_X9_areTwo : Jvm.Cond.code yX9_areTwo cX9_areTwo 3 (some .boolean) ∈ lw_tbl := List.mem_of_getElem? (i := 1508) rfl
set_option maxRecDepth 100000 in
theorem cw_X9_spell : Jvm.Cond.code yX9_spell cX9_spell 5 (some .int) ∈ lw_tbl := List.mem_of_getElem? (i := 1299) rfl
set_option maxRecDepth 100000 in
theorem cw_X9_see : Jvm.Cond.code yX9_see cX9_see 1 (some .int) ∈ lw_tbl := List.mem_of_getElem? (i := 1316) rfl
set_option maxRecDepth 100000 in
theorem cw_X9_token : Jvm.Cond.code yX9_token cX9_token 3 (none) ∈ lw_tbl := List.mem_of_getElem? (i := 1312) rfl
set_option maxRecDepth 100000 in
theorem cw_X9_fails : Jvm.Cond.code yX9_fails cX9_fails 1 (some .boolean) ∈ lw_tbl := List.mem_of_getElem? (i := 1345) rfl
set_option maxRecDepth 100000 in
theorem cw_X9_isBad : Jvm.Cond.code yX9_isBad cX9_isBad 2 (none) ∈ lw_tbl := List.mem_of_getElem? (i := 1333) rfl
set_option maxRecDepth 100000 in
theorem cw_X9_takes : Jvm.Cond.code yX9_takes cX9_takes 4 (some .boolean) ∈ lw_tbl := List.mem_of_getElem? (i := 1341) rfl
set_option maxRecDepth 100000 in
theorem cw_X9_atFirst : Jvm.Cond.code yX9_atFirst cX9_atFirst 2 (none) ∈ lw_tbl := List.mem_of_getElem? (i := 1144) rfl
set_option maxRecDepth 100000 in
theorem cw_X9_takesPoint : Jvm.Cond.code yX9_takesPoint cX9_takesPoint 4 (some .boolean) ∈ lw_tbl := List.mem_of_getElem? (i := 1337) rfl
set_option maxRecDepth 100000 in
theorem cw_X9_arcLine : Jvm.Cond.code yX9_arcLine cX9_arcLine 3 (some .boolean) ∈ lw_tbl := List.mem_of_getElem? (i := 1329) rfl
set_option maxRecDepth 100000 in
theorem cw_X9_ruleBy : Jvm.Cond.code yX9_ruleBy cX9_ruleBy 2 (some .int) ∈ lw_tbl := List.mem_of_getElem? (i := 1348) rfl
set_option maxRecDepth 100000 in
theorem cw_X9_gridLine : Jvm.Cond.code yX9_gridLine cX9_gridLine 4 (some .boolean) ∈ lw_tbl := List.mem_of_getElem? (i := 1323) rfl
set_option maxRecDepth 100000 in
theorem cw_X9_orderLine : Jvm.Cond.code yX9_orderLine cX9_orderLine 8 (some .boolean) ∈ lw_tbl := List.mem_of_getElem? (i := 1359) rfl
set_option maxRecDepth 100000 in
theorem cw_X9_allLines : Jvm.Cond.code yX9_allLines cX9_allLines 5 (some .boolean) ∈ lw_tbl := List.mem_of_getElem? (i := 1308) rfl
set_option maxRecDepth 100000 in
theorem cw_X9_missing : Jvm.Cond.code yX9_missing cX9_missing 3 (some .int) ∈ lw_tbl := List.mem_of_getElem? (i := 1373) rfl
set_option maxRecDepth 100000 in
theorem cw_X9_isFaulty : Jvm.Cond.code yX9_isFaulty cX9_isFaulty 3 (none) ∈ lw_tbl := List.mem_of_getElem? (i := 1369) rfl
set_option maxRecDepth 100000 in
theorem cw_X9_taken : Jvm.Cond.code yX9_taken cX9_taken 2 (none) ∈ lw_tbl := List.mem_of_getElem? (i := 1148) rfl
set_option maxRecDepth 100000 in
theorem cw_X9_lay : Jvm.Cond.code yX9_lay cX9_lay 4 (some .int) ∈ lw_tbl := List.mem_of_getElem? (i := 1304) rfl
set_option maxRecDepth 100000 in
theorem cw_X9_fault : Jvm.Cond.code yX9_fault cX9_fault 2 (some .int) ∈ lw_tbl := List.mem_of_getElem? (i := 1377) rfl
set_option maxRecDepth 100000 in
theorem cw_X9_root : Jvm.Cond.code yX9_root cX9_root 1 (some .int) ∈ lw_tbl := List.mem_of_getElem? (i := 1393) rfl
set_option maxRecDepth 100000 in
theorem cw_X9_isLoan : Jvm.Cond.code yX9_isLoan cX9_isLoan 1 (some .boolean) ∈ lw_tbl := List.mem_of_getElem? (i := 1452) rfl
set_option maxRecDepth 100000 in
theorem cw_X9_hangs : Jvm.Cond.code yX9_hangs cX9_hangs 2 (some .boolean) ∈ lw_tbl := List.mem_of_getElem? (i := 1401) rfl
set_option maxRecDepth 100000 in
theorem cw_X9_settles : Jvm.Cond.code yX9_settles cX9_settles 5 (none) ∈ lw_tbl := List.mem_of_getElem? (i := 1397) rfl
set_option maxRecDepth 100000 in
theorem cw_X9_laysTree : Jvm.Cond.code yX9_laysTree cX9_laysTree 5 (none) ∈ lw_tbl := List.mem_of_getElem? (i := 1389) rfl
set_option maxRecDepth 100000 in
theorem cw_X9_reduced : Jvm.Cond.code yX9_reduced cX9_reduced 2 (some .int) ∈ lw_tbl := List.mem_of_getElem? (i := 1413) rfl
set_option maxRecDepth 100000 in
theorem cw_X9_offers : Jvm.Cond.code yX9_offers cX9_offers 3 (some .boolean) ∈ lw_tbl := List.mem_of_getElem? (i := 1409) rfl
set_option maxRecDepth 100000 in
theorem cw_X9_isBest : Jvm.Cond.code yX9_isBest cX9_isBest 1 (some .boolean) ∈ lw_tbl := List.mem_of_getElem? (i := 1385) rfl
set_option maxRecDepth 100000 in
theorem cw_X9_offerMany : Jvm.Cond.code yX9_offerMany cX9_offerMany 3 (some .int) ∈ lw_tbl := List.mem_of_getElem? (i := 1405) rfl
set_option maxRecDepth 100000 in
theorem cw_X9_farOf : Jvm.Cond.code yX9_farOf cX9_farOf 3 (some .int) ∈ lw_tbl := List.mem_of_getElem? (i := 1429) rfl
set_option maxRecDepth 100000 in
theorem cw_X9_enters : Jvm.Cond.code yX9_enters cX9_enters 5 (some .int) ∈ lw_tbl := List.mem_of_getElem? (i := 1425) rfl
set_option maxRecDepth 100000 in
theorem cw_X9_isAlong : Jvm.Cond.code yX9_isAlong cX9_isAlong 3 (some .boolean) ∈ lw_tbl := List.mem_of_getElem? (i := 1449) rfl
set_option maxRecDepth 100000 in
theorem cw_X9_addsStep : Jvm.Cond.code yX9_addsStep cX9_addsStep 3 (none) ∈ lw_tbl := List.mem_of_getElem? (i := 1445) rfl
set_option maxRecDepth 100000 in
theorem cw_X9_meets : Jvm.Cond.code yX9_meets cX9_meets 5 (some .int) ∈ lw_tbl := List.mem_of_getElem? (i := 1437) rfl
set_option maxRecDepth 100000 in
theorem cw_X9_goesDown : Jvm.Cond.code yX9_goesDown cX9_goesDown 7 (none) ∈ lw_tbl := List.mem_of_getElem? (i := 1441) rfl
set_option maxRecDepth 100000 in
theorem cw_X9_goesUp : Jvm.Cond.code yX9_goesUp cX9_goesUp 4 (none) ∈ lw_tbl := List.mem_of_getElem? (i := 1456) rfl
set_option maxRecDepth 100000 in
theorem cw_X9_roomOf : Jvm.Cond.code yX9_roomOf cX9_roomOf 3 (some .int) ∈ lw_tbl := List.mem_of_getElem? (i := 1465) rfl
set_option maxRecDepth 100000 in
theorem cw_X9_leastRoom : Jvm.Cond.code yX9_leastRoom cX9_leastRoom 3 (some .int) ∈ lw_tbl := List.mem_of_getElem? (i := 1460) rfl
set_option maxRecDepth 100000 in
theorem cw_X9_laysCycle : Jvm.Cond.code yX9_laysCycle cX9_laysCycle 5 (none) ∈ lw_tbl := List.mem_of_getElem? (i := 1433) rfl
set_option maxRecDepth 100000 in
theorem cw_X9_leaves : Jvm.Cond.code yX9_leaves cX9_leaves 4 (some .int) ∈ lw_tbl := List.mem_of_getElem? (i := 1472) rfl
set_option maxRecDepth 100000 in
theorem cw_X9_flows : Jvm.Cond.code yX9_flows cX9_flows 5 (none) ∈ lw_tbl := List.mem_of_getElem? (i := 1476) rfl
set_option maxRecDepth 100000 in
theorem cw_X9_goesOut : Jvm.Cond.code yX9_goesOut cX9_goesOut 2 (none) ∈ lw_tbl := List.mem_of_getElem? (i := 1480) rfl
set_option maxRecDepth 100000 in
theorem cw_X9_isPast : Jvm.Cond.code yX9_isPast cX9_isPast 5 (none) ∈ lw_tbl := List.mem_of_getElem? (i := 1484) rfl
set_option maxRecDepth 100000 in
theorem cw_X9_turns : Jvm.Cond.code yX9_turns cX9_turns 4 (some .int) ∈ lw_tbl := List.mem_of_getElem? (i := 1421) rfl
set_option maxRecDepth 100000 in
theorem cw_X9_pivotsTill : Jvm.Cond.code yX9_pivotsTill cX9_pivotsTill 3 (some .int) ∈ lw_tbl := List.mem_of_getElem? (i := 1492) rfl
set_option maxRecDepth 100000 in
theorem cw_X9_begins : Jvm.Cond.code yX9_begins cX9_begins 5 (none) ∈ lw_tbl := List.mem_of_getElem? (i := 1152) rfl
set_option maxRecDepth 100000 in
theorem cw_X9_beginsAgain : Jvm.Cond.code yX9_beginsAgain cX9_beginsAgain 2 (none) ∈ lw_tbl := List.mem_of_getElem? (i := 1520) rfl
set_option maxRecDepth 100000 in
theorem cw_X9_keeps : Jvm.Cond.code yX9_keeps cX9_keeps 3 (none) ∈ lw_tbl := List.mem_of_getElem? (i := 1417) rfl
set_option maxRecDepth 100000 in
theorem cw_X9_pivot : Jvm.Cond.code yX9_pivot cX9_pivot 1 (some .int) ∈ lw_tbl := List.mem_of_getElem? (i := 1381) rfl
set_option maxRecDepth 100000 in
theorem cw_X9_pivots : Jvm.Cond.code yX9_pivots cX9_pivots 2 (some .int) ∈ lw_tbl := List.mem_of_getElem? (i := 1488) rfl
set_option maxRecDepth 100000 in
theorem cw_X9_rule : Jvm.Cond.code yX9_rule cX9_rule 2 (some .boolean) ∈ lw_tbl := List.mem_of_getElem? (i := 1496) rfl
set_option maxRecDepth 100000 in
theorem cw_X9_canShift : Jvm.Cond.code yX9_canShift cX9_canShift 4 (some .boolean) ∈ lw_tbl := List.mem_of_getElem? (i := 1504) rfl
set_option maxRecDepth 100000 in
theorem cw_X9_shifts : Jvm.Cond.code yX9_shifts cX9_shifts 4 (none) ∈ lw_tbl := List.mem_of_getElem? (i := 1516) rfl
set_option maxRecDepth 100000 in
theorem cw_X9_shift : Jvm.Cond.code yX9_shift cX9_shift 4 (some .boolean) ∈ lw_tbl := List.mem_of_getElem? (i := 1500) rfl
set_option maxRecDepth 100000 in
theorem cw_X9_canBe : Jvm.Cond.code yX9_canBe cX9_canBe 5 (some .boolean) ∈ lw_tbl := List.mem_of_getElem? (i := 1532) rfl
set_option maxRecDepth 100000 in
theorem cw_X9_becomes : Jvm.Cond.code yX9_becomes cX9_becomes 4 (none) ∈ lw_tbl := List.mem_of_getElem? (i := 1540) rfl
set_option maxRecDepth 100000 in
theorem cw_X9_tells : Jvm.Cond.code yX9_tells cX9_tells 5 (some .boolean) ∈ lw_tbl := List.mem_of_getElem? (i := 1528) rfl
set_option maxRecDepth 100000 in
theorem cw_X9_block : Jvm.Cond.code yX9_block cX9_block 3 (some .boolean) ∈ lw_tbl := List.mem_of_getElem? (i := 1524) rfl
set_option maxRecDepth 100000 in
theorem cw_X9_widen : Jvm.Cond.code yX9_widen cX9_widen 3 (some .boolean) ∈ lw_tbl := List.mem_of_getElem? (i := 1544) rfl
set_option maxRecDepth 100000 in
theorem cw_X9_charge : Jvm.Cond.code yX9_charge cX9_charge 3 (some .boolean) ∈ lw_tbl := List.mem_of_getElem? (i := 1548) rfl
set_option maxRecDepth 100000 in
theorem cw_X9_cold : Jvm.Cond.code yX9_cold cX9_cold 1 (none) ∈ lw_tbl := List.mem_of_getElem? (i := 1552) rfl
set_option maxRecDepth 100000 in
theorem cw_X9_isDoneArc : Jvm.Cond.code yX9_isDoneArc cX9_isDoneArc 6 (some .boolean) ∈ lw_tbl := List.mem_of_getElem? (i := 1568) rfl
set_option maxRecDepth 100000 in
theorem cw_X9_isDone : Jvm.Cond.code yX9_isDone cX9_isDone 7 (some .boolean) ∈ lw_tbl := List.mem_of_getElem? (i := 1564) rfl
set_option maxRecDepth 100000 in
theorem cw_X9_work : Jvm.Cond.code yX9_work cX9_work 3 (some .int) ∈ lw_tbl := List.mem_of_getElem? (i := 1556) rfl
set_option maxRecDepth 100000 in
theorem cw_X9_undo : Jvm.Cond.code yX9_undo cX9_undo 2 (some .int) ∈ lw_tbl := List.mem_of_getElem? (i := 1572) rfl
set_option maxRecDepth 100000 in
theorem cw_X9_unmet : Jvm.Cond.code yX9_unmet cX9_unmet 3 (some .int) ∈ lw_tbl := List.mem_of_getElem? (i := 1580) rfl
set_option maxRecDepth 100000 in
theorem cw_X9_grid : Jvm.Cond.code yX9_grid cX9_grid 2 (some .int) ∈ lw_tbl := List.mem_of_getElem? (i := 1576) rfl
set_option maxRecDepth 100000 in
theorem cw_X9_arc : Jvm.Cond.code yX9_arc cX9_arc 3 (some .int) ∈ lw_tbl := List.mem_of_getElem? (i := 1584) rfl
set_option maxRecDepth 100000 in
theorem cw_X9_below : Jvm.Cond.code yX9_below cX9_below 5 (some .int) ∈ lw_tbl := List.mem_of_getElem? (i := 1592) rfl
set_option maxRecDepth 100000 in
theorem cw_X9_point : Jvm.Cond.code yX9_point cX9_point 3 (some .int) ∈ lw_tbl := List.mem_of_getElem? (i := 1588) rfl
set_option maxRecDepth 100000 in
theorem cw_X9_childOf : Jvm.Cond.code yX9_childOf cX9_childOf 4 (some .int) ∈ lw_tbl := List.mem_of_getElem? (i := 1600) rfl
set_option maxRecDepth 100000 in
theorem cw_X9_thread : Jvm.Cond.code yX9_thread cX9_thread 5 (some .int) ∈ lw_tbl := List.mem_of_getElem? (i := 1596) rfl
set_option maxRecDepth 100000 in
theorem cw_X9_costOfCycle : Jvm.Cond.code yX9_costOfCycle cX9_costOfCycle 4 (some .int) ∈ lw_tbl := List.mem_of_getElem? (i := 1608) rfl
set_option maxRecDepth 100000 in
theorem cw_X9_path : Jvm.Cond.code yX9_path cX9_path 5 (some .int) ∈ lw_tbl := List.mem_of_getElem? (i := 1604) rfl
set_option maxRecDepth 100000 in
theorem cw_X9_next : Jvm.Cond.code yX9_next cX9_next 4 (some .int) ∈ lw_tbl := List.mem_of_getElem? (i := 1612) rfl
set_option maxRecDepth 100000 in
theorem cw_X9_past : Jvm.Cond.code yX9_past cX9_past 3 (some .int) ∈ lw_tbl := List.mem_of_getElem? (i := 1616) rfl
set_option maxRecDepth 100000 in
theorem cw_X9_billed : Jvm.Cond.code yX9_billed cX9_billed 3 (some .int) ∈ lw_tbl := List.mem_of_getElem? (i := 1624) rfl
set_option maxRecDepth 100000 in
theorem cw_X9_bill : Jvm.Cond.code yX9_bill cX9_bill 4 (some .int) ∈ lw_tbl := List.mem_of_getElem? (i := 1620) rfl
set_option maxRecDepth 100000 in
theorem cw_X9_flowAt : Jvm.Cond.code yX9_flowAt cX9_flowAt 4 (some .int) ∈ lw_tbl := List.mem_of_getElem? (i := 1633) rfl
set_option maxRecDepth 100000 in
theorem cw_X9_ledger : Jvm.Cond.code yX9_ledger cX9_ledger 5 (some .int) ∈ lw_tbl := List.mem_of_getElem? (i := 1629) rfl
set_option maxRecDepth 100000 in
theorem cw_X9_wide : Jvm.Cond.code yX9_wide cX9_wide 6 (some .int) ∈ lw_tbl := List.mem_of_getElem? (i := 1637) rfl
set_option maxRecDepth 100000 in
theorem cw_X9_outOf : Jvm.Cond.code yX9_outOf cX9_outOf 3 (some .int) ∈ lw_tbl := List.mem_of_getElem? (i := 1656) rfl
set_option maxRecDepth 100000 in
theorem cw_X9_startOf : Jvm.Cond.code yX9_startOf cX9_startOf 5 (some .int) ∈ lw_tbl := List.mem_of_getElem? (i := 1652) rfl
set_option maxRecDepth 100000 in
theorem cw_X9_stopAt : Jvm.Cond.code yX9_stopAt cX9_stopAt 4 (some .int) ∈ lw_tbl := List.mem_of_getElem? (i := 1660) rfl
set_option maxRecDepth 100000 in
theorem cw_X9_goesTrip : Jvm.Cond.code yX9_goesTrip cX9_goesTrip 7 (some .boolean) ∈ lw_tbl := List.mem_of_getElem? (i := 1648) rfl
set_option maxRecDepth 100000 in
theorem cw_X9_trip : Jvm.Cond.code yX9_trip cX9_trip 5 (some .int) ∈ lw_tbl := List.mem_of_getElem? (i := 1644) rfl
set_option maxRecDepth 100000 in
theorem cw_X9_flowIn : Jvm.Cond.code yX9_flowIn cX9_flowIn 4 (some .int) ∈ lw_tbl := List.mem_of_getElem? (i := 1668) rfl
set_option maxRecDepth 100000 in
theorem cw_X9_apart : Jvm.Cond.code yX9_apart cX9_apart 4 (some .int) ∈ lw_tbl := List.mem_of_getElem? (i := 1664) rfl
set_option maxRecDepth 100000 in
theorem cw_X9_span : Jvm.Cond.code yX9_span cX9_span 7 (some .int) ∈ lw_tbl := List.mem_of_getElem? (i := 1672) rfl
set_option maxRecDepth 100000 in
theorem cw_X9_asNow : Jvm.Cond.code yX9_asNow cX9_asNow 2 (none) ∈ lw_tbl := List.mem_of_getElem? (i := 1680) rfl
set_option maxRecDepth 100000 in
theorem cw_X9_relaxes : Jvm.Cond.code yX9_relaxes cX9_relaxes 7 (some .boolean) ∈ lw_tbl := List.mem_of_getElem? (i := 1696) rfl
set_option maxRecDepth 100000 in
theorem cw_X9_laysCheapest : Jvm.Cond.code yX9_laysCheapest cX9_laysCheapest 4 (none) ∈ lw_tbl := List.mem_of_getElem? (i := 1692) rfl
set_option maxRecDepth 100000 in
theorem cw_X9_wanting : Jvm.Cond.code yX9_wanting cX9_wanting 3 (some .int) ∈ lw_tbl := List.mem_of_getElem? (i := 1700) rfl
set_option maxRecDepth 100000 in
theorem cw_X9_backBy : Jvm.Cond.code yX9_backBy cX9_backBy 2 (some .int) ∈ lw_tbl := List.mem_of_getElem? (i := 1708) rfl
set_option maxRecDepth 100000 in
theorem cw_X9_sendsTo : Jvm.Cond.code yX9_sendsTo cX9_sendsTo 5 (none) ∈ lw_tbl := List.mem_of_getElem? (i := 1704) rfl
set_option maxRecDepth 100000 in
theorem cw_X9_carries : Jvm.Cond.code yX9_carries cX9_carries 3 (some .boolean) ∈ lw_tbl := List.mem_of_getElem? (i := 1688) rfl
set_option maxRecDepth 100000 in
theorem cw_X9_cheapestCost : Jvm.Cond.code yX9_cheapestCost cX9_cheapestCost 3 (some .int) ∈ lw_tbl := List.mem_of_getElem? (i := 1684) rfl
set_option maxRecDepth 100000 in
theorem cw_X9_least : Jvm.Cond.code yX9_least cX9_least 1 (some .int) ∈ lw_tbl := List.mem_of_getElem? (i := 1676) rfl
set_option maxRecDepth 100000 in
theorem cw_X9_lessThan : Jvm.Cond.code yX9_lessThan cX9_lessThan 3 (some .int) ∈ lw_tbl := List.mem_of_getElem? (i := 1717) rfl
set_option maxRecDepth 100000 in
theorem cw_X9_worth : Jvm.Cond.code yX9_worth cX9_worth 4 (some .int) ∈ lw_tbl := List.mem_of_getElem? (i := 1713) rfl
set_option maxRecDepth 100000 in
theorem cw_X9_toll : Jvm.Cond.code yX9_toll cX9_toll 4 (some .int) ∈ lw_tbl := List.mem_of_getElem? (i := 1721) rfl
set_option maxRecDepth 100000 in
theorem cw_X9_bothOf : Jvm.Cond.code yX9_bothOf cX9_bothOf 5 (some .int) ∈ lw_tbl := List.mem_of_getElem? (i := 1729) rfl
set_option maxRecDepth 100000 in
theorem cw_X9_ones : Jvm.Cond.code yX9_ones cX9_ones 3 (some .int) ∈ lw_tbl := List.mem_of_getElem? (i := 1732) rfl
set_option maxRecDepth 100000 in
theorem cw_X9_cut : Jvm.Cond.code yX9_cut cX9_cut 4 (some .int) ∈ lw_tbl := List.mem_of_getElem? (i := 1725) rfl
set_option maxRecDepth 100000 in
theorem cw_X9_lack : Jvm.Cond.code yX9_lack cX9_lack 3 (some .int) ∈ lw_tbl := List.mem_of_getElem? (i := 1736) rfl
set_option maxRecDepth 100000 in
theorem cw_X9_steps : Jvm.Cond.code yX9_steps cX9_steps 3 (some .int) ∈ lw_tbl := List.mem_of_getElem? (i := 1740) rfl
set_option maxRecDepth 100000 in
theorem cw_X9_copies : Jvm.Cond.code yX9_copies cX9_copies 4 (none) ∈ lw_tbl := List.mem_of_getElem? (i := 1560) rfl
set_option maxRecDepth 100000 in
theorem cw_X9_copiesText : Jvm.Cond.code yX9_copiesText cX9_copiesText 4 (none) ∈ lw_tbl := List.mem_of_getElem? (i := 1748) rfl
set_option maxRecDepth 100000 in
theorem cw_X9_image : Jvm.Cond.code yX9_image cX9_image 2 (some .boolean) ∈ lw_tbl := List.mem_of_getElem? (i := 1744) rfl
set_option maxRecDepth 100000 in
theorem cw_X9_again : Jvm.Cond.code yX9_again cX9_again 2 (some .boolean) ∈ lw_tbl := List.mem_of_getElem? (i := 1752) rfl
set_option maxRecDepth 100000 in
theorem cw_X1_copyFrom : Jvm.Cond.code yX1_copyFrom cX1_copyFrom 2 (none) ∈ lw_tbl := List.mem_of_getElem? (i := 637) rfl
set_option maxRecDepth 100000 in
theorem cw_X1_clear : Jvm.Cond.code yX1_clear cX1_clear 3 (none) ∈ lw_tbl := List.mem_of_getElem? (i := 395) rfl
set_option maxRecDepth 100000 in
theorem cw_X1_addArc : Jvm.Cond.code yX1_addArc cX1_addArc 5 (none) ∈ lw_tbl := List.mem_of_getElem? (i := 621) rfl
set_option maxRecDepth 100000 in
theorem cw_X1_hasArc : Jvm.Cond.code yX1_hasArc cX1_hasArc 2 (some .boolean) ∈ lw_tbl := List.mem_of_getElem? (i := 775) rfl
set_option maxRecDepth 100000 in
theorem cw_X1_hasPoint : Jvm.Cond.code yX1_hasPoint cX1_hasPoint 2 (some .boolean) ∈ lw_tbl := List.mem_of_getElem? (i := 762) rfl
set_option maxRecDepth 100000 in
theorem cw_X1_hasTwoPoints : Jvm.Cond.code yX1_hasTwoPoints cX1_hasTwoPoints 3 (some .boolean) ∈ lw_tbl := List.mem_of_getElem? (i := 758) rfl
set_option maxRecDepth 100000 in
theorem cw_X1_toldNode : Jvm.Cond.code yX1_toldNode cX1_toldNode 2 (some .int) ∈ lw_tbl := List.mem_of_getElem? (i := 880) rfl
set_option maxRecDepth 100000 in
theorem cw_X1_setRule : Jvm.Cond.code yX1_setRule cX1_setRule 2 (some .boolean) ∈ lw_tbl := List.mem_of_getElem? (i := 743) rfl
set_option maxRecDepth 100000 in
theorem cw_X1_moveSupply : Jvm.Cond.code yX1_moveSupply cX1_moveSupply 4 (some .boolean) ∈ lw_tbl := List.mem_of_getElem? (i := 754) rfl
set_option maxRecDepth 100000 in
theorem cw_X1_setOpen : Jvm.Cond.code yX1_setOpen cX1_setOpen 3 (some .boolean) ∈ lw_tbl := List.mem_of_getElem? (i := 771) rfl
set_option maxRecDepth 100000 in
theorem cw_X1_setBound : Jvm.Cond.code yX1_setBound cX1_setBound 3 (some .boolean) ∈ lw_tbl := List.mem_of_getElem? (i := 783) rfl
set_option maxRecDepth 100000 in
theorem cw_X1_setCost : Jvm.Cond.code yX1_setCost cX1_setCost 3 (some .boolean) ∈ lw_tbl := List.mem_of_getElem? (i := 791) rfl
set_option maxRecDepth 100000 in
theorem cw_X1_begin : Jvm.Cond.code yX1_begin cX1_begin 4 (none) ∈ lw_tbl := List.mem_of_getElem? (i := 399) rfl
set_option maxRecDepth 100000 in
theorem cw_X1_hangByLoan : Jvm.Cond.code yX1_hangByLoan cX1_hangByLoan 4 (none) ∈ lw_tbl := List.mem_of_getElem? (i := 403) rfl
set_option maxRecDepth 100000 in
theorem cw_X1_setPrices : Jvm.Cond.code yX1_setPrices cX1_setPrices 6 (none) ∈ lw_tbl := List.mem_of_getElem? (i := 410) rfl
set_option maxRecDepth 100000 in
theorem cw_X1_reduced : Jvm.Cond.code yX1_reduced cX1_reduced 2 (some .int) ∈ lw_tbl := List.mem_of_getElem? (i := 665) rfl
set_option maxRecDepth 100000 in
theorem cw_X1_mayOffer : Jvm.Cond.code yX1_mayOffer cX1_mayOffer 2 (some .boolean) ∈ lw_tbl := List.mem_of_getElem? (i := 661) rfl
set_option maxRecDepth 100000 in
theorem cw_X1_offer : Jvm.Cond.code yX1_offer cX1_offer 2 (some .int) ∈ lw_tbl := List.mem_of_getElem? (i := 657) rfl
set_option maxRecDepth 100000 in
theorem cw_X1_countOffers : Jvm.Cond.code yX1_countOffers cX1_countOffers 3 (some .int) ∈ lw_tbl := List.mem_of_getElem? (i := 826) rfl
set_option maxRecDepth 100000 in
theorem cw_X1_pick : Jvm.Cond.code yX1_pick cX1_pick 8 (some .int) ∈ lw_tbl := List.mem_of_getElem? (i := 653) rfl
set_option maxRecDepth 100000 in
theorem cw_X1_room : Jvm.Cond.code yX1_room cX1_room 3 (some .int) ∈ lw_tbl := List.mem_of_getElem? (i := 704) rfl
set_option maxRecDepth 100000 in
theorem cw_X1_hasOnWay : Jvm.Cond.code yX1_hasOnWay cX1_hasOnWay 5 (some .boolean) ∈ lw_tbl := List.mem_of_getElem? (i := 679) rfl
set_option maxRecDepth 100000 in
theorem cw_X1_depth : Jvm.Cond.code yX1_depth cX1_depth 4 (some .int) ∈ lw_tbl := List.mem_of_getElem? (i := 687) rfl
set_option maxRecDepth 100000 in
theorem cw_X1_countBelow : Jvm.Cond.code yX1_countBelow cX1_countBelow 4 (some .int) ∈ lw_tbl := List.mem_of_getElem? (i := 1130) rfl
set_option maxRecDepth 100000 in
theorem cw_X1_loanFlow : Jvm.Cond.code yX1_loanFlow cX1_loanFlow 3 (some .int) ∈ lw_tbl := List.mem_of_getElem? (i := 1134) rfl
set_option maxRecDepth 100000 in
theorem cw_X1_childBehind : Jvm.Cond.code yX1_childBehind cX1_childBehind 4 (some .int) ∈ lw_tbl := List.mem_of_getElem? (i := 838) rfl
set_option maxRecDepth 100000 in
theorem cw_X1_threadBehind : Jvm.Cond.code yX1_threadBehind cX1_threadBehind 5 (some .int) ∈ lw_tbl := List.mem_of_getElem? (i := 842) rfl
set_option maxRecDepth 100000 in
theorem cw_X1_rehang : Jvm.Cond.code yX1_rehang cX1_rehang 11 (none) ∈ lw_tbl := List.mem_of_getElem? (i := 716) rfl
set_option maxRecDepth 100000 in
theorem cw_X1_unmet : Jvm.Cond.code yX1_unmet cX1_unmet 3 (some .int) ∈ lw_tbl := List.mem_of_getElem? (i := 830) rfl
set_option maxRecDepth 100000 in
theorem cw_X1_spent : Jvm.Cond.code yX1_spent cX1_spent 3 (some .int) ∈ lw_tbl := List.mem_of_getElem? (i := 897) rfl
set_option maxRecDepth 100000 in
theorem cw_X1_flowingCostAbove : Jvm.Cond.code yX1_flowingCostAbove cX1_flowingCostAbove 4 (some .int) ∈ lw_tbl := List.mem_of_getElem? (i := 908) rfl
set_option maxRecDepth 100000 in
theorem cw_X1_flowAtCost : Jvm.Cond.code yX1_flowAtCost cX1_flowAtCost 4 (some .int) ∈ lw_tbl := List.mem_of_getElem? (i := 912) rfl
set_option maxRecDepth 100000 in
theorem cw_X1_countApart : Jvm.Cond.code yX1_countApart cX1_countApart 6 (some .int) ∈ lw_tbl := List.mem_of_getElem? (i := 967) rfl
set_option maxRecDepth 100000 in
theorem cw_X1_spread : Jvm.Cond.code yX1_spread cX1_spread 5 (none) ∈ lw_tbl := List.mem_of_getElem? (i := 920) rfl
set_option maxRecDepth 100000 in
theorem cw_X1_shortOf : Jvm.Cond.code yX1_shortOf cX1_shortOf 4 (some .int) ∈ lw_tbl := List.mem_of_getElem? (i := 1006) rfl
set_option maxRecDepth 100000 in
theorem cw_X1_worstSet : Jvm.Cond.code yX1_worstSet cX1_worstSet 6 (some .int) ∈ lw_tbl := List.mem_of_getElem? (i := 1002) rfl
set_option maxRecDepth 100000 in
theorem cw_X1_lowestCost : Jvm.Cond.code yX1_lowestCost cX1_lowestCost 5 (some .int) ∈ lw_tbl := List.mem_of_getElem? (i := 985) rfl
set_option maxRecDepth 100000 in
theorem cw_X1_highestCost : Jvm.Cond.code yX1_highestCost cX1_highestCost 5 (some .int) ∈ lw_tbl := List.mem_of_getElem? (i := 976) rfl
set_option maxRecDepth 100000 in
theorem cw_X1_slope : Jvm.Cond.code yX1_slope cX1_slope 7 (some .int) ∈ lw_tbl := List.mem_of_getElem? (i := 980) rfl
set_option maxRecDepth 100000 in
theorem cw_X2_put : Jvm.Cond.code yX2_put cX2_put 2 (none) ∈ lw_tbl := List.mem_of_getElem? (i := 465) rfl
set_option maxRecDepth 100000 in
theorem cw_X2_copyFrom : Jvm.Cond.code yX2_copyFrom cX2_copyFrom 2 (none) ∈ lw_tbl := List.mem_of_getElem? (i := 1041) rfl
set_option maxRecDepth 100000 in
theorem cw_X3_way : Jvm.Cond.code yX3_way cX3_way 4 (none) ∈ lw_tbl := List.mem_of_getElem? (i := 852) rfl
set_option maxRecDepth 100000 in
theorem cw_X3_cycle : Jvm.Cond.code yX3_cycle cX3_cycle 7 (none) ∈ lw_tbl := List.mem_of_getElem? (i := 672) rfl
set_option maxRecDepth 100000 in
theorem cw_X3_step : Jvm.Cond.code yX3_step cX3_step 5 (some .int) ∈ lw_tbl := List.mem_of_getElem? (i := 649) rfl
set_option maxRecDepth 100000 in
theorem cw_X3_run : Jvm.Cond.code yX3_run cX3_run 5 (some .int) ∈ lw_tbl := List.mem_of_getElem? (i := 734) rfl
set_option maxRecDepth 100000 in
theorem cw_X3_leaving : Jvm.Cond.code yX3_leaving cX3_leaving 1 (some .int) ∈ lw_tbl := List.mem_of_getElem? (i := 875) rfl
set_option maxRecDepth 100000 in
theorem cw_X3_leastRoom : Jvm.Cond.code yX3_leastRoom cX3_leastRoom 4 (some .int) ∈ lw_tbl := List.mem_of_getElem? (i := 699) rfl
set_option maxRecDepth 100000 in
theorem cw_X3_cost : Jvm.Cond.code yX3_cost cX3_cost 4 (some .int) ∈ lw_tbl := List.mem_of_getElem? (i := 858) rfl
set_option maxRecDepth 100000 in
theorem cw_X3_told : Jvm.Cond.code yX3_told cX3_told 3 (some .int) ∈ lw_tbl := List.mem_of_getElem? (i := 862) rfl
set_option maxRecDepth 100000 in
theorem cw_X3_exchange : Jvm.Cond.code yX3_exchange cX3_exchange 6 (none) ∈ lw_tbl := List.mem_of_getElem? (i := 712) rfl
set_option maxRecDepth 100000 in
theorem cw_X3_meeting : Jvm.Cond.code yX3_meeting cX3_meeting 5 (some .int) ∈ lw_tbl := List.mem_of_getElem? (i := 675) rfl
set_option maxRecDepth 100000 in
theorem cw_X3_climb : Jvm.Cond.code yX3_climb cX3_climb 6 (none) ∈ lw_tbl := List.mem_of_getElem? (i := 695) rfl
set_option maxRecDepth 100000 in
theorem cw_X3_descend : Jvm.Cond.code yX3_descend cX3_descend 6 (none) ∈ lw_tbl := List.mem_of_getElem? (i := 683) rfl
set_option maxRecDepth 100000 in
theorem cw_X3_add : Jvm.Cond.code yX3_add cX3_add 3 (none) ∈ lw_tbl := List.mem_of_getElem? (i := 691) rfl
set_option maxRecDepth 100000 in
theorem cw_X5_clear : Jvm.Cond.code yX5_clear cX5_clear 1 (none) ∈ lw_tbl := List.mem_of_getElem? (i := 414) rfl
set_option maxRecDepth 100000 in
theorem cw_X5_copyFrom : Jvm.Cond.code yX5_copyFrom cX5_copyFrom 2 (none) ∈ lw_tbl := List.mem_of_getElem? (i := 644) rfl
set_option maxRecDepth 100000 in
theorem cw_X5_count : Jvm.Cond.code yX5_count cX5_count 5 (none) ∈ lw_tbl := List.mem_of_getElem? (i := 721) rfl
set_option maxRecDepth 100000 in
theorem cw_X5_told : Jvm.Cond.code yX5_told cX5_told 4 (some .int) ∈ lw_tbl := List.mem_of_getElem? (i := 888) rfl
set_option maxRecDepth 100000 in
theorem cw_X6_split : Jvm.Cond.code yX6_split cX6_split 4 (none) ∈ lw_tbl := List.mem_of_getElem? (i := 929) rfl
set_option maxRecDepth 100000 in
theorem cw_X6_told : Jvm.Cond.code yX6_told cX6_told 3 (some .int) ∈ lw_tbl := List.mem_of_getElem? (i := 955) rfl
set_option maxRecDepth 100000 in
theorem cw_X6_start : Jvm.Cond.code yX6_start cX6_start 3 (some .int) ∈ lw_tbl := List.mem_of_getElem? (i := 933) rfl
set_option maxRecDepth 100000 in
theorem cw_X6_surplus : Jvm.Cond.code yX6_surplus cX6_surplus 5 (some .int) ∈ lw_tbl := List.mem_of_getElem? (i := 937) rfl
set_option maxRecDepth 100000 in
theorem cw_X6_arcOut : Jvm.Cond.code yX6_arcOut cX6_arcOut 4 (some .int) ∈ lw_tbl := List.mem_of_getElem? (i := 941) rfl
set_option maxRecDepth 100000 in
theorem cw_X6_go : Jvm.Cond.code yX6_go cX6_go 5 (none) ∈ lw_tbl := List.mem_of_getElem? (i := 945) rfl
set_option maxRecDepth 100000 in
theorem cw_X6_keep : Jvm.Cond.code yX6_keep cX6_keep 3 (none) ∈ lw_tbl := List.mem_of_getElem? (i := 949) rfl
set_option maxRecDepth 100000 in
theorem cw_X8_spell : Jvm.Cond.code yX8_spell cX8_spell 5 (some .int) ∈ lw_tbl := List.mem_of_getElem? (i := 458) rfl
set_option maxRecDepth 100000 in
theorem cw_X8_lay : Jvm.Cond.code yX8_lay cX8_lay 1 (some .int) ∈ lw_tbl := List.mem_of_getElem? (i := 469) rfl
set_option maxRecDepth 100000 in
theorem cw_X8_fault : Jvm.Cond.code yX8_fault cX8_fault 2 (some .int) ∈ lw_tbl := List.mem_of_getElem? (i := 625) rfl
set_option maxRecDepth 100000 in
theorem cw_X8_pivot : Jvm.Cond.code yX8_pivot cX8_pivot 2 (some .int) ∈ lw_tbl := List.mem_of_getElem? (i := 629) rfl
set_option maxRecDepth 100000 in
theorem cw_X8_pivots : Jvm.Cond.code yX8_pivots cX8_pivots 3 (some .int) ∈ lw_tbl := List.mem_of_getElem? (i := 730) rfl
set_option maxRecDepth 100000 in
theorem cw_X8_rule : Jvm.Cond.code yX8_rule cX8_rule 2 (some .boolean) ∈ lw_tbl := List.mem_of_getElem? (i := 739) rfl
set_option maxRecDepth 100000 in
theorem cw_X8_shift : Jvm.Cond.code yX8_shift cX8_shift 4 (some .boolean) ∈ lw_tbl := List.mem_of_getElem? (i := 750) rfl
set_option maxRecDepth 100000 in
theorem cw_X8_block : Jvm.Cond.code yX8_block cX8_block 3 (some .boolean) ∈ lw_tbl := List.mem_of_getElem? (i := 767) rfl
set_option maxRecDepth 100000 in
theorem cw_X8_widen : Jvm.Cond.code yX8_widen cX8_widen 3 (some .boolean) ∈ lw_tbl := List.mem_of_getElem? (i := 779) rfl
set_option maxRecDepth 100000 in
theorem cw_X8_charge : Jvm.Cond.code yX8_charge cX8_charge 3 (some .boolean) ∈ lw_tbl := List.mem_of_getElem? (i := 787) rfl
set_option maxRecDepth 100000 in
theorem cw_X8_cold : Jvm.Cond.code yX8_cold cX8_cold 1 (none) ∈ lw_tbl := List.mem_of_getElem? (i := 795) rfl
set_option maxRecDepth 100000 in
theorem cw_X8_work : Jvm.Cond.code yX8_work cX8_work 2 (some .int) ∈ lw_tbl := List.mem_of_getElem? (i := 799) rfl
set_option maxRecDepth 100000 in
theorem cw_X8_undo : Jvm.Cond.code yX8_undo cX8_undo 1 (some .int) ∈ lw_tbl := List.mem_of_getElem? (i := 818) rfl
set_option maxRecDepth 100000 in
theorem cw_X8_grid : Jvm.Cond.code yX8_grid cX8_grid 2 (some .int) ∈ lw_tbl := List.mem_of_getElem? (i := 822) rfl
set_option maxRecDepth 100000 in
theorem cw_X8_thread : Jvm.Cond.code yX8_thread cX8_thread 4 (some .int) ∈ lw_tbl := List.mem_of_getElem? (i := 834) rfl
set_option maxRecDepth 100000 in
theorem cw_X8_path : Jvm.Cond.code yX8_path cX8_path 5 (some .int) ∈ lw_tbl := List.mem_of_getElem? (i := 847) rfl
set_option maxRecDepth 100000 in
theorem cw_X8_next : Jvm.Cond.code yX8_next cX8_next 3 (some .int) ∈ lw_tbl := List.mem_of_getElem? (i := 869) rfl
set_option maxRecDepth 100000 in
theorem cw_X8_past : Jvm.Cond.code yX8_past cX8_past 3 (some .int) ∈ lw_tbl := List.mem_of_getElem? (i := 884) rfl
set_option maxRecDepth 100000 in
theorem cw_X8_bill : Jvm.Cond.code yX8_bill cX8_bill 4 (some .int) ∈ lw_tbl := List.mem_of_getElem? (i := 893) rfl
set_option maxRecDepth 100000 in
theorem cw_X8_ledger : Jvm.Cond.code yX8_ledger cX8_ledger 5 (some .int) ∈ lw_tbl := List.mem_of_getElem? (i := 904) rfl
set_option maxRecDepth 100000 in
theorem cw_X8_wide : Jvm.Cond.code yX8_wide cX8_wide 4 (some .int) ∈ lw_tbl := List.mem_of_getElem? (i := 916) rfl
set_option maxRecDepth 100000 in
theorem cw_X8_trip : Jvm.Cond.code yX8_trip cX8_trip 3 (some .int) ∈ lw_tbl := List.mem_of_getElem? (i := 925) rfl
set_option maxRecDepth 100000 in
theorem cw_X8_apart : Jvm.Cond.code yX8_apart cX8_apart 2 (some .int) ∈ lw_tbl := List.mem_of_getElem? (i := 959) rfl
set_option maxRecDepth 100000 in
theorem cw_X8_span : Jvm.Cond.code yX8_span cX8_span 3 (some .int) ∈ lw_tbl := List.mem_of_getElem? (i := 971) rfl
set_option maxRecDepth 100000 in
theorem cw_X8_least : Jvm.Cond.code yX8_least cX8_least 1 (some .int) ∈ lw_tbl := List.mem_of_getElem? (i := 989) rfl
set_option maxRecDepth 100000 in
theorem cw_X8_lack : Jvm.Cond.code yX8_lack cX8_lack 1 (some .int) ∈ lw_tbl := List.mem_of_getElem? (i := 998) rfl
set_option maxRecDepth 100000 in
theorem cw_X8_cut : Jvm.Cond.code yX8_cut cX8_cut 1 (some .int) ∈ lw_tbl := List.mem_of_getElem? (i := 1017) rfl
set_option maxRecDepth 100000 in
theorem cw_X8_steps : Jvm.Cond.code yX8_steps cX8_steps 2 (some .int) ∈ lw_tbl := List.mem_of_getElem? (i := 1021) rfl
set_option maxRecDepth 100000 in
theorem cw_X8_worth : Jvm.Cond.code yX8_worth cX8_worth 4 (some .int) ∈ lw_tbl := List.mem_of_getElem? (i := 1026) rfl
set_option maxRecDepth 100000 in
theorem cw_X8_toll : Jvm.Cond.code yX8_toll cX8_toll 4 (some .int) ∈ lw_tbl := List.mem_of_getElem? (i := 1033) rfl
set_option maxRecDepth 100000 in
theorem cw_X8_image : Jvm.Cond.code yX8_image cX8_image 2 (some .boolean) ∈ lw_tbl := List.mem_of_getElem? (i := 1037) rfl
set_option maxRecDepth 100000 in
theorem cw_X8_again : Jvm.Cond.code yX8_again cX8_again 2 (some .boolean) ∈ lw_tbl := List.mem_of_getElem? (i := 1046) rfl
set_option maxRecDepth 100000 in
theorem cw_X8_hasImage : Jvm.Cond.code yX8_hasImage cX8_hasImage 2 (some .boolean) ∈ lw_tbl := List.mem_of_getElem? (i := 963) rfl
set_option maxRecDepth 100000 in
theorem cw_X8_takeFault : Jvm.Cond.code yX8_takeFault cX8_takeFault 1 (none) ∈ lw_tbl := List.mem_of_getElem? (i := 608) rfl
set_option maxRecDepth 100000 in
theorem cw_X8_saveAhead : Jvm.Cond.code yX8_saveAhead cX8_saveAhead 1 (none) ∈ lw_tbl := List.mem_of_getElem? (i := 633) rfl
set_option maxRecDepth 100000 in
theorem cw_X8_countAct : Jvm.Cond.code yX8_countAct cX8_countAct 2 (some .boolean) ∈ lw_tbl := List.mem_of_getElem? (i := 725) rfl
set_option maxRecDepth 100000 in
theorem cw_X8_leastOfTrial : Jvm.Cond.code yX8_leastOfTrial cX8_leastOfTrial 1 (some .int) ∈ lw_tbl := List.mem_of_getElem? (i := 993) rfl
set_option maxRecDepth 100000 in
theorem cw_X8_less : Jvm.Cond.code yX8_less cX8_less 2 (some .int) ∈ lw_tbl := List.mem_of_getElem? (i := 1029) rfl
set_option maxRecDepth 100000 in
theorem cw_X8_byteOf : Jvm.Cond.code yX8_byteOf cX8_byteOf 3 (some .int) ∈ lw_tbl := List.mem_of_getElem? (i := 461) rfl
set_option maxRecDepth 100000 in
theorem cw_X8_toldEdge : Jvm.Cond.code yX8_toldEdge cX8_toldEdge 1 (some .int) ∈ lw_tbl := List.mem_of_getElem? (i := 865) rfl
set_option maxRecDepth 100000 in
theorem cw_X8_isRule : Jvm.Cond.code yX8_isRule cX8_isRule 1 (some .boolean) ∈ lw_tbl := List.mem_of_getElem? (i := 746) rfl
set_option maxRecDepth 100000 in
theorem cw_X4_read : Jvm.Cond.code yX4_read cX4_read 5 (none) ∈ lw_tbl := List.mem_of_getElem? (i := 473) rfl
set_option maxRecDepth 100000 in
theorem cw_X4_readLine : Jvm.Cond.code yX4_readLine cX4_readLine 6 (some .boolean) ∈ lw_tbl := List.mem_of_getElem? (i := 484) rfl
set_option maxRecDepth 100000 in
theorem cw_X4_blame : Jvm.Cond.code yX4_blame cX4_blame 3 (none) ∈ lw_tbl := List.mem_of_getElem? (i := 554) rfl
set_option maxRecDepth 100000 in
theorem cw_X4_findToken : Jvm.Cond.code yX4_findToken cX4_findToken 4 (none) ∈ lw_tbl := List.mem_of_getElem? (i := 477) rfl
set_option maxRecDepth 100000 in
theorem cw_X4_kindOf : Jvm.Cond.code yX4_kindOf cX4_kindOf 1 (some .int) ∈ lw_tbl := List.mem_of_getElem? (i := 480) rfl
set_option maxRecDepth 100000 in
theorem cw_X4_verbHere : Jvm.Cond.code yX4_verbHere cX4_verbHere 5 (some (.object "TreeFlows$Verb")) ∈ lw_tbl := List.mem_of_getElem? (i := 488) rfl
set_option maxRecDepth 100000 in
theorem cw_X4_isHere : Jvm.Cond.code yX4_isHere cX4_isHere 4 (some .boolean) ∈ lw_tbl := List.mem_of_getElem? (i := 498) rfl
set_option maxRecDepth 100000 in
theorem cw_X4_numberHere : Jvm.Cond.code yX4_numberHere cX4_numberHere 4 (some .int) ∈ lw_tbl := List.mem_of_getElem? (i := 550) rfl
set_option maxRecDepth 100000 in
theorem cw_X4_number : Jvm.Cond.code yX4_number cX4_number 3 (some .int) ∈ lw_tbl := List.mem_of_getElem? (i := 578) rfl
set_option maxRecDepth 100000 in
theorem cw_X4_want : Jvm.Cond.code yX4_want cX4_want 7 (none) ∈ lw_tbl := List.mem_of_getElem? (i := 574) rfl
set_option maxRecDepth 100000 in
theorem cw_X4_checkGrid : Jvm.Cond.code yX4_checkGrid cX4_checkGrid 4 (none) ∈ lw_tbl := List.mem_of_getElem? (i := 558) rfl
set_option maxRecDepth 100000 in
theorem cw_X4_checkGridLine : Jvm.Cond.code yX4_checkGridLine cX4_checkGridLine 3 (none) ∈ lw_tbl := List.mem_of_getElem? (i := 562) rfl
set_option maxRecDepth 100000 in
theorem cw_X4_checkPointsThere : Jvm.Cond.code yX4_checkPointsThere cX4_checkPointsThere 3 (none) ∈ lw_tbl := List.mem_of_getElem? (i := 590) rfl
set_option maxRecDepth 100000 in
theorem cw_X4_isArc : Jvm.Cond.code yX4_isArc cX4_isArc 2 (some .boolean) ∈ lw_tbl := List.mem_of_getElem? (i := 582) rfl
set_option maxRecDepth 100000 in
theorem cw_X4_pointsTold : Jvm.Cond.code yX4_pointsTold cX4_pointsTold 3 (some .int) ∈ lw_tbl := List.mem_of_getElem? (i := 594) rfl
set_option maxRecDepth 100000 in
theorem cw_X4_sumOfSupplies : Jvm.Cond.code yX4_sumOfSupplies cX4_sumOfSupplies 3 (some .int) ∈ lw_tbl := List.mem_of_getElem? (i := 604) rfl
set_option maxRecDepth 100000 in
theorem cw_X4_checkOrders : Jvm.Cond.code yX4_checkOrders cX4_checkOrders 2 (none) ∈ lw_tbl := List.mem_of_getElem? (i := 803) rfl
set_option maxRecDepth 100000 in
theorem cw_X4_fill : Jvm.Cond.code yX4_fill cX4_fill 3 (none) ∈ lw_tbl := List.mem_of_getElem? (i := 612) rfl
set_option maxRecDepth 100000 in
theorem cw_X4_fillLine : Jvm.Cond.code yX4_fillLine cX4_fillLine 3 (none) ∈ lw_tbl := List.mem_of_getElem? (i := 617) rfl
set_option maxRecDepth 100000 in
theorem cw_X4_obey : Jvm.Cond.code yX4_obey cX4_obey 4 (some .boolean) ∈ lw_tbl := List.mem_of_getElem? (i := 807) rfl
set_option maxRecDepth 100000 in
theorem cw_X7_numbers : Jvm.Cond.code yX7_numbers cX7_numbers 2 (some .int) ∈ lw_tbl := List.mem_of_getElem? (i := 494) rfl
set_option maxRecDepth 100000 in
theorem cw_J6_bitCount_0f7a4 : Jvm.Cond.code yJ6_bitCount_0f7a4 cJ6_bitCount_0f7a4 1 (some .int) ∈ lw_tbl := List.mem_of_getElem? (i := 1009) rfl
abbrev tf_Row : Type := MethodName × Option FieldType × Nat × Nat × Nat × ByteArray × Nat × tf_Bk
def tf_RowOk (q : tf_Row) : Prop := tf_Bck q.2.2.2.2.2.1 q.2.2.2.2.2.2.1 q.2.2.2.2.2.2.2 = true ∧ Jvm.Cond.code q.1 q.2.2.2.2.2.1 q.2.2.2.2.2.2.1 q.2.1 ∈ lw_tbl
def tf_al0 : List tf_Row := [(yX9_in, some .boolean, 99, 3, 7, cX9_in, 3, tb_X9_in), (yX9_lesser, some .int, 99, 2, 7, cX9_lesser, 2, tb_X9_lesser), (yX9_greater, some .int, 99, 2, 7, cX9_greater, 2, tb_X9_greater), (yX9_of, some .int, 7, 2, 7, cX9_of, 3, tb_X9_of), (yX9_puts, none, 7, 3, 7, cX9_puts, 4, tb_X9_puts), (yX9_isArc, some .boolean, 7, 1, 7, cX9_isArc, 2, tb_X9_isArc), (yX9_isPoint, some .boolean, 7, 1, 7, cX9_isPoint, 2, tb_X9_isPoint), (yX9_areTwo, some .boolean, 7, 2, 7, cX9_areTwo, 3, tb_X9_areTwo), (yX9_spell, some .int, 7, 1, 7, cX9_spell, 5, tb_X9_spell), (yX9_see, some .int, 7, 0, 7, cX9_see, 1, tb_X9_see), (yX9_token, none, 7, 0, 7, cX9_token, 3, tb_X9_token), (yX9_fails, some .boolean, 7, 0, 7, cX9_fails, 1, tb_X9_fails), (yX9_isBad, none, 7, 1, 7, cX9_isBad, 2, tb_X9_isBad), (yX9_takes, some .boolean, 7, 3, 7, cX9_takes, 4, tb_X9_takes), (yX9_atFirst, none, 7, 0, 7, cX9_atFirst, 2, tb_X9_atFirst), (yX9_takesPoint, some .boolean, 7, 2, 7, cX9_takesPoint, 4, tb_X9_takesPoint), (yX9_arcLine, some .boolean, 7, 1, 7, cX9_arcLine, 3, tb_X9_arcLine), (yX9_ruleBy, some .int, 99, 1, 7, cX9_ruleBy, 2, tb_X9_ruleBy), (yX9_gridLine, some .boolean, 7, 1, 7, cX9_gridLine, 4, tb_X9_gridLine), (yX9_orderLine, some .boolean, 7, 1, 7, cX9_orderLine, 8, tb_X9_orderLine), (yX9_allLines, some .boolean, 7, 1, 7, cX9_allLines, 5, tb_X9_allLines), (yX9_missing, some .int, 7, 0, 7, cX9_missing, 3, tb_X9_missing), (yX9_isFaulty, none, 7, 2, 7, cX9_isFaulty, 3, tb_X9_isFaulty), (yX9_taken, none, 7, 0, 7, cX9_taken, 2, tb_X9_taken), (yX9_lay, some .int, 7, 0, 7, cX9_lay, 4, tb_X9_lay)]
theorem tf_al0_ok : ∀ q ∈ tf_al0, tf_RowOk q := List.forall_mem_cons.mpr ⟨⟨ck_X9_in, cw_X9_in⟩, List.forall_mem_cons.mpr ⟨⟨ck_X9_lesser, cw_X9_lesser⟩, List.forall_mem_cons.mpr ⟨⟨ck_X9_greater, cw_X9_greater⟩, List.forall_mem_cons.mpr ⟨⟨ck_X9_of, cw_X9_of⟩, List.forall_mem_cons.mpr ⟨⟨ck_X9_puts, cw_X9_puts⟩, List.forall_mem_cons.mpr ⟨⟨ck_X9_isArc, cw_X9_isArc⟩, List.forall_mem_cons.mpr ⟨⟨ck_X9_isPoint, cw_X9_isPoint⟩, List.forall_mem_cons.mpr ⟨⟨ck_X9_areTwo, cw_X9_areTwo⟩, List.forall_mem_cons.mpr ⟨⟨ck_X9_spell, cw_X9_spell⟩, List.forall_mem_cons.mpr ⟨⟨ck_X9_see, cw_X9_see⟩, List.forall_mem_cons.mpr ⟨⟨ck_X9_token, cw_X9_token⟩, List.forall_mem_cons.mpr ⟨⟨ck_X9_fails, cw_X9_fails⟩, List.forall_mem_cons.mpr ⟨⟨ck_X9_isBad, cw_X9_isBad⟩, List.forall_mem_cons.mpr ⟨⟨ck_X9_takes, cw_X9_takes⟩, List.forall_mem_cons.mpr ⟨⟨ck_X9_atFirst, cw_X9_atFirst⟩, List.forall_mem_cons.mpr ⟨⟨ck_X9_takesPoint, cw_X9_takesPoint⟩, List.forall_mem_cons.mpr ⟨⟨ck_X9_arcLine, cw_X9_arcLine⟩, List.forall_mem_cons.mpr ⟨⟨ck_X9_ruleBy, cw_X9_ruleBy⟩, List.forall_mem_cons.mpr ⟨⟨ck_X9_gridLine, cw_X9_gridLine⟩, List.forall_mem_cons.mpr ⟨⟨ck_X9_orderLine, cw_X9_orderLine⟩, List.forall_mem_cons.mpr ⟨⟨ck_X9_allLines, cw_X9_allLines⟩, List.forall_mem_cons.mpr ⟨⟨ck_X9_missing, cw_X9_missing⟩, List.forall_mem_cons.mpr ⟨⟨ck_X9_isFaulty, cw_X9_isFaulty⟩, List.forall_mem_cons.mpr ⟨⟨ck_X9_taken, cw_X9_taken⟩, List.forall_mem_cons.mpr ⟨⟨ck_X9_lay, cw_X9_lay⟩, fun _ h => absurd h List.not_mem_nil⟩⟩⟩⟩⟩⟩⟩⟩⟩⟩⟩⟩⟩⟩⟩⟩⟩⟩⟩⟩⟩⟩⟩⟩⟩
def tf_al1 : List tf_Row := [(yX9_fault, some .int, 7, 1, 7, cX9_fault, 2, tb_X9_fault), (yX9_root, some .int, 7, 0, 7, cX9_root, 1, tb_X9_root), (yX9_isLoan, some .boolean, 99, 1, 7, cX9_isLoan, 1, tb_X9_isLoan), (yX9_hangs, some .boolean, 7, 1, 7, cX9_hangs, 2, tb_X9_hangs), (yX9_settles, none, 7, 4, 7, cX9_settles, 5, tb_X9_settles), (yX9_laysTree, none, 7, 0, 7, cX9_laysTree, 5, tb_X9_laysTree), (yX9_reduced, some .int, 7, 1, 7, cX9_reduced, 2, tb_X9_reduced), (yX9_offers, some .boolean, 7, 1, 7, cX9_offers, 3, tb_X9_offers), (yX9_isBest, some .boolean, 7, 0, 7, cX9_isBest, 1, tb_X9_isBest), (yX9_offerMany, some .int, 7, 0, 7, cX9_offerMany, 3, tb_X9_offerMany), (yX9_farOf, some .int, 7, 1, 7, cX9_farOf, 3, tb_X9_farOf), (yX9_enters, some .int, 7, 0, 7, cX9_enters, 5, tb_X9_enters), (yX9_isAlong, some .boolean, 7, 2, 7, cX9_isAlong, 3, tb_X9_isAlong), (yX9_addsStep, none, 7, 2, 7, cX9_addsStep, 3, tb_X9_addsStep), (yX9_meets, some .int, 7, 2, 7, cX9_meets, 5, tb_X9_meets), (yX9_goesDown, none, 7, 2, 7, cX9_goesDown, 7, tb_X9_goesDown), (yX9_goesUp, none, 7, 2, 7, cX9_goesUp, 4, tb_X9_goesUp), (yX9_roomOf, some .int, 7, 1, 7, cX9_roomOf, 3, tb_X9_roomOf), (yX9_leastRoom, some .int, 7, 0, 7, cX9_leastRoom, 3, tb_X9_leastRoom), (yX9_laysCycle, none, 7, 1, 7, cX9_laysCycle, 5, tb_X9_laysCycle), (yX9_leaves, some .int, 7, 1, 7, cX9_leaves, 4, tb_X9_leaves), (yX9_flows, none, 7, 1, 7, cX9_flows, 5, tb_X9_flows), (yX9_goesOut, none, 7, 1, 7, cX9_goesOut, 2, tb_X9_goesOut), (yX9_isPast, none, 7, 3, 7, cX9_isPast, 5, tb_X9_isPast), (yX9_turns, some .int, 7, 0, 7, cX9_turns, 4, tb_X9_turns)]
theorem tf_al1_ok : ∀ q ∈ tf_al1, tf_RowOk q := List.forall_mem_cons.mpr ⟨⟨ck_X9_fault, cw_X9_fault⟩, List.forall_mem_cons.mpr ⟨⟨ck_X9_root, cw_X9_root⟩, List.forall_mem_cons.mpr ⟨⟨ck_X9_isLoan, cw_X9_isLoan⟩, List.forall_mem_cons.mpr ⟨⟨ck_X9_hangs, cw_X9_hangs⟩, List.forall_mem_cons.mpr ⟨⟨ck_X9_settles, cw_X9_settles⟩, List.forall_mem_cons.mpr ⟨⟨ck_X9_laysTree, cw_X9_laysTree⟩, List.forall_mem_cons.mpr ⟨⟨ck_X9_reduced, cw_X9_reduced⟩, List.forall_mem_cons.mpr ⟨⟨ck_X9_offers, cw_X9_offers⟩, List.forall_mem_cons.mpr ⟨⟨ck_X9_isBest, cw_X9_isBest⟩, List.forall_mem_cons.mpr ⟨⟨ck_X9_offerMany, cw_X9_offerMany⟩, List.forall_mem_cons.mpr ⟨⟨ck_X9_farOf, cw_X9_farOf⟩, List.forall_mem_cons.mpr ⟨⟨ck_X9_enters, cw_X9_enters⟩, List.forall_mem_cons.mpr ⟨⟨ck_X9_isAlong, cw_X9_isAlong⟩, List.forall_mem_cons.mpr ⟨⟨ck_X9_addsStep, cw_X9_addsStep⟩, List.forall_mem_cons.mpr ⟨⟨ck_X9_meets, cw_X9_meets⟩, List.forall_mem_cons.mpr ⟨⟨ck_X9_goesDown, cw_X9_goesDown⟩, List.forall_mem_cons.mpr ⟨⟨ck_X9_goesUp, cw_X9_goesUp⟩, List.forall_mem_cons.mpr ⟨⟨ck_X9_roomOf, cw_X9_roomOf⟩, List.forall_mem_cons.mpr ⟨⟨ck_X9_leastRoom, cw_X9_leastRoom⟩, List.forall_mem_cons.mpr ⟨⟨ck_X9_laysCycle, cw_X9_laysCycle⟩, List.forall_mem_cons.mpr ⟨⟨ck_X9_leaves, cw_X9_leaves⟩, List.forall_mem_cons.mpr ⟨⟨ck_X9_flows, cw_X9_flows⟩, List.forall_mem_cons.mpr ⟨⟨ck_X9_goesOut, cw_X9_goesOut⟩, List.forall_mem_cons.mpr ⟨⟨ck_X9_isPast, cw_X9_isPast⟩, List.forall_mem_cons.mpr ⟨⟨ck_X9_turns, cw_X9_turns⟩, fun _ h => absurd h List.not_mem_nil⟩⟩⟩⟩⟩⟩⟩⟩⟩⟩⟩⟩⟩⟩⟩⟩⟩⟩⟩⟩⟩⟩⟩⟩⟩
def tf_al2 : List tf_Row := [(yX9_pivotsTill, some .int, 7, 1, 7, cX9_pivotsTill, 3, tb_X9_pivotsTill), (yX9_begins, none, 7, 1, 7, cX9_begins, 5, tb_X9_begins), (yX9_beginsAgain, none, 7, 1, 7, cX9_beginsAgain, 2, tb_X9_beginsAgain), (yX9_keeps, none, 7, 1, 7, cX9_keeps, 3, tb_X9_keeps), (yX9_pivot, some .int, 7, 0, 7, cX9_pivot, 1, tb_X9_pivot), (yX9_pivots, some .int, 7, 1, 7, cX9_pivots, 2, tb_X9_pivots), (yX9_rule, some .boolean, 7, 1, 7, cX9_rule, 2, tb_X9_rule), (yX9_canShift, some .boolean, 7, 3, 7, cX9_canShift, 4, tb_X9_canShift), (yX9_shifts, none, 7, 3, 7, cX9_shifts, 4, tb_X9_shifts), (yX9_shift, some .boolean, 7, 3, 7, cX9_shift, 4, tb_X9_shift), (yX9_canBe, some .boolean, 7, 4, 7, cX9_canBe, 5, tb_X9_canBe), (yX9_becomes, none, 7, 3, 7, cX9_becomes, 4, tb_X9_becomes), (yX9_tells, some .boolean, 7, 4, 7, cX9_tells, 5, tb_X9_tells), (yX9_block, some .boolean, 7, 2, 7, cX9_block, 3, tb_X9_block), (yX9_widen, some .boolean, 7, 2, 7, cX9_widen, 3, tb_X9_widen), (yX9_charge, some .boolean, 7, 2, 7, cX9_charge, 3, tb_X9_charge), (yX9_cold, none, 7, 0, 7, cX9_cold, 1, tb_X9_cold), (yX9_isDoneArc, some .boolean, 7, 4, 7, cX9_isDoneArc, 6, tb_X9_isDoneArc), (yX9_isDone, some .boolean, 7, 4, 7, cX9_isDone, 7, tb_X9_isDone), (yX9_work, some .int, 7, 0, 7, cX9_work, 3, tb_X9_work), (yX9_undo, some .int, 7, 0, 7, cX9_undo, 2, tb_X9_undo), (yX9_unmet, some .int, 7, 0, 7, cX9_unmet, 3, tb_X9_unmet), (yX9_grid, some .int, 7, 1, 7, cX9_grid, 2, tb_X9_grid), (yX9_arc, some .int, 7, 2, 7, cX9_arc, 3, tb_X9_arc), (yX9_below, some .int, 7, 1, 7, cX9_below, 5, tb_X9_below)]
theorem tf_al2_ok : ∀ q ∈ tf_al2, tf_RowOk q := List.forall_mem_cons.mpr ⟨⟨ck_X9_pivotsTill, cw_X9_pivotsTill⟩, List.forall_mem_cons.mpr ⟨⟨ck_X9_begins, cw_X9_begins⟩, List.forall_mem_cons.mpr ⟨⟨ck_X9_beginsAgain, cw_X9_beginsAgain⟩, List.forall_mem_cons.mpr ⟨⟨ck_X9_keeps, cw_X9_keeps⟩, List.forall_mem_cons.mpr ⟨⟨ck_X9_pivot, cw_X9_pivot⟩, List.forall_mem_cons.mpr ⟨⟨ck_X9_pivots, cw_X9_pivots⟩, List.forall_mem_cons.mpr ⟨⟨ck_X9_rule, cw_X9_rule⟩, List.forall_mem_cons.mpr ⟨⟨ck_X9_canShift, cw_X9_canShift⟩, List.forall_mem_cons.mpr ⟨⟨ck_X9_shifts, cw_X9_shifts⟩, List.forall_mem_cons.mpr ⟨⟨ck_X9_shift, cw_X9_shift⟩, List.forall_mem_cons.mpr ⟨⟨ck_X9_canBe, cw_X9_canBe⟩, List.forall_mem_cons.mpr ⟨⟨ck_X9_becomes, cw_X9_becomes⟩, List.forall_mem_cons.mpr ⟨⟨ck_X9_tells, cw_X9_tells⟩, List.forall_mem_cons.mpr ⟨⟨ck_X9_block, cw_X9_block⟩, List.forall_mem_cons.mpr ⟨⟨ck_X9_widen, cw_X9_widen⟩, List.forall_mem_cons.mpr ⟨⟨ck_X9_charge, cw_X9_charge⟩, List.forall_mem_cons.mpr ⟨⟨ck_X9_cold, cw_X9_cold⟩, List.forall_mem_cons.mpr ⟨⟨ck_X9_isDoneArc, cw_X9_isDoneArc⟩, List.forall_mem_cons.mpr ⟨⟨ck_X9_isDone, cw_X9_isDone⟩, List.forall_mem_cons.mpr ⟨⟨ck_X9_work, cw_X9_work⟩, List.forall_mem_cons.mpr ⟨⟨ck_X9_undo, cw_X9_undo⟩, List.forall_mem_cons.mpr ⟨⟨ck_X9_unmet, cw_X9_unmet⟩, List.forall_mem_cons.mpr ⟨⟨ck_X9_grid, cw_X9_grid⟩, List.forall_mem_cons.mpr ⟨⟨ck_X9_arc, cw_X9_arc⟩, List.forall_mem_cons.mpr ⟨⟨ck_X9_below, cw_X9_below⟩, fun _ h => absurd h List.not_mem_nil⟩⟩⟩⟩⟩⟩⟩⟩⟩⟩⟩⟩⟩⟩⟩⟩⟩⟩⟩⟩⟩⟩⟩⟩⟩
def tf_al3 : List tf_Row := [(yX9_point, some .int, 7, 2, 7, cX9_point, 3, tb_X9_point), (yX9_childOf, some .int, 7, 2, 7, cX9_childOf, 4, tb_X9_childOf), (yX9_thread, some .int, 7, 1, 7, cX9_thread, 5, tb_X9_thread), (yX9_costOfCycle, some .int, 7, 0, 7, cX9_costOfCycle, 4, tb_X9_costOfCycle), (yX9_path, some .int, 7, 3, 7, cX9_path, 5, tb_X9_path), (yX9_next, some .int, 7, 1, 7, cX9_next, 4, tb_X9_next), (yX9_past, some .int, 7, 2, 7, cX9_past, 3, tb_X9_past), (yX9_billed, some .int, 7, 0, 7, cX9_billed, 3, tb_X9_billed), (yX9_bill, some .int, 7, 1, 7, cX9_bill, 4, tb_X9_bill), (yX9_flowAt, some .int, 7, 1, 7, cX9_flowAt, 4, tb_X9_flowAt), (yX9_ledger, some .int, 7, 2, 7, cX9_ledger, 5, tb_X9_ledger), (yX9_wide, some .int, 7, 2, 7, cX9_wide, 6, tb_X9_wide), (yX9_outOf, some .int, 7, 1, 7, cX9_outOf, 3, tb_X9_outOf), (yX9_startOf, some .int, 7, 0, 7, cX9_startOf, 5, tb_X9_startOf), (yX9_stopAt, some .int, 7, 2, 7, cX9_stopAt, 4, tb_X9_stopAt), (yX9_goesTrip, some .boolean, 7, 0, 7, cX9_goesTrip, 7, tb_X9_goesTrip), (yX9_trip, some .int, 7, 2, 7, cX9_trip, 5, tb_X9_trip), (yX9_flowIn, some .int, 7, 2, 7, cX9_flowIn, 4, tb_X9_flowIn), (yX9_apart, some .int, 7, 1, 7, cX9_apart, 4, tb_X9_apart), (yX9_span, some .int, 7, 2, 7, cX9_span, 7, tb_X9_span), (yX9_asNow, none, 7, 0, 7, cX9_asNow, 2, tb_X9_asNow), (yX9_relaxes, some .boolean, 7, 2, 7, cX9_relaxes, 7, tb_X9_relaxes), (yX9_laysCheapest, none, 7, 0, 7, cX9_laysCheapest, 4, tb_X9_laysCheapest), (yX9_wanting, some .int, 7, 0, 7, cX9_wanting, 3, tb_X9_wanting), (yX9_backBy, some .int, 7, 1, 7, cX9_backBy, 2, tb_X9_backBy)]
theorem tf_al3_ok : ∀ q ∈ tf_al3, tf_RowOk q := List.forall_mem_cons.mpr ⟨⟨ck_X9_point, cw_X9_point⟩, List.forall_mem_cons.mpr ⟨⟨ck_X9_childOf, cw_X9_childOf⟩, List.forall_mem_cons.mpr ⟨⟨ck_X9_thread, cw_X9_thread⟩, List.forall_mem_cons.mpr ⟨⟨ck_X9_costOfCycle, cw_X9_costOfCycle⟩, List.forall_mem_cons.mpr ⟨⟨ck_X9_path, cw_X9_path⟩, List.forall_mem_cons.mpr ⟨⟨ck_X9_next, cw_X9_next⟩, List.forall_mem_cons.mpr ⟨⟨ck_X9_past, cw_X9_past⟩, List.forall_mem_cons.mpr ⟨⟨ck_X9_billed, cw_X9_billed⟩, List.forall_mem_cons.mpr ⟨⟨ck_X9_bill, cw_X9_bill⟩, List.forall_mem_cons.mpr ⟨⟨ck_X9_flowAt, cw_X9_flowAt⟩, List.forall_mem_cons.mpr ⟨⟨ck_X9_ledger, cw_X9_ledger⟩, List.forall_mem_cons.mpr ⟨⟨ck_X9_wide, cw_X9_wide⟩, List.forall_mem_cons.mpr ⟨⟨ck_X9_outOf, cw_X9_outOf⟩, List.forall_mem_cons.mpr ⟨⟨ck_X9_startOf, cw_X9_startOf⟩, List.forall_mem_cons.mpr ⟨⟨ck_X9_stopAt, cw_X9_stopAt⟩, List.forall_mem_cons.mpr ⟨⟨ck_X9_goesTrip, cw_X9_goesTrip⟩, List.forall_mem_cons.mpr ⟨⟨ck_X9_trip, cw_X9_trip⟩, List.forall_mem_cons.mpr ⟨⟨ck_X9_flowIn, cw_X9_flowIn⟩, List.forall_mem_cons.mpr ⟨⟨ck_X9_apart, cw_X9_apart⟩, List.forall_mem_cons.mpr ⟨⟨ck_X9_span, cw_X9_span⟩, List.forall_mem_cons.mpr ⟨⟨ck_X9_asNow, cw_X9_asNow⟩, List.forall_mem_cons.mpr ⟨⟨ck_X9_relaxes, cw_X9_relaxes⟩, List.forall_mem_cons.mpr ⟨⟨ck_X9_laysCheapest, cw_X9_laysCheapest⟩, List.forall_mem_cons.mpr ⟨⟨ck_X9_wanting, cw_X9_wanting⟩, List.forall_mem_cons.mpr ⟨⟨ck_X9_backBy, cw_X9_backBy⟩, fun _ h => absurd h List.not_mem_nil⟩⟩⟩⟩⟩⟩⟩⟩⟩⟩⟩⟩⟩⟩⟩⟩⟩⟩⟩⟩⟩⟩⟩⟩⟩
def tf_al4 : List tf_Row := [(yX9_sendsTo, none, 7, 1, 7, cX9_sendsTo, 5, tb_X9_sendsTo), (yX9_carries, some .boolean, 7, 0, 7, cX9_carries, 3, tb_X9_carries), (yX9_cheapestCost, some .int, 7, 0, 7, cX9_cheapestCost, 3, tb_X9_cheapestCost), (yX9_least, some .int, 7, 0, 7, cX9_least, 1, tb_X9_least), (yX9_lessThan, some .int, 7, 2, 7, cX9_lessThan, 3, tb_X9_lessThan), (yX9_worth, some .int, 7, 2, 7, cX9_worth, 4, tb_X9_worth), (yX9_toll, some .int, 7, 2, 7, cX9_toll, 4, tb_X9_toll), (yX9_bothOf, some .int, 7, 1, 7, cX9_bothOf, 5, tb_X9_bothOf), (yX9_ones, some .int, 99, 1, 7, cX9_ones, 3, tb_X9_ones), (yX9_cut, some .int, 7, 0, 7, cX9_cut, 4, tb_X9_cut), (yX9_lack, some .int, 7, 0, 7, cX9_lack, 3, tb_X9_lack), (yX9_steps, some .int, 7, 1, 7, cX9_steps, 3, tb_X9_steps), (yX9_copies, none, 7, 2, 7, cX9_copies, 4, tb_X9_copies), (yX9_copiesText, none, 7, 2, 7, cX9_copiesText, 4, tb_X9_copiesText), (yX9_image, some .boolean, 7, 1, 7, cX9_image, 2, tb_X9_image), (yX9_again, some .boolean, 7, 1, 7, cX9_again, 2, tb_X9_again), (yX1_copyFrom, none, 0, 1, 0, cX1_copyFrom, 2, tb_X1_copyFrom), (yX1_clear, none, 0, 1, 0, cX1_clear, 3, tb_X1_clear), (yX1_addArc, none, 0, 4, 0, cX1_addArc, 5, tb_X1_addArc), (yX1_hasArc, some .boolean, 0, 1, 0, cX1_hasArc, 2, tb_X1_hasArc), (yX1_hasPoint, some .boolean, 0, 1, 0, cX1_hasPoint, 2, tb_X1_hasPoint), (yX1_hasTwoPoints, some .boolean, 0, 2, 0, cX1_hasTwoPoints, 3, tb_X1_hasTwoPoints), (yX1_toldNode, some .int, 0, 1, 0, cX1_toldNode, 2, tb_X1_toldNode), (yX1_setRule, some .boolean, 0, 1, 0, cX1_setRule, 2, tb_X1_setRule), (yX1_moveSupply, some .boolean, 0, 3, 0, cX1_moveSupply, 4, tb_X1_moveSupply)]
theorem tf_al4_ok : ∀ q ∈ tf_al4, tf_RowOk q := List.forall_mem_cons.mpr ⟨⟨ck_X9_sendsTo, cw_X9_sendsTo⟩, List.forall_mem_cons.mpr ⟨⟨ck_X9_carries, cw_X9_carries⟩, List.forall_mem_cons.mpr ⟨⟨ck_X9_cheapestCost, cw_X9_cheapestCost⟩, List.forall_mem_cons.mpr ⟨⟨ck_X9_least, cw_X9_least⟩, List.forall_mem_cons.mpr ⟨⟨ck_X9_lessThan, cw_X9_lessThan⟩, List.forall_mem_cons.mpr ⟨⟨ck_X9_worth, cw_X9_worth⟩, List.forall_mem_cons.mpr ⟨⟨ck_X9_toll, cw_X9_toll⟩, List.forall_mem_cons.mpr ⟨⟨ck_X9_bothOf, cw_X9_bothOf⟩, List.forall_mem_cons.mpr ⟨⟨ck_X9_ones, cw_X9_ones⟩, List.forall_mem_cons.mpr ⟨⟨ck_X9_cut, cw_X9_cut⟩, List.forall_mem_cons.mpr ⟨⟨ck_X9_lack, cw_X9_lack⟩, List.forall_mem_cons.mpr ⟨⟨ck_X9_steps, cw_X9_steps⟩, List.forall_mem_cons.mpr ⟨⟨ck_X9_copies, cw_X9_copies⟩, List.forall_mem_cons.mpr ⟨⟨ck_X9_copiesText, cw_X9_copiesText⟩, List.forall_mem_cons.mpr ⟨⟨ck_X9_image, cw_X9_image⟩, List.forall_mem_cons.mpr ⟨⟨ck_X9_again, cw_X9_again⟩, List.forall_mem_cons.mpr ⟨⟨ck_X1_copyFrom, cw_X1_copyFrom⟩, List.forall_mem_cons.mpr ⟨⟨ck_X1_clear, cw_X1_clear⟩, List.forall_mem_cons.mpr ⟨⟨ck_X1_addArc, cw_X1_addArc⟩, List.forall_mem_cons.mpr ⟨⟨ck_X1_hasArc, cw_X1_hasArc⟩, List.forall_mem_cons.mpr ⟨⟨ck_X1_hasPoint, cw_X1_hasPoint⟩, List.forall_mem_cons.mpr ⟨⟨ck_X1_hasTwoPoints, cw_X1_hasTwoPoints⟩, List.forall_mem_cons.mpr ⟨⟨ck_X1_toldNode, cw_X1_toldNode⟩, List.forall_mem_cons.mpr ⟨⟨ck_X1_setRule, cw_X1_setRule⟩, List.forall_mem_cons.mpr ⟨⟨ck_X1_moveSupply, cw_X1_moveSupply⟩, fun _ h => absurd h List.not_mem_nil⟩⟩⟩⟩⟩⟩⟩⟩⟩⟩⟩⟩⟩⟩⟩⟩⟩⟩⟩⟩⟩⟩⟩⟩⟩
def tf_al5 : List tf_Row := [(yX1_setOpen, some .boolean, 0, 2, 0, cX1_setOpen, 3, tb_X1_setOpen), (yX1_setBound, some .boolean, 0, 2, 0, cX1_setBound, 3, tb_X1_setBound), (yX1_setCost, some .boolean, 0, 2, 0, cX1_setCost, 3, tb_X1_setCost), (yX1_begin, none, 0, 1, 0, cX1_begin, 4, tb_X1_begin), (yX1_hangByLoan, none, 0, 1, 0, cX1_hangByLoan, 4, tb_X1_hangByLoan), (yX1_setPrices, none, 0, 0, 0, cX1_setPrices, 6, tb_X1_setPrices), (yX1_reduced, some .int, 0, 1, 0, cX1_reduced, 2, tb_X1_reduced), (yX1_mayOffer, some .boolean, 0, 1, 0, cX1_mayOffer, 2, tb_X1_mayOffer), (yX1_offer, some .int, 0, 1, 0, cX1_offer, 2, tb_X1_offer), (yX1_countOffers, some .int, 0, 0, 0, cX1_countOffers, 3, tb_X1_countOffers), (yX1_pick, some .int, 0, 1, 0, cX1_pick, 8, tb_X1_pick), (yX1_room, some .int, 0, 2, 0, cX1_room, 3, tb_X1_room), (yX1_hasOnWay, some .boolean, 0, 2, 0, cX1_hasOnWay, 5, tb_X1_hasOnWay), (yX1_depth, some .int, 0, 1, 0, cX1_depth, 4, tb_X1_depth), (yX1_countBelow, some .int, 0, 1, 0, cX1_countBelow, 4, tb_X1_countBelow), (yX1_loanFlow, some .int, 0, 1, 0, cX1_loanFlow, 3, tb_X1_loanFlow), (yX1_childBehind, some .int, 0, 2, 0, cX1_childBehind, 4, tb_X1_childBehind), (yX1_threadBehind, some .int, 0, 1, 0, cX1_threadBehind, 5, tb_X1_threadBehind), (yX1_rehang, none, 0, 4, 0, cX1_rehang, 11, tb_X1_rehang), (yX1_unmet, some .int, 0, 0, 0, cX1_unmet, 3, tb_X1_unmet), (yX1_spent, some .int, 0, 0, 0, cX1_spent, 3, tb_X1_spent), (yX1_flowingCostAbove, some .int, 0, 1, 0, cX1_flowingCostAbove, 4, tb_X1_flowingCostAbove), (yX1_flowAtCost, some .int, 0, 1, 0, cX1_flowAtCost, 4, tb_X1_flowAtCost), (yX1_countApart, some .int, 0, 1, 0, cX1_countApart, 6, tb_X1_countApart), (yX1_spread, none, 0, 1, 0, cX1_spread, 5, tb_X1_spread)]
theorem tf_al5_ok : ∀ q ∈ tf_al5, tf_RowOk q := List.forall_mem_cons.mpr ⟨⟨ck_X1_setOpen, cw_X1_setOpen⟩, List.forall_mem_cons.mpr ⟨⟨ck_X1_setBound, cw_X1_setBound⟩, List.forall_mem_cons.mpr ⟨⟨ck_X1_setCost, cw_X1_setCost⟩, List.forall_mem_cons.mpr ⟨⟨ck_X1_begin, cw_X1_begin⟩, List.forall_mem_cons.mpr ⟨⟨ck_X1_hangByLoan, cw_X1_hangByLoan⟩, List.forall_mem_cons.mpr ⟨⟨ck_X1_setPrices, cw_X1_setPrices⟩, List.forall_mem_cons.mpr ⟨⟨ck_X1_reduced, cw_X1_reduced⟩, List.forall_mem_cons.mpr ⟨⟨ck_X1_mayOffer, cw_X1_mayOffer⟩, List.forall_mem_cons.mpr ⟨⟨ck_X1_offer, cw_X1_offer⟩, List.forall_mem_cons.mpr ⟨⟨ck_X1_countOffers, cw_X1_countOffers⟩, List.forall_mem_cons.mpr ⟨⟨ck_X1_pick, cw_X1_pick⟩, List.forall_mem_cons.mpr ⟨⟨ck_X1_room, cw_X1_room⟩, List.forall_mem_cons.mpr ⟨⟨ck_X1_hasOnWay, cw_X1_hasOnWay⟩, List.forall_mem_cons.mpr ⟨⟨ck_X1_depth, cw_X1_depth⟩, List.forall_mem_cons.mpr ⟨⟨ck_X1_countBelow, cw_X1_countBelow⟩, List.forall_mem_cons.mpr ⟨⟨ck_X1_loanFlow, cw_X1_loanFlow⟩, List.forall_mem_cons.mpr ⟨⟨ck_X1_childBehind, cw_X1_childBehind⟩, List.forall_mem_cons.mpr ⟨⟨ck_X1_threadBehind, cw_X1_threadBehind⟩, List.forall_mem_cons.mpr ⟨⟨ck_X1_rehang, cw_X1_rehang⟩, List.forall_mem_cons.mpr ⟨⟨ck_X1_unmet, cw_X1_unmet⟩, List.forall_mem_cons.mpr ⟨⟨ck_X1_spent, cw_X1_spent⟩, List.forall_mem_cons.mpr ⟨⟨ck_X1_flowingCostAbove, cw_X1_flowingCostAbove⟩, List.forall_mem_cons.mpr ⟨⟨ck_X1_flowAtCost, cw_X1_flowAtCost⟩, List.forall_mem_cons.mpr ⟨⟨ck_X1_countApart, cw_X1_countApart⟩, List.forall_mem_cons.mpr ⟨⟨ck_X1_spread, cw_X1_spread⟩, fun _ h => absurd h List.not_mem_nil⟩⟩⟩⟩⟩⟩⟩⟩⟩⟩⟩⟩⟩⟩⟩⟩⟩⟩⟩⟩⟩⟩⟩⟩⟩
def tf_al6 : List tf_Row := [(yX1_shortOf, some .int, 0, 1, 0, cX1_shortOf, 4, tb_X1_shortOf), (yX1_worstSet, some .int, 0, 0, 0, cX1_worstSet, 6, tb_X1_worstSet), (yX1_lowestCost, some .int, 0, 1, 0, cX1_lowestCost, 5, tb_X1_lowestCost), (yX1_highestCost, some .int, 0, 1, 0, cX1_highestCost, 5, tb_X1_highestCost), (yX1_slope, some .int, 0, 2, 0, cX1_slope, 7, tb_X1_slope), (yX2_put, none, 1, 1, 1, cX2_put, 2, tb_X2_put), (yX2_copyFrom, none, 1, 1, 1, cX2_copyFrom, 2, tb_X2_copyFrom), (yX3_way, none, 2, 3, 2, cX3_way, 4, tb_X3_way), (yX3_cycle, none, 2, 2, 2, cX3_cycle, 7, tb_X3_cycle), (yX3_step, some .int, 2, 2, 2, cX3_step, 5, tb_X3_step), (yX3_run, some .int, 2, 3, 2, cX3_run, 5, tb_X3_run), (yX3_leaving, some .int, 2, 0, 2, cX3_leaving, 1, tb_X3_leaving), (yX3_leastRoom, some .int, 2, 1, 2, cX3_leastRoom, 4, tb_X3_leastRoom), (yX3_cost, some .int, 2, 1, 2, cX3_cost, 4, tb_X3_cost), (yX3_told, some .int, 2, 2, 2, cX3_told, 3, tb_X3_told), (yX3_exchange, none, 2, 3, 2, cX3_exchange, 6, tb_X3_exchange), (yX3_meeting, some .int, 99, 3, 2, cX3_meeting, 5, tb_X3_meeting), (yX3_climb, none, 2, 2, 2, cX3_climb, 6, tb_X3_climb), (yX3_descend, none, 2, 2, 2, cX3_descend, 6, tb_X3_descend), (yX3_add, none, 2, 2, 2, cX3_add, 3, tb_X3_add), (yX5_clear, none, 4, 0, 4, cX5_clear, 1, tb_X5_clear), (yX5_copyFrom, none, 4, 1, 4, cX5_copyFrom, 2, tb_X5_copyFrom), (yX5_count, none, 4, 3, 4, cX5_count, 5, tb_X5_count), (yX5_told, some .int, 4, 2, 4, cX5_told, 4, tb_X5_told), (yX6_split, none, 5, 1, 5, cX6_split, 4, tb_X6_split)]
theorem tf_al6_ok : ∀ q ∈ tf_al6, tf_RowOk q := List.forall_mem_cons.mpr ⟨⟨ck_X1_shortOf, cw_X1_shortOf⟩, List.forall_mem_cons.mpr ⟨⟨ck_X1_worstSet, cw_X1_worstSet⟩, List.forall_mem_cons.mpr ⟨⟨ck_X1_lowestCost, cw_X1_lowestCost⟩, List.forall_mem_cons.mpr ⟨⟨ck_X1_highestCost, cw_X1_highestCost⟩, List.forall_mem_cons.mpr ⟨⟨ck_X1_slope, cw_X1_slope⟩, List.forall_mem_cons.mpr ⟨⟨ck_X2_put, cw_X2_put⟩, List.forall_mem_cons.mpr ⟨⟨ck_X2_copyFrom, cw_X2_copyFrom⟩, List.forall_mem_cons.mpr ⟨⟨ck_X3_way, cw_X3_way⟩, List.forall_mem_cons.mpr ⟨⟨ck_X3_cycle, cw_X3_cycle⟩, List.forall_mem_cons.mpr ⟨⟨ck_X3_step, cw_X3_step⟩, List.forall_mem_cons.mpr ⟨⟨ck_X3_run, cw_X3_run⟩, List.forall_mem_cons.mpr ⟨⟨ck_X3_leaving, cw_X3_leaving⟩, List.forall_mem_cons.mpr ⟨⟨ck_X3_leastRoom, cw_X3_leastRoom⟩, List.forall_mem_cons.mpr ⟨⟨ck_X3_cost, cw_X3_cost⟩, List.forall_mem_cons.mpr ⟨⟨ck_X3_told, cw_X3_told⟩, List.forall_mem_cons.mpr ⟨⟨ck_X3_exchange, cw_X3_exchange⟩, List.forall_mem_cons.mpr ⟨⟨ck_X3_meeting, cw_X3_meeting⟩, List.forall_mem_cons.mpr ⟨⟨ck_X3_climb, cw_X3_climb⟩, List.forall_mem_cons.mpr ⟨⟨ck_X3_descend, cw_X3_descend⟩, List.forall_mem_cons.mpr ⟨⟨ck_X3_add, cw_X3_add⟩, List.forall_mem_cons.mpr ⟨⟨ck_X5_clear, cw_X5_clear⟩, List.forall_mem_cons.mpr ⟨⟨ck_X5_copyFrom, cw_X5_copyFrom⟩, List.forall_mem_cons.mpr ⟨⟨ck_X5_count, cw_X5_count⟩, List.forall_mem_cons.mpr ⟨⟨ck_X5_told, cw_X5_told⟩, List.forall_mem_cons.mpr ⟨⟨ck_X6_split, cw_X6_split⟩, fun _ h => absurd h List.not_mem_nil⟩⟩⟩⟩⟩⟩⟩⟩⟩⟩⟩⟩⟩⟩⟩⟩⟩⟩⟩⟩⟩⟩⟩⟩⟩
def tf_al7 : List tf_Row := [(yX6_told, some .int, 5, 2, 5, cX6_told, 3, tb_X6_told), (yX6_start, some .int, 5, 1, 5, cX6_start, 3, tb_X6_start), (yX6_surplus, some .int, 5, 2, 5, cX6_surplus, 5, tb_X6_surplus), (yX6_arcOut, some .int, 5, 2, 5, cX6_arcOut, 4, tb_X6_arcOut), (yX6_go, none, 5, 2, 5, cX6_go, 5, tb_X6_go), (yX6_keep, none, 5, 0, 5, cX6_keep, 3, tb_X6_keep), (yX8_spell, some .int, 6, 1, 6, cX8_spell, 5, tb_X8_spell), (yX8_lay, some .int, 6, 0, 6, cX8_lay, 1, tb_X8_lay), (yX8_fault, some .int, 6, 1, 6, cX8_fault, 2, tb_X8_fault), (yX8_pivot, some .int, 6, 0, 6, cX8_pivot, 2, tb_X8_pivot), (yX8_pivots, some .int, 6, 1, 6, cX8_pivots, 3, tb_X8_pivots), (yX8_rule, some .boolean, 6, 1, 6, cX8_rule, 2, tb_X8_rule), (yX8_shift, some .boolean, 6, 3, 6, cX8_shift, 4, tb_X8_shift), (yX8_block, some .boolean, 6, 2, 6, cX8_block, 3, tb_X8_block), (yX8_widen, some .boolean, 6, 2, 6, cX8_widen, 3, tb_X8_widen), (yX8_charge, some .boolean, 6, 2, 6, cX8_charge, 3, tb_X8_charge), (yX8_cold, none, 6, 0, 6, cX8_cold, 1, tb_X8_cold), (yX8_work, some .int, 6, 0, 6, cX8_work, 2, tb_X8_work), (yX8_undo, some .int, 6, 0, 6, cX8_undo, 1, tb_X8_undo), (yX8_grid, some .int, 6, 1, 6, cX8_grid, 2, tb_X8_grid), (yX8_thread, some .int, 6, 1, 6, cX8_thread, 4, tb_X8_thread), (yX8_path, some .int, 6, 3, 6, cX8_path, 5, tb_X8_path), (yX8_next, some .int, 6, 1, 6, cX8_next, 3, tb_X8_next), (yX8_past, some .int, 6, 2, 6, cX8_past, 3, tb_X8_past), (yX8_bill, some .int, 6, 1, 6, cX8_bill, 4, tb_X8_bill)]
theorem tf_al7_ok : ∀ q ∈ tf_al7, tf_RowOk q := List.forall_mem_cons.mpr ⟨⟨ck_X6_told, cw_X6_told⟩, List.forall_mem_cons.mpr ⟨⟨ck_X6_start, cw_X6_start⟩, List.forall_mem_cons.mpr ⟨⟨ck_X6_surplus, cw_X6_surplus⟩, List.forall_mem_cons.mpr ⟨⟨ck_X6_arcOut, cw_X6_arcOut⟩, List.forall_mem_cons.mpr ⟨⟨ck_X6_go, cw_X6_go⟩, List.forall_mem_cons.mpr ⟨⟨ck_X6_keep, cw_X6_keep⟩, List.forall_mem_cons.mpr ⟨⟨ck_X8_spell, cw_X8_spell⟩, List.forall_mem_cons.mpr ⟨⟨ck_X8_lay, cw_X8_lay⟩, List.forall_mem_cons.mpr ⟨⟨ck_X8_fault, cw_X8_fault⟩, List.forall_mem_cons.mpr ⟨⟨ck_X8_pivot, cw_X8_pivot⟩, List.forall_mem_cons.mpr ⟨⟨ck_X8_pivots, cw_X8_pivots⟩, List.forall_mem_cons.mpr ⟨⟨ck_X8_rule, cw_X8_rule⟩, List.forall_mem_cons.mpr ⟨⟨ck_X8_shift, cw_X8_shift⟩, List.forall_mem_cons.mpr ⟨⟨ck_X8_block, cw_X8_block⟩, List.forall_mem_cons.mpr ⟨⟨ck_X8_widen, cw_X8_widen⟩, List.forall_mem_cons.mpr ⟨⟨ck_X8_charge, cw_X8_charge⟩, List.forall_mem_cons.mpr ⟨⟨ck_X8_cold, cw_X8_cold⟩, List.forall_mem_cons.mpr ⟨⟨ck_X8_work, cw_X8_work⟩, List.forall_mem_cons.mpr ⟨⟨ck_X8_undo, cw_X8_undo⟩, List.forall_mem_cons.mpr ⟨⟨ck_X8_grid, cw_X8_grid⟩, List.forall_mem_cons.mpr ⟨⟨ck_X8_thread, cw_X8_thread⟩, List.forall_mem_cons.mpr ⟨⟨ck_X8_path, cw_X8_path⟩, List.forall_mem_cons.mpr ⟨⟨ck_X8_next, cw_X8_next⟩, List.forall_mem_cons.mpr ⟨⟨ck_X8_past, cw_X8_past⟩, List.forall_mem_cons.mpr ⟨⟨ck_X8_bill, cw_X8_bill⟩, fun _ h => absurd h List.not_mem_nil⟩⟩⟩⟩⟩⟩⟩⟩⟩⟩⟩⟩⟩⟩⟩⟩⟩⟩⟩⟩⟩⟩⟩⟩⟩
def tf_al8 : List tf_Row := [(yX8_ledger, some .int, 6, 2, 6, cX8_ledger, 5, tb_X8_ledger), (yX8_wide, some .int, 6, 2, 6, cX8_wide, 4, tb_X8_wide), (yX8_trip, some .int, 6, 2, 6, cX8_trip, 3, tb_X8_trip), (yX8_apart, some .int, 6, 1, 6, cX8_apart, 2, tb_X8_apart), (yX8_span, some .int, 6, 2, 6, cX8_span, 3, tb_X8_span), (yX8_least, some .int, 6, 0, 6, cX8_least, 1, tb_X8_least), (yX8_lack, some .int, 6, 0, 6, cX8_lack, 1, tb_X8_lack), (yX8_cut, some .int, 6, 0, 6, cX8_cut, 1, tb_X8_cut), (yX8_steps, some .int, 6, 1, 6, cX8_steps, 2, tb_X8_steps), (yX8_worth, some .int, 6, 2, 6, cX8_worth, 4, tb_X8_worth), (yX8_toll, some .int, 6, 2, 6, cX8_toll, 4, tb_X8_toll), (yX8_image, some .boolean, 6, 1, 6, cX8_image, 2, tb_X8_image), (yX8_again, some .boolean, 6, 1, 6, cX8_again, 2, tb_X8_again), (yX8_hasImage, some .boolean, 6, 1, 6, cX8_hasImage, 2, tb_X8_hasImage), (yX8_takeFault, none, 6, 0, 6, cX8_takeFault, 1, tb_X8_takeFault), (yX8_saveAhead, none, 6, 0, 6, cX8_saveAhead, 1, tb_X8_saveAhead), (yX8_countAct, some .boolean, 6, 1, 6, cX8_countAct, 2, tb_X8_countAct), (yX8_leastOfTrial, some .int, 6, 0, 6, cX8_leastOfTrial, 1, tb_X8_leastOfTrial), (yX8_less, some .int, 99, 2, 6, cX8_less, 2, tb_X8_less), (yX8_byteOf, some .int, 99, 2, 6, cX8_byteOf, 3, tb_X8_byteOf), (yX8_toldEdge, some .int, 99, 1, 6, cX8_toldEdge, 1, tb_X8_toldEdge), (yX8_isRule, some .boolean, 99, 1, 6, cX8_isRule, 1, tb_X8_isRule), (yX4_read, none, 3, 2, 3, cX4_read, 5, tb_X4_read), (yX4_readLine, some .boolean, 3, 2, 3, cX4_readLine, 6, tb_X4_readLine), (yX4_blame, none, 3, 2, 3, cX4_blame, 3, tb_X4_blame)]
theorem tf_al8_ok : ∀ q ∈ tf_al8, tf_RowOk q := List.forall_mem_cons.mpr ⟨⟨ck_X8_ledger, cw_X8_ledger⟩, List.forall_mem_cons.mpr ⟨⟨ck_X8_wide, cw_X8_wide⟩, List.forall_mem_cons.mpr ⟨⟨ck_X8_trip, cw_X8_trip⟩, List.forall_mem_cons.mpr ⟨⟨ck_X8_apart, cw_X8_apart⟩, List.forall_mem_cons.mpr ⟨⟨ck_X8_span, cw_X8_span⟩, List.forall_mem_cons.mpr ⟨⟨ck_X8_least, cw_X8_least⟩, List.forall_mem_cons.mpr ⟨⟨ck_X8_lack, cw_X8_lack⟩, List.forall_mem_cons.mpr ⟨⟨ck_X8_cut, cw_X8_cut⟩, List.forall_mem_cons.mpr ⟨⟨ck_X8_steps, cw_X8_steps⟩, List.forall_mem_cons.mpr ⟨⟨ck_X8_worth, cw_X8_worth⟩, List.forall_mem_cons.mpr ⟨⟨ck_X8_toll, cw_X8_toll⟩, List.forall_mem_cons.mpr ⟨⟨ck_X8_image, cw_X8_image⟩, List.forall_mem_cons.mpr ⟨⟨ck_X8_again, cw_X8_again⟩, List.forall_mem_cons.mpr ⟨⟨ck_X8_hasImage, cw_X8_hasImage⟩, List.forall_mem_cons.mpr ⟨⟨ck_X8_takeFault, cw_X8_takeFault⟩, List.forall_mem_cons.mpr ⟨⟨ck_X8_saveAhead, cw_X8_saveAhead⟩, List.forall_mem_cons.mpr ⟨⟨ck_X8_countAct, cw_X8_countAct⟩, List.forall_mem_cons.mpr ⟨⟨ck_X8_leastOfTrial, cw_X8_leastOfTrial⟩, List.forall_mem_cons.mpr ⟨⟨ck_X8_less, cw_X8_less⟩, List.forall_mem_cons.mpr ⟨⟨ck_X8_byteOf, cw_X8_byteOf⟩, List.forall_mem_cons.mpr ⟨⟨ck_X8_toldEdge, cw_X8_toldEdge⟩, List.forall_mem_cons.mpr ⟨⟨ck_X8_isRule, cw_X8_isRule⟩, List.forall_mem_cons.mpr ⟨⟨ck_X4_read, cw_X4_read⟩, List.forall_mem_cons.mpr ⟨⟨ck_X4_readLine, cw_X4_readLine⟩, List.forall_mem_cons.mpr ⟨⟨ck_X4_blame, cw_X4_blame⟩, fun _ h => absurd h List.not_mem_nil⟩⟩⟩⟩⟩⟩⟩⟩⟩⟩⟩⟩⟩⟩⟩⟩⟩⟩⟩⟩⟩⟩⟩⟩⟩
def tf_al9 : List tf_Row := [(yX4_findToken, none, 3, 1, 3, cX4_findToken, 4, tb_X4_findToken), (yX4_kindOf, some .int, 99, 1, 3, cX4_kindOf, 1, tb_X4_kindOf), (yX4_verbHere, some (.object "TreeFlows$Verb"), 3, 2, 3, cX4_verbHere, 5, tb_X4_verbHere), (yX4_isHere, some .boolean, 3, 2, 3, cX4_isHere, 4, tb_X4_isHere), (yX4_numberHere, some .int, 3, 1, 3, cX4_numberHere, 4, tb_X4_numberHere), (yX4_number, some .int, 3, 2, 3, cX4_number, 3, tb_X4_number), (yX4_want, none, 3, 5, 3, cX4_want, 7, tb_X4_want), (yX4_checkGrid, none, 3, 1, 3, cX4_checkGrid, 4, tb_X4_checkGrid), (yX4_checkGridLine, none, 3, 2, 3, cX4_checkGridLine, 3, tb_X4_checkGridLine), (yX4_checkPointsThere, none, 3, 0, 3, cX4_checkPointsThere, 3, tb_X4_checkPointsThere), (yX4_isArc, some .boolean, 3, 1, 3, cX4_isArc, 2, tb_X4_isArc), (yX4_pointsTold, some .int, 3, 0, 3, cX4_pointsTold, 3, tb_X4_pointsTold), (yX4_sumOfSupplies, some .int, 3, 0, 3, cX4_sumOfSupplies, 3, tb_X4_sumOfSupplies), (yX4_checkOrders, none, 3, 0, 3, cX4_checkOrders, 2, tb_X4_checkOrders), (yX4_fill, none, 3, 1, 3, cX4_fill, 3, tb_X4_fill), (yX4_fillLine, none, 3, 2, 3, cX4_fillLine, 3, tb_X4_fillLine), (yX4_obey, some .boolean, 3, 3, 3, cX4_obey, 4, tb_X4_obey), (yX7_numbers, some .int, 98, 1, 8, cX7_numbers, 2, tb_X7_numbers), (yJ6_bitCount_0f7a4, some .int, 99, 1, 9, cJ6_bitCount_0f7a4, 1, tb_J6_bitCount_0f7a4)]
theorem tf_al9_ok : ∀ q ∈ tf_al9, tf_RowOk q := List.forall_mem_cons.mpr ⟨⟨ck_X4_findToken, cw_X4_findToken⟩, List.forall_mem_cons.mpr ⟨⟨ck_X4_kindOf, cw_X4_kindOf⟩, List.forall_mem_cons.mpr ⟨⟨ck_X4_verbHere, cw_X4_verbHere⟩, List.forall_mem_cons.mpr ⟨⟨ck_X4_isHere, cw_X4_isHere⟩, List.forall_mem_cons.mpr ⟨⟨ck_X4_numberHere, cw_X4_numberHere⟩, List.forall_mem_cons.mpr ⟨⟨ck_X4_number, cw_X4_number⟩, List.forall_mem_cons.mpr ⟨⟨ck_X4_want, cw_X4_want⟩, List.forall_mem_cons.mpr ⟨⟨ck_X4_checkGrid, cw_X4_checkGrid⟩, List.forall_mem_cons.mpr ⟨⟨ck_X4_checkGridLine, cw_X4_checkGridLine⟩, List.forall_mem_cons.mpr ⟨⟨ck_X4_checkPointsThere, cw_X4_checkPointsThere⟩, List.forall_mem_cons.mpr ⟨⟨ck_X4_isArc, cw_X4_isArc⟩, List.forall_mem_cons.mpr ⟨⟨ck_X4_pointsTold, cw_X4_pointsTold⟩, List.forall_mem_cons.mpr ⟨⟨ck_X4_sumOfSupplies, cw_X4_sumOfSupplies⟩, List.forall_mem_cons.mpr ⟨⟨ck_X4_checkOrders, cw_X4_checkOrders⟩, List.forall_mem_cons.mpr ⟨⟨ck_X4_fill, cw_X4_fill⟩, List.forall_mem_cons.mpr ⟨⟨ck_X4_fillLine, cw_X4_fillLine⟩, List.forall_mem_cons.mpr ⟨⟨ck_X4_obey, cw_X4_obey⟩, List.forall_mem_cons.mpr ⟨⟨ck_X7_numbers, cw_X7_numbers⟩, List.forall_mem_cons.mpr ⟨⟨ck_J6_bitCount_0f7a4, cw_J6_bitCount_0f7a4⟩, fun _ h => absurd h List.not_mem_nil⟩⟩⟩⟩⟩⟩⟩⟩⟩⟩⟩⟩⟩⟩⟩⟩⟩⟩⟩
def tf_all : List tf_Row := tf_al0 ++ (tf_al1 ++ (tf_al2 ++ (tf_al3 ++ (tf_al4 ++ (tf_al5 ++ (tf_al6 ++ (tf_al7 ++ (tf_al8 ++ (tf_al9)))))))))
theorem tf_all_ok : ∀ q ∈ tf_all, tf_RowOk q := List.forall_mem_append.mpr ⟨tf_al0_ok, List.forall_mem_append.mpr ⟨tf_al1_ok, List.forall_mem_append.mpr ⟨tf_al2_ok, List.forall_mem_append.mpr ⟨tf_al3_ok, List.forall_mem_append.mpr ⟨tf_al4_ok, List.forall_mem_append.mpr ⟨tf_al5_ok, List.forall_mem_append.mpr ⟨tf_al6_ok, List.forall_mem_append.mpr ⟨tf_al7_ok, List.forall_mem_append.mpr ⟨tf_al8_ok, tf_al9_ok⟩⟩⟩⟩⟩⟩⟩⟩⟩
theorem tf_all_len : tf_all.length = tf_NM := by decide +kernel
def tf_row (kn : Nat) : tf_Row := tf_all.getD kn (⟨"", "", ""⟩, none, 0, 0, 0, ByteArray.empty, 0, [])
abbrev tf_my (kn : Nat) : MethodName := (tf_row kn).1
abbrev tf_mr (kn : Nat) : Option FieldType := (tf_row kn).2.1
abbrev tf_mc (kn : Nat) : Nat := (tf_row kn).2.2.1
abbrev tf_mn (kn : Nat) : Nat := (tf_row kn).2.2.2.1
abbrev tf_mo (kn : Nat) : Nat := (tf_row kn).2.2.2.2.1
abbrev tf_mb (kn : Nat) : ByteArray := (tf_row kn).2.2.2.2.2.1
abbrev tf_ml (kn : Nat) : Nat := (tf_row kn).2.2.2.2.2.2.1
abbrev tf_B (kn : Nat) : tf_Bk := (tf_row kn).2.2.2.2.2.2.2
theorem tf_row_ok {kn : Nat} (h : kn < tf_NM) : tf_RowOk (tf_row kn) := by
  have hl : kn < tf_all.length := by rw [tf_all_len]; exact h
  refine tf_all_ok (tf_row kn) ?_
  rw [tf_row, List.getD_eq_getElem?_getD, List.getElem?_eq_getElem hl]
  exact List.getElem_mem hl
end
section
/-! ===== the pools by class, the places of their words ===== -/
def tf_mpl : List (Nat × Nat × Nat × Nat) := [(1319, 1318, 0, 116), (1468, 1467, 0, 116), (1640, 1639, 0, 116), (1156, 1155, 34, 116), (1160, 1159, 35, 116), (1536, 1535, 80, 116), (1512, 1511, 75, 116), (1508, 1507, 74, 116), (1299, 1297, 1298, 116), (1316, 1315, 38, 116), (1312, 1311, 37, 116), (1345, 1344, 44, 116), (1333, 1332, 41, 116), (1341, 1340, 43, 116), (1144, 1143, 31, 116), (1337, 1336, 42, 116), (1329, 1328, 40, 116), (1348, 1347, 0, 116), (1323, 1322, 39, 116), (1359, 1358, 45, 116), (1308, 1307, 36, 116), (1373, 1372, 47, 116), (1369, 1368, 46, 116), (1148, 1147, 32, 116), (1304, 1302, 1303, 116), (1377, 1375, 1376, 116), (1393, 1392, 50, 116), (1452, 1451, 0, 116), (1401, 1400, 52, 116), (1397, 1396, 51, 116), (1389, 1388, 49, 116), (1413, 1412, 55, 116), (1409, 1408, 54, 116), (1385, 1384, 48, 116), (1405, 1404, 53, 116), (1429, 1428, 59, 116), (1425, 1424, 58, 116), (1449, 1448, 64, 116), (1445, 1444, 63, 116), (1437, 1436, 61, 116), (1441, 1440, 62, 116), (1456, 1455, 65, 116), (1465, 1464, 67, 116), (1460, 1459, 66, 116), (1433, 1432, 60, 116), (1472, 1471, 68, 116), (1476, 1475, 69, 116), (1480, 1479, 70, 116), (1484, 1483, 71, 116), (1421, 1420, 57, 116), (1492, 1491, 72, 116), (1152, 1151, 33, 116), (1520, 1519, 77, 116), (1417, 1416, 56, 116), (1381, 1379, 1380, 116), (1488, 1486, 1487, 116), (1496, 1494, 1495, 116), (1504, 1503, 73, 116), (1516, 1515, 76, 116), (1500, 1498, 1499, 116), (1532, 1531, 79, 116), (1540, 1539, 81, 116), (1528, 1527, 78, 116), (1524, 1522, 1523, 116), (1544, 1542, 1543, 116), (1548, 1546, 1547, 116), (1552, 1550, 1551, 116), (1568, 1567, 84, 116), (1564, 1563, 83, 116), (1556, 1554, 1555, 116), (1572, 1570, 1571, 116), (1580, 1579, 85, 116), (1576, 1574, 1575, 116), (1584, 1582, 1583, 116), (1592, 1591, 86, 116), (1588, 1586, 1587, 116), (1600, 1599, 87, 116), (1596, 1594, 1595, 116), (1608, 1607, 88, 116), (1604, 1602, 1603, 116), (1612, 1610, 1611, 116), (1616, 1614, 1615, 116), (1624, 1623, 89, 116), (1620, 1618, 1619, 116), (1633, 1632, 90, 116), (1629, 1627, 1628, 116), (1637, 1635, 1636, 116), (1656, 1655, 93, 116), (1652, 1651, 92, 116), (1660, 1659, 94, 116), (1648, 1647, 91, 116), (1644, 1642, 1643, 116), (1668, 1667, 95, 116), (1664, 1662, 1663, 116), (1672, 1670, 1671, 116), (1680, 1679, 96, 116), (1696, 1695, 100, 116), (1692, 1691, 99, 116), (1700, 1699, 101, 116), (1708, 1707, 103, 116), (1704, 1703, 102, 116), (1688, 1687, 98, 116), (1684, 1683, 97, 116), (1676, 1674, 1675, 116), (1717, 1716, 104, 116), (1713, 1711, 1712, 116), (1721, 1719, 1720, 116), (1729, 1728, 105, 116), (1732, 1731, 0, 116), (1725, 1723, 1724, 116), (1736, 1734, 1735, 116), (1740, 1738, 1739, 116), (1560, 1559, 82, 116), (1748, 1747, 106, 116), (1744, 1742, 1743, 116), (1752, 1750, 1751, 116), (637, 635, 636, 109), (395, 393, 394, 109), (621, 619, 620, 109), (775, 773, 774, 109), (762, 760, 761, 109), (758, 756, 757, 109), (880, 878, 879, 109), (743, 741, 742, 109), (754, 752, 753, 109), (771, 769, 770, 109), (783, 781, 782, 109), (791, 789, 790, 109), (399, 397, 398, 109), (403, 402, 0, 109), (410, 408, 409, 109), (665, 663, 664, 109), (661, 659, 660, 109), (657, 655, 656, 109), (826, 824, 825, 109), (653, 651, 652, 109), (704, 702, 703, 109), (679, 677, 678, 109), (687, 685, 686, 109), (1130, 1128, 1129, 109), (1134, 1132, 1133, 109), (838, 836, 837, 109), (842, 840, 841, 109), (716, 714, 715, 109), (830, 828, 829, 109), (897, 895, 896, 109), (908, 906, 907, 109), (912, 910, 911, 109), (967, 965, 966, 109), (920, 918, 919, 109), (1006, 1004, 1005, 109), (1002, 1000, 1001, 109), (985, 983, 984, 109), (976, 974, 975, 109), (980, 979, 28, 109), (465, 463, 464, 113), (1041, 1039, 1040, 113), (852, 850, 851, 111), (672, 670, 671, 111), (649, 647, 648, 111), (734, 732, 733, 111), (875, 873, 874, 111), (699, 697, 698, 111), (858, 856, 857, 111), (862, 860, 861, 111), (712, 711, 20, 111), (675, 674, 0, 111), (695, 694, 19, 111), (683, 682, 17, 111), (691, 690, 18, 111), (414, 412, 413, 110), (644, 642, 643, 110), (721, 719, 720, 110), (888, 886, 887, 110), (929, 927, 928, 112), (955, 953, 954, 112), (933, 932, 22, 112), (937, 936, 23, 112), (941, 940, 24, 112), (945, 944, 25, 112), (949, 948, 26, 112), (458, 456, 457, 108), (469, 467, 468, 108), (625, 623, 624, 108), (629, 627, 628, 108), (730, 728, 729, 108), (739, 737, 738, 108), (750, 748, 749, 108), (767, 765, 766, 108), (779, 777, 778, 108), (787, 785, 786, 108), (795, 793, 794, 108), (799, 797, 798, 108), (818, 816, 817, 108), (822, 820, 821, 108), (834, 832, 833, 108), (847, 845, 846, 108), (869, 867, 868, 108), (884, 882, 883, 108), (893, 891, 892, 108), (904, 902, 903, 108), (916, 914, 915, 108), (925, 923, 924, 108), (959, 957, 958, 108), (971, 969, 970, 108), (989, 987, 988, 108), (998, 996, 997, 108), (1017, 1015, 1016, 108), (1021, 1019, 1020, 108), (1026, 1024, 1025, 108), (1033, 1031, 1032, 108), (1037, 1035, 1036, 108), (1046, 1044, 1045, 108), (963, 962, 27, 108), (608, 607, 14, 108), (633, 632, 16, 108), (725, 724, 21, 108), (993, 992, 29, 108), (1029, 1028, 0, 108), (461, 460, 0, 108), (865, 864, 0, 108), (746, 745, 0, 108), (473, 471, 472, 114), (484, 483, 2, 114), (554, 553, 6, 114), (477, 476, 1, 114), (480, 479, 0, 114), (488, 487, 3, 114), (498, 497, 4, 114), (550, 549, 5, 114), (578, 577, 9, 114), (574, 573, 8, 114), (558, 556, 557, 114), (562, 561, 7, 114), (590, 589, 11, 114), (582, 581, 10, 114), (594, 593, 12, 114), (604, 603, 13, 114), (803, 801, 802, 114), (612, 610, 611, 114), (617, 616, 15, 114), (807, 805, 806, 114), (494, 492, 493, 118), (1009, 1008, 0, 129)]
def tf_mp (kn : Nat) : Nat × Nat × Nat × Nat := tf_mpl.getD kn (0, 0, 0, 0)
def tf_cn : List String := ["TreeFlows$Net", "TreeFlows$Page", "TreeFlows$Route", "TreeFlows$Script", "TreeFlows$Tally", "TreeFlows$Trips", "TreeFlows", "TreeFlowsModel", "TreeFlows$Verb", "java/lang/Integer", "TreeFlowsLaw"]
def tf_own (o : Nat) : String := tf_cn.getD o ""
def tf_F0l : List (Nat × Nat × Nat × Nat) := [(9, 0, 3, 189), (15, 0, 4, 192), (18, 0, 5, 196), (21, 0, 6, 200), (24, 0, 7, 202), (27, 0, 8, 205), (30, 0, 9, 209), (33, 0, 10, 213), (36, 0, 11, 216), (39, 0, 12, 219), (45, 0, 13, 221), (49, 0, 0, 179), (53, 0, 1, 184), (56, 0, 2, 186), (94, 4, 2, 155), (116, 4, 3, 159)]
def tf_M0l : List (Nat × Nat × Nat × Bool × Nat) := [(65, 171, 2, true, 641), (69, 120, 2, false, 759), (76, 121, 3, false, 755), (80, 128, 2, true, 763), (84, 119, 2, false, 772), (87, 130, 1, true, 407), (90, 129, 2, true, 400), (103, 132, 2, false, 658), (106, 131, 2, false, 662), (113, 133, 2, false, 654), (120, 137, 3, false, 981), (123, 141, 3, false, 843), (129, 150, 2, false, 1003), (137, 154, 3, false, 977), (100059, 1003, 5, true, 638), (100073, 221, 1, false, 2001), (100097, 1000, 1, false, 404), (100109, 1001, 2, false, 666), (100126, 1002, 2, false, 921), (100132, 243, 1, false, 1007)]
def tf_I0l : List (Nat × Value × Nat) := [(119, .int 1000000, 705)]
def tf_F1l : List (Nat × Nat × Nat × Nat) := [(9, 1, 0, 326), (15, 1, 3, 333), (19, 1, 1, 328), (28, 1, 2, 331)]
def tf_M1l : List (Nat × Nat × Nat × Bool × Nat) := [(100022, 1004, 5, true, 1042)]
def tf_I1l : List (Nat × Value × Nat) := []
def tf_F2l : List (Nat × Nat × Nat × Nat) := [(9, 2, 0, 259), (15, 2, 1, 260), (19, 2, 2, 261), (27, 2, 3, 263), (37, 0, 9, 210), (42, 0, 4, 193), (45, 0, 5, 197), (48, 2, 5, 267), (59, 2, 4, 265), (62, 2, 6, 268), (76, 0, 8, 207), (83, 0, 13, 223), (103, 0, 7, 203), (120, 0, 10, 214), (123, 0, 11, 217)]
def tf_M2l : List (Nat × Nat × Nat × Bool × Nat) := [(30, 167, 3, true, 692), (34, 168, 3, true, 680), (51, 169, 3, true, 688), (55, 162, 2, false, 696), (65, 136, 3, false, 701), (69, 135, 2, false, 650), (73, 158, 3, true, 669), (79, 165, 4, true, 709), (87, 172, 4, true, 718), (92, 159, 3, false, 735), (109, 143, 5, true, 713), (113, 130, 1, true, 717), (116, 137, 3, false, 676), (126, 138, 2, false, 684), (100023, 166, 3, false, 673), (100097, 1002, 2, false, 706), (100106, 220, 1, false, 2002)]
def tf_I2l : List (Nat × Value × Nat) := [(96, .int 1000000, 700)]
def tf_F3l : List (Nat × Nat × Nat × Nat) := [(9, 3, 2, 357), (17, 3, 3, 359), (21, 3, 4, 360), (25, 3, 5, 361), (28, 3, 6, 362), (31, 3, 7, 363), (34, 3, 0, 353), (37, 3, 1, 355), (40, 3, 10, 366), (47, 3, 8, 364), (54, 3, 9, 365), (72, 1, 1, 330), (77, 1, 0, 327), (159, 0, 0, 182), (162, 0, 3, 191), (173, 0, 9, 212), (176, 0, 2, 188)]
def tf_M3l : List (Nat × Nat × Nat × Bool × Nat) := [(43, 225, 2, true, 474), (50, 223, 3, false, 481), (57, 224, 3, true, 551), (61, 227, 3, false, 485), (65, 242, 2, false, 491), (68, 229, 2, false, 547), (92, 228, 3, false, 495), (105, 230, 3, false, 575), (109, 233, 3, true, 559), (112, 235, 2, false, 579), (116, 234, 1, true, 587), (119, 237, 1, false, 601), (130, 231, 6, true, 571), (134, 236, 1, false, 591), (153, 117, 2, true, 613), (165, 240, 3, true, 614), (169, 118, 5, true, 618), (179, 160, 4, false, 808), (185, 124, 4, false, 809), (189, 125, 3, false, 810), (193, 126, 3, false, 811), (197, 127, 3, false, 812), (200, 128, 2, true, 813), (204, 123, 2, false, 814), (100081, 226, 1, false, 478)]
def tf_I3l : List (Nat × Value × Nat) := []
def tf_F4l : List (Nat × Nat × Nat × Nat) := [(9, 4, 3, 157), (15, 4, 4, 160), (19, 4, 5, 161), (22, 4, 6, 162), (25, 4, 0, 150), (28, 4, 1, 152), (31, 4, 2, 154)]
def tf_M4l : List (Nat × Nat × Nat × Bool × Nat) := [(100034, 1003, 5, true, 645), (100040, 220, 1, false, 2003)]
def tf_I4l : List (Nat × Value × Nat) := []
def tf_F5l : List (Nat × Nat × Nat × Nat) := [(9, 5, 1, 293), (15, 5, 2, 294), (18, 5, 3, 295), (21, 5, 4, 296), (24, 5, 5, 297), (27, 5, 6, 298), (30, 5, 0, 291), (34, 0, 1, 183), (38, 0, 8, 206), (52, 0, 0, 180), (62, 0, 4, 194), (65, 0, 5, 198), (68, 5, 7, 299), (71, 5, 8, 300)]
def tf_M5l : List (Nat × Nat × Nat × Bool × Nat) := [(41, 176, 2, false, 930), (45, 179, 3, true, 942), (49, 180, 1, true, 946), (55, 177, 3, false, 934), (59, 178, 3, false, 938), (100075, 1002, 2, false, 951)]
def tf_I5l : List (Nat × Value × Nat) := [(74, .int 1000000, 950)]
def tf_F6l : List (Nat × Nat × Nat × Nat) := [(12, 6, 0, 415), (16, 6, 1, 416), (22, 6, 2, 417), (29, 6, 3, 418), (36, 6, 4, 419), (43, 6, 5, 420), (47, 6, 6, 421), (51, 6, 7, 422), (55, 6, 10, 425), (58, 6, 11, 426), (62, 6, 12, 427), (74, 0, 13, 222), (86, 1, 1, 329), (97, 3, 1, 356), (110, 6, 9, 424), (113, 0, 1, 185), (116, 1, 3, 334), (119, 1, 2, 332), (125, 0, 2, 187), (162, 3, 0, 354), (169, 6, 8, 423), (175, 0, 0, 181), (185, 4, 0, 151), (188, 4, 1, 153), (191, 4, 2, 156), (194, 4, 3, 158), (203, 0, 4, 195), (206, 0, 5, 199), (209, 0, 6, 201), (212, 0, 7, 204), (215, 0, 8, 208), (218, 0, 9, 211), (231, 0, 3, 190), (234, 0, 12, 220), (237, 0, 10, 215), (243, 0, 11, 218), (272, 2, 2, 262), (293, 2, 4, 266), (296, 2, 3, 264), (323, 5, 0, 292), (356, 3, 2, 358)]
def tf_M6l : List (Nat × Nat × Nat × Bool × Nat) := [(66, 117, 2, true, 392), (70, 128, 2, true, 396), (78, 170, 1, true, 411), (90, 155, 2, true, 462), (93, 222, 3, true, 470), (100, 232, 2, true, 555), (103, 214, 1, true, 605), (106, 239, 2, true, 609), (122, 215, 1, true, 630), (128, 159, 3, false, 646), (132, 216, 2, false, 722), (136, 160, 4, false, 731), (140, 123, 2, false, 740), (144, 124, 4, false, 751), (148, 125, 3, false, 768), (152, 126, 3, false, 780), (156, 127, 3, false, 788), (159, 238, 1, true, 800), (165, 241, 4, false, 804), (172, 116, 2, true, 634), (178, 134, 1, false, 823), (182, 144, 1, false, 827), (197, 119, 2, false, 972), (221, 131, 2, false, 1116), (225, 133, 2, false, 1117), (228, 120, 2, false, 1125), (240, 122, 2, false, 877), (249, 138, 2, false, 1126), (252, 139, 2, false, 1127), (255, 140, 2, false, 1131), (258, 141, 3, false, 835), (262, 142, 2, false, 839), (265, 121, 3, false, 848), (268, 157, 4, true, 849), (273, 162, 2, false, 853), (278, 163, 2, false, 855), (280, 164, 3, false, 859), (283, 135, 2, false, 870), (286, 158, 3, true, 871), (290, 161, 1, false, 872), (299, 173, 3, false, 885), (300, 145, 1, false, 894), (310, 146, 2, false, 905), (313, 147, 2, false, 909), (316, 149, 2, true, 917), (320, 174, 2, true, 926), (324, 175, 3, false, 952), (325, 213, 2, false, 960), (328, 148, 2, false, 964), (331, 153, 2, false, 973), (334, 152, 2, false, 982), (337, 217, 1, false, 990), (340, 151, 1, false, 999), (343, 150, 2, false, 1013), (353, 156, 2, true, 1038), (100082, 219, 2, false, 459), (100246, 220, 1, false, 876), (100346, 221, 1, false, 1022), (100350, 218, 2, false, 1027), (100357, 1002, 2, false, 726)]
def tf_I6l : List (Nat × Value × Nat) := [(277, .int 1000000, 854), (305, .long (-2147483648), 898), (307, .long 2147483647, 899), (309, .int (-2147483648), 900), (349, .int (-1000000), 994)]
def tf_F7l : List (Nat × Nat × Nat × Nat) := [(7, 7, 1, 1162), (13, 7, 2, 1163), (17, 7, 3, 1164), (21, 7, 4, 1165), (24, 7, 14, 1175), (27, 7, 15, 1176), (30, 7, 16, 1177), (33, 7, 17, 1178), (36, 7, 21, 1182), (40, 7, 22, 1183), (43, 7, 24, 1185), (46, 7, 25, 1186), (49, 7, 26, 1187), (52, 7, 27, 1188), (55, 7, 28, 1189), (58, 7, 29, 1190), (61, 7, 32, 1193), (64, 7, 33, 1194), (67, 7, 34, 1195), (70, 7, 35, 1196), (73, 7, 38, 1199), (76, 7, 39, 1200), (79, 7, 40, 1201), (82, 7, 41, 1202), (85, 7, 42, 1203), (88, 7, 43, 1204), (97, 7, 0, 1161), (111, 7, 6, 1167), (114, 7, 7, 1168), (121, 7, 8, 1169), (124, 7, 11, 1172), (128, 7, 9, 1170), (131, 7, 10, 1171), (134, 7, 12, 1173), (137, 7, 13, 1174), (151, 7, 18, 1179), (154, 7, 19, 1180), (157, 7, 20, 1181), (204, 7, 23, 1184), (214, 7, 5, 1166), (265, 7, 30, 1191), (284, 7, 31, 1192), (396, 7, 36, 1197), (399, 7, 37, 1198)]
def tf_M7l : List (Nat × Nat × Nat × Bool × Nat) := [(91, 14, 1, true, 1141), (94, 23, 1, true, 1145), (105, 6, 2, false, 1509), (117, 9, 1, false, 1313), (140, 11, 1, false, 1342), (144, 12, 2, true, 1330), (148, 10, 1, true, 1309), (160, 13, 4, false, 1338), (163, 15, 3, false, 1334), (177, 16, 2, false, 1326), (207, 18, 2, false, 1320), (211, 19, 2, false, 1356), (217, 51, 2, true, 1149), (221, 20, 2, false, 1305), (225, 22, 3, true, 1366), (229, 21, 1, false, 1370), (232, 3, 3, false, 1153), (236, 26, 1, false, 1390), (239, 29, 5, true, 1394), (243, 28, 2, false, 1398), (246, 31, 2, false, 1410), (250, 30, 1, true, 1386), (253, 34, 1, false, 1402), (256, 32, 2, false, 1406), (259, 35, 2, false, 1426), (268, 37, 3, false, 1446), (271, 38, 3, true, 1442), (275, 42, 2, false, 1462), (281, 39, 3, false, 1434), (287, 40, 3, true, 1438), (290, 41, 3, true, 1453), (293, 4, 4, true, 1157), (297, 36, 1, false, 1422), (300, 44, 2, true, 1430), (303, 43, 1, false, 1457), (306, 45, 2, false, 1469), (309, 46, 2, true, 1473), (312, 47, 2, true, 1477), (315, 48, 4, true, 1481), (318, 49, 1, false, 1418), (321, 33, 1, false, 1382), (324, 53, 2, true, 1414), (327, 50, 2, false, 1489), (330, 7, 3, false, 1505), (333, 52, 2, true, 1517), (336, 57, 4, false, 1501), (339, 58, 4, true, 1513), (342, 5, 2, false, 1533), (345, 60, 5, false, 1529), (349, 61, 4, true, 1537), (352, 62, 5, false, 1525), (355, 67, 5, false, 1565), (358, 112, 3, true, 1557), (361, 68, 5, false, 1561), (365, 71, 1, false, 1577), (368, 74, 2, false, 1589), (371, 76, 3, false, 1597), (374, 78, 1, false, 1605), (377, 82, 1, false, 1621), (381, 84, 2, false, 1630), (387, 87, 2, false, 1653), (390, 88, 1, false, 1649), (393, 89, 3, false, 1657), (402, 90, 1, false, 1645), (405, 92, 3, false, 1665), (408, 96, 3, false, 1693), (411, 99, 2, false, 1705), (414, 97, 1, true, 1689), (417, 98, 1, false, 1697), (420, 100, 2, true, 1701), (423, 101, 1, false, 1685), (427, 95, 1, true, 1677), (430, 102, 1, false, 1681), (433, 104, 3, false, 1714), (436, 107, 2, false, 1726), (442, 113, 3, true, 1745), (100101, 0, 3, false, 1317), (100180, 17, 1, false, 1346), (100262, 27, 1, false, 1450), (100278, 1, 2, false, 1466), (100384, 2, 2, false, 1638), (100439, 108, 1, false, 1730)]
def tf_I7l : List (Nat × Value × Nat) := [(109, .long 255, 1300), (167, .long 439855772532, 1349), (169, .long 495874041200, 1350), (171, .long 491496238692, 1351), (173, .long 6386275, 1324), (175, .long 1734437230, 1325), (184, .long 123623812527219, 1352), (186, .long 422726034283, 1353), (188, .long 126948234783865, 1354), (190, .long 2002873972, 1355), (192, .long 1668246628, 1360), (194, .long 482805706612, 1361), (196, .long 1869636974, 1362), (198, .long 512869295470, 1363), (200, .long 109299962636133, 1364), (202, .long 495672977012, 1365), (274, .int 1000000, 1461), (380, .int (-2147483648), 1625), (426, .int (-1000000), 1709)]
def tf_F8l : List (Nat × Nat × Nat × Nat) := []
def tf_M8l : List (Nat × Nat × Nat × Bool × Nat) := []
def tf_I8l : List (Nat × Value × Nat) := []
def tf_F9l : List (Nat × Nat × Nat × Nat) := []
def tf_M9l : List (Nat × Nat × Nat × Bool × Nat) := []
def tf_I9l : List (Nat × Value × Nat) := [(265, .int 1431655765, 1010), (266, .int 858993459, 1011), (267, .int 252645135, 1012)]
def tf_F10l : List (Nat × Nat × Nat × Nat) := []
def tf_M10l : List (Nat × Nat × Nat × Bool × Nat) := [(24, 181, 2, false, 455), (28, 8, 2, false, 1296), (29, 182, 1, false, 466), (33, 24, 1, false, 1301), (34, 183, 2, false, 622), (38, 25, 2, false, 1374), (39, 184, 1, false, 626), (42, 54, 1, false, 1378), (43, 185, 2, false, 727), (47, 55, 2, false, 1485), (48, 186, 2, false, 736), (52, 56, 2, false, 1493), (53, 187, 4, false, 747), (57, 59, 4, false, 1497), (58, 188, 3, false, 764), (62, 63, 3, false, 1521), (63, 189, 3, false, 776), (67, 64, 3, false, 1541), (68, 190, 3, false, 784), (71, 65, 3, false, 1545), (72, 191, 1, true, 792), (75, 66, 1, true, 1549), (76, 192, 1, false, 796), (79, 69, 1, false, 1553), (80, 193, 1, false, 815), (83, 70, 1, false, 1569), (84, 194, 2, false, 819), (87, 72, 2, false, 1573), (93, 73, 3, false, 1581), (96, 75, 3, false, 1585), (97, 195, 2, false, 831), (100, 77, 2, false, 1593), (101, 196, 4, false, 844), (105, 79, 4, false, 1601), (106, 197, 2, false, 866), (109, 80, 2, false, 1609), (110, 198, 3, false, 881), (113, 81, 3, false, 1613), (114, 199, 2, false, 890), (117, 83, 2, false, 1617), (118, 200, 3, false, 901), (122, 85, 3, false, 1626), (123, 201, 3, false, 913), (126, 86, 3, false, 1634), (127, 202, 3, false, 922), (130, 91, 3, false, 1641), (131, 203, 2, false, 956), (134, 93, 2, false, 1661), (135, 204, 3, false, 968), (138, 94, 3, false, 1669), (139, 205, 1, false, 986), (142, 103, 1, false, 1673), (143, 206, 1, false, 995), (146, 110, 1, false, 1733), (147, 207, 1, false, 1014), (150, 109, 1, false, 1722), (151, 208, 2, false, 1018), (154, 111, 2, false, 1737), (155, 209, 3, false, 1023), (158, 105, 3, false, 1710), (159, 210, 3, false, 1030), (162, 106, 3, false, 1718), (163, 211, 2, false, 1034), (166, 114, 2, false, 1741), (167, 212, 2, false, 1043), (170, 115, 2, false, 1749)]
def tf_I10l : List (Nat × Value × Nat) := [(22, .long 4294967295, 1753)]
def tf_Fl (o : Nat) : List (Nat × Nat × Nat × Nat) := [tf_F0l, tf_F1l, tf_F2l, tf_F3l, tf_F4l, tf_F5l, tf_F6l, tf_F7l, tf_F8l, tf_F9l, tf_F10l].getD o []
def tf_Ml (o : Nat) : List (Nat × Nat × Nat × Bool × Nat) := [tf_M0l, tf_M1l, tf_M2l, tf_M3l, tf_M4l, tf_M5l, tf_M6l, tf_M7l, tf_M8l, tf_M9l, tf_M10l].getD o []
def tf_Il (o : Nat) : List (Nat × Value × Nat) := [tf_I0l, tf_I1l, tf_I2l, tf_I3l, tf_I4l, tf_I5l, tf_I6l, tf_I7l, tf_I8l, tf_I9l, tf_I10l].getD o []
def tf_F (o : Nat) : Nat → Option (Nat × Nat) := fun j => ((tf_Fl o).lookup j).map (fun q => (q.1, q.2.1))
def tf_M (o : Nat) : Nat → Option (Nat × Nat × Bool) := fun j => ((tf_Ml o).lookup j).map (fun q => (q.1, q.2.1, q.2.2.1))
def tf_I (o : Nat) : Nat → Option Value := fun j => ((tf_Il o).lookup j).map (fun q => q.1)
def tf_isw (i : Nat) (w : Jvm.Cond) : Bool := decide (lw_tbl[i]? = some w) && goodWord w
theorem tf_isw_in {i : Nat} {w : Jvm.Cond} (h : tf_isw i w = true) : w ∈ tf_BW := by
  simp only [tf_isw, Bool.and_eq_true, decide_eq_true_eq] at h
  exact tf_inBW i h.1 h.2
def tf_ckF (o : Nat) (q : Nat × Nat × Nat × Nat) : Bool := match vwCl[q.2.1]? with
  | some (_, T, N) => decide (q.2.2.1 < N) && tf_isw q.2.2.2 (.fieldLink (tf_own o) q.1 (T q.2.2.1).1 (T q.2.2.1).2.1 (T q.2.2.1).2.2.1)
  | none => false
theorem tf_ckF_all : (List.range 11).all (fun o => (tf_Fl o).all (tf_ckF o)) = true := by decide +kernel
def tf_ckI (o : Nat) (q : Nat × Value × Nat) : Bool := match q.2.1 with
  | .int v => tf_isw q.2.2 (.constant (tf_own o) q.1 v)
  | .long v => tf_isw q.2.2 (.constantLong (tf_own o) q.1 v)
  | _ => false
theorem tf_ckI_all : (List.range 11).all (fun o => (tf_Il o).all (tf_ckI o)) = true := by decide +kernel
/-- a method's own words: its code, that it is an object's or a class's, that it is what is selected, that its class is ready -/
def tf_ckm (kn : Nat) : Bool := plainName (tf_my kn).cls && decide ((tf_my kn).cls = tf_own (tf_mo kn)) && decide (tf_mo kn < 11) && decide (tf_ml kn ≤ 13) && decide ((tf_my kn).cls ≠ "java/lang/invoke/MethodHandle") && decide ((tf_my kn).cls ≠ "java/lang/invoke/VarHandle") && decide ((parseMethodDescriptor (tf_my kn).desc).map (fun d => d.parameters.length) = some (tf_mn kn)) && tf_isw (tf_mp kn).2.2.2 (.initialized (tf_my kn).cls)
def tf_ckn (kn : Nat) : Bool := if tf_mc kn = 99 then tf_isw (tf_mp kn).2.1 (.static (tf_my kn)) else tf_isw (tf_mp kn).2.1 (.instanceMethod (tf_my kn)) && tf_isw (tf_mp kn).2.2.1 (.selects (tf_my kn).cls (tf_my kn) (tf_my kn)) && (tf_mc kn == 98 || decide ((vwCl[tf_mc kn]?).map (fun q => q.1) = some (tf_my kn).cls))
theorem tf_ckm_all : (List.range tf_NM).all tf_ckm = true := by decide +kernel
theorem tf_ckn_all : (List.range tf_NM).all tf_ckn = true := by decide +kernel
/-- what a call names: a method of the tables, or one of the JDK's that are told by themselves -/
def tf_ckM (o : Nat) (q : Nat × Nat × Nat × Bool × Nat) : Bool :=
  if q.2.1 < 1000 then
    decide (q.2.1 < tf_NM) && decide (q.2.2.2.1 = (tf_mr q.2.1).isNone) &&
    (if tf_mc q.2.1 = 99 then decide (100000 ≤ q.1) && decide (q.2.2.1 = tf_mn q.2.1) && ((decide (q.2.2.2.2 = 2001) && decide (o = 0 ∧ q.1 = 100073 ∧ tf_my q.2.1 = yX8_isRule)) || (decide (q.2.2.2.2 = 2002) && decide (o = 2 ∧ q.1 = 100106 ∧ tf_my q.2.1 = yX8_toldEdge)) || (decide (q.2.2.2.2 = 2003) && decide (o = 4 ∧ q.1 = 100040 ∧ tf_my q.2.1 = yX8_toldEdge)) || tf_isw q.2.2.2.2 (.methodLink (tf_own o) (q.1 - 100000) (tf_my q.2.1)))
     else decide (q.1 < 100000) && decide (q.2.2.1 = tf_mn q.2.1 + 1) && tf_isw q.2.2.2.2 (.methodLink (tf_own o) q.1 (tf_my q.2.1)))
  else decide (100000 ≤ q.1) && (
    (decide (q.2.1 = 1000) && decide (q.2.2.1 = 1) && decide (q.2.2.2.1 = false) && tf_isw q.2.2.2.2 (.methodLink (tf_own o) (q.1 - 100000) Lib.Math.abs.name)) ||
    (decide (q.2.1 = 1001) && decide (q.2.2.1 = 2) && decide (q.2.2.2.1 = false) && tf_isw q.2.2.2.2 (.methodLink (tf_own o) (q.1 - 100000) Lib.Math.max.name)) ||
    (decide (q.2.1 = 1002) && decide (q.2.2.1 = 2) && decide (q.2.2.2.1 = false) && tf_isw q.2.2.2.2 (.methodLink (tf_own o) (q.1 - 100000) Lib.Math.min.name)) ||
    (decide (q.2.1 = 1003 ∨ q.2.1 = 1004) && decide (q.2.2.1 = 5) && decide (q.2.2.2.1 = true) && tf_isw q.2.2.2.2 (.methodLink (tf_own o) (q.1 - 100000) arraycopyName)))
theorem tf_ckM_all : (List.range 11).all (fun o => (tf_Ml o).all (tf_ckM o)) = true := by decide +kernel
end
section
/-! ===== the light machine is sound: every method's contract, by the depth of its calls ===== -/
def tf_lp : List (List Nat) := [[224, 226, 228, 230, 232, 234, 236, 238, 240, 242, 244, 246, 248, 250], [335, 337, 339, 341], [269, 271, 273, 275, 277, 279, 281], [367, 369, 371, 373, 375, 377, 379, 381, 383, 385, 387], [163, 165, 167, 169, 171, 173, 175], [301, 303, 305, 307, 309, 311, 313, 315, 317], [428, 430, 432, 434, 436, 438, 440, 442, 444, 446, 448, 450, 452], [1205, 1207, 1209, 1211, 1213, 1215, 1217, 1219, 1221, 1223, 1225, 1227, 1229, 1231, 1233, 1235, 1237, 1239, 1241, 1243, 1245, 1247, 1249, 1251, 1253, 1255, 1257, 1259, 1261, 1263, 1265, 1267, 1269, 1271, 1273, 1275, 1277, 1279, 1281, 1283, 1285, 1287, 1289, 1291]]
def tf_tyf (ci : Nat) : Nat → FieldType := match ci with
  | 0 => tyX1
  | 1 => tyX2
  | 2 => tyX3
  | 3 => tyX4
  | 4 => tyX5
  | 5 => tyX6
  | 6 => tyX8
  | _ => tyX9
def tf_ckC (ci : Nat) : Bool := match vwCl[ci]? with
  | some (C, T, N) => decide (N = tf_Wl ci) && (List.range N).all (fun k => tf_isw ((tf_lp.getD ci []).getD k 0) (u_lay C T k)) && (List.range N).all (fun k => decide (parseFieldDescriptor (T k).2.2.1 = some (tf_tyf ci k)) && (if tf_S ci k = 0 then decide ((T k).2.2.2 = false ∧ tf_tyf ci k = .int) else if tf_S ci k = 1 then decide ((T k).2.2.2 = false ∧ tf_tyf ci k = .long) else true)) && (List.range N).all (fun a => (List.range N).all (fun b => a == b || decide ((T a).2.1 ≠ (T b).2.1)))
  | none => false
theorem tf_ckC_all : (List.range 8).all tf_ckC = true := by decide +kernel
theorem tf_lookup {α : Type} : ∀ {l : List (Nat × α)} {j : Nat} {v : α}, l.lookup j = some v → (j, v) ∈ l
  | [], j, v, h => by simp at h
  | (i, w) :: r, j, v, h => by
    by_cases hi : j = i
    · subst hi
      simp [List.lookup] at h
      subst h
      exact List.mem_cons_self
    · have hb : (j == i) = false := by simpa using hi
      simp only [List.lookup, hb] at h
      exact List.mem_cons_of_mem _ (tf_lookup h)
theorem tf_rng {n : Nat} {f : Nat → Bool} (h : (List.range n).all f = true) {k : Nat} (hk : k < n) : f k = true := List.all_eq_true.mp h k (List.mem_range.mpr hk)
theorem tf_F_ok {o : Nat} (ho : o < 11) : tf_Fok (tf_own o) (tf_F o) tf_BW := by
  intro j ci q hf
  simp only [tf_F, Option.map_eq_some_iff] at hf
  obtain ⟨⟨a, b, pl⟩, hl, he⟩ := hf
  simp only [Prod.mk.injEq] at he
  obtain ⟨rfl, rfl⟩ := he
  have h1 := List.all_eq_true.mp (tf_rng tf_ckF_all ho) _ (tf_lookup hl)
  simp only [tf_ckF] at h1
  cases hc : vwCl[a]? with
  | none => rw [hc] at h1; cases h1
  | some x =>
    obtain ⟨C, T, N⟩ := x
    rw [hc] at h1
    simp only [Bool.and_eq_true, decide_eq_true_eq] at h1
    have ha8 : a < 8 := by
      have := (List.getElem?_eq_some_iff.mp hc).1
      simpa using this
    have h2 := tf_rng tf_ckC_all ha8
    simp only [tf_ckC, hc, Bool.and_eq_true, decide_eq_true_eq] at h2
    obtain ⟨⟨⟨hN, hlay⟩, hty⟩, hnm⟩ := h2
    refine ⟨C, T, N, tf_tyf a, rfl, h1.1, hN, ha8, tf_isw_in h1.2, ?_, ?_, ?_, ?_, ?_⟩
    · intro w hw
      simp only [u_ws, List.mem_map, List.mem_range] at hw
      obtain ⟨k, hk, rfl⟩ := hw
      exact tf_isw_in (tf_rng hlay hk)
    · intro k hk
      have := tf_rng hty hk
      simp only [Bool.and_eq_true, decide_eq_true_eq] at this
      exact this.1
    · intro x hx y hy hne
      have := tf_rng (tf_rng hnm hx) hy
      simp only [Bool.or_eq_true, beq_iff_eq, decide_eq_true_eq] at this
      exact this.resolve_left hne
    · intro hs
      have := tf_rng hty h1.1
      simp only [Bool.and_eq_true, decide_eq_true_eq, hs, if_true] at this
      exact this.2
    · intro hs
      have := tf_rng hty h1.1
      simp [hs] at this
      exact this.2
theorem tf_I_ok {o : Nat} (ho : o < 11) {j : Nat} {v : Int32} (h : tf_I o j = some (.int v)) : Jvm.Cond.constant (tf_own o) j v ∈ tf_BW := by
  simp only [tf_I, Option.map_eq_some_iff] at h
  obtain ⟨⟨a, pl⟩, hl, he⟩ := h
  have h1 := List.all_eq_true.mp (tf_rng tf_ckI_all ho) _ (tf_lookup hl)
  simp only at he
  subst he
  exact tf_isw_in h1
theorem tf_J_ok {o : Nat} (ho : o < 11) {j : Nat} {v : Int64} (h : tf_I o j = some (.long v)) : Jvm.Cond.constantLong (tf_own o) j v ∈ tf_BW := by
  simp only [tf_I, Option.map_eq_some_iff] at h
  obtain ⟨⟨a, pl⟩, hl, he⟩ := h
  have h1 := List.all_eq_true.mp (tf_rng tf_ckI_all ho) _ (tf_lookup hl)
  simp only at he
  subst he
  exact tf_isw_in h1
/-! the JDK's methods that are told by themselves -/
def tf_cp (h : Nat → Nat → Int32) (a b sp dp n : Nat) : Nat → Nat → Int32 := fun d => if d = b then va_cpy (h a) (h b) sp dp n else h d
def tf_cpok (nc kd : Nat) (h : LH) (a b : Nat) (sp dp n : Int32) : Prop := tf_K a = kd ∧ tf_K b = kd ∧ a < nc ∧ b < nc ∧ ¬ sp < 0 ∧ ¬ dp < 0 ∧ ¬ n < 0 ∧ sp.toNatClampNeg + n.toNatClampNeg ≤ tf_N a ∧ dp.toNatClampNeg + n.toNatClampNeg ≤ tf_N b
def tf_ext (nc : Nat) : tf_C := fun kn As h Q => match kn - 1000, As with
  | 0, [.int x] => kn = 1000 ∧ Q (.int (if 0 ≤ x then x else 0 - x)) h
  | 1, [.int x, .int y] => kn = 1001 ∧ Q (.int (if x < y then y else x)) h
  | 2, [.int x, .int y] => kn = 1002 ∧ Q (.int (if y < x then y else x)) h
  | 3, [.ref a, .int sp, .ref b, .int dp, .int n] => kn = 1003 ∧ tf_cpok nc 8 h a b sp dp n ∧ Q tf_z (tf_cp h.1 a b sp.toNatClampNeg dp.toNatClampNeg n.toNatClampNeg, h.2)
  | 4, [.ref a, .int sp, .ref b, .int dp, .int n] => kn = 1004 ∧ (tf_cpok nc 9 h a b sp dp n ∧ ∀ i, i < n.toNatClampNeg → fits .char (.int (h.1 a (sp.toNatClampNeg + i))) = true) ∧ Q tf_z (tf_cp h.1 a b sp.toNatClampNeg dp.toNatClampNeg n.toNatClampNeg, h.2)
  | _, _ => False
set_option maxRecDepth 100000 in
theorem tf_ext_1000 {nc kn : Nat} {As : List Value} {h : LH} {Q : tf_Q} (hk : kn < 1000) : ¬ tf_ext nc kn As h Q := by
  intro hq
  unfold tf_ext at hq
  split at hq
  · omega
  · omega
  · omega
  · omega
  · omega
  · exact hq
def tf_Eh (_kn : Nat) : tf_Hk := fun _ => none
/-- which reference a static of the script's pool is -/
def tv_hs (j : Nat) : Nat := match j with
  | 85 => 420
  | 122 => 421
  | 137 => 403
  | 141 => 404
  | 144 => 401
  | 147 => 402
  | _ => 400
def tv_ch (i k : Nat) : Int32 := (tv_byt.getD i []).getD k 0
/-- what the script's methods do with verbs and words, one instruction each -/
def tv_f (nc d pc kd pr : Nat) (L st : List Value) (h : LH) (k : tf_Kt) (X : tf_X) : Prop := nc = 298 ∧ match kd with
  | 0 => k L (.ref (tv_hs pr) :: st) h
  | 1 => (match st with | .ref x :: st => ∃ i, i < 15 ∧ x = 400 + i ∧ k L (.ref (430 + i) :: st) h | _ => False)
  | 2 => (match st with | .ref x :: st => x = 420 ∧ k L (.int 15 :: st) h | _ => False)
  | 3 => (match st with | .int i :: .ref x :: st => x = 420 ∧ vp_in i 15 ∧ k L (.ref (400 + i.toNatClampNeg) :: st) h | _ => False)
  | 4 => (match st with | .int i :: .ref x :: st => (tf_K x = 15 ∧ x < nc ∧ vp_in i (tf_N x) ∧ vp_in (h.1 x i.toNatClampNeg) 15) ∧ k L (.ref (400 + (h.1 x i.toNatClampNeg).toNatClampNeg) :: st) h | _ => False)
  | 5 => (match st with | .ref v :: .int i :: .ref x :: st => ∃ j, j < 15 ∧ v = 400 + j ∧ (tf_K x = 15 ∧ x < nc ∧ vp_in i (tf_N x)) ∧ k L st (tf_up h.1 x i.toNatClampNeg (nI j), h.2) | _ => False)
  | 6 => (match st with | .int i :: .ref x :: st => x = 421 ∧ vp_in i 15 ∧ k L (.int (tv_sm.getD i.toNatClampNeg 0) :: st) h | _ => False)
  | 7 => (match st with | .ref y :: .ref x :: st => ∃ i j, i < 15 ∧ j < 15 ∧ x = 400 + i ∧ y = 400 + j ∧ (i = j → X (pc + pr) L st h) ∧ (¬ i = j → k L st h) | _ => False)
  | 8 => (match st with | .ref y :: .ref x :: st => ∃ i j, i < 15 ∧ j < 15 ∧ x = 400 + i ∧ y = 400 + j ∧ (i = j → k L st h) ∧ (¬ i = j → X (pc + pr) L st h) | _ => False)
  | 9 => (match st with | .ref x :: st => ∃ i, i < 15 ∧ x = 400 + i ∧ (st.map Value.category).sum ≤ 8 ∧ k L (.int (nI i) :: st) h | _ => False)
  | 10 => (match st with | .ref x :: st => ∃ i, i < 15 ∧ x = 430 + i ∧ ((st.map Value.category).sum ≤ 8 ∧ 1 ≤ d) ∧ k L (.int (nI (tv_len.getD i 0)) :: st) h | _ => False)
  | 11 => (match st with | .int y :: .ref x :: st => ∃ i, i < 15 ∧ x = 430 + i ∧ ((st.map Value.category).sum ≤ 8 ∧ 3 ≤ d ∧ vp_in y (tv_len.getD i 0)) ∧ k L (.int (tv_ch i y.toNatClampNeg) :: st) h | _ => False)
  | 12 => (match st with | .int y :: .ref x :: st => ∃ i, i < 15 ∧ x = 400 + i ∧ (st.map Value.category).sum ≤ 8 ∧ k L (.int (if y = 0 then tv_g.getD i 0 else tv_o.getD i 0) :: st) h | _ => False)
  | _ => (match st with | .ref x :: st => k (tf_s1 L 3 (.ref x)) st h | .null :: st => k (tf_s1 L 3 .null) st h | _ => False)
/-- what stands at such a place -/
def tv_i (kd pr : Nat) : Instr × Nat := match kd with
  | 0 => (.getstatic pr, 3)
  | 1 => (.getfield 88, 3)
  | 2 => (.arraylength, 1)
  | 3 => (.aaload, 1)
  | 4 => (.aaload, 1)
  | 5 => (.aastore, 1)
  | 6 => (.iaload, 1)
  | 7 => (.if_acmp .eq (pr : Int), 3)
  | 8 => (.if_acmp .ne (pr : Int), 3)
  | 9 => (.invokevirtual 127, 3)
  | 10 => (.invokevirtual 96, 3)
  | 11 => (.invokevirtual 101, 3)
  | 12 => (.invokevirtual 65, 3)
  | _ => (.astore_n 3, 1)
def tv_hl (kn : Nat) : List (Nat × Nat × Nat) := match kn with
  | 223 => [(18, 13, 0), (43, 5, 0), (69, 12, 0)]
  | 227 => [(3, 0, 85), (6, 2, 0), (10, 0, 85), (14, 3, 0), (20, 12, 0), (31, 1, 0)]
  | 228 => [(1, 10, 0), (22, 10, 0), (30, 11, 0)]
  | 233 => [(0, 0, 122), (8, 4, 0), (9, 9, 0), (12, 6, 0)]
  | 234 => [(51, 4, 0), (52, 0, 137), (55, 7, 15), (63, 4, 0), (64, 0, 141), (67, 8, 12)]
  | 235 => [(5, 4, 0), (6, 0, 144), (9, 7, 15), (17, 4, 0), (18, 0, 147), (21, 8, 7)]
  | 236 => [(17, 4, 0), (18, 0, 150), (21, 8, 10)]
  | 237 => [(36, 4, 0), (37, 0, 137), (40, 8, 23), (68, 4, 0), (69, 0, 141), (72, 8, 21)]
  | 238 => [(10, 0, 122), (18, 4, 0), (19, 9, 0), (22, 6, 0)]
  | 240 => [(0, 0, 122), (8, 4, 0), (9, 9, 0), (12, 6, 0)]
  | 241 => [(0, 0, 122), (8, 4, 0), (9, 9, 0), (12, 6, 0)]
  | _ => []
def tf_Eg (nc d kn : Nat) : tf_Hk := match Nat.ble 222 kn && Nat.ble kn 241 with
  | true => fun pc => ((tv_hl kn).lookup pc).map (fun q => tv_f nc d pc q.1 q.2)
  | false => tf_Eh kn
theorem tf_Eg_lo {nc d kn : Nat} (h : kn < 222) : tf_Eg nc d kn = fun _ => none := by
  unfold tf_Eg
  rw [show Nat.ble 222 kn = false from by rw [← Bool.not_eq_true, Nat.ble_eq]; omega]
  rfl
def tf_Cd (nc : Nat) : Nat → tf_C
  | 0 => tf_ext nc
  | d + 1 => fun kn As h Q => if kn < 1000 then tf_rc nc (tf_mc kn) (tf_ml kn) As ∧ tf_LW nc (tf_Cd nc d) (tf_F (tf_mo kn)) (tf_M (tf_mo kn)) (tf_I (tf_mo kn)) (tf_Eg nc d kn) (tf_rkOf (tf_mr kn)) (tf_B kn) Q 0 (tf_en (tf_ml kn) As) [] h else tf_ext nc kn As h Q
theorem tf_Cd_ext {nc d kn : Nat} {As : List Value} {h : LH} {Q : tf_Q} (hk : ¬ kn < 1000) : tf_Cd nc d kn As h Q = tf_ext nc kn As h Q := by
  cases d with
  | zero => rfl
  | succ d => simp only [tf_Cd, if_neg hk]
set_option maxRecDepth 100000 in
theorem tf_Cd_rc {nc d kn : Nat} {As : List Value} {h : LH} {Q : tf_Q} (hk : kn < 1000) (hq : tf_Cd nc d kn As h Q) : tf_rc nc (tf_mc kn) (tf_ml kn) As := by
  cases d with
  | zero => exact absurd hq (tf_ext_1000 hk)
  | succ d =>
    simp only [tf_Cd, if_pos hk] at hq
    exact hq.1
theorem tf_E_cp {cA : Nat → ClassId} {ad : Nat → Nat} {h : LH} {a b sp dp n d : Nat} (hd : d ≠ b) : tf_E cA ad (tf_cp h.1 a b sp dp n, h.2) d = tf_E cA ad h d := by
  have e1 : tf_cp h.1 a b sp dp n d = h.1 d := by simp [tf_cp, hd]
  have e2 : tf_fv ad (tf_cp h.1 a b sp dp n, h.2) d = tf_fv ad h d := by funext k; simp [tf_fv, e1]
  simp only [tf_E, e2, e1]
theorem tf_three {α : Type} {st : List α} {n : Nat} {l : List α} (h : (st.take n).reverse = l) : st = l.reverse ++ st.drop n := by
  rw [← h, List.reverse_reverse, List.take_append_drop]
section TFX
variable {p : Program} {l : Launch} {e : Env} {R : Room} {s : State} {m : MethodId} {args : Array Value} {below : List Frame} {meth : Method} {c : Code} {QW : State → Prop}
variable {cc : ByteArray} {D : va_G} {cA : Nat → ClassId} {ad : Nat → Nat} {nc nL cells slots : Nat} {own : String} {Ts : List Jvm.Cond}
set_option maxHeartbeats 1000000 in
set_option maxRecDepth 100000 in
theorem tf_ext_ok {A : Nat → Prop} {kn na j d : Nat} {vd : Bool}
    (hx : p.tables.exec = Jvm.exec) (hb : c.code = cc) (hml : c.maxLocals = nL) (hown : s.vm.findClass own = some m.cls) (hts : ∀ w ∈ Ts, w.before args s = true) (hsub : ∀ w ∈ tf_BW, w ∈ Ts) (hK : va_K D vwCl (tf_ty cA) s) (hj : tf_inj ad nc) (hA : ∀ d, d < nc → A (ad d))
    (hR : 1 ≤ R.frames ∧ 32 ≤ R.locals) (hcz : cells ≤ R.cells ∧ slots ≤ R.slots)
    (hw : (kn = 1000 ∧ na = 1 ∧ vd = false ∧ Jvm.Cond.methodLink own j Lib.Math.abs.name ∈ tf_BW) ∨ (kn = 1001 ∧ na = 2 ∧ vd = false ∧ Jvm.Cond.methodLink own j Lib.Math.max.name ∈ tf_BW) ∨ (kn = 1002 ∧ na = 2 ∧ vd = false ∧ Jvm.Cond.methodLink own j Lib.Math.min.name ∈ tf_BW) ∨ ((kn = 1003 ∨ kn = 1004) ∧ na = 5 ∧ vd = true ∧ Jvm.Cond.methodLink own j arraycopyName ∈ tf_BW))
    {pc : Nat} {L st : List Value} {h : LH} {K : tf_Q} (hd : decode cc pc = .ok (.invokestatic j, 3)) (hsum : ((st.drop na).map Value.category).sum ≤ 8) (hCk : tf_ext nc kn (st.take na).reverse h K)
    (hk : ∀ r h, K r h → tf_At (fun H locs g => W p l e R s m args below meth c H locs cells slots QW g) m s.heap D cA ad A nc nL (pc + 3) L (if vd = true then st.drop na else r :: st.drop na) h) : tf_At (fun H locs g => W p l e R s m args below meth c H locs cells slots QW g) m s.heap D cA ad A nc nL pc L st h := by
  have hts' : ∀ w ∈ tf_BW, w.before args s = true := fun w hw => hts w (hsub w hw)
  have hmi : Jvm.Cond.initialized "java/lang/Math" ∈ tf_BW := tf_isw_in (i := 115) (by decide +kernel)
  unfold tf_ext at hCk
  intro H locs ls hP hS hL
  have hcs : (((st.drop na).map (tf_tr ad)).map fun v => v.category).sum ≤ 8 := by rw [tf_catsum]; exact hsum
  split at hCk
  · rename_i x hkn hArg
    obtain ⟨rfl, hq⟩ := hCk
    obtain ⟨-, rfl, rfl, hl⟩ | ⟨h0, -⟩ | ⟨h0, -⟩ | ⟨h0 | h0, -⟩ := hw
    · have hst := tf_three hArg
      have hst2 : st = .int x :: st.drop 1 := hst
      have hst3 : st.map (tf_tr ad) = .int x :: (st.drop 1).map (tf_tr ad) := by
        conv => lhs; rw [hst2]
        rfl
      show W p l e R s m args below meth c H locs cells slots QW (F0 m pc ls (st.map (tf_tr ad)))
      rw [hst3]
      exact va_mabs hx hb (hml.trans hL.1.symm) hown (hts' _ hl) (hts' _ (tf_isw_in (i := 405) (by decide +kernel))) (hts' _ hmi) (hts' _ (List.mem_filter.mpr ⟨List.mem_of_getElem? (i := 406) rfl, rfl⟩)) hR.1 (by omega) hcz.1 hcz.2 hd (hk _ _ hq H locs ls hP hS hL)
    all_goals exact absurd h0 (by decide)
  · rename_i x y hkn hArg
    obtain ⟨rfl, hq⟩ := hCk
    obtain ⟨h0, -⟩ | ⟨-, rfl, rfl, hl⟩ | ⟨h0, -⟩ | ⟨h0 | h0, -⟩ := hw
    · exact absurd h0 (by decide)
    · have hst := tf_three hArg
      have hst2 : st = .int y :: .int x :: st.drop 2 := hst
      have hst3 : st.map (tf_tr ad) = .int y :: .int x :: (st.drop 2).map (tf_tr ad) := by
        conv => lhs; rw [hst2]
        rfl
      show W p l e R s m args below meth c H locs cells slots QW (F0 m pc ls (st.map (tf_tr ad)))
      rw [hst3]
      exact va_mmax hx hb (hml.trans hL.1.symm) hown (hts' _ hl) (hts' _ (tf_isw_in (i := 667) (by decide +kernel))) (hts' _ hmi) (hts' _ (List.mem_filter.mpr ⟨List.mem_of_getElem? (i := 668) rfl, rfl⟩)) hR.1 (by omega) hcz.1 hcz.2 hd (hk _ _ hq H locs ls hP hS hL)
    all_goals exact absurd h0 (by decide)
  · rename_i x y hkn hArg
    obtain ⟨rfl, hq⟩ := hCk
    obtain ⟨h0, -⟩ | ⟨h0, -⟩ | ⟨-, rfl, rfl, hl⟩ | ⟨h0 | h0, -⟩ := hw
    · exact absurd h0 (by decide)
    · exact absurd h0 (by decide)
    · have hst := tf_three hArg
      have hst2 : st = .int y :: .int x :: st.drop 2 := hst
      have hst3 : st.map (tf_tr ad) = .int y :: .int x :: (st.drop 2).map (tf_tr ad) := by
        conv => lhs; rw [hst2]
        rfl
      show W p l e R s m args below meth c H locs cells slots QW (F0 m pc ls (st.map (tf_tr ad)))
      rw [hst3]
      exact va_mmin hx hb (hml.trans hL.1.symm) hown (hts' _ hl) (hts' _ (tf_isw_in (i := 707) (by decide +kernel))) (hts' _ hmi) (hts' _ (List.mem_filter.mpr ⟨List.mem_of_getElem? (i := 708) rfl, rfl⟩)) hR.1 (by omega) hcz.1 hcz.2 hd (hk _ _ hq H locs ls hP hS hL)
    all_goals exact absurd h0 (by decide)
  · rename_i a sp b dp n hkn hArg
    obtain ⟨rfl, ⟨ka, kb, la, lb, c1, c2, c3, c4, c5⟩, hq⟩ := hCk
    obtain ⟨h0, -⟩ | ⟨h0, -⟩ | ⟨h0, -⟩ | ⟨-, rfl, rfl, hl⟩ := hw
    · exact absurd h0 (by decide)
    · exact absurd h0 (by decide)
    · exact absurd h0 (by decide)
    · have hst := tf_three hArg
      have hst2 : st = .int n :: .int dp :: .ref b :: .int sp :: .ref a :: st.drop 5 := hst
      have hst3 : st.map (tf_tr ad) = .int n :: .int dp :: .ref (ad b) :: .int sp :: .ref (ad a) :: (st.drop 5).map (tf_tr ad) := by
        conv => lhs; rw [hst2]
        rfl
      show W p l e R s m args below meth c H locs cells slots QW (F0 m pc ls (st.map (tf_tr ad)))
      rw [hst3]
      refine va_copyi hx hb (hml.trans hL.1.symm) hown (hts' _ hl) (hts' _ (tf_isw_in (i := 640) (by decide +kernel))) (hts' _ (tf_isw_in (i := 639) (by decide +kernel))) (hts' _ (tf_isw_in (i := 124) (by decide +kernel))) hK hP (tf_ws_D hj hA) hS a b 0 0 (ty := .int) (f := h.1 a) (g := h.1 b) (n0 := tf_N a) (n1 := tf_N b) (c0 := cA 8) (c1 := cA 8) (by rw [tf_ws_get la, tf_E, ka]; rfl) (by rw [tf_ws_get lb, tf_E, kb]; rfl) rfl rfl rfl c1 c2 c3 c4 c5 (fun i _ => rfl) hR.1 ?_ hd (fun H1 locs1 hP1 hD1 hS1 => ?_)
      · refine Nat.le_trans (Nat.add_le_add_right hcs _) (Nat.le_trans ?_ hR.2)
        decide
      · rw [tf_ws_set (h' := (tf_cp h.1 a b sp.toNatClampNeg dp.toNatClampNeg n.toNatClampNeg, h.2)) (by rw [tf_E, kb]; simp [tf_cp]) (fun d hd => tf_E_cp hd)] at hP1
        exact hk _ _ hq H1 locs1 ls hP1 hS1 hL
  · rename_i a sp b dp n hkn hArg
    obtain ⟨rfl, ⟨⟨ka, kb, la, lb, c1, c2, c3, c4, c5⟩, hfit⟩, hq⟩ := hCk
    obtain ⟨h0, -⟩ | ⟨h0, -⟩ | ⟨h0, -⟩ | ⟨-, rfl, rfl, hl⟩ := hw
    · exact absurd h0 (by decide)
    · exact absurd h0 (by decide)
    · exact absurd h0 (by decide)
    · have hst := tf_three hArg
      have hst2 : st = .int n :: .int dp :: .ref b :: .int sp :: .ref a :: st.drop 5 := hst
      have hst3 : st.map (tf_tr ad) = .int n :: .int dp :: .ref (ad b) :: .int sp :: .ref (ad a) :: (st.drop 5).map (tf_tr ad) := by
        conv => lhs; rw [hst2]
        rfl
      show W p l e R s m args below meth c H locs cells slots QW (F0 m pc ls (st.map (tf_tr ad)))
      rw [hst3]
      refine va_copyi hx hb (hml.trans hL.1.symm) hown (hts' _ hl) (hts' _ (tf_isw_in (i := 640) (by decide +kernel))) (hts' _ (tf_isw_in (i := 639) (by decide +kernel))) (hts' _ (tf_isw_in (i := 124) (by decide +kernel))) hK hP (tf_ws_D hj hA) hS a b 1 1 (ty := .char) (f := h.1 a) (g := h.1 b) (n0 := tf_N a) (n1 := tf_N b) (c0 := cA 9) (c1 := cA 9) (by rw [tf_ws_get la, tf_E, ka]; rfl) (by rw [tf_ws_get lb, tf_E, kb]; rfl) rfl rfl rfl c1 c2 c3 c4 c5 hfit hR.1 ?_ hd (fun H1 locs1 hP1 hD1 hS1 => ?_)
      · refine Nat.le_trans (Nat.add_le_add_right hcs _) (Nat.le_trans ?_ hR.2)
        decide
      · rw [tf_ws_set (h' := (tf_cp h.1 a b sp.toNatClampNeg dp.toNatClampNeg n.toNatClampNeg, h.2)) (by rw [tf_E, kb]; simp [tf_cp]) (fun d hd => tf_E_cp hd)] at hP1
        exact hk _ _ hq H1 locs1 ls hP1 hS1 hL
  · exact hCk.elim
end TFX
end
section
/-! ===== the words of texts and the verbs: the JDK's own methods on them; each place that uses them is sound ===== -/
theorem dJ0_coder_7d493_0 : decode cJ0_coder_7d493 0 = .ok (.getstatic 38, 3) := by decide +kernel
theorem dJ0_coder_7d493_3 : decode cJ0_coder_7d493 3 = .ok (.ifCond .eq 10, 3) := by decide +kernel
theorem dJ0_coder_7d493_6 : decode cJ0_coder_7d493 6 = .ok (.aload_n 0, 1) := by decide +kernel
theorem dJ0_coder_7d493_7 : decode cJ0_coder_7d493 7 = .ok (.getfield 15, 3) := by decide +kernel
theorem dJ0_coder_7d493_10 : decode cJ0_coder_7d493 10 = .ok (.goto 4, 3) := by decide +kernel
theorem dJ0_coder_7d493_13 : decode cJ0_coder_7d493 13 = .ok (.iconst 1, 1) := by decide +kernel
theorem dJ0_coder_7d493_14 : decode cJ0_coder_7d493 14 = .ok (.ireturn, 1) := by decide +kernel
theorem dJ0_length_8abf5_0 : decode cJ0_length_8abf5 0 = .ok (.aload_n 0, 1) := by decide +kernel
theorem dJ0_length_8abf5_1 : decode cJ0_length_8abf5 1 = .ok (.getfield 9, 3) := by decide +kernel
theorem dJ0_length_8abf5_4 : decode cJ0_length_8abf5 4 = .ok (.arraylength, 1) := by decide +kernel
theorem dJ0_length_8abf5_5 : decode cJ0_length_8abf5 5 = .ok (.aload_n 0, 1) := by decide +kernel
theorem dJ0_length_8abf5_6 : decode cJ0_length_8abf5 6 = .ok (.invokevirtual 335, 3) := by decide +kernel
theorem dJ0_length_8abf5_9 : decode cJ0_length_8abf5 9 = .ok (.ishr, 1) := by decide +kernel
theorem dJ0_length_8abf5_10 : decode cJ0_length_8abf5 10 = .ok (.ireturn, 1) := by decide +kernel
theorem dJ0_isLatin1_aae02_0 : decode cJ0_isLatin1_aae02 0 = .ok (.getstatic 38, 3) := by decide +kernel
theorem dJ0_isLatin1_aae02_3 : decode cJ0_isLatin1_aae02 3 = .ok (.ifCond .eq 14, 3) := by decide +kernel
theorem dJ0_isLatin1_aae02_6 : decode cJ0_isLatin1_aae02 6 = .ok (.aload_n 0, 1) := by decide +kernel
theorem dJ0_isLatin1_aae02_7 : decode cJ0_isLatin1_aae02 7 = .ok (.getfield 15, 3) := by decide +kernel
theorem dJ0_isLatin1_aae02_10 : decode cJ0_isLatin1_aae02 10 = .ok (.ifCond .ne 7, 3) := by decide +kernel
theorem dJ0_isLatin1_aae02_13 : decode cJ0_isLatin1_aae02 13 = .ok (.iconst 1, 1) := by decide +kernel
theorem dJ0_isLatin1_aae02_14 : decode cJ0_isLatin1_aae02 14 = .ok (.goto 4, 3) := by decide +kernel
theorem dJ0_isLatin1_aae02_17 : decode cJ0_isLatin1_aae02 17 = .ok (.iconst 0, 1) := by decide +kernel
theorem dJ0_isLatin1_aae02_18 : decode cJ0_isLatin1_aae02 18 = .ok (.ireturn, 1) := by decide +kernel
theorem dJ0_charAt_5068e_0 : decode cJ0_charAt_5068e 0 = .ok (.aload_n 0, 1) := by decide +kernel
theorem dJ0_charAt_5068e_1 : decode cJ0_charAt_5068e 1 = .ok (.invokevirtual 492, 3) := by decide +kernel
theorem dJ0_charAt_5068e_4 : decode cJ0_charAt_5068e 4 = .ok (.ifCond .eq 12, 3) := by decide +kernel
theorem dJ0_charAt_5068e_7 : decode cJ0_charAt_5068e 7 = .ok (.aload_n 0, 1) := by decide +kernel
theorem dJ0_charAt_5068e_8 : decode cJ0_charAt_5068e 8 = .ok (.getfield 9, 3) := by decide +kernel
theorem dJ0_charAt_5068e_11 : decode cJ0_charAt_5068e 11 = .ok (.iload_n 1, 1) := by decide +kernel
theorem dJ0_charAt_5068e_12 : decode cJ0_charAt_5068e 12 = .ok (.invokestatic 495, 3) := by decide +kernel
theorem dJ0_charAt_5068e_15 : decode cJ0_charAt_5068e 15 = .ok (.ireturn, 1) := by decide +kernel
theorem dJ0_charAt_5068e_16 : decode cJ0_charAt_5068e 16 = .ok (.aload_n 0, 1) := by decide +kernel
theorem dJ0_charAt_5068e_17 : decode cJ0_charAt_5068e 17 = .ok (.getfield 9, 3) := by decide +kernel
theorem dJ0_charAt_5068e_20 : decode cJ0_charAt_5068e 20 = .ok (.iload_n 1, 1) := by decide +kernel
theorem dJ0_charAt_5068e_21 : decode cJ0_charAt_5068e 21 = .ok (.invokestatic 498, 3) := by decide +kernel
theorem dJ0_charAt_5068e_24 : decode cJ0_charAt_5068e 24 = .ok (.ireturn, 1) := by decide +kernel
theorem dJ1_charAt_3b067_0 : decode cJ1_charAt_3b067 0 = .ok (.iload_n 1, 1) := by decide +kernel
theorem dJ1_charAt_3b067_1 : decode cJ1_charAt_3b067 1 = .ok (.aload_n 0, 1) := by decide +kernel
theorem dJ1_charAt_3b067_2 : decode cJ1_charAt_3b067 2 = .ok (.arraylength, 1) := by decide +kernel
theorem dJ1_charAt_3b067_3 : decode cJ1_charAt_3b067 3 = .ok (.invokestatic 9, 3) := by decide +kernel
theorem dJ1_charAt_3b067_6 : decode cJ1_charAt_3b067 6 = .ok (.aload_n 0, 1) := by decide +kernel
theorem dJ1_charAt_3b067_7 : decode cJ1_charAt_3b067 7 = .ok (.iload_n 1, 1) := by decide +kernel
theorem dJ1_charAt_3b067_8 : decode cJ1_charAt_3b067 8 = .ok (.baload, 1) := by decide +kernel
theorem dJ1_charAt_3b067_9 : decode cJ1_charAt_3b067 9 = .ok (.sipush 255, 3) := by decide +kernel
theorem dJ1_charAt_3b067_12 : decode cJ1_charAt_3b067 12 = .ok (.iand, 1) := by decide +kernel
theorem dJ1_charAt_3b067_13 : decode cJ1_charAt_3b067 13 = .ok (.i2c, 1) := by decide +kernel
theorem dJ1_charAt_3b067_14 : decode cJ1_charAt_3b067 14 = .ok (.ireturn, 1) := by decide +kernel
theorem dJ0_checkIndex_df160_0 : decode cJ0_checkIndex_df160 0 = .ok (.iload_n 0, 1) := by decide +kernel
theorem dJ0_checkIndex_df160_1 : decode cJ0_checkIndex_df160 1 = .ok (.iload_n 1, 1) := by decide +kernel
theorem dJ0_checkIndex_df160_2 : decode cJ0_checkIndex_df160 2 = .ok (.getstatic 1053, 3) := by decide +kernel
theorem dJ0_checkIndex_df160_5 : decode cJ0_checkIndex_df160 5 = .ok (.invokestatic 1059, 3) := by decide +kernel
theorem dJ0_checkIndex_df160_8 : decode cJ0_checkIndex_df160 8 = .ok (.pop, 1) := by decide +kernel
theorem dJ0_checkIndex_df160_9 : decode cJ0_checkIndex_df160 9 = .ok (.return_, 1) := by decide +kernel
theorem dJ3_checkIndex_8e157_0 : decode cJ3_checkIndex_8e157 0 = .ok (.iload_n 0, 1) := by decide +kernel
theorem dJ3_checkIndex_8e157_1 : decode cJ3_checkIndex_8e157 1 = .ok (.ifCond .lt 8, 3) := by decide +kernel
theorem dJ3_checkIndex_8e157_4 : decode cJ3_checkIndex_8e157 4 = .ok (.iload_n 0, 1) := by decide +kernel
theorem dJ3_checkIndex_8e157_5 : decode cJ3_checkIndex_8e157 5 = .ok (.iload_n 1, 1) := by decide +kernel
theorem dJ3_checkIndex_8e157_6 : decode cJ3_checkIndex_8e157 6 = .ok (.if_icmp .lt 10, 3) := by decide +kernel
theorem dJ3_checkIndex_8e157_9 : decode cJ3_checkIndex_8e157 9 = .ok (.aload_n 2, 1) := by decide +kernel
theorem dJ3_checkIndex_8e157_10 : decode cJ3_checkIndex_8e157 10 = .ok (.iload_n 0, 1) := by decide +kernel
theorem dJ3_checkIndex_8e157_11 : decode cJ3_checkIndex_8e157 11 = .ok (.iload_n 1, 1) := by decide +kernel
theorem dJ3_checkIndex_8e157_12 : decode cJ3_checkIndex_8e157 12 = .ok (.invokestatic 95, 3) := by decide +kernel
theorem dJ3_checkIndex_8e157_15 : decode cJ3_checkIndex_8e157 15 = .ok (.athrow, 1) := by decide +kernel
theorem dJ3_checkIndex_8e157_16 : decode cJ3_checkIndex_8e157 16 = .ok (.iload_n 0, 1) := by decide +kernel
theorem dJ3_checkIndex_8e157_17 : decode cJ3_checkIndex_8e157 17 = .ok (.ireturn, 1) := by decide +kernel
theorem dJx29ce0_ordinal_8abf5_0 : decode cJx29ce0_ordinal_8abf5 0 = .ok (.aload_n 0, 1) := by decide +kernel
theorem dJx29ce0_ordinal_8abf5_1 : decode cJx29ce0_ordinal_8abf5 1 = .ok (.getfield 7, 3) := by decide +kernel
theorem dJx29ce0_ordinal_8abf5_4 : decode cJx29ce0_ordinal_8abf5 4 = .ok (.ireturn, 1) := by decide +kernel
theorem dX7_numbers_0 : decode cX7_numbers 0 = .ok (.iload_n 1, 1) := by decide +kernel
theorem dX7_numbers_1 : decode cX7_numbers 1 = .ok (.ifCond .eq 10, 3) := by decide +kernel
theorem dX7_numbers_4 : decode cX7_numbers 4 = .ok (.aload_n 0, 1) := by decide +kernel
theorem dX7_numbers_5 : decode cX7_numbers 5 = .ok (.getfield 78, 3) := by decide +kernel
theorem dX7_numbers_8 : decode cX7_numbers 8 = .ok (.goto 7, 3) := by decide +kernel
theorem dX7_numbers_11 : decode cX7_numbers 11 = .ok (.aload_n 0, 1) := by decide +kernel
theorem dX7_numbers_12 : decode cX7_numbers 12 = .ok (.getfield 74, 3) := by decide +kernel
theorem dX7_numbers_15 : decode cX7_numbers 15 = .ok (.ireturn, 1) := by decide +kernel
theorem tv_Sb {As : List Value} {ad : Nat → Nat} {A : Nat → Prop} : FrameBlind (va_Pc As (fun U => tv_S ad A U U.heap)) := fun a U g mk q => ⟨q.1, tv_S.moved (u := U) (U := U.calling g mk a) (Vm.Alike.refl U.vm) q.2⟩
theorem tv_Vb {As : List Value} {ad : Nat → Nat} {A : Nat → Prop} : FrameBlind (va_Pc As (fun U => tv_V ad A U U.heap)) := fun a U g mk q => ⟨q.1, tv_V.moved (u := U) (U := U.calling g mk a) (Vm.Alike.refl U.vm) q.2⟩
theorem tv_Sxb {As : List Value} {ad : Nat → Nat} {A : Nat → Prop} {G : Prop} : FrameBlind (va_Pc As (fun U => tv_S ad A U U.heap ∧ G)) := fun a U g mk q => ⟨q.1, tv_S.moved (u := U) (U := U.calling g mk a) (Vm.Alike.refl U.vm) q.2.1, q.2.2⟩
theorem tv_Gb {As : List Value} {G : Prop} : FrameBlind (va_Pc As (fun _ => G)) := fun _ _ _ _ q => q
theorem tv_c1 : ∀ i, i < 15 → (nI (tv_len.getD i 0)) >>> ((0 : Int32) &&& 31) = nI (tv_len.getD i 0) := by decide +kernel
theorem tv_c2 : ∀ i, i < 15 → ∀ k, k < tv_len.getD i 0 → ((tv_ch i k &&& 255).toUInt32 % 65536).toInt32 = tv_ch i k ∧ narrow .char (.int (tv_ch i k)) = .int (tv_ch i k) := by decide +kernel
theorem tv_c3 : ∀ i, i < 15 → tv_ord.getD i 0 = nI i := by decide +kernel
theorem tv_c4 : ∀ i, i < 15 → tv_len.getD i 0 < 8 := by decide +kernel
set_option maxHeartbeats 2000000 in
set_option maxRecDepth 100000 in
theorem tv_m_coder (l : Launch) (ad : Nat → Nat) (A : Nat → Prop) {i : Nat} (hi : i < 15) : Met l yJ0_coder_7d493 (Jvm.Cond.code yJ0_coder_7d493 cJ0_coder_7d493 1 (some .byte) :: tf_BW) (tf_rm 0) (va_Pc [.ref (ad (430 + i))] (fun U => tv_S ad A U U.heap)) (vp_Si (fun r => r = 0)) 0 0 (fun _ => False) := by
  refine Met.ofW (cc := cJ0_coder_7d493) (maxL := 1) (ret := (some .byte)) (by decide) rfl ?_
  intro p e s m args below meth c s₁ B hml hv
  obtain ⟨rfl, hZ⟩ := hv
  have hx := B.exec
  have hb := B.bytes
  have hr := B.returns
  have hts := atoms_spec (ws := Jvm.Cond.code yJ0_coder_7d493 cJ0_coder_7d493 1 (some .byte) :: tf_BW) B.pre
  have hsub : ∀ w ∈ tf_BW, w ∈ Jvm.Cond.code yJ0_coder_7d493 cJ0_coder_7d493 1 (some .byte) :: tf_BW := fun w hw => List.mem_cons_of_mem _ hw
  have hT : ∀ w ∈ tf_BW, w.before ([.ref (ad (430 + i))] : List Value).toArray s = true := fun w hw => hts w (hsub w hw)
  have hown : s.vm.findClass RJ0 = some m.cls := findClass_of_methodNamed B.named
  have hlocks := B.notSynchronized
  have hS : va_S A s.heap s.heap [] := va_S.rf
  have hl := lv_entry [.ref (ad (430 + i))] (n := 1) (Nat.le_of_ble_eq_true rfl)
  rw [lg_entry_eq]
  generalize (lg_sl [.ref (ad (430 + i))] ++ List.replicate (1 - (lg_sl [.ref (ad (430 + i))]).length) Slot.unset).toArray = ls at hl ⊢
  have hl : lv_has ls 1 [(0, .ref (ad (430 + i)))] := hl
  refine va_gets (ref := "java/lang/String") (v := .int 1) hx hb hZ.2.1 hS hown (hT _ (tf_isw_in (i := 507) (by decide +kernel))) (fun _ h => h) dJ0_coder_7d493_0 ?_
  refine lv_if_eq (tgt := 13) hx hb dJ0_coder_7d493_3 rfl (fun z => absurd z (by decide)) (fun _ => ?_)
  refine lv_aload_n hx hb dJ0_coder_7d493_6 rfl (lv_at hl 0 rfl) ?_
  refine vk_getf (ref := "java/lang/String") hx hb (hZ.1.1 i hi).2.1 hS hown (hT _ (tf_isw_in (i := 1771) (by decide +kernel))) (fun _ h => h) dJ0_coder_7d493_7 ?_
  refine lv_goto (tgt := 14) hx hb dJ0_coder_7d493_10 rfl ?_
  exact W.zret (v := 0) hx hb hr rfl (fun t ht hW => ⟨0, rfl, rfl, ht⟩) (fun q hq => absurd hq List.not_mem_nil) dJ0_coder_7d493_14
set_option maxHeartbeats 2000000 in
set_option maxRecDepth 100000 in
theorem tv_m_isLatin1 (l : Launch) (ad : Nat → Nat) (A : Nat → Prop) {i : Nat} (hi : i < 15) : Met l yJ0_isLatin1_aae02 (Jvm.Cond.code yJ0_isLatin1_aae02 cJ0_isLatin1_aae02 1 (some .boolean) :: tf_BW) (tf_rm 0) (va_Pc [.ref (ad (430 + i))] (fun U => tv_S ad A U U.heap)) (vp_Si (fun r => r = 1)) 0 0 (fun _ => False) := by
  refine Met.ofW (cc := cJ0_isLatin1_aae02) (maxL := 1) (ret := (some .boolean)) (by decide) rfl ?_
  intro p e s m args below meth c s₁ B hml hv
  obtain ⟨rfl, hZ⟩ := hv
  have hx := B.exec
  have hb := B.bytes
  have hr := B.returns
  have hts := atoms_spec (ws := Jvm.Cond.code yJ0_isLatin1_aae02 cJ0_isLatin1_aae02 1 (some .boolean) :: tf_BW) B.pre
  have hsub : ∀ w ∈ tf_BW, w ∈ Jvm.Cond.code yJ0_isLatin1_aae02 cJ0_isLatin1_aae02 1 (some .boolean) :: tf_BW := fun w hw => List.mem_cons_of_mem _ hw
  have hT : ∀ w ∈ tf_BW, w.before ([.ref (ad (430 + i))] : List Value).toArray s = true := fun w hw => hts w (hsub w hw)
  have hown : s.vm.findClass RJ0 = some m.cls := findClass_of_methodNamed B.named
  have hlocks := B.notSynchronized
  have hS : va_S A s.heap s.heap [] := va_S.rf
  have hl := lv_entry [.ref (ad (430 + i))] (n := 1) (Nat.le_of_ble_eq_true rfl)
  rw [lg_entry_eq]
  generalize (lg_sl [.ref (ad (430 + i))] ++ List.replicate (1 - (lg_sl [.ref (ad (430 + i))]).length) Slot.unset).toArray = ls at hl ⊢
  have hl : lv_has ls 1 [(0, .ref (ad (430 + i)))] := hl
  refine va_gets (ref := "java/lang/String") (v := .int 1) hx hb hZ.2.1 hS hown (hT _ (tf_isw_in (i := 507) (by decide +kernel))) (fun _ h => h) dJ0_isLatin1_aae02_0 ?_
  refine lv_if_eq (tgt := 17) hx hb dJ0_isLatin1_aae02_3 rfl (fun z => absurd z (by decide)) (fun _ => ?_)
  refine lv_aload_n hx hb dJ0_isLatin1_aae02_6 rfl (lv_at hl 0 rfl) ?_
  refine vk_getf (ref := "java/lang/String") hx hb (hZ.1.1 i hi).2.1 hS hown (hT _ (tf_isw_in (i := 1771) (by decide +kernel))) (fun _ h => h) dJ0_isLatin1_aae02_7 ?_
  refine lv_if_ne (tgt := 17) hx hb dJ0_isLatin1_aae02_10 rfl (fun z => absurd rfl z) (fun _ => ?_)
  refine lv_iconst (v := 1) hx hb dJ0_isLatin1_aae02_13 rfl ?_
  refine lv_goto (tgt := 18) hx hb dJ0_isLatin1_aae02_14 rfl ?_
  exact W.zret (v := 1) hx hb hr rfl (fun t ht hW => ⟨1, rfl, rfl, ht⟩) (fun q hq => absurd hq List.not_mem_nil) dJ0_isLatin1_aae02_18
set_option maxHeartbeats 2000000 in
set_option maxRecDepth 100000 in
theorem tv_m_length (l : Launch) (ad : Nat → Nat) (A : Nat → Prop) {i : Nat} (hi : i < 15) : Met l yJ0_length_8abf5 (Jvm.Cond.code yJ0_length_8abf5 cJ0_length_8abf5 1 (some .int) :: tf_BW) (tf_rm 1) (va_Pc [.ref (ad (430 + i))] (fun U => tv_S ad A U U.heap)) (vp_Si (fun r => r = nI (tv_len.getD i 0))) 0 0 (fun _ => False) := by
  refine Met.ofW (cc := cJ0_length_8abf5) (maxL := 1) (ret := (some .int)) (by decide) rfl ?_
  intro p e s m args below meth c s₁ B hml hv
  obtain ⟨rfl, hZ⟩ := hv
  have hx := B.exec
  have hb := B.bytes
  have hr := B.returns
  have hts := atoms_spec (ws := Jvm.Cond.code yJ0_length_8abf5 cJ0_length_8abf5 1 (some .int) :: tf_BW) B.pre
  have hsub : ∀ w ∈ tf_BW, w ∈ Jvm.Cond.code yJ0_length_8abf5 cJ0_length_8abf5 1 (some .int) :: tf_BW := fun w hw => List.mem_cons_of_mem _ hw
  have hT : ∀ w ∈ tf_BW, w.before ([.ref (ad (430 + i))] : List Value).toArray s = true := fun w hw => hts w (hsub w hw)
  have hown : s.vm.findClass RJ0 = some m.cls := findClass_of_methodNamed B.named
  have hlocks := B.notSynchronized
  have hS : va_S A s.heap s.heap [] := va_S.rf
  have hl := lv_entry [.ref (ad (430 + i))] (n := 1) (Nat.le_of_ble_eq_true rfl)
  rw [lg_entry_eq]
  generalize (lg_sl [.ref (ad (430 + i))] ++ List.replicate (1 - (lg_sl [.ref (ad (430 + i))]).length) Slot.unset).toArray = ls at hl ⊢
  have hl : lv_has ls 1 [(0, .ref (ad (430 + i)))] := hl
  refine lv_aload_n hx hb dJ0_length_8abf5_0 rfl (lv_at hl 0 rfl) ?_
  refine vk_getf (ref := "java/lang/String") hx hb (hZ.1.1 i hi).2.2.1 hS hown (hT _ (tf_isw_in (i := 1770) (by decide +kernel))) (fun _ h => h) dJ0_length_8abf5_1 ?_
  refine va_tlen (v := nI (tv_len.getD i 0)) hx hb (hZ.1.1 i hi).2.2.2 hS rfl dJ0_length_8abf5_4 ?_
  refine lv_aload_n hx hb dJ0_length_8abf5_5 rfl (lv_at hl 0 rfl) ?_
  have hrv := vk_recv hZ.1 hi hS
  refine vp_callSi (W.runV (As := []) (rest := [.int (nI (tv_len.getD i 0))]) (b := ad (430 + i)) (C := RJ0) ⟨hx, hb, hml, hown, hts⟩ (tv_m_coder l ad A hi) ⟨callB_of 0 hts (tf_goodBW tf_BW_good hsub (List.mem_filter.mpr ⟨List.mem_of_getElem? (i := 506) rfl, rfl⟩)) rfl rfl rfl (hT _ (tf_isw_in (i := 119) (by decide +kernel))) (hT _ (tf_isw_in (i := 503) (by decide +kernel))) ⟨by decide, by decide, by decide +kernel⟩ ⟨by decide, by decide⟩, hT _ (tf_isw_in (i := 504) (by decide +kernel)), hT _ (tf_isw_in (i := 505) (by decide +kernel))⟩ ⟨tv_Sb, hrv, fun U hU hW => ⟨rfl, by show tv_S ad A U U.heap; rw [hU]; exact tv_S.moved hW.alike hZ⟩⟩ rfl rfl hl.1 rfl (Nat.le_of_ble_eq_true rfl)  dJ0_length_8abf5_6 ⟨Nat.le_refl _, Nat.le_refl _⟩) (fun r hr9 => ?_)
  subst hr9
  refine lv_ishr hx hb dJ0_length_8abf5_9 ?_
  rw [tv_c1 i hi]
  exact W.iret hx hb hr (fun t ht hW => ⟨_, rfl, rfl, ht⟩) (fun q hq => absurd hq List.not_mem_nil) dJ0_length_8abf5_10
set_option maxHeartbeats 2000000 in
set_option maxRecDepth 100000 in
theorem tv_m_pciN (l : Launch) (ad : Nat → Nat) (A : Nat → Prop) {x n : Int32}  : Met l yJ3_checkIndex_8e157 (Jvm.Cond.code yJ3_checkIndex_8e157 cJ3_checkIndex_8e157 3 (some .int) :: tf_BW) (tf_rm 0) (va_Pc [.int x, .int n, .null] (fun U => ¬ x < 0 ∧ x < n)) (vp_Si (fun _ => True)) 0 0 (fun _ => False) := by
  refine Met.ofW (cc := cJ3_checkIndex_8e157) (maxL := 3) (ret := (some .int)) (by decide) rfl ?_
  intro p e s m args below meth c s₁ B hml hv
  obtain ⟨rfl, hZ⟩ := hv
  have hx := B.exec
  have hb := B.bytes
  have hr := B.returns
  have hts := atoms_spec (ws := Jvm.Cond.code yJ3_checkIndex_8e157 cJ3_checkIndex_8e157 3 (some .int) :: tf_BW) B.pre
  have hsub : ∀ w ∈ tf_BW, w ∈ Jvm.Cond.code yJ3_checkIndex_8e157 cJ3_checkIndex_8e157 3 (some .int) :: tf_BW := fun w hw => List.mem_cons_of_mem _ hw
  have hT : ∀ w ∈ tf_BW, w.before ([.int x, .int n, .null] : List Value).toArray s = true := fun w hw => hts w (hsub w hw)
  have hown : s.vm.findClass RJ3 = some m.cls := findClass_of_methodNamed B.named
  have hlocks := B.notSynchronized
  have hS : va_S A s.heap s.heap [] := va_S.rf
  have hl := lv_entry [.int x, .int n, .null] (n := 3) (Nat.le_of_ble_eq_true rfl)
  rw [lg_entry_eq]
  generalize (lg_sl [.int x, .int n, .null] ++ List.replicate (3 - (lg_sl [.int x, .int n, .null]).length) Slot.unset).toArray = ls at hl ⊢
  have hl : lv_has ls 3 [(0, .int x), (1, .int n), (2, .null)] := hl
  refine lv_iload_n hx hb dJ3_checkIndex_8e157_0 rfl (lv_at hl 0 rfl) ?_
  refine lv_if_lt (tgt := 9) hx hb dJ3_checkIndex_8e157_1 rfl (fun z => absurd z hZ.1) (fun _ => ?_)
  refine lv_iload_n hx hb dJ3_checkIndex_8e157_4 rfl (lv_at hl 0 rfl) ?_
  refine lv_iload_n hx hb dJ3_checkIndex_8e157_5 rfl (lv_at hl 1 rfl) ?_
  refine lv_icmp_lt (tgt := 16) hx hb dJ3_checkIndex_8e157_6 rfl (fun _ => ?_) (fun z => absurd hZ.2 z)
  refine lv_iload_n hx hb dJ3_checkIndex_8e157_16 rfl (lv_at hl 0 rfl) ?_
  exact W.iret hx hb hr (fun t ht hW => ⟨_, rfl, trivial, ht⟩) (fun q hq => absurd hq List.not_mem_nil) dJ3_checkIndex_8e157_17
set_option maxHeartbeats 2000000 in
set_option maxRecDepth 100000 in
theorem tv_m_pciR (l : Launch) (ad : Nat → Nat) (A : Nat → Prop) {x n : Int32} {w9 : Nat} : Met l yJ3_checkIndex_8e157 (Jvm.Cond.code yJ3_checkIndex_8e157 cJ3_checkIndex_8e157 3 (some .int) :: tf_BW) (tf_rm 0) (va_Pc [.int x, .int n, .ref w9] (fun U => ¬ x < 0 ∧ x < n)) (vp_Si (fun _ => True)) 0 0 (fun _ => False) := by
  refine Met.ofW (cc := cJ3_checkIndex_8e157) (maxL := 3) (ret := (some .int)) (by decide) rfl ?_
  intro p e s m args below meth c s₁ B hml hv
  obtain ⟨rfl, hZ⟩ := hv
  have hx := B.exec
  have hb := B.bytes
  have hr := B.returns
  have hts := atoms_spec (ws := Jvm.Cond.code yJ3_checkIndex_8e157 cJ3_checkIndex_8e157 3 (some .int) :: tf_BW) B.pre
  have hsub : ∀ w ∈ tf_BW, w ∈ Jvm.Cond.code yJ3_checkIndex_8e157 cJ3_checkIndex_8e157 3 (some .int) :: tf_BW := fun w hw => List.mem_cons_of_mem _ hw
  have hT : ∀ w ∈ tf_BW, w.before ([.int x, .int n, .ref w9] : List Value).toArray s = true := fun w hw => hts w (hsub w hw)
  have hown : s.vm.findClass RJ3 = some m.cls := findClass_of_methodNamed B.named
  have hlocks := B.notSynchronized
  have hS : va_S A s.heap s.heap [] := va_S.rf
  have hl := lv_entry [.int x, .int n, .ref w9] (n := 3) (Nat.le_of_ble_eq_true rfl)
  rw [lg_entry_eq]
  generalize (lg_sl [.int x, .int n, .ref w9] ++ List.replicate (3 - (lg_sl [.int x, .int n, .ref w9]).length) Slot.unset).toArray = ls at hl ⊢
  have hl : lv_has ls 3 [(0, .int x), (1, .int n), (2, .ref w9)] := hl
  refine lv_iload_n hx hb dJ3_checkIndex_8e157_0 rfl (lv_at hl 0 rfl) ?_
  refine lv_if_lt (tgt := 9) hx hb dJ3_checkIndex_8e157_1 rfl (fun z => absurd z hZ.1) (fun _ => ?_)
  refine lv_iload_n hx hb dJ3_checkIndex_8e157_4 rfl (lv_at hl 0 rfl) ?_
  refine lv_iload_n hx hb dJ3_checkIndex_8e157_5 rfl (lv_at hl 1 rfl) ?_
  refine lv_icmp_lt (tgt := 16) hx hb dJ3_checkIndex_8e157_6 rfl (fun _ => ?_) (fun z => absurd hZ.2 z)
  refine lv_iload_n hx hb dJ3_checkIndex_8e157_16 rfl (lv_at hl 0 rfl) ?_
  exact W.iret hx hb hr (fun t ht hW => ⟨_, rfl, trivial, ht⟩) (fun q hq => absurd hq List.not_mem_nil) dJ3_checkIndex_8e157_17
set_option maxHeartbeats 2000000 in
set_option maxRecDepth 100000 in
theorem tv_m_sci (l : Launch) (ad : Nat → Nat) (A : Nat → Prop) {x n : Int32} : Met l yJ0_checkIndex_df160 (Jvm.Cond.code yJ0_checkIndex_df160 cJ0_checkIndex_df160 2 none :: tf_BW) (tf_rm 1) (va_Pc [.int x, .int n] (fun U => tv_S ad A U U.heap ∧ (¬ x < 0 ∧ x < n))) (va_Sv (fun _ => True)) 0 0 (fun _ => False) := by
  refine Met.ofW (cc := cJ0_checkIndex_df160) (maxL := 2) (ret := none) (by decide) rfl ?_
  intro p e s m args below meth c s₁ B hml hv
  obtain ⟨rfl, hZ⟩ := hv
  have hx := B.exec
  have hb := B.bytes
  have hr := B.returns
  have hts := atoms_spec (ws := Jvm.Cond.code yJ0_checkIndex_df160 cJ0_checkIndex_df160 2 none :: tf_BW) B.pre
  have hsub : ∀ w ∈ tf_BW, w ∈ Jvm.Cond.code yJ0_checkIndex_df160 cJ0_checkIndex_df160 2 none :: tf_BW := fun w hw => List.mem_cons_of_mem _ hw
  have hT : ∀ w ∈ tf_BW, w.before ([.int x, .int n] : List Value).toArray s = true := fun w hw => hts w (hsub w hw)
  have hown : s.vm.findClass RJ0 = some m.cls := findClass_of_methodNamed B.named
  have hlocks := B.notSynchronized
  have hS : va_S A s.heap s.heap [] := va_S.rf
  have hl := lv_entry [.int x, .int n] (n := 2) (Nat.le_of_ble_eq_true rfl)
  rw [lg_entry_eq]
  generalize (lg_sl [.int x, .int n] ++ List.replicate (2 - (lg_sl [.int x, .int n]).length) Slot.unset).toArray = ls at hl ⊢
  have hl : lv_has ls 2 [(0, .int x), (1, .int n)] := hl
  refine lv_iload_n hx hb dJ0_checkIndex_df160_0 rfl (lv_at hl 0 rfl) ?_
  refine lv_iload_n hx hb dJ0_checkIndex_df160_1 rfl (lv_at hl 1 rfl) ?_
  rcases hZ.1.2.2 with hq | ⟨w9, hq⟩
  · refine va_gets (ref := "jdk/internal/util/Preconditions") hx hb hq hS hown (hT _ (tf_isw_in (i := 523) (by decide +kernel))) (fun _ h => h) dJ0_checkIndex_df160_2 ?_
    refine vp_callSi (W.runS (As := [.int x, .int n, .null]) (rest := []) ⟨hx, hb, hml, hown, hts⟩ (tv_m_pciN l ad A) ⟨callB_of 3 hts (tf_goodBW tf_BW_good hsub (List.mem_filter.mpr ⟨List.mem_of_getElem? (i := 527) rfl, rfl⟩)) rfl rfl rfl (hT _ (tf_isw_in (i := 121) (by decide +kernel))) (hT _ (tf_isw_in (i := 525) (by decide +kernel))) ⟨by decide, by decide, by decide +kernel⟩ ⟨by decide, by decide⟩, hT _ (tf_isw_in (i := 526) (by decide +kernel))⟩ ⟨tv_Gb, fun U hU hW => ⟨rfl, hZ.2⟩⟩ rfl rfl hl.1 rfl (Nat.le_of_ble_eq_true rfl)  dJ0_checkIndex_df160_5 ⟨Nat.le_refl _, Nat.le_refl _⟩) (fun r _ => ?_)
    refine lv_pop hx hb dJ0_checkIndex_df160_8 rfl ?_
    exact W.vret hx hb hr (fun t ht hW => ⟨rfl, trivial, ht⟩) (fun q hq => absurd hq List.not_mem_nil) dJ0_checkIndex_df160_9
  · refine va_gets (ref := "jdk/internal/util/Preconditions") hx hb hq hS hown (hT _ (tf_isw_in (i := 523) (by decide +kernel))) (fun _ h => h) dJ0_checkIndex_df160_2 ?_
    refine vp_callSi (W.runS (As := [.int x, .int n, .ref w9]) (rest := []) ⟨hx, hb, hml, hown, hts⟩ (tv_m_pciR l ad A) ⟨callB_of 3 hts (tf_goodBW tf_BW_good hsub (List.mem_filter.mpr ⟨List.mem_of_getElem? (i := 527) rfl, rfl⟩)) rfl rfl rfl (hT _ (tf_isw_in (i := 121) (by decide +kernel))) (hT _ (tf_isw_in (i := 525) (by decide +kernel))) ⟨by decide, by decide, by decide +kernel⟩ ⟨by decide, by decide⟩, hT _ (tf_isw_in (i := 526) (by decide +kernel))⟩ ⟨tv_Gb, fun U hU hW => ⟨rfl, hZ.2⟩⟩ rfl rfl hl.1 rfl (Nat.le_of_ble_eq_true rfl)  dJ0_checkIndex_df160_5 ⟨Nat.le_refl _, Nat.le_refl _⟩) (fun r _ => ?_)
    refine lv_pop hx hb dJ0_checkIndex_df160_8 rfl ?_
    exact W.vret hx hb hr (fun t ht hW => ⟨rfl, trivial, ht⟩) (fun q hq => absurd hq List.not_mem_nil) dJ0_checkIndex_df160_9
set_option maxHeartbeats 2000000 in
set_option maxRecDepth 100000 in
theorem tv_m_lcharAt (l : Launch) (ad : Nat → Nat) (A : Nat → Prop) {i : Nat} (hi : i < 15) {x : Int32} (hin : vp_in x (tv_len.getD i 0)) : Met l yJ1_charAt_3b067 (Jvm.Cond.code yJ1_charAt_3b067 cJ1_charAt_3b067 2 (some .char) :: tf_BW) (tf_rm 2) (va_Pc [.ref (ad (450 + i)), .int x] (fun U => tv_S ad A U U.heap)) (vp_Si (fun r => r = tv_ch i x.toNatClampNeg)) 0 0 (fun _ => False) := by
  refine Met.ofW (cc := cJ1_charAt_3b067) (maxL := 2) (ret := (some .char)) (by decide) rfl ?_
  intro p e s m args below meth c s₁ B hml hv
  obtain ⟨rfl, hZ⟩ := hv
  have hx := B.exec
  have hb := B.bytes
  have hr := B.returns
  have hts := atoms_spec (ws := Jvm.Cond.code yJ1_charAt_3b067 cJ1_charAt_3b067 2 (some .char) :: tf_BW) B.pre
  have hsub : ∀ w ∈ tf_BW, w ∈ Jvm.Cond.code yJ1_charAt_3b067 cJ1_charAt_3b067 2 (some .char) :: tf_BW := fun w hw => List.mem_cons_of_mem _ hw
  have hT : ∀ w ∈ tf_BW, w.before ([.ref (ad (450 + i)), .int x] : List Value).toArray s = true := fun w hw => hts w (hsub w hw)
  have hown : s.vm.findClass RJ1 = some m.cls := findClass_of_methodNamed B.named
  have hlocks := B.notSynchronized
  have hS : va_S A s.heap s.heap [] := va_S.rf
  have hl := lv_entry [.ref (ad (450 + i)), .int x] (n := 2) (Nat.le_of_ble_eq_true rfl)
  rw [lg_entry_eq]
  generalize (lg_sl [.ref (ad (450 + i)), .int x] ++ List.replicate (2 - (lg_sl [.ref (ad (450 + i)), .int x]).length) Slot.unset).toArray = ls at hl ⊢
  have hl : lv_has ls 2 [(0, .ref (ad (450 + i))), (1, .int x)] := hl
  have hlt : x.toNatClampNeg < tv_len.getD i 0 := Nat.not_le.mp fun q => hin (Or.inr q)
  have hx0 : ¬ x < 0 := fun q => hin (Or.inl q)
  have hl8 := tv_c4 i hi
  have hxn : x < nI (tv_len.getD i 0) := by
    obtain ⟨j, hj, e⟩ := nI_of hx0
    subst e
    rw [nI_clamp hj] at hlt
    exact nI_lt hlt (by omega)
  refine lv_iload_n hx hb dJ1_charAt_3b067_0 rfl (lv_at hl 1 rfl) ?_
  refine lv_aload_n hx hb dJ1_charAt_3b067_1 rfl (lv_at hl 0 rfl) ?_
  refine va_tlen (v := nI (tv_len.getD i 0)) hx hb (hZ.1.1 i hi).2.2.2 hS rfl dJ1_charAt_3b067_2 ?_
  refine va_csv (W.runS (As := [.int x, .int (nI (tv_len.getD i 0))]) (rest := []) ⟨hx, hb, hml, hown, hts⟩ (tv_m_sci l ad A) ⟨callB_of 2 hts (tf_goodBW tf_BW_good hsub (List.mem_filter.mpr ⟨List.mem_of_getElem? (i := 522) rfl, rfl⟩)) rfl rfl rfl (hT _ (tf_isw_in (i := 119) (by decide +kernel))) (hT _ (tf_isw_in (i := 520) (by decide +kernel))) ⟨by decide, by decide, by decide +kernel⟩ ⟨by decide, by decide⟩, hT _ (tf_isw_in (i := 521) (by decide +kernel))⟩ ⟨tv_Sxb, fun U hU hW => ⟨rfl, (by show tv_S ad A U U.heap; rw [hU]; exact tv_S.moved hW.alike hZ), hx0, hxn⟩⟩ rfl rfl hl.1 rfl (Nat.le_of_ble_eq_true rfl)  dJ1_charAt_3b067_3 ⟨Nat.le_refl _, Nat.le_refl _⟩) (fun _ => ?_)
  refine lv_aload_n hx hb dJ1_charAt_3b067_6 rfl (lv_at hl 0 rfl) ?_
  refine lv_iload_n hx hb dJ1_charAt_3b067_7 rfl (lv_at hl 1 rfl) ?_
  refine va_tb (v := .int (tv_ch i x.toNatClampNeg)) hx hb (hZ.1.1 i hi).2.2.2 hS hin rfl dJ1_charAt_3b067_8 ?_
  refine lv_sipush (v := 255) hx hb dJ1_charAt_3b067_9 rfl ?_
  refine lv_iand hx hb dJ1_charAt_3b067_12 ?_
  refine lv_i2c (v := tv_ch i x.toNatClampNeg) hx hb dJ1_charAt_3b067_13 (tv_c2 i hi _ hlt).1 ?_
  exact W.zret hx hb hr (tv_c2 i hi _ hlt).2 (fun t ht hW => ⟨_, rfl, rfl, ht⟩) (fun q hq => absurd hq List.not_mem_nil) dJ1_charAt_3b067_14
set_option maxHeartbeats 2000000 in
set_option maxRecDepth 100000 in
theorem tv_m_charAt (l : Launch) (ad : Nat → Nat) (A : Nat → Prop) {i : Nat} (hi : i < 15) {x : Int32} (hin : vp_in x (tv_len.getD i 0)) : Met l yJ0_charAt_5068e (Jvm.Cond.code yJ0_charAt_5068e cJ0_charAt_5068e 2 (some .char) :: tf_BW) (tf_rm 3) (va_Pc [.ref (ad (430 + i)), .int x] (fun U => tv_S ad A U U.heap)) (vp_Si (fun r => r = tv_ch i x.toNatClampNeg)) 0 0 (fun _ => False) := by
  refine Met.ofW (cc := cJ0_charAt_5068e) (maxL := 2) (ret := (some .char)) (by decide) rfl ?_
  intro p e s m args below meth c s₁ B hml hv
  obtain ⟨rfl, hZ⟩ := hv
  have hx := B.exec
  have hb := B.bytes
  have hr := B.returns
  have hts := atoms_spec (ws := Jvm.Cond.code yJ0_charAt_5068e cJ0_charAt_5068e 2 (some .char) :: tf_BW) B.pre
  have hsub : ∀ w ∈ tf_BW, w ∈ Jvm.Cond.code yJ0_charAt_5068e cJ0_charAt_5068e 2 (some .char) :: tf_BW := fun w hw => List.mem_cons_of_mem _ hw
  have hT : ∀ w ∈ tf_BW, w.before ([.ref (ad (430 + i)), .int x] : List Value).toArray s = true := fun w hw => hts w (hsub w hw)
  have hown : s.vm.findClass RJ0 = some m.cls := findClass_of_methodNamed B.named
  have hlocks := B.notSynchronized
  have hS : va_S A s.heap s.heap [] := va_S.rf
  have hl := lv_entry [.ref (ad (430 + i)), .int x] (n := 2) (Nat.le_of_ble_eq_true rfl)
  rw [lg_entry_eq]
  generalize (lg_sl [.ref (ad (430 + i)), .int x] ++ List.replicate (2 - (lg_sl [.ref (ad (430 + i)), .int x]).length) Slot.unset).toArray = ls at hl ⊢
  have hl : lv_has ls 2 [(0, .ref (ad (430 + i))), (1, .int x)] := hl
  have hlt : x.toNatClampNeg < tv_len.getD i 0 := Nat.not_le.mp fun q => hin (Or.inr q)
  refine lv_aload_n hx hb dJ0_charAt_5068e_0 rfl (lv_at hl 0 rfl) ?_
  have hrv := vk_recv hZ.1 hi hS
  refine vp_callSi (W.runV (As := []) (rest := []) (b := ad (430 + i)) (C := RJ0) ⟨hx, hb, hml, hown, hts⟩ (tv_m_isLatin1 l ad A hi) ⟨callB_of 0 hts (tf_goodBW tf_BW_good hsub (List.mem_filter.mpr ⟨List.mem_of_getElem? (i := 516) rfl, rfl⟩)) rfl rfl rfl (hT _ (tf_isw_in (i := 119) (by decide +kernel))) (hT _ (tf_isw_in (i := 513) (by decide +kernel))) ⟨by decide, by decide, by decide +kernel⟩ ⟨by decide, by decide⟩, hT _ (tf_isw_in (i := 514) (by decide +kernel)), hT _ (tf_isw_in (i := 515) (by decide +kernel))⟩ ⟨tv_Sb, hrv, fun U hU hW => ⟨rfl, by show tv_S ad A U U.heap; rw [hU]; exact tv_S.moved hW.alike hZ⟩⟩ rfl rfl hl.1 rfl (Nat.le_of_ble_eq_true rfl)  dJ0_charAt_5068e_1 ⟨Nat.le_refl _, Nat.le_refl _⟩) (fun r hr9 => ?_)
  subst hr9
  refine lv_if_eq (tgt := 16) hx hb dJ0_charAt_5068e_4 rfl (fun z => absurd z (by decide)) (fun _ => ?_)
  refine lv_aload_n hx hb dJ0_charAt_5068e_7 rfl (lv_at hl 0 rfl) ?_
  refine vk_getf (ref := "java/lang/String") hx hb (hZ.1.1 i hi).2.2.1 hS hown (hT _ (tf_isw_in (i := 1770) (by decide +kernel))) (fun _ h => h) dJ0_charAt_5068e_8 ?_
  refine lv_iload_n hx hb dJ0_charAt_5068e_11 rfl (lv_at hl 1 rfl) ?_
  refine vp_callSi (W.runS (As := [.ref (ad (450 + i)), .int x]) (rest := []) ⟨hx, hb, hml, hown, hts⟩ (tv_m_lcharAt l ad A hi hin) ⟨callB_of 2 hts (tf_goodBW tf_BW_good hsub (List.mem_filter.mpr ⟨List.mem_of_getElem? (i := 519) rfl, rfl⟩)) rfl rfl rfl (hT _ (tf_isw_in (i := 120) (by decide +kernel))) (hT _ (tf_isw_in (i := 517) (by decide +kernel))) ⟨by decide, by decide, by decide +kernel⟩ ⟨by decide, by decide⟩, hT _ (tf_isw_in (i := 518) (by decide +kernel))⟩ ⟨tv_Sb, fun U hU hW => ⟨rfl, by show tv_S ad A U U.heap; rw [hU]; exact tv_S.moved hW.alike hZ⟩⟩ rfl rfl hl.1 rfl (Nat.le_of_ble_eq_true rfl)  dJ0_charAt_5068e_12 ⟨Nat.le_refl _, Nat.le_refl _⟩) (fun r hr9 => ?_)
  subst hr9
  exact W.zret hx hb hr (tv_c2 i hi _ hlt).2 (fun t ht hW => ⟨_, rfl, rfl, ht⟩) (fun q hq => absurd hq List.not_mem_nil) dJ0_charAt_5068e_15
set_option maxHeartbeats 2000000 in
set_option maxRecDepth 100000 in
theorem tv_m_ordinal (l : Launch) (ad : Nat → Nat) (A : Nat → Prop) {i : Nat} (hi : i < 15) : Met l yJx29ce0_ordinal_8abf5 (Jvm.Cond.code yJx29ce0_ordinal_8abf5 cJx29ce0_ordinal_8abf5 1 (some .int) :: tf_BW) (tf_rm 0) (va_Pc [.ref (ad (400 + i))] (fun U => tv_V ad A U U.heap)) (vp_Si (fun r => r = nI i)) 0 0 (fun _ => False) := by
  refine Met.ofW (cc := cJx29ce0_ordinal_8abf5) (maxL := 1) (ret := (some .int)) (by decide) rfl ?_
  intro p e s m args below meth c s₁ B hml hv
  obtain ⟨rfl, hZ⟩ := hv
  have hx := B.exec
  have hb := B.bytes
  have hr := B.returns
  have hts := atoms_spec (ws := Jvm.Cond.code yJx29ce0_ordinal_8abf5 cJx29ce0_ordinal_8abf5 1 (some .int) :: tf_BW) B.pre
  have hsub : ∀ w ∈ tf_BW, w ∈ Jvm.Cond.code yJx29ce0_ordinal_8abf5 cJx29ce0_ordinal_8abf5 1 (some .int) :: tf_BW := fun w hw => List.mem_cons_of_mem _ hw
  have hT : ∀ w ∈ tf_BW, w.before ([.ref (ad (400 + i))] : List Value).toArray s = true := fun w hw => hts w (hsub w hw)
  have hown : s.vm.findClass RJx29ce0 = some m.cls := findClass_of_methodNamed B.named
  have hlocks := B.notSynchronized
  have hS : va_S A s.heap s.heap [] := va_S.rf
  have hl := lv_entry [.ref (ad (400 + i))] (n := 1) (Nat.le_of_ble_eq_true rfl)
  rw [lg_entry_eq]
  generalize (lg_sl [.ref (ad (400 + i))] ++ List.replicate (1 - (lg_sl [.ref (ad (400 + i))]).length) Slot.unset).toArray = ls at hl ⊢
  have hl : lv_has ls 1 [(0, .ref (ad (400 + i)))] := hl
  refine lv_aload_n hx hb dJx29ce0_ordinal_8abf5_0 rfl (lv_at hl 0 rfl) ?_
  refine va_getE (i := i) (ref := "java/lang/Enum") (q := ("java/lang/Enum", "ordinal", "I", tv_ord)) hx hb hZ.1 hi hS hown (by simp [tv_F]) (hT _ (tf_isw_in (i := 1772) (by decide +kernel))) (fun _ h => h) dJx29ce0_ordinal_8abf5_1 ?_
  exact W.iret hx hb hr (fun t ht hW => ⟨_, rfl, tv_c3 i hi, ht⟩) (fun q hq => absurd hq List.not_mem_nil) dJx29ce0_ordinal_8abf5_4
set_option maxHeartbeats 2000000 in
set_option maxRecDepth 100000 in
theorem tv_m_numbers (l : Launch) (ad : Nat → Nat) (A : Nat → Prop) {i : Nat} (hi : i < 15) {x : Int32} : Met l yX7_numbers (Jvm.Cond.code yX7_numbers cX7_numbers 2 (some .int) :: tf_BW) (tf_rm 0) (va_Pc [.ref (ad (400 + i)), .int x] (fun U => tv_V ad A U U.heap)) (vp_Si (fun r => r = if x = 0 then tv_g.getD i 0 else tv_o.getD i 0)) 0 0 (fun _ => False) := by
  refine Met.ofW (cc := cX7_numbers) (maxL := 2) (ret := (some .int)) (by decide) rfl ?_
  intro p e s m args below meth c s₁ B hml hv
  obtain ⟨rfl, hZ⟩ := hv
  have hx := B.exec
  have hb := B.bytes
  have hr := B.returns
  have hts := atoms_spec (ws := Jvm.Cond.code yX7_numbers cX7_numbers 2 (some .int) :: tf_BW) B.pre
  have hsub : ∀ w ∈ tf_BW, w ∈ Jvm.Cond.code yX7_numbers cX7_numbers 2 (some .int) :: tf_BW := fun w hw => List.mem_cons_of_mem _ hw
  have hT : ∀ w ∈ tf_BW, w.before ([.ref (ad (400 + i)), .int x] : List Value).toArray s = true := fun w hw => hts w (hsub w hw)
  have hown : s.vm.findClass RX7 = some m.cls := findClass_of_methodNamed B.named
  have hlocks := B.notSynchronized
  have hS : va_S A s.heap s.heap [] := va_S.rf
  have hl := lv_entry [.ref (ad (400 + i)), .int x] (n := 2) (Nat.le_of_ble_eq_true rfl)
  rw [lg_entry_eq]
  generalize (lg_sl [.ref (ad (400 + i)), .int x] ++ List.replicate (2 - (lg_sl [.ref (ad (400 + i)), .int x]).length) Slot.unset).toArray = ls at hl ⊢
  have hl : lv_has ls 2 [(0, .ref (ad (400 + i))), (1, .int x)] := hl
  refine lv_iload_n hx hb dX7_numbers_0 rfl (lv_at hl 1 rfl) ?_
  refine lv_if_eq (tgt := 11) hx hb dX7_numbers_1 rfl (fun z => ?_) (fun z => ?_)
  · refine lv_aload_n hx hb dX7_numbers_11 rfl (lv_at hl 0 rfl) ?_
    refine va_getE (i := i) (ref := "TreeFlows$Verb") (q := ("TreeFlows$Verb", "inGrid", "I", tv_g)) hx hb hZ.1 hi hS hown (by simp [tv_F]) (hT _ (tf_isw_in (i := 1768) (by decide +kernel))) (fun _ h => h) dX7_numbers_12 ?_
    exact W.iret hx hb hr (fun t ht hW => ⟨_, rfl, (if_pos z).symm, ht⟩) (fun q hq => absurd hq List.not_mem_nil) dX7_numbers_15
  · refine lv_aload_n hx hb dX7_numbers_4 rfl (lv_at hl 0 rfl) ?_
    refine va_getE (i := i) (ref := "TreeFlows$Verb") (q := ("TreeFlows$Verb", "inOrders", "I", tv_o)) hx hb hZ.1 hi hS hown (by simp [tv_F]) (hT _ (tf_isw_in (i := 1767) (by decide +kernel))) (fun _ h => h) dX7_numbers_5 ?_
    refine lv_goto (tgt := 15) hx hb dX7_numbers_8 rfl ?_
    exact W.iret hx hb hr (fun t ht hW => ⟨_, rfl, (if_neg z).symm, ht⟩) (fun q hq => absurd hq List.not_mem_nil) dX7_numbers_15
theorem vi9 {j : Nat} (h : j < 15) : ¬ nI j < 0 := nI_pos (by omega)
section TVH
variable {p : Program} {l : Launch} {e : Env} {R : Room} {s : State} {m : MethodId} {args : Array Value} {below : List Frame} {meth : Method} {c : Code} {QW : State → Prop}
variable {cc : ByteArray} {D : va_G} {cA : Nat → ClassId} {ad : Nat → Nat} {A : Nat → Prop} {nL cells slots : Nat} {Ts : List Jvm.Cond}
set_option maxHeartbeats 1000000 in
set_option maxRecDepth 100000 in
theorem tv_ok0 (hx : p.tables.exec = Jvm.exec) (hb : c.code = cc) (hml : c.maxLocals = nL) (hown : s.vm.findClass RX4 = some m.cls) (hts : ∀ w ∈ Ts, w.before args s = true) (hsub : ∀ w ∈ tf_BW, w ∈ Ts) (hK : va_K D vwCl (tf_ty cA) s) (hj : tf_inj ad 298) (hA : ∀ d, d < 298 → A (ad d)) (hSX : tf_SX 298 ad A s s.heap) {pc pr : Nat} {L st : List Value} {h : LH} (hd : decode cc pc = .ok (.getstatic pr, 3)) (hpr : pr = 85 ∨ pr = 122 ∨ pr = 137 ∨ pr = 141 ∨ pr = 144 ∨ pr = 147 ∨ pr = 150) (hk : tf_At (fun H locs g => W p l e R s m args below meth c H locs cells slots QW g) m s.heap D cA ad A 298 nL (pc + 3) L (.ref (tv_hs pr) :: st) h) : tf_At (fun H locs g => W p l e R s m args below meth c H locs cells slots QW g) m s.heap D cA ad A 298 nL (pc) L st h := by
  intro H locs ls hP hS hL
  have hV := (hSX.2.2 rfl).1
  have hZ := (hSX.2.2 rfl).2
  have hT : ∀ w ∈ tf_BW, w.before args s = true := fun w hw => hts w (hsub w hw)
  rcases hpr with rfl | rfl | rfl | rfl | rfl | rfl | rfl
  · exact va_getsN (ref := "TreeFlows$Verb") (host := RX8) hx hb hV.2.2.1.1 hS hown (va_tabs rfl rfl (hSX.2.1 rfl)) (fun _ h => h) hd (hk H locs ls hP hS hL)
  · exact va_gets (ref := "TreeFlows$1") hx hb hV.2.2.2.1 hS hown (hT _ (tf_isw_in (i := 563) (by decide +kernel))) (fun _ h => h) hd (hk H locs ls hP hS hL)
  · exact va_gets (ref := "TreeFlows$Verb") (n := "SUPPLY") (v := .ref (ad 403)) hx hb (hV.1.1 3 (by decide)).1 hS hown (hT _ (tf_isw_in (i := 597) (by decide +kernel))) (fun _ h => h) hd (hk H locs ls hP hS hL)
  · exact va_gets (ref := "TreeFlows$Verb") (n := "WANT") (v := .ref (ad 404)) hx hb (hV.1.1 4 (by decide)).1 hS hown (hT _ (tf_isw_in (i := 599) (by decide +kernel))) (fun _ h => h) hd (hk H locs ls hP hS hL)
  · exact va_gets (ref := "TreeFlows$Verb") (n := "ARC") (v := .ref (ad 401)) hx hb (hV.1.1 1 (by decide)).1 hS hown (hT _ (tf_isw_in (i := 583) (by decide +kernel))) (fun _ h => h) hd (hk H locs ls hP hS hL)
  · exact va_gets (ref := "TreeFlows$Verb") (n := "GAIN") (v := .ref (ad 402)) hx hb (hV.1.1 2 (by decide)).1 hS hown (hT _ (tf_isw_in (i := 585) (by decide +kernel))) (fun _ h => h) hd (hk H locs ls hP hS hL)
  · exact va_gets (ref := "TreeFlows$Verb") (n := "POINTS") (v := .ref (ad 400)) hx hb (hV.1.1 0 (by decide)).1 hS hown (hT _ (tf_isw_in (i := 595) (by decide +kernel))) (fun _ h => h) hd (hk H locs ls hP hS hL)
set_option maxHeartbeats 1000000 in
set_option maxRecDepth 100000 in
theorem tv_ok1 (hx : p.tables.exec = Jvm.exec) (hb : c.code = cc) (hml : c.maxLocals = nL) (hown : s.vm.findClass RX4 = some m.cls) (hts : ∀ w ∈ Ts, w.before args s = true) (hsub : ∀ w ∈ tf_BW, w ∈ Ts) (hK : va_K D vwCl (tf_ty cA) s) (hj : tf_inj ad 298) (hA : ∀ d, d < 298 → A (ad d)) (hSX : tf_SX 298 ad A s s.heap) {pc i : Nat} {L st : List Value} {h : LH} (hd : decode cc pc = .ok (.getfield 88, 3)) (hi : i < 15) (hk : tf_At (fun H locs g => W p l e R s m args below meth c H locs cells slots QW g) m s.heap D cA ad A 298 nL (pc + 3) L (.ref (430 + i) :: st) h) : tf_At (fun H locs g => W p l e R s m args below meth c H locs cells slots QW g) m s.heap D cA ad A 298 nL (pc) L (.ref (400 + i) :: st) h := by
  intro H locs ls hP hS hL
  have hV := (hSX.2.2 rfl).1
  have hZ := (hSX.2.2 rfl).2
  have hT : ∀ w ∈ tf_BW, w.before args s = true := fun w hw => hts w (hsub w hw)
  exact va_getX (i := i) (ref := "TreeFlows$Verb") hx hb hV.2.1 hi hS hown (hT _ (tf_isw_in (i := 1769) (by decide +kernel))) (fun _ h => h) hd (hk H locs ls hP hS hL)
set_option maxHeartbeats 1000000 in
set_option maxRecDepth 100000 in
theorem tv_ok2 (hx : p.tables.exec = Jvm.exec) (hb : c.code = cc) (hml : c.maxLocals = nL) (hown : s.vm.findClass RX4 = some m.cls) (hts : ∀ w ∈ Ts, w.before args s = true) (hsub : ∀ w ∈ tf_BW, w ∈ Ts) (hK : va_K D vwCl (tf_ty cA) s) (hj : tf_inj ad 298) (hA : ∀ d, d < 298 → A (ad d)) (hSX : tf_SX 298 ad A s s.heap) {pc : Nat} {L st : List Value} {h : LH} (hd : decode cc pc = .ok (.arraylength, 1)) (hk : tf_At (fun H locs g => W p l e R s m args below meth c H locs cells slots QW g) m s.heap D cA ad A 298 nL (pc + 1) L (.int 15 :: st) h) : tf_At (fun H locs g => W p l e R s m args below meth c H locs cells slots QW g) m s.heap D cA ad A 298 nL (pc) L (.ref 420 :: st) h := by
  intro H locs ls hP hS hL
  have hV := (hSX.2.2 rfl).1
  have hZ := (hSX.2.2 rfl).2
  have hT : ∀ w ∈ tf_BW, w.before args s = true := fun w hw => hts w (hsub w hw)
  exact va_tlen (v := 15) hx hb hV.2.2.1.2 hS rfl hd (hk H locs ls hP hS hL)
set_option maxHeartbeats 1000000 in
set_option maxRecDepth 100000 in
theorem tv_ok3 (hx : p.tables.exec = Jvm.exec) (hb : c.code = cc) (hml : c.maxLocals = nL) (hown : s.vm.findClass RX4 = some m.cls) (hts : ∀ w ∈ Ts, w.before args s = true) (hsub : ∀ w ∈ tf_BW, w ∈ Ts) (hK : va_K D vwCl (tf_ty cA) s) (hj : tf_inj ad 298) (hA : ∀ d, d < 298 → A (ad d)) (hSX : tf_SX 298 ad A s s.heap) {pc : Nat} {i : Int32} {L st : List Value} {h : LH} (hd : decode cc pc = .ok (.aaload, 1)) (hi : vp_in i 15) (hk : tf_At (fun H locs g => W p l e R s m args below meth c H locs cells slots QW g) m s.heap D cA ad A 298 nL (pc + 1) L (.ref (400 + i.toNatClampNeg) :: st) h) : tf_At (fun H locs g => W p l e R s m args below meth c H locs cells slots QW g) m s.heap D cA ad A 298 nL (pc) L (.int i :: .ref 420 :: st) h := by
  intro H locs ls hP hS hL
  have hV := (hSX.2.2 rfl).1
  have hZ := (hSX.2.2 rfl).2
  have hT : ∀ w ∈ tf_BW, w.before args s = true := fun w hw => hts w (hsub w hw)
  exact vb_tq hx hb hV.2.2.1.2 hS hi rfl hd (hk H locs ls hP hS hL)
set_option maxHeartbeats 1000000 in
set_option maxRecDepth 100000 in
theorem tv_ok4 (hx : p.tables.exec = Jvm.exec) (hb : c.code = cc) (hml : c.maxLocals = nL) (hown : s.vm.findClass RX4 = some m.cls) (hts : ∀ w ∈ Ts, w.before args s = true) (hsub : ∀ w ∈ tf_BW, w ∈ Ts) (hK : va_K D vwCl (tf_ty cA) s) (hj : tf_inj ad 298) (hA : ∀ d, d < 298 → A (ad d)) (hSX : tf_SX 298 ad A s s.heap) {pc x : Nat} {i : Int32} {L st : List Value} {h : LH} (hd : decode cc pc = .ok (.aaload, 1)) (kx : tf_K x = 15) (lx : x < 298) (hi : vp_in i (tf_N x)) (hv : vp_in (h.1 x i.toNatClampNeg) 15) (hk : tf_At (fun H locs g => W p l e R s m args below meth c H locs cells slots QW g) m s.heap D cA ad A 298 nL (pc + 1) L (.ref (400 + (h.1 x i.toNatClampNeg).toNatClampNeg) :: st) h) : tf_At (fun H locs g => W p l e R s m args below meth c H locs cells slots QW g) m s.heap D cA ad A 298 nL (pc) L (.int i :: .ref x :: st) h := by
  intro H locs ls hP hS hL
  have hV := (hSX.2.2 rfl).1
  have hZ := (hSX.2.2 rfl).2
  have hT : ∀ w ∈ tf_BW, w.before args s = true := fun w hw => hts w (hsub w hw)
  have e9 : va_rf (tf_vb ad (h.1 x i.toNatClampNeg)) = .ref (ad (400 + (h.1 x i.toNatClampNeg).toNatClampNeg)) := by
    unfold tf_vb
    rw [if_neg (fun q => hv (Or.inl q))]
    rfl
  refine va_aldq hx hb hK hP x 7 (C := "TreeFlows$Verb") (f := fun j => tf_vb ad (h.1 x j)) (n := tf_N x) (cA := cA 15) (by rw [tf_ws_get lx, tf_E, kx]; rfl) rfl hi hd ?_
  show W p l e R s m args below meth c H locs cells slots QW (F0 m (pc + 1) ls (va_rf (tf_vb ad (h.1 x i.toNatClampNeg)) :: _))
  rw [e9]
  exact (hk H locs ls hP hS hL)
set_option maxHeartbeats 1000000 in
set_option maxRecDepth 100000 in
theorem tv_ok5 (hx : p.tables.exec = Jvm.exec) (hb : c.code = cc) (hml : c.maxLocals = nL) (hown : s.vm.findClass RX4 = some m.cls) (hts : ∀ w ∈ Ts, w.before args s = true) (hsub : ∀ w ∈ tf_BW, w ∈ Ts) (hK : va_K D vwCl (tf_ty cA) s) (hj : tf_inj ad 298) (hA : ∀ d, d < 298 → A (ad d)) (hSX : tf_SX 298 ad A s s.heap) {pc x j : Nat} {i : Int32} {L st : List Value} {h : LH} (hd : decode cc pc = .ok (.aastore, 1)) (hj15 : j < 15) (kx : tf_K x = 15) (lx : x < 298) (hi : vp_in i (tf_N x)) (hk : tf_At (fun H locs g => W p l e R s m args below meth c H locs cells slots QW g) m s.heap D cA ad A 298 nL (pc + 1) L st (tf_up h.1 x i.toNatClampNeg (nI j), h.2)) : tf_At (fun H locs g => W p l e R s m args below meth c H locs cells slots QW g) m s.heap D cA ad A 298 nL (pc) L (.ref (400 + j) :: .int i :: .ref x :: st) h := by
  intro H locs ls hP hS hL
  have hV := (hSX.2.2 rfl).1
  have hZ := (hSX.2.2 rfl).2
  have hT : ∀ w ∈ tf_BW, w.before args s = true := fun w hw => hts w (hsub w hw)
  have hrv := va_recvE hV.1 hj15 hS
  refine vb_astq hx hb hK hP (tf_ws_D hj hA) hS x 7 (E := "TreeFlows$Verb") (C := "TreeFlows$Verb") (f := fun k => tf_vb ad (h.1 x k)) (n := tf_N x) (cA := cA 15) (v := ad (400 + j)) (by rw [tf_ws_get lx, tf_E, kx]; rfl) rfl hrv vb_asgS hi hd (fun H1 locs1 hP1 hD1 hS1 => ?_)
  have e : va_up (fun k => tf_vb ad (h.1 x k)) i.toNatClampNeg (some (ad (400 + j))) = fun k => tf_vb ad ((tf_up h.1 x i.toNatClampNeg (nI j)) x k) := by
    funext k
    unfold va_up tf_up upd
    rw [if_pos rfl]
    by_cases hk9 : k = i.toNatClampNeg
    · rw [if_pos hk9, if_pos hk9]
      unfold tf_vb
      rw [if_neg (vi9 hj15), nI_clamp (by omega)]
    · rw [if_neg hk9, if_neg hk9]
  rw [e, tf_ws_set (h' := (tf_up h.1 x i.toNatClampNeg (nI j), h.2)) (by rw [tf_E, kx]; rfl) (fun d hd => tf_E_up hd)] at hP1
  exact hk H1 locs1 ls hP1 hS1 hL
set_option maxHeartbeats 1000000 in
set_option maxRecDepth 100000 in
theorem tv_ok6 (hx : p.tables.exec = Jvm.exec) (hb : c.code = cc) (hml : c.maxLocals = nL) (hown : s.vm.findClass RX4 = some m.cls) (hts : ∀ w ∈ Ts, w.before args s = true) (hsub : ∀ w ∈ tf_BW, w ∈ Ts) (hK : va_K D vwCl (tf_ty cA) s) (hj : tf_inj ad 298) (hA : ∀ d, d < 298 → A (ad d)) (hSX : tf_SX 298 ad A s s.heap) {pc : Nat} {i : Int32} {L st : List Value} {h : LH} (hd : decode cc pc = .ok (.iaload, 1)) (hi : vp_in i 15) (hk : tf_At (fun H locs g => W p l e R s m args below meth c H locs cells slots QW g) m s.heap D cA ad A 298 nL (pc + 1) L (.int (tv_sm.getD i.toNatClampNeg 0) :: st) h) : tf_At (fun H locs g => W p l e R s m args below meth c H locs cells slots QW g) m s.heap D cA ad A 298 nL (pc) L (.int i :: .ref 421 :: st) h := by
  intro H locs ls hP hS hL
  have hV := (hSX.2.2 rfl).1
  have hZ := (hSX.2.2 rfl).2
  have hT : ∀ w ∈ tf_BW, w.before args s = true := fun w hw => hts w (hsub w hw)
  exact va_ti hx hb hV.2.2.2.2 hS hi rfl hd (hk H locs ls hP hS hL)
set_option maxHeartbeats 1000000 in
set_option maxRecDepth 100000 in
theorem tv_ok7 (hx : p.tables.exec = Jvm.exec) (hb : c.code = cc) (hml : c.maxLocals = nL) (hown : s.vm.findClass RX4 = some m.cls) (hts : ∀ w ∈ Ts, w.before args s = true) (hsub : ∀ w ∈ tf_BW, w ∈ Ts) (hK : va_K D vwCl (tf_ty cA) s) (hj : tf_inj ad 298) (hA : ∀ d, d < 298 → A (ad d)) (hSX : tf_SX 298 ad A s s.heap) {pc pr i j : Nat} {L st : List Value} {h : LH} (hd : decode cc pc = .ok (.if_acmp .eq (pr : Int), 3)) (hi : i < 15) (hj15 : j < 15) (hk1 :  i = j → tf_At (fun H locs g => W p l e R s m args below meth c H locs cells slots QW g) m s.heap D cA ad A 298 nL (pc + pr) L st h) (hk2 : ¬ i = j → tf_At (fun H locs g => W p l e R s m args below meth c H locs cells slots QW g) m s.heap D cA ad A 298 nL (pc + 3) L st h) : tf_At (fun H locs g => W p l e R s m args below meth c H locs cells slots QW g) m s.heap D cA ad A 298 nL (pc) L (.ref (400 + j) :: .ref (400 + i) :: st) h := by
  intro H locs ls hP hS hL
  have hV := (hSX.2.2 rfl).1
  have hZ := (hSX.2.2 rfl).2
  have hT : ∀ w ∈ tf_BW, w.before args s = true := fun w hw => hts w (hsub w hw)
  have e1 : some (ad (400 + i)) = some (ad (400 + j)) → i = j := fun z => hV.1.2 i j hi hj15 (Option.some.inj z)
  have e2 : i = j → some (ad (400 + i)) = some (ad (400 + j)) := fun z => by rw [z]
  exact lv_acmp_eq (rx := some (ad (400 + i))) (ry := some (ad (400 + j))) (tgt := pc + pr) hx hb hd (by omega) (fun z => hk1 (e1 z) H locs ls hP hS hL) (fun z => hk2 (fun q => z (e2 q)) H locs ls hP hS hL)
set_option maxHeartbeats 1000000 in
set_option maxRecDepth 100000 in
theorem tv_ok8 (hx : p.tables.exec = Jvm.exec) (hb : c.code = cc) (hml : c.maxLocals = nL) (hown : s.vm.findClass RX4 = some m.cls) (hts : ∀ w ∈ Ts, w.before args s = true) (hsub : ∀ w ∈ tf_BW, w ∈ Ts) (hK : va_K D vwCl (tf_ty cA) s) (hj : tf_inj ad 298) (hA : ∀ d, d < 298 → A (ad d)) (hSX : tf_SX 298 ad A s s.heap) {pc pr i j : Nat} {L st : List Value} {h : LH} (hd : decode cc pc = .ok (.if_acmp .ne (pr : Int), 3)) (hi : i < 15) (hj15 : j < 15) (hk1 : ¬ i = j → tf_At (fun H locs g => W p l e R s m args below meth c H locs cells slots QW g) m s.heap D cA ad A 298 nL (pc + pr) L st h) (hk2 :  i = j → tf_At (fun H locs g => W p l e R s m args below meth c H locs cells slots QW g) m s.heap D cA ad A 298 nL (pc + 3) L st h) : tf_At (fun H locs g => W p l e R s m args below meth c H locs cells slots QW g) m s.heap D cA ad A 298 nL (pc) L (.ref (400 + j) :: .ref (400 + i) :: st) h := by
  intro H locs ls hP hS hL
  have hV := (hSX.2.2 rfl).1
  have hZ := (hSX.2.2 rfl).2
  have hT : ∀ w ∈ tf_BW, w.before args s = true := fun w hw => hts w (hsub w hw)
  have e1 : some (ad (400 + i)) = some (ad (400 + j)) → i = j := fun z => hV.1.2 i j hi hj15 (Option.some.inj z)
  have e2 : i = j → some (ad (400 + i)) = some (ad (400 + j)) := fun z => by rw [z]
  exact lv_acmp_ne (rx := some (ad (400 + i))) (ry := some (ad (400 + j))) (tgt := pc + pr) hx hb hd (by omega) (fun z => hk1 (fun q => z (e2 q)) H locs ls hP hS hL) (fun z => hk2 (e1 z) H locs ls hP hS hL)
set_option maxHeartbeats 1000000 in
set_option maxRecDepth 100000 in
theorem tv_ok9 (hx : p.tables.exec = Jvm.exec) (hb : c.code = cc) (hml : c.maxLocals = nL) (hown : s.vm.findClass RX4 = some m.cls) (hts : ∀ w ∈ Ts, w.before args s = true) (hsub : ∀ w ∈ tf_BW, w ∈ Ts) (hK : va_K D vwCl (tf_ty cA) s) (hj : tf_inj ad 298) (hA : ∀ d, d < 298 → A (ad d)) (hSX : tf_SX 298 ad A s s.heap) {pc i d : Nat} {L st : List Value} {h : LH} (hR : d + 1 ≤ R.frames ∧ 32 * (d + 1) ≤ R.locals) (hcs : cells ≤ R.cells ∧ slots ≤ R.slots) (hd : decode cc pc = .ok (.invokevirtual 127, 3)) (hi : i < 15) (hsum : (st.map Value.category).sum ≤ 8) (hk : tf_At (fun H locs g => W p l e R s m args below meth c H locs cells slots QW g) m s.heap D cA ad A 298 nL (pc + 3) L (.int (nI i) :: st) h) : tf_At (fun H locs g => W p l e R s m args below meth c H locs cells slots QW g) m s.heap D cA ad A 298 nL (pc) L (.ref (400 + i) :: st) h := by
  intro H locs ls hP hS hL
  have hV := (hSX.2.2 rfl).1
  have hZ := (hSX.2.2 rfl).2
  have hT : ∀ w ∈ tf_BW, w.before args s = true := fun w hw => hts w (hsub w hw)
  have cw : va_CU R s args RX4 RX7 "java/lang/Enum" 127 ⟨"TreeFlows$Verb", "ordinal", "()I"⟩ yJx29ce0_ordinal_8abf5 cJx29ce0_ordinal_8abf5 1 (some .int) (Jvm.Cond.code yJx29ce0_ordinal_8abf5 cJx29ce0_ordinal_8abf5 1 (some .int) :: tf_BW) (tf_rm 0) 0 0 0 :=
    ⟨⟨rfl, rfl, by show 0 + 1 ≤ R.frames; omega, by show 8 + (1 + 11) + 32 * 0 ≤ R.locals; omega, pay_in hts (tf_goodBW tf_BW_good hsub (List.mem_filter.mpr ⟨List.mem_of_getElem? (i := 570) rfl, rfl⟩)), List.mem_cons_self⟩, hT _ (List.mem_filter.mpr ⟨List.mem_of_getElem? (i := 570) rfl, rfl⟩), hT _ (tf_isw_in (i := 117) (by decide +kernel)), ⟨by decide, by decide⟩, (fun sig h9 => by
      have h2 : (parseMethodDescriptor "()I").map (fun d => d.parameters.length) = some 0 := by decide +kernel
      have h3 : parseMethodDescriptor "()I" = some sig := h9
      rw [h3] at h2
      exact (Option.some.inj h2).symm), hT _ (tf_isw_in (i := 565) (by decide +kernel)), hT _ (tf_isw_in (i := 566) (by decide +kernel)), va_Decl.of (hT _ (tf_isw_in (i := 569) (by decide +kernel))) (hT _ (List.mem_filter.mpr ⟨List.mem_of_getElem? (i := 570) rfl, rfl⟩)), hT _ (tf_isw_in (i := 568) (by decide +kernel)), hT _ (tf_isw_in (i := 569) (by decide +kernel))⟩
  have hrv := va_recvE hV.1 hi hS
  have hrun := va_runU (e := e) (below := below) (meth := meth) (locs := locs) (As := []) (rest := st.map (tf_tr ad)) (b := ad (400 + i)) (g := F0 m pc ls (.ref (ad (400 + i)) :: st.map (tf_tr ad))) ⟨hx, hb, hml, hown, hts⟩ (tv_m_ordinal l ad A hi) cw ⟨tv_Vb, hrv, fun U hU hW => ⟨rfl, by show tv_V ad A U U.heap; rw [hU]; exact tv_V.moved hW.alike (hV.kept hS.2.1)⟩⟩ rfl rfl hL.1 rfl (by show 2 * 0 + _ ≤ 8; rw [tf_catsum]; omega) hd ⟨hcs.1, hcs.2⟩
  refine vp_callSi hrun.run (fun r hr9 => ?_)
  subst hr9
  exact (hk H locs ls hP hS hL)
set_option maxHeartbeats 1000000 in
set_option maxRecDepth 100000 in
theorem tv_ok10 (hx : p.tables.exec = Jvm.exec) (hb : c.code = cc) (hml : c.maxLocals = nL) (hown : s.vm.findClass RX4 = some m.cls) (hts : ∀ w ∈ Ts, w.before args s = true) (hsub : ∀ w ∈ tf_BW, w ∈ Ts) (hK : va_K D vwCl (tf_ty cA) s) (hj : tf_inj ad 298) (hA : ∀ d, d < 298 → A (ad d)) (hSX : tf_SX 298 ad A s s.heap) {pc i d : Nat}  {L st : List Value} {h : LH} (hR : d + 1 ≤ R.frames ∧ 32 * (d + 1) ≤ R.locals) (hcs : cells ≤ R.cells ∧ slots ≤ R.slots) (hd : decode cc pc = .ok (.invokevirtual 96, 3)) (hi : i < 15) (hsum : (st.map Value.category).sum ≤ 8) (hdd : 1 ≤ d) (hk : tf_At (fun H locs g => W p l e R s m args below meth c H locs cells slots QW g) m s.heap D cA ad A 298 nL (pc + 3) L (.int (nI (tv_len.getD i 0)) :: st) h) : tf_At (fun H locs g => W p l e R s m args below meth c H locs cells slots QW g) m s.heap D cA ad A 298 nL (pc) L (.ref (430 + i) :: st) h := by
  intro H locs ls hP hS hL
  have hV := (hSX.2.2 rfl).1
  have hZ := (hSX.2.2 rfl).2
  have hT : ∀ w ∈ tf_BW, w.before args s = true := fun w hw => hts w (hsub w hw)
  have cw : CallW R s args RX4 RJ0 96 yJ0_length_8abf5 cJ0_length_8abf5 1 (some .int) (Jvm.Cond.code yJ0_length_8abf5 cJ0_length_8abf5 1 (some .int) :: tf_BW) (tf_rm 1) 0 0 0 := ⟨callB_of 0 hts (tf_goodBW tf_BW_good hsub (List.mem_filter.mpr ⟨List.mem_of_getElem? (i := 502) rfl, rfl⟩)) rfl rfl rfl (hT _ (tf_isw_in (i := 119) (by decide +kernel))) (hT _ (tf_isw_in (i := 499) (by decide +kernel))) ⟨by decide, by decide, by decide +kernel⟩ ⟨by show 1 + 1 ≤ R.frames; omega, by show 8 + (1 + 11) + 32 * 1 ≤ R.locals; omega⟩, hT _ (tf_isw_in (i := 500) (by decide +kernel)), hT _ (tf_isw_in (i := 501) (by decide +kernel))⟩
  have hrv := vk_recv hZ.1 hi hS
  refine vp_callSi (W.runV (As := []) (rest := st.map (tf_tr ad)) (b := ad (430 + i)) ⟨hx, hb, hml, hown, hts⟩ (tv_m_length l ad A hi) cw ⟨tv_Sb, hrv, fun U hU hW => ⟨rfl, by show tv_S ad A U U.heap; rw [hU]; exact tv_S.moved hW.alike (hZ.kept hS.2.1)⟩⟩ rfl rfl hL.1 rfl (by show 2 * 0 + _ ≤ 8; rw [tf_catsum]; omega) hd ⟨hcs.1, hcs.2⟩) (fun r hr9 => ?_)
  subst hr9
  exact (hk H locs ls hP hS hL)
set_option maxHeartbeats 1000000 in
set_option maxRecDepth 100000 in
theorem tv_ok11 (hx : p.tables.exec = Jvm.exec) (hb : c.code = cc) (hml : c.maxLocals = nL) (hown : s.vm.findClass RX4 = some m.cls) (hts : ∀ w ∈ Ts, w.before args s = true) (hsub : ∀ w ∈ tf_BW, w ∈ Ts) (hK : va_K D vwCl (tf_ty cA) s) (hj : tf_inj ad 298) (hA : ∀ d, d < 298 → A (ad d)) (hSX : tf_SX 298 ad A s s.heap) {pc i d : Nat} {x : Int32} {L st : List Value} {h : LH} (hR : d + 1 ≤ R.frames ∧ 32 * (d + 1) ≤ R.locals) (hcs : cells ≤ R.cells ∧ slots ≤ R.slots) (hd : decode cc pc = .ok (.invokevirtual 101, 3)) (hi : i < 15) (hsum : (st.map Value.category).sum ≤ 8) (hdd : 3 ≤ d) (hin : vp_in x (tv_len.getD i 0)) (hk : tf_At (fun H locs g => W p l e R s m args below meth c H locs cells slots QW g) m s.heap D cA ad A 298 nL (pc + 3) L (.int (tv_ch i x.toNatClampNeg) :: st) h) : tf_At (fun H locs g => W p l e R s m args below meth c H locs cells slots QW g) m s.heap D cA ad A 298 nL (pc) L (.int x :: .ref (430 + i) :: st) h := by
  intro H locs ls hP hS hL
  have hV := (hSX.2.2 rfl).1
  have hZ := (hSX.2.2 rfl).2
  have hT : ∀ w ∈ tf_BW, w.before args s = true := fun w hw => hts w (hsub w hw)
  have cw : CallW R s args RX4 RJ0 101 yJ0_charAt_5068e cJ0_charAt_5068e 2 (some .char) (Jvm.Cond.code yJ0_charAt_5068e cJ0_charAt_5068e 2 (some .char) :: tf_BW) (tf_rm 3) 0 0 1 := ⟨callB_of 1 hts (tf_goodBW tf_BW_good hsub (List.mem_filter.mpr ⟨List.mem_of_getElem? (i := 512) rfl, rfl⟩)) rfl rfl rfl (hT _ (tf_isw_in (i := 119) (by decide +kernel))) (hT _ (tf_isw_in (i := 509) (by decide +kernel))) ⟨by decide, by decide, by decide +kernel⟩ ⟨by show 3 + 1 ≤ R.frames; omega, by show 8 + (2 + 11) + 32 * 3 ≤ R.locals; omega⟩, hT _ (tf_isw_in (i := 510) (by decide +kernel)), hT _ (tf_isw_in (i := 511) (by decide +kernel))⟩
  have hrv := vk_recv hZ.1 hi hS
  refine vp_callSi (W.runV (As := [.int x]) (rest := st.map (tf_tr ad)) (b := ad (430 + i)) ⟨hx, hb, hml, hown, hts⟩ (tv_m_charAt l ad A hi hin) cw ⟨tv_Sb, hrv, fun U hU hW => ⟨rfl, by show tv_S ad A U U.heap; rw [hU]; exact tv_S.moved hW.alike (hZ.kept hS.2.1)⟩⟩ rfl rfl hL.1 rfl (by show 2 * 0 + _ ≤ 8; rw [tf_catsum]; omega) hd ⟨hcs.1, hcs.2⟩) (fun r hr9 => ?_)
  subst hr9
  exact (hk H locs ls hP hS hL)
set_option maxHeartbeats 1000000 in
set_option maxRecDepth 100000 in
theorem tv_ok12 (hx : p.tables.exec = Jvm.exec) (hb : c.code = cc) (hml : c.maxLocals = nL) (hown : s.vm.findClass RX4 = some m.cls) (hts : ∀ w ∈ Ts, w.before args s = true) (hsub : ∀ w ∈ tf_BW, w ∈ Ts) (hK : va_K D vwCl (tf_ty cA) s) (hj : tf_inj ad 298) (hA : ∀ d, d < 298 → A (ad d)) (hSX : tf_SX 298 ad A s s.heap) {pc i d : Nat} {x : Int32} {L st : List Value} {h : LH} (hR : d + 1 ≤ R.frames ∧ 32 * (d + 1) ≤ R.locals) (hcs : cells ≤ R.cells ∧ slots ≤ R.slots) (hd : decode cc pc = .ok (.invokevirtual 65, 3)) (hi : i < 15) (hsum : (st.map Value.category).sum ≤ 8)  (hk : tf_At (fun H locs g => W p l e R s m args below meth c H locs cells slots QW g) m s.heap D cA ad A 298 nL (pc + 3) L (.int (if x = 0 then tv_g.getD i 0 else tv_o.getD i 0) :: st) h) : tf_At (fun H locs g => W p l e R s m args below meth c H locs cells slots QW g) m s.heap D cA ad A 298 nL (pc) L (.int x :: .ref (400 + i) :: st) h := by
  intro H locs ls hP hS hL
  have hV := (hSX.2.2 rfl).1
  have hZ := (hSX.2.2 rfl).2
  have hT : ∀ w ∈ tf_BW, w.before args s = true := fun w hw => hts w (hsub w hw)
  have cw : CallW R s args RX4 RX7 65 yX7_numbers cX7_numbers 2 (some .int) (Jvm.Cond.code yX7_numbers cX7_numbers 2 (some .int) :: tf_BW) (tf_rm 0) 0 0 1 := ⟨callB_of 1 hts (tf_goodBW tf_BW_good hsub (List.mem_filter.mpr ⟨List.mem_of_getElem? (i := 494) rfl, rfl⟩)) rfl rfl rfl (hT _ (tf_isw_in (i := 118) (by decide +kernel))) (hT _ (tf_isw_in (i := 491) (by decide +kernel))) ⟨by decide, by decide, by decide +kernel⟩ ⟨by show 0 + 1 ≤ R.frames; omega, by show 8 + (2 + 11) + 32 * 0 ≤ R.locals; omega⟩, hT _ (tf_isw_in (i := 492) (by decide +kernel)), hT _ (tf_isw_in (i := 493) (by decide +kernel))⟩
  have hrv := va_recvE hV.1 hi hS
  refine vp_callSi (W.runV (As := [.int x]) (rest := st.map (tf_tr ad)) (b := ad (400 + i)) ⟨hx, hb, hml, hown, hts⟩ (tv_m_numbers l ad A hi) cw ⟨tv_Vb, hrv, fun U hU hW => ⟨rfl, by show tv_V ad A U U.heap; rw [hU]; exact tv_V.moved hW.alike (hV.kept hS.2.1)⟩⟩ rfl rfl hL.1 rfl (by show 2 * 0 + _ ≤ 8; rw [tf_catsum]; omega) hd ⟨hcs.1, hcs.2⟩) (fun r hr9 => ?_)
  subst hr9
  exact (hk H locs ls hP hS hL)
set_option maxHeartbeats 1000000 in
set_option maxRecDepth 100000 in
theorem tv_ok13 (hx : p.tables.exec = Jvm.exec) (hb : c.code = cc) (hml : c.maxLocals = nL) (hown : s.vm.findClass RX4 = some m.cls) (hts : ∀ w ∈ Ts, w.before args s = true) (hsub : ∀ w ∈ tf_BW, w ∈ Ts) (hK : va_K D vwCl (tf_ty cA) s) (hj : tf_inj ad 298) (hA : ∀ d, d < 298 → A (ad d)) (hSX : tf_SX 298 ad A s s.heap) {pc x : Nat} {L st : List Value} {h : LH} (hd : decode cc pc = .ok (.astore_n 3, 1)) (hn : 3 < nL) (hk : tf_At (fun H locs g => W p l e R s m args below meth c H locs cells slots QW g) m s.heap D cA ad A 298 nL (pc + 1) (tf_s1 L 3 (.ref x)) st h) : tf_At (fun H locs g => W p l e R s m args below meth c H locs cells slots QW g) m s.heap D cA ad A 298 nL (pc) L (.ref x :: st) h := by
  intro H locs ls hP hS hL
  have hV := (hSX.2.2 rfl).1
  have hZ := (hSX.2.2 rfl).2
  have hT : ∀ w ∈ tf_BW, w.before args s = true := fun w hw => hts w (hsub w hw)
  exact lv_astore_n hx hb hd rfl (tf_rel_has hL) hn rfl (fun ls' hl' => hk H locs ls' hP hS (tf_rel_s1 hL.2.2.1 hl'))
set_option maxHeartbeats 1000000 in
set_option maxRecDepth 100000 in
theorem tv_ok14 (hx : p.tables.exec = Jvm.exec) (hb : c.code = cc) (hml : c.maxLocals = nL) (hown : s.vm.findClass RX4 = some m.cls) (hts : ∀ w ∈ Ts, w.before args s = true) (hsub : ∀ w ∈ tf_BW, w ∈ Ts) (hK : va_K D vwCl (tf_ty cA) s) (hj : tf_inj ad 298) (hA : ∀ d, d < 298 → A (ad d)) (hSX : tf_SX 298 ad A s s.heap) {pc : Nat} {L st : List Value} {h : LH} (hd : decode cc pc = .ok (.astore_n 3, 1)) (hn : 3 < nL) (hk : tf_At (fun H locs g => W p l e R s m args below meth c H locs cells slots QW g) m s.heap D cA ad A 298 nL (pc + 1) (tf_s1 L 3 .null) st h) : tf_At (fun H locs g => W p l e R s m args below meth c H locs cells slots QW g) m s.heap D cA ad A 298 nL (pc) L (.null :: st) h := by
  intro H locs ls hP hS hL
  have hV := (hSX.2.2 rfl).1
  have hZ := (hSX.2.2 rfl).2
  have hT : ∀ w ∈ tf_BW, w.before args s = true := fun w hw => hts w (hsub w hw)
  exact lv_astore_nN hx hb hd rfl (tf_rel_has hL) hn rfl (fun ls' hl' => hk H locs ls' hP hS (tf_rel_s1 (v := .null) hL.2.2.1 hl'))
set_option maxHeartbeats 2000000 in
set_option maxRecDepth 100000 in
theorem tv_ok (hx : p.tables.exec = Jvm.exec) (hb : c.code = cc) (hml : c.maxLocals = nL) (hown : s.vm.findClass RX4 = some m.cls) (hts : ∀ w ∈ Ts, w.before args s = true) (hsub : ∀ w ∈ tf_BW, w ∈ Ts) (hK : va_K D vwCl (tf_ty cA) s) (hj : tf_inj ad 298) (hA : ∀ d, d < 298 → A (ad d)) (hSX : tf_SX 298 ad A s s.heap) {d pc kd pr nc : Nat} {L st : List Value} {h : LH} {k : tf_Kt} {X : tf_X} (hR : d + 1 ≤ R.frames ∧ 32 * (d + 1) ≤ R.locals) (hcs : cells ≤ R.cells ∧ slots ≤ R.slots) (hn : 13 ≤ kd → 3 < nL) (hpr : kd = 0 → pr = 85 ∨ pr = 122 ∨ pr = 137 ∨ pr = 141 ∨ pr = 144 ∨ pr = 147 ∨ pr = 150) (hd : decode cc pc = .ok (tv_i kd pr)) (hf : tv_f 298 d pc kd pr L st h k X) (hk : ∀ L st h, k L st h → tf_At (fun H locs g => W p l e R s m args below meth c H locs cells slots QW g) m s.heap D cA ad A 298 nL (pc + (tv_i kd pr).2) L st h) (hX : ∀ pc L st h, X pc L st h → tf_At (fun H locs g => W p l e R s m args below meth c H locs cells slots QW g) m s.heap D cA ad A 298 nL (pc) L st h) : tf_At (fun H locs g => W p l e R s m args below meth c H locs cells slots QW g) m s.heap D cA ad A 298 nL (pc) L st h := by
  obtain ⟨-, hf⟩ := hf
  match kd with
  | 0 => exact tv_ok0 hx hb hml hown hts hsub hK hj hA hSX hd (hpr rfl) (hk _ _ _ hf)
  | 1 =>
    simp only at hf
    split at hf
    · obtain ⟨i, hi, rfl, hq⟩ := hf
      exact tv_ok1 hx hb hml hown hts hsub hK hj hA hSX hd hi (hk _ _ _ hq)
    · exact hf.elim
  | 2 =>
    simp only at hf
    split at hf
    · obtain ⟨rfl, hq⟩ := hf
      exact tv_ok2 hx hb hml hown hts hsub hK hj hA hSX hd (hk _ _ _ hq)
    · exact hf.elim
  | 3 =>
    simp only at hf
    split at hf
    · obtain ⟨rfl, hi, hq⟩ := hf
      exact tv_ok3 hx hb hml hown hts hsub hK hj hA hSX hd hi (hk _ _ _ hq)
    · exact hf.elim
  | 4 =>
    simp only at hf
    split at hf
    · obtain ⟨⟨kx, lx, hi, hv⟩, hq⟩ := hf
      exact tv_ok4 hx hb hml hown hts hsub hK hj hA hSX hd kx lx hi hv (hk _ _ _ hq)
    · exact hf.elim
  | 5 =>
    simp only at hf
    split at hf
    · obtain ⟨j, hj15, rfl, ⟨kx, lx, hi⟩, hq⟩ := hf
      exact tv_ok5 hx hb hml hown hts hsub hK hj hA hSX hd hj15 kx lx hi (hk _ _ _ hq)
    · exact hf.elim
  | 6 =>
    simp only at hf
    split at hf
    · obtain ⟨rfl, hi, hq⟩ := hf
      exact tv_ok6 hx hb hml hown hts hsub hK hj hA hSX hd hi (hk _ _ _ hq)
    · exact hf.elim
  | 7 =>
    simp only at hf
    split at hf
    · obtain ⟨i, j, hi, hj15, rfl, rfl, h1, h2⟩ := hf
      exact tv_ok7 hx hb hml hown hts hsub hK hj hA hSX hd hi hj15 (fun z => hX _ _ _ _ (h1 z)) (fun z => hk _ _ _ (h2 z))
    · exact hf.elim
  | 8 =>
    simp only at hf
    split at hf
    · obtain ⟨i, j, hi, hj15, rfl, rfl, h1, h2⟩ := hf
      exact tv_ok8 hx hb hml hown hts hsub hK hj hA hSX hd hi hj15 (fun z => hX _ _ _ _ (h2 z)) (fun z => hk _ _ _ (h1 z))
    · exact hf.elim
  | 9 =>
    simp only at hf
    split at hf
    · obtain ⟨i, hi, rfl, hsum, hq⟩ := hf
      exact tv_ok9 hx hb hml hown hts hsub hK hj hA hSX hR hcs hd hi hsum (hk _ _ _ hq)
    · exact hf.elim
  | 10 =>
    simp only at hf
    split at hf
    · obtain ⟨i, hi, rfl, ⟨hsum, hdd⟩, hq⟩ := hf
      exact tv_ok10 hx hb hml hown hts hsub hK hj hA hSX hR hcs hd hi hsum hdd (hk _ _ _ hq)
    · exact hf.elim
  | 11 =>
    simp only at hf
    split at hf
    · obtain ⟨i, hi, rfl, ⟨hsum, hdd, hin⟩, hq⟩ := hf
      exact tv_ok11 hx hb hml hown hts hsub hK hj hA hSX hR hcs hd hi hsum hdd hin (hk _ _ _ hq)
    · exact hf.elim
  | 12 =>
    simp only at hf
    split at hf
    · obtain ⟨i, hi, rfl, hsum, hq⟩ := hf
      exact tv_ok12 hx hb hml hown hts hsub hK hj hA hSX hR hcs hd hi hsum (hk _ _ _ hq)
    · exact hf.elim
  | n + 13 =>
    simp only at hf
    split at hf
    · exact tv_ok13 hx hb hml hown hts hsub hK hj hA hSX hd (hn (by omega)) (hk _ _ _ hf)
    · exact tv_ok14 hx hb hml hown hts hsub hK hj hA hSX hd (hn (by omega)) (hk _ _ _ hf)
    · exact hf.elim
end TVH
def tv_ck (kn : Nat) : Bool := (tv_hl kn).all (fun q => decide (decode (tf_mb kn) q.1 = .ok (tv_i q.2.1 q.2.2)) && decide (q.2.1 = 0 → (q.2.2 = 85 ∨ q.2.2 = 122 ∨ q.2.2 = 137 ∨ q.2.2 = 141 ∨ q.2.2 = 144 ∨ q.2.2 = 147 ∨ q.2.2 = 150)) && decide (tf_mo kn = 3) && decide (13 ≤ q.2.1 → 3 < tf_ml kn))
set_option maxRecDepth 100000 in
theorem tv_ck_all : (List.range 250).all tv_ck = true := by decide +kernel
end
section
/-! ===== every method keeps what its spec tells ===== -/
theorem tf_m_ok {kn : Nat} (h : kn < tf_NM) : plainName (tf_my kn).cls = true ∧ (tf_my kn).cls = tf_own (tf_mo kn) ∧ tf_mo kn < 11 ∧ tf_ml kn ≤ 13 ∧ ((tf_my kn).cls ≠ "java/lang/invoke/MethodHandle" ∧ (tf_my kn).cls ≠ "java/lang/invoke/VarHandle" ∧ (parseMethodDescriptor (tf_my kn).desc).map (fun d => d.parameters.length) = some (tf_mn kn)) ∧ Jvm.Cond.initialized (tf_my kn).cls ∈ tf_BW := by
  have h1 := tf_rng tf_ckm_all h
  simp only [tf_ckm, Bool.and_eq_true, decide_eq_true_eq] at h1
  obtain ⟨⟨⟨⟨⟨⟨⟨a, b⟩, c⟩, d⟩, e⟩, f⟩, g⟩, i⟩ := h1
  exact ⟨a, b, c, d, ⟨e, f, g⟩, tf_isw_in i⟩
theorem tf_n_ok {kn : Nat} (h : kn < tf_NM) : (tf_mc kn = 99 → Jvm.Cond.static (tf_my kn) ∈ tf_BW) ∧ (tf_mc kn ≠ 99 → Jvm.Cond.instanceMethod (tf_my kn) ∈ tf_BW ∧ Jvm.Cond.selects (tf_my kn).cls (tf_my kn) (tf_my kn) ∈ tf_BW ∧ (tf_mc kn = 98 ∨ ∃ T N, vwCl[tf_mc kn]? = some ((tf_my kn).cls, T, N))) := by
  have h1 := tf_rng tf_ckn_all h
  unfold tf_ckn at h1
  constructor
  · intro hc
    rw [if_pos hc] at h1
    exact tf_isw_in h1
  · intro hc
    rw [if_neg hc] at h1
    simp only [Bool.and_eq_true, Bool.or_eq_true, beq_iff_eq, decide_eq_true_eq] at h1
    refine ⟨tf_isw_in h1.1.1, tf_isw_in h1.1.2, h1.2.imp id (fun h2 => ?_)⟩
    rw [Option.map_eq_some_iff] at h2
    obtain ⟨⟨C, T, N⟩, h3, h4⟩ := h2
    exact ⟨T, N, by rw [h3]; simp only at h4; rw [h4]⟩
theorem tf_code_in {kn : Nat} (h : kn < tf_NM) : Jvm.Cond.code (tf_my kn) (tf_mb kn) (tf_ml kn) (tf_mr kn) ∈ tf_BW := List.mem_filter.mpr ⟨(tf_row_ok h).2, rfl⟩
theorem tf_W_code (y : MethodName) (b : ByteArray) (n : Nat) (r : Option FieldType) : goodWord (.code y b n r) = true := rfl
theorem tf_no98 (b : Nat) : tf_K b ≠ 98 := by
  unfold tf_K
  rw [List.getD_eq_getElem?_getD]
  cases hb : tf_Kl[b]? with
  | none => decide
  | some x =>
    have hm := List.mem_of_getElem? hb
    have hall : ∀ y ∈ tf_Kl, y ≠ 98 := by decide +kernel
    exact hall x hm
section TFM
variable {l : Launch} {D : va_G} {cA : Nat → ClassId} {ad : Nat → Nat} {nc : Nat}
set_option maxHeartbeats 4000000 in
set_option maxRecDepth 100000 in
theorem tf_sound (hj : tf_inj ad nc) : ∀ (d kn : Nat), kn < tf_NM → tf_mc kn ≠ 98 → tf_Met l D cA ad nc (tf_my kn) (Jvm.Cond.code (tf_my kn) (tf_mb kn) (tf_ml kn) (tf_mr kn) :: tf_BW) (tf_rm d) (tf_mr kn) (tf_Cd nc d kn) := by
  intro d
  induction d with
  | zero =>
    intro kn hkn _ As h Q sz hq
    exact absurd hq (tf_ext_1000 (Nat.lt_of_lt_of_le hkn (by decide)))
  | succ d ih =>
    intro kn hkn h98 As h Q sz hq
    have hk1 : kn < 1000 := Nat.lt_of_lt_of_le hkn (by decide)
    simp only [tf_Cd, if_pos hk1] at hq
    obtain ⟨hrc, hLW⟩ := hq
    obtain ⟨hpl, hcls, hmo, hml13, hdd, hini⟩ := tf_m_ok hkn
    obtain ⟨hBck, hcode⟩ := tf_row_ok hkn
    refine Met.ofW (cc := tf_mb kn) (maxL := tf_ml kn) (ret := tf_mr kn) hpl rfl ?_
    intro p e s m args below meth c s₁ B hml hv
    obtain ⟨rfl, hsz, hP, hK, hSX⟩ := hv
    have hx := B.exec
    have hb := B.bytes
    have hr := B.returns
    have hts := atoms_spec (ws := Jvm.Cond.code (tf_my kn) (tf_mb kn) (tf_ml kn) (tf_mr kn) :: tf_BW) B.pre
    have hown : s.vm.findClass (tf_my kn).cls = some m.cls := findClass_of_methodNamed B.named
    have hlocks := B.notSynchronized
    subst hsz
    rw [hcls] at hown
    rw [lg_entry_eq]
    have hsub : ∀ w ∈ tf_BW, w ∈ Jvm.Cond.code (tf_my kn) (tf_mb kn) (tf_ml kn) (tf_mr kn) :: tf_BW := fun w hw => List.mem_cons_of_mem _ hw
    have hA : ∀ d, d < nc → va_A (tf_ws cA ad nc h) s.heap.size (ad d) := fun d hd => tf_ws_A.mpr (Or.inl ⟨d, hd, rfl⟩)
    have hA2 : ∀ q, s.heap.size ≤ q → va_A (tf_ws cA ad nc h) s.heap.size q := fun q hq => Or.inr hq
    refine tf_LW_ok (A := va_A (tf_ws cA ad nc h) s.heap.size) (nc := nc) (nL := tf_ml kn) (own := tf_own (tf_mo kn)) (Ts := Jvm.Cond.code (tf_my kn) (tf_mb kn) (tf_ml kn) (tf_mr kn) :: tf_BW) hx hb hown hts hK hj hA ?_ ?_ ?_ ?_ ?_ ?_ ?_ ?_ hBck hLW s.heap [] _ hP va_S.rf (tf_rel_en hrc.1)
    · intro j ci q hf
      obtain ⟨C, T, N, ty, h1, h2, h3, h4, h5, h6, h7⟩ := tf_F_ok hmo j ci q hf
      exact ⟨C, T, N, ty, h1, h2, h3, h4, hsub _ h5, fun w hw => hsub _ (h6 w hw), h7⟩
    · intro j v hi
      exact hts _ (hsub _ (tf_I_ok hmo hi))
    · intro j v hi
      exact hts _ (hsub _ (tf_J_ok hmo hi))
    · intro pc i j j2 k2 na vd L st h2 K hjb hij hdc hM hlen hsum hCk hk
      simp only [tf_M, Option.map_eq_some_iff] at hM
      obtain ⟨⟨a, b, v, pl⟩, hlk, he⟩ := hM
      simp only [Prod.mk.injEq] at he
      obtain ⟨rfl, rfl, rfl⟩ := he
      have hck := List.all_eq_true.mp (tf_rng tf_ckM_all hmo) _ (tf_lookup hlk)
      unfold tf_ckM at hck
      by_cases ha : a < 1000
      · simp only [if_pos ha, Bool.and_eq_true, decide_eq_true_eq] at hck
        obtain ⟨⟨hNM, hvd⟩, hck⟩ := hck
        obtain ⟨_, _, _, hml2, hdd2, hini2⟩ := tf_m_ok hNM
        by_cases hst : tf_mc a = 99
        · rw [if_pos hst] at hck
          simp only [Bool.and_eq_true, Bool.or_eq_true, decide_eq_true_eq] at hck
          obtain ⟨⟨hj2, hna⟩, hlink⟩ := hck
          rcases hij with ⟨-, e2⟩ | ⟨rfl, e2⟩
          · omega
          · subst e2
            subst hna
            have hlk2 : Jvm.Cond.methodLink (tf_own (tf_mo kn)) j (tf_my a) ∈ tf_BW ∨ ∃ host, va_Nw (.methodLinkNest (tf_own (tf_mo kn)) j (tf_my a) host) s := by
              rcases hlink with ((⟨_, ho, hjj, hy⟩ | ⟨_, ho, hjj, hy⟩) | ⟨_, ho, hjj, hy⟩) | hl
              · refine Or.inr ⟨RX8, ?_⟩
                rw [ho, hy, show j = 73 by omega]
                exact hSX.1.1
              · refine Or.inr ⟨RX8, ?_⟩
                rw [ho, hy, show j = 106 by omega]
                exact hSX.1.2.1
              · refine Or.inr ⟨RX8, ?_⟩
                rw [ho, hy, show j = 40 by omega]
                exact hSX.1.2.2
              · rw [Nat.add_sub_cancel] at hl
                exact Or.inl (tf_isw_in hl)
            exact tf_callS_ok (d := d) (yk := tf_my a) (bk := tf_mb a) (Lk := tf_ml a) (nk := tf_mn a) (retk := tf_mr a) (Ck := tf_Cd nc d a) hx hb hml hown hts hsub hK hA hA2 hSX tf_BW_good (ih a hNM (by rw [hst]; decide)) (tf_code_in hNM) ((tf_n_ok hNM).1 hst) hini2 hlk2 hdd2 ⟨Nat.le_refl _, by show 8 + (tf_ml a + 11) + 32 * d ≤ 32 * (d + 1); omega⟩ hvd ⟨Nat.zero_le _, Nat.zero_le _⟩ hdc hlen hsum hCk hk
        · rw [if_neg hst] at hck
          simp only [Bool.and_eq_true, decide_eq_true_eq] at hck
          obtain ⟨⟨hj2, hna⟩, hl⟩ := hck
          rcases hij with ⟨rfl, rfl⟩ | ⟨-, e2⟩
          · subst hna
            obtain ⟨hin, hse, h98'⟩ := (tf_n_ok hNM).2 hst
            rcases h98' with h98' | ⟨T, N, hcl⟩
            · have := (tf_Cd_rc ha hCk).2
              rw [h98'] at this
              rcases this with this | this
              · exact absurd this (by decide)
              · exfalso
                split at this
                · rename_i b0 _ _
                  exact tf_no98 b0 this.1
                · exact this
            · exact tf_callV_ok (d := d) (yk := tf_my a) (bk := tf_mb a) (Lk := tf_ml a) (nk := tf_mn a) (ci := tf_mc a) (retk := tf_mr a) (Ck := tf_Cd nc d a) hx hb hml hown hts hsub hK hA hA2 hSX tf_BW_good (ih a hNM (fun q => by
                rw [q] at hcl
                cases hcl)) (fun As h Q hq => tf_Cd_rc ha hq) hst hcl (tf_code_in hNM) (tf_isw_in hl) hin hse hini2 hdd2 ⟨Nat.le_refl _, by show 8 + (tf_ml a + 11) + 32 * d ≤ 32 * (d + 1); omega⟩ hvd ⟨Nat.zero_le _, Nat.zero_le _⟩ hdc hlen hsum hCk hk
          · omega
      · simp only [if_neg ha, Bool.and_eq_true, Bool.or_eq_true, decide_eq_true_eq] at hck
        obtain ⟨hj2, hck⟩ := hck
        rw [tf_Cd_ext ha] at hCk
        rcases hij with ⟨-, e2⟩ | ⟨rfl, e2⟩
        · omega
        · subst e2
          rw [Nat.add_sub_cancel] at hck
          refine tf_ext_ok (kn := a) (na := b) (vd := v) (d := d) hx hb hml hown hts hsub hK hj hA ⟨Nat.succ_le_succ (Nat.zero_le _), by show 32 ≤ 32 * (d + 1); omega⟩ ⟨Nat.zero_le _, Nat.zero_le _⟩ ?_ hdc hsum hCk hk
          rcases hck with ((⟨⟨⟨h1, h2⟩, h3⟩, h4⟩ | ⟨⟨⟨h1, h2⟩, h3⟩, h4⟩) | ⟨⟨⟨h1, h2⟩, h3⟩, h4⟩) | ⟨⟨⟨h1, h2⟩, h3⟩, h4⟩
          · exact Or.inl ⟨h1, h2, h3, tf_isw_in h4⟩
          · exact Or.inr (Or.inl ⟨h1, h2, h3, tf_isw_in h4⟩)
          · exact Or.inr (Or.inr (Or.inl ⟨h1, h2, h3, tf_isw_in h4⟩))
          · exact Or.inr (Or.inr (Or.inr ⟨h1, h2, h3, tf_isw_in h4⟩))
    · intro pc n i f L st h2 k X hE hdc hf hk hX
      unfold tf_Eg at hE
      cases h222 : (Nat.ble 222 kn && Nat.ble kn 241) with
      | false =>
        rw [h222] at hE
        cases hE
      | true =>
        rw [h222] at hE
        replace hE : ((tv_hl kn).lookup pc).map (fun q => tv_f nc d pc q.1 q.2) = some f := hE
        rw [Option.map_eq_some_iff] at hE
        obtain ⟨q, hlk, rfl⟩ := hE
        have hck := List.all_eq_true.mp (tf_rng tv_ck_all (show kn < 250 by rw [Bool.and_eq_true, Nat.ble_eq, Nat.ble_eq] at h222; omega)) _ (tf_lookup hlk)
        simp only [Bool.and_eq_true, decide_eq_true_eq] at hck
        obtain ⟨⟨⟨h1, h2⟩, h3⟩, h4⟩ := hck
        have hnc : nc = 298 := hf.1
        subst hnc
        have e1 := hdc.symm.trans h1
        have e2 : n = (tv_i q.1 q.2).2 := congrArg Prod.snd (Except.ok.inj e1)
        subst e2
        have hown2 := hown
        rw [h3] at hown2
        exact tv_ok (nL := tf_ml kn) (Ts := Jvm.Cond.code (tf_my kn) (tf_mb kn) (tf_ml kn) (tf_mr kn) :: tf_BW) hx hb hml hown2 hts hsub hK hj hA hSX ⟨Nat.le_refl _, Nat.le_refl _⟩ ⟨Nat.zero_le _, Nat.zero_le _⟩ h4 h2 h1 hf hk hX
    · intro v h2 pc L hdc hrb H locs ls hP2 hS hL
      obtain ⟨hrb, hQ⟩ := hrb
      cases hrt : tf_mr kn with
      | none => rw [hrt] at hrb; exact hrb.elim
      | some t =>
        rw [hrt] at hr hrb
        cases t with
        | int => exact W.iret hx hb hr (fun t ht hW => ⟨⟨.int v, h2, rfl, hQ, by rw [ht]; exact hP2⟩, hS.F ht⟩) hS.2.2 hdc
        | boolean => exact W.zret hx hb hr (tf_nar_b hrb) (fun t ht hW => ⟨⟨.int v, h2, rfl, hQ, by rw [ht]; exact hP2⟩, hS.F ht⟩) hS.2.2 hdc
        | _ => exact hrb.elim
    · intro h2 pc L hdc hrb H locs ls hP2 hS hL
      obtain ⟨hrb, hQ⟩ := hrb
      cases hrt : tf_mr kn with
      | none =>
        rw [hrt] at hr
        exact W.vret hx hb hr (fun t ht hW => ⟨⟨tf_z, h2, rfl, hQ, by rw [ht]; exact hP2⟩, hS.F ht⟩) hS.2.2 hdc
      | some t =>
        rw [hrt] at hrb
        cases t <;> cases hrb
    · intro v h2 pc L hdc hv hrb H locs ls hP2 hS hL
      obtain ⟨hrb, hQ⟩ := hrb
      cases hrt : tf_mr kn with
      | none => rw [hrt] at hrb; cases hrb
      | some t =>
        rw [hrt] at hr hrb
        cases t with
        | object n =>
          refine W.aret hx hb hr (Or.inl ⟨_, rfl⟩) ?_ (fun t ht hW => ⟨⟨v, h2, rfl, hQ, by rw [ht]; exact hP2⟩, hS.F ht⟩) hS.2.2 hdc
          rcases hv with rfl | ⟨a, rfl⟩
          · exact Or.inl rfl
          · exact Or.inr ⟨_, rfl⟩
        | _ => cases hrb
end TFM
end
