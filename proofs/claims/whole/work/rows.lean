section
-- ===== PART A: goes FIRST, ahead of the names: the tables' words, and 'selects' of the private methods out of them =====
/-- a private method of a class that the tables say can be made, by its rows of tables_1 -/
def lw_okq (q : MethodName × Nat) : Prop := (q.1.cls ≠ "java/lang/invoke/MethodHandle" ∧ q.1.cls ≠ "java/lang/invoke/VarHandle") ∧ Cond.instantiable q.1.cls q.2 ∈ tables_1 ∧ Cond.privateMethod q.1 ∈ tables_1 ∧ Cond.instanceMethod q.1 ∈ tables_1
theorem lw_p0 : lw_okq (⟨"CanalEnd", "refusalOfRow", "(IIII)I"⟩, 12) := ⟨⟨by decide +kernel, by decide +kernel⟩, List.mem_of_getElem? (i := 14) (by decide +kernel), List.mem_of_getElem? (i := 309) (by decide +kernel), List.mem_of_getElem? (i := 310) (by decide +kernel)⟩
theorem lw_p1 : lw_okq (⟨"CanalEnd", "faulty", "(I)I"⟩, 12) := ⟨⟨by decide +kernel, by decide +kernel⟩, List.mem_of_getElem? (i := 14) (by decide +kernel), List.mem_of_getElem? (i := 326) (by decide +kernel), List.mem_of_getElem? (i := 327) (by decide +kernel)⟩
theorem lw_p2 : lw_okq (⟨"CanalEnd$Text", "skips", "(C)Z"⟩, 4) := ⟨⟨by decide +kernel, by decide +kernel⟩, List.mem_of_getElem? (i := 98) (by decide +kernel), List.mem_of_getElem? (i := 339) (by decide +kernel), List.mem_of_getElem? (i := 340) (by decide +kernel)⟩
theorem lw_p3 : lw_okq (⟨"CanalEnd$Text", "code", "()I"⟩, 4) := ⟨⟨by decide +kernel, by decide +kernel⟩, List.mem_of_getElem? (i := 98) (by decide +kernel), List.mem_of_getElem? (i := 343) (by decide +kernel), List.mem_of_getElem? (i := 344) (by decide +kernel)⟩
theorem lw_p4 : lw_okq (⟨"CanalEnd$Text", "readsWidth", "(LCanalEnd$Canal;)I"⟩, 4) := ⟨⟨by decide +kernel, by decide +kernel⟩, List.mem_of_getElem? (i := 98) (by decide +kernel), List.mem_of_getElem? (i := 347) (by decide +kernel), List.mem_of_getElem? (i := 348) (by decide +kernel)⟩
theorem lw_p5 : lw_okq (⟨"CanalEnd$Text", "isDigit", "(I)Z"⟩, 4) := ⟨⟨by decide +kernel, by decide +kernel⟩, List.mem_of_getElem? (i := 98) (by decide +kernel), List.mem_of_getElem? (i := 351) (by decide +kernel), List.mem_of_getElem? (i := 352) (by decide +kernel)⟩
theorem lw_p6 : lw_okq (⟨"CanalEnd$Text", "readsMile", "(LCanalEnd$Canal;)Z"⟩, 4) := ⟨⟨by decide +kernel, by decide +kernel⟩, List.mem_of_getElem? (i := 98) (by decide +kernel), List.mem_of_getElem? (i := 360) (by decide +kernel), List.mem_of_getElem? (i := 361) (by decide +kernel)⟩
theorem lw_p7 : lw_okq (⟨"CanalEnd$Text", "digit", "()I"⟩, 4) := ⟨⟨by decide +kernel, by decide +kernel⟩, List.mem_of_getElem? (i := 98) (by decide +kernel), List.mem_of_getElem? (i := 364) (by decide +kernel), List.mem_of_getElem? (i := 365) (by decide +kernel)⟩
theorem lw_p8 : lw_okq (⟨"CanalEnd$Text", "readsOutlet", "(LCanalEnd$Canal;)Z"⟩, 4) := ⟨⟨by decide +kernel, by decide +kernel⟩, List.mem_of_getElem? (i := 98) (by decide +kernel), List.mem_of_getElem? (i := 372) (by decide +kernel), List.mem_of_getElem? (i := 373) (by decide +kernel)⟩
theorem lw_p9 : lw_okq (⟨"CanalEnd", "isMile", "(I)Z"⟩, 12) := ⟨⟨by decide +kernel, by decide +kernel⟩, List.mem_of_getElem? (i := 14) (by decide +kernel), List.mem_of_getElem? (i := 395) (by decide +kernel), List.mem_of_getElem? (i := 396) (by decide +kernel)⟩
theorem lw_p10 : lw_okq (⟨"CanalEnd", "isOutlet", "(I)Z"⟩, 12) := ⟨⟨by decide +kernel, by decide +kernel⟩, List.mem_of_getElem? (i := 14) (by decide +kernel), List.mem_of_getElem? (i := 407) (by decide +kernel), List.mem_of_getElem? (i := 408) (by decide +kernel)⟩
theorem lw_p11 : lw_okq (⟨"CanalEnd", "refusalOfHour", "(ZIZ)I"⟩, 12) := ⟨⟨by decide +kernel, by decide +kernel⟩, List.mem_of_getElem? (i := 14) (by decide +kernel), List.mem_of_getElem? (i := 431) (by decide +kernel), List.mem_of_getElem? (i := 432) (by decide +kernel)⟩
theorem lw_p12 : lw_okq (⟨"CanalEnd", "isCanal", "()Z"⟩, 12) := ⟨⟨by decide +kernel, by decide +kernel⟩, List.mem_of_getElem? (i := 14) (by decide +kernel), List.mem_of_getElem? (i := 480) (by decide +kernel), List.mem_of_getElem? (i := 481) (by decide +kernel)⟩
theorem lw_p13 : lw_okq (⟨"CanalEnd$Worlds", "count", "(LCanalEnd$Canal;)V"⟩, 15) := ⟨⟨by decide +kernel, by decide +kernel⟩, List.mem_of_getElem? (i := 171) (by decide +kernel), List.mem_of_getElem? (i := 515) (by decide +kernel), List.mem_of_getElem? (i := 516) (by decide +kernel)⟩
theorem lw_p14 : lw_okq (⟨"CanalEnd$Worlds", "flowsOn", "(LCanalEnd$Canal;I[III)Z"⟩, 15) := ⟨⟨by decide +kernel, by decide +kernel⟩, List.mem_of_getElem? (i := 171) (by decide +kernel), List.mem_of_getElem? (i := 522) (by decide +kernel), List.mem_of_getElem? (i := 523) (by decide +kernel)⟩
theorem lw_p15 : lw_okq (⟨"CanalEnd$Worlds", "flowOf", "(LCanalEnd$Canal;IIII)I"⟩, 15) := ⟨⟨by decide +kernel, by decide +kernel⟩, List.mem_of_getElem? (i := 171) (by decide +kernel), List.mem_of_getElem? (i := 526) (by decide +kernel), List.mem_of_getElem? (i := 527) (by decide +kernel)⟩
def lw_privs_1 : List (MethodName × Nat) := [(⟨"CanalEnd", "refusalOfRow", "(IIII)I"⟩, 12), (⟨"CanalEnd", "faulty", "(I)I"⟩, 12), (⟨"CanalEnd$Text", "skips", "(C)Z"⟩, 4), (⟨"CanalEnd$Text", "code", "()I"⟩, 4), (⟨"CanalEnd$Text", "readsWidth", "(LCanalEnd$Canal;)I"⟩, 4), (⟨"CanalEnd$Text", "isDigit", "(I)Z"⟩, 4), (⟨"CanalEnd$Text", "readsMile", "(LCanalEnd$Canal;)Z"⟩, 4), (⟨"CanalEnd$Text", "digit", "()I"⟩, 4), (⟨"CanalEnd$Text", "readsOutlet", "(LCanalEnd$Canal;)Z"⟩, 4), (⟨"CanalEnd", "isMile", "(I)Z"⟩, 12), (⟨"CanalEnd", "isOutlet", "(I)Z"⟩, 12), (⟨"CanalEnd", "refusalOfHour", "(ZIZ)I"⟩, 12), (⟨"CanalEnd", "isCanal", "()Z"⟩, 12), (⟨"CanalEnd$Worlds", "count", "(LCanalEnd$Canal;)V"⟩, 15), (⟨"CanalEnd$Worlds", "flowsOn", "(LCanalEnd$Canal;I[III)Z"⟩, 15), (⟨"CanalEnd$Worlds", "flowOf", "(LCanalEnd$Canal;IIII)I"⟩, 15)]
theorem lw_r1 : ∀ q ∈ lw_privs_1, lw_okq q := List.forall_mem_cons.mpr ⟨lw_p0, List.forall_mem_cons.mpr ⟨lw_p1, List.forall_mem_cons.mpr ⟨lw_p2, List.forall_mem_cons.mpr ⟨lw_p3, List.forall_mem_cons.mpr ⟨lw_p4, List.forall_mem_cons.mpr ⟨lw_p5, List.forall_mem_cons.mpr ⟨lw_p6, List.forall_mem_cons.mpr ⟨lw_p7, List.forall_mem_cons.mpr ⟨lw_p8, List.forall_mem_cons.mpr ⟨lw_p9, List.forall_mem_cons.mpr ⟨lw_p10, List.forall_mem_cons.mpr ⟨lw_p11, List.forall_mem_cons.mpr ⟨lw_p12, List.forall_mem_cons.mpr ⟨lw_p13, List.forall_mem_cons.mpr ⟨lw_p14, List.forall_mem_cons.mpr ⟨lw_p15, fun _ h => absurd h List.not_mem_nil⟩⟩⟩⟩⟩⟩⟩⟩⟩⟩⟩⟩⟩⟩⟩⟩
theorem lw_p16 : lw_okq (⟨"CanalEnd$Worlds", "takeByKind", "(LCanalEnd$Canal;I)V"⟩, 15) := ⟨⟨by decide +kernel, by decide +kernel⟩, List.mem_of_getElem? (i := 171) (by decide +kernel), List.mem_of_getElem? (i := 535) (by decide +kernel), List.mem_of_getElem? (i := 536) (by decide +kernel)⟩
theorem lw_p17 : lw_okq (⟨"CanalEnd$Worlds", "alikeFrom", "(II)I"⟩, 15) := ⟨⟨by decide +kernel, by decide +kernel⟩, List.mem_of_getElem? (i := 171) (by decide +kernel), List.mem_of_getElem? (i := 540) (by decide +kernel), List.mem_of_getElem? (i := 541) (by decide +kernel)⟩
theorem lw_p18 : lw_okq (⟨"CanalEnd$Worlds", "isSame", "([I[I)Z"⟩, 15) := ⟨⟨by decide +kernel, by decide +kernel⟩, List.mem_of_getElem? (i := 171) (by decide +kernel), List.mem_of_getElem? (i := 544) (by decide +kernel), List.mem_of_getElem? (i := 545) (by decide +kernel)⟩
theorem lw_p19 : lw_okq (⟨"CanalEnd$Worlds", "noteGauges", "(III)V"⟩, 15) := ⟨⟨by decide +kernel, by decide +kernel⟩, List.mem_of_getElem? (i := 171) (by decide +kernel), List.mem_of_getElem? (i := 549) (by decide +kernel), List.mem_of_getElem? (i := 550) (by decide +kernel)⟩
theorem lw_p20 : lw_okq (⟨"CanalEnd$Worlds", "clearLeaves", "(II)V"⟩, 15) := ⟨⟨by decide +kernel, by decide +kernel⟩, List.mem_of_getElem? (i := 171) (by decide +kernel), List.mem_of_getElem? (i := 573) (by decide +kernel), List.mem_of_getElem? (i := 574) (by decide +kernel)⟩
theorem lw_p21 : lw_okq (⟨"CanalEnd", "settlePeople", "(LCanalEnd$Canal;I)I"⟩, 12) := ⟨⟨by decide +kernel, by decide +kernel⟩, List.mem_of_getElem? (i := 14) (by decide +kernel), List.mem_of_getElem? (i := 581) (by decide +kernel), List.mem_of_getElem? (i := 582) (by decide +kernel)⟩
theorem lw_p22 : lw_okq (⟨"CanalEnd", "endAfter", "(III)I"⟩, 12) := ⟨⟨by decide +kernel, by decide +kernel⟩, List.mem_of_getElem? (i := 14) (by decide +kernel), List.mem_of_getElem? (i := 595) (by decide +kernel), List.mem_of_getElem? (i := 596) (by decide +kernel)⟩
theorem lw_p23 : lw_okq (⟨"CanalEnd", "runDays", "(II)V"⟩, 12) := ⟨⟨by decide +kernel, by decide +kernel⟩, List.mem_of_getElem? (i := 14) (by decide +kernel), List.mem_of_getElem? (i := 607) (by decide +kernel), List.mem_of_getElem? (i := 608) (by decide +kernel)⟩
theorem lw_p24 : lw_okq (⟨"CanalEnd", "allOutlets", "()I"⟩, 12) := ⟨⟨by decide +kernel, by decide +kernel⟩, List.mem_of_getElem? (i := 14) (by decide +kernel), List.mem_of_getElem? (i := 615) (by decide +kernel), List.mem_of_getElem? (i := 616) (by decide +kernel)⟩
theorem lw_p25 : lw_okq (⟨"CanalEnd", "isHeld", "(III)Z"⟩, 12) := ⟨⟨by decide +kernel, by decide +kernel⟩, List.mem_of_getElem? (i := 14) (by decide +kernel), List.mem_of_getElem? (i := 622) (by decide +kernel), List.mem_of_getElem? (i := 623) (by decide +kernel)⟩
theorem lw_p26 : lw_okq (⟨"CanalEnd", "gotOf", "(IZ)I"⟩, 12) := ⟨⟨by decide +kernel, by decide +kernel⟩, List.mem_of_getElem? (i := 14) (by decide +kernel), List.mem_of_getElem? (i := 632) (by decide +kernel), List.mem_of_getElem? (i := 633) (by decide +kernel)⟩
theorem lw_p27 : lw_okq (⟨"CanalEnd$Heights", "keep", "(LCanalEnd$Canal;I)V"⟩, 2) := ⟨⟨by decide +kernel, by decide +kernel⟩, List.mem_of_getElem? (i := 230) (by decide +kernel), List.mem_of_getElem? (i := 651) (by decide +kernel), List.mem_of_getElem? (i := 652) (by decide +kernel)⟩
theorem lw_p28 : lw_okq (⟨"CanalEnd", "temptation", "(II)I"⟩, 12) := ⟨⟨by decide +kernel, by decide +kernel⟩, List.mem_of_getElem? (i := 14) (by decide +kernel), List.mem_of_getElem? (i := 665) (by decide +kernel), List.mem_of_getElem? (i := 666) (by decide +kernel)⟩
theorem lw_p29 : lw_okq (⟨"CanalEnd", "leastOdds", "(I)I"⟩, 12) := ⟨⟨by decide +kernel, by decide +kernel⟩, List.mem_of_getElem? (i := 14) (by decide +kernel), List.mem_of_getElem? (i := 679) (by decide +kernel), List.mem_of_getElem? (i := 680) (by decide +kernel)⟩
theorem lw_p30 : lw_okq (⟨"CanalEnd", "rightTells", "(I)I"⟩, 12) := ⟨⟨by decide +kernel, by decide +kernel⟩, List.mem_of_getElem? (i := 14) (by decide +kernel), List.mem_of_getElem? (i := 720) (by decide +kernel), List.mem_of_getElem? (i := 721) (by decide +kernel)⟩
theorem lw_p31 : lw_okq (⟨"CanalEnd", "leaveTrace", "(I)V"⟩, 12) := ⟨⟨by decide +kernel, by decide +kernel⟩, List.mem_of_getElem? (i := 14) (by decide +kernel), List.mem_of_getElem? (i := 724) (by decide +kernel), List.mem_of_getElem? (i := 725) (by decide +kernel)⟩
def lw_privs_2 : List (MethodName × Nat) := [(⟨"CanalEnd$Worlds", "takeByKind", "(LCanalEnd$Canal;I)V"⟩, 15), (⟨"CanalEnd$Worlds", "alikeFrom", "(II)I"⟩, 15), (⟨"CanalEnd$Worlds", "isSame", "([I[I)Z"⟩, 15), (⟨"CanalEnd$Worlds", "noteGauges", "(III)V"⟩, 15), (⟨"CanalEnd$Worlds", "clearLeaves", "(II)V"⟩, 15), (⟨"CanalEnd", "settlePeople", "(LCanalEnd$Canal;I)I"⟩, 12), (⟨"CanalEnd", "endAfter", "(III)I"⟩, 12), (⟨"CanalEnd", "runDays", "(II)V"⟩, 12), (⟨"CanalEnd", "allOutlets", "()I"⟩, 12), (⟨"CanalEnd", "isHeld", "(III)Z"⟩, 12), (⟨"CanalEnd", "gotOf", "(IZ)I"⟩, 12), (⟨"CanalEnd$Heights", "keep", "(LCanalEnd$Canal;I)V"⟩, 2), (⟨"CanalEnd", "temptation", "(II)I"⟩, 12), (⟨"CanalEnd", "leastOdds", "(I)I"⟩, 12), (⟨"CanalEnd", "rightTells", "(I)I"⟩, 12), (⟨"CanalEnd", "leaveTrace", "(I)V"⟩, 12)]
theorem lw_r2 : ∀ q ∈ lw_privs_2, lw_okq q := List.forall_mem_cons.mpr ⟨lw_p16, List.forall_mem_cons.mpr ⟨lw_p17, List.forall_mem_cons.mpr ⟨lw_p18, List.forall_mem_cons.mpr ⟨lw_p19, List.forall_mem_cons.mpr ⟨lw_p20, List.forall_mem_cons.mpr ⟨lw_p21, List.forall_mem_cons.mpr ⟨lw_p22, List.forall_mem_cons.mpr ⟨lw_p23, List.forall_mem_cons.mpr ⟨lw_p24, List.forall_mem_cons.mpr ⟨lw_p25, List.forall_mem_cons.mpr ⟨lw_p26, List.forall_mem_cons.mpr ⟨lw_p27, List.forall_mem_cons.mpr ⟨lw_p28, List.forall_mem_cons.mpr ⟨lw_p29, List.forall_mem_cons.mpr ⟨lw_p30, List.forall_mem_cons.mpr ⟨lw_p31, fun _ h => absurd h List.not_mem_nil⟩⟩⟩⟩⟩⟩⟩⟩⟩⟩⟩⟩⟩⟩⟩⟩
theorem lw_p32 : lw_okq (⟨"CanalEnd", "lowTells", "(I)I"⟩, 12) := ⟨⟨by decide +kernel, by decide +kernel⟩, List.mem_of_getElem? (i := 14) (by decide +kernel), List.mem_of_getElem? (i := 728) (by decide +kernel), List.mem_of_getElem? (i := 729) (by decide +kernel)⟩
theorem lw_p33 : lw_okq (⟨"CanalEnd", "nightlyTells", "(I)I"⟩, 12) := ⟨⟨by decide +kernel, by decide +kernel⟩, List.mem_of_getElem? (i := 14) (by decide +kernel), List.mem_of_getElem? (i := 732) (by decide +kernel), List.mem_of_getElem? (i := 733) (by decide +kernel)⟩
theorem lw_p34 : lw_okq (⟨"CanalEndModel", "against", "(IIII)I"⟩, 51) := ⟨⟨by decide +kernel, by decide +kernel⟩, List.mem_of_getElem? (i := 764) (by decide +kernel), List.mem_of_getElem? (i := 937) (by decide +kernel), List.mem_of_getElem? (i := 938) (by decide +kernel)⟩
theorem lw_p35 : lw_okq (⟨"CanalEndModel", "fails", "(I)I"⟩, 51) := ⟨⟨by decide +kernel, by decide +kernel⟩, List.mem_of_getElem? (i := 764) (by decide +kernel), List.mem_of_getElem? (i := 941) (by decide +kernel), List.mem_of_getElem? (i := 942) (by decide +kernel)⟩
theorem lw_p36 : lw_okq (⟨"CanalEndModel", "readCanal", "(I)Z"⟩, 51) := ⟨⟨by decide +kernel, by decide +kernel⟩, List.mem_of_getElem? (i := 764) (by decide +kernel), List.mem_of_getElem? (i := 945) (by decide +kernel), List.mem_of_getElem? (i := 946) (by decide +kernel)⟩
theorem lw_p37 : lw_okq (⟨"CanalEndModel", "isCode", "(II)Z"⟩, 51) := ⟨⟨by decide +kernel, by decide +kernel⟩, List.mem_of_getElem? (i := 764) (by decide +kernel), List.mem_of_getElem? (i := 949) (by decide +kernel), List.mem_of_getElem? (i := 950) (by decide +kernel)⟩
theorem lw_p38 : lw_okq (⟨"CanalEndModel", "digitAt", "(II)I"⟩, 51) := ⟨⟨by decide +kernel, by decide +kernel⟩, List.mem_of_getElem? (i := 764) (by decide +kernel), List.mem_of_getElem? (i := 953) (by decide +kernel), List.mem_of_getElem? (i := 954) (by decide +kernel)⟩
theorem lw_p39 : lw_okq (⟨"CanalEndModel", "readMile", "(I)Z"⟩, 51) := ⟨⟨by decide +kernel, by decide +kernel⟩, List.mem_of_getElem? (i := 764) (by decide +kernel), List.mem_of_getElem? (i := 957) (by decide +kernel), List.mem_of_getElem? (i := 958) (by decide +kernel)⟩
theorem lw_p40 : lw_okq (⟨"CanalEndModel", "isMile", "(I)Z"⟩, 51) := ⟨⟨by decide +kernel, by decide +kernel⟩, List.mem_of_getElem? (i := 764) (by decide +kernel), List.mem_of_getElem? (i := 965) (by decide +kernel), List.mem_of_getElem? (i := 966) (by decide +kernel)⟩
theorem lw_p41 : lw_okq (⟨"CanalEndModel", "isOutlet", "(I)Z"⟩, 51) := ⟨⟨by decide +kernel, by decide +kernel⟩, List.mem_of_getElem? (i := 764) (by decide +kernel), List.mem_of_getElem? (i := 977) (by decide +kernel), List.mem_of_getElem? (i := 978) (by decide +kernel)⟩
theorem lw_p42 : lw_okq (⟨"CanalEndModel", "layKinds", "()V"⟩, 51) := ⟨⟨by decide +kernel, by decide +kernel⟩, List.mem_of_getElem? (i := 764) (by decide +kernel), List.mem_of_getElem? (i := 1004) (by decide +kernel), List.mem_of_getElem? (i := 1005) (by decide +kernel)⟩
theorem lw_p43 : lw_okq (⟨"CanalEndModel", "hour", "(IZ)V"⟩, 51) := ⟨⟨by decide +kernel, by decide +kernel⟩, List.mem_of_getElem? (i := 764) (by decide +kernel), List.mem_of_getElem? (i := 1008) (by decide +kernel), List.mem_of_getElem? (i := 1009) (by decide +kernel)⟩
theorem lw_p44 : lw_okq (⟨"CanalEndModel", "partOf", "(II)I"⟩, 51) := ⟨⟨by decide +kernel, by decide +kernel⟩, List.mem_of_getElem? (i := 764) (by decide +kernel), List.mem_of_getElem? (i := 1028) (by decide +kernel), List.mem_of_getElem? (i := 1029) (by decide +kernel)⟩
theorem lw_p45 : lw_okq (⟨"CanalEndModel", "layFits", "()V"⟩, 51) := ⟨⟨by decide +kernel, by decide +kernel⟩, List.mem_of_getElem? (i := 764) (by decide +kernel), List.mem_of_getElem? (i := 1044) (by decide +kernel), List.mem_of_getElem? (i := 1045) (by decide +kernel)⟩
theorem lw_p46 : lw_okq (⟨"CanalEndModel", "worlds", "()I"⟩, 51) := ⟨⟨by decide +kernel, by decide +kernel⟩, List.mem_of_getElem? (i := 764) (by decide +kernel), List.mem_of_getElem? (i := 1048) (by decide +kernel), List.mem_of_getElem? (i := 1049) (by decide +kernel)⟩
theorem lw_p47 : lw_okq (⟨"CanalEndModel", "layWorld", "(I)V"⟩, 51) := ⟨⟨by decide +kernel, by decide +kernel⟩, List.mem_of_getElem? (i := 764) (by decide +kernel), List.mem_of_getElem? (i := 1052) (by decide +kernel), List.mem_of_getElem? (i := 1053) (by decide +kernel)⟩
def lw_privs_3 : List (MethodName × Nat) := [(⟨"CanalEnd", "lowTells", "(I)I"⟩, 12), (⟨"CanalEnd", "nightlyTells", "(I)I"⟩, 12), (⟨"CanalEndModel", "against", "(IIII)I"⟩, 51), (⟨"CanalEndModel", "fails", "(I)I"⟩, 51), (⟨"CanalEndModel", "readCanal", "(I)Z"⟩, 51), (⟨"CanalEndModel", "isCode", "(II)Z"⟩, 51), (⟨"CanalEndModel", "digitAt", "(II)I"⟩, 51), (⟨"CanalEndModel", "readMile", "(I)Z"⟩, 51), (⟨"CanalEndModel", "isMile", "(I)Z"⟩, 51), (⟨"CanalEndModel", "isOutlet", "(I)Z"⟩, 51), (⟨"CanalEndModel", "layKinds", "()V"⟩, 51), (⟨"CanalEndModel", "hour", "(IZ)V"⟩, 51), (⟨"CanalEndModel", "partOf", "(II)I"⟩, 51), (⟨"CanalEndModel", "layFits", "()V"⟩, 51), (⟨"CanalEndModel", "worlds", "()I"⟩, 51), (⟨"CanalEndModel", "layWorld", "(I)V"⟩, 51)]
theorem lw_r3 : ∀ q ∈ lw_privs_3, lw_okq q := List.forall_mem_cons.mpr ⟨lw_p32, List.forall_mem_cons.mpr ⟨lw_p33, List.forall_mem_cons.mpr ⟨lw_p34, List.forall_mem_cons.mpr ⟨lw_p35, List.forall_mem_cons.mpr ⟨lw_p36, List.forall_mem_cons.mpr ⟨lw_p37, List.forall_mem_cons.mpr ⟨lw_p38, List.forall_mem_cons.mpr ⟨lw_p39, List.forall_mem_cons.mpr ⟨lw_p40, List.forall_mem_cons.mpr ⟨lw_p41, List.forall_mem_cons.mpr ⟨lw_p42, List.forall_mem_cons.mpr ⟨lw_p43, List.forall_mem_cons.mpr ⟨lw_p44, List.forall_mem_cons.mpr ⟨lw_p45, List.forall_mem_cons.mpr ⟨lw_p46, List.forall_mem_cons.mpr ⟨lw_p47, fun _ h => absurd h List.not_mem_nil⟩⟩⟩⟩⟩⟩⟩⟩⟩⟩⟩⟩⟩⟩⟩⟩
theorem lw_p48 : lw_okq (⟨"CanalEndModel", "isFit", "()Z"⟩, 51) := ⟨⟨by decide +kernel, by decide +kernel⟩, List.mem_of_getElem? (i := 764) (by decide +kernel), List.mem_of_getElem? (i := 1056) (by decide +kernel), List.mem_of_getElem? (i := 1057) (by decide +kernel)⟩
theorem lw_p49 : lw_okq (⟨"CanalEndModel", "worst", "(IIZ)I"⟩, 51) := ⟨⟨by decide +kernel, by decide +kernel⟩, List.mem_of_getElem? (i := 764) (by decide +kernel), List.mem_of_getElem? (i := 1076) (by decide +kernel), List.mem_of_getElem? (i := 1077) (by decide +kernel)⟩
theorem lw_p50 : lw_okq (⟨"CanalEndModel", "settles", "(I)I"⟩, 51) := ⟨⟨by decide +kernel, by decide +kernel⟩, List.mem_of_getElem? (i := 764) (by decide +kernel), List.mem_of_getElem? (i := 1084) (by decide +kernel), List.mem_of_getElem? (i := 1085) (by decide +kernel)⟩
theorem lw_p51 : lw_okq (⟨"CanalEndModel", "layDay", "(I)V"⟩, 51) := ⟨⟨by decide +kernel, by decide +kernel⟩, List.mem_of_getElem? (i := 764) (by decide +kernel), List.mem_of_getElem? (i := 1088) (by decide +kernel), List.mem_of_getElem? (i := 1089) (by decide +kernel)⟩
theorem lw_p52 : lw_okq (⟨"CanalEndModel", "broughtBy", "(III)I"⟩, 51) := ⟨⟨by decide +kernel, by decide +kernel⟩, List.mem_of_getElem? (i := 764) (by decide +kernel), List.mem_of_getElem? (i := 1096) (by decide +kernel), List.mem_of_getElem? (i := 1097) (by decide +kernel)⟩
theorem lw_p53 : lw_okq (⟨"CanalEndModel", "layDug", "(II)V"⟩, 51) := ⟨⟨by decide +kernel, by decide +kernel⟩, List.mem_of_getElem? (i := 764) (by decide +kernel), List.mem_of_getElem? (i := 1108) (by decide +kernel), List.mem_of_getElem? (i := 1109) (by decide +kernel)⟩
theorem lw_p54 : lw_okq (⟨"CanalEndModel", "isDigging", "(III)Z"⟩, 51) := ⟨⟨by decide +kernel, by decide +kernel⟩, List.mem_of_getElem? (i := 764) (by decide +kernel), List.mem_of_getElem? (i := 1116) (by decide +kernel), List.mem_of_getElem? (i := 1117) (by decide +kernel)⟩
theorem lw_p55 : lw_okq (⟨"CanalEndModel", "isHeld", "(III)Z"⟩, 51) := ⟨⟨by decide +kernel, by decide +kernel⟩, List.mem_of_getElem? (i := 764) (by decide +kernel), List.mem_of_getElem? (i := 1120) (by decide +kernel), List.mem_of_getElem? (i := 1121) (by decide +kernel)⟩
theorem lw_p56 : lw_okq (⟨"CanalEndModel", "dayBy", "(III)I"⟩, 51) := ⟨⟨by decide +kernel, by decide +kernel⟩, List.mem_of_getElem? (i := 764) (by decide +kernel), List.mem_of_getElem? (i := 1130) (by decide +kernel), List.mem_of_getElem? (i := 1131) (by decide +kernel)⟩
theorem lw_p57 : lw_okq (⟨"CanalEndModel", "spread", "()I"⟩, 51) := ⟨⟨by decide +kernel, by decide +kernel⟩, List.mem_of_getElem? (i := 764) (by decide +kernel), List.mem_of_getElem? (i := 1142) (by decide +kernel), List.mem_of_getElem? (i := 1143) (by decide +kernel)⟩
theorem lw_p58 : lw_okq (⟨"CanalEndModel", "tempted", "(II)I"⟩, 51) := ⟨⟨by decide +kernel, by decide +kernel⟩, List.mem_of_getElem? (i := 764) (by decide +kernel), List.mem_of_getElem? (i := 1150) (by decide +kernel), List.mem_of_getElem? (i := 1151) (by decide +kernel)⟩
theorem lw_p59 : lw_okq (⟨"CanalEndModel", "lost", "(I)J"⟩, 51) := ⟨⟨by decide +kernel, by decide +kernel⟩, List.mem_of_getElem? (i := 764) (by decide +kernel), List.mem_of_getElem? (i := 1176) (by decide +kernel), List.mem_of_getElem? (i := 1177) (by decide +kernel)⟩
theorem lw_p60 : lw_okq (⟨"CanalEndModel", "begins", "(I)V"⟩, 51) := ⟨⟨by decide +kernel, by decide +kernel⟩, List.mem_of_getElem? (i := 764) (by decide +kernel), List.mem_of_getElem? (i := 1188) (by decide +kernel), List.mem_of_getElem? (i := 1189) (by decide +kernel)⟩
def lw_privs_4 : List (MethodName × Nat) := [(⟨"CanalEndModel", "isFit", "()Z"⟩, 51), (⟨"CanalEndModel", "worst", "(IIZ)I"⟩, 51), (⟨"CanalEndModel", "settles", "(I)I"⟩, 51), (⟨"CanalEndModel", "layDay", "(I)V"⟩, 51), (⟨"CanalEndModel", "broughtBy", "(III)I"⟩, 51), (⟨"CanalEndModel", "layDug", "(II)V"⟩, 51), (⟨"CanalEndModel", "isDigging", "(III)Z"⟩, 51), (⟨"CanalEndModel", "isHeld", "(III)Z"⟩, 51), (⟨"CanalEndModel", "dayBy", "(III)I"⟩, 51), (⟨"CanalEndModel", "spread", "()I"⟩, 51), (⟨"CanalEndModel", "tempted", "(II)I"⟩, 51), (⟨"CanalEndModel", "lost", "(I)J"⟩, 51), (⟨"CanalEndModel", "begins", "(I)V"⟩, 51)]
theorem lw_r4 : ∀ q ∈ lw_privs_4, lw_okq q := List.forall_mem_cons.mpr ⟨lw_p48, List.forall_mem_cons.mpr ⟨lw_p49, List.forall_mem_cons.mpr ⟨lw_p50, List.forall_mem_cons.mpr ⟨lw_p51, List.forall_mem_cons.mpr ⟨lw_p52, List.forall_mem_cons.mpr ⟨lw_p53, List.forall_mem_cons.mpr ⟨lw_p54, List.forall_mem_cons.mpr ⟨lw_p55, List.forall_mem_cons.mpr ⟨lw_p56, List.forall_mem_cons.mpr ⟨lw_p57, List.forall_mem_cons.mpr ⟨lw_p58, List.forall_mem_cons.mpr ⟨lw_p59, List.forall_mem_cons.mpr ⟨lw_p60, fun _ h => absurd h List.not_mem_nil⟩⟩⟩⟩⟩⟩⟩⟩⟩⟩⟩⟩⟩
def lw_privs : List (MethodName × Nat) := lw_privs_1 ++ (lw_privs_2 ++ (lw_privs_3 ++ (lw_privs_4)))
def lw_tbl : List Cond := k2_sels lw_privs ++ tables_1
theorem lw_privs_ok : ∀ q ∈ lw_privs, lw_okq q := by
  show ∀ q ∈ lw_privs_1 ++ (lw_privs_2 ++ (lw_privs_3 ++ (lw_privs_4))), lw_okq q
  exact List.forall_mem_append.mpr ⟨lw_r1, List.forall_mem_append.mpr ⟨lw_r2, List.forall_mem_append.mpr ⟨lw_r3, lw_r4⟩⟩⟩
end
section
def RX0 : String := "CanalEnd$Canal"
def TX0 : u_T := fun k => match k with
  | 0 => ("CanalEnd$Canal", "width", "I", false)
  | 1 => ("CanalEnd$Canal", "miles", "I", false)
  | 2 => ("CanalEnd$Canal", "outlets", "I", false)
  | 3 => ("CanalEnd$Canal", "siphoned", "I", false)
  | 4 => ("CanalEnd$Canal", "seep", "[I", true)
  | 5 => ("CanalEnd$Canal", "silt", "[I", true)
  | 6 => ("CanalEnd$Canal", "first", "[I", true)
  | 7 => ("CanalEnd$Canal", "count", "[I", true)
  | 8 => ("CanalEnd$Canal", "mileOf", "[I", true)
  | 9 => ("CanalEnd$Canal", "sizes", "[I", true)
  | 10 => ("CanalEnd$Canal", "heights", "[I", true)
  | 11 => ("CanalEnd$Canal", "kinds", "[I", true)
  | 12 => ("CanalEnd$Canal", "wants", "[I", true)
  | _ => ("CanalEnd$Canal", "guarded", "[Z", true)
def tyX0 : Nat → FieldType := fun k => match k with
  | 0 => .int
  | 1 => .int
  | 2 => .int
  | 3 => .int
  | 4 => .array .int
  | 5 => .array .int
  | 6 => .array .int
  | 7 => .array .int
  | 8 => .array .int
  | 9 => .array .int
  | 10 => .array .int
  | 11 => .array .int
  | 12 => .array .int
  | _ => .array .boolean
abbrev wsX00 : List Cond := u_ws RX0 TX0 14
theorem nmX0 : ∀ a, a < 14 → ∀ b, b < 14 → a ≠ b → (TX0 a).2.1 ≠ (TX0 b).2.1 := by decide +kernel
theorem tyX0_ok : ∀ k, k < 14 → parseFieldDescriptor (TX0 k).2.2.1 = some (tyX0 k) := by decide +kernel
abbrev cX0_init : ByteArray := prog_2_method_1_code
def yX0_init : MethodName := ⟨RX0, "<init>", "()V"⟩
abbrev cX0_begin : ByteArray := prog_2_method_2_code
def yX0_begin : MethodName := ⟨RX0, "begin", "(I)V"⟩
abbrev cX0_addMile : ByteArray := prog_2_method_3_code
def yX0_addMile : MethodName := ⟨RX0, "addMile", "(II)V"⟩
abbrev cX0_addOutlet : ByteArray := prog_2_method_4_code
def yX0_addOutlet : MethodName := ⟨RX0, "addOutlet", "(II)V"⟩
abbrev cX0_become : ByteArray := prog_2_method_5_code
def yX0_become : MethodName := ⟨RX0, "become", "(LCanalEnd$Canal;)V"⟩
abbrev cX0_seepOf : ByteArray := prog_2_method_6_code
def yX0_seepOf : MethodName := ⟨RX0, "seepOf", "(II)I"⟩
abbrev cX0_levelOf : ByteArray := prog_2_method_7_code
def yX0_levelOf : MethodName := ⟨RX0, "levelOf", "(II)I"⟩
abbrev cX0_takenFrom : ByteArray := prog_2_method_8_code
def yX0_takenFrom : MethodName := ⟨RX0, "takenFrom", "(IIIIZ)I"⟩
abbrev cX0_notRight : ByteArray := prog_2_method_9_code
def yX0_notRight : MethodName := ⟨RX0, "notRight", "()I"⟩
abbrev cX0_underGuard : ByteArray := prog_2_method_10_code
def yX0_underGuard : MethodName := ⟨RX0, "underGuard", "()I"⟩
def RX1 : String := "CanalEnd$Day"
def TX1 : u_T := fun k => match k with
  | 0 => ("CanalEnd$Day", "taken", "[I", true)
  | 1 => ("CanalEnd$Day", "end", "I", false)
  | _ => ("CanalEnd$Day", "hour", "LCanalEnd$Hour;", true)
def tyX1 : Nat → FieldType := fun k => match k with
  | 0 => .array .int
  | 1 => .int
  | _ => .object "CanalEnd$Hour"
abbrev wsX10 : List Cond := u_ws RX1 TX1 3
theorem nmX1 : ∀ a, a < 3 → ∀ b, b < 3 → a ≠ b → (TX1 a).2.1 ≠ (TX1 b).2.1 := by decide +kernel
theorem tyX1_ok : ∀ k, k < 3 → parseFieldDescriptor (TX1 k).2.2.1 = some (tyX1 k) := by decide +kernel
abbrev cX1_init : ByteArray := prog_3_method_1_code
def yX1_init : MethodName := ⟨RX1, "<init>", "()V"⟩
abbrev cX1_run : ByteArray := prog_3_method_2_code
def yX1_run : MethodName := ⟨RX1, "run", "(LCanalEnd$Canal;I)V"⟩
def RX2 : String := "CanalEnd$Heights"
def TX2 : u_T := fun k => match k with
  | 0 => ("CanalEnd$Heights", "leastSpread", "I", false)
  | _ => ("CanalEnd$Heights", "best", "[I", true)
def tyX2 : Nat → FieldType := fun k => match k with
  | 0 => .int
  | _ => .array .int
abbrev wsX20 : List Cond := u_ws RX2 TX2 2
theorem nmX2 : ∀ a, a < 2 → ∀ b, b < 2 → a ≠ b → (TX2 a).2.1 ≠ (TX2 b).2.1 := by decide +kernel
theorem tyX2_ok : ∀ k, k < 2 → parseFieldDescriptor (TX2 k).2.2.1 = some (tyX2 k) := by decide +kernel
abbrev cX2_init : ByteArray := prog_4_method_1_code
def yX2_init : MethodName := ⟨RX2, "<init>", "()V"⟩
abbrev cX2_search : ByteArray := prog_4_method_2_code
def yX2_search : MethodName := ⟨RX2, "search", "(LCanalEnd$Canal;I)V"⟩
abbrev cX2_tryFrom : ByteArray := prog_4_method_3_code
def yX2_tryFrom : MethodName := ⟨RX2, "tryFrom", "(LCanalEnd$Heights;LCanalEnd$Canal;IIIII)V"⟩
abbrev cX2_keep : ByteArray := prog_4_method_4_code
def yX2_keep : MethodName := ⟨RX2, "keep", "(LCanalEnd$Canal;I)V"⟩
def RX3 : String := "CanalEnd$Hour"
def TX3 : u_T := fun k => match k with
  | 0 => ("CanalEnd$Hour", "seeped", "[I", true)
  | 1 => ("CanalEnd$Hour", "levels", "[I", true)
  | 2 => ("CanalEnd$Hour", "left", "[I", true)
  | 3 => ("CanalEnd$Hour", "taken", "[I", true)
  | 4 => ("CanalEnd$Hour", "came", "I", false)
  | 5 => ("CanalEnd$Hour", "allSeeped", "I", false)
  | _ => ("CanalEnd$Hour", "end", "I", false)
def tyX3 : Nat → FieldType := fun k => match k with
  | 0 => .array .int
  | 1 => .array .int
  | 2 => .array .int
  | 3 => .array .int
  | 4 => .int
  | 5 => .int
  | _ => .int
abbrev wsX30 : List Cond := u_ws RX3 TX3 7
theorem nmX3 : ∀ a, a < 7 → ∀ b, b < 7 → a ≠ b → (TX3 a).2.1 ≠ (TX3 b).2.1 := by decide +kernel
theorem tyX3_ok : ∀ k, k < 7 → parseFieldDescriptor (TX3 k).2.2.1 = some (tyX3 k) := by decide +kernel
abbrev cX3_init : ByteArray := prog_5_method_1_code
def yX3_init : MethodName := ⟨RX3, "<init>", "()V"⟩
abbrev cX3_run : ByteArray := prog_5_method_2_code
def yX3_run : MethodName := ⟨RX3, "run", "(LCanalEnd$Canal;IZ)V"⟩
abbrev cX3_sumOf : ByteArray := prog_5_method_3_code
def yX3_sumOf : MethodName := ⟨RX3, "sumOf", "(I)I"⟩
def RX4 : String := "CanalEnd$Sheet"
def TX4 : u_T := fun k => match k with
  | 0 => ("CanalEnd$Sheet", "isThere", "Z", false)
  | 1 => ("CanalEnd$Sheet", "sort", "I", false)
  | 2 => ("CanalEnd$Sheet", "cells", "[I", true)
  | _ => ("CanalEnd$Sheet", "length", "I", false)
def tyX4 : Nat → FieldType := fun k => match k with
  | 0 => .boolean
  | 1 => .int
  | 2 => .array .int
  | _ => .int
abbrev wsX40 : List Cond := u_ws RX4 TX4 4
theorem nmX4 : ∀ a, a < 4 → ∀ b, b < 4 → a ≠ b → (TX4 a).2.1 ≠ (TX4 b).2.1 := by decide +kernel
theorem tyX4_ok : ∀ k, k < 4 → parseFieldDescriptor (TX4 k).2.2.1 = some (tyX4 k) := by decide +kernel
abbrev cX4_init : ByteArray := prog_6_method_1_code
def yX4_init : MethodName := ⟨RX4, "<init>", "()V"⟩
abbrev cX4_begin : ByteArray := prog_6_method_2_code
def yX4_begin : MethodName := ⟨RX4, "begin", "(II)V"⟩
abbrev cX4_faultAs : ByteArray := prog_6_method_3_code
def yX4_faultAs : MethodName := ⟨RX4, "faultAs", "(I)I"⟩
abbrev cX4_isCell : ByteArray := prog_6_method_4_code
def yX4_isCell : MethodName := ⟨RX4, "isCell", "(I)Z"⟩
abbrev cX4_areCells : ByteArray := prog_6_method_5_code
def yX4_areCells : MethodName := ⟨RX4, "areCells", "(II)Z"⟩
abbrev cX4_isAllWater : ByteArray := prog_6_method_6_code
def yX4_isAllWater : MethodName := ⟨RX4, "isAllWater", "(II)Z"⟩
abbrev cX4_cut : ByteArray := prog_6_method_7_code
def yX4_cut : MethodName := ⟨RX4, "cut", "(I)I"⟩
def RX5 : String := "CanalEnd$Text"
def TX5 : u_T := fun k => match k with
  | 0 => ("CanalEnd$Text", "row", "[I", false)
  | 1 => ("CanalEnd$Text", "start", "I", false)
  | 2 => ("CanalEnd$Text", "length", "I", false)
  | _ => ("CanalEnd$Text", "at", "I", false)
def tyX5 : Nat → FieldType := fun k => match k with
  | 0 => .array .int
  | 1 => .int
  | 2 => .int
  | _ => .int
abbrev wsX50 : List Cond := u_ws RX5 TX5 4
theorem nmX5 : ∀ a, a < 4 → ∀ b, b < 4 → a ≠ b → (TX5 a).2.1 ≠ (TX5 b).2.1 := by decide +kernel
theorem tyX5_ok : ∀ k, k < 4 → parseFieldDescriptor (TX5 k).2.2.1 = some (tyX5 k) := by decide +kernel
abbrev cX5_init : ByteArray := prog_7_method_1_code
def yX5_init : MethodName := ⟨RX5, "<init>", "()V"⟩
abbrev cX5_firstFault : ByteArray := prog_7_method_2_code
def yX5_firstFault : MethodName := ⟨RX5, "firstFault", "([IIILCanalEnd$Canal;)I"⟩
abbrev cX5_readsWidth : ByteArray := prog_7_method_3_code
def yX5_readsWidth : MethodName := ⟨RX5, "readsWidth", "(LCanalEnd$Canal;)I"⟩
abbrev cX5_readsMile : ByteArray := prog_7_method_4_code
def yX5_readsMile : MethodName := ⟨RX5, "readsMile", "(LCanalEnd$Canal;)Z"⟩
abbrev cX5_readsOutlet : ByteArray := prog_7_method_5_code
def yX5_readsOutlet : MethodName := ⟨RX5, "readsOutlet", "(LCanalEnd$Canal;)Z"⟩
abbrev cX5_code : ByteArray := prog_7_method_6_code
def yX5_code : MethodName := ⟨RX5, "code", "()I"⟩
abbrev cX5_isDigit : ByteArray := prog_7_method_7_code
def yX5_isDigit : MethodName := ⟨RX5, "isDigit", "(I)Z"⟩
abbrev cX5_digit : ByteArray := prog_7_method_8_code
def yX5_digit : MethodName := ⟨RX5, "digit", "()I"⟩
abbrev cX5_skips : ByteArray := prog_7_method_9_code
def yX5_skips : MethodName := ⟨RX5, "skips", "(C)Z"⟩
def RX6 : String := "CanalEnd$Worlds"
def TX6 : u_T := fun k => match k with
  | 0 => ("CanalEnd$Worlds", "readings", "I", false)
  | 1 => ("CanalEnd$Worlds", "fitting", "I", false)
  | 2 => ("CanalEnd$Worlds", "counted", "Z", false)
  | 3 => ("CanalEnd$Worlds", "tally", "[[I", true)
  | 4 => ("CanalEnd$Worlds", "worst", "[I", true)
  | 5 => ("CanalEnd$Worlds", "hours", "I", false)
  | 6 => ("CanalEnd$Worlds", "weir", "[I", true)
  | 7 => ("CanalEnd$Worlds", "nights", "[Z", true)
  | 8 => ("CanalEnd$Worlds", "lastMile", "[I", true)
  | 9 => ("CanalEnd$Worlds", "read", "[I", true)
  | 10 => ("CanalEnd$Worlds", "water", "[[I", true)
  | 11 => ("CanalEnd$Worlds", "levels", "[[I", true)
  | 12 => ("CanalEnd$Worlds", "left", "[[I", true)
  | 13 => ("CanalEnd$Worlds", "gauges", "[I", true)
  | _ => ("CanalEnd$Worlds", "leaves", "[[I", false)
def tyX6 : Nat → FieldType := fun k => match k with
  | 0 => .int
  | 1 => .int
  | 2 => .boolean
  | 3 => .array (.array .int)
  | 4 => .array .int
  | 5 => .int
  | 6 => .array .int
  | 7 => .array .boolean
  | 8 => .array .int
  | 9 => .array .int
  | 10 => .array (.array .int)
  | 11 => .array (.array .int)
  | 12 => .array (.array .int)
  | 13 => .array .int
  | _ => .array (.array .int)
abbrev wsX60 : List Cond := u_ws RX6 TX6 15
theorem nmX6 : ∀ a, a < 15 → ∀ b, b < 15 → a ≠ b → (TX6 a).2.1 ≠ (TX6 b).2.1 := by decide +kernel
theorem tyX6_ok : ∀ k, k < 15 → parseFieldDescriptor (TX6 k).2.2.1 = some (tyX6 k) := by decide +kernel
abbrev cX6_init : ByteArray := prog_8_method_1_code
def yX6_init : MethodName := ⟨RX6, "<init>", "()V"⟩
abbrev cX6_forgetReadings : ByteArray := prog_8_method_2_code
def yX6_forgetReadings : MethodName := ⟨RX6, "forgetReadings", "()V"⟩
abbrev cX6_addReading : ByteArray := prog_8_method_3_code
def yX6_addReading : MethodName := ⟨RX6, "addReading", "(IIZI)I"⟩
abbrev cX6_takeBack : ByteArray := prog_8_method_4_code
def yX6_takeBack : MethodName := ⟨RX6, "takeBack", "(I)V"⟩
abbrev cX6_countOnce : ByteArray := prog_8_method_5_code
def yX6_countOnce : MethodName := ⟨RX6, "countOnce", "(LCanalEnd$Canal;)V"⟩
abbrev cX6_countWithGauges : ByteArray := prog_8_method_6_code
def yX6_countWithGauges : MethodName := ⟨RX6, "countWithGauges", "(LCanalEnd$Canal;IZ)V"⟩
abbrev cX6_clearLeaves : ByteArray := prog_8_method_7_code
def yX6_clearLeaves : MethodName := ⟨RX6, "clearLeaves", "(II)V"⟩
abbrev cX6_count : ByteArray := prog_8_method_8_code
def yX6_count : MethodName := ⟨RX6, "count", "(LCanalEnd$Canal;)V"⟩
abbrev cX6_fittingFrom : ByteArray := prog_8_method_9_code
def yX6_fittingFrom : MethodName := ⟨RX6, "fittingFrom", "(LCanalEnd$Worlds;LCanalEnd$Canal;I[II)I"⟩
abbrev cX6_fittingByKind : ByteArray := prog_8_method_10_code
def yX6_fittingByKind : MethodName := ⟨RX6, "fittingByKind", "(LCanalEnd$Worlds;LCanalEnd$Canal;II)I"⟩
abbrev cX6_flowsOn : ByteArray := prog_8_method_11_code
def yX6_flowsOn : MethodName := ⟨RX6, "flowsOn", "(LCanalEnd$Canal;I[III)Z"⟩
abbrev cX6_flowOf : ByteArray := prog_8_method_12_code
def yX6_flowOf : MethodName := ⟨RX6, "flowOf", "(LCanalEnd$Canal;IIII)I"⟩
abbrev cX6_takeByKind : ByteArray := prog_8_method_13_code
def yX6_takeByKind : MethodName := ⟨RX6, "takeByKind", "(LCanalEnd$Canal;I)V"⟩
abbrev cX6_alikeFrom : ByteArray := prog_8_method_14_code
def yX6_alikeFrom : MethodName := ⟨RX6, "alikeFrom", "(II)I"⟩
abbrev cX6_isSame : ByteArray := prog_8_method_15_code
def yX6_isSame : MethodName := ⟨RX6, "isSame", "([I[I)Z"⟩
abbrev cX6_noteGauges : ByteArray := prog_8_method_16_code
def yX6_noteGauges : MethodName := ⟨RX6, "noteGauges", "(III)V"⟩
def RX7 : String := "CanalEnd"
def TX7 : u_T := fun k => match k with
  | 0 => ("CanalEnd", "canal", "LCanalEnd$Canal;", true)
  | 1 => ("CanalEnd", "trial", "LCanalEnd$Canal;", true)
  | 2 => ("CanalEnd", "text", "LCanalEnd$Text;", true)
  | 3 => ("CanalEnd", "hour", "LCanalEnd$Hour;", true)
  | 4 => ("CanalEnd", "day", "LCanalEnd$Day;", true)
  | 5 => ("CanalEnd", "dugDay", "LCanalEnd$Day;", true)
  | 6 => ("CanalEnd", "worlds", "LCanalEnd$Worlds;", true)
  | 7 => ("CanalEnd", "heights", "LCanalEnd$Heights;", true)
  | 8 => ("CanalEnd", "sheets", "[LCanalEnd$Sheet;", true)
  | 9 => ("CanalEnd", "odds", "[I", true)
  | 10 => ("CanalEnd", "latestFault", "I", false)
  | _ => ("CanalEnd", "traced", "I", false)
def tyX7 : Nat → FieldType := fun k => match k with
  | 0 => .object "CanalEnd$Canal"
  | 1 => .object "CanalEnd$Canal"
  | 2 => .object "CanalEnd$Text"
  | 3 => .object "CanalEnd$Hour"
  | 4 => .object "CanalEnd$Day"
  | 5 => .object "CanalEnd$Day"
  | 6 => .object "CanalEnd$Worlds"
  | 7 => .object "CanalEnd$Heights"
  | 8 => .array (.object "CanalEnd$Sheet")
  | 9 => .array .int
  | 10 => .int
  | _ => .int
abbrev wsX70 : List Cond := u_ws RX7 TX7 12
theorem nmX7 : ∀ a, a < 12 → ∀ b, b < 12 → a ≠ b → (TX7 a).2.1 ≠ (TX7 b).2.1 := by decide +kernel
theorem tyX7_ok : ∀ k, k < 12 → parseFieldDescriptor (TX7 k).2.2.1 = some (tyX7 k) := by decide +kernel
abbrev cX7_init : ByteArray := prog_1_method_1_code
def yX7_init : MethodName := ⟨RX7, "<init>", "()V"⟩
abbrev cX7_canal : ByteArray := prog_1_method_2_code
def yX7_canal : MethodName := ⟨RX7, "canal", "(IIII)I"⟩
abbrev cX7_ofMile : ByteArray := prog_1_method_3_code
def yX7_ofMile : MethodName := ⟨RX7, "ofMile", "(II)I"⟩
abbrev cX7_turn : ByteArray := prog_1_method_4_code
def yX7_turn : MethodName := ⟨RX7, "turn", "(III)I"⟩
abbrev cX7_ofOutlet : ByteArray := prog_1_method_5_code
def yX7_ofOutlet : MethodName := ⟨RX7, "ofOutlet", "(II)I"⟩
abbrev cX7_kind : ByteArray := prog_1_method_6_code
def yX7_kind : MethodName := ⟨RX7, "kind", "(II)I"⟩
abbrev cX7_needs : ByteArray := prog_1_method_7_code
def yX7_needs : MethodName := ⟨RX7, "needs", "(II)I"⟩
abbrev cX7_guard : ByteArray := prog_1_method_8_code
def yX7_guard : MethodName := ⟨RX7, "guard", "(IZ)I"⟩
abbrev cX7_syphon : ByteArray := prog_1_method_9_code
def yX7_syphon : MethodName := ⟨RX7, "syphon", "(I)I"⟩
abbrev cX7_behind : ByteArray := prog_1_method_10_code
def yX7_behind : MethodName := ⟨RX7, "behind", "(IIZ)I"⟩
abbrev cX7_seeps : ByteArray := prog_1_method_11_code
def yX7_seeps : MethodName := ⟨RX7, "seeps", "(IIZ)I"⟩
abbrev cX7_level : ByteArray := prog_1_method_12_code
def yX7_level : MethodName := ⟨RX7, "level", "(IIZ)I"⟩
abbrev cX7_takes : ByteArray := prog_1_method_13_code
def yX7_takes : MethodName := ⟨RX7, "takes", "(IIZ)I"⟩
abbrev cX7_row : ByteArray := prog_1_method_14_code
def yX7_row : MethodName := ⟨RX7, "row", "(IIIII)I"⟩
abbrev cX7_reading : ByteArray := prog_1_method_15_code
def yX7_reading : MethodName := ⟨RX7, "reading", "(IIZI)I"⟩
abbrev cX7_back : ByteArray := prog_1_method_16_code
def yX7_back : MethodName := ⟨RX7, "back", "(I)I"⟩
abbrev cX7_fits : ByteArray := prog_1_method_17_code
def yX7_fits : MethodName := ⟨RX7, "fits", "()I"⟩
abbrev cX7_sure : ByteArray := prog_1_method_18_code
def yX7_sure : MethodName := ⟨RX7, "sure", "(I)I"⟩
abbrev cX7_guilt : ByteArray := prog_1_method_19_code
def yX7_guilt : MethodName := ⟨RX7, "guilt", "(II)J"⟩
abbrev cX7_tells : ByteArray := prog_1_method_20_code
def yX7_tells : MethodName := ⟨RX7, "tells", "(IZI)I"⟩
abbrev cX7_settle : ByteArray := prog_1_method_21_code
def yX7_settle : MethodName := ⟨RX7, "settle", "(I)I"⟩
abbrev cX7_brings : ByteArray := prog_1_method_22_code
def yX7_brings : MethodName := ⟨RX7, "brings", "(III)I"⟩
abbrev cX7_best : ByteArray := prog_1_method_23_code
def yX7_best : MethodName := ⟨RX7, "best", "(I)I"⟩
abbrev cX7_gains : ByteArray := prog_1_method_24_code
def yX7_gains : MethodName := ⟨RX7, "gains", "(III)J"⟩
abbrev cX7_holds : ByteArray := prog_1_method_25_code
def yX7_holds : MethodName := ⟨RX7, "holds", "(IIIII)I"⟩
abbrev cX7_digs : ByteArray := prog_1_method_26_code
def yX7_digs : MethodName := ⟨RX7, "digs", "(IIIII)I"⟩
abbrev cX7_even : ByteArray := prog_1_method_27_code
def yX7_even : MethodName := ⟨RX7, "even", "(II)I"⟩
abbrev cX7_tempts : ByteArray := prog_1_method_28_code
def yX7_tempts : MethodName := ⟨RX7, "tempts", "(II)I"⟩
abbrev cX7_kept : ByteArray := prog_1_method_29_code
def yX7_kept : MethodName := ⟨RX7, "kept", "(III)I"⟩
abbrev cX7_sheet : ByteArray := prog_1_method_30_code
def yX7_sheet : MethodName := ⟨RX7, "sheet", "(III)I"⟩
abbrev cX7_lose : ByteArray := prog_1_method_31_code
def yX7_lose : MethodName := ⟨RX7, "lose", "(I)I"⟩
abbrev cX7_put : ByteArray := prog_1_method_32_code
def yX7_put : MethodName := ⟨RX7, "put", "(III)I"⟩
abbrev cX7_cell : ByteArray := prog_1_method_33_code
def yX7_cell : MethodName := ⟨RX7, "cell", "(III)J"⟩
abbrev cX7_copy : ByteArray := prog_1_method_34_code
def yX7_copy : MethodName := ⟨RX7, "copy", "(IIIII)I"⟩
abbrev cX7_tell : ByteArray := prog_1_method_35_code
def yX7_tell : MethodName := ⟨RX7, "tell", "(I)I"⟩
abbrev cX7_see : ByteArray := prog_1_method_36_code
def yX7_see : MethodName := ⟨RX7, "see", "(I)I"⟩
abbrev cX7_as : ByteArray := prog_1_method_37_code
def yX7_as : MethodName := ⟨RX7, "as", "(II)I"⟩
abbrev cX7_trace : ByteArray := prog_1_method_38_code
def yX7_trace : MethodName := ⟨RX7, "trace", "()I"⟩
abbrev cX7_fault : ByteArray := prog_1_method_39_code
def yX7_fault : MethodName := ⟨RX7, "fault", "()I"⟩
abbrev cX7_many : ByteArray := prog_1_method_40_code
def yX7_many : MethodName := ⟨RX7, "many", "(I)I"⟩
abbrev cX7_isIn : ByteArray := prog_1_method_41_code
def yX7_isIn : MethodName := ⟨RX7, "isIn", "(III)Z"⟩
abbrev cX7_isWater : ByteArray := prog_1_method_42_code
def yX7_isWater : MethodName := ⟨RX7, "isWater", "(I)Z"⟩
abbrev cX7_isSheet : ByteArray := prog_1_method_43_code
def yX7_isSheet : MethodName := ⟨RX7, "isSheet", "(I)Z"⟩
abbrev cX7_isSort : ByteArray := prog_1_method_44_code
def yX7_isSort : MethodName := ⟨RX7, "isSort", "(I)Z"⟩
abbrev cX7_isDigging : ByteArray := prog_1_method_45_code
def yX7_isDigging : MethodName := ⟨RX7, "isDigging", "(III)Z"⟩
abbrev cX7_isCanal : ByteArray := prog_1_method_46_code
def yX7_isCanal : MethodName := ⟨RX7, "isCanal", "()Z"⟩
abbrev cX7_isMile : ByteArray := prog_1_method_47_code
def yX7_isMile : MethodName := ⟨RX7, "isMile", "(I)Z"⟩
abbrev cX7_isOutlet : ByteArray := prog_1_method_48_code
def yX7_isOutlet : MethodName := ⟨RX7, "isOutlet", "(I)Z"⟩
abbrev cX7_allOutlets : ByteArray := prog_1_method_49_code
def yX7_allOutlets : MethodName := ⟨RX7, "allOutlets", "()I"⟩
abbrev cX7_refusalOfHour : ByteArray := prog_1_method_50_code
def yX7_refusalOfHour : MethodName := ⟨RX7, "refusalOfHour", "(ZIZ)I"⟩
abbrev cX7_refusalOfRow : ByteArray := prog_1_method_51_code
def yX7_refusalOfRow : MethodName := ⟨RX7, "refusalOfRow", "(IIII)I"⟩
abbrev cX7_faulty : ByteArray := prog_1_method_52_code
def yX7_faulty : MethodName := ⟨RX7, "faulty", "(I)I"⟩
abbrev cX7_settlePeople : ByteArray := prog_1_method_53_code
def yX7_settlePeople : MethodName := ⟨RX7, "settlePeople", "(LCanalEnd$Canal;I)I"⟩
abbrev cX7_endAfter : ByteArray := prog_1_method_54_code
def yX7_endAfter : MethodName := ⟨RX7, "endAfter", "(III)I"⟩
abbrev cX7_runDays : ByteArray := prog_1_method_55_code
def yX7_runDays : MethodName := ⟨RX7, "runDays", "(II)V"⟩
abbrev cX7_isHeld : ByteArray := prog_1_method_56_code
def yX7_isHeld : MethodName := ⟨RX7, "isHeld", "(III)Z"⟩
abbrev cX7_gotOf : ByteArray := prog_1_method_57_code
def yX7_gotOf : MethodName := ⟨RX7, "gotOf", "(IZ)I"⟩
abbrev cX7_temptation : ByteArray := prog_1_method_58_code
def yX7_temptation : MethodName := ⟨RX7, "temptation", "(II)I"⟩
abbrev cX7_oddsOf : ByteArray := prog_1_method_59_code
def yX7_oddsOf : MethodName := ⟨RX7, "oddsOf", "(II)I"⟩
abbrev cX7_leastOdds : ByteArray := prog_1_method_60_code
def yX7_leastOdds : MethodName := ⟨RX7, "leastOdds", "(I)I"⟩
abbrev cX7_commonDivisor : ByteArray := prog_1_method_61_code
def yX7_commonDivisor : MethodName := ⟨RX7, "commonDivisor", "(II)I"⟩
abbrev cX7_leaveTrace : ByteArray := prog_1_method_62_code
def yX7_leaveTrace : MethodName := ⟨RX7, "leaveTrace", "(I)V"⟩
abbrev cX7_rightTells : ByteArray := prog_1_method_63_code
def yX7_rightTells : MethodName := ⟨RX7, "rightTells", "(I)I"⟩
abbrev cX7_lowTells : ByteArray := prog_1_method_64_code
def yX7_lowTells : MethodName := ⟨RX7, "lowTells", "(I)I"⟩
abbrev cX7_nightlyTells : ByteArray := prog_1_method_65_code
def yX7_nightlyTells : MethodName := ⟨RX7, "nightlyTells", "(I)I"⟩
def RX8 : String := "CanalEndModel"
def TX8 : u_T := fun k => match k with
  | 0 => ("CanalEndModel", "fault", "I", false)
  | 1 => ("CanalEndModel", "trace", "I", false)
  | 2 => ("CanalEndModel", "sorts", "[I", true)
  | 3 => ("CanalEndModel", "sheetLong", "[I", true)
  | 4 => ("CanalEndModel", "cells", "[I", true)
  | 5 => ("CanalEndModel", "width", "I", false)
  | 6 => ("CanalEndModel", "miles", "I", false)
  | 7 => ("CanalEndModel", "outlets", "I", false)
  | 8 => ("CanalEndModel", "seep", "[I", true)
  | 9 => ("CanalEndModel", "silt", "[I", true)
  | 10 => ("CanalEndModel", "mileFirst", "[I", true)
  | 11 => ("CanalEndModel", "outMile", "[I", true)
  | 12 => ("CanalEndModel", "outSize", "[I", true)
  | 13 => ("CanalEndModel", "outHeight", "[I", true)
  | 14 => ("CanalEndModel", "outKind", "[I", true)
  | 15 => ("CanalEndModel", "outNeeds", "[I", true)
  | 16 => ("CanalEndModel", "outGuard", "[I", true)
  | 17 => ("CanalEndModel", "syphons", "I", false)
  | 18 => ("CanalEndModel", "at", "I", false)
  | 19 => ("CanalEndModel", "readWidth", "I", false)
  | 20 => ("CanalEndModel", "readMiles", "I", false)
  | 21 => ("CanalEndModel", "readOutlets", "I", false)
  | 22 => ("CanalEndModel", "readSeep", "[I", true)
  | 23 => ("CanalEndModel", "readSilt", "[I", true)
  | 24 => ("CanalEndModel", "readFirst", "[I", true)
  | 25 => ("CanalEndModel", "readSize", "[I", true)
  | 26 => ("CanalEndModel", "readHeight", "[I", true)
  | 27 => ("CanalEndModel", "readMile", "[I", true)
  | 28 => ("CanalEndModel", "kinds", "[I", true)
  | 29 => ("CanalEndModel", "seeped", "[I", true)
  | 30 => ("CanalEndModel", "levels", "[I", true)
  | 31 => ("CanalEndModel", "rest", "[I", true)
  | 32 => ("CanalEndModel", "took", "[I", true)
  | 33 => ("CanalEndModel", "readings", "I", false)
  | 34 => ("CanalEndModel", "gaugeMile", "[I", true)
  | 35 => ("CanalEndModel", "gaugeWater", "[I", true)
  | 36 => ("CanalEndModel", "gaugeNight", "[Z", true)
  | 37 => ("CanalEndModel", "gaugeShows", "[I", true)
  | 38 => ("CanalEndModel", "fitting", "[Z", true)
  | 39 => ("CanalEndModel", "fits", "I", false)
  | 40 => ("CanalEndModel", "often", "[I", true)
  | 41 => ("CanalEndModel", "counts", "[I", true)
  | 42 => ("CanalEndModel", "day", "[I", true)
  | 43 => ("CanalEndModel", "dayEnd", "I", false)
  | 44 => ("CanalEndModel", "keptKinds", "[I", true)
  | 45 => ("CanalEndModel", "keptGuards", "[I", true)
  | 46 => ("CanalEndModel", "dayNow", "[I", true)
  | 47 => ("CanalEndModel", "dayDug", "[I", true)
  | 48 => ("CanalEndModel", "keptHeights", "[I", true)
  | 49 => ("CanalEndModel", "bestHeights", "[I", true)
  | _ => ("CanalEndModel", "odds", "[I", true)
def tyX8 : Nat → FieldType := fun k => match k with
  | 0 => .int
  | 1 => .int
  | 2 => .array .int
  | 3 => .array .int
  | 4 => .array .int
  | 5 => .int
  | 6 => .int
  | 7 => .int
  | 8 => .array .int
  | 9 => .array .int
  | 10 => .array .int
  | 11 => .array .int
  | 12 => .array .int
  | 13 => .array .int
  | 14 => .array .int
  | 15 => .array .int
  | 16 => .array .int
  | 17 => .int
  | 18 => .int
  | 19 => .int
  | 20 => .int
  | 21 => .int
  | 22 => .array .int
  | 23 => .array .int
  | 24 => .array .int
  | 25 => .array .int
  | 26 => .array .int
  | 27 => .array .int
  | 28 => .array .int
  | 29 => .array .int
  | 30 => .array .int
  | 31 => .array .int
  | 32 => .array .int
  | 33 => .int
  | 34 => .array .int
  | 35 => .array .int
  | 36 => .array .boolean
  | 37 => .array .int
  | 38 => .array .boolean
  | 39 => .int
  | 40 => .array .int
  | 41 => .array .int
  | 42 => .array .int
  | 43 => .int
  | 44 => .array .int
  | 45 => .array .int
  | 46 => .array .int
  | 47 => .array .int
  | 48 => .array .int
  | 49 => .array .int
  | _ => .array .int
abbrev wsX80 : List Cond := u_ws RX8 TX8 51
theorem nmX8 : ∀ a, a < 51 → ∀ b, b < 51 → a ≠ b → (TX8 a).2.1 ≠ (TX8 b).2.1 := by decide +kernel
theorem tyX8_ok : ∀ k, k < 51 → parseFieldDescriptor (TX8 k).2.2.1 = some (tyX8 k) := by decide +kernel
abbrev cX8_init : ByteArray := prog_10_method_1_code
def yX8_init : MethodName := ⟨RX8, "<init>", "()V"⟩
abbrev cX8_fails : ByteArray := prog_10_method_3_code
def yX8_fails : MethodName := ⟨RX8, "fails", "(I)I"⟩
abbrev cX8_lost : ByteArray := prog_10_method_4_code
def yX8_lost : MethodName := ⟨RX8, "lost", "(I)J"⟩
abbrev cX8_within : ByteArray := prog_10_method_5_code
def yX8_within : MethodName := ⟨RX8, "within", "(III)Z"⟩
abbrev cX8_has : ByteArray := prog_10_method_6_code
def yX8_has : MethodName := ⟨RX8, "has", "(II)Z"⟩
abbrev cX8_bitsOf : ByteArray := prog_10_method_7_code
def yX8_bitsOf : MethodName := ⟨RX8, "bitsOf", "(I)I"⟩
abbrev cX8_isSheet : ByteArray := prog_10_method_8_code
def yX8_isSheet : MethodName := ⟨RX8, "isSheet", "(I)Z"⟩
abbrev cX8_isSort : ByteArray := prog_10_method_9_code
def yX8_isSort : MethodName := ⟨RX8, "isSort", "(I)Z"⟩
abbrev cX8_against : ByteArray := prog_10_method_10_code
def yX8_against : MethodName := ⟨RX8, "against", "(IIII)I"⟩
abbrev cX8_isMile : ByteArray := prog_10_method_11_code
def yX8_isMile : MethodName := ⟨RX8, "isMile", "(I)Z"⟩
abbrev cX8_isOutlet : ByteArray := prog_10_method_12_code
def yX8_isOutlet : MethodName := ⟨RX8, "isOutlet", "(I)Z"⟩
abbrev cX8_canal : ByteArray := prog_10_method_13_code
def yX8_canal : MethodName := ⟨RX8, "canal", "(IIII)I"⟩
abbrev cX8_digitAt : ByteArray := prog_10_method_14_code
def yX8_digitAt : MethodName := ⟨RX8, "digitAt", "(II)I"⟩
abbrev cX8_isCode : ByteArray := prog_10_method_15_code
def yX8_isCode : MethodName := ⟨RX8, "isCode", "(II)Z"⟩
abbrev cX8_readCanal : ByteArray := prog_10_method_16_code
def yX8_readCanal : MethodName := ⟨RX8, "readCanal", "(I)Z"⟩
abbrev cX8_readMile : ByteArray := prog_10_method_17_code
def yX8_readMile : MethodName := ⟨RX8, "readMile", "(I)Z"⟩
abbrev cX8_ofMile : ByteArray := prog_10_method_18_code
def yX8_ofMile : MethodName := ⟨RX8, "ofMile", "(II)I"⟩
abbrev cX8_turn : ByteArray := prog_10_method_19_code
def yX8_turn : MethodName := ⟨RX8, "turn", "(III)I"⟩
abbrev cX8_ofOutlet : ByteArray := prog_10_method_20_code
def yX8_ofOutlet : MethodName := ⟨RX8, "ofOutlet", "(II)I"⟩
abbrev cX8_kind : ByteArray := prog_10_method_21_code
def yX8_kind : MethodName := ⟨RX8, "kind", "(II)I"⟩
abbrev cX8_needs : ByteArray := prog_10_method_22_code
def yX8_needs : MethodName := ⟨RX8, "needs", "(II)I"⟩
abbrev cX8_guard : ByteArray := prog_10_method_23_code
def yX8_guard : MethodName := ⟨RX8, "guard", "(IZ)I"⟩
abbrev cX8_syphon : ByteArray := prog_10_method_24_code
def yX8_syphon : MethodName := ⟨RX8, "syphon", "(I)I"⟩
abbrev cX8_isWater : ByteArray := prog_10_method_25_code
def yX8_isWater : MethodName := ⟨RX8, "isWater", "(I)Z"⟩
abbrev cX8_layKinds : ByteArray := prog_10_method_26_code
def yX8_layKinds : MethodName := ⟨RX8, "layKinds", "()V"⟩
abbrev cX8_hour : ByteArray := prog_10_method_27_code
def yX8_hour : MethodName := ⟨RX8, "hour", "(IZ)V"⟩
abbrev cX8_behind : ByteArray := prog_10_method_28_code
def yX8_behind : MethodName := ⟨RX8, "behind", "(IIZ)I"⟩
abbrev cX8_seeps : ByteArray := prog_10_method_29_code
def yX8_seeps : MethodName := ⟨RX8, "seeps", "(IIZ)I"⟩
abbrev cX8_level : ByteArray := prog_10_method_30_code
def yX8_level : MethodName := ⟨RX8, "level", "(IIZ)I"⟩
abbrev cX8_takes : ByteArray := prog_10_method_31_code
def yX8_takes : MethodName := ⟨RX8, "takes", "(IIZ)I"⟩
abbrev cX8_row : ByteArray := prog_10_method_32_code
def yX8_row : MethodName := ⟨RX8, "row", "(IIIII)I"⟩
abbrev cX8_partOf : ByteArray := prog_10_method_33_code
def yX8_partOf : MethodName := ⟨RX8, "partOf", "(II)I"⟩
abbrev cX8_reading : ByteArray := prog_10_method_34_code
def yX8_reading : MethodName := ⟨RX8, "reading", "(IIZI)I"⟩
abbrev cX8_back : ByteArray := prog_10_method_35_code
def yX8_back : MethodName := ⟨RX8, "back", "(I)I"⟩
abbrev cX8_worlds : ByteArray := prog_10_method_36_code
def yX8_worlds : MethodName := ⟨RX8, "worlds", "()I"⟩
abbrev cX8_layWorld : ByteArray := prog_10_method_37_code
def yX8_layWorld : MethodName := ⟨RX8, "layWorld", "(I)V"⟩
abbrev cX8_isFit : ByteArray := prog_10_method_38_code
def yX8_isFit : MethodName := ⟨RX8, "isFit", "()Z"⟩
abbrev cX8_layFits : ByteArray := prog_10_method_39_code
def yX8_layFits : MethodName := ⟨RX8, "layFits", "()V"⟩
abbrev cX8_fits : ByteArray := prog_10_method_40_code
def yX8_fits : MethodName := ⟨RX8, "fits", "()I"⟩
abbrev cX8_sure : ByteArray := prog_10_method_41_code
def yX8_sure : MethodName := ⟨RX8, "sure", "(I)I"⟩
abbrev cX8_common : ByteArray := prog_10_method_42_code
def yX8_common : MethodName := ⟨RX8, "common", "(JJ)J"⟩
abbrev cX8_guilt : ByteArray := prog_10_method_43_code
def yX8_guilt : MethodName := ⟨RX8, "guilt", "(II)J"⟩
abbrev cX8_worst : ByteArray := prog_10_method_44_code
def yX8_worst : MethodName := ⟨RX8, "worst", "(IIZ)I"⟩
abbrev cX8_tells : ByteArray := prog_10_method_45_code
def yX8_tells : MethodName := ⟨RX8, "tells", "(IZI)I"⟩
abbrev cX8_layDay : ByteArray := prog_10_method_46_code
def yX8_layDay : MethodName := ⟨RX8, "layDay", "(I)V"⟩
abbrev cX8_settles : ByteArray := prog_10_method_47_code
def yX8_settles : MethodName := ⟨RX8, "settles", "(I)I"⟩
abbrev cX8_settle : ByteArray := prog_10_method_48_code
def yX8_settle : MethodName := ⟨RX8, "settle", "(I)I"⟩
abbrev cX8_broughtBy : ByteArray := prog_10_method_49_code
def yX8_broughtBy : MethodName := ⟨RX8, "broughtBy", "(III)I"⟩
abbrev cX8_brings : ByteArray := prog_10_method_50_code
def yX8_brings : MethodName := ⟨RX8, "brings", "(III)I"⟩
abbrev cX8_best : ByteArray := prog_10_method_51_code
def yX8_best : MethodName := ⟨RX8, "best", "(I)I"⟩
abbrev cX8_layDug : ByteArray := prog_10_method_52_code
def yX8_layDug : MethodName := ⟨RX8, "layDug", "(II)V"⟩
abbrev cX8_gains : ByteArray := prog_10_method_53_code
def yX8_gains : MethodName := ⟨RX8, "gains", "(III)J"⟩
abbrev cX8_dayBy : ByteArray := prog_10_method_54_code
def yX8_dayBy : MethodName := ⟨RX8, "dayBy", "(III)I"⟩
abbrev cX8_isHeld : ByteArray := prog_10_method_55_code
def yX8_isHeld : MethodName := ⟨RX8, "isHeld", "(III)Z"⟩
abbrev cX8_isDigging : ByteArray := prog_10_method_56_code
def yX8_isDigging : MethodName := ⟨RX8, "isDigging", "(III)Z"⟩
abbrev cX8_holds : ByteArray := prog_10_method_57_code
def yX8_holds : MethodName := ⟨RX8, "holds", "(IIIII)I"⟩
abbrev cX8_digs : ByteArray := prog_10_method_58_code
def yX8_digs : MethodName := ⟨RX8, "digs", "(IIIII)I"⟩
abbrev cX8_spread : ByteArray := prog_10_method_59_code
def yX8_spread : MethodName := ⟨RX8, "spread", "()I"⟩
abbrev cX8_even : ByteArray := prog_10_method_60_code
def yX8_even : MethodName := ⟨RX8, "even", "(II)I"⟩
abbrev cX8_tempted : ByteArray := prog_10_method_61_code
def yX8_tempted : MethodName := ⟨RX8, "tempted", "(II)I"⟩
abbrev cX8_tempts : ByteArray := prog_10_method_62_code
def yX8_tempts : MethodName := ⟨RX8, "tempts", "(II)I"⟩
abbrev cX8_kept : ByteArray := prog_10_method_63_code
def yX8_kept : MethodName := ⟨RX8, "kept", "(III)I"⟩
abbrev cX8_sheet : ByteArray := prog_10_method_64_code
def yX8_sheet : MethodName := ⟨RX8, "sheet", "(III)I"⟩
abbrev cX8_lose : ByteArray := prog_10_method_65_code
def yX8_lose : MethodName := ⟨RX8, "lose", "(I)I"⟩
abbrev cX8_put : ByteArray := prog_10_method_66_code
def yX8_put : MethodName := ⟨RX8, "put", "(III)I"⟩
abbrev cX8_cell : ByteArray := prog_10_method_67_code
def yX8_cell : MethodName := ⟨RX8, "cell", "(III)J"⟩
abbrev cX8_copy : ByteArray := prog_10_method_68_code
def yX8_copy : MethodName := ⟨RX8, "copy", "(IIIII)I"⟩
abbrev cX8_begins : ByteArray := prog_10_method_69_code
def yX8_begins : MethodName := ⟨RX8, "begins", "(I)V"⟩
abbrev cX8_tell : ByteArray := prog_10_method_70_code
def yX8_tell : MethodName := ⟨RX8, "tell", "(I)I"⟩
abbrev cX8_see : ByteArray := prog_10_method_71_code
def yX8_see : MethodName := ⟨RX8, "see", "(I)I"⟩
abbrev cX8_as : ByteArray := prog_10_method_72_code
def yX8_as : MethodName := ⟨RX8, "as", "(II)I"⟩
abbrev cX8_trace : ByteArray := prog_10_method_73_code
def yX8_trace : MethodName := ⟨RX8, "trace", "()I"⟩
abbrev cX8_fault : ByteArray := prog_10_method_74_code
def yX8_fault : MethodName := ⟨RX8, "fault", "()I"⟩
abbrev cX8_many : ByteArray := prog_10_method_75_code
def yX8_many : MethodName := ⟨RX8, "many", "(I)I"⟩
def RJ6 : String := "java/lang/Integer"
abbrev cJ6_bitCount_0f7a4 : ByteArray := prog_11_method_49_code
def yJ6_bitCount_0f7a4 : MethodName := ⟨RJ6, "bitCount", "(I)I"⟩
def RJ9 : String := "java/lang/Math"
abbrev cJ9_abs_0f7a4 : ByteArray := prog_12_method_59_code
def yJ9_abs_0f7a4 : MethodName := ⟨RJ9, "abs", "(I)I"⟩
abbrev cJ9_max_7cf53 : ByteArray := prog_12_method_65_code
def yJ9_max_7cf53 : MethodName := ⟨RJ9, "max", "(II)I"⟩
abbrev cJ9_min_7cf53 : ByteArray := prog_12_method_69_code
def yJ9_min_7cf53 : MethodName := ⟨RJ9, "min", "(II)I"⟩
def RJ10 : String := "java/lang/System"
def RL : String := "CanalEndLaw"
abbrev cL_law : ByteArray := code
def yL_law : MethodName := ⟨RL, "law", "([I)Z"⟩
abbrev vwCl : List vw_C := [(RX0, TX0, 14), (RX1, TX1, 3), (RX2, TX2, 2), (RX3, TX3, 7), (RX4, TX4, 4), (RX5, TX5, 4), (RX6, TX6, 15), (RX7, TX7, 12), (RX8, TX8, 51)]
/-- the kind of a region: 0 .. 8 an object, 10 ints, 11 booleans, 12 Sheets, 13 rows of ints -/
def am_knd (r : Nat) : Nat := bif Nat.blt r 79 then (bif Nat.blt r 39 then (bif Nat.blt r 22 then (bif Nat.blt r 11 then (bif Nat.blt r 2 then (bif Nat.blt r 1 then (7) else (0)) else (10)) else (bif Nat.blt r 13 then (bif Nat.blt r 12 then (11) else (0)) else (10))) else (bif Nat.blt r 30 then (bif Nat.blt r 25 then (bif Nat.blt r 23 then (11) else (bif Nat.blt r 24 then (5) else (3))) else (bif Nat.blt r 29 then (10) else (1))) else (bif Nat.blt r 36 then (bif Nat.blt r 32 then (bif Nat.blt r 31 then (10) else (3)) else (10)) else (bif Nat.blt r 37 then (1) else (bif Nat.blt r 38 then (10) else (3)))))) else (bif Nat.blt r 59 then (bif Nat.blt r 45 then (bif Nat.blt r 43 then (10) else (bif Nat.blt r 44 then (6) else (13))) else (bif Nat.blt r 55 then (10) else (bif Nat.blt r 56 then (11) else (bif Nat.blt r 58 then (10) else (13))))) else (bif Nat.blt r 69 then (bif Nat.blt r 68 then (10) else (13)) else (bif Nat.blt r 78 then (10) else (13))))) else (bif Nat.blt r 117 then (bif Nat.blt r 104 then (10) else (bif Nat.blt r 110 then (bif Nat.blt r 107 then (bif Nat.blt r 105 then (2) else (bif Nat.blt r 106 then (10) else (12))) else (bif Nat.blt r 108 then (10) else (bif Nat.blt r 109 then (4) else (10)))) else (bif Nat.blt r 113 then (bif Nat.blt r 111 then (4) else (bif Nat.blt r 112 then (10) else (4))) else (bif Nat.blt r 115 then (bif Nat.blt r 114 then (10) else (4)) else (bif Nat.blt r 116 then (10) else (8)))))) else (bif Nat.blt r 142 then (10) else (bif Nat.blt r 155 then (bif Nat.blt r 145 then (bif Nat.blt r 143 then (11) else (bif Nat.blt r 144 then (10) else (11))) else (10)) else (bif Nat.blt r 156 then (13) else (bif Nat.blt r 166 then (10) else (99))))))
def am_len (r : Nat) : Nat := bif Nat.blt r 79 then (bif Nat.blt r 39 then (bif Nat.blt r 17 then (bif Nat.blt r 6 then (bif Nat.blt r 2 then (bif Nat.blt r 1 then (12) else (14)) else (10)) else (bif Nat.blt r 12 then (8) else (bif Nat.blt r 13 then (14) else (10)))) else (bif Nat.blt r 28 then (bif Nat.blt r 23 then (8) else (bif Nat.blt r 25 then (bif Nat.blt r 24 then (4) else (7)) else (10))) else (bif Nat.blt r 32 then (bif Nat.blt r 30 then (bif Nat.blt r 29 then (8) else (3)) else (bif Nat.blt r 31 then (8) else (7))) else (bif Nat.blt r 35 then (10) else (bif Nat.blt r 37 then (bif Nat.blt r 36 then (8) else (3)) else (bif Nat.blt r 38 then (8) else (7))))))) else (bif Nat.blt r 59 then (bif Nat.blt r 45 then (bif Nat.blt r 42 then (10) else (bif Nat.blt r 43 then (8) else (bif Nat.blt r 44 then (15) else (8)))) else (bif Nat.blt r 53 then (3) else (bif Nat.blt r 54 then (10) else (bif Nat.blt r 58 then (11) else (9))))) else (bif Nat.blt r 69 then (bif Nat.blt r 68 then (11) else (9)) else (bif Nat.blt r 78 then (11) else (24))))) else (bif Nat.blt r 123 then (bif Nat.blt r 103 then (11) else (bif Nat.blt r 113 then (bif Nat.blt r 108 then (bif Nat.blt r 105 then (bif Nat.blt r 104 then (10) else (2)) else (bif Nat.blt r 107 then (4) else (8))) else (bif Nat.blt r 110 then (bif Nat.blt r 109 then (4) else (100)) else (bif Nat.blt r 111 then (4) else (bif Nat.blt r 112 then (100) else (4))))) else (bif Nat.blt r 117 then (bif Nat.blt r 115 then (bif Nat.blt r 114 then (100) else (4)) else (bif Nat.blt r 116 then (100) else (51))) else (bif Nat.blt r 120 then (bif Nat.blt r 119 then (4) else (400)) else (bif Nat.blt r 122 then (10) else (11)))))) else (bif Nat.blt r 145 then (bif Nat.blt r 132 then (bif Nat.blt r 129 then (8) else (bif Nat.blt r 131 then (10) else (11))) else (bif Nat.blt r 139 then (bif Nat.blt r 136 then (8) else (10)) else (bif Nat.blt r 140 then (8) else (bif Nat.blt r 144 then (10) else (6561))))) else (bif Nat.blt r 156 then (bif Nat.blt r 147 then (bif Nat.blt r 146 then (24) else (10000)) else (bif Nat.blt r 155 then (8) else (10))) else (bif Nat.blt r 166 then (10000) else (0)))))
/-- whether a field is a reference -/
def am_isr (ci r : Nat) : Bool := match ci with
  | 0 => bif Nat.blt r 4 then (false) else (bif Nat.blt r 14 then (true) else (false))
  | 1 => bif Nat.blt r 2 then (bif Nat.blt r 1 then (true) else (false)) else (bif Nat.blt r 3 then (true) else (false))
  | 2 => bif Nat.blt r 1 then (false) else (bif Nat.blt r 2 then (true) else (false))
  | 3 => bif Nat.blt r 4 then (true) else (false)
  | 4 => bif Nat.blt r 2 then (false) else (bif Nat.blt r 3 then (true) else (false))
  | 5 => bif Nat.blt r 1 then (true) else (false)
  | 6 => bif Nat.blt r 6 then (bif Nat.blt r 3 then (false) else (bif Nat.blt r 5 then (true) else (false))) else (bif Nat.blt r 15 then (true) else (false))
  | 7 => bif Nat.blt r 10 then (true) else (false)
  | 8 => bif Nat.blt r 22 then (bif Nat.blt r 8 then (bif Nat.blt r 5 then (bif Nat.blt r 2 then (false) else (true)) else (false)) else (bif Nat.blt r 17 then (true) else (false))) else (bif Nat.blt r 39 then (bif Nat.blt r 33 then (true) else (bif Nat.blt r 34 then (false) else (true))) else (bif Nat.blt r 44 then (bif Nat.blt r 40 then (false) else (bif Nat.blt r 43 then (true) else (false))) else (bif Nat.blt r 51 then (true) else (false))))
  | _ => false
def am_T (ci : Nat) : u_T := match ci with
  | 0 => TX0
  | 1 => TX1
  | 2 => TX2
  | 3 => TX3
  | 4 => TX4
  | 5 => TX5
  | 6 => TX6
  | 7 => TX7
  | _ => TX8
def am_R (ci : Nat) : String := match ci with
  | 0 => RX0
  | 1 => RX1
  | 2 => RX2
  | 3 => RX3
  | 4 => RX4
  | 5 => RX5
  | 6 => RX6
  | 7 => RX7
  | _ => RX8
def am_N (ci : Nat) : Nat := match ci with
  | 0 => 14
  | 1 => 3
  | 2 => 2
  | 3 => 7
  | 4 => 4
  | 5 => 4
  | 6 => 15
  | 7 => 12
  | _ => 51
def am_ty (ci : Nat) : Nat → FieldType := match ci with
  | 0 => tyX0
  | 1 => tyX1
  | 2 => tyX2
  | 3 => tyX3
  | 4 => tyX4
  | 5 => tyX5
  | 6 => tyX6
  | 7 => tyX7
  | _ => tyX8
def am_y (x : Nat) : MethodName := bif Nat.blt x 746 then (bif Nat.blt x 613 then (bif Nat.blt x 405 then (bif Nat.blt x 200 then (bif Nat.blt x 6 then (bif Nat.blt x 3 then (bif Nat.blt x 1 then (yX0_init) else (bif Nat.blt x 2 then (yX0_begin) else (yX0_addMile))) else (bif Nat.blt x 4 then (yX0_addOutlet) else (bif Nat.blt x 5 then (yX0_become) else (yX0_seepOf)))) else (bif Nat.blt x 9 then (bif Nat.blt x 7 then (yX0_levelOf) else (bif Nat.blt x 8 then (yX0_takenFrom) else (yX0_notRight))) else (bif Nat.blt x 100 then (yX0_underGuard) else (bif Nat.blt x 101 then (yX1_init) else (yX1_run))))) else (bif Nat.blt x 302 then (bif Nat.blt x 203 then (bif Nat.blt x 201 then (yX2_init) else (bif Nat.blt x 202 then (yX2_search) else (yX2_tryFrom))) else (bif Nat.blt x 300 then (yX2_keep) else (bif Nat.blt x 301 then (yX3_init) else (yX3_run)))) else (bif Nat.blt x 402 then (bif Nat.blt x 400 then (yX3_sumOf) else (bif Nat.blt x 401 then (yX4_init) else (yX4_begin))) else (bif Nat.blt x 403 then (yX4_faultAs) else (bif Nat.blt x 404 then (yX4_isCell) else (yX4_areCells)))))) else (bif Nat.blt x 601 then (bif Nat.blt x 504 then (bif Nat.blt x 501 then (bif Nat.blt x 406 then (yX4_isAllWater) else (bif Nat.blt x 500 then (yX4_cut) else (yX5_init))) else (bif Nat.blt x 502 then (yX5_firstFault) else (bif Nat.blt x 503 then (yX5_readsWidth) else (yX5_readsMile)))) else (bif Nat.blt x 507 then (bif Nat.blt x 505 then (yX5_readsOutlet) else (bif Nat.blt x 506 then (yX5_code) else (yX5_isDigit))) else (bif Nat.blt x 508 then (yX5_digit) else (bif Nat.blt x 600 then (yX5_skips) else (yX6_init))))) else (bif Nat.blt x 607 then (bif Nat.blt x 604 then (bif Nat.blt x 602 then (yX6_forgetReadings) else (bif Nat.blt x 603 then (yX6_addReading) else (yX6_takeBack))) else (bif Nat.blt x 605 then (yX6_countOnce) else (bif Nat.blt x 606 then (yX6_countWithGauges) else (yX6_clearLeaves)))) else (bif Nat.blt x 610 then (bif Nat.blt x 608 then (yX6_count) else (bif Nat.blt x 609 then (yX6_fittingFrom) else (yX6_fittingByKind))) else (bif Nat.blt x 611 then (yX6_flowsOn) else (bif Nat.blt x 612 then (yX6_flowOf) else (yX6_takeByKind))))))) else (bif Nat.blt x 721 then (bif Nat.blt x 709 then (bif Nat.blt x 703 then (bif Nat.blt x 700 then (bif Nat.blt x 614 then (yX6_alikeFrom) else (bif Nat.blt x 615 then (yX6_isSame) else (yX6_noteGauges))) else (bif Nat.blt x 701 then (yX7_init) else (bif Nat.blt x 702 then (yX7_canal) else (yX7_ofMile)))) else (bif Nat.blt x 706 then (bif Nat.blt x 704 then (yX7_turn) else (bif Nat.blt x 705 then (yX7_ofOutlet) else (yX7_kind))) else (bif Nat.blt x 707 then (yX7_needs) else (bif Nat.blt x 708 then (yX7_guard) else (yX7_syphon))))) else (bif Nat.blt x 715 then (bif Nat.blt x 712 then (bif Nat.blt x 710 then (yX7_behind) else (bif Nat.blt x 711 then (yX7_seeps) else (yX7_level))) else (bif Nat.blt x 713 then (yX7_takes) else (bif Nat.blt x 714 then (yX7_row) else (yX7_reading)))) else (bif Nat.blt x 718 then (bif Nat.blt x 716 then (yX7_back) else (bif Nat.blt x 717 then (yX7_fits) else (yX7_sure))) else (bif Nat.blt x 719 then (yX7_guilt) else (bif Nat.blt x 720 then (yX7_tells) else (yX7_settle)))))) else (bif Nat.blt x 733 then (bif Nat.blt x 727 then (bif Nat.blt x 724 then (bif Nat.blt x 722 then (yX7_brings) else (bif Nat.blt x 723 then (yX7_best) else (yX7_gains))) else (bif Nat.blt x 725 then (yX7_holds) else (bif Nat.blt x 726 then (yX7_digs) else (yX7_even)))) else (bif Nat.blt x 730 then (bif Nat.blt x 728 then (yX7_tempts) else (bif Nat.blt x 729 then (yX7_kept) else (yX7_sheet))) else (bif Nat.blt x 731 then (yX7_lose) else (bif Nat.blt x 732 then (yX7_put) else (yX7_cell))))) else (bif Nat.blt x 739 then (bif Nat.blt x 736 then (bif Nat.blt x 734 then (yX7_copy) else (bif Nat.blt x 735 then (yX7_tell) else (yX7_see))) else (bif Nat.blt x 737 then (yX7_as) else (bif Nat.blt x 738 then (yX7_trace) else (yX7_fault)))) else (bif Nat.blt x 742 then (bif Nat.blt x 740 then (yX7_many) else (bif Nat.blt x 741 then (yX7_isIn) else (yX7_isWater))) else (bif Nat.blt x 744 then (bif Nat.blt x 743 then (yX7_isSheet) else (yX7_isSort)) else (bif Nat.blt x 745 then (yX7_isDigging) else (yX7_isCanal)))))))) else (bif Nat.blt x 829 then (bif Nat.blt x 805 then (bif Nat.blt x 758 then (bif Nat.blt x 752 then (bif Nat.blt x 749 then (bif Nat.blt x 747 then (yX7_isMile) else (bif Nat.blt x 748 then (yX7_isOutlet) else (yX7_allOutlets))) else (bif Nat.blt x 750 then (yX7_refusalOfHour) else (bif Nat.blt x 751 then (yX7_refusalOfRow) else (yX7_faulty)))) else (bif Nat.blt x 755 then (bif Nat.blt x 753 then (yX7_settlePeople) else (bif Nat.blt x 754 then (yX7_endAfter) else (yX7_runDays))) else (bif Nat.blt x 756 then (yX7_isHeld) else (bif Nat.blt x 757 then (yX7_gotOf) else (yX7_temptation))))) else (bif Nat.blt x 764 then (bif Nat.blt x 761 then (bif Nat.blt x 759 then (yX7_oddsOf) else (bif Nat.blt x 760 then (yX7_leastOdds) else (yX7_commonDivisor))) else (bif Nat.blt x 762 then (yX7_leaveTrace) else (bif Nat.blt x 763 then (yX7_rightTells) else (yX7_lowTells)))) else (bif Nat.blt x 802 then (bif Nat.blt x 800 then (yX7_nightlyTells) else (bif Nat.blt x 801 then (yX8_init) else (yX8_fails))) else (bif Nat.blt x 803 then (yX8_lost) else (bif Nat.blt x 804 then (yX8_within) else (yX8_has)))))) else (bif Nat.blt x 817 then (bif Nat.blt x 811 then (bif Nat.blt x 808 then (bif Nat.blt x 806 then (yX8_bitsOf) else (bif Nat.blt x 807 then (yX8_isSheet) else (yX8_isSort))) else (bif Nat.blt x 809 then (yX8_against) else (bif Nat.blt x 810 then (yX8_isMile) else (yX8_isOutlet)))) else (bif Nat.blt x 814 then (bif Nat.blt x 812 then (yX8_canal) else (bif Nat.blt x 813 then (yX8_digitAt) else (yX8_isCode))) else (bif Nat.blt x 815 then (yX8_readCanal) else (bif Nat.blt x 816 then (yX8_readMile) else (yX8_ofMile))))) else (bif Nat.blt x 823 then (bif Nat.blt x 820 then (bif Nat.blt x 818 then (yX8_turn) else (bif Nat.blt x 819 then (yX8_ofOutlet) else (yX8_kind))) else (bif Nat.blt x 821 then (yX8_needs) else (bif Nat.blt x 822 then (yX8_guard) else (yX8_syphon)))) else (bif Nat.blt x 826 then (bif Nat.blt x 824 then (yX8_isWater) else (bif Nat.blt x 825 then (yX8_layKinds) else (yX8_hour))) else (bif Nat.blt x 827 then (yX8_behind) else (bif Nat.blt x 828 then (yX8_seeps) else (yX8_level))))))) else (bif Nat.blt x 853 then (bif Nat.blt x 841 then (bif Nat.blt x 835 then (bif Nat.blt x 832 then (bif Nat.blt x 830 then (yX8_takes) else (bif Nat.blt x 831 then (yX8_row) else (yX8_partOf))) else (bif Nat.blt x 833 then (yX8_reading) else (bif Nat.blt x 834 then (yX8_back) else (yX8_worlds)))) else (bif Nat.blt x 838 then (bif Nat.blt x 836 then (yX8_layWorld) else (bif Nat.blt x 837 then (yX8_isFit) else (yX8_layFits))) else (bif Nat.blt x 839 then (yX8_fits) else (bif Nat.blt x 840 then (yX8_sure) else (yX8_common))))) else (bif Nat.blt x 847 then (bif Nat.blt x 844 then (bif Nat.blt x 842 then (yX8_guilt) else (bif Nat.blt x 843 then (yX8_worst) else (yX8_tells))) else (bif Nat.blt x 845 then (yX8_layDay) else (bif Nat.blt x 846 then (yX8_settles) else (yX8_settle)))) else (bif Nat.blt x 850 then (bif Nat.blt x 848 then (yX8_broughtBy) else (bif Nat.blt x 849 then (yX8_brings) else (yX8_best))) else (bif Nat.blt x 851 then (yX8_layDug) else (bif Nat.blt x 852 then (yX8_gains) else (yX8_dayBy)))))) else (bif Nat.blt x 865 then (bif Nat.blt x 859 then (bif Nat.blt x 856 then (bif Nat.blt x 854 then (yX8_isHeld) else (bif Nat.blt x 855 then (yX8_isDigging) else (yX8_holds))) else (bif Nat.blt x 857 then (yX8_digs) else (bif Nat.blt x 858 then (yX8_spread) else (yX8_even)))) else (bif Nat.blt x 862 then (bif Nat.blt x 860 then (yX8_tempted) else (bif Nat.blt x 861 then (yX8_tempts) else (yX8_kept))) else (bif Nat.blt x 863 then (yX8_sheet) else (bif Nat.blt x 864 then (yX8_lose) else (yX8_put))))) else (bif Nat.blt x 871 then (bif Nat.blt x 868 then (bif Nat.blt x 866 then (yX8_cell) else (bif Nat.blt x 867 then (yX8_copy) else (yX8_begins))) else (bif Nat.blt x 869 then (yX8_tell) else (bif Nat.blt x 870 then (yX8_see) else (yX8_as)))) else (bif Nat.blt x 900 then (bif Nat.blt x 872 then (yX8_trace) else (bif Nat.blt x 873 then (yX8_fault) else (yX8_many))) else (bif Nat.blt x 911 then (bif Nat.blt x 910 then (yJ6_bitCount_0f7a4) else (yJ9_abs_0f7a4)) else (bif Nat.blt x 912 then (yJ9_max_7cf53) else (yJ9_min_7cf53))))))))
def am_b (x : Nat) : ByteArray := bif Nat.blt x 746 then (bif Nat.blt x 613 then (bif Nat.blt x 405 then (bif Nat.blt x 200 then (bif Nat.blt x 6 then (bif Nat.blt x 3 then (bif Nat.blt x 1 then (cX0_init) else (bif Nat.blt x 2 then (cX0_begin) else (cX0_addMile))) else (bif Nat.blt x 4 then (cX0_addOutlet) else (bif Nat.blt x 5 then (cX0_become) else (cX0_seepOf)))) else (bif Nat.blt x 9 then (bif Nat.blt x 7 then (cX0_levelOf) else (bif Nat.blt x 8 then (cX0_takenFrom) else (cX0_notRight))) else (bif Nat.blt x 100 then (cX0_underGuard) else (bif Nat.blt x 101 then (cX1_init) else (cX1_run))))) else (bif Nat.blt x 302 then (bif Nat.blt x 203 then (bif Nat.blt x 201 then (cX2_init) else (bif Nat.blt x 202 then (cX2_search) else (cX2_tryFrom))) else (bif Nat.blt x 300 then (cX2_keep) else (bif Nat.blt x 301 then (cX3_init) else (cX3_run)))) else (bif Nat.blt x 402 then (bif Nat.blt x 400 then (cX3_sumOf) else (bif Nat.blt x 401 then (cX4_init) else (cX4_begin))) else (bif Nat.blt x 403 then (cX4_faultAs) else (bif Nat.blt x 404 then (cX4_isCell) else (cX4_areCells)))))) else (bif Nat.blt x 601 then (bif Nat.blt x 504 then (bif Nat.blt x 501 then (bif Nat.blt x 406 then (cX4_isAllWater) else (bif Nat.blt x 500 then (cX4_cut) else (cX5_init))) else (bif Nat.blt x 502 then (cX5_firstFault) else (bif Nat.blt x 503 then (cX5_readsWidth) else (cX5_readsMile)))) else (bif Nat.blt x 507 then (bif Nat.blt x 505 then (cX5_readsOutlet) else (bif Nat.blt x 506 then (cX5_code) else (cX5_isDigit))) else (bif Nat.blt x 508 then (cX5_digit) else (bif Nat.blt x 600 then (cX5_skips) else (cX6_init))))) else (bif Nat.blt x 607 then (bif Nat.blt x 604 then (bif Nat.blt x 602 then (cX6_forgetReadings) else (bif Nat.blt x 603 then (cX6_addReading) else (cX6_takeBack))) else (bif Nat.blt x 605 then (cX6_countOnce) else (bif Nat.blt x 606 then (cX6_countWithGauges) else (cX6_clearLeaves)))) else (bif Nat.blt x 610 then (bif Nat.blt x 608 then (cX6_count) else (bif Nat.blt x 609 then (cX6_fittingFrom) else (cX6_fittingByKind))) else (bif Nat.blt x 611 then (cX6_flowsOn) else (bif Nat.blt x 612 then (cX6_flowOf) else (cX6_takeByKind))))))) else (bif Nat.blt x 721 then (bif Nat.blt x 709 then (bif Nat.blt x 703 then (bif Nat.blt x 700 then (bif Nat.blt x 614 then (cX6_alikeFrom) else (bif Nat.blt x 615 then (cX6_isSame) else (cX6_noteGauges))) else (bif Nat.blt x 701 then (cX7_init) else (bif Nat.blt x 702 then (cX7_canal) else (cX7_ofMile)))) else (bif Nat.blt x 706 then (bif Nat.blt x 704 then (cX7_turn) else (bif Nat.blt x 705 then (cX7_ofOutlet) else (cX7_kind))) else (bif Nat.blt x 707 then (cX7_needs) else (bif Nat.blt x 708 then (cX7_guard) else (cX7_syphon))))) else (bif Nat.blt x 715 then (bif Nat.blt x 712 then (bif Nat.blt x 710 then (cX7_behind) else (bif Nat.blt x 711 then (cX7_seeps) else (cX7_level))) else (bif Nat.blt x 713 then (cX7_takes) else (bif Nat.blt x 714 then (cX7_row) else (cX7_reading)))) else (bif Nat.blt x 718 then (bif Nat.blt x 716 then (cX7_back) else (bif Nat.blt x 717 then (cX7_fits) else (cX7_sure))) else (bif Nat.blt x 719 then (cX7_guilt) else (bif Nat.blt x 720 then (cX7_tells) else (cX7_settle)))))) else (bif Nat.blt x 733 then (bif Nat.blt x 727 then (bif Nat.blt x 724 then (bif Nat.blt x 722 then (cX7_brings) else (bif Nat.blt x 723 then (cX7_best) else (cX7_gains))) else (bif Nat.blt x 725 then (cX7_holds) else (bif Nat.blt x 726 then (cX7_digs) else (cX7_even)))) else (bif Nat.blt x 730 then (bif Nat.blt x 728 then (cX7_tempts) else (bif Nat.blt x 729 then (cX7_kept) else (cX7_sheet))) else (bif Nat.blt x 731 then (cX7_lose) else (bif Nat.blt x 732 then (cX7_put) else (cX7_cell))))) else (bif Nat.blt x 739 then (bif Nat.blt x 736 then (bif Nat.blt x 734 then (cX7_copy) else (bif Nat.blt x 735 then (cX7_tell) else (cX7_see))) else (bif Nat.blt x 737 then (cX7_as) else (bif Nat.blt x 738 then (cX7_trace) else (cX7_fault)))) else (bif Nat.blt x 742 then (bif Nat.blt x 740 then (cX7_many) else (bif Nat.blt x 741 then (cX7_isIn) else (cX7_isWater))) else (bif Nat.blt x 744 then (bif Nat.blt x 743 then (cX7_isSheet) else (cX7_isSort)) else (bif Nat.blt x 745 then (cX7_isDigging) else (cX7_isCanal)))))))) else (bif Nat.blt x 829 then (bif Nat.blt x 805 then (bif Nat.blt x 758 then (bif Nat.blt x 752 then (bif Nat.blt x 749 then (bif Nat.blt x 747 then (cX7_isMile) else (bif Nat.blt x 748 then (cX7_isOutlet) else (cX7_allOutlets))) else (bif Nat.blt x 750 then (cX7_refusalOfHour) else (bif Nat.blt x 751 then (cX7_refusalOfRow) else (cX7_faulty)))) else (bif Nat.blt x 755 then (bif Nat.blt x 753 then (cX7_settlePeople) else (bif Nat.blt x 754 then (cX7_endAfter) else (cX7_runDays))) else (bif Nat.blt x 756 then (cX7_isHeld) else (bif Nat.blt x 757 then (cX7_gotOf) else (cX7_temptation))))) else (bif Nat.blt x 764 then (bif Nat.blt x 761 then (bif Nat.blt x 759 then (cX7_oddsOf) else (bif Nat.blt x 760 then (cX7_leastOdds) else (cX7_commonDivisor))) else (bif Nat.blt x 762 then (cX7_leaveTrace) else (bif Nat.blt x 763 then (cX7_rightTells) else (cX7_lowTells)))) else (bif Nat.blt x 802 then (bif Nat.blt x 800 then (cX7_nightlyTells) else (bif Nat.blt x 801 then (cX8_init) else (cX8_fails))) else (bif Nat.blt x 803 then (cX8_lost) else (bif Nat.blt x 804 then (cX8_within) else (cX8_has)))))) else (bif Nat.blt x 817 then (bif Nat.blt x 811 then (bif Nat.blt x 808 then (bif Nat.blt x 806 then (cX8_bitsOf) else (bif Nat.blt x 807 then (cX8_isSheet) else (cX8_isSort))) else (bif Nat.blt x 809 then (cX8_against) else (bif Nat.blt x 810 then (cX8_isMile) else (cX8_isOutlet)))) else (bif Nat.blt x 814 then (bif Nat.blt x 812 then (cX8_canal) else (bif Nat.blt x 813 then (cX8_digitAt) else (cX8_isCode))) else (bif Nat.blt x 815 then (cX8_readCanal) else (bif Nat.blt x 816 then (cX8_readMile) else (cX8_ofMile))))) else (bif Nat.blt x 823 then (bif Nat.blt x 820 then (bif Nat.blt x 818 then (cX8_turn) else (bif Nat.blt x 819 then (cX8_ofOutlet) else (cX8_kind))) else (bif Nat.blt x 821 then (cX8_needs) else (bif Nat.blt x 822 then (cX8_guard) else (cX8_syphon)))) else (bif Nat.blt x 826 then (bif Nat.blt x 824 then (cX8_isWater) else (bif Nat.blt x 825 then (cX8_layKinds) else (cX8_hour))) else (bif Nat.blt x 827 then (cX8_behind) else (bif Nat.blt x 828 then (cX8_seeps) else (cX8_level))))))) else (bif Nat.blt x 853 then (bif Nat.blt x 841 then (bif Nat.blt x 835 then (bif Nat.blt x 832 then (bif Nat.blt x 830 then (cX8_takes) else (bif Nat.blt x 831 then (cX8_row) else (cX8_partOf))) else (bif Nat.blt x 833 then (cX8_reading) else (bif Nat.blt x 834 then (cX8_back) else (cX8_worlds)))) else (bif Nat.blt x 838 then (bif Nat.blt x 836 then (cX8_layWorld) else (bif Nat.blt x 837 then (cX8_isFit) else (cX8_layFits))) else (bif Nat.blt x 839 then (cX8_fits) else (bif Nat.blt x 840 then (cX8_sure) else (cX8_common))))) else (bif Nat.blt x 847 then (bif Nat.blt x 844 then (bif Nat.blt x 842 then (cX8_guilt) else (bif Nat.blt x 843 then (cX8_worst) else (cX8_tells))) else (bif Nat.blt x 845 then (cX8_layDay) else (bif Nat.blt x 846 then (cX8_settles) else (cX8_settle)))) else (bif Nat.blt x 850 then (bif Nat.blt x 848 then (cX8_broughtBy) else (bif Nat.blt x 849 then (cX8_brings) else (cX8_best))) else (bif Nat.blt x 851 then (cX8_layDug) else (bif Nat.blt x 852 then (cX8_gains) else (cX8_dayBy)))))) else (bif Nat.blt x 865 then (bif Nat.blt x 859 then (bif Nat.blt x 856 then (bif Nat.blt x 854 then (cX8_isHeld) else (bif Nat.blt x 855 then (cX8_isDigging) else (cX8_holds))) else (bif Nat.blt x 857 then (cX8_digs) else (bif Nat.blt x 858 then (cX8_spread) else (cX8_even)))) else (bif Nat.blt x 862 then (bif Nat.blt x 860 then (cX8_tempted) else (bif Nat.blt x 861 then (cX8_tempts) else (cX8_kept))) else (bif Nat.blt x 863 then (cX8_sheet) else (bif Nat.blt x 864 then (cX8_lose) else (cX8_put))))) else (bif Nat.blt x 871 then (bif Nat.blt x 868 then (bif Nat.blt x 866 then (cX8_cell) else (bif Nat.blt x 867 then (cX8_copy) else (cX8_begins))) else (bif Nat.blt x 869 then (cX8_tell) else (bif Nat.blt x 870 then (cX8_see) else (cX8_as)))) else (bif Nat.blt x 900 then (bif Nat.blt x 872 then (cX8_trace) else (bif Nat.blt x 873 then (cX8_fault) else (cX8_many))) else (bif Nat.blt x 911 then (bif Nat.blt x 910 then (cJ6_bitCount_0f7a4) else (cJ9_abs_0f7a4)) else (bif Nat.blt x 912 then (cJ9_max_7cf53) else (cJ9_min_7cf53))))))))
def am_mL (x : Nat) : Nat := bif Nat.blt x 746 then (bif Nat.blt x 613 then (bif Nat.blt x 405 then (bif Nat.blt x 200 then (bif Nat.blt x 6 then (bif Nat.blt x 3 then (bif Nat.blt x 1 then (1) else (bif Nat.blt x 2 then (2) else (3))) else (bif Nat.blt x 4 then (3) else (bif Nat.blt x 5 then (2) else (3)))) else (bif Nat.blt x 9 then (bif Nat.blt x 7 then (3) else (bif Nat.blt x 8 then (8) else (3))) else (bif Nat.blt x 100 then (3) else (bif Nat.blt x 101 then (1) else (4))))) else (bif Nat.blt x 302 then (bif Nat.blt x 203 then (bif Nat.blt x 201 then (1) else (bif Nat.blt x 202 then (3) else (16))) else (bif Nat.blt x 300 then (3) else (bif Nat.blt x 301 then (1) else (7)))) else (bif Nat.blt x 402 then (bif Nat.blt x 400 then (2) else (bif Nat.blt x 401 then (1) else (4))) else (bif Nat.blt x 403 then (2) else (bif Nat.blt x 404 then (2) else (3)))))) else (bif Nat.blt x 601 then (bif Nat.blt x 504 then (bif Nat.blt x 501 then (bif Nat.blt x 406 then (4) else (bif Nat.blt x 500 then (2) else (1))) else (bif Nat.blt x 502 then (7) else (bif Nat.blt x 503 then (5) else (4)))) else (bif Nat.blt x 507 then (bif Nat.blt x 505 then (3) else (bif Nat.blt x 506 then (3) else (2))) else (bif Nat.blt x 508 then (2) else (bif Nat.blt x 600 then (2) else (1))))) else (bif Nat.blt x 607 then (bif Nat.blt x 604 then (bif Nat.blt x 602 then (1) else (bif Nat.blt x 603 then (5) else (2))) else (bif Nat.blt x 605 then (2) else (bif Nat.blt x 606 then (4) else (5)))) else (bif Nat.blt x 610 then (bif Nat.blt x 608 then (4) else (bif Nat.blt x 609 then (8) else (10))) else (bif Nat.blt x 611 then (8) else (bif Nat.blt x 612 then (8) else (8))))))) else (bif Nat.blt x 721 then (bif Nat.blt x 709 then (bif Nat.blt x 703 then (bif Nat.blt x 700 then (bif Nat.blt x 614 then (6) else (bif Nat.blt x 615 then (4) else (6))) else (bif Nat.blt x 701 then (2) else (bif Nat.blt x 702 then (7) else (3)))) else (bif Nat.blt x 706 then (bif Nat.blt x 704 then (6) else (bif Nat.blt x 705 then (3) else (4))) else (bif Nat.blt x 707 then (4) else (bif Nat.blt x 708 then (3) else (3))))) else (bif Nat.blt x 715 then (bif Nat.blt x 712 then (bif Nat.blt x 710 then (5) else (bif Nat.blt x 711 then (5) else (5))) else (bif Nat.blt x 713 then (5) else (bif Nat.blt x 714 then (11) else (5)))) else (bif Nat.blt x 718 then (bif Nat.blt x 716 then (2) else (bif Nat.blt x 717 then (1) else (3))) else (bif Nat.blt x 719 then (6) else (bif Nat.blt x 720 then (6) else (2)))))) else (bif Nat.blt x 733 then (bif Nat.blt x 727 then (bif Nat.blt x 724 then (bif Nat.blt x 722 then (4) else (bif Nat.blt x 723 then (8) else (4))) else (bif Nat.blt x 725 then (6) else (bif Nat.blt x 726 then (9) else (3)))) else (bif Nat.blt x 730 then (bif Nat.blt x 728 then (3) else (bif Nat.blt x 729 then (8) else (4))) else (bif Nat.blt x 731 then (2) else (bif Nat.blt x 732 then (5) else (6))))) else (bif Nat.blt x 739 then (bif Nat.blt x 736 then (bif Nat.blt x 734 then (8) else (bif Nat.blt x 735 then (2) else (2))) else (bif Nat.blt x 737 then (3) else (bif Nat.blt x 738 then (1) else (1)))) else (bif Nat.blt x 742 then (bif Nat.blt x 740 then (2) else (bif Nat.blt x 741 then (3) else (1))) else (bif Nat.blt x 744 then (bif Nat.blt x 743 then (1) else (1)) else (bif Nat.blt x 745 then (3) else (1)))))))) else (bif Nat.blt x 829 then (bif Nat.blt x 805 then (bif Nat.blt x 758 then (bif Nat.blt x 752 then (bif Nat.blt x 749 then (bif Nat.blt x 747 then (2) else (bif Nat.blt x 748 then (2) else (1))) else (bif Nat.blt x 750 then (4) else (bif Nat.blt x 751 then (7) else (2)))) else (bif Nat.blt x 755 then (bif Nat.blt x 753 then (7) else (bif Nat.blt x 754 then (4) else (3))) else (bif Nat.blt x 756 then (10) else (bif Nat.blt x 757 then (3) else (4))))) else (bif Nat.blt x 764 then (bif Nat.blt x 761 then (bif Nat.blt x 759 then (4) else (bif Nat.blt x 760 then (5) else (4))) else (bif Nat.blt x 762 then (2) else (bif Nat.blt x 763 then (2) else (2)))) else (bif Nat.blt x 802 then (bif Nat.blt x 800 then (3) else (bif Nat.blt x 801 then (1) else (2))) else (bif Nat.blt x 803 then (2) else (bif Nat.blt x 804 then (3) else (2)))))) else (bif Nat.blt x 817 then (bif Nat.blt x 811 then (bif Nat.blt x 808 then (bif Nat.blt x 806 then (3) else (bif Nat.blt x 807 then (1) else (1))) else (bif Nat.blt x 809 then (5) else (bif Nat.blt x 810 then (2) else (2)))) else (bif Nat.blt x 814 then (bif Nat.blt x 812 then (8) else (bif Nat.blt x 813 then (3) else (3))) else (bif Nat.blt x 815 then (4) else (bif Nat.blt x 816 then (4) else (4))))) else (bif Nat.blt x 823 then (bif Nat.blt x 820 then (bif Nat.blt x 818 then (5) else (bif Nat.blt x 819 then (3) else (4))) else (bif Nat.blt x 821 then (4) else (bif Nat.blt x 822 then (4) else (3)))) else (bif Nat.blt x 826 then (bif Nat.blt x 824 then (1) else (bif Nat.blt x 825 then (2) else (8))) else (bif Nat.blt x 827 then (4) else (bif Nat.blt x 828 then (4) else (4))))))) else (bif Nat.blt x 853 then (bif Nat.blt x 841 then (bif Nat.blt x 835 then (bif Nat.blt x 832 then (bif Nat.blt x 830 then (4) else (bif Nat.blt x 831 then (11) else (5))) else (bif Nat.blt x 833 then (5) else (bif Nat.blt x 834 then (2) else (3)))) else (bif Nat.blt x 838 then (bif Nat.blt x 836 then (4) else (bif Nat.blt x 837 then (2) else (4))) else (bif Nat.blt x 839 then (1) else (bif Nat.blt x 840 then (3) else (10))))) else (bif Nat.blt x 847 then (bif Nat.blt x 844 then (bif Nat.blt x 842 then (6) else (bif Nat.blt x 843 then (7) else (8))) else (bif Nat.blt x 845 then (3) else (bif Nat.blt x 846 then (5) else (2)))) else (bif Nat.blt x 850 then (bif Nat.blt x 848 then (7) else (bif Nat.blt x 849 then (4) else (8))) else (bif Nat.blt x 851 then (5) else (bif Nat.blt x 852 then (4) else (4)))))) else (bif Nat.blt x 865 then (bif Nat.blt x 859 then (bif Nat.blt x 856 then (bif Nat.blt x 854 then (8) else (bif Nat.blt x 855 then (4) else (6))) else (bif Nat.blt x 857 then (9) else (bif Nat.blt x 858 then (4) else (9)))) else (bif Nat.blt x 862 then (bif Nat.blt x 860 then (4) else (bif Nat.blt x 861 then (3) else (9))) else (bif Nat.blt x 863 then (5) else (bif Nat.blt x 864 then (3) else (4))))) else (bif Nat.blt x 871 then (bif Nat.blt x 868 then (bif Nat.blt x 866 then (4) else (bif Nat.blt x 867 then (10) else (2))) else (bif Nat.blt x 869 then (3) else (bif Nat.blt x 870 then (2) else (3)))) else (bif Nat.blt x 900 then (bif Nat.blt x 872 then (1) else (bif Nat.blt x 873 then (1) else (5))) else (bif Nat.blt x 911 then (bif Nat.blt x 910 then (1) else (1)) else (bif Nat.blt x 912 then (2) else (2))))))))
def am_rt (x : Nat) : Option FieldType := bif Nat.blt x 746 then (bif Nat.blt x 613 then (bif Nat.blt x 405 then (bif Nat.blt x 200 then (bif Nat.blt x 6 then (bif Nat.blt x 3 then (bif Nat.blt x 1 then ((Option.none : Option Jvm.ClassFile.FieldType)) else (bif Nat.blt x 2 then ((Option.none : Option Jvm.ClassFile.FieldType)) else ((Option.none : Option Jvm.ClassFile.FieldType)))) else (bif Nat.blt x 4 then ((Option.none : Option Jvm.ClassFile.FieldType)) else (bif Nat.blt x 5 then ((Option.none : Option Jvm.ClassFile.FieldType)) else ((some .int))))) else (bif Nat.blt x 9 then (bif Nat.blt x 7 then ((some .int)) else (bif Nat.blt x 8 then ((some .int)) else ((some .int)))) else (bif Nat.blt x 100 then ((some .int)) else (bif Nat.blt x 101 then ((Option.none : Option Jvm.ClassFile.FieldType)) else ((Option.none : Option Jvm.ClassFile.FieldType)))))) else (bif Nat.blt x 302 then (bif Nat.blt x 203 then (bif Nat.blt x 201 then ((Option.none : Option Jvm.ClassFile.FieldType)) else (bif Nat.blt x 202 then ((Option.none : Option Jvm.ClassFile.FieldType)) else ((Option.none : Option Jvm.ClassFile.FieldType)))) else (bif Nat.blt x 300 then ((Option.none : Option Jvm.ClassFile.FieldType)) else (bif Nat.blt x 301 then ((Option.none : Option Jvm.ClassFile.FieldType)) else ((Option.none : Option Jvm.ClassFile.FieldType))))) else (bif Nat.blt x 402 then (bif Nat.blt x 400 then ((some .int)) else (bif Nat.blt x 401 then ((Option.none : Option Jvm.ClassFile.FieldType)) else ((Option.none : Option Jvm.ClassFile.FieldType)))) else (bif Nat.blt x 403 then ((some .int)) else (bif Nat.blt x 404 then ((some .boolean)) else ((some .boolean))))))) else (bif Nat.blt x 601 then (bif Nat.blt x 504 then (bif Nat.blt x 501 then (bif Nat.blt x 406 then ((some .boolean)) else (bif Nat.blt x 500 then ((some .int)) else ((Option.none : Option Jvm.ClassFile.FieldType)))) else (bif Nat.blt x 502 then ((some .int)) else (bif Nat.blt x 503 then ((some .int)) else ((some .boolean))))) else (bif Nat.blt x 507 then (bif Nat.blt x 505 then ((some .boolean)) else (bif Nat.blt x 506 then ((some .int)) else ((some .boolean)))) else (bif Nat.blt x 508 then ((some .int)) else (bif Nat.blt x 600 then ((some .boolean)) else ((Option.none : Option Jvm.ClassFile.FieldType)))))) else (bif Nat.blt x 607 then (bif Nat.blt x 604 then (bif Nat.blt x 602 then ((Option.none : Option Jvm.ClassFile.FieldType)) else (bif Nat.blt x 603 then ((some .int)) else ((Option.none : Option Jvm.ClassFile.FieldType)))) else (bif Nat.blt x 605 then ((Option.none : Option Jvm.ClassFile.FieldType)) else (bif Nat.blt x 606 then ((Option.none : Option Jvm.ClassFile.FieldType)) else ((Option.none : Option Jvm.ClassFile.FieldType))))) else (bif Nat.blt x 610 then (bif Nat.blt x 608 then ((Option.none : Option Jvm.ClassFile.FieldType)) else (bif Nat.blt x 609 then ((some .int)) else ((some .int)))) else (bif Nat.blt x 611 then ((some .boolean)) else (bif Nat.blt x 612 then ((some .int)) else ((Option.none : Option Jvm.ClassFile.FieldType)))))))) else (bif Nat.blt x 721 then (bif Nat.blt x 709 then (bif Nat.blt x 703 then (bif Nat.blt x 700 then (bif Nat.blt x 614 then ((some .int)) else (bif Nat.blt x 615 then ((some .boolean)) else ((Option.none : Option Jvm.ClassFile.FieldType)))) else (bif Nat.blt x 701 then ((Option.none : Option Jvm.ClassFile.FieldType)) else (bif Nat.blt x 702 then ((some .int)) else ((some .int))))) else (bif Nat.blt x 706 then (bif Nat.blt x 704 then ((some .int)) else (bif Nat.blt x 705 then ((some .int)) else ((some .int)))) else (bif Nat.blt x 707 then ((some .int)) else (bif Nat.blt x 708 then ((some .int)) else ((some .int)))))) else (bif Nat.blt x 715 then (bif Nat.blt x 712 then (bif Nat.blt x 710 then ((some .int)) else (bif Nat.blt x 711 then ((some .int)) else ((some .int)))) else (bif Nat.blt x 713 then ((some .int)) else (bif Nat.blt x 714 then ((some .int)) else ((some .int))))) else (bif Nat.blt x 718 then (bif Nat.blt x 716 then ((some .int)) else (bif Nat.blt x 717 then ((some .int)) else ((some .int)))) else (bif Nat.blt x 719 then ((some .long)) else (bif Nat.blt x 720 then ((some .int)) else ((some .int))))))) else (bif Nat.blt x 733 then (bif Nat.blt x 727 then (bif Nat.blt x 724 then (bif Nat.blt x 722 then ((some .int)) else (bif Nat.blt x 723 then ((some .int)) else ((some .long)))) else (bif Nat.blt x 725 then ((some .int)) else (bif Nat.blt x 726 then ((some .int)) else ((some .int))))) else (bif Nat.blt x 730 then (bif Nat.blt x 728 then ((some .int)) else (bif Nat.blt x 729 then ((some .int)) else ((some .int)))) else (bif Nat.blt x 731 then ((some .int)) else (bif Nat.blt x 732 then ((some .int)) else ((some .long)))))) else (bif Nat.blt x 739 then (bif Nat.blt x 736 then (bif Nat.blt x 734 then ((some .int)) else (bif Nat.blt x 735 then ((some .int)) else ((some .int)))) else (bif Nat.blt x 737 then ((some .int)) else (bif Nat.blt x 738 then ((some .int)) else ((some .int))))) else (bif Nat.blt x 742 then (bif Nat.blt x 740 then ((some .int)) else (bif Nat.blt x 741 then ((some .boolean)) else ((some .boolean)))) else (bif Nat.blt x 744 then (bif Nat.blt x 743 then ((some .boolean)) else ((some .boolean))) else (bif Nat.blt x 745 then ((some .boolean)) else ((some .boolean))))))))) else (bif Nat.blt x 829 then (bif Nat.blt x 805 then (bif Nat.blt x 758 then (bif Nat.blt x 752 then (bif Nat.blt x 749 then (bif Nat.blt x 747 then ((some .boolean)) else (bif Nat.blt x 748 then ((some .boolean)) else ((some .int)))) else (bif Nat.blt x 750 then ((some .int)) else (bif Nat.blt x 751 then ((some .int)) else ((some .int))))) else (bif Nat.blt x 755 then (bif Nat.blt x 753 then ((some .int)) else (bif Nat.blt x 754 then ((some .int)) else ((Option.none : Option Jvm.ClassFile.FieldType)))) else (bif Nat.blt x 756 then ((some .boolean)) else (bif Nat.blt x 757 then ((some .int)) else ((some .int)))))) else (bif Nat.blt x 764 then (bif Nat.blt x 761 then (bif Nat.blt x 759 then ((some .int)) else (bif Nat.blt x 760 then ((some .int)) else ((some .int)))) else (bif Nat.blt x 762 then ((Option.none : Option Jvm.ClassFile.FieldType)) else (bif Nat.blt x 763 then ((some .int)) else ((some .int))))) else (bif Nat.blt x 802 then (bif Nat.blt x 800 then ((some .int)) else (bif Nat.blt x 801 then ((Option.none : Option Jvm.ClassFile.FieldType)) else ((some .int)))) else (bif Nat.blt x 803 then ((some .long)) else (bif Nat.blt x 804 then ((some .boolean)) else ((some .boolean))))))) else (bif Nat.blt x 817 then (bif Nat.blt x 811 then (bif Nat.blt x 808 then (bif Nat.blt x 806 then ((some .int)) else (bif Nat.blt x 807 then ((some .boolean)) else ((some .boolean)))) else (bif Nat.blt x 809 then ((some .int)) else (bif Nat.blt x 810 then ((some .boolean)) else ((some .boolean))))) else (bif Nat.blt x 814 then (bif Nat.blt x 812 then ((some .int)) else (bif Nat.blt x 813 then ((some .int)) else ((some .boolean)))) else (bif Nat.blt x 815 then ((some .boolean)) else (bif Nat.blt x 816 then ((some .boolean)) else ((some .int)))))) else (bif Nat.blt x 823 then (bif Nat.blt x 820 then (bif Nat.blt x 818 then ((some .int)) else (bif Nat.blt x 819 then ((some .int)) else ((some .int)))) else (bif Nat.blt x 821 then ((some .int)) else (bif Nat.blt x 822 then ((some .int)) else ((some .int))))) else (bif Nat.blt x 826 then (bif Nat.blt x 824 then ((some .boolean)) else (bif Nat.blt x 825 then ((Option.none : Option Jvm.ClassFile.FieldType)) else ((Option.none : Option Jvm.ClassFile.FieldType)))) else (bif Nat.blt x 827 then ((some .int)) else (bif Nat.blt x 828 then ((some .int)) else ((some .int)))))))) else (bif Nat.blt x 853 then (bif Nat.blt x 841 then (bif Nat.blt x 835 then (bif Nat.blt x 832 then (bif Nat.blt x 830 then ((some .int)) else (bif Nat.blt x 831 then ((some .int)) else ((some .int)))) else (bif Nat.blt x 833 then ((some .int)) else (bif Nat.blt x 834 then ((some .int)) else ((some .int))))) else (bif Nat.blt x 838 then (bif Nat.blt x 836 then ((Option.none : Option Jvm.ClassFile.FieldType)) else (bif Nat.blt x 837 then ((some .boolean)) else ((Option.none : Option Jvm.ClassFile.FieldType)))) else (bif Nat.blt x 839 then ((some .int)) else (bif Nat.blt x 840 then ((some .int)) else ((some .long)))))) else (bif Nat.blt x 847 then (bif Nat.blt x 844 then (bif Nat.blt x 842 then ((some .long)) else (bif Nat.blt x 843 then ((some .int)) else ((some .int)))) else (bif Nat.blt x 845 then ((Option.none : Option Jvm.ClassFile.FieldType)) else (bif Nat.blt x 846 then ((some .int)) else ((some .int))))) else (bif Nat.blt x 850 then (bif Nat.blt x 848 then ((some .int)) else (bif Nat.blt x 849 then ((some .int)) else ((some .int)))) else (bif Nat.blt x 851 then ((Option.none : Option Jvm.ClassFile.FieldType)) else (bif Nat.blt x 852 then ((some .long)) else ((some .int))))))) else (bif Nat.blt x 865 then (bif Nat.blt x 859 then (bif Nat.blt x 856 then (bif Nat.blt x 854 then ((some .boolean)) else (bif Nat.blt x 855 then ((some .boolean)) else ((some .int)))) else (bif Nat.blt x 857 then ((some .int)) else (bif Nat.blt x 858 then ((some .int)) else ((some .int))))) else (bif Nat.blt x 862 then (bif Nat.blt x 860 then ((some .int)) else (bif Nat.blt x 861 then ((some .int)) else ((some .int)))) else (bif Nat.blt x 863 then ((some .int)) else (bif Nat.blt x 864 then ((some .int)) else ((some .int)))))) else (bif Nat.blt x 871 then (bif Nat.blt x 868 then (bif Nat.blt x 866 then ((some .long)) else (bif Nat.blt x 867 then ((some .int)) else ((Option.none : Option Jvm.ClassFile.FieldType)))) else (bif Nat.blt x 869 then ((some .int)) else (bif Nat.blt x 870 then ((some .int)) else ((some .int))))) else (bif Nat.blt x 900 then (bif Nat.blt x 872 then ((some .int)) else (bif Nat.blt x 873 then ((some .int)) else ((some .int)))) else (bif Nat.blt x 911 then (bif Nat.blt x 910 then ((some .int)) else ((some .int))) else (bif Nat.blt x 912 then ((some .int)) else ((some .int)))))))))
def am_ci (x : Nat) : Nat := bif Nat.blt x 746 then (bif Nat.blt x 613 then (bif Nat.blt x 405 then (bif Nat.blt x 200 then (bif Nat.blt x 6 then (bif Nat.blt x 3 then (bif Nat.blt x 1 then (0) else (bif Nat.blt x 2 then (0) else (0))) else (bif Nat.blt x 4 then (0) else (bif Nat.blt x 5 then (0) else (0)))) else (bif Nat.blt x 9 then (bif Nat.blt x 7 then (0) else (bif Nat.blt x 8 then (0) else (0))) else (bif Nat.blt x 100 then (0) else (bif Nat.blt x 101 then (1) else (1))))) else (bif Nat.blt x 302 then (bif Nat.blt x 203 then (bif Nat.blt x 201 then (2) else (bif Nat.blt x 202 then (2) else (2))) else (bif Nat.blt x 300 then (2) else (bif Nat.blt x 301 then (3) else (3)))) else (bif Nat.blt x 402 then (bif Nat.blt x 400 then (3) else (bif Nat.blt x 401 then (4) else (4))) else (bif Nat.blt x 403 then (4) else (bif Nat.blt x 404 then (4) else (4)))))) else (bif Nat.blt x 601 then (bif Nat.blt x 504 then (bif Nat.blt x 501 then (bif Nat.blt x 406 then (4) else (bif Nat.blt x 500 then (4) else (5))) else (bif Nat.blt x 502 then (5) else (bif Nat.blt x 503 then (5) else (5)))) else (bif Nat.blt x 507 then (bif Nat.blt x 505 then (5) else (bif Nat.blt x 506 then (5) else (5))) else (bif Nat.blt x 508 then (5) else (bif Nat.blt x 600 then (5) else (6))))) else (bif Nat.blt x 607 then (bif Nat.blt x 604 then (bif Nat.blt x 602 then (6) else (bif Nat.blt x 603 then (6) else (6))) else (bif Nat.blt x 605 then (6) else (bif Nat.blt x 606 then (6) else (6)))) else (bif Nat.blt x 610 then (bif Nat.blt x 608 then (6) else (bif Nat.blt x 609 then (6) else (6))) else (bif Nat.blt x 611 then (6) else (bif Nat.blt x 612 then (6) else (6))))))) else (bif Nat.blt x 721 then (bif Nat.blt x 709 then (bif Nat.blt x 703 then (bif Nat.blt x 700 then (bif Nat.blt x 614 then (6) else (bif Nat.blt x 615 then (6) else (6))) else (bif Nat.blt x 701 then (7) else (bif Nat.blt x 702 then (7) else (7)))) else (bif Nat.blt x 706 then (bif Nat.blt x 704 then (7) else (bif Nat.blt x 705 then (7) else (7))) else (bif Nat.blt x 707 then (7) else (bif Nat.blt x 708 then (7) else (7))))) else (bif Nat.blt x 715 then (bif Nat.blt x 712 then (bif Nat.blt x 710 then (7) else (bif Nat.blt x 711 then (7) else (7))) else (bif Nat.blt x 713 then (7) else (bif Nat.blt x 714 then (7) else (7)))) else (bif Nat.blt x 718 then (bif Nat.blt x 716 then (7) else (bif Nat.blt x 717 then (7) else (7))) else (bif Nat.blt x 719 then (7) else (bif Nat.blt x 720 then (7) else (7)))))) else (bif Nat.blt x 733 then (bif Nat.blt x 727 then (bif Nat.blt x 724 then (bif Nat.blt x 722 then (7) else (bif Nat.blt x 723 then (7) else (7))) else (bif Nat.blt x 725 then (7) else (bif Nat.blt x 726 then (7) else (7)))) else (bif Nat.blt x 730 then (bif Nat.blt x 728 then (7) else (bif Nat.blt x 729 then (7) else (7))) else (bif Nat.blt x 731 then (7) else (bif Nat.blt x 732 then (7) else (7))))) else (bif Nat.blt x 739 then (bif Nat.blt x 736 then (bif Nat.blt x 734 then (7) else (bif Nat.blt x 735 then (7) else (7))) else (bif Nat.blt x 737 then (7) else (bif Nat.blt x 738 then (7) else (7)))) else (bif Nat.blt x 742 then (bif Nat.blt x 740 then (7) else (bif Nat.blt x 741 then (7) else (7))) else (bif Nat.blt x 744 then (bif Nat.blt x 743 then (7) else (7)) else (bif Nat.blt x 745 then (7) else (7)))))))) else (bif Nat.blt x 829 then (bif Nat.blt x 805 then (bif Nat.blt x 758 then (bif Nat.blt x 752 then (bif Nat.blt x 749 then (bif Nat.blt x 747 then (7) else (bif Nat.blt x 748 then (7) else (7))) else (bif Nat.blt x 750 then (7) else (bif Nat.blt x 751 then (7) else (7)))) else (bif Nat.blt x 755 then (bif Nat.blt x 753 then (7) else (bif Nat.blt x 754 then (7) else (7))) else (bif Nat.blt x 756 then (7) else (bif Nat.blt x 757 then (7) else (7))))) else (bif Nat.blt x 764 then (bif Nat.blt x 761 then (bif Nat.blt x 759 then (7) else (bif Nat.blt x 760 then (7) else (7))) else (bif Nat.blt x 762 then (7) else (bif Nat.blt x 763 then (7) else (7)))) else (bif Nat.blt x 802 then (bif Nat.blt x 800 then (7) else (bif Nat.blt x 801 then (8) else (8))) else (bif Nat.blt x 803 then (8) else (bif Nat.blt x 804 then (8) else (8)))))) else (bif Nat.blt x 817 then (bif Nat.blt x 811 then (bif Nat.blt x 808 then (bif Nat.blt x 806 then (8) else (bif Nat.blt x 807 then (8) else (8))) else (bif Nat.blt x 809 then (8) else (bif Nat.blt x 810 then (8) else (8)))) else (bif Nat.blt x 814 then (bif Nat.blt x 812 then (8) else (bif Nat.blt x 813 then (8) else (8))) else (bif Nat.blt x 815 then (8) else (bif Nat.blt x 816 then (8) else (8))))) else (bif Nat.blt x 823 then (bif Nat.blt x 820 then (bif Nat.blt x 818 then (8) else (bif Nat.blt x 819 then (8) else (8))) else (bif Nat.blt x 821 then (8) else (bif Nat.blt x 822 then (8) else (8)))) else (bif Nat.blt x 826 then (bif Nat.blt x 824 then (8) else (bif Nat.blt x 825 then (8) else (8))) else (bif Nat.blt x 827 then (8) else (bif Nat.blt x 828 then (8) else (8))))))) else (bif Nat.blt x 853 then (bif Nat.blt x 841 then (bif Nat.blt x 835 then (bif Nat.blt x 832 then (bif Nat.blt x 830 then (8) else (bif Nat.blt x 831 then (8) else (8))) else (bif Nat.blt x 833 then (8) else (bif Nat.blt x 834 then (8) else (8)))) else (bif Nat.blt x 838 then (bif Nat.blt x 836 then (8) else (bif Nat.blt x 837 then (8) else (8))) else (bif Nat.blt x 839 then (8) else (bif Nat.blt x 840 then (8) else (8))))) else (bif Nat.blt x 847 then (bif Nat.blt x 844 then (bif Nat.blt x 842 then (8) else (bif Nat.blt x 843 then (8) else (8))) else (bif Nat.blt x 845 then (8) else (bif Nat.blt x 846 then (8) else (8)))) else (bif Nat.blt x 850 then (bif Nat.blt x 848 then (8) else (bif Nat.blt x 849 then (8) else (8))) else (bif Nat.blt x 851 then (8) else (bif Nat.blt x 852 then (8) else (8)))))) else (bif Nat.blt x 865 then (bif Nat.blt x 859 then (bif Nat.blt x 856 then (bif Nat.blt x 854 then (8) else (bif Nat.blt x 855 then (8) else (8))) else (bif Nat.blt x 857 then (8) else (bif Nat.blt x 858 then (8) else (8)))) else (bif Nat.blt x 862 then (bif Nat.blt x 860 then (8) else (bif Nat.blt x 861 then (8) else (8))) else (bif Nat.blt x 863 then (8) else (bif Nat.blt x 864 then (8) else (8))))) else (bif Nat.blt x 871 then (bif Nat.blt x 868 then (bif Nat.blt x 866 then (8) else (bif Nat.blt x 867 then (8) else (8))) else (bif Nat.blt x 869 then (8) else (bif Nat.blt x 870 then (8) else (8)))) else (bif Nat.blt x 900 then (bif Nat.blt x 872 then (8) else (bif Nat.blt x 873 then (8) else (8))) else (bif Nat.blt x 911 then (bif Nat.blt x 910 then (99) else (99)) else (bif Nat.blt x 912 then (99) else (99))))))))
def am_kd (x : Nat) : Nat := bif Nat.blt x 746 then (bif Nat.blt x 613 then (bif Nat.blt x 405 then (bif Nat.blt x 200 then (bif Nat.blt x 6 then (bif Nat.blt x 3 then (bif Nat.blt x 1 then (2) else (bif Nat.blt x 2 then (0) else (0))) else (bif Nat.blt x 4 then (0) else (bif Nat.blt x 5 then (0) else (0)))) else (bif Nat.blt x 9 then (bif Nat.blt x 7 then (0) else (bif Nat.blt x 8 then (0) else (0))) else (bif Nat.blt x 100 then (0) else (bif Nat.blt x 101 then (2) else (0))))) else (bif Nat.blt x 302 then (bif Nat.blt x 203 then (bif Nat.blt x 201 then (2) else (bif Nat.blt x 202 then (0) else (1))) else (bif Nat.blt x 300 then (0) else (bif Nat.blt x 301 then (2) else (0)))) else (bif Nat.blt x 402 then (bif Nat.blt x 400 then (0) else (bif Nat.blt x 401 then (2) else (0))) else (bif Nat.blt x 403 then (0) else (bif Nat.blt x 404 then (0) else (0)))))) else (bif Nat.blt x 601 then (bif Nat.blt x 504 then (bif Nat.blt x 501 then (bif Nat.blt x 406 then (0) else (bif Nat.blt x 500 then (0) else (2))) else (bif Nat.blt x 502 then (0) else (bif Nat.blt x 503 then (0) else (0)))) else (bif Nat.blt x 507 then (bif Nat.blt x 505 then (0) else (bif Nat.blt x 506 then (0) else (0))) else (bif Nat.blt x 508 then (0) else (bif Nat.blt x 600 then (0) else (2))))) else (bif Nat.blt x 607 then (bif Nat.blt x 604 then (bif Nat.blt x 602 then (0) else (bif Nat.blt x 603 then (0) else (0))) else (bif Nat.blt x 605 then (0) else (bif Nat.blt x 606 then (0) else (0)))) else (bif Nat.blt x 610 then (bif Nat.blt x 608 then (0) else (bif Nat.blt x 609 then (1) else (1))) else (bif Nat.blt x 611 then (0) else (bif Nat.blt x 612 then (0) else (0))))))) else (bif Nat.blt x 721 then (bif Nat.blt x 709 then (bif Nat.blt x 703 then (bif Nat.blt x 700 then (bif Nat.blt x 614 then (0) else (bif Nat.blt x 615 then (0) else (0))) else (bif Nat.blt x 701 then (2) else (bif Nat.blt x 702 then (0) else (0)))) else (bif Nat.blt x 706 then (bif Nat.blt x 704 then (0) else (bif Nat.blt x 705 then (0) else (0))) else (bif Nat.blt x 707 then (0) else (bif Nat.blt x 708 then (0) else (0))))) else (bif Nat.blt x 715 then (bif Nat.blt x 712 then (bif Nat.blt x 710 then (0) else (bif Nat.blt x 711 then (0) else (0))) else (bif Nat.blt x 713 then (0) else (bif Nat.blt x 714 then (0) else (0)))) else (bif Nat.blt x 718 then (bif Nat.blt x 716 then (0) else (bif Nat.blt x 717 then (0) else (0))) else (bif Nat.blt x 719 then (0) else (bif Nat.blt x 720 then (0) else (0)))))) else (bif Nat.blt x 733 then (bif Nat.blt x 727 then (bif Nat.blt x 724 then (bif Nat.blt x 722 then (0) else (bif Nat.blt x 723 then (0) else (0))) else (bif Nat.blt x 725 then (0) else (bif Nat.blt x 726 then (0) else (0)))) else (bif Nat.blt x 730 then (bif Nat.blt x 728 then (0) else (bif Nat.blt x 729 then (0) else (0))) else (bif Nat.blt x 731 then (0) else (bif Nat.blt x 732 then (0) else (0))))) else (bif Nat.blt x 739 then (bif Nat.blt x 736 then (bif Nat.blt x 734 then (0) else (bif Nat.blt x 735 then (0) else (0))) else (bif Nat.blt x 737 then (0) else (bif Nat.blt x 738 then (0) else (0)))) else (bif Nat.blt x 742 then (bif Nat.blt x 740 then (0) else (bif Nat.blt x 741 then (1) else (1))) else (bif Nat.blt x 744 then (bif Nat.blt x 743 then (1) else (1)) else (bif Nat.blt x 745 then (1) else (0)))))))) else (bif Nat.blt x 829 then (bif Nat.blt x 805 then (bif Nat.blt x 758 then (bif Nat.blt x 752 then (bif Nat.blt x 749 then (bif Nat.blt x 747 then (0) else (bif Nat.blt x 748 then (0) else (0))) else (bif Nat.blt x 750 then (0) else (bif Nat.blt x 751 then (0) else (0)))) else (bif Nat.blt x 755 then (bif Nat.blt x 753 then (0) else (bif Nat.blt x 754 then (0) else (0))) else (bif Nat.blt x 756 then (0) else (bif Nat.blt x 757 then (0) else (0))))) else (bif Nat.blt x 764 then (bif Nat.blt x 761 then (bif Nat.blt x 759 then (1) else (bif Nat.blt x 760 then (0) else (1))) else (bif Nat.blt x 762 then (0) else (bif Nat.blt x 763 then (0) else (0)))) else (bif Nat.blt x 802 then (bif Nat.blt x 800 then (0) else (bif Nat.blt x 801 then (2) else (0))) else (bif Nat.blt x 803 then (0) else (bif Nat.blt x 804 then (1) else (1)))))) else (bif Nat.blt x 817 then (bif Nat.blt x 811 then (bif Nat.blt x 808 then (bif Nat.blt x 806 then (1) else (bif Nat.blt x 807 then (1) else (1))) else (bif Nat.blt x 809 then (0) else (bif Nat.blt x 810 then (0) else (0)))) else (bif Nat.blt x 814 then (bif Nat.blt x 812 then (0) else (bif Nat.blt x 813 then (0) else (0))) else (bif Nat.blt x 815 then (0) else (bif Nat.blt x 816 then (0) else (0))))) else (bif Nat.blt x 823 then (bif Nat.blt x 820 then (bif Nat.blt x 818 then (0) else (bif Nat.blt x 819 then (0) else (0))) else (bif Nat.blt x 821 then (0) else (bif Nat.blt x 822 then (0) else (0)))) else (bif Nat.blt x 826 then (bif Nat.blt x 824 then (1) else (bif Nat.blt x 825 then (0) else (0))) else (bif Nat.blt x 827 then (0) else (bif Nat.blt x 828 then (0) else (0))))))) else (bif Nat.blt x 853 then (bif Nat.blt x 841 then (bif Nat.blt x 835 then (bif Nat.blt x 832 then (bif Nat.blt x 830 then (0) else (bif Nat.blt x 831 then (0) else (0))) else (bif Nat.blt x 833 then (0) else (bif Nat.blt x 834 then (0) else (0)))) else (bif Nat.blt x 838 then (bif Nat.blt x 836 then (0) else (bif Nat.blt x 837 then (0) else (0))) else (bif Nat.blt x 839 then (0) else (bif Nat.blt x 840 then (0) else (1))))) else (bif Nat.blt x 847 then (bif Nat.blt x 844 then (bif Nat.blt x 842 then (0) else (bif Nat.blt x 843 then (0) else (0))) else (bif Nat.blt x 845 then (0) else (bif Nat.blt x 846 then (0) else (0)))) else (bif Nat.blt x 850 then (bif Nat.blt x 848 then (0) else (bif Nat.blt x 849 then (0) else (0))) else (bif Nat.blt x 851 then (0) else (bif Nat.blt x 852 then (0) else (0)))))) else (bif Nat.blt x 865 then (bif Nat.blt x 859 then (bif Nat.blt x 856 then (bif Nat.blt x 854 then (0) else (bif Nat.blt x 855 then (0) else (0))) else (bif Nat.blt x 857 then (0) else (bif Nat.blt x 858 then (0) else (0)))) else (bif Nat.blt x 862 then (bif Nat.blt x 860 then (0) else (bif Nat.blt x 861 then (0) else (0))) else (bif Nat.blt x 863 then (0) else (bif Nat.blt x 864 then (0) else (0))))) else (bif Nat.blt x 871 then (bif Nat.blt x 868 then (bif Nat.blt x 866 then (0) else (bif Nat.blt x 867 then (0) else (0))) else (bif Nat.blt x 869 then (0) else (bif Nat.blt x 870 then (0) else (0)))) else (bif Nat.blt x 900 then (bif Nat.blt x 872 then (0) else (bif Nat.blt x 873 then (0) else (0))) else (bif Nat.blt x 911 then (bif Nat.blt x 910 then (1) else (1)) else (bif Nat.blt x 912 then (1) else (1))))))))
def am_np (x : Nat) : Nat := bif Nat.blt x 746 then (bif Nat.blt x 613 then (bif Nat.blt x 405 then (bif Nat.blt x 200 then (bif Nat.blt x 6 then (bif Nat.blt x 3 then (bif Nat.blt x 1 then (0) else (bif Nat.blt x 2 then (1) else (2))) else (bif Nat.blt x 4 then (2) else (bif Nat.blt x 5 then (1) else (2)))) else (bif Nat.blt x 9 then (bif Nat.blt x 7 then (2) else (bif Nat.blt x 8 then (5) else (0))) else (bif Nat.blt x 100 then (0) else (bif Nat.blt x 101 then (0) else (2))))) else (bif Nat.blt x 302 then (bif Nat.blt x 203 then (bif Nat.blt x 201 then (0) else (bif Nat.blt x 202 then (2) else (7))) else (bif Nat.blt x 300 then (2) else (bif Nat.blt x 301 then (0) else (3)))) else (bif Nat.blt x 402 then (bif Nat.blt x 400 then (1) else (bif Nat.blt x 401 then (0) else (2))) else (bif Nat.blt x 403 then (1) else (bif Nat.blt x 404 then (1) else (2)))))) else (bif Nat.blt x 601 then (bif Nat.blt x 504 then (bif Nat.blt x 501 then (bif Nat.blt x 406 then (2) else (bif Nat.blt x 500 then (1) else (0))) else (bif Nat.blt x 502 then (4) else (bif Nat.blt x 503 then (1) else (1)))) else (bif Nat.blt x 507 then (bif Nat.blt x 505 then (1) else (bif Nat.blt x 506 then (0) else (1))) else (bif Nat.blt x 508 then (0) else (bif Nat.blt x 600 then (1) else (0))))) else (bif Nat.blt x 607 then (bif Nat.blt x 604 then (bif Nat.blt x 602 then (0) else (bif Nat.blt x 603 then (4) else (1))) else (bif Nat.blt x 605 then (1) else (bif Nat.blt x 606 then (3) else (2)))) else (bif Nat.blt x 610 then (bif Nat.blt x 608 then (1) else (bif Nat.blt x 609 then (5) else (4))) else (bif Nat.blt x 611 then (5) else (bif Nat.blt x 612 then (5) else (2))))))) else (bif Nat.blt x 721 then (bif Nat.blt x 709 then (bif Nat.blt x 703 then (bif Nat.blt x 700 then (bif Nat.blt x 614 then (2) else (bif Nat.blt x 615 then (2) else (3))) else (bif Nat.blt x 701 then (0) else (bif Nat.blt x 702 then (4) else (2)))) else (bif Nat.blt x 706 then (bif Nat.blt x 704 then (3) else (bif Nat.blt x 705 then (2) else (2))) else (bif Nat.blt x 707 then (2) else (bif Nat.blt x 708 then (2) else (1))))) else (bif Nat.blt x 715 then (bif Nat.blt x 712 then (bif Nat.blt x 710 then (3) else (bif Nat.blt x 711 then (3) else (3))) else (bif Nat.blt x 713 then (3) else (bif Nat.blt x 714 then (5) else (4)))) else (bif Nat.blt x 718 then (bif Nat.blt x 716 then (1) else (bif Nat.blt x 717 then (0) else (1))) else (bif Nat.blt x 719 then (2) else (bif Nat.blt x 720 then (3) else (1)))))) else (bif Nat.blt x 733 then (bif Nat.blt x 727 then (bif Nat.blt x 724 then (bif Nat.blt x 722 then (3) else (bif Nat.blt x 723 then (1) else (3))) else (bif Nat.blt x 725 then (5) else (bif Nat.blt x 726 then (5) else (2)))) else (bif Nat.blt x 730 then (bif Nat.blt x 728 then (2) else (bif Nat.blt x 729 then (3) else (3))) else (bif Nat.blt x 731 then (1) else (bif Nat.blt x 732 then (3) else (3))))) else (bif Nat.blt x 739 then (bif Nat.blt x 736 then (bif Nat.blt x 734 then (5) else (bif Nat.blt x 735 then (1) else (1))) else (bif Nat.blt x 737 then (2) else (bif Nat.blt x 738 then (0) else (0)))) else (bif Nat.blt x 742 then (bif Nat.blt x 740 then (1) else (bif Nat.blt x 741 then (3) else (1))) else (bif Nat.blt x 744 then (bif Nat.blt x 743 then (1) else (1)) else (bif Nat.blt x 745 then (3) else (0)))))))) else (bif Nat.blt x 829 then (bif Nat.blt x 805 then (bif Nat.blt x 758 then (bif Nat.blt x 752 then (bif Nat.blt x 749 then (bif Nat.blt x 747 then (1) else (bif Nat.blt x 748 then (1) else (0))) else (bif Nat.blt x 750 then (3) else (bif Nat.blt x 751 then (4) else (1)))) else (bif Nat.blt x 755 then (bif Nat.blt x 753 then (2) else (bif Nat.blt x 754 then (3) else (2))) else (bif Nat.blt x 756 then (3) else (bif Nat.blt x 757 then (2) else (2))))) else (bif Nat.blt x 764 then (bif Nat.blt x 761 then (bif Nat.blt x 759 then (2) else (bif Nat.blt x 760 then (1) else (2))) else (bif Nat.blt x 762 then (1) else (bif Nat.blt x 763 then (1) else (1)))) else (bif Nat.blt x 802 then (bif Nat.blt x 800 then (1) else (bif Nat.blt x 801 then (0) else (1))) else (bif Nat.blt x 803 then (1) else (bif Nat.blt x 804 then (3) else (2)))))) else (bif Nat.blt x 817 then (bif Nat.blt x 811 then (bif Nat.blt x 808 then (bif Nat.blt x 806 then (1) else (bif Nat.blt x 807 then (1) else (1))) else (bif Nat.blt x 809 then (4) else (bif Nat.blt x 810 then (1) else (1)))) else (bif Nat.blt x 814 then (bif Nat.blt x 812 then (4) else (bif Nat.blt x 813 then (2) else (2))) else (bif Nat.blt x 815 then (1) else (bif Nat.blt x 816 then (1) else (2))))) else (bif Nat.blt x 823 then (bif Nat.blt x 820 then (bif Nat.blt x 818 then (3) else (bif Nat.blt x 819 then (2) else (2))) else (bif Nat.blt x 821 then (2) else (bif Nat.blt x 822 then (2) else (1)))) else (bif Nat.blt x 826 then (bif Nat.blt x 824 then (1) else (bif Nat.blt x 825 then (0) else (2))) else (bif Nat.blt x 827 then (3) else (bif Nat.blt x 828 then (3) else (3))))))) else (bif Nat.blt x 853 then (bif Nat.blt x 841 then (bif Nat.blt x 835 then (bif Nat.blt x 832 then (bif Nat.blt x 830 then (3) else (bif Nat.blt x 831 then (5) else (2))) else (bif Nat.blt x 833 then (4) else (bif Nat.blt x 834 then (1) else (0)))) else (bif Nat.blt x 838 then (bif Nat.blt x 836 then (1) else (bif Nat.blt x 837 then (0) else (0))) else (bif Nat.blt x 839 then (0) else (bif Nat.blt x 840 then (1) else (2))))) else (bif Nat.blt x 847 then (bif Nat.blt x 844 then (bif Nat.blt x 842 then (2) else (bif Nat.blt x 843 then (3) else (3))) else (bif Nat.blt x 845 then (1) else (bif Nat.blt x 846 then (1) else (1)))) else (bif Nat.blt x 850 then (bif Nat.blt x 848 then (3) else (bif Nat.blt x 849 then (3) else (1))) else (bif Nat.blt x 851 then (2) else (bif Nat.blt x 852 then (3) else (3)))))) else (bif Nat.blt x 865 then (bif Nat.blt x 859 then (bif Nat.blt x 856 then (bif Nat.blt x 854 then (3) else (bif Nat.blt x 855 then (3) else (5))) else (bif Nat.blt x 857 then (5) else (bif Nat.blt x 858 then (0) else (2)))) else (bif Nat.blt x 862 then (bif Nat.blt x 860 then (2) else (bif Nat.blt x 861 then (2) else (3))) else (bif Nat.blt x 863 then (3) else (bif Nat.blt x 864 then (1) else (3))))) else (bif Nat.blt x 871 then (bif Nat.blt x 868 then (bif Nat.blt x 866 then (3) else (bif Nat.blt x 867 then (5) else (1))) else (bif Nat.blt x 869 then (1) else (bif Nat.blt x 870 then (1) else (2)))) else (bif Nat.blt x 900 then (bif Nat.blt x 872 then (0) else (bif Nat.blt x 873 then (0) else (1))) else (bif Nat.blt x 911 then (bif Nat.blt x 910 then (1) else (1)) else (bif Nat.blt x 912 then (2) else (2))))))))
end
section
abbrev am_Sg : Type := Nat → Nat → Int32
abbrev am_Tu : Type := Nat → Nat → Nat
abbrev am_L : Type := List (Option Value)
abbrev am_C : Type := List Value → Nat → am_Sg → am_Tu → Nat → (Option Value → am_Sg → am_Tu → Prop) → Prop
abbrev am_AI : Type := Nat × Nat × Nat × Nat × Int32 × List Nat × Int64
abbrev am_Z : Type := ClassId × ClassId × ClassId × ClassId
abbrev am_X : Type := Bool × Nat × (Nat → Int32)
abbrev am_K : Type := Nat → am_L → List Value → Nat → am_Sg → am_Tu → Prop
abbrev am_Rt : Type := Option Value → Nat → am_Sg → am_Tu → Prop
def am_nth : am_L → Nat → Option Value
  | [], _ => none
  | a :: _, 0 => a
  | _ :: t, i + 1 => am_nth t i
def am_setK : am_L → Nat → Option Value → (am_L → Prop) → Prop
  | [], _, _, _ => False
  | _ :: t, 0, v, k => k (v :: t)
  | a :: t, i + 1, v, k => am_setK t i v (fun r => k (a :: r))
def am_nl (L : am_L) (x : Nat) : Bool := match x with
  | 0 => true
  | x + 1 => match am_nth L x with
    | some (.long _) => false
    | some (.double _) => false
    | _ => true
def am_takeK : Nat → List Value → List Value → (List Value → List Value → Prop) → Prop
  | 0, st, acc, k => k acc st
  | m + 1, v :: st, acc, k => am_takeK m st (v :: acc) k
  | _ + 1, [], _, _ => False
def am_up {α : Type} (f : Nat → Nat → α) (q i : Nat) (v : α) : Nat → Nat → α := fun a b => bif Nat.beq a q && Nat.beq b i then v else f a b
def am_z {α : Type} (f : Nat → Nat → α) (q : Nat) (v : α) : Nat → Nat → α := fun a b => bif Nat.beq a q then v else f a b
def am_cp (σ : am_Sg) (q0 q1 sp dp n : Nat) : am_Sg := fun a b => bif Nat.beq a q1 then va_cpy (σ q0) (σ q1) sp dp n b else σ a b
def am_zr {α : Type} (f : Nat → Nat → α) (q n : Nat) (v : α) : Nat → Nat → α := fun a b => bif Nat.ble q a && Nat.blt a (q + n) then v else f a b
def am_rowT (τ : am_Tu) (q n : Nat) : am_Tu := fun a b => bif Nat.beq a q then (bif Nat.blt b n then q + 1 + b + 1 else 0) else (bif Nat.ble q a && Nat.blt a (q + 1 + n) then 0 else τ a b)
def am_al (P n q : Nat) : Bool := Nat.blt q P || Nat.blt q n
def am_okv (n : Nat) (v : Value) : Bool := match v with
  | .ref q => Nat.blt q n || Nat.beq q 1000
  | _ => true
def am_okS (n : Nat) : List Value → Bool
  | [] => true
  | v :: t => am_okv n v && am_okS n t
def am_okL (n : Nat) : am_L → Bool
  | [] => true
  | none :: t => am_okL n t
  | some v :: t => am_okv n v && am_okL n t
def am_rows (q k : Nat) : Nat → Bool
  | 0 => true
  | i + 1 => Nat.beq (am_knd (q + 1 + i)) 10 && Nat.beq (am_len (q + 1 + i)) k && am_rows q k i
def am_sw (v : Int32) (d : Nat) (k : Nat → Prop) : List Nat → Prop
  | a :: t :: r => (v = nI a → k t) ∧ (¬ v = nI a → am_sw v d k r)
  | _ => k d
def am_push (nx : Nat) (L : am_L) (st : List Value) (n : Nat) (k : am_K) : Option Value → am_Sg → am_Tu → Prop
  | none, σ, τ => k nx L st n σ τ
  | some v, σ, τ => k nx L (v :: st) n σ τ
def am_bin (st : List Value) (f : Int32 → Int32 → List Value → Prop) : Prop := match st with
  | .int y :: .int x :: r => f x y r
  | _ => False
def am_binL (st : List Value) (f : Int64 → Int64 → List Value → Prop) : Prop := match st with
  | .long y :: .long x :: r => f x y r
  | _ => False
def am_un (st : List Value) (f : Int32 → List Value → Prop) : Prop := match st with
  | .int x :: r => f x r
  | _ => False
def am_rf (st : List Value) (f : Nat → List Value → Prop) : Prop := match st with
  | .ref q :: r => f q r
  | _ => False
def am_ld (o : Option Value) (f : Value → Prop) : Nat → Prop
  | 0 => match o with
    | some (.int v) => f (.int v)
    | _ => False
  | 1 => match o with
    | some (.ref q) => f (.ref q)
    | _ => False
  | _ => match o with
    | some (.long v) => f (.long v)
    | _ => False
def am_if (c : Prop) (a b : Prop) : Prop := (c → a) ∧ (¬ c → b)
def am_gd (b : Bool) (a : Prop) : Prop := match b with
  | true => a
  | false => False
def am_mem (X : am_X) (Γ : Nat → am_C) (P nf : Nat) (nx op x y : Nat) (tg : List Nat) (L : am_L) (st : List Value) (n : Nat) (σ : am_Sg) (τ : am_Tu) (k : am_K) (r : am_Rt) : Prop := match op with
  | 0 => am_rf st fun q s => am_gd (am_al P n q && Nat.beq (am_knd q) x) (k nx L (.int (σ q y) :: s) n σ τ)
  | 1 => am_rf st fun q s => am_gd (am_al P n q && Nat.beq (am_knd q) x) (match τ q y with
    | 0 => k nx L (.null :: s) n σ τ
    | z + 1 => k nx L (.ref z :: s) n σ τ)
  | 2 => am_rf st fun q s => am_gd (am_al P n q && Nat.beq (am_knd q) x) (k nx L (.int (σ q y) :: s) n σ τ)
  | 3 => am_un st fun v s => am_rf s fun q s => am_gd (am_al P n q && Nat.beq (am_knd q) x) (∀ σ' : am_Sg, σ' = am_up σ q y v → k nx L s n σ' τ)
  | 4 => am_un st fun v s => am_rf s fun q s => am_gd (am_al P n q && Nat.beq (am_knd q) x) ((v = 0 ∨ v = 1) ∧ ∀ σ' : am_Sg, σ' = am_up σ q y v → k nx L s n σ' τ)
  | 5 => match st with
    | .ref z :: .ref q :: s => am_gd (am_al P n q && am_al P n z && Nat.beq (am_knd q) x) (k nx L s n σ (am_up τ q y (z + 1)))
    | .null :: .ref q :: s => am_gd (am_al P n q && Nat.beq (am_knd q) x) (k nx L s n σ (am_up τ q y 0))
    | _ => False
  | 6 => match st with
    | .ref z :: .ref q :: s => am_gd (am_al P n q && am_al P n z && Nat.beq (am_knd q) x) (k nx L s n σ (am_up τ q y (z + 1)))
    | _ => False
  | 7 => am_un st fun i s => am_rf s fun q s => am_gd (am_al P n q && Nat.beq (am_knd q) 10) (vp_in i (am_len q) ∧ k nx L (.int (σ q i.toNatClampNeg) :: s) n σ τ)
  | 8 => am_un st fun v s => am_un s fun i s => am_rf s fun q s => am_gd (am_al P n q && Nat.beq (am_knd q) 10) (vp_in i (am_len q) ∧ ∀ σ' : am_Sg, σ' = am_up σ q i.toNatClampNeg v → k nx L s n σ' τ)
  | 9 => am_un st fun i s => am_rf s fun q s => am_gd (am_al P n q && Nat.beq (am_knd q) 11) (vp_in i (am_len q) ∧ k nx L (.int (σ q i.toNatClampNeg) :: s) n σ τ)
  | 10 => am_un st fun v s => am_un s fun i s => am_rf s fun q s => am_gd (am_al P n q && Nat.beq (am_knd q) 11) (vp_in i (am_len q) ∧ (v = 0 ∨ v = 1) ∧ ∀ σ' : am_Sg, σ' = am_up σ q i.toNatClampNeg v → k nx L s n σ' τ)
  | 11 => am_un st fun i s => am_rf s fun q s => am_gd (am_al P n q && (Nat.beq (am_knd q) 12 || Nat.beq (am_knd q) 13)) (vp_in i (am_len q) ∧ ¬ τ q i.toNatClampNeg = 0 ∧ ∀ z : Nat, τ q i.toNatClampNeg = z + 1 → k nx L (.ref z :: s) n σ τ)
  | 12 => am_rf st fun z s => am_un s fun i s => am_rf s fun q s => am_gd (am_al P n q && am_al P n z && Nat.beq (am_knd q) 12 && Nat.beq (am_knd z) 4) (vp_in i (am_len q) ∧ k nx L s n σ (am_up τ q i.toNatClampNeg (z + 1)))
  | 13 => am_rf st fun q s => am_gd (am_al P n q && Nat.ble 10 (am_knd q) && Nat.ble (am_knd q) 13) (k nx L (.int (nI (am_len q)) :: s) n σ τ)
  | 14 => am_gd (Nat.beq (am_knd n) x && Nat.beq (am_len n) (am_N x) && Nat.blt n nf && am_okS n st && am_okL n L) (∀ σ' : am_Sg, σ' = am_z σ n 0 → k nx L (.ref n :: st) (n + 1) σ' (am_z τ n 0))
  | 15 => am_un st fun v s => am_gd (Nat.beq (am_knd n) 10 && Nat.blt n nf && am_okS n s && am_okL n L) (v = nI (am_len n) ∧ ∀ σ' : am_Sg, σ' = am_z σ n 0 → k nx L (.ref n :: s) (n + 1) σ' (am_z τ n 0))
  | 16 => am_un st fun v s => am_gd (Nat.beq (am_knd n) 11 && Nat.blt n nf && am_okS n s && am_okL n L) (v = nI (am_len n) ∧ ∀ σ' : am_Sg, σ' = am_z σ n 0 → k nx L (.ref n :: s) (n + 1) σ' (am_z τ n 0))
  | 17 => am_un st fun v s => am_gd (Nat.beq (am_knd n) 12 && Nat.blt n nf && am_okS n s && am_okL n L) (v = nI (am_len n) ∧ ∀ σ' : am_Sg, σ' = am_z σ n 0 → k nx L (.ref n :: s) (n + 1) σ' (am_z τ n 0))
  | 18 => am_un st fun w s => am_un s fun v s => am_gd (Nat.beq (am_knd n) 13 && am_rows n y (am_len n) && Nat.ble (n + 1 + am_len n) nf && am_okS n s && am_okL n L) (v = nI (am_len n) ∧ w = nI y ∧ ∀ σ' : am_Sg, σ' = am_zr σ n (am_len n + 1) 0 → k nx L (.ref n :: s) (n + 1 + am_len n) σ' (am_rowT τ n (am_len n)))
  | 19 => am_takeK y st [] fun av s => match av with
    | .ref q :: _ => am_gd (am_al P n q && Nat.beq (am_knd q) (am_ci x) && Nat.ble s.length 4) (Γ x av n σ τ n (am_push nx L s n k))
    | _ => False
  | 20 => am_takeK y st [] fun av s => am_gd (Nat.ble s.length 4) (Γ x av n σ τ n (am_push nx L s n k))
  | 21 => am_takeK y st [] fun av s => match av with
    | .ref q :: _ => am_gd (am_al P n q && Nat.ble s.length 4 && Nat.ble (n + tg.getD 2 0) nf && am_okS n s && am_okL n L) (Γ x av n σ τ (n + tg.getD 2 0) (am_push nx L s (n + tg.getD 2 0) k))
    | _ => False
  | 22 => am_takeK y st [] fun av s => match av with
    | .ref q :: _ => am_gd (am_al P n q && Nat.beq (am_knd q) (am_ci x) && Nat.ble s.length 4 && am_okS n s && am_okL n L) (∃ nf' : Nat, n ≤ nf' ∧ nf' ≤ nf ∧ Γ x av n σ τ nf' (am_push nx L s nf' k))
    | _ => False
  | 23 => am_rf st fun q s => am_gd (Nat.ble s.length 4) (k nx L s n σ τ)
  | 24 => match st with
    | .int ln :: .int dp :: .ref q1 :: .int sp :: .ref q0 :: s => am_gd (am_al P n q0 && am_al P n q1 && Nat.beq (am_knd q0) x && Nat.beq (am_knd q1) x && (Nat.beq x 10 || Nat.beq x 11) && Nat.ble s.length 4) (¬ sp < 0 ∧ ¬ dp < 0 ∧ ¬ ln < 0 ∧ sp.toNatClampNeg + ln.toNatClampNeg ≤ am_len q0 ∧ dp.toNatClampNeg + ln.toNatClampNeg ≤ am_len q1 ∧ (x = 11 → ∀ i, i < ln.toNatClampNeg → σ q0 (sp.toNatClampNeg + i) = 0 ∨ σ q0 (sp.toNatClampNeg + i) = 1) ∧ ∀ σ' : am_Sg, σ' = am_cp σ q0 q1 sp.toNatClampNeg dp.toNatClampNeg ln.toNatClampNeg → k nx L s n σ' τ)
    | _ => False
  | 25 => match st with
    | [.int v] => r (some (.int v)) n σ τ
    | _ => False
  | 26 => match st with
    | [.int v] => (v = 0 ∨ v = 1) ∧ r (some (.int v)) n σ τ
    | _ => False
  | 27 => match st with
    | [.long v] => r (some (.long v)) n σ τ
    | _ => False
  | 28 => match st with
    | [] => r none n σ τ
    | _ => False
  | 29 => am_un st fun i s => am_rf s fun q s => am_gd (X.1 && Nat.beq q 1000) (vp_in i X.2.1 ∧ k nx L (.int (X.2.2 i.toNatClampNeg) :: s) n σ τ)
  | 30 => am_rf st fun q s => am_gd (X.1 && Nat.beq q 1000) (k nx L (.int (nI X.2.1) :: s) n σ τ)
  | 31 => am_takeK y st [] fun av s => am_gd (Nat.ble s.length 4) (Γ x av n σ τ n (am_push nx L s n k))
  | 32 => am_takeK y st [] fun av s => match av with
    | .ref q :: _ => am_gd (am_al P n q && Nat.ble s.length 4 && Nat.ble (n + tg.getD 2 0) nf && am_okS n s && am_okL n L) (Γ x av n σ τ (n + tg.getD 2 0) (am_push nx L s (n + tg.getD 2 0) k))
    | _ => False
  | _ => False
def am_step (X : am_X) (Γ : Nat → am_C) (P nf : Nat) (ai : am_AI) (L : am_L) (st : List Value) (n : Nat) (σ : am_Sg) (τ : am_Tu) (k : am_K) (r : am_Rt) : Prop := match ai with
  | (nx, op, x, y, c, tg, lc) => match op with
    | 0 => k nx L (.int c :: st) n σ τ
    | 1 => k nx L (.int c :: st) n σ τ
    | 2 => k nx L (.int c :: st) n σ τ
    | 3 => k nx L (.int c :: st) n σ τ
    | 4 => k nx L (.null :: st) n σ τ
    | 5 => am_ld (am_nth L x) (fun v => k nx L (v :: st) n σ τ) 0
    | 6 => am_ld (am_nth L x) (fun v => k nx L (v :: st) n σ τ) 0
    | 7 => am_ld (am_nth L x) (fun v => k nx L (v :: st) n σ τ) 1
    | 8 => am_ld (am_nth L x) (fun v => k nx L (v :: st) n σ τ) 1
    | 9 => am_ld (am_nth L x) (fun v => k nx L (v :: st) n σ τ) 2
    | 10 => am_ld (am_nth L x) (fun v => k nx L (v :: st) n σ τ) 2
    | 11 => am_un st fun v s => am_gd (am_nl L x) (am_setK L x (some (.int v)) fun L' => k nx L' s n σ τ)
    | 12 => am_un st fun v s => am_gd (am_nl L x) (am_setK L x (some (.int v)) fun L' => k nx L' s n σ τ)
    | 13 => am_rf st fun v s => am_gd (am_nl L x) (am_setK L x (some (.ref v)) fun L' => k nx L' s n σ τ)
    | 14 => am_rf st fun v s => am_gd (am_nl L x) (am_setK L x (some (.ref v)) fun L' => k nx L' s n σ τ)
    | 15 => match st with
      | .long v :: s => am_gd (am_nl L x) (am_setK L x (some (.long v)) fun L' => am_setK L' (x + 1) none fun L' => k nx L' s n σ τ)
      | _ => False
    | 16 => match st with
      | .long v :: s => am_gd (am_nl L x) (am_setK L x (some (.long v)) fun L' => am_setK L' (x + 1) none fun L' => k nx L' s n σ τ)
      | _ => False
    | 17 => am_ld (am_nth L x) (fun v => match v with
      | .int w => am_gd (am_nl L x) (am_setK L x (some (.int (w + c))) fun L' => k nx L' st n σ τ)
      | _ => False) 0
    | 18 => match st with
      | .int v :: s => k nx L (.int v :: .int v :: s) n σ τ
      | .ref v :: s => k nx L (.ref v :: .ref v :: s) n σ τ
      | _ => False
    | 19 => match st with
      | .int _ :: s => k nx L s n σ τ
      | .ref _ :: s => k nx L s n σ τ
      | _ => False
    | 20 => match st with
      | .int i :: .ref q :: s => k nx L (.int i :: .ref q :: .int i :: .ref q :: s) n σ τ
      | _ => False
    | 21 => am_bin st fun a b s => k nx L (.int (a + b) :: s) n σ τ
    | 22 => am_bin st fun a b s => k nx L (.int (a - b) :: s) n σ τ
    | 23 => am_bin st fun a b s => k nx L (.int (a * b) :: s) n σ τ
    | 24 => am_bin st fun a b s => ¬ b = 0 ∧ k nx L (.int (a / b) :: s) n σ τ
    | 25 => am_bin st fun a b s => ¬ b = 0 ∧ k nx L (.int (a - a / b * b) :: s) n σ τ
    | 26 => am_un st fun a s => k nx L (.int (-a) :: s) n σ τ
    | 27 => am_bin st fun a b s => k nx L (.int (a <<< (b &&& 31)) :: s) n σ τ
    | 28 => am_bin st fun a b s => k nx L (.int (a >>> (b &&& 31)) :: s) n σ τ
    | 29 => am_bin st fun a b s => k nx L (.int (a.toUInt32 >>> (b.toUInt32 &&& Int32.toUInt32 31)).toInt32 :: s) n σ τ
    | 30 => am_bin st fun a b s => k nx L (.int (a &&& b) :: s) n σ τ
    | 31 => am_bin st fun a b s => k nx L (.int (a ||| b) :: s) n σ τ
    | 32 => am_un st fun a s => k nx L (.int a.toInt8.toInt32 :: s) n σ τ
    | 33 => am_un st fun a s => k nx L (.int a.toInt16.toInt32 :: s) n σ τ
    | 34 => am_un st fun a s => k nx L (.long a.toInt64 :: s) n σ τ
    | 35 => match st with
      | .long v :: s => k nx L (.int v.toInt32 :: s) n σ τ
      | _ => False
    | 36 => am_binL st fun a b s => k nx L (.long (a + b) :: s) n σ τ
    | 37 => am_binL st fun a b s => k nx L (.long (a - b) :: s) n σ τ
    | 38 => am_binL st fun a b s => k nx L (.long (a * b) :: s) n σ τ
    | 39 => am_binL st fun a b s => ¬ b = 0 ∧ k nx L (.long (a / b) :: s) n σ τ
    | 40 => am_binL st fun a b s => ¬ b = 0 ∧ k nx L (.long (a - a / b * b) :: s) n σ τ
    | 41 => am_binL st fun a b s => k nx L (.int (lg_cmp a b) :: s) n σ τ
    | 42 => k nx L (.long lc :: st) n σ τ
    | 43 => k nx L (.long lc :: st) n σ τ
    | 44 => am_un st fun a s => am_if (a = 0) (k y L s n σ τ) (k nx L s n σ τ)
    | 45 => am_un st fun a s => am_if (a = 0) (k nx L s n σ τ) (k y L s n σ τ)
    | 46 => am_un st fun a s => am_if (a < 0) (k y L s n σ τ) (k nx L s n σ τ)
    | 47 => am_un st fun a s => am_if (0 ≤ a) (k y L s n σ τ) (k nx L s n σ τ)
    | 48 => am_un st fun a s => am_if (0 < a) (k y L s n σ τ) (k nx L s n σ τ)
    | 49 => am_un st fun a s => am_if (a ≤ 0) (k y L s n σ τ) (k nx L s n σ τ)
    | 50 => am_bin st fun a b s => am_if (a = b) (k y L s n σ τ) (k nx L s n σ τ)
    | 51 => am_bin st fun a b s => am_if (a = b) (k nx L s n σ τ) (k y L s n σ τ)
    | 52 => am_bin st fun a b s => am_if (a < b) (k y L s n σ τ) (k nx L s n σ τ)
    | 53 => am_bin st fun a b s => am_if (b ≤ a) (k y L s n σ τ) (k nx L s n σ τ)
    | 54 => am_bin st fun a b s => am_if (b < a) (k y L s n σ τ) (k nx L s n σ τ)
    | 55 => am_bin st fun a b s => am_if (a ≤ b) (k y L s n σ τ) (k nx L s n σ τ)
    | 56 => k y L st n σ τ
    | 57 => match st with
      | .ref _ :: s => k nx L s n σ τ
      | .null :: s => k y L s n σ τ
      | _ => False
    | 58 => match st with
      | .ref _ :: s => k y L s n σ τ
      | .null :: s => k nx L s n σ τ
      | _ => False
    | 59 => am_un st fun v s => am_sw v y (fun t => k t L s n σ τ) tg
    | 60 => am_un st fun v s => am_sw v y (fun t => k t L s n σ τ) tg
    | op + 61 => am_mem X Γ P nf nx op x y tg L st n σ τ k r
def am_vc (X : am_X) (T : Nat → Option am_AI) (Γ : Nat → am_C) (P nf : Nat) (stop : Nat → Bool) (K : am_K) (r : am_Rt) : Nat → am_K
  | 0, pc, L, st, n, σ, τ => K pc L st n σ τ
  | f + 1, pc, L, st, n, σ, τ => match T pc with
    | none => False
    | some ai => am_step X Γ P nf ai L st n σ τ (fun pc' L' st' n' σ' τ' => match stop pc' with
      | true => K pc' L' st' n' σ' τ'
      | false => am_vc X T Γ P nf stop K r f pc' L' st' n' σ' τ') r
def am_tgs : List Nat → List Nat
  | _ :: t :: r => t :: am_tgs r
  | _ => []
def am_prs (pc : Nat) : List Nat → List (Int × Int)
  | a :: t :: r => ((a : Int), (t : Int) - pc) :: am_prs pc r
  | _ => []
def am_seq : Nat → List Nat → Bool
  | i, a :: _ :: r => Nat.beq a i && am_seq (i + 1) r
  | _, [] => true
  | _, _ => false
def am_inc : List Nat → Bool
  | a :: t :: b :: u :: r => Nat.blt a b && am_inc (b :: u :: r)
  | [_, _] => true
  | [] => true
  | _ => false
def am_insM (pc nx op x : Nat) (tg : List Nat) : Instr × Nat := match op with
  | 0 => (.getfield (tg.getD 0 0), 3)
  | 1 => (.getfield (tg.getD 0 0), 3)
  | 2 => (.getfield (tg.getD 0 0), 3)
  | 3 => (.putfield (tg.getD 0 0), 3)
  | 4 => (.putfield (tg.getD 0 0), 3)
  | 5 => (.putfield (tg.getD 0 0), 3)
  | 6 => (.putfield (tg.getD 0 0), 3)
  | 7 => (.iaload, 1)
  | 8 => (.iastore, 1)
  | 9 => (.baload, 1)
  | 10 => (.bastore, 1)
  | 11 => (.aaload, 1)
  | 12 => (.aastore, 1)
  | 13 => (.arraylength, 1)
  | 14 => (.new (tg.getD 0 0), 3)
  | 15 => (.newarray .int, 2)
  | 16 => (.newarray .boolean, 2)
  | 17 => (.anewarray (tg.getD 0 0), 3)
  | 18 => (.multianewarray (tg.getD 0 0) 2, 4)
  | 19 => (.invokevirtual (tg.getD 0 0), 3)
  | 20 => (.invokestatic (tg.getD 0 0), 3)
  | 21 => (.invokespecial (tg.getD 0 0), 3)
  | 22 => (.invokevirtual (tg.getD 0 0), 3)
  | 23 => (.invokespecial (tg.getD 0 0), 3)
  | 24 => (.invokestatic (tg.getD 0 0), 3)
  | 25 => (.ireturn, 1)
  | 26 => (.ireturn, 1)
  | 27 => (.lreturn, 1)
  | 28 => (.return_, 1)
  | 29 => (.iaload, 1)
  | 30 => (.arraylength, 1)
  | 31 => (.invokestatic (tg.getD 0 0), 3)
  | 32 => (.invokespecial (tg.getD 0 0), 3)
  | _ => (.nop, 1)
def am_ins (pc : Nat) (ai : am_AI) : Instr × Nat := match ai with
  | (nx, op, x, y, c, tg, lc) => match op with
    | 0 => (.iconst c.toInt, 1)
    | 1 => (.bipush c.toInt, 2)
    | 2 => (.sipush c.toInt, 3)
    | 3 => (.ldc_w x, 3)
    | 4 => (.aconst_null, 1)
    | 5 => (.iload x, 2)
    | 6 => (.iload_n (Fin.ofNat 4 x), 1)
    | 7 => (.aload x, 2)
    | 8 => (.aload_n (Fin.ofNat 4 x), 1)
    | 9 => (.lload x, 2)
    | 10 => (.lload_n (Fin.ofNat 4 x), 1)
    | 11 => (.istore x, 2)
    | 12 => (.istore_n (Fin.ofNat 4 x), 1)
    | 13 => (.astore x, 2)
    | 14 => (.astore_n (Fin.ofNat 4 x), 1)
    | 15 => (.lstore x, 2)
    | 16 => (.lstore_n (Fin.ofNat 4 x), 1)
    | 17 => (.iinc x c.toInt, 3)
    | 18 => (.dup, 1)
    | 19 => (.pop, 1)
    | 20 => (.dup2, 1)
    | 21 => (.iadd, 1)
    | 22 => (.isub, 1)
    | 23 => (.imul, 1)
    | 24 => (.idiv, 1)
    | 25 => (.irem, 1)
    | 26 => (.ineg, 1)
    | 27 => (.ishl, 1)
    | 28 => (.ishr, 1)
    | 29 => (.iushr, 1)
    | 30 => (.iand, 1)
    | 31 => (.ior, 1)
    | 32 => (.i2b, 1)
    | 33 => (.i2s, 1)
    | 34 => (.i2l, 1)
    | 35 => (.l2i, 1)
    | 36 => (.ladd, 1)
    | 37 => (.lsub, 1)
    | 38 => (.lmul, 1)
    | 39 => (.ldiv, 1)
    | 40 => (.lrem, 1)
    | 41 => (.lcmp, 1)
    | 42 => (.lconst (Fin.ofNat 2 x), 1)
    | 43 => (.ldc2_w x, 3)
    | 44 => (.ifCond .eq ((y : Int) - pc), 3)
    | 45 => (.ifCond .ne ((y : Int) - pc), 3)
    | 46 => (.ifCond .lt ((y : Int) - pc), 3)
    | 47 => (.ifCond .ge ((y : Int) - pc), 3)
    | 48 => (.ifCond .gt ((y : Int) - pc), 3)
    | 49 => (.ifCond .le ((y : Int) - pc), 3)
    | 50 => (.if_icmp .eq ((y : Int) - pc), 3)
    | 51 => (.if_icmp .ne ((y : Int) - pc), 3)
    | 52 => (.if_icmp .lt ((y : Int) - pc), 3)
    | 53 => (.if_icmp .ge ((y : Int) - pc), 3)
    | 54 => (.if_icmp .gt ((y : Int) - pc), 3)
    | 55 => (.if_icmp .le ((y : Int) - pc), 3)
    | 56 => (.goto ((y : Int) - pc), 3)
    | 57 => (.ifnull ((y : Int) - pc), 3)
    | 58 => (.ifnonnull ((y : Int) - pc), 3)
    | 59 => (.tableswitch ((y : Int) - pc) (tg.getD 0 0 : Nat) ((tg.getD 0 0 : Nat) + ((am_tgs tg).length : Nat) - 1) ((am_tgs tg).map fun (t : Nat) => (t : Int) - (pc : Int)).toArray, nx - pc)
    | 60 => (.lookupswitch ((y : Int) - pc) (am_prs pc tg).toArray, nx - pc)
    | op + 61 => am_insM pc nx op x tg
def am_nw (w : Cond) : Bool := match w with
  | .methodLinkNest .. => true
  | .fieldLinkNest .. => true
  | .arrayOver (.object _) => true
  | .arrayOver (.array _) => true
  | _ => false
def am_okw (w : Cond) : Bool := goodWord w || am_nw w
def am_tb : List Cond := lw_tbl.filter am_okw
theorem am_tbm {w : Cond} (h : w ∈ lw_tbl) (h2 : am_okw w = true) : w ∈ am_tb := List.mem_filter.mpr ⟨h, h2⟩
def am_lk (w : Cond) (i : Nat) : Bool := decide (lw_tbl[i]? = some w) && am_okw w
theorem am_lk_mem {w : Cond} {i : Nat} (h : am_lk w i = true) : w ∈ am_tb := by
  have h2 := Bool.and_eq_true _ _ ▸ h
  exact am_tbm (List.mem_of_getElem? (of_decide_eq_true h2.1)) h2.2
def am_sideM (own : String) (rt : Option FieldType) (kd : Nat) (op x y : Nat) (tg : List Nat) : Bool := match op with
  | 0 => am_lk (.fieldLink own (tg.getD 0 0) (am_T x y).1 (am_T x y).2.1 (am_T x y).2.2.1) (tg.getD 1 0) && !am_isr x y && Nat.blt y (am_N x) && Nat.blt x 9
  | 1 => am_lk (.fieldLink own (tg.getD 0 0) (am_T x y).1 (am_T x y).2.1 (am_T x y).2.2.1) (tg.getD 1 0) && am_isr x y && Nat.blt y (am_N x) && Nat.blt x 9
  | 2 => am_lk (.fieldLinkNest own (tg.getD 0 0) (am_T x y).1 (am_T x y).2.1 (am_T x y).2.2.1 "CanalEnd") (tg.getD 1 0) && !am_isr x y && Nat.blt y (am_N x) && Nat.blt x 9
  | 3 => am_lk (.fieldLink own (tg.getD 0 0) (am_T x y).1 (am_T x y).2.1 (am_T x y).2.2.1) (tg.getD 1 0) && !am_isr x y && Nat.blt y (am_N x) && Nat.blt x 9 && !(am_T x y).2.2.2 && decide (am_ty x y = .int)
  | 4 => am_lk (.fieldLink own (tg.getD 0 0) (am_T x y).1 (am_T x y).2.1 (am_T x y).2.2.1) (tg.getD 1 0) && !am_isr x y && Nat.blt y (am_N x) && Nat.blt x 9 && !(am_T x y).2.2.2 && decide (am_ty x y = .boolean)
  | 5 => am_lk (.fieldLink own (tg.getD 0 0) (am_T x y).1 (am_T x y).2.1 (am_T x y).2.2.1) (tg.getD 1 0) && am_isr x y && Nat.blt y (am_N x) && Nat.blt x 9 && !(am_T x y).2.2.2
  | 6 => am_lk (.fieldLink own (tg.getD 0 0) (am_T x y).1 (am_T x y).2.1 (am_T x y).2.2.1) (tg.getD 1 0) && am_isr x y && Nat.blt y (am_N x) && Nat.blt x 9 && (am_T x y).2.2.2 && decide ((am_T x y).1 = own) && Nat.beq kd 2
  | 14 => am_lk (.classLink own (tg.getD 0 0) (am_R x)) (tg.getD 1 0) && am_lk (.instantiable (am_R x) (am_N x)) (tg.getD 2 0) && am_lk (.initialized (am_R x)) (tg.getD 3 0) && Nat.blt x 9
  | 17 => am_lk (.classLink own (tg.getD 0 0) "CanalEnd$Sheet") (tg.getD 1 0)
  | 18 => am_lk (.classLink own (tg.getD 0 0) "[[I") (tg.getD 1 0) && Nat.ble y 10000
  | 19 => am_lk (.methodLink own (tg.getD 0 0) (am_y x)) (tg.getD 1 0) && Nat.beq y (am_np x + 1) && Nat.beq (am_kd x) 0
  | 20 => am_lk (.methodLink own (tg.getD 0 0) (am_y x)) (tg.getD 1 0) && Nat.beq y (am_np x) && Nat.beq (am_kd x) 1
  | 21 => am_lk (.methodLink own (tg.getD 0 0) (am_y x)) (tg.getD 1 0) && Nat.beq y (am_np x + 1) && Nat.beq (am_kd x) 2
  | 22 => am_lk (.methodLink own (tg.getD 0 0) (am_y x)) (tg.getD 1 0) && Nat.beq y (am_np x + 1) && Nat.beq (am_kd x) 0
  | 23 => am_lk (.methodLink own (tg.getD 0 0) objectInit) (tg.getD 1 0)
  | 24 => am_lk (.methodLink own (tg.getD 0 0) arraycopyName) (tg.getD 1 0)
  | 25 => decide (rt = some .int)
  | 26 => decide (rt = some .boolean)
  | 27 => decide (rt = some .long)
  | 28 => decide (rt = none)
  | 31 => am_lk (.methodLinkNest own (tg.getD 0 0) (am_y x) "CanalEnd") (tg.getD 1 0) && Nat.beq y (am_np x) && Nat.beq (am_kd x) 1
  | 32 => am_lk (.methodLinkNest own (tg.getD 0 0) (am_y x) "CanalEnd") (tg.getD 1 0) && Nat.beq y (am_np x + 1) && Nat.beq (am_kd x) 2
  | _ => true
def am_side (own : String) (rt : Option FieldType) (kd : Nat) (ai : am_AI) : Bool := match ai with
  | (nx, op, x, y, c, tg, lc) => match op with
    | 0 => decide (Int32.ofInt c.toInt = c)
    | 1 => decide ((Int8.ofInt c.toInt).toInt32 = c)
    | 2 => decide ((Int16.ofInt c.toInt).toInt32 = c)
    | 3 => am_lk (.constant own x c) y
    | 6 => Nat.blt x 4
    | 8 => Nat.blt x 4
    | 10 => Nat.blt x 4
    | 12 => Nat.blt x 4
    | 14 => Nat.blt x 4
    | 16 => Nat.blt x 4
    | 17 => decide (Int32.ofInt c.toInt = c)
    | 42 => Nat.blt x 2 && decide (Int64.ofNat x = lc)
    | 43 => am_lk (.constantLong own x lc) y
    | 59 => am_seq (tg.getD 0 0) tg && Nat.blt 0 (am_tgs tg).length && tg.all fun a => Nat.blt a 100000
    | 60 => am_inc tg && tg.all fun a => Nat.blt a 100000
    | op + 61 => am_sideM own rt kd op x y tg
    | _ => true
def am_chk (own : String) (rt : Option FieldType) (kd : Nat) (cc : ByteArray) (pc : Nat) (ai : am_AI) : Bool := (match decode cc pc with
  | .ok r => decide (r = am_ins pc ai)
  | _ => false) && Nat.beq ai.1 (pc + (am_ins pc ai).2) && am_side own rt kd ai
end
section
theorem am_memp {big : List Cond} (ws : List Cond) (ps : List Nat) (hp : ws = ps.filterMap (fun i => big[i]?)) : ∀ w ∈ ws, w ∈ big := by
  intro w hw
  rw [hp] at hw
  obtain ⟨i, -, hi⟩ := List.mem_filterMap.mp hw
  exact List.mem_of_getElem? hi
theorem am_in0 : ∀ w ∈ u_ws RX0 TX0 14, w ∈ am_tb := fun w h => am_tbm (am_memp (big := lw_tbl) (u_ws RX0 TX0 14) [127, 129, 131, 133, 135, 137, 139, 141, 143, 145, 147, 149, 151, 153] (by decide +kernel) w h) (List.all_eq_true.mp (show (u_ws RX0 TX0 14).all am_okw = true by decide +kernel) w h)
theorem am_in1 : ∀ w ∈ u_ws RX1 TX1 3, w ∈ am_tb := fun w h => am_tbm (am_memp (big := lw_tbl) (u_ws RX1 TX1 3) [224, 226, 228] (by decide +kernel) w h) (List.all_eq_true.mp (show (u_ws RX1 TX1 3).all am_okw = true by decide +kernel) w h)
theorem am_in2 : ∀ w ∈ u_ws RX2 TX2 2, w ∈ am_tb := fun w h => am_tbm (am_memp (big := lw_tbl) (u_ws RX2 TX2 2) [300, 302] (by decide +kernel) w h) (List.all_eq_true.mp (show (u_ws RX2 TX2 2).all am_okw = true by decide +kernel) w h)
theorem am_in3 : ∀ w ∈ u_ws RX3 TX3 7, w ∈ am_tb := fun w h => am_tbm (am_memp (big := lw_tbl) (u_ws RX3 TX3 7) [196, 198, 200, 202, 204, 206, 208] (by decide +kernel) w h) (List.all_eq_true.mp (show (u_ws RX3 TX3 7).all am_okw = true by decide +kernel) w h)
theorem am_in4 : ∀ w ∈ u_ws RX4 TX4 4, w ∈ am_tb := fun w h => am_tbm (am_memp (big := lw_tbl) (u_ws RX4 TX4 4) [319, 321, 323, 325] (by decide +kernel) w h) (List.all_eq_true.mp (show (u_ws RX4 TX4 4).all am_okw = true by decide +kernel) w h)
theorem am_in5 : ∀ w ∈ u_ws RX5 TX5 4, w ∈ am_tb := fun w h => am_tbm (am_memp (big := lw_tbl) (u_ws RX5 TX5 4) [168, 170, 172, 174] (by decide +kernel) w h) (List.all_eq_true.mp (show (u_ws RX5 TX5 4).all am_okw = true by decide +kernel) w h)
theorem am_in6 : ∀ w ∈ u_ws RX6 TX6 15, w ∈ am_tb := fun w h => am_tbm (am_memp (big := lw_tbl) (u_ws RX6 TX6 15) [259, 261, 263, 265, 267, 269, 271, 273, 275, 277, 279, 281, 283, 285, 287] (by decide +kernel) w h) (List.all_eq_true.mp (show (u_ws RX6 TX6 15).all am_okw = true by decide +kernel) w h)
theorem am_in7 : ∀ w ∈ u_ws RX7 TX7 12, w ∈ am_tb := fun w h => am_tbm (am_memp (big := lw_tbl) (u_ws RX7 TX7 12) [340, 342, 344, 346, 348, 350, 352, 354, 356, 358, 360, 362] (by decide +kernel) w h) (List.all_eq_true.mp (show (u_ws RX7 TX7 12).all am_okw = true by decide +kernel) w h)
theorem am_in8 : ∀ w ∈ u_ws RX8 TX8 51, w ∈ am_tb := fun w h => am_tbm (am_memp (big := lw_tbl) (u_ws RX8 TX8 51) [881, 883, 885, 887, 889, 891, 893, 895, 897, 899, 901, 903, 905, 907, 909, 911, 913, 915, 917, 919, 921, 923, 925, 927, 929, 931, 933, 935, 937, 939, 941, 943, 945, 947, 949, 951, 953, 955, 957, 959, 961, 963, 965, 967, 969, 971, 973, 975, 977, 979, 981] (by decide +kernel) w h) (List.all_eq_true.mp (show (u_ws RX8 TX8 51).all am_okw = true by decide +kernel) w h)
theorem am_cls {x : Nat} (hx : x < 9) : vwCl[x]? = some (am_R x, am_T x, am_N x) ∧ (∀ w ∈ u_ws (am_R x) (am_T x) (am_N x), w ∈ am_tb) ∧ (∀ k, k < am_N x → parseFieldDescriptor (am_T x k).2.2.1 = some (am_ty x k)) ∧ (∀ a, a < am_N x → ∀ b, b < am_N x → a ≠ b → (am_T x a).2.1 ≠ (am_T x b).2.1) := by
  rcases (show x = 0 ∨ x = 1 ∨ x = 2 ∨ x = 3 ∨ x = 4 ∨ x = 5 ∨ x = 6 ∨ x = 7 ∨ x = 8 by omega) with rfl | rfl | rfl | rfl | rfl | rfl | rfl | rfl | rfl
  · exact ⟨rfl, am_in0, tyX0_ok, nmX0⟩
  · exact ⟨rfl, am_in1, tyX1_ok, nmX1⟩
  · exact ⟨rfl, am_in2, tyX2_ok, nmX2⟩
  · exact ⟨rfl, am_in3, tyX3_ok, nmX3⟩
  · exact ⟨rfl, am_in4, tyX4_ok, nmX4⟩
  · exact ⟨rfl, am_in5, tyX5_ok, nmX5⟩
  · exact ⟨rfl, am_in6, tyX6_ok, nmX6⟩
  · exact ⟨rfl, am_in7, tyX7_ok, nmX7⟩
  · exact ⟨rfl, am_in8, tyX8_ok, nmX8⟩
def am_refty : FieldType → Bool
  | .object _ => true
  | .array _ => true
  | _ => false
def am_intty : FieldType → Bool
  | .int => true
  | .boolean => true
  | _ => false
theorem am_fty {x k : Nat} (hx : x < 9) (hk : k < am_N x) : (am_isr x k = true → am_refty (am_ty x k) = true) ∧ (am_isr x k = false → am_intty (am_ty x k) = true) := by
  rcases (show x = 0 ∨ x = 1 ∨ x = 2 ∨ x = 3 ∨ x = 4 ∨ x = 5 ∨ x = 6 ∨ x = 7 ∨ x = 8 by omega) with rfl | rfl | rfl | rfl | rfl | rfl | rfl | rfl | rfl
  · exact (show ∀ k, k < 14 → (am_isr 0 k = true → am_refty (am_ty 0 k) = true) ∧ (am_isr 0 k = false → am_intty (am_ty 0 k) = true) by decide +kernel) k hk
  · exact (show ∀ k, k < 3 → (am_isr 1 k = true → am_refty (am_ty 1 k) = true) ∧ (am_isr 1 k = false → am_intty (am_ty 1 k) = true) by decide +kernel) k hk
  · exact (show ∀ k, k < 2 → (am_isr 2 k = true → am_refty (am_ty 2 k) = true) ∧ (am_isr 2 k = false → am_intty (am_ty 2 k) = true) by decide +kernel) k hk
  · exact (show ∀ k, k < 7 → (am_isr 3 k = true → am_refty (am_ty 3 k) = true) ∧ (am_isr 3 k = false → am_intty (am_ty 3 k) = true) by decide +kernel) k hk
  · exact (show ∀ k, k < 4 → (am_isr 4 k = true → am_refty (am_ty 4 k) = true) ∧ (am_isr 4 k = false → am_intty (am_ty 4 k) = true) by decide +kernel) k hk
  · exact (show ∀ k, k < 4 → (am_isr 5 k = true → am_refty (am_ty 5 k) = true) ∧ (am_isr 5 k = false → am_intty (am_ty 5 k) = true) by decide +kernel) k hk
  · exact (show ∀ k, k < 15 → (am_isr 6 k = true → am_refty (am_ty 6 k) = true) ∧ (am_isr 6 k = false → am_intty (am_ty 6 k) = true) by decide +kernel) k hk
  · exact (show ∀ k, k < 12 → (am_isr 7 k = true → am_refty (am_ty 7 k) = true) ∧ (am_isr 7 k = false → am_intty (am_ty 7 k) = true) by decide +kernel) k hk
  · exact (show ∀ k, k < 51 → (am_isr 8 k = true → am_refty (am_ty 8 k) = true) ∧ (am_isr 8 k = false → am_intty (am_ty 8 k) = true) by decide +kernel) k hk
theorem am_bin_inv {st : List Value} {f : Int32 → Int32 → List Value → Prop} (h : am_bin st f) : ∃ x y r, st = .int y :: .int x :: r ∧ f x y r := by
  unfold am_bin at h
  split at h
  · exact ⟨_, _, _, rfl, h⟩
  · exact h.elim
theorem am_binL_inv {st : List Value} {f : Int64 → Int64 → List Value → Prop} (h : am_binL st f) : ∃ x y r, st = .long y :: .long x :: r ∧ f x y r := by
  unfold am_binL at h
  split at h
  · exact ⟨_, _, _, rfl, h⟩
  · exact h.elim
theorem am_un_inv {st : List Value} {f : Int32 → List Value → Prop} (h : am_un st f) : ∃ x r, st = .int x :: r ∧ f x r := by
  unfold am_un at h
  split at h
  · exact ⟨_, _, rfl, h⟩
  · exact h.elim
theorem am_rf_inv {st : List Value} {f : Nat → List Value → Prop} (h : am_rf st f) : ∃ q r, st = .ref q :: r ∧ f q r := by
  unfold am_rf at h
  split at h
  · exact ⟨_, _, rfl, h⟩
  · exact h.elim
theorem am_gd_inv {b : Bool} {a : Prop} (h : am_gd b a) : b = true ∧ a := by
  cases b with
  | true => exact ⟨rfl, h⟩
  | false => exact h.elim
theorem am_gd_of {b : Bool} {a : Prop} (hb : b = true) (h : a) : am_gd b a := by
  subst hb
  exact h
theorem am_ld0_inv {o : Option Value} {f : Value → Prop} (h : am_ld o f 0) : ∃ v, o = some (.int v) ∧ f (.int v) := by
  cases o with
  | none => exact False.elim h
  | some w => cases w <;> first | exact ⟨_, rfl, h⟩ | exact False.elim h
theorem am_ld1_inv {o : Option Value} {f : Value → Prop} (h : am_ld o f 1) : ∃ v, o = some (.ref v) ∧ f (.ref v) := by
  cases o with
  | none => exact False.elim h
  | some w => cases w <;> first | exact ⟨_, rfl, h⟩ | exact False.elim h
theorem am_ld2_inv {o : Option Value} {f : Value → Prop} (h : am_ld o f 2) : ∃ v, o = some (.long v) ∧ f (.long v) := by
  cases o with
  | none => exact False.elim h
  | some w => cases w <;> first | exact ⟨_, rfl, h⟩ | exact False.elim h
theorem am_setK_inv : ∀ (L : am_L) (i : Nat) (v : Option Value) (k : am_L → Prop), am_setK L i v k → i < L.length ∧ k (L.set i v)
  | [], _, _, _, h => h.elim
  | a :: t, 0, v, k, h => ⟨by simp, h⟩
  | a :: t, i + 1, v, k, h => by
    obtain ⟨h1, h2⟩ := am_setK_inv t i v _ h
    exact ⟨by simp; omega, h2⟩
theorem am_takeK_inv : ∀ (m : Nat) (st acc : List Value) (k : List Value → List Value → Prop), am_takeK m st acc k → ∃ av s, st = av.reverse ++ s ∧ av.length = m ∧ k (av ++ acc) s
  | 0, st, acc, k, h => ⟨[], st, rfl, rfl, h⟩
  | m + 1, v :: st, acc, k, h => by
    obtain ⟨av, s, h1, h2, h3⟩ := am_takeK_inv m st (v :: acc) k h
    refine ⟨av ++ [v], s, by rw [h1]; simp, by simp [h2], by simpa using h3⟩
  | _ + 1, [], _, _, h => h.elim
theorem am_nth_set : ∀ (L : am_L) (i j : Nat) (v : Option Value), i < L.length → am_nth (L.set i v) j = if j = i then v else am_nth L j
  | [], i, j, v, h => by simp at h
  | a :: t, 0, 0, v, h => rfl
  | a :: t, 0, j + 1, v, h => by simp [am_nth]
  | a :: t, i + 1, 0, v, h => by simp [am_nth]
  | a :: t, i + 1, j + 1, v, h => by
    have := am_nth_set t i j v (by simp at h; omega)
    simp [am_nth, this]
theorem am_nth_lt : ∀ (L : am_L) (i : Nat) (v : Value), am_nth L i = some v → i < L.length
  | [], i, v, h => by simp [am_nth] at h
  | a :: t, 0, v, h => by simp
  | a :: t, i + 1, v, h => by
    have := am_nth_lt t i v h
    simp; omega
def am_cv (ρ : Nat → Nat) (v : Value) : Value := match v with
  | .ref q => .ref (ρ q)
  | v => v
theorem am_cv_cat (ρ : Nat → Nat) (v : Value) : (am_cv ρ v).category = v.category := by cases v <;> rfl
def am_ro (ρ : Nat → Nat) : Nat → Option Nat
  | 0 => none
  | z + 1 => some (ρ z)
def am_fv (ρ : Nat → Nat) (ci : Nat) (σ : am_Sg) (τ : am_Tu) (q k : Nat) : Value := bif am_isr ci k then va_rf (am_ro ρ (τ q k)) else .int (σ q k)
def am_cell (z : am_Z) (ρ : Nat → Nat) (σ : am_Sg) (τ : am_Tu) (q : Nat) : va_E :=
  bif Nat.beq (am_knd q) 10 then .inl (z.1, am_len q, .inl (σ q)) else
  bif Nat.beq (am_knd q) 11 then .inl (z.2.1, am_len q, .inl (σ q)) else
  bif Nat.beq (am_knd q) 12 then .inl (z.2.2.1, am_len q, .inr (.inr (.inr (.inr (fun i => am_ro ρ (τ q i)))))) else
  bif Nat.beq (am_knd q) 13 then .inl (z.2.2.2, am_len q, .inr (.inr (.inr (.inr (fun i => am_ro ρ (τ q i)))))) else
  .inr (am_knd q, (List.range (am_N (am_knd q))).map (am_fv ρ (am_knd q) σ τ q))
def am_ws (z : am_Z) (ρ : Nat → Nat) (n : Nat) (σ : am_Sg) (τ : am_Tu) : va_W := (List.range n).map fun q => (ρ q, am_cell z ρ σ τ q)
def am_tys (z : am_Z) : List (ClassId × FieldType) := [(z.1, .int), (z.2.1, .boolean), (z.2.2.1, .object "CanalEnd$Sheet"), (z.2.2.2, .array .int)]
def am_Wd (D : va_G) (z : am_Z) (ρ : Nat → Nat) (n : Nat) (σ : am_Sg) (τ : am_Tu) (A : Nat → Prop) (H : Heap) : Prop :=
  va_P D vwCl (am_ws z ρ n σ τ) H ∧ va_D A (am_ws z ρ n σ τ) ∧ ∀ q, q < n → ∀ i, τ q i ≤ n
def am_has (ρ : Nat → Nat) (ls : Array Slot) (nL : Nat) (L : am_L) : Prop := ls.size = nL ∧ lv_wf ls ∧ L.length = nL ∧ ∀ i v, am_nth L i = some v → ls[i]? = some (.val (am_cv ρ v))
def am_lvl (ρ : Nat → Nat) (L : am_L) : List (Nat × Value) := (List.range L.length).filterMap fun i => (am_nth L i).map fun v => (i, am_cv ρ v)
theorem am_lvl_mem {ρ : Nat → Nat} {L : am_L} {q : Nat × Value} : q ∈ am_lvl ρ L ↔ ∃ v, am_nth L q.1 = some v ∧ q.2 = am_cv ρ v := by
  unfold am_lvl
  rw [List.mem_filterMap]
  constructor
  · rintro ⟨i, hi, h⟩
    cases hv : am_nth L i with
    | none => rw [hv] at h; cases h
    | some v => rw [hv] at h; cases h; exact ⟨v, hv, rfl⟩
  · rintro ⟨v, h1, h2⟩
    refine ⟨q.1, List.mem_range.mpr (am_nth_lt L _ v h1), ?_⟩
    rw [h1]
    show some (q.1, am_cv ρ v) = some q
    rw [← h2]
theorem am_has.lv {ρ : Nat → Nat} {ls : Array Slot} {nL : Nat} {L : am_L} (h : am_has ρ ls nL L) : lv_has ls nL (am_lvl ρ L) := by
  refine ⟨h.1, h.2.1, fun q hq => ?_⟩
  obtain ⟨v, h1, h2⟩ := am_lvl_mem.mp hq
  rw [h2]
  exact h.2.2.2 _ _ h1
theorem am_nl_spec {L : am_L} {x j : Nat} {v : Value} (h : am_nl L x = true) (hj : am_nth L j = some v) (e : j + 1 = x) : ¬ v.category = 2 := by
  subst e
  unfold am_nl at h
  simp only [hj] at h
  cases v <;> simp [Value.category] at h ⊢
theorem am_has.set1 {ρ : Nat → Nat} {ls ls' : Array Slot} {nL i : Nat} {L : am_L} {v : Value} (h : am_has ρ ls nL L) (hi : i < L.length) (hnl : ∀ j w, am_nth L j = some w → j + 1 = i → ¬ w.category = 2) (h' : lv_has ls' nL ((i, am_cv ρ v) :: (am_lvl ρ L).filter (fun q => !(q.1 == i) && !(q.1 + 1 == i && q.2.category == 2)))) : am_has ρ ls' nL (L.set i (some v)) := by
  refine ⟨h'.1, h'.2.1, by simp [h.2.2.1], fun j w hj => ?_⟩
  rw [am_nth_set L i j _ hi] at hj
  by_cases e : j = i
  · rw [if_pos e] at hj
    cases hj
    subst e
    exact h'.2.2 (j, am_cv ρ v) List.mem_cons_self
  · rw [if_neg e] at hj
    refine h'.2.2 (j, am_cv ρ w) (List.mem_cons_of_mem _ (List.mem_filter.mpr ⟨am_lvl_mem.mpr ⟨w, hj, rfl⟩, ?_⟩))
    have := hnl j w hj
    rw [← am_cv_cat ρ w] at this
    by_cases e2 : j + 1 = i
    · simp [e, this e2]
    · simp [e, e2]
theorem am_has.set2 {ρ : Nat → Nat} {ls ls' : Array Slot} {nL i : Nat} {L : am_L} {v : Value} (h : am_has ρ ls nL L) (hi : i + 1 < L.length) (hnl : ∀ j w, am_nth L j = some w → j + 1 = i → ¬ w.category = 2) (h' : lv_has ls' nL ((i, am_cv ρ v) :: (am_lvl ρ L).filter (fun q => !(q.1 == i) && (!(q.1 == i + 1) && !(q.1 + 1 == i && q.2.category == 2))))) : am_has ρ ls' nL ((L.set i (some v)).set (i + 1) none) := by
  refine ⟨h'.1, h'.2.1, by simp [h.2.2.1], fun j w hj => ?_⟩
  rw [am_nth_set _ (i + 1) j _ (by simp; omega)] at hj
  by_cases e1 : j = i + 1
  · rw [if_pos e1] at hj
    cases hj
  rw [if_neg e1, am_nth_set L i j _ (by omega)] at hj
  by_cases e : j = i
  · rw [if_pos e] at hj
    cases hj
    subst e
    exact h'.2.2 (j, am_cv ρ v) List.mem_cons_self
  · rw [if_neg e] at hj
    refine h'.2.2 (j, am_cv ρ w) (List.mem_cons_of_mem _ (List.mem_filter.mpr ⟨am_lvl_mem.mpr ⟨w, hj, rfl⟩, ?_⟩))
    have := hnl j w hj
    rw [← am_cv_cat ρ w] at this
    by_cases e2 : j + 1 = i
    · simp [e, e1, this e2]
    · simp [e, e1, e2]
theorem am_nl_cat {L : am_L} {x : Nat} (h : am_nl L x = true) : ∀ j w, am_nth L j = some w → j + 1 = x → ¬ w.category = 2 := fun _ _ hj e => am_nl_spec h hj e
theorem am_ws_get {z : am_Z} {ρ : Nat → Nat} {n q : Nat} {σ : am_Sg} {τ : am_Tu} (hq : q < n) : (am_ws z ρ n σ τ)[q]? = some (ρ q, am_cell z ρ σ τ q) := by
  simp [am_ws, hq]
theorem am_ws_set {z : am_Z} {ρ : Nat → Nat} {n q : Nat} {σ σ' : am_Sg} {τ τ' : am_Tu} {c : va_E} (hc : am_cell z ρ σ' τ' q = c) (ho : ∀ q', ¬ q' = q → am_cell z ρ σ' τ' q' = am_cell z ρ σ τ q') : (am_ws z ρ n σ τ).set q (ρ q, c) = am_ws z ρ n σ' τ' := by
  apply List.ext_getElem?
  intro i
  by_cases e : i = q
  · subst e
    by_cases h : i < n
    · rw [List.getElem?_set_self (by simp [am_ws, h]), am_ws_get h, hc]
    · rw [List.getElem?_eq_none (by simp [am_ws]; omega), List.getElem?_eq_none (by simp [am_ws]; omega)]
  · rw [List.getElem?_set_ne (fun q => e q.symm)]
    by_cases h : i < n
    · rw [am_ws_get h, am_ws_get h, ho i e]
    · rw [List.getElem?_eq_none (by simp [am_ws]; omega), List.getElem?_eq_none (by simp [am_ws]; omega)]
theorem am_ws_push {z : am_Z} {ρ ρ' : Nat → Nat} {n a : Nat} {σ σ' : am_Sg} {τ τ' : am_Tu} {c : va_E} (ha : ρ' n = a) (hr : ∀ q, q < n → ρ' q = ρ q) (hc : am_cell z ρ' σ' τ' n = c) (ho : ∀ q, q < n → am_cell z ρ' σ' τ' q = am_cell z ρ σ τ q) : am_ws z ρ n σ τ ++ [(a, c)] = am_ws z ρ' (n + 1) σ' τ' := by
  unfold am_ws
  rw [List.range_succ, List.map_append]
  congr 1
  · apply List.map_congr_left
    intro q hq
    have := List.mem_range.mp hq
    rw [hr q this, ho q this]
  · simp [ha, hc]
theorem am_cell_o {z : am_Z} {ρ : Nat → Nat} {σ : am_Sg} {τ : am_Tu} {q x : Nat} (hk : am_knd q = x) (hx : x < 9) : am_cell z ρ σ τ q = .inr (x, (List.range (am_N x)).map (am_fv ρ x σ τ q)) := by
  unfold am_cell
  rw [hk]
  rcases (show x = 0 ∨ x = 1 ∨ x = 2 ∨ x = 3 ∨ x = 4 ∨ x = 5 ∨ x = 6 ∨ x = 7 ∨ x = 8 by omega) with rfl | rfl | rfl | rfl | rfl | rfl | rfl | rfl | rfl <;> rfl
theorem am_cell_i {z : am_Z} {ρ : Nat → Nat} {σ : am_Sg} {τ : am_Tu} {q : Nat} (hk : am_knd q = 10) : am_cell z ρ σ τ q = .inl (z.1, am_len q, .inl (σ q)) := by
  unfold am_cell
  rw [hk]
  rfl
theorem am_cell_z {z : am_Z} {ρ : Nat → Nat} {σ : am_Sg} {τ : am_Tu} {q : Nat} (hk : am_knd q = 11) : am_cell z ρ σ τ q = .inl (z.2.1, am_len q, .inl (σ q)) := by
  unfold am_cell
  rw [hk]
  rfl
theorem am_cell_s {z : am_Z} {ρ : Nat → Nat} {σ : am_Sg} {τ : am_Tu} {q : Nat} (hk : am_knd q = 12) : am_cell z ρ σ τ q = .inl (z.2.2.1, am_len q, .inr (.inr (.inr (.inr (fun i => am_ro ρ (τ q i)))))) := by
  unfold am_cell
  rw [hk]
  rfl
theorem am_cell_r {z : am_Z} {ρ : Nat → Nat} {σ : am_Sg} {τ : am_Tu} {q : Nat} (hk : am_knd q = 13) : am_cell z ρ σ τ q = .inl (z.2.2.2, am_len q, .inr (.inr (.inr (.inr (fun i => am_ro ρ (τ q i)))))) := by
  unfold am_cell
  rw [hk]
  rfl
theorem am_cell_cong {z : am_Z} {ρ ρ' : Nat → Nat} {σ σ' : am_Sg} {τ τ' : am_Tu} {q : Nat} (hs : σ' q = σ q) (ht : ∀ i, am_ro ρ' (τ' q i) = am_ro ρ (τ q i)) : am_cell z ρ' σ' τ' q = am_cell z ρ σ τ q := by
  unfold am_cell
  have e : am_fv ρ' (am_knd q) σ' τ' q = am_fv ρ (am_knd q) σ τ q := by
    funext k
    unfold am_fv
    rw [hs, ht]
  have e2 : (fun i => am_ro ρ' (τ' q i)) = (fun i => am_ro ρ (τ q i)) := funext ht
  rw [hs, e, e2]
theorem am_up_ne {α : Type} {f : Nat → Nat → α} {q i a : Nat} {v : α} (h : ¬ a = q) : am_up f q i v a = f a := by
  funext b
  unfold am_up
  rw [show Nat.beq a q = false from Bool.eq_false_iff.mpr (fun z => h (Nat.eq_of_beq_eq_true z))]
  rfl
theorem am_up_self {α : Type} {f : Nat → Nat → α} {q i : Nat} {v : α} (b : Nat) : am_up f q i v q b = if b = i then v else f q b := by
  unfold am_up
  rw [show Nat.beq q q = true from Nat.beq_refl q]
  by_cases e : b = i
  · subst e
    rw [if_pos rfl, show Nat.beq b b = true from Nat.beq_refl b]
    rfl
  · rw [if_neg e, show Nat.beq b i = false from Bool.eq_false_iff.mpr (fun z => e (Nat.eq_of_beq_eq_true z))]
    rfl
theorem am_z_ne {α : Type} {f : Nat → Nat → α} {q a : Nat} {v : α} (h : ¬ a = q) : am_z f q v a = f a := by
  funext b
  unfold am_z
  rw [show Nat.beq a q = false from Bool.eq_false_iff.mpr (fun z => h (Nat.eq_of_beq_eq_true z))]
  rfl
theorem am_z_self {α : Type} {f : Nat → Nat → α} {q : Nat} {v : α} (b : Nat) : am_z f q v q b = v := by
  unfold am_z
  rw [show Nat.beq q q = true from Nat.beq_refl q]
  rfl
theorem am_al_lt {P n q : Nat} (h : am_al P n q = true) (hP : P ≤ n) : q < n := by
  unfold am_al at h
  rcases Bool.or_eq_true _ _ ▸ h with h | h
  · have := Nat.blt_eq.mp h
    omega
  · exact Nat.blt_eq.mp h
def am_sl : Nat → Nat
  | 0 => 0
  | n + 1 => am_sl n + am_len n
theorem am_sl_mono {a b : Nat} (h : a ≤ b) : am_sl a ≤ am_sl b := by
  induction b with
  | zero => have : a = 0 := by omega
            subst this; exact Nat.le_refl _
  | succ b ih =>
    by_cases e : a = b + 1
    · subst e; exact Nat.le_refl _
    · have := ih (by omega)
      show am_sl a ≤ am_sl b + am_len b
      omega
theorem am_set_fv {ρ : Nat → Nat} {x q y : Nat} {σ σ' : am_Sg} {τ τ' : am_Tu} {v : Value} (hy : y < am_N x) (h1 : am_fv ρ x σ' τ' q y = v) (h2 : ∀ k, ¬ k = y → am_fv ρ x σ' τ' q k = am_fv ρ x σ τ q k) : ((List.range (am_N x)).map (am_fv ρ x σ τ q)).set y v = (List.range (am_N x)).map (am_fv ρ x σ' τ' q) := by
  apply List.ext_getElem?
  intro i
  by_cases e : i = y
  · subst e
    rw [List.getElem?_set_self (by simp [hy])]
    simp [hy, h1]
  · rw [List.getElem?_set_ne (fun q => e q.symm)]
    by_cases h : i < am_N x
    · simp [h, h2 i e]
    · rw [List.getElem?_eq_none (by simp; omega), List.getElem?_eq_none (by simp; omega)]
end
section
def am_Wb (p : Program) (l : Launch) (e : Env) (R : Room) (s : State) (m : MethodId) (args : Array Value) (below : List Frame) (meth : Method) (c : Code) (Q : State → Prop) (D : va_G) (z : am_Z) (A : Nat → Prop) (H0 : Heap) (nL n0 nf : Nat) (X : am_X) (ρ0 : Nat → Nat) : am_K := fun pc L st n σ τ =>
  ∀ (ρ : Nat → Nat) (H : Heap) (locs : List Loc) (ls : Array Slot), n0 ≤ n → n ≤ nf → (∀ q, q < n0 ∨ nf ≤ q → ρ q = ρ0 q) → am_Wd D z ρ n σ τ A H → va_S A H0 H locs → am_has ρ ls nL L →
    W p l e R s m args below meth c H locs (n - n0) (am_sl n - am_sl n0) Q (F0 m pc ls (st.map (am_cv ρ)))
def am_Cx (p : Program) (R : Room) (s : State) (m : MethodId) (args : Array Value) (c : Code) (cc : ByteArray) (own : String) (D : va_G) (z : am_Z) (A : Nat → Prop) (H0 : Heap) (nL n0 nf P : Nat) (X : am_X) (ρ0 : Nat → Nat) : Prop :=
  p.tables.exec = Jvm.exec ∧ c.code = cc ∧ c.maxLocals = nL ∧ s.vm.findClass own = some m.cls ∧ (∀ w ∈ am_tb, w.before args s = true) ∧ va_K D vwCl (am_tys z) s ∧ (∀ q, H0.size ≤ q → A q) ∧ (nf - n0 ≤ R.cells ∧ am_sl nf - am_sl n0 ≤ R.slots ∧ 1 ≤ R.frames ∧ 64 ≤ R.locals) ∧ (X.1 = true → va_X (ρ0 1000) X.2.1 X.2.2 s H0 ∧ ρ0 1000 < H0.size ∧ ¬ A (ρ0 1000)) ∧ P ≤ n0 ∧ nf ≤ 1000
section AMA
variable {p : Program} {l : Launch} {e : Env} {R : Room} {s : State} {m : MethodId} {args : Array Value} {below : List Frame} {meth : Method} {c : Code} {Q : State → Prop} {cc : ByteArray} {own : String} {D : va_G} {z : am_Z} {A : Nat → Prop} {H0 : Heap} {nL n0 nf P : Nat} {X : am_X} {ρ0 : Nat → Nat} {pc nx : Nat} {L : am_L} {st : List Value} {n : Nat} {σ : am_Sg} {τ : am_Tu} {k : am_K}
theorem am_s0 (hC : am_Cx p R s m args c cc own D z A H0 nL n0 nf P X ρ0) {w : Int32} (hd : decode cc pc = .ok (.iconst w.toInt, 1)) (hv : Int32.ofInt w.toInt = w) (h : k (pc + 1) L (.int w :: st) n σ τ) (hk : ∀ pc L st n σ τ, k pc L st n σ τ → am_Wb p l e R s m args below meth c Q D z A H0 nL n0 nf X ρ0 pc L st n σ τ) : am_Wb p l e R s m args below meth c Q D z A H0 nL n0 nf X ρ0 pc L st n σ τ := by
  intro ρ H locs ls h0 h1 hX hW hS hl
  exact lv_iconst hC.1 hC.2.1 hd hv (hk _ _ _ _ _ _ h ρ H locs ls h0 h1 hX hW hS hl)
theorem am_s1 (hC : am_Cx p R s m args c cc own D z A H0 nL n0 nf P X ρ0) {w : Int32} (hd : decode cc pc = .ok (.bipush w.toInt, 2)) (hv : (Int8.ofInt w.toInt).toInt32 = w) (h : k (pc + 2) L (.int w :: st) n σ τ) (hk : ∀ pc L st n σ τ, k pc L st n σ τ → am_Wb p l e R s m args below meth c Q D z A H0 nL n0 nf X ρ0 pc L st n σ τ) : am_Wb p l e R s m args below meth c Q D z A H0 nL n0 nf X ρ0 pc L st n σ τ := by
  intro ρ H locs ls h0 h1 hX hW hS hl
  exact lv_bipush hC.1 hC.2.1 hd hv (hk _ _ _ _ _ _ h ρ H locs ls h0 h1 hX hW hS hl)
theorem am_s2 (hC : am_Cx p R s m args c cc own D z A H0 nL n0 nf P X ρ0) {w : Int32} (hd : decode cc pc = .ok (.sipush w.toInt, 3)) (hv : (Int16.ofInt w.toInt).toInt32 = w) (h : k (pc + 3) L (.int w :: st) n σ τ) (hk : ∀ pc L st n σ τ, k pc L st n σ τ → am_Wb p l e R s m args below meth c Q D z A H0 nL n0 nf X ρ0 pc L st n σ τ) : am_Wb p l e R s m args below meth c Q D z A H0 nL n0 nf X ρ0 pc L st n σ τ := by
  intro ρ H locs ls h0 h1 hX hW hS hl
  exact lv_sipush hC.1 hC.2.1 hd hv (hk _ _ _ _ _ _ h ρ H locs ls h0 h1 hX hW hS hl)
theorem am_s3 (hC : am_Cx p R s m args c cc own D z A H0 nL n0 nf P X ρ0) {w : Int32} {x : Nat} (hd : decode cc pc = .ok (.ldc_w x, 3)) (hv : .constant own x w ∈ am_tb) (h : k (pc + 3) L (.int w :: st) n σ τ) (hk : ∀ pc L st n σ τ, k pc L st n σ τ → am_Wb p l e R s m args below meth c Q D z A H0 nL n0 nf X ρ0 pc L st n σ τ) : am_Wb p l e R s m args below meth c Q D z A H0 nL n0 nf X ρ0 pc L st n σ τ := by
  intro ρ H locs ls h0 h1 hX hW hS hl
  exact lv_ldcw hC.1 hC.2.1 hC.2.2.2.1 (hC.2.2.2.2.1 _ hv) hd (hk _ _ _ _ _ _ h ρ H locs ls h0 h1 hX hW hS hl)
theorem am_s4 (hC : am_Cx p R s m args c cc own D z A H0 nL n0 nf P X ρ0) (hd : decode cc pc = .ok (.aconst_null, 1)) (h : k (pc + 1) L (.null :: st) n σ τ) (hk : ∀ pc L st n σ τ, k pc L st n σ τ → am_Wb p l e R s m args below meth c Q D z A H0 nL n0 nf X ρ0 pc L st n σ τ) : am_Wb p l e R s m args below meth c Q D z A H0 nL n0 nf X ρ0 pc L st n σ τ := by
  intro ρ H locs ls h0 h1 hX hW hS hl
  exact lv_null hC.1 hC.2.1 hd (hk _ _ _ _ _ _ h ρ H locs ls h0 h1 hX hW hS hl)
theorem am_s42 (hC : am_Cx p R s m args c cc own D z A H0 nL n0 nf P X ρ0) {w : Int64} {x : Fin 2} (hd : decode cc pc = .ok (.lconst x, 1)) (hv : Int64.ofNat (x : Nat) = w) (h : k (pc + 1) L (.long w :: st) n σ τ) (hk : ∀ pc L st n σ τ, k pc L st n σ τ → am_Wb p l e R s m args below meth c Q D z A H0 nL n0 nf X ρ0 pc L st n σ τ) : am_Wb p l e R s m args below meth c Q D z A H0 nL n0 nf X ρ0 pc L st n σ τ := by
  intro ρ H locs ls h0 h1 hX hW hS hl
  exact lv_lconst hC.1 hC.2.1 hd hv (hk _ _ _ _ _ _ h ρ H locs ls h0 h1 hX hW hS hl)
theorem am_s43 (hC : am_Cx p R s m args c cc own D z A H0 nL n0 nf P X ρ0) {w : Int64} {x : Nat} (hd : decode cc pc = .ok (.ldc2_w x, 3)) (hv : .constantLong own x w ∈ am_tb) (h : k (pc + 3) L (.long w :: st) n σ τ) (hk : ∀ pc L st n σ τ, k pc L st n σ τ → am_Wb p l e R s m args below meth c Q D z A H0 nL n0 nf X ρ0 pc L st n σ τ) : am_Wb p l e R s m args below meth c Q D z A H0 nL n0 nf X ρ0 pc L st n σ τ := by
  intro ρ H locs ls h0 h1 hX hW hS hl
  exact lv_ldc2 hC.1 hC.2.1 hC.2.2.2.1 (hC.2.2.2.2.1 _ hv) hd (hk _ _ _ _ _ _ h ρ H locs ls h0 h1 hX hW hS hl)
theorem am_s5 (hC : am_Cx p R s m args c cc own D z A H0 nL n0 nf P X ρ0) {x : Nat} (hd : decode cc pc = .ok (.iload x, 2)) (h : am_ld (am_nth L x) (fun v => k (pc + 2) L (v :: st) n σ τ) 0) (hk : ∀ pc L st n σ τ, k pc L st n σ τ → am_Wb p l e R s m args below meth c Q D z A H0 nL n0 nf X ρ0 pc L st n σ τ) : am_Wb p l e R s m args below meth c Q D z A H0 nL n0 nf X ρ0 pc L st n σ τ := by
  obtain ⟨v, hv, h⟩ := am_ld0_inv h
  intro ρ H locs ls h0 h1 hX hW hS hl
  exact lv_iload hC.1 hC.2.1 hd (hl.2.2.2 _ _ hv) (hk _ _ _ _ _ _ h ρ H locs ls h0 h1 hX hW hS hl)
theorem am_s6 (hC : am_Cx p R s m args c cc own D z A H0 nL n0 nf P X ρ0) {x : Nat} {i : Fin 4} (hi : (i : Nat) = x) (hd : decode cc pc = .ok (.iload_n i, 1)) (h : am_ld (am_nth L x) (fun v => k (pc + 1) L (v :: st) n σ τ) 0) (hk : ∀ pc L st n σ τ, k pc L st n σ τ → am_Wb p l e R s m args below meth c Q D z A H0 nL n0 nf X ρ0 pc L st n σ τ) : am_Wb p l e R s m args below meth c Q D z A H0 nL n0 nf X ρ0 pc L st n σ τ := by
  obtain ⟨v, hv, h⟩ := am_ld0_inv h
  intro ρ H locs ls h0 h1 hX hW hS hl
  exact lv_iload_n hC.1 hC.2.1 hd hi (hl.2.2.2 _ _ hv) (hk _ _ _ _ _ _ h ρ H locs ls h0 h1 hX hW hS hl)
theorem am_s7 (hC : am_Cx p R s m args c cc own D z A H0 nL n0 nf P X ρ0) {x : Nat} (hd : decode cc pc = .ok (.aload x, 2)) (h : am_ld (am_nth L x) (fun v => k (pc + 2) L (v :: st) n σ τ) 1) (hk : ∀ pc L st n σ τ, k pc L st n σ τ → am_Wb p l e R s m args below meth c Q D z A H0 nL n0 nf X ρ0 pc L st n σ τ) : am_Wb p l e R s m args below meth c Q D z A H0 nL n0 nf X ρ0 pc L st n σ τ := by
  obtain ⟨v, hv, h⟩ := am_ld1_inv h
  intro ρ H locs ls h0 h1 hX hW hS hl
  exact lv_aload hC.1 hC.2.1 hd (hl.2.2.2 _ _ hv) (hk _ _ _ _ _ _ h ρ H locs ls h0 h1 hX hW hS hl)
theorem am_s8 (hC : am_Cx p R s m args c cc own D z A H0 nL n0 nf P X ρ0) {x : Nat} {i : Fin 4} (hi : (i : Nat) = x) (hd : decode cc pc = .ok (.aload_n i, 1)) (h : am_ld (am_nth L x) (fun v => k (pc + 1) L (v :: st) n σ τ) 1) (hk : ∀ pc L st n σ τ, k pc L st n σ τ → am_Wb p l e R s m args below meth c Q D z A H0 nL n0 nf X ρ0 pc L st n σ τ) : am_Wb p l e R s m args below meth c Q D z A H0 nL n0 nf X ρ0 pc L st n σ τ := by
  obtain ⟨v, hv, h⟩ := am_ld1_inv h
  intro ρ H locs ls h0 h1 hX hW hS hl
  exact lv_aload_n hC.1 hC.2.1 hd hi (hl.2.2.2 _ _ hv) (hk _ _ _ _ _ _ h ρ H locs ls h0 h1 hX hW hS hl)
theorem am_s9 (hC : am_Cx p R s m args c cc own D z A H0 nL n0 nf P X ρ0) {x : Nat} (hd : decode cc pc = .ok (.lload x, 2)) (h : am_ld (am_nth L x) (fun v => k (pc + 2) L (v :: st) n σ τ) 2) (hk : ∀ pc L st n σ τ, k pc L st n σ τ → am_Wb p l e R s m args below meth c Q D z A H0 nL n0 nf X ρ0 pc L st n σ τ) : am_Wb p l e R s m args below meth c Q D z A H0 nL n0 nf X ρ0 pc L st n σ τ := by
  obtain ⟨v, hv, h⟩ := am_ld2_inv h
  intro ρ H locs ls h0 h1 hX hW hS hl
  exact lv_lload hC.1 hC.2.1 hd (hl.2.2.2 _ _ hv) (hk _ _ _ _ _ _ h ρ H locs ls h0 h1 hX hW hS hl)
theorem am_s10 (hC : am_Cx p R s m args c cc own D z A H0 nL n0 nf P X ρ0) {x : Nat} {i : Fin 4} (hi : (i : Nat) = x) (hd : decode cc pc = .ok (.lload_n i, 1)) (h : am_ld (am_nth L x) (fun v => k (pc + 1) L (v :: st) n σ τ) 2) (hk : ∀ pc L st n σ τ, k pc L st n σ τ → am_Wb p l e R s m args below meth c Q D z A H0 nL n0 nf X ρ0 pc L st n σ τ) : am_Wb p l e R s m args below meth c Q D z A H0 nL n0 nf X ρ0 pc L st n σ τ := by
  obtain ⟨v, hv, h⟩ := am_ld2_inv h
  intro ρ H locs ls h0 h1 hX hW hS hl
  exact lv_lload_n hC.1 hC.2.1 hd hi (hl.2.2.2 _ _ hv) (hk _ _ _ _ _ _ h ρ H locs ls h0 h1 hX hW hS hl)
theorem am_s11 (hC : am_Cx p R s m args c cc own D z A H0 nL n0 nf P X ρ0) {x : Nat} (hd : decode cc pc = .ok (.istore x, 2)) (h : am_un st fun v s => am_gd (am_nl L x) (am_setK L x (some (.int v)) fun L2 => k (pc + 2) L2 s n σ τ)) (hk : ∀ pc L st n σ τ, k pc L st n σ τ → am_Wb p l e R s m args below meth c Q D z A H0 nL n0 nf X ρ0 pc L st n σ τ) : am_Wb p l e R s m args below meth c Q D z A H0 nL n0 nf X ρ0 pc L st n σ τ := by
  obtain ⟨v, r, rfl, h⟩ := am_un_inv h
  obtain ⟨hn, h⟩ := am_gd_inv h
  obtain ⟨hi9, h⟩ := am_setK_inv _ _ _ _ h
  intro ρ H locs ls h0 h1 hX hW hS hl
  exact lv_istore hC.1 hC.2.1 hd hl.lv (by rw [← hl.2.2.1]; exact hi9) rfl (fun ls2 hl2 => hk _ _ _ _ _ _ h ρ H locs ls2 h0 h1 hX hW hS (am_has.set1 hl hi9 (am_nl_cat hn) hl2))
theorem am_s12 (hC : am_Cx p R s m args c cc own D z A H0 nL n0 nf P X ρ0) {x : Nat} {i : Fin 4} (hi : (i : Nat) = x) (hd : decode cc pc = .ok (.istore_n i, 1)) (h : am_un st fun v s => am_gd (am_nl L x) (am_setK L x (some (.int v)) fun L2 => k (pc + 1) L2 s n σ τ)) (hk : ∀ pc L st n σ τ, k pc L st n σ τ → am_Wb p l e R s m args below meth c Q D z A H0 nL n0 nf X ρ0 pc L st n σ τ) : am_Wb p l e R s m args below meth c Q D z A H0 nL n0 nf X ρ0 pc L st n σ τ := by
  obtain ⟨v, r, rfl, h⟩ := am_un_inv h
  obtain ⟨hn, h⟩ := am_gd_inv h
  obtain ⟨hi9, h⟩ := am_setK_inv _ _ _ _ h
  intro ρ H locs ls h0 h1 hX hW hS hl
  exact lv_istore_n hC.1 hC.2.1 hd hi hl.lv (by rw [← hl.2.2.1]; exact hi9) rfl (fun ls2 hl2 => hk _ _ _ _ _ _ h ρ H locs ls2 h0 h1 hX hW hS (am_has.set1 hl hi9 (am_nl_cat hn) hl2))
theorem am_s13 (hC : am_Cx p R s m args c cc own D z A H0 nL n0 nf P X ρ0) {x : Nat} (hd : decode cc pc = .ok (.astore x, 2)) (h : am_rf st fun v s => am_gd (am_nl L x) (am_setK L x (some (.ref v)) fun L2 => k (pc + 2) L2 s n σ τ)) (hk : ∀ pc L st n σ τ, k pc L st n σ τ → am_Wb p l e R s m args below meth c Q D z A H0 nL n0 nf X ρ0 pc L st n σ τ) : am_Wb p l e R s m args below meth c Q D z A H0 nL n0 nf X ρ0 pc L st n σ τ := by
  obtain ⟨v, r, rfl, h⟩ := am_rf_inv h
  obtain ⟨hn, h⟩ := am_gd_inv h
  obtain ⟨hi9, h⟩ := am_setK_inv _ _ _ _ h
  intro ρ H locs ls h0 h1 hX hW hS hl
  exact lv_astore hC.1 hC.2.1 hd hl.lv (by rw [← hl.2.2.1]; exact hi9) rfl (fun ls2 hl2 => hk _ _ _ _ _ _ h ρ H locs ls2 h0 h1 hX hW hS (am_has.set1 hl hi9 (am_nl_cat hn) hl2))
theorem am_s14 (hC : am_Cx p R s m args c cc own D z A H0 nL n0 nf P X ρ0) {x : Nat} {i : Fin 4} (hi : (i : Nat) = x) (hd : decode cc pc = .ok (.astore_n i, 1)) (h : am_rf st fun v s => am_gd (am_nl L x) (am_setK L x (some (.ref v)) fun L2 => k (pc + 1) L2 s n σ τ)) (hk : ∀ pc L st n σ τ, k pc L st n σ τ → am_Wb p l e R s m args below meth c Q D z A H0 nL n0 nf X ρ0 pc L st n σ τ) : am_Wb p l e R s m args below meth c Q D z A H0 nL n0 nf X ρ0 pc L st n σ τ := by
  obtain ⟨v, r, rfl, h⟩ := am_rf_inv h
  obtain ⟨hn, h⟩ := am_gd_inv h
  obtain ⟨hi9, h⟩ := am_setK_inv _ _ _ _ h
  intro ρ H locs ls h0 h1 hX hW hS hl
  exact lv_astore_n hC.1 hC.2.1 hd hi hl.lv (by rw [← hl.2.2.1]; exact hi9) rfl (fun ls2 hl2 => hk _ _ _ _ _ _ h ρ H locs ls2 h0 h1 hX hW hS (am_has.set1 hl hi9 (am_nl_cat hn) hl2))
theorem am_s15 {v : Int64} {s0 : List Value} (hC : am_Cx p R s m args c cc own D z A H0 nL n0 nf P X ρ0) {x : Nat} (hd : decode cc pc = .ok (.lstore x, 2)) (h : am_gd (am_nl L x) (am_setK L x (some (.long v)) fun L2 => am_setK L2 (x + 1) none fun L3 => k (pc + 2) L3 s0 n σ τ)) (hk : ∀ pc L st n σ τ, k pc L st n σ τ → am_Wb p l e R s m args below meth c Q D z A H0 nL n0 nf X ρ0 pc L st n σ τ) : am_Wb p l e R s m args below meth c Q D z A H0 nL n0 nf X ρ0 pc L (.long v :: s0) n σ τ := by
  obtain ⟨hn, h⟩ := am_gd_inv h
  obtain ⟨hi8, h⟩ := am_setK_inv _ _ _ _ h
  obtain ⟨hi9, h⟩ := am_setK_inv _ _ _ _ h
  rw [List.length_set] at hi9
  intro ρ H locs ls h0 h1 hX hW hS hl
  exact lv_lstore hC.1 hC.2.1 hd hl.lv (by rw [← hl.2.2.1]; exact hi9) rfl (fun ls2 hl2 => hk _ _ _ _ _ _ h ρ H locs ls2 h0 h1 hX hW hS (am_has.set2 (v := .long v) hl hi9 (am_nl_cat hn) hl2))
theorem am_s16 {v : Int64} {s0 : List Value} (hC : am_Cx p R s m args c cc own D z A H0 nL n0 nf P X ρ0) {x : Nat} {i : Fin 4} (hi : (i : Nat) = x) (hd : decode cc pc = .ok (.lstore_n i, 1)) (h : am_gd (am_nl L x) (am_setK L x (some (.long v)) fun L2 => am_setK L2 (x + 1) none fun L3 => k (pc + 1) L3 s0 n σ τ)) (hk : ∀ pc L st n σ τ, k pc L st n σ τ → am_Wb p l e R s m args below meth c Q D z A H0 nL n0 nf X ρ0 pc L st n σ τ) : am_Wb p l e R s m args below meth c Q D z A H0 nL n0 nf X ρ0 pc L (.long v :: s0) n σ τ := by
  obtain ⟨hn, h⟩ := am_gd_inv h
  obtain ⟨hi8, h⟩ := am_setK_inv _ _ _ _ h
  obtain ⟨hi9, h⟩ := am_setK_inv _ _ _ _ h
  rw [List.length_set] at hi9
  intro ρ H locs ls h0 h1 hX hW hS hl
  exact lv_lstore_n hC.1 hC.2.1 hd hi hl.lv (by rw [← hl.2.2.1]; exact hi9) rfl (fun ls2 hl2 => hk _ _ _ _ _ _ h ρ H locs ls2 h0 h1 hX hW hS (am_has.set2 (v := .long v) hl hi9 (am_nl_cat hn) hl2))
theorem am_s17 (hC : am_Cx p R s m args c cc own D z A H0 nL n0 nf P X ρ0) {x : Nat} {w : Int32} (hv : Int32.ofInt w.toInt = w) (hd : decode cc pc = .ok (.iinc x w.toInt, 3)) (h : am_ld (am_nth L x) (fun v => match v with
      | .int v => am_gd (am_nl L x) (am_setK L x (some (.int (v + w))) fun L2 => k (pc + 3) L2 st n σ τ)
      | _ => False) 0) (hk : ∀ pc L st n σ τ, k pc L st n σ τ → am_Wb p l e R s m args below meth c Q D z A H0 nL n0 nf X ρ0 pc L st n σ τ) : am_Wb p l e R s m args below meth c Q D z A H0 nL n0 nf X ρ0 pc L st n σ τ := by
  obtain ⟨v, hx, h⟩ := am_ld0_inv h
  obtain ⟨hn, h⟩ := am_gd_inv h
  obtain ⟨hi9, h⟩ := am_setK_inv _ _ _ _ h
  intro ρ H locs ls h0 h1 hX hW hS hl
  obtain ⟨j, hj⟩ := List.getElem?_of_mem (am_lvl_mem (ρ := ρ) (q := (x, .int v)) |>.mpr ⟨_, hx, rfl⟩)
  exact lv_iinc (v := v + w) hC.1 hC.2.1 hd hl.lv hj (by rw [hv]) (by rw [← hl.2.2.1]; exact hi9) rfl (fun ls2 hl2 => hk _ _ _ _ _ _ h ρ H locs ls2 h0 h1 hX hW hS (am_has.set1 hl hi9 (am_nl_cat hn) hl2))
theorem am_s18i {u v : Int32} {q w : Nat} {r : List Value} (hC : am_Cx p R s m args c cc own D z A H0 nL n0 nf P X ρ0) (hd : decode cc pc = .ok (.dup, 1)) (h : k (pc + 1) L (.int v :: .int v :: r) n σ τ) (hk : ∀ pc L st n σ τ, k pc L st n σ τ → am_Wb p l e R s m args below meth c Q D z A H0 nL n0 nf X ρ0 pc L st n σ τ) : am_Wb p l e R s m args below meth c Q D z A H0 nL n0 nf X ρ0 pc L (.int v :: r) n σ τ := by
  intro ρ H locs ls h0 h1 hX hW hS hl
  exact lv_dup hC.1 hC.2.1 hd rfl (hk _ _ _ _ _ _ h ρ H locs ls h0 h1 hX hW hS hl)
theorem am_s18r {u v : Int32} {q w : Nat} {r : List Value} (hC : am_Cx p R s m args c cc own D z A H0 nL n0 nf P X ρ0) (hd : decode cc pc = .ok (.dup, 1)) (h : k (pc + 1) L (.ref w :: .ref w :: r) n σ τ) (hk : ∀ pc L st n σ τ, k pc L st n σ τ → am_Wb p l e R s m args below meth c Q D z A H0 nL n0 nf X ρ0 pc L st n σ τ) : am_Wb p l e R s m args below meth c Q D z A H0 nL n0 nf X ρ0 pc L (.ref w :: r) n σ τ := by
  intro ρ H locs ls h0 h1 hX hW hS hl
  exact lv_dup hC.1 hC.2.1 hd rfl (hk _ _ _ _ _ _ h ρ H locs ls h0 h1 hX hW hS hl)
theorem am_s19i {u v : Int32} {q w : Nat} {r : List Value} (hC : am_Cx p R s m args c cc own D z A H0 nL n0 nf P X ρ0) (hd : decode cc pc = .ok (.pop, 1)) (h : k (pc + 1) L (r) n σ τ) (hk : ∀ pc L st n σ τ, k pc L st n σ τ → am_Wb p l e R s m args below meth c Q D z A H0 nL n0 nf X ρ0 pc L st n σ τ) : am_Wb p l e R s m args below meth c Q D z A H0 nL n0 nf X ρ0 pc L (.int v :: r) n σ τ := by
  intro ρ H locs ls h0 h1 hX hW hS hl
  exact lv_pop (va := .int v) hC.1 hC.2.1 hd rfl (hk _ _ _ _ _ _ h ρ H locs ls h0 h1 hX hW hS hl)
theorem am_s19r {u v : Int32} {q w : Nat} {r : List Value} (hC : am_Cx p R s m args c cc own D z A H0 nL n0 nf P X ρ0) (hd : decode cc pc = .ok (.pop, 1)) (h : k (pc + 1) L (r) n σ τ) (hk : ∀ pc L st n σ τ, k pc L st n σ τ → am_Wb p l e R s m args below meth c Q D z A H0 nL n0 nf X ρ0 pc L st n σ τ) : am_Wb p l e R s m args below meth c Q D z A H0 nL n0 nf X ρ0 pc L (.ref w :: r) n σ τ := by
  intro ρ H locs ls h0 h1 hX hW hS hl
  exact lv_pop (va := .ref (ρ w)) hC.1 hC.2.1 hd rfl (hk _ _ _ _ _ _ h ρ H locs ls h0 h1 hX hW hS hl)
theorem am_s20 {u v : Int32} {q w : Nat} {r : List Value} (hC : am_Cx p R s m args c cc own D z A H0 nL n0 nf P X ρ0) (hd : decode cc pc = .ok (.dup2, 1)) (h : k (pc + 1) L (.int u :: .ref q :: .int u :: .ref q :: r) n σ τ) (hk : ∀ pc L st n σ τ, k pc L st n σ τ → am_Wb p l e R s m args below meth c Q D z A H0 nL n0 nf X ρ0 pc L st n σ τ) : am_Wb p l e R s m args below meth c Q D z A H0 nL n0 nf X ρ0 pc L (.int u :: .ref q :: r) n σ τ := by
  intro ρ H locs ls h0 h1 hX hW hS hl
  exact lv_dup2_11 hC.1 hC.2.1 hd rfl rfl (hk _ _ _ _ _ _ h ρ H locs ls h0 h1 hX hW hS hl)
theorem am_s21 (hC : am_Cx p R s m args c cc own D z A H0 nL n0 nf P X ρ0) (hd : decode cc pc = .ok (.iadd, 1)) (h : am_bin st fun a b s => k (pc + 1) L (.int (a + b) :: s) n σ τ) (hk : ∀ pc L st n σ τ, k pc L st n σ τ → am_Wb p l e R s m args below meth c Q D z A H0 nL n0 nf X ρ0 pc L st n σ τ) : am_Wb p l e R s m args below meth c Q D z A H0 nL n0 nf X ρ0 pc L st n σ τ := by
  obtain ⟨x, y, r, rfl, h⟩ := am_bin_inv h
  intro ρ H locs ls h0 h1 hX hW hS hl
  exact lv_iadd hC.1 hC.2.1 hd (hk _ _ _ _ _ _ h ρ H locs ls h0 h1 hX hW hS hl)
theorem am_s22 (hC : am_Cx p R s m args c cc own D z A H0 nL n0 nf P X ρ0) (hd : decode cc pc = .ok (.isub, 1)) (h : am_bin st fun a b s => k (pc + 1) L (.int (a - b) :: s) n σ τ) (hk : ∀ pc L st n σ τ, k pc L st n σ τ → am_Wb p l e R s m args below meth c Q D z A H0 nL n0 nf X ρ0 pc L st n σ τ) : am_Wb p l e R s m args below meth c Q D z A H0 nL n0 nf X ρ0 pc L st n σ τ := by
  obtain ⟨x, y, r, rfl, h⟩ := am_bin_inv h
  intro ρ H locs ls h0 h1 hX hW hS hl
  exact lv_isub hC.1 hC.2.1 hd (hk _ _ _ _ _ _ h ρ H locs ls h0 h1 hX hW hS hl)
theorem am_s23 (hC : am_Cx p R s m args c cc own D z A H0 nL n0 nf P X ρ0) (hd : decode cc pc = .ok (.imul, 1)) (h : am_bin st fun a b s => k (pc + 1) L (.int (a * b) :: s) n σ τ) (hk : ∀ pc L st n σ τ, k pc L st n σ τ → am_Wb p l e R s m args below meth c Q D z A H0 nL n0 nf X ρ0 pc L st n σ τ) : am_Wb p l e R s m args below meth c Q D z A H0 nL n0 nf X ρ0 pc L st n σ τ := by
  obtain ⟨x, y, r, rfl, h⟩ := am_bin_inv h
  intro ρ H locs ls h0 h1 hX hW hS hl
  exact lv_imul hC.1 hC.2.1 hd (hk _ _ _ _ _ _ h ρ H locs ls h0 h1 hX hW hS hl)
theorem am_s27 (hC : am_Cx p R s m args c cc own D z A H0 nL n0 nf P X ρ0) (hd : decode cc pc = .ok (.ishl, 1)) (h : am_bin st fun a b s => k (pc + 1) L (.int (a <<< (b &&& 31)) :: s) n σ τ) (hk : ∀ pc L st n σ τ, k pc L st n σ τ → am_Wb p l e R s m args below meth c Q D z A H0 nL n0 nf X ρ0 pc L st n σ τ) : am_Wb p l e R s m args below meth c Q D z A H0 nL n0 nf X ρ0 pc L st n σ τ := by
  obtain ⟨x, y, r, rfl, h⟩ := am_bin_inv h
  intro ρ H locs ls h0 h1 hX hW hS hl
  exact lv_ishl hC.1 hC.2.1 hd (hk _ _ _ _ _ _ h ρ H locs ls h0 h1 hX hW hS hl)
theorem am_s28 (hC : am_Cx p R s m args c cc own D z A H0 nL n0 nf P X ρ0) (hd : decode cc pc = .ok (.ishr, 1)) (h : am_bin st fun a b s => k (pc + 1) L (.int (a >>> (b &&& 31)) :: s) n σ τ) (hk : ∀ pc L st n σ τ, k pc L st n σ τ → am_Wb p l e R s m args below meth c Q D z A H0 nL n0 nf X ρ0 pc L st n σ τ) : am_Wb p l e R s m args below meth c Q D z A H0 nL n0 nf X ρ0 pc L st n σ τ := by
  obtain ⟨x, y, r, rfl, h⟩ := am_bin_inv h
  intro ρ H locs ls h0 h1 hX hW hS hl
  exact lv_ishr hC.1 hC.2.1 hd (hk _ _ _ _ _ _ h ρ H locs ls h0 h1 hX hW hS hl)
theorem am_s30 (hC : am_Cx p R s m args c cc own D z A H0 nL n0 nf P X ρ0) (hd : decode cc pc = .ok (.iand, 1)) (h : am_bin st fun a b s => k (pc + 1) L (.int (a &&& b) :: s) n σ τ) (hk : ∀ pc L st n σ τ, k pc L st n σ τ → am_Wb p l e R s m args below meth c Q D z A H0 nL n0 nf X ρ0 pc L st n σ τ) : am_Wb p l e R s m args below meth c Q D z A H0 nL n0 nf X ρ0 pc L st n σ τ := by
  obtain ⟨x, y, r, rfl, h⟩ := am_bin_inv h
  intro ρ H locs ls h0 h1 hX hW hS hl
  exact lv_iand hC.1 hC.2.1 hd (hk _ _ _ _ _ _ h ρ H locs ls h0 h1 hX hW hS hl)
theorem am_s31 (hC : am_Cx p R s m args c cc own D z A H0 nL n0 nf P X ρ0) (hd : decode cc pc = .ok (.ior, 1)) (h : am_bin st fun a b s => k (pc + 1) L (.int (a ||| b) :: s) n σ τ) (hk : ∀ pc L st n σ τ, k pc L st n σ τ → am_Wb p l e R s m args below meth c Q D z A H0 nL n0 nf X ρ0 pc L st n σ τ) : am_Wb p l e R s m args below meth c Q D z A H0 nL n0 nf X ρ0 pc L st n σ τ := by
  obtain ⟨x, y, r, rfl, h⟩ := am_bin_inv h
  intro ρ H locs ls h0 h1 hX hW hS hl
  exact lv_ior hC.1 hC.2.1 hd (hk _ _ _ _ _ _ h ρ H locs ls h0 h1 hX hW hS hl)
theorem am_s29 (hC : am_Cx p R s m args c cc own D z A H0 nL n0 nf P X ρ0) (hd : decode cc pc = .ok (.iushr, 1)) (h : am_bin st fun a b s => k (pc + 1) L (.int (a.toUInt32 >>> (b.toUInt32 &&& Int32.toUInt32 31)).toInt32 :: s) n σ τ) (hk : ∀ pc L st n σ τ, k pc L st n σ τ → am_Wb p l e R s m args below meth c Q D z A H0 nL n0 nf X ρ0 pc L st n σ τ) : am_Wb p l e R s m args below meth c Q D z A H0 nL n0 nf X ρ0 pc L st n σ τ := by
  obtain ⟨x, y, r, rfl, h⟩ := am_bin_inv h
  intro ρ H locs ls h0 h1 hX hW hS hl
  exact lv_iushr hC.1 hC.2.1 hd rfl (hk _ _ _ _ _ _ h ρ H locs ls h0 h1 hX hW hS hl)
theorem am_s24 (hC : am_Cx p R s m args c cc own D z A H0 nL n0 nf P X ρ0) (hd : decode cc pc = .ok (.idiv, 1)) (h : am_bin st fun a b s => ¬ b = 0 ∧ k (pc + 1) L (.int (a / b) :: s) n σ τ) (hk : ∀ pc L st n σ τ, k pc L st n σ τ → am_Wb p l e R s m args below meth c Q D z A H0 nL n0 nf X ρ0 pc L st n σ τ) : am_Wb p l e R s m args below meth c Q D z A H0 nL n0 nf X ρ0 pc L st n σ τ := by
  obtain ⟨x, y, r, rfl, h⟩ := am_bin_inv h
  intro ρ H locs ls h0 h1 hX hW hS hl
  exact lv_idiv hC.1 hC.2.1 hd h.1 (hk _ _ _ _ _ _ h.2 ρ H locs ls h0 h1 hX hW hS hl)
theorem am_s25 (hC : am_Cx p R s m args c cc own D z A H0 nL n0 nf P X ρ0) (hd : decode cc pc = .ok (.irem, 1)) (h : am_bin st fun a b s => ¬ b = 0 ∧ k (pc + 1) L (.int (a - a / b * b) :: s) n σ τ) (hk : ∀ pc L st n σ τ, k pc L st n σ τ → am_Wb p l e R s m args below meth c Q D z A H0 nL n0 nf X ρ0 pc L st n σ τ) : am_Wb p l e R s m args below meth c Q D z A H0 nL n0 nf X ρ0 pc L st n σ τ := by
  obtain ⟨x, y, r, rfl, h⟩ := am_bin_inv h
  intro ρ H locs ls h0 h1 hX hW hS hl
  exact lv_irem hC.1 hC.2.1 hd h.1 (hk _ _ _ _ _ _ h.2 ρ H locs ls h0 h1 hX hW hS hl)
theorem am_s36 (hC : am_Cx p R s m args c cc own D z A H0 nL n0 nf P X ρ0) (hd : decode cc pc = .ok (.ladd, 1)) (h : am_binL st fun a b s => k (pc + 1) L (.long (a + b) :: s) n σ τ) (hk : ∀ pc L st n σ τ, k pc L st n σ τ → am_Wb p l e R s m args below meth c Q D z A H0 nL n0 nf X ρ0 pc L st n σ τ) : am_Wb p l e R s m args below meth c Q D z A H0 nL n0 nf X ρ0 pc L st n σ τ := by
  obtain ⟨x, y, r, rfl, h⟩ := am_binL_inv h
  intro ρ H locs ls h0 h1 hX hW hS hl
  exact lv_ladd hC.1 hC.2.1 hd (hk _ _ _ _ _ _ h ρ H locs ls h0 h1 hX hW hS hl)
theorem am_s37 (hC : am_Cx p R s m args c cc own D z A H0 nL n0 nf P X ρ0) (hd : decode cc pc = .ok (.lsub, 1)) (h : am_binL st fun a b s => k (pc + 1) L (.long (a - b) :: s) n σ τ) (hk : ∀ pc L st n σ τ, k pc L st n σ τ → am_Wb p l e R s m args below meth c Q D z A H0 nL n0 nf X ρ0 pc L st n σ τ) : am_Wb p l e R s m args below meth c Q D z A H0 nL n0 nf X ρ0 pc L st n σ τ := by
  obtain ⟨x, y, r, rfl, h⟩ := am_binL_inv h
  intro ρ H locs ls h0 h1 hX hW hS hl
  exact lv_lsub hC.1 hC.2.1 hd (hk _ _ _ _ _ _ h ρ H locs ls h0 h1 hX hW hS hl)
theorem am_s38 (hC : am_Cx p R s m args c cc own D z A H0 nL n0 nf P X ρ0) (hd : decode cc pc = .ok (.lmul, 1)) (h : am_binL st fun a b s => k (pc + 1) L (.long (a * b) :: s) n σ τ) (hk : ∀ pc L st n σ τ, k pc L st n σ τ → am_Wb p l e R s m args below meth c Q D z A H0 nL n0 nf X ρ0 pc L st n σ τ) : am_Wb p l e R s m args below meth c Q D z A H0 nL n0 nf X ρ0 pc L st n σ τ := by
  obtain ⟨x, y, r, rfl, h⟩ := am_binL_inv h
  intro ρ H locs ls h0 h1 hX hW hS hl
  exact lv_lmul hC.1 hC.2.1 hd (hk _ _ _ _ _ _ h ρ H locs ls h0 h1 hX hW hS hl)
theorem am_s41 (hC : am_Cx p R s m args c cc own D z A H0 nL n0 nf P X ρ0) (hd : decode cc pc = .ok (.lcmp, 1)) (h : am_binL st fun a b s => k (pc + 1) L (.int (lg_cmp a b) :: s) n σ τ) (hk : ∀ pc L st n σ τ, k pc L st n σ τ → am_Wb p l e R s m args below meth c Q D z A H0 nL n0 nf X ρ0 pc L st n σ τ) : am_Wb p l e R s m args below meth c Q D z A H0 nL n0 nf X ρ0 pc L st n σ τ := by
  obtain ⟨x, y, r, rfl, h⟩ := am_binL_inv h
  intro ρ H locs ls h0 h1 hX hW hS hl
  exact W.lcmp hC.1 hC.2.1 hd (hk _ _ _ _ _ _ h ρ H locs ls h0 h1 hX hW hS hl)
theorem am_s39 (hC : am_Cx p R s m args c cc own D z A H0 nL n0 nf P X ρ0) (hd : decode cc pc = .ok (.ldiv, 1)) (h : am_binL st fun a b s => ¬ b = 0 ∧ k (pc + 1) L (.long (a / b) :: s) n σ τ) (hk : ∀ pc L st n σ τ, k pc L st n σ τ → am_Wb p l e R s m args below meth c Q D z A H0 nL n0 nf X ρ0 pc L st n σ τ) : am_Wb p l e R s m args below meth c Q D z A H0 nL n0 nf X ρ0 pc L st n σ τ := by
  obtain ⟨x, y, r, rfl, h⟩ := am_binL_inv h
  intro ρ H locs ls h0 h1 hX hW hS hl
  exact lv_ldiv hC.1 hC.2.1 hd h.1 (hk _ _ _ _ _ _ h.2 ρ H locs ls h0 h1 hX hW hS hl)
theorem am_s40 (hC : am_Cx p R s m args c cc own D z A H0 nL n0 nf P X ρ0) (hd : decode cc pc = .ok (.lrem, 1)) (h : am_binL st fun a b s => ¬ b = 0 ∧ k (pc + 1) L (.long (a - a / b * b) :: s) n σ τ) (hk : ∀ pc L st n σ τ, k pc L st n σ τ → am_Wb p l e R s m args below meth c Q D z A H0 nL n0 nf X ρ0 pc L st n σ τ) : am_Wb p l e R s m args below meth c Q D z A H0 nL n0 nf X ρ0 pc L st n σ τ := by
  obtain ⟨x, y, r, rfl, h⟩ := am_binL_inv h
  intro ρ H locs ls h0 h1 hX hW hS hl
  exact lv_lrem hC.1 hC.2.1 hd h.1 (hk _ _ _ _ _ _ h.2 ρ H locs ls h0 h1 hX hW hS hl)
theorem am_s26 (hC : am_Cx p R s m args c cc own D z A H0 nL n0 nf P X ρ0) (hd : decode cc pc = .ok (.ineg, 1)) (h : am_un st fun a s => k (pc + 1) L (.int (-a) :: s) n σ τ) (hk : ∀ pc L st n σ τ, k pc L st n σ τ → am_Wb p l e R s m args below meth c Q D z A H0 nL n0 nf X ρ0 pc L st n σ τ) : am_Wb p l e R s m args below meth c Q D z A H0 nL n0 nf X ρ0 pc L st n σ τ := by
  obtain ⟨x, r, rfl, h⟩ := am_un_inv h
  intro ρ H locs ls h0 h1 hX hW hS hl
  exact lv_ineg hC.1 hC.2.1 hd (hk _ _ _ _ _ _ h ρ H locs ls h0 h1 hX hW hS hl)
theorem am_s32 (hC : am_Cx p R s m args c cc own D z A H0 nL n0 nf P X ρ0) (hd : decode cc pc = .ok (.i2b, 1)) (h : am_un st fun a s => k (pc + 1) L (.int a.toInt8.toInt32 :: s) n σ τ) (hk : ∀ pc L st n σ τ, k pc L st n σ τ → am_Wb p l e R s m args below meth c Q D z A H0 nL n0 nf X ρ0 pc L st n σ τ) : am_Wb p l e R s m args below meth c Q D z A H0 nL n0 nf X ρ0 pc L st n σ τ := by
  obtain ⟨x, r, rfl, h⟩ := am_un_inv h
  intro ρ H locs ls h0 h1 hX hW hS hl
  exact lv_i2b hC.1 hC.2.1 hd rfl (hk _ _ _ _ _ _ h ρ H locs ls h0 h1 hX hW hS hl)
theorem am_s33 (hC : am_Cx p R s m args c cc own D z A H0 nL n0 nf P X ρ0) (hd : decode cc pc = .ok (.i2s, 1)) (h : am_un st fun a s => k (pc + 1) L (.int a.toInt16.toInt32 :: s) n σ τ) (hk : ∀ pc L st n σ τ, k pc L st n σ τ → am_Wb p l e R s m args below meth c Q D z A H0 nL n0 nf X ρ0 pc L st n σ τ) : am_Wb p l e R s m args below meth c Q D z A H0 nL n0 nf X ρ0 pc L st n σ τ := by
  obtain ⟨x, r, rfl, h⟩ := am_un_inv h
  intro ρ H locs ls h0 h1 hX hW hS hl
  exact lv_i2s hC.1 hC.2.1 hd rfl (hk _ _ _ _ _ _ h ρ H locs ls h0 h1 hX hW hS hl)
theorem am_s34 (hC : am_Cx p R s m args c cc own D z A H0 nL n0 nf P X ρ0) (hd : decode cc pc = .ok (.i2l, 1)) (h : am_un st fun a s => k (pc + 1) L (.long a.toInt64 :: s) n σ τ) (hk : ∀ pc L st n σ τ, k pc L st n σ τ → am_Wb p l e R s m args below meth c Q D z A H0 nL n0 nf X ρ0 pc L st n σ τ) : am_Wb p l e R s m args below meth c Q D z A H0 nL n0 nf X ρ0 pc L st n σ τ := by
  obtain ⟨x, r, rfl, h⟩ := am_un_inv h
  intro ρ H locs ls h0 h1 hX hW hS hl
  exact lv_i2l hC.1 hC.2.1 hd rfl (hk _ _ _ _ _ _ h ρ H locs ls h0 h1 hX hW hS hl)
theorem am_s35 {v : Int64} {r : List Value} (hC : am_Cx p R s m args c cc own D z A H0 nL n0 nf P X ρ0) (hd : decode cc pc = .ok (.l2i, 1)) (h : k (pc + 1) L (.int v.toInt32 :: r) n σ τ) (hk : ∀ pc L st n σ τ, k pc L st n σ τ → am_Wb p l e R s m args below meth c Q D z A H0 nL n0 nf X ρ0 pc L st n σ τ) : am_Wb p l e R s m args below meth c Q D z A H0 nL n0 nf X ρ0 pc L (.long v :: r) n σ τ := by
  intro ρ H locs ls h0 h1 hX hW hS hl
  exact lv_l2i hC.1 hC.2.1 hd rfl (hk _ _ _ _ _ _ h ρ H locs ls h0 h1 hX hW hS hl)
theorem am_s44 (hC : am_Cx p R s m args c cc own D z A H0 nL n0 nf P X ρ0) {y : Nat} (hd : decode cc pc = .ok (.ifCond .eq ((y : Int) - pc), 3)) (h : am_un st fun a s => am_if (a = 0) (k y L s n σ τ) (k (pc + 3) L s n σ τ)) (hk : ∀ pc L st n σ τ, k pc L st n σ τ → am_Wb p l e R s m args below meth c Q D z A H0 nL n0 nf X ρ0 pc L st n σ τ) : am_Wb p l e R s m args below meth c Q D z A H0 nL n0 nf X ρ0 pc L st n σ τ := by
  obtain ⟨x, r, rfl, h⟩ := am_un_inv h
  intro ρ H locs ls h0 h1 hX hW hS hl
  exact lv_if_eq (tgt := y) hC.1 hC.2.1 hd (by omega) (fun q => hk _ _ _ _ _ _ (h.1 q) ρ H locs ls h0 h1 hX hW hS hl) (fun q => hk _ _ _ _ _ _ (h.2 q) ρ H locs ls h0 h1 hX hW hS hl)
theorem am_s45 (hC : am_Cx p R s m args c cc own D z A H0 nL n0 nf P X ρ0) {y : Nat} (hd : decode cc pc = .ok (.ifCond .ne ((y : Int) - pc), 3)) (h : am_un st fun a s => am_if (a = 0) (k (pc + 3) L s n σ τ) (k y L s n σ τ)) (hk : ∀ pc L st n σ τ, k pc L st n σ τ → am_Wb p l e R s m args below meth c Q D z A H0 nL n0 nf X ρ0 pc L st n σ τ) : am_Wb p l e R s m args below meth c Q D z A H0 nL n0 nf X ρ0 pc L st n σ τ := by
  obtain ⟨x, r, rfl, h⟩ := am_un_inv h
  intro ρ H locs ls h0 h1 hX hW hS hl
  exact lv_if_ne (tgt := y) hC.1 hC.2.1 hd (by omega) (fun q => hk _ _ _ _ _ _ (h.2 q) ρ H locs ls h0 h1 hX hW hS hl) (fun q => hk _ _ _ _ _ _ (h.1 q) ρ H locs ls h0 h1 hX hW hS hl)
theorem am_s46 (hC : am_Cx p R s m args c cc own D z A H0 nL n0 nf P X ρ0) {y : Nat} (hd : decode cc pc = .ok (.ifCond .lt ((y : Int) - pc), 3)) (h : am_un st fun a s => am_if (a < 0) (k y L s n σ τ) (k (pc + 3) L s n σ τ)) (hk : ∀ pc L st n σ τ, k pc L st n σ τ → am_Wb p l e R s m args below meth c Q D z A H0 nL n0 nf X ρ0 pc L st n σ τ) : am_Wb p l e R s m args below meth c Q D z A H0 nL n0 nf X ρ0 pc L st n σ τ := by
  obtain ⟨x, r, rfl, h⟩ := am_un_inv h
  intro ρ H locs ls h0 h1 hX hW hS hl
  exact lv_if_lt (tgt := y) hC.1 hC.2.1 hd (by omega) (fun q => hk _ _ _ _ _ _ (h.1 q) ρ H locs ls h0 h1 hX hW hS hl) (fun q => hk _ _ _ _ _ _ (h.2 q) ρ H locs ls h0 h1 hX hW hS hl)
theorem am_s47 (hC : am_Cx p R s m args c cc own D z A H0 nL n0 nf P X ρ0) {y : Nat} (hd : decode cc pc = .ok (.ifCond .ge ((y : Int) - pc), 3)) (h : am_un st fun a s => am_if (0 ≤ a) (k y L s n σ τ) (k (pc + 3) L s n σ τ)) (hk : ∀ pc L st n σ τ, k pc L st n σ τ → am_Wb p l e R s m args below meth c Q D z A H0 nL n0 nf X ρ0 pc L st n σ τ) : am_Wb p l e R s m args below meth c Q D z A H0 nL n0 nf X ρ0 pc L st n σ τ := by
  obtain ⟨x, r, rfl, h⟩ := am_un_inv h
  intro ρ H locs ls h0 h1 hX hW hS hl
  exact lv_if_ge (tgt := y) hC.1 hC.2.1 hd (by omega) (fun q => hk _ _ _ _ _ _ (h.1 q) ρ H locs ls h0 h1 hX hW hS hl) (fun q => hk _ _ _ _ _ _ (h.2 q) ρ H locs ls h0 h1 hX hW hS hl)
theorem am_s48 (hC : am_Cx p R s m args c cc own D z A H0 nL n0 nf P X ρ0) {y : Nat} (hd : decode cc pc = .ok (.ifCond .gt ((y : Int) - pc), 3)) (h : am_un st fun a s => am_if (0 < a) (k y L s n σ τ) (k (pc + 3) L s n σ τ)) (hk : ∀ pc L st n σ τ, k pc L st n σ τ → am_Wb p l e R s m args below meth c Q D z A H0 nL n0 nf X ρ0 pc L st n σ τ) : am_Wb p l e R s m args below meth c Q D z A H0 nL n0 nf X ρ0 pc L st n σ τ := by
  obtain ⟨x, r, rfl, h⟩ := am_un_inv h
  intro ρ H locs ls h0 h1 hX hW hS hl
  exact lv_if_gt (tgt := y) hC.1 hC.2.1 hd (by omega) (fun q => hk _ _ _ _ _ _ (h.1 q) ρ H locs ls h0 h1 hX hW hS hl) (fun q => hk _ _ _ _ _ _ (h.2 q) ρ H locs ls h0 h1 hX hW hS hl)
theorem am_s49 (hC : am_Cx p R s m args c cc own D z A H0 nL n0 nf P X ρ0) {y : Nat} (hd : decode cc pc = .ok (.ifCond .le ((y : Int) - pc), 3)) (h : am_un st fun a s => am_if (a ≤ 0) (k y L s n σ τ) (k (pc + 3) L s n σ τ)) (hk : ∀ pc L st n σ τ, k pc L st n σ τ → am_Wb p l e R s m args below meth c Q D z A H0 nL n0 nf X ρ0 pc L st n σ τ) : am_Wb p l e R s m args below meth c Q D z A H0 nL n0 nf X ρ0 pc L st n σ τ := by
  obtain ⟨x, r, rfl, h⟩ := am_un_inv h
  intro ρ H locs ls h0 h1 hX hW hS hl
  exact lv_if_le (tgt := y) hC.1 hC.2.1 hd (by omega) (fun q => hk _ _ _ _ _ _ (h.1 q) ρ H locs ls h0 h1 hX hW hS hl) (fun q => hk _ _ _ _ _ _ (h.2 q) ρ H locs ls h0 h1 hX hW hS hl)
theorem am_s50 (hC : am_Cx p R s m args c cc own D z A H0 nL n0 nf P X ρ0) {y : Nat} (hd : decode cc pc = .ok (.if_icmp .eq ((y : Int) - pc), 3)) (h : am_bin st fun a b s => am_if (a = b) (k y L s n σ τ) (k (pc + 3) L s n σ τ)) (hk : ∀ pc L st n σ τ, k pc L st n σ τ → am_Wb p l e R s m args below meth c Q D z A H0 nL n0 nf X ρ0 pc L st n σ τ) : am_Wb p l e R s m args below meth c Q D z A H0 nL n0 nf X ρ0 pc L st n σ τ := by
  obtain ⟨x, w, r, rfl, h⟩ := am_bin_inv h
  intro ρ H locs ls h0 h1 hX hW hS hl
  exact lv_icmp_eq (tgt := y) hC.1 hC.2.1 hd (by omega) (fun q => hk _ _ _ _ _ _ (h.1 q) ρ H locs ls h0 h1 hX hW hS hl) (fun q => hk _ _ _ _ _ _ (h.2 q) ρ H locs ls h0 h1 hX hW hS hl)
theorem am_s51 (hC : am_Cx p R s m args c cc own D z A H0 nL n0 nf P X ρ0) {y : Nat} (hd : decode cc pc = .ok (.if_icmp .ne ((y : Int) - pc), 3)) (h : am_bin st fun a b s => am_if (a = b) (k (pc + 3) L s n σ τ) (k y L s n σ τ)) (hk : ∀ pc L st n σ τ, k pc L st n σ τ → am_Wb p l e R s m args below meth c Q D z A H0 nL n0 nf X ρ0 pc L st n σ τ) : am_Wb p l e R s m args below meth c Q D z A H0 nL n0 nf X ρ0 pc L st n σ τ := by
  obtain ⟨x, w, r, rfl, h⟩ := am_bin_inv h
  intro ρ H locs ls h0 h1 hX hW hS hl
  exact lv_icmp_ne (tgt := y) hC.1 hC.2.1 hd (by omega) (fun q => hk _ _ _ _ _ _ (h.2 q) ρ H locs ls h0 h1 hX hW hS hl) (fun q => hk _ _ _ _ _ _ (h.1 q) ρ H locs ls h0 h1 hX hW hS hl)
theorem am_s52 (hC : am_Cx p R s m args c cc own D z A H0 nL n0 nf P X ρ0) {y : Nat} (hd : decode cc pc = .ok (.if_icmp .lt ((y : Int) - pc), 3)) (h : am_bin st fun a b s => am_if (a < b) (k y L s n σ τ) (k (pc + 3) L s n σ τ)) (hk : ∀ pc L st n σ τ, k pc L st n σ τ → am_Wb p l e R s m args below meth c Q D z A H0 nL n0 nf X ρ0 pc L st n σ τ) : am_Wb p l e R s m args below meth c Q D z A H0 nL n0 nf X ρ0 pc L st n σ τ := by
  obtain ⟨x, w, r, rfl, h⟩ := am_bin_inv h
  intro ρ H locs ls h0 h1 hX hW hS hl
  exact lv_icmp_lt (tgt := y) hC.1 hC.2.1 hd (by omega) (fun q => hk _ _ _ _ _ _ (h.1 q) ρ H locs ls h0 h1 hX hW hS hl) (fun q => hk _ _ _ _ _ _ (h.2 q) ρ H locs ls h0 h1 hX hW hS hl)
theorem am_s53 (hC : am_Cx p R s m args c cc own D z A H0 nL n0 nf P X ρ0) {y : Nat} (hd : decode cc pc = .ok (.if_icmp .ge ((y : Int) - pc), 3)) (h : am_bin st fun a b s => am_if (b ≤ a) (k y L s n σ τ) (k (pc + 3) L s n σ τ)) (hk : ∀ pc L st n σ τ, k pc L st n σ τ → am_Wb p l e R s m args below meth c Q D z A H0 nL n0 nf X ρ0 pc L st n σ τ) : am_Wb p l e R s m args below meth c Q D z A H0 nL n0 nf X ρ0 pc L st n σ τ := by
  obtain ⟨x, w, r, rfl, h⟩ := am_bin_inv h
  intro ρ H locs ls h0 h1 hX hW hS hl
  exact lv_icmp_ge (tgt := y) hC.1 hC.2.1 hd (by omega) (fun q => hk _ _ _ _ _ _ (h.1 q) ρ H locs ls h0 h1 hX hW hS hl) (fun q => hk _ _ _ _ _ _ (h.2 q) ρ H locs ls h0 h1 hX hW hS hl)
theorem am_s54 (hC : am_Cx p R s m args c cc own D z A H0 nL n0 nf P X ρ0) {y : Nat} (hd : decode cc pc = .ok (.if_icmp .gt ((y : Int) - pc), 3)) (h : am_bin st fun a b s => am_if (b < a) (k y L s n σ τ) (k (pc + 3) L s n σ τ)) (hk : ∀ pc L st n σ τ, k pc L st n σ τ → am_Wb p l e R s m args below meth c Q D z A H0 nL n0 nf X ρ0 pc L st n σ τ) : am_Wb p l e R s m args below meth c Q D z A H0 nL n0 nf X ρ0 pc L st n σ τ := by
  obtain ⟨x, w, r, rfl, h⟩ := am_bin_inv h
  intro ρ H locs ls h0 h1 hX hW hS hl
  exact lv_icmp_gt (tgt := y) hC.1 hC.2.1 hd (by omega) (fun q => hk _ _ _ _ _ _ (h.1 q) ρ H locs ls h0 h1 hX hW hS hl) (fun q => hk _ _ _ _ _ _ (h.2 q) ρ H locs ls h0 h1 hX hW hS hl)
theorem am_s55 (hC : am_Cx p R s m args c cc own D z A H0 nL n0 nf P X ρ0) {y : Nat} (hd : decode cc pc = .ok (.if_icmp .le ((y : Int) - pc), 3)) (h : am_bin st fun a b s => am_if (a ≤ b) (k y L s n σ τ) (k (pc + 3) L s n σ τ)) (hk : ∀ pc L st n σ τ, k pc L st n σ τ → am_Wb p l e R s m args below meth c Q D z A H0 nL n0 nf X ρ0 pc L st n σ τ) : am_Wb p l e R s m args below meth c Q D z A H0 nL n0 nf X ρ0 pc L st n σ τ := by
  obtain ⟨x, w, r, rfl, h⟩ := am_bin_inv h
  intro ρ H locs ls h0 h1 hX hW hS hl
  exact lv_icmp_le (tgt := y) hC.1 hC.2.1 hd (by omega) (fun q => hk _ _ _ _ _ _ (h.1 q) ρ H locs ls h0 h1 hX hW hS hl) (fun q => hk _ _ _ _ _ _ (h.2 q) ρ H locs ls h0 h1 hX hW hS hl)
theorem am_s56 (hC : am_Cx p R s m args c cc own D z A H0 nL n0 nf P X ρ0) {y : Nat} (hd : decode cc pc = .ok (.goto ((y : Int) - pc), 3)) (h : k y L st n σ τ) (hk : ∀ pc L st n σ τ, k pc L st n σ τ → am_Wb p l e R s m args below meth c Q D z A H0 nL n0 nf X ρ0 pc L st n σ τ) : am_Wb p l e R s m args below meth c Q D z A H0 nL n0 nf X ρ0 pc L st n σ τ := by
  intro ρ H locs ls h0 h1 hX hW hS hl
  exact lv_goto (tgt := y) hC.1 hC.2.1 hd (by omega) (hk _ _ _ _ _ _ h ρ H locs ls h0 h1 hX hW hS hl)
theorem am_s57r {y w : Nat} {r : List Value} (hC : am_Cx p R s m args c cc own D z A H0 nL n0 nf P X ρ0) (hd : decode cc pc = .ok (.ifnull ((y : Int) - pc), 3)) (h : k (pc + 3) L r n σ τ) (hk : ∀ pc L st n σ τ, k pc L st n σ τ → am_Wb p l e R s m args below meth c Q D z A H0 nL n0 nf X ρ0 pc L st n σ τ) : am_Wb p l e R s m args below meth c Q D z A H0 nL n0 nf X ρ0 pc L (.ref w :: r) n σ τ := by
  intro ρ H locs ls h0 h1 hX hW hS hl
  exact lv_ifnull hC.1 hC.2.1 hd (hk _ _ _ _ _ _ h ρ H locs ls h0 h1 hX hW hS hl)
theorem am_s57n {y w : Nat} {r : List Value} (hC : am_Cx p R s m args c cc own D z A H0 nL n0 nf P X ρ0) (hd : decode cc pc = .ok (.ifnull ((y : Int) - pc), 3)) (h : k (y) L r n σ τ) (hk : ∀ pc L st n σ τ, k pc L st n σ τ → am_Wb p l e R s m args below meth c Q D z A H0 nL n0 nf X ρ0 pc L st n σ τ) : am_Wb p l e R s m args below meth c Q D z A H0 nL n0 nf X ρ0 pc L (.null :: r) n σ τ := by
  intro ρ H locs ls h0 h1 hX hW hS hl
  exact lv_ifnullN (tgt := y) hC.1 hC.2.1 hd (by omega) (hk _ _ _ _ _ _ h ρ H locs ls h0 h1 hX hW hS hl)
theorem am_s58r {y w : Nat} {r : List Value} (hC : am_Cx p R s m args c cc own D z A H0 nL n0 nf P X ρ0) (hd : decode cc pc = .ok (.ifnonnull ((y : Int) - pc), 3)) (h : k (y) L r n σ τ) (hk : ∀ pc L st n σ τ, k pc L st n σ τ → am_Wb p l e R s m args below meth c Q D z A H0 nL n0 nf X ρ0 pc L st n σ τ) : am_Wb p l e R s m args below meth c Q D z A H0 nL n0 nf X ρ0 pc L (.ref w :: r) n σ τ := by
  intro ρ H locs ls h0 h1 hX hW hS hl
  exact lv_ifnonnull (tgt := y) hC.1 hC.2.1 hd (by omega) (hk _ _ _ _ _ _ h ρ H locs ls h0 h1 hX hW hS hl)
theorem am_s58n {y w : Nat} {r : List Value} (hC : am_Cx p R s m args c cc own D z A H0 nL n0 nf P X ρ0) (hd : decode cc pc = .ok (.ifnonnull ((y : Int) - pc), 3)) (h : k (pc + 3) L r n σ τ) (hk : ∀ pc L st n σ τ, k pc L st n σ τ → am_Wb p l e R s m args below meth c Q D z A H0 nL n0 nf X ρ0 pc L st n σ τ) : am_Wb p l e R s m args below meth c Q D z A H0 nL n0 nf X ρ0 pc L (.null :: r) n σ τ := by
  intro ρ H locs ls h0 h1 hX hW hS hl
  exact lv_ifnonnullN hC.1 hC.2.1 hd (hk _ _ _ _ _ _ h ρ H locs ls h0 h1 hX hW hS hl)
end AMA
theorem fa_eq' (a b : Int32) : a = b ↔ a.toInt = b.toInt := ⟨fun h => by rw [h], fun h => Int32.toInt_inj.mp h⟩
theorem am_sw_at {v : Int32} {d : Nat} {k : Nat → Prop} : ∀ (lo : Nat) (tg : List Nat) (j t : Nat), am_seq lo tg = true → am_sw v d k tg → lo + tg.length < 2 ^ 31 → v = nI (lo + j) → (am_tgs tg)[j]? = some t → k t
  | lo, a :: u :: r, 0, t, hs, h, hb, hv, ht => by
    have ha : a = lo := by
      have := Bool.and_eq_true _ _ ▸ hs
      exact Nat.eq_of_beq_eq_true this.1
    subst ha
    have e : u = t := Option.some.inj ht
    subst e
    exact h.1 hv
  | lo, a :: u :: r, j + 1, t, hs, h, hb, hv, ht => by
    have hs2 := Bool.and_eq_true _ _ ▸ hs
    have ha : a = lo := Nat.eq_of_beq_eq_true hs2.1
    subst ha
    have ht2 : (am_tgs r)[j]? = some t := ht
    have hne : ¬ v = nI a := fun q => by
      rw [q] at hv
      have hj : j < (am_tgs r).length := (List.getElem?_eq_some_iff.mp ht2).1
      have hl : ∀ r : List Nat, (am_tgs r).length ≤ r.length := by
        intro r
        induction r using am_tgs.induct with
        | case1 _ t r ih => simp [am_tgs]; omega
        | case2 r h => simp [am_tgs]
      have := hl r
      simp at hb
      have := (nI_eq (a := a) (b := a + (j + 1)) (by omega) (by omega)).mp hv
      omega
    exact am_sw_at (a + 1) r j t hs2.2 (h.2 hne) (by simp at hb; omega) (by rw [hv]; congr 1; omega) ht2
  | lo, [], j, t, hs, h, hb, hv, ht => by simp [am_tgs] at ht
  | lo, [a], j, t, hs, h, hb, hv, ht => by simp [am_tgs] at ht
theorem am_sw_no {v : Int32} {d : Nat} {k : Nat → Prop} : ∀ (lo : Nat) (tg : List Nat), am_seq lo tg = true → am_sw v d k tg → (∀ j, j < (am_tgs tg).length → ¬ v = nI (lo + j)) → k d
  | lo, a :: u :: r, hs, h, hv => by
    have hs2 := Bool.and_eq_true _ _ ▸ hs
    have ha : a = lo := Nat.eq_of_beq_eq_true hs2.1
    subst ha
    have h0 : ¬ v = nI a := hv 0 (by simp [am_tgs])
    refine am_sw_no (a + 1) r hs2.2 (h.2 h0) (fun j hj => ?_)
    have := hv (j + 1) (by simp [am_tgs]; omega)
    rw [show a + 1 + j = a + (j + 1) by omega]
    exact this
  | lo, [], hs, h, hv => h
  | lo, [a], hs, h, hv => h
theorem am_off_at {v : Int32} {d : Nat} {k : Nat → Prop} {pc : Nat} : ∀ (tg : List Nat), tg.all (fun a => Nat.blt a 100000) = true → am_sw v d k tg → ∃ t : Nat, (pc : Int) + Op.lookupswitch.offset (am_prs pc tg) ((d : Int) - pc) v.toInt = (t : Int) ∧ k t
  | a :: u :: r, ha, h => by
    have ha2 : a < 100000 := by
      have := List.all_eq_true.mp ha a (by simp)
      exact Nat.blt_eq.mp this
    have hr : r.all (fun a => Nat.blt a 100000) = true := List.all_eq_true.mpr fun x hx => List.all_eq_true.mp ha x (by simp [hx])
    by_cases e : v = nI a
    · refine ⟨u, ?_, h.1 e⟩
      have : v.toInt = (a : Int) := by rw [e]; exact nI_toInt (by omega)
      simp [am_prs, Op.lookupswitch.offset, this]
      omega
    · obtain ⟨t, h1, h2⟩ := am_off_at (pc := pc) r hr (h.2 e)
      refine ⟨t, ?_, h2⟩
      have : ¬ (a : Int) = v.toInt := fun q => e (by rw [fa_eq', nI_toInt (by omega)]; exact q.symm)
      have t2 : ¬ v.toInt = (a : Int) := fun q => this q.symm
      rw [← h1]
      simp [am_prs, Op.lookupswitch.offset, this, t2]
  | [], ha, h => ⟨d, by simp [am_prs, Op.lookupswitch.offset]; omega, h⟩
  | [a], ha, h => ⟨d, by simp [am_prs, Op.lookupswitch.offset]; omega, h⟩
end
section
def va_AOA (t : FieldType) (U : State) : Prop := (Cond.arrayOver (.array t)).before #[] U = true
theorem va_AOA.use {t : FieldType} {A : Array Value} {U : State} (h : va_AOA t U) : (Cond.arrayOver (.array t)).before A U = true := h
/-! ===== BEGIN new T[n][m]: the outer array a place, the inner ones among the pooled ===== -/
/-- f, but v at every address of l -/
def vr_up {α : Type} (f : Nat → α) (l : List Nat) (v : α) : Nat → α := fun a => if a ∈ l then v else f a
theorem vr_up_in {α : Type} {f : Nat → α} {l : List Nat} {v : α} {a : Nat} (h : a ∈ l) : vr_up f l v a = v := if_pos h
theorem vr_up_ne {α : Type} {f : Nat → α} {l : List Nat} {v : α} {a : Nat} (h : a ∉ l) : vr_up f l v a = f a := if_neg h
theorem vr_rows {L l : List Nat} {f : Nat → va_E} {e : va_E} (h : ∀ a, a ∈ l → a ∉ L) : va_pl L f ++ l.map (fun a => (a, e)) = va_pl (L ++ l) (vr_up f l e) := by
  unfold va_pl
  rw [List.map_append]
  congr 1
  · apply List.map_congr_left
    intro a ha
    rw [vr_up_ne (fun q => h a q ha)]
  · apply List.map_congr_left
    intro a ha
    rw [vr_up_in ha]
theorem vr_lay {X rows : va_W} {x : Nat × va_E} {pl : va_W} {D : va_G} {cl : List vw_C} {H : Heap} (hP : va_P D cl (((X ++ pl) ++ [x]) ++ rows) H) : va_P D cl ((X ++ [x]) ++ (pl ++ rows)) H := by
  rw [List.append_assoc (X ++ pl)] at hP
  have h := va_P.swap hP
  rw [← List.append_assoc X] at h
  have h2 := va_P.swap h
  rw [List.append_assoc (X ++ [x])] at h2
  exact h2
theorem vr_layD {X rows : va_W} {x : Nat × va_E} {pl : va_W} {A : Nat → Prop} (hD : va_D A (((X ++ pl) ++ [x]) ++ rows)) : va_D A ((X ++ [x]) ++ (pl ++ rows)) := by
  rw [List.append_assoc (X ++ pl)] at hD
  have h := va_D.swap hD
  rw [← List.append_assoc X] at h
  have h2 := va_D.swap h
  rw [List.append_assoc (X ++ [x])] at h2
  exact h2
theorem vr_outer (c : ClassId) (N h0 : Nat) : ∀ i : Nat, Jvm.Free.Multi.outerC c N h0 i = arrV c N (fun j => va_rf (if j < i then some (h0 + 1 + j) else none))
  | 0 => by
    show ({ cls := c, slots := Array.replicate N .null, vm := .none } : Cell) = _
    rw [arrV_new]
    refine congrArg (arrV c N) (funext fun j => ?_)
    simp [va_rf]
  | i + 1 => by
    show (Jvm.Free.Multi.outerC c N h0 i).setSlot i (.ref (h0 + 1 + i)) = _
    rw [vr_outer c N h0 i, arrV_store]
    refine congrArg (arrV c N) (funext fun j => ?_)
    by_cases e : j = i
    · subst e
      simp [updV, va_rf]
    · by_cases h : j < i
      · simp [updV, e, h, Nat.lt_succ_of_lt h]
      · simp [updV, e, h, show ¬ j < i + 1 by omega]
section VGM
variable {p : Program} {l : Launch} {e : Env} {R : Room} {s : State} {m : MethodId} {args : Array Value} {below : List Frame} {meth : Method} {c : Code} {H : Heap} {locs : List Loc} {cells slots : Nat} {Q : State → Prop}
variable {cc : ByteArray} {pc : Nat} {ls : Array Slot} {rest : List Value} {D : va_G} {cl : List vw_C} {A : Nat → Prop} {a : Nat} {tys : List (ClassId × FieldType)} {ws : va_W} {H0 : Heap}
theorem va_mna {X : va_W} {L : List Nat} {f : Nat → va_E} {cc : ByteArray} (hexec : p.tables.exec = Jvm.exec) (hb : c.code = cc) {own : String} {index : Nat} {ty : FieldType} {cy : ClassId} (hown : s.vm.findClass own = some m.cls) (hclink : (Cond.classLink own index ("[" ++ (FieldType.array ty).toString)).before args s = true) (hover : va_AOA ty s) (harr : (Cond.arrayClass ty).before args s = true) (hcy : s.vm.findClass (FieldType.array ty).toString = some cy)
    (hK : va_K D cl tys s) (hP : va_P D cl (X ++ va_pl L f) H) (hD : va_D A (X ++ va_pl L f)) (hS : va_S A H0 H locs) (hA : ∀ q, H0.size ≤ q → A q) {n k : Int32} {N' K' : Nat} {z : vp_A} (hn : ¬ n < 0) (hk : ¬ k < 0) (hN : n.toNatClampNeg = N') (hM : k.toNatClampNeg = K')
    (hb1 : N' * 4 ≤ 536870912) (hb2 : K' * componentBytes ty ≤ 536870912) (hb3 : K' ≤ 536870912) (hdf : fits ty (defaultValue ty) = true) (hdd : (defaultValue ty).isDefault = true) (hcells : cells + (1 + N') ≤ R.cells) (hslots : slots + (N' + N' * K') ≤ R.slots) (hz : ∀ c : ClassId, Jvm.Free.Multi.innerC c K' (defaultValue ty) = vp_cell c z) (hdg : decode cc pc = .ok (.multianewarray index 2, 4))
    (kk : ∀ (q : Nat) (r : Nat → Nat) (cA : ClassId) (H1 : Heap), (∀ i j : Nat, i < N' → j < N' → r i = r j → i = j) → (∀ i : Nat, i < N' → r i ∉ L) → va_K D cl (tys ++ [(cA, .array ty)]) s →
      va_P D cl ((X ++ [(q, .inl (cA, N', .inr (.inr (.inr (.inr (fun i => if i < N' then some (r i) else none))))))]) ++ va_pl (L ++ (List.range N').map r) (vr_up f ((List.range N').map r) (.inl (cy, z)))) H1 → va_D A ((X ++ [(q, .inl (cA, N', .inr (.inr (.inr (.inr (fun i => if i < N' then some (r i) else none))))))]) ++ va_pl (L ++ (List.range N').map r) (vr_up f ((List.range N').map r) (.inl (cy, z)))) → va_S A H0 H1 locs →
      W p l e R s m args below meth c H1 locs (cells + 1 + N') (slots + N' + N' * K') Q (F0 m (pc + 4) ls (.ref q :: rest))) : W p l e R s m args below meth c H locs cells slots Q (F0 m pc ls (.int k :: .int n :: rest)) := by
  subst hN
  subst hM
  intro T hT Xs
  obtain ⟨vm₁, cA, comp, -, fA, fC, hO, -, X', step⟩ := Xs.multianewarray2F hexec hown hclink (va_AOA.use hover) harr (g := F0 m pc ls (.int k :: .int n :: rest)) rfl (by rw [hb]; exact hdg) rfl hn hk hb1 hb2 hb3 hdf hdd hcells hslots
  have ec : some cy = some comp := hcy.symm.trans fC
  cases ec
  generalize hF : Jvm.Free.Multi.fill (T.setVm vm₁) cA cy n.toNatClampNeg k.toNatClampNeg (defaultValue ty) n.toNatClampNeg = F at X' step
  have hTh : (T.setVm vm₁).heap = H := hT
  obtain ⟨f1, f2, -, -⟩ := Jvm.Free.Multi.fill_facts (T.setVm vm₁) cA cy n.toNatClampNeg k.toNatClampNeg (defaultValue ty) n.toNatClampNeg
  rw [hF, hTh] at f1 f2
  have hold : ∀ x : Nat, x < H.size → F.heap[x]? = H[x]? := fun x hx => by
    have := Jvm.Free.Multi.fill_old (T.setVm vm₁) cA cy n.toNatClampNeg k.toNatClampNeg (defaultValue ty) (a := x) (by rw [hTh]; exact hx) n.toNatClampNeg
    rw [hF, hTh] at this
    exact this
  have hrow : ∀ j : Nat, j < n.toNatClampNeg → F.heap[H.size + 1 + j]? = some (vp_cell cy z) := fun j hj => by
    have := Jvm.Free.Multi.fill_inner (T.setVm vm₁) cA cy n.toNatClampNeg k.toNatClampNeg (defaultValue ty) n.toNatClampNeg j hj
    rw [hF, hTh, hz] at this
    exact this
  have hout : Jvm.Free.Multi.outerC cA n.toNatClampNeg H.size n.toNatClampNeg = vp_cell cA (n.toNatClampNeg, .inr (.inr (.inr (.inr (fun i => if i < n.toNatClampNeg then some (H.size + 1 + i) else none))))) := by
    rw [vp_cell_q]
    exact vr_outer cA n.toNatClampNeg H.size n.toNatClampNeg
  rw [hout] at f2
  have hlt : ∀ a, a ∈ L → a < H.size := fun a ha => by
    obtain ⟨k9, hk9⟩ := va_pl_get (X := X) (f := f) ha
    exact (hP k9 _ hk9).lt
  have hnl : ∀ i : Nat, i < n.toNatClampNeg → H.size + 1 + i ∉ L := fun i _ h => by
    have := hlt _ h
    omega
  have hnm : ∀ a, a ∈ (List.range n.toNatClampNeg).map (fun i => H.size + 1 + i) → a ∉ L := fun a ha h => by
    obtain ⟨i, -, rfl⟩ := List.mem_map.mp ha
    have := hlt _ h
    omega
  have hP0 : va_P D cl (X ++ va_pl L f) F.heap := hP.kept (fun k9 x hx => hold x.1 ((hP k9 x hx).lt))
  have hP1 : va_P D cl ((X ++ va_pl L f) ++ [(H.size, .inl (cA, n.toNatClampNeg, .inr (.inr (.inr (.inr (fun i => if i < n.toNatClampNeg then some (H.size + 1 + i) else none))))))]) F.heap := hP0.app (fun k9 x hx => by
    have h0 : k9 < 1 := (List.getElem?_eq_some_iff.mp hx).1
    rw [show k9 = 0 by omega] at hx
    cases hx
    exact f2)
  have hP2 : va_P D cl (((X ++ va_pl L f) ++ [(H.size, .inl (cA, n.toNatClampNeg, .inr (.inr (.inr (.inr (fun i => if i < n.toNatClampNeg then some (H.size + 1 + i) else none))))))]) ++ ((List.range n.toNatClampNeg).map (fun i => H.size + 1 + i)).map (fun a => (a, .inl (cy, z)))) F.heap := hP1.app (fun k9 x hx => by
    obtain ⟨a, ha, rfl⟩ := List.mem_map.mp (List.mem_of_getElem? hx)
    obtain ⟨i, hi, rfl⟩ := List.mem_map.mp ha
    exact hrow i (List.mem_range.mp hi))
  have hD2 : va_D A (((X ++ va_pl L f) ++ [(H.size, .inl (cA, n.toNatClampNeg, .inr (.inr (.inr (.inr (fun i => if i < n.toNatClampNeg then some (H.size + 1 + i) else none))))))]) ++ ((List.range n.toNatClampNeg).map (fun i => H.size + 1 + i)).map (fun a => (a, .inl (cy, z)))) := by
    have hD1 := hD.push (e := .inl (cA, n.toNatClampNeg, .inr (.inr (.inr (.inr (fun i => if i < n.toNatClampNeg then some (H.size + 1 + i) else none)))))) hP rfl (hA _ hS.1)
    generalize hW1 : (X ++ va_pl L f) ++ [(H.size, .inl (cA, n.toNatClampNeg, .inr (.inr (.inr (.inr (fun i => if i < n.toNatClampNeg then some (H.size + 1 + i) else none))))))] = W1 at hD1 hP1 ⊢
    have hle : ∀ (k9 : Nat) (x : Nat × va_E), W1[k9]? = some x → x.1 ≤ H.size := fun k9 x hx => by
      rw [← hW1] at hx
      by_cases hl : k9 < (X ++ va_pl L f).length
      · rw [List.getElem?_append_left hl] at hx
        exact Nat.le_of_lt ((hP k9 x hx).lt)
      · rw [List.getElem?_append_right (by omega)] at hx
        have h0 : k9 - (X ++ va_pl L f).length < 1 := (List.getElem?_eq_some_iff.mp hx).1
        rw [show k9 - (X ++ va_pl L f).length = 0 by omega] at hx
        cases hx
        exact Nat.le_refl _
    have hr : ∀ (k9 : Nat) (x : Nat × va_E), (((List.range n.toNatClampNeg).map (fun i => H.size + 1 + i)).map (fun a => ((a, .inl (cy, z)) : Nat × va_E)))[k9]? = some x → x.1 = H.size + 1 + k9 := fun k9 x hx => by
      rw [List.getElem?_map, List.getElem?_map] at hx
      by_cases h9 : k9 < n.toNatClampNeg
      · rw [List.getElem?_range h9] at hx
        cases hx
        rfl
      · have hn0 : (List.range n.toNatClampNeg)[k9]? = none := List.getElem?_eq_none (by rw [List.length_range]; omega)
        rw [hn0] at hx
        cases hx
    refine ⟨fun i j x y hi hj hxy => ?_, fun k9 x hx => ?_⟩
    · by_cases h1 : i < W1.length <;> by_cases h2 : j < W1.length
      · rw [List.getElem?_append_left h1] at hi
        rw [List.getElem?_append_left h2] at hj
        exact hD1.1 i j x y hi hj hxy
      · rw [List.getElem?_append_left h1] at hi
        rw [List.getElem?_append_right (by omega)] at hj
        have := hle _ _ hi
        have := hr _ _ hj
        omega
      · rw [List.getElem?_append_right (by omega)] at hi
        rw [List.getElem?_append_left h2] at hj
        have := hle _ _ hj
        have := hr _ _ hi
        omega
      · rw [List.getElem?_append_right (by omega)] at hi hj
        have := hr _ _ hi
        have := hr _ _ hj
        omega
    · by_cases h1 : k9 < W1.length
      · rw [List.getElem?_append_left h1] at hx
        exact hD1.2 k9 x hx
      · rw [List.getElem?_append_right (by omega)] at hx
        have := hr _ _ hx
        exact hA _ (by have := hS.1; omega)
  have hAr : ArrOfT s cA (.array ty) := fun N9 z9 => by
    obtain ⟨-, k9, hk9, cm9, hkk9⟩ := (hO 0 0 0).1
    exact ⟨(fun q hq => by cases hq), k9, hk9, cm9, hkk9⟩
  have hK2 : va_K D cl (tys ++ [(cA, .array ty)]) s := ⟨hK.1, fun k9 x hx => by
    by_cases hl : k9 < tys.length
    · rw [List.getElem?_append_left hl] at hx
      exact hK.2 k9 x hx
    · rw [List.getElem?_append_right (by omega)] at hx
      have h0 : k9 - tys.length < 1 := (List.getElem?_eq_some_iff.mp hx).1
      rw [show k9 - tys.length = 0 by omega] at hx
      cases hx
      exact ⟨hAr, fA⟩⟩
  obtain ⟨t, a1, b1⟩ := kk H.size (fun i => H.size + 1 + i) cA F.heap (fun i j _ _ h => by have h9 : H.size + 1 + i = H.size + 1 + j := h; omega) hnl hK2 (by rw [← vr_rows hnm]; exact vr_lay hP2) (by rw [← vr_rows hnm]; exact vr_layD hD2) ⟨by rw [f1]; have := hS.1; omega, fun x h1 h2 => (hold x (Nat.lt_of_lt_of_le h1 hS.1)).trans (hS.2.1 x h1 h2), hS.2.2⟩ F rfl X'
  refine ⟨t, step t ?_, b1⟩
  have e : T.heap.size = H.size := by rw [hT]
  rw [e]
  exact a1
end VGM
/-! ===== END ===== -/
end
section
theorem am_rho {a n : Nat} {ρ : Nat → Nat} {q : Nat} (h : q < n) : (fun i => if i = n then a else ρ i) q = ρ q := if_neg (Nat.ne_of_lt h)
theorem am_okS_map {ρ ρ' : Nat → Nat} {n : Nat} (hr : ∀ q, q < n → ρ' q = ρ q) (hx : ρ' 1000 = ρ 1000) : ∀ (st : List Value), am_okS n st = true → st.map (am_cv ρ') = st.map (am_cv ρ)
  | [], _ => rfl
  | v :: t, h => by
    have h2 := Bool.and_eq_true _ _ ▸ h
    have ih := am_okS_map hr hx t h2.2
    rw [List.map_cons, List.map_cons, ih]
    congr 1
    cases v with
    | ref q =>
      have h3 : (Nat.blt q n || Nat.beq q 1000) = true := h2.1
      rcases Bool.or_eq_true _ _ ▸ h3 with h4 | h4
      · show Value.ref (ρ' q) = Value.ref (ρ q)
        rw [hr q (Nat.blt_eq.mp h4)]
      · have := Nat.eq_of_beq_eq_true h4
        subst this
        show Value.ref (ρ' 1000) = Value.ref (ρ 1000)
        rw [hx]
    | _ => rfl
theorem am_okL_nth {ρ ρ' : Nat → Nat} {n : Nat} (hr : ∀ q, q < n → ρ' q = ρ q) (hx : ρ' 1000 = ρ 1000) : ∀ (L : am_L), am_okL n L = true → ∀ i v, am_nth L i = some v → am_cv ρ' v = am_cv ρ v
  | [], _, i, v, h => by simp [am_nth] at h
  | none :: t, h, 0, v, hv => by simp [am_nth] at hv
  | none :: t, h, i + 1, v, hv => am_okL_nth hr hx t h i v hv
  | some w :: t, h, 0, v, hv => by
    have h2 := Bool.and_eq_true _ _ ▸ h
    have e : w = v := Option.some.inj hv
    subst e
    have := am_okS_map hr hx [w] (by simp [am_okS, h2.1])
    simpa using this
  | some w :: t, h, i + 1, v, hv => by
    have h2 := Bool.and_eq_true _ _ ▸ h
    exact am_okL_nth hr hx t h2.2 i v hv
theorem am_has.ext {ρ ρ' : Nat → Nat} {n nL : Nat} {ls : Array Slot} {L : am_L} (hr : ∀ q, q < n → ρ' q = ρ q) (hx : ρ' 1000 = ρ 1000) (ho : am_okL n L = true) (h : am_has ρ ls nL L) : am_has ρ' ls nL L :=
  ⟨h.1, h.2.1, h.2.2.1, fun i v hv => by rw [am_okL_nth hr hx L ho i v hv]; exact h.2.2.2 i v hv⟩
theorem am_ro_ext {ρ ρ' : Nat → Nat} {n t : Nat} (hr : ∀ q, q < n → ρ' q = ρ q) (ht : t ≤ n) : am_ro ρ' t = am_ro ρ t := by
  cases t with
  | zero => rfl
  | succ z => show some (ρ' z) = some (ρ z); rw [hr z ht]
theorem am_len_le (q : Nat) : am_len q ≤ 10000 := by
  have this : ∀ (b : Bool) (x y : Nat), x ≤ 10000 → y ≤ 10000 → (bif b then x else y) ≤ 10000 := by
    intro b x y hx hy
    cases b
    · exact hy
    · exact hx
  unfold am_len
  repeat' (first | exact Nat.le_of_ble_eq_true rfl | refine this _ _ _ ?_ ?_)
theorem am_Wd.grow {D : va_G} {z : am_Z} {ρ : Nat → Nat} {n a : Nat} {σ : am_Sg} {τ : am_Tu} {A : Nat → Prop} {H H1 : Heap} {c : va_E} (h : am_Wd D z ρ n σ τ A H) (hP : va_P D vwCl (am_ws z ρ n σ τ ++ [(a, c)]) H1) (hD : va_D A (am_ws z ρ n σ τ ++ [(a, c)])) (hc : am_cell z (fun i => if i = n then a else ρ i) (am_z σ n 0) (am_z τ n 0) n = c) : am_Wd D z (fun i => if i = n then a else ρ i) (n + 1) (am_z σ n 0) (am_z τ n 0) A H1 := by
  have e := am_ws_push (z := z) (ρ := ρ) (ρ' := fun i => if i = n then a else ρ i) (n := n) (a := a) (σ := σ) (σ' := am_z σ n 0) (τ := τ) (τ' := am_z τ n 0) (c := c) (if_pos rfl) (fun q hq => am_rho hq) hc (fun q hq => am_cell_cong (am_z_ne (Nat.ne_of_lt hq)) (fun i => by rw [am_z_ne (Nat.ne_of_lt hq)]; exact am_ro_ext (fun x hx => am_rho hx) (h.2.2 q hq i)))
  rw [e] at hP hD
  refine ⟨hP, hD, fun q hq i => ?_⟩
  by_cases e2 : q = n
  · subst e2
    rw [am_z_self]
    exact Nat.zero_le _
  · rw [am_z_ne e2]
    exact Nat.le_succ_of_le (h.2.2 q (by omega) i)
theorem am_put_ws {z : am_Z} {ρ : Nat → Nat} {n q x y : Nat} {σ σ' : am_Sg} {τ τ' : am_Tu} {v : Value} (hq : am_knd q = x) (hx : x < 9) (hy : y < am_N x) (h1 : am_fv ρ x σ' τ' q y = v) (h2 : ∀ k, ¬ k = y → am_fv ρ x σ' τ' q k = am_fv ρ x σ τ q k) (ho : ∀ q', ¬ q' = q → am_cell z ρ σ' τ' q' = am_cell z ρ σ τ q') : (am_ws z ρ n σ τ).set q (ρ q, .inr (x, ((List.range (am_N x)).map (am_fv ρ x σ τ q)).set y v)) = am_ws z ρ n σ' τ' := by
  rw [am_set_fv hy h1 h2]
  exact am_ws_set (am_cell_o hq hx) ho
theorem am_cats {ρ : Nat → Nat} : ∀ {s : List Value}, Nat.ble s.length 4 = true → ((s.map (am_cv ρ)).map fun v => v.category).sum ≤ 8 := by
  intro s h
  have hl : s.length ≤ 4 := Nat.le_of_ble_eq_true h
  have : ∀ s : List Value, ((s.map (am_cv ρ)).map fun v => v.category).sum ≤ 2 * s.length := by
    intro s
    induction s with
    | nil => simp
    | cons v t ih =>
      have := lv_cat (am_cv ρ v)
      simp only [List.map_cons, List.sum_cons, List.length_cons]
      omega
  have := this s
  omega
section AMB
variable {p : Program} {l : Launch} {e : Env} {R : Room} {s : State} {m : MethodId} {args : Array Value} {below : List Frame} {meth : Method} {c : Code} {Q : State → Prop} {cc : ByteArray} {own : String} {D : va_G} {z : am_Z} {A : Nat → Prop} {H0 : Heap} {nL n0 nf P : Nat} {X : am_X} {ρ0 : Nat → Nat} {pc nx : Nat} {L : am_L} {st : List Value} {n : Nat} {σ : am_Sg} {τ : am_Tu} {k : am_K}
theorem am_m0 {x y q i : Nat} {r : List Value} {w : Nat} (hC : am_Cx p R s m args c cc own D z A H0 nL n0 nf P X ρ0) (hx : x < 9) (hy : y < am_N x) (hr : am_isr x y = false) (hd : decode cc pc = .ok (.getfield i, 3)) (hw : .fieldLink own i (am_T x y).1 (am_T x y).2.1 (am_T x y).2.2.1 ∈ am_tb) (hq : am_al P n q = true) (hq2 : am_knd q = x) (h : k (pc + 3) L (.int (σ q y) :: r) n σ τ) (hk : ∀ pc L st n σ τ, k pc L st n σ τ → am_Wb p l e R s m args below meth c Q D z A H0 nL n0 nf X ρ0 pc L st n σ τ) : am_Wb p l e R s m args below meth c Q D z A H0 nL n0 nf X ρ0 pc L (.ref q :: r) n σ τ := by
  intro ρ H locs ls h0 h1 hX hW hS hl
  obtain ⟨hP, hD, hT⟩ := id hW
  have hqn : q < n := am_al_lt hq (Nat.le_trans hC.2.2.2.2.2.2.2.2.2.1 h0)
  obtain ⟨hc, hin, hty, hnm⟩ := am_cls hx
  exact va_get (D := D) (ci := x) (v := .int (σ q y)) (C := am_R x) (T := am_T x) (N := am_N x) hC.1 hC.2.1 hC.2.2.2.2.1 hin hC.2.2.2.1 hC.2.2.2.2.2.1 hP q (by rw [am_ws_get hqn, am_cell_o hq2 hx]) hc y hy (hC.2.2.2.2.1 _ hw) (fun _ h9 => h9) (by simp [hy, am_fv, hr]) hd (hk _ _ _ _ _ _ h ρ H locs ls h0 h1 hX hW hS hl)
theorem am_m1n {x y q i : Nat} {r : List Value} {w : Nat} (hC : am_Cx p R s m args c cc own D z A H0 nL n0 nf P X ρ0) (hx : x < 9) (hy : y < am_N x) (hr : am_isr x y = true) (hd : decode cc pc = .ok (.getfield i, 3)) (hw : .fieldLink own i (am_T x y).1 (am_T x y).2.1 (am_T x y).2.2.1 ∈ am_tb) (hq : am_al P n q = true) (hq2 : am_knd q = x) (ht : τ q y = 0) (h : k (pc + 3) L (.null :: r) n σ τ) (hk : ∀ pc L st n σ τ, k pc L st n σ τ → am_Wb p l e R s m args below meth c Q D z A H0 nL n0 nf X ρ0 pc L st n σ τ) : am_Wb p l e R s m args below meth c Q D z A H0 nL n0 nf X ρ0 pc L (.ref q :: r) n σ τ := by
  intro ρ H locs ls h0 h1 hX hW hS hl
  obtain ⟨hP, hD, hT⟩ := id hW
  have hqn : q < n := am_al_lt hq (Nat.le_trans hC.2.2.2.2.2.2.2.2.2.1 h0)
  obtain ⟨hc, hin, hty, hnm⟩ := am_cls hx
  exact va_get (D := D) (ci := x) (v := .null) (C := am_R x) (T := am_T x) (N := am_N x) hC.1 hC.2.1 hC.2.2.2.2.1 hin hC.2.2.2.1 hC.2.2.2.2.2.1 hP q (by rw [am_ws_get hqn, am_cell_o hq2 hx]) hc y hy (hC.2.2.2.2.1 _ hw) (fun _ h9 => h9) (by simp [hy, am_fv, hr, ht, am_ro, va_rf]) hd (hk _ _ _ _ _ _ h ρ H locs ls h0 h1 hX hW hS hl)
theorem am_m1r {x y q i : Nat} {r : List Value} {w : Nat} (hC : am_Cx p R s m args c cc own D z A H0 nL n0 nf P X ρ0) (hx : x < 9) (hy : y < am_N x) (hr : am_isr x y = true) (hd : decode cc pc = .ok (.getfield i, 3)) (hw : .fieldLink own i (am_T x y).1 (am_T x y).2.1 (am_T x y).2.2.1 ∈ am_tb) (hq : am_al P n q = true) (hq2 : am_knd q = x) (ht : τ q y = w + 1) (h : k (pc + 3) L (.ref w :: r) n σ τ) (hk : ∀ pc L st n σ τ, k pc L st n σ τ → am_Wb p l e R s m args below meth c Q D z A H0 nL n0 nf X ρ0 pc L st n σ τ) : am_Wb p l e R s m args below meth c Q D z A H0 nL n0 nf X ρ0 pc L (.ref q :: r) n σ τ := by
  intro ρ H locs ls h0 h1 hX hW hS hl
  obtain ⟨hP, hD, hT⟩ := id hW
  have hqn : q < n := am_al_lt hq (Nat.le_trans hC.2.2.2.2.2.2.2.2.2.1 h0)
  obtain ⟨hc, hin, hty, hnm⟩ := am_cls hx
  exact va_get (D := D) (ci := x) (v := .ref (ρ w)) (C := am_R x) (T := am_T x) (N := am_N x) hC.1 hC.2.1 hC.2.2.2.2.1 hin hC.2.2.2.1 hC.2.2.2.2.2.1 hP q (by rw [am_ws_get hqn, am_cell_o hq2 hx]) hc y hy (hC.2.2.2.2.1 _ hw) (fun _ h9 => h9) (by simp [hy, am_fv, hr, ht, am_ro, va_rf]) hd (hk _ _ _ _ _ _ h ρ H locs ls h0 h1 hX hW hS hl)
theorem am_m2 {x y q i : Nat} {r : List Value} {w : Nat} (hC : am_Cx p R s m args c cc own D z A H0 nL n0 nf P X ρ0) (hx : x < 9) (hy : y < am_N x) (hr : am_isr x y = false) (hd : decode cc pc = .ok (.getfield i, 3)) (hw : .fieldLinkNest own i (am_T x y).1 (am_T x y).2.1 (am_T x y).2.2.1 "CanalEnd" ∈ am_tb) (hq : am_al P n q = true) (hq2 : am_knd q = x) (h : k (pc + 3) L (.int (σ q y) :: r) n σ τ) (hk : ∀ pc L st n σ τ, k pc L st n σ τ → am_Wb p l e R s m args below meth c Q D z A H0 nL n0 nf X ρ0 pc L st n σ τ) : am_Wb p l e R s m args below meth c Q D z A H0 nL n0 nf X ρ0 pc L (.ref q :: r) n σ τ := by
  intro ρ H locs ls h0 h1 hX hW hS hl
  obtain ⟨hP, hD, hT⟩ := id hW
  have hqn : q < n := am_al_lt hq (Nat.le_trans hC.2.2.2.2.2.2.2.2.2.1 h0)
  obtain ⟨hc, hin, hty, hnm⟩ := am_cls hx
  exact va_getN (D := D) (ci := x) (v := .int (σ q y)) (C := am_R x) (T := am_T x) (N := am_N x) hC.1 hC.2.1 hC.2.2.2.2.1 hin hC.2.2.2.1 hC.2.2.2.2.2.1 hP q (by rw [am_ws_get hqn, am_cell_o hq2 hx]) hc y hy (hC.2.2.2.2.1 _ hw) (fun _ h9 => h9) (by simp [hy, am_fv, hr]) hd (hk _ _ _ _ _ _ h ρ H locs ls h0 h1 hX hW hS hl)
theorem am_m3 {x y q i : Nat} {r : List Value} {w : Nat} {v : Int32} (hC : am_Cx p R s m args c cc own D z A H0 nL n0 nf P X ρ0) (hx : x < 9) (hy : y < am_N x) (hr : am_isr x y = false) (hf : (am_T x y).2.2.2 = false) (ht : am_ty x y = .int) (hd : decode cc pc = .ok (.putfield i, 3)) (hw : .fieldLink own i (am_T x y).1 (am_T x y).2.1 (am_T x y).2.2.1 ∈ am_tb) (hq : am_al P n q = true) (hq2 : am_knd q = x) (h : k (pc + 3) L r n (am_up σ q y v) τ) (hk : ∀ pc L st n σ τ, k pc L st n σ τ → am_Wb p l e R s m args below meth c Q D z A H0 nL n0 nf X ρ0 pc L st n σ τ) : am_Wb p l e R s m args below meth c Q D z A H0 nL n0 nf X ρ0 pc L (.int v :: .ref q :: r) n σ τ := by
  intro ρ H locs ls h0 h1 hX hW hS hl
  obtain ⟨hP, hD, hT⟩ := id hW
  have hqn : q < n := am_al_lt hq (Nat.le_trans hC.2.2.2.2.2.2.2.2.2.1 h0)
  obtain ⟨hc, hin, hty, hnm⟩ := am_cls hx
  refine va_put (D := D) (ci := x) (v := (.int v)) (ty := am_ty x y) (C := am_R x) (T := am_T x) (N := am_N x) hC.1 hC.2.1 hC.2.2.2.2.1 hin (am_ty x) hty hnm hC.2.2.2.1 hC.2.2.2.2.2.1 hP hD hS q (by rw [am_ws_get hqn, am_cell_o hq2 hx]) hc y hy (hC.2.2.2.2.1 _ hw) (fun _ h9 => h9) hf (hty y hy) (by rw [ht]; rfl) (by rw [ht]; rfl) (by simp [hy]) hd (fun H1 locs1 hP1 hD1 hS1 => ?_)
  have e := am_put_ws (z := z) (ρ := ρ) (n := n) (σ := σ) (σ' := (am_up σ q y v)) (τ := τ) (τ' := τ) (v := (.int v)) hq2 hx hy (by simp [am_fv, hr, am_up_self]) (fun k9 hk9 => by unfold am_fv; rw [am_up_self, if_neg hk9]) (fun q9 hq9 => am_cell_cong (am_up_ne hq9) (fun _ => rfl))
  rw [e] at hP1 hD1
  exact hk _ _ _ _ _ _ h ρ H1 locs1 ls h0 h1 hX ⟨hP1, hD1, hT⟩ hS1 hl
theorem am_m4 {x y q i : Nat} {r : List Value} {w : Nat} {v : Int32} (hC : am_Cx p R s m args c cc own D z A H0 nL n0 nf P X ρ0) (hx : x < 9) (hy : y < am_N x) (hr : am_isr x y = false) (hf : (am_T x y).2.2.2 = false) (ht : am_ty x y = .boolean) (hd : decode cc pc = .ok (.putfield i, 3)) (hw : .fieldLink own i (am_T x y).1 (am_T x y).2.1 (am_T x y).2.2.1 ∈ am_tb) (hq : am_al P n q = true) (hq2 : am_knd q = x) (hv : v = 0 ∨ v = 1) (h : k (pc + 3) L r n (am_up σ q y v) τ) (hk : ∀ pc L st n σ τ, k pc L st n σ τ → am_Wb p l e R s m args below meth c Q D z A H0 nL n0 nf X ρ0 pc L st n σ τ) : am_Wb p l e R s m args below meth c Q D z A H0 nL n0 nf X ρ0 pc L (.int v :: .ref q :: r) n σ τ := by
  intro ρ H locs ls h0 h1 hX hW hS hl
  obtain ⟨hP, hD, hT⟩ := id hW
  have hqn : q < n := am_al_lt hq (Nat.le_trans hC.2.2.2.2.2.2.2.2.2.1 h0)
  obtain ⟨hc, hin, hty, hnm⟩ := am_cls hx
  refine va_put (D := D) (ci := x) (v := (.int v)) (ty := am_ty x y) (C := am_R x) (T := am_T x) (N := am_N x) hC.1 hC.2.1 hC.2.2.2.2.1 hin (am_ty x) hty hnm hC.2.2.2.1 hC.2.2.2.2.2.1 hP hD hS q (by rw [am_ws_get hqn, am_cell_o hq2 hx]) hc y hy (hC.2.2.2.2.1 _ hw) (fun _ h9 => h9) hf (hty y hy) (by rw [ht]; rcases hv with rfl | rfl <;> rfl) (by rw [ht]; rcases hv with rfl | rfl <;> rfl) (by simp [hy]) hd (fun H1 locs1 hP1 hD1 hS1 => ?_)
  have e := am_put_ws (z := z) (ρ := ρ) (n := n) (σ := σ) (σ' := (am_up σ q y v)) (τ := τ) (τ' := τ) (v := (.int v)) hq2 hx hy (by simp [am_fv, hr, am_up_self]) (fun k9 hk9 => by unfold am_fv; rw [am_up_self, if_neg hk9]) (fun q9 hq9 => am_cell_cong (am_up_ne hq9) (fun _ => rfl))
  rw [e] at hP1 hD1
  exact hk _ _ _ _ _ _ h ρ H1 locs1 ls h0 h1 hX ⟨hP1, hD1, hT⟩ hS1 hl
theorem am_m5r {x y q i : Nat} {r : List Value} {w : Nat} {v : Int32} (hC : am_Cx p R s m args c cc own D z A H0 nL n0 nf P X ρ0) (hx : x < 9) (hy : y < am_N x) (hr : am_isr x y = true) (hf : (am_T x y).2.2.2 = false) (hd : decode cc pc = .ok (.putfield i, 3)) (hw : .fieldLink own i (am_T x y).1 (am_T x y).2.1 (am_T x y).2.2.1 ∈ am_tb) (hq : am_al P n q = true) (hq2 : am_knd q = x) (hz : am_al P n w = true) (h : k (pc + 3) L r n σ (am_up τ q y (w + 1))) (hk : ∀ pc L st n σ τ, k pc L st n σ τ → am_Wb p l e R s m args below meth c Q D z A H0 nL n0 nf X ρ0 pc L st n σ τ) : am_Wb p l e R s m args below meth c Q D z A H0 nL n0 nf X ρ0 pc L (.ref w :: .ref q :: r) n σ τ := by
  intro ρ H locs ls h0 h1 hX hW hS hl
  obtain ⟨hP, hD, hT⟩ := id hW
  have hqn : q < n := am_al_lt hq (Nat.le_trans hC.2.2.2.2.2.2.2.2.2.1 h0)
  obtain ⟨hc, hin, hty, hnm⟩ := am_cls hx
  refine va_put (D := D) (ci := x) (v := (.ref (ρ w))) (ty := am_ty x y) (C := am_R x) (T := am_T x) (N := am_N x) hC.1 hC.2.1 hC.2.2.2.2.1 hin (am_ty x) hty hnm hC.2.2.2.1 hC.2.2.2.2.2.1 hP hD hS q (by rw [am_ws_get hqn, am_cell_o hq2 hx]) hc y hy (hC.2.2.2.2.1 _ hw) (fun _ h9 => h9) hf (hty y hy) (by have := (am_fty hx hy).1 hr; revert this; cases am_ty x y <;> intro h9 <;> first | rfl | exact absurd h9 Bool.false_ne_true) (by have := (am_fty hx hy).1 hr; revert this; cases am_ty x y <;> intro h9 <;> first | rfl | exact absurd h9 Bool.false_ne_true) (by simp [hy]) hd (fun H1 locs1 hP1 hD1 hS1 => ?_)
  have e := am_put_ws (z := z) (ρ := ρ) (n := n) (σ := σ) (σ' := σ) (τ := τ) (τ' := (am_up τ q y (w + 1))) (v := (.ref (ρ w))) hq2 hx hy (by simp [am_fv, hr, am_up_self, am_ro, va_rf]) (fun k9 hk9 => by unfold am_fv; rw [am_up_self, if_neg hk9]) (fun q9 hq9 => am_cell_cong rfl (fun _ => by rw [am_up_ne hq9]))
  rw [e] at hP1 hD1
  exact hk _ _ _ _ _ _ h ρ H1 locs1 ls h0 h1 hX ⟨hP1, hD1, fun q9 h9 i9 => by
    by_cases e9 : q9 = q
    · subst e9
      rw [am_up_self]
      split
      · exact am_al_lt hz (Nat.le_trans hC.2.2.2.2.2.2.2.2.2.1 h0)
      · exact hT _ h9 i9
    · rw [am_up_ne e9]
      exact hT _ h9 i9⟩ hS1 hl
theorem am_m5n {x y q i : Nat} {r : List Value} {w : Nat} {v : Int32} (hC : am_Cx p R s m args c cc own D z A H0 nL n0 nf P X ρ0) (hx : x < 9) (hy : y < am_N x) (hr : am_isr x y = true) (hf : (am_T x y).2.2.2 = false) (hd : decode cc pc = .ok (.putfield i, 3)) (hw : .fieldLink own i (am_T x y).1 (am_T x y).2.1 (am_T x y).2.2.1 ∈ am_tb) (hq : am_al P n q = true) (hq2 : am_knd q = x) (h : k (pc + 3) L r n σ (am_up τ q y 0)) (hk : ∀ pc L st n σ τ, k pc L st n σ τ → am_Wb p l e R s m args below meth c Q D z A H0 nL n0 nf X ρ0 pc L st n σ τ) : am_Wb p l e R s m args below meth c Q D z A H0 nL n0 nf X ρ0 pc L (.null :: .ref q :: r) n σ τ := by
  intro ρ H locs ls h0 h1 hX hW hS hl
  obtain ⟨hP, hD, hT⟩ := id hW
  have hqn : q < n := am_al_lt hq (Nat.le_trans hC.2.2.2.2.2.2.2.2.2.1 h0)
  obtain ⟨hc, hin, hty, hnm⟩ := am_cls hx
  refine va_put (D := D) (ci := x) (v := .null) (ty := am_ty x y) (C := am_R x) (T := am_T x) (N := am_N x) hC.1 hC.2.1 hC.2.2.2.2.1 hin (am_ty x) hty hnm hC.2.2.2.1 hC.2.2.2.2.2.1 hP hD hS q (by rw [am_ws_get hqn, am_cell_o hq2 hx]) hc y hy (hC.2.2.2.2.1 _ hw) (fun _ h9 => h9) hf (hty y hy) (by have := (am_fty hx hy).1 hr; revert this; cases am_ty x y <;> intro h9 <;> first | rfl | exact absurd h9 Bool.false_ne_true) (by have := (am_fty hx hy).1 hr; revert this; cases am_ty x y <;> intro h9 <;> first | rfl | exact absurd h9 Bool.false_ne_true) (by simp [hy]) hd (fun H1 locs1 hP1 hD1 hS1 => ?_)
  have e := am_put_ws (z := z) (ρ := ρ) (n := n) (σ := σ) (σ' := σ) (τ := τ) (τ' := (am_up τ q y 0)) (v := .null) hq2 hx hy (by simp [am_fv, hr, am_up_self, am_ro, va_rf]) (fun k9 hk9 => by unfold am_fv; rw [am_up_self, if_neg hk9]) (fun q9 hq9 => am_cell_cong rfl (fun _ => by rw [am_up_ne hq9]))
  rw [e] at hP1 hD1
  exact hk _ _ _ _ _ _ h ρ H1 locs1 ls h0 h1 hX ⟨hP1, hD1, fun q9 h9 i9 => by
    by_cases e9 : q9 = q
    · subst e9
      rw [am_up_self]
      split
      · exact Nat.zero_le _
      · exact hT _ h9 i9
    · rw [am_up_ne e9]
      exact hT _ h9 i9⟩ hS1 hl
theorem am_m6 {x y q i : Nat} {r : List Value} {w : Nat} {v : Int32} (hC : am_Cx p R s m args c cc own D z A H0 nL n0 nf P X ρ0) (hx : x < 9) (hy : y < am_N x) (hr : am_isr x y = true) (hf : (am_T x y).2.2.2 = true) (hi : meth.name = "<init>") (ho : (am_T x y).1 = own) (hd : decode cc pc = .ok (.putfield i, 3)) (hw : .fieldLink own i (am_T x y).1 (am_T x y).2.1 (am_T x y).2.2.1 ∈ am_tb) (hq : am_al P n q = true) (hq2 : am_knd q = x) (hz : am_al P n w = true) (h : k (pc + 3) L r n σ (am_up τ q y (w + 1))) (hk : ∀ pc L st n σ τ, k pc L st n σ τ → am_Wb p l e R s m args below meth c Q D z A H0 nL n0 nf X ρ0 pc L st n σ τ) : am_Wb p l e R s m args below meth c Q D z A H0 nL n0 nf X ρ0 pc L (.ref w :: .ref q :: r) n σ τ := by
  intro ρ H locs ls h0 h1 hX hW hS hl
  obtain ⟨hP, hD, hT⟩ := id hW
  have hqn : q < n := am_al_lt hq (Nat.le_trans hC.2.2.2.2.2.2.2.2.2.1 h0)
  obtain ⟨hc, hin, hty, hnm⟩ := am_cls hx
  refine va_putF (D := D) (ci := x) (v := (.ref (ρ w))) (ty := am_ty x y) (C := am_R x) (T := am_T x) (N := am_N x) hC.1 hC.2.1 hC.2.2.2.2.1 hin (am_ty x) hty hnm hC.2.2.2.1 hC.2.2.2.2.2.1 hP hD hS q (by rw [am_ws_get hqn, am_cell_o hq2 hx]) hc y hy (hC.2.2.2.2.1 _ hw) (fun _ h9 => h9) hf hi ho (hty y hy) (by have := (am_fty hx hy).1 hr; revert this; cases am_ty x y <;> intro h9 <;> first | rfl | exact absurd h9 Bool.false_ne_true) (by have := (am_fty hx hy).1 hr; revert this; cases am_ty x y <;> intro h9 <;> first | rfl | exact absurd h9 Bool.false_ne_true) (by simp [hy]) hd (fun H1 locs1 hP1 hD1 hS1 => ?_)
  have e := am_put_ws (z := z) (ρ := ρ) (n := n) (σ := σ) (σ' := σ) (τ := τ) (τ' := (am_up τ q y (w + 1))) (v := (.ref (ρ w))) hq2 hx hy (by simp [am_fv, hr, am_up_self, am_ro, va_rf]) (fun k9 hk9 => by unfold am_fv; rw [am_up_self, if_neg hk9]) (fun q9 hq9 => am_cell_cong rfl (fun _ => by rw [am_up_ne hq9]))
  rw [e] at hP1 hD1
  exact hk _ _ _ _ _ _ h ρ H1 locs1 ls h0 h1 hX ⟨hP1, hD1, fun q9 h9 i9 => by
    by_cases e9 : q9 = q
    · subst e9
      rw [am_up_self]
      split
      · exact am_al_lt hz (Nat.le_trans hC.2.2.2.2.2.2.2.2.2.1 h0)
      · exact hT _ h9 i9
    · rw [am_up_ne e9]
      exact hT _ h9 i9⟩ hS1 hl
theorem am_m7 {q : Nat} {i v : Int32} {r : List Value} (hC : am_Cx p R s m args c cc own D z A H0 nL n0 nf P X ρ0) (hq : am_al P n q = true) (hq2 : am_knd q = 10) (hin : vp_in i (am_len q)) (hd : decode cc pc = .ok (.iaload, 1)) (h : k (pc + 1) L (.int (σ q i.toNatClampNeg) :: r) n σ τ) (hk : ∀ pc L st n σ τ, k pc L st n σ τ → am_Wb p l e R s m args below meth c Q D z A H0 nL n0 nf X ρ0 pc L st n σ τ) : am_Wb p l e R s m args below meth c Q D z A H0 nL n0 nf X ρ0 pc L (.int i :: .ref q :: r) n σ τ := by
  intro ρ H locs ls h0 h1 hX hW hS hl
  obtain ⟨hP, hD, hT⟩ := id hW
  have hqn : q < n := am_al_lt hq (Nat.le_trans hC.2.2.2.2.2.2.2.2.2.1 h0)
  exact va_iald (D := D) hC.1 hC.2.1 hC.2.2.2.2.2.1 hP q 0 (by rw [am_ws_get hqn, am_cell_i hq2]) rfl hin hd (hk _ _ _ _ _ _ h ρ H locs ls h0 h1 hX hW hS hl)
theorem am_m9 {q : Nat} {i v : Int32} {r : List Value} (hC : am_Cx p R s m args c cc own D z A H0 nL n0 nf P X ρ0) (hq : am_al P n q = true) (hq2 : am_knd q = 11) (hin : vp_in i (am_len q)) (hd : decode cc pc = .ok (.baload, 1)) (h : k (pc + 1) L (.int (σ q i.toNatClampNeg) :: r) n σ τ) (hk : ∀ pc L st n σ τ, k pc L st n σ τ → am_Wb p l e R s m args below meth c Q D z A H0 nL n0 nf X ρ0 pc L st n σ τ) : am_Wb p l e R s m args below meth c Q D z A H0 nL n0 nf X ρ0 pc L (.int i :: .ref q :: r) n σ τ := by
  intro ρ H locs ls h0 h1 hX hW hS hl
  obtain ⟨hP, hD, hT⟩ := id hW
  have hqn : q < n := am_al_lt hq (Nat.le_trans hC.2.2.2.2.2.2.2.2.2.1 h0)
  exact va_zald (D := D) hC.1 hC.2.1 hC.2.2.2.2.2.1 hP q 1 (by rw [am_ws_get hqn, am_cell_z hq2]) rfl hin hd (hk _ _ _ _ _ _ h ρ H locs ls h0 h1 hX hW hS hl)
theorem am_m8 {q : Nat} {i v : Int32} {r : List Value} (hC : am_Cx p R s m args c cc own D z A H0 nL n0 nf P X ρ0) (hq : am_al P n q = true) (hq2 : am_knd q = 10) (hin : vp_in i (am_len q)) (hd : decode cc pc = .ok (.iastore, 1)) (h : k (pc + 1) L r n (am_up σ q i.toNatClampNeg v) τ) (hk : ∀ pc L st n σ τ, k pc L st n σ τ → am_Wb p l e R s m args below meth c Q D z A H0 nL n0 nf X ρ0 pc L st n σ τ) : am_Wb p l e R s m args below meth c Q D z A H0 nL n0 nf X ρ0 pc L (.int v :: .int i :: .ref q :: r) n σ τ := by
  intro ρ H locs ls h0 h1 hX hW hS hl
  obtain ⟨hP, hD, hT⟩ := id hW
  have hqn : q < n := am_al_lt hq (Nat.le_trans hC.2.2.2.2.2.2.2.2.2.1 h0)
  refine va_iast (D := D) hC.1 hC.2.1 hC.2.2.2.2.2.1 hP hD hS q 0 (by rw [am_ws_get hqn, am_cell_i hq2]) rfl hin hd (fun H1 locs1 hP1 hD1 hS1 => ?_)
  have e := am_ws_set (z := z) (ρ := ρ) (n := n) (q := q) (σ := σ) (σ' := am_up σ q i.toNatClampNeg v) (τ := τ) (τ' := τ) (c := .inl (z.1, am_len q, .inl (upd (σ q) i.toNatClampNeg v))) (by rw [am_cell_i hq2, show am_up σ q i.toNatClampNeg v q = upd (σ q) i.toNatClampNeg v from funext fun j => am_up_self j]) (fun q9 hq9 => am_cell_cong (am_up_ne hq9) (fun _ => rfl))
  rw [e] at hP1 hD1
  exact hk _ _ _ _ _ _ h ρ H1 locs1 ls h0 h1 hX ⟨hP1, hD1, hT⟩ hS1 hl
theorem am_m10 {q : Nat} {i v : Int32} {r : List Value} (hC : am_Cx p R s m args c cc own D z A H0 nL n0 nf P X ρ0) (hq : am_al P n q = true) (hq2 : am_knd q = 11) (hin : vp_in i (am_len q)) (hv : v = 0 ∨ v = 1) (hd : decode cc pc = .ok (.bastore, 1)) (h : k (pc + 1) L r n (am_up σ q i.toNatClampNeg v) τ) (hk : ∀ pc L st n σ τ, k pc L st n σ τ → am_Wb p l e R s m args below meth c Q D z A H0 nL n0 nf X ρ0 pc L st n σ τ) : am_Wb p l e R s m args below meth c Q D z A H0 nL n0 nf X ρ0 pc L (.int v :: .int i :: .ref q :: r) n σ τ := by
  intro ρ H locs ls h0 h1 hX hW hS hl
  obtain ⟨hP, hD, hT⟩ := id hW
  have hqn : q < n := am_al_lt hq (Nat.le_trans hC.2.2.2.2.2.2.2.2.2.1 h0)
  refine va_zast (D := D) hC.1 hC.2.1 hC.2.2.2.2.2.1 hP hD hS q 1 (by rw [am_ws_get hqn, am_cell_z hq2]) rfl hin hd (fun H1 locs1 hP1 hD1 hS1 => ?_)
  rw [show vp_nar .boolean v = v by rcases hv with rfl | rfl <;> rfl] at hP1 hD1
  have e := am_ws_set (z := z) (ρ := ρ) (n := n) (q := q) (σ := σ) (σ' := am_up σ q i.toNatClampNeg v) (τ := τ) (τ' := τ) (c := .inl (z.2.1, am_len q, .inl (upd (σ q) i.toNatClampNeg v))) (by rw [am_cell_z hq2, show am_up σ q i.toNatClampNeg v q = upd (σ q) i.toNatClampNeg v from funext fun j => am_up_self j]) (fun q9 hq9 => am_cell_cong (am_up_ne hq9) (fun _ => rfl))
  rw [e] at hP1 hD1
  exact hk _ _ _ _ _ _ h ρ H1 locs1 ls h0 h1 hX ⟨hP1, hD1, hT⟩ hS1 hl
theorem am_m11s {q : Nat} {i v : Int32} {r : List Value} {w : Nat} (hC : am_Cx p R s m args c cc own D z A H0 nL n0 nf P X ρ0) (hq : am_al P n q = true) (hq2 : am_knd q = 12) (hin : vp_in i (am_len q)) (ht : τ q i.toNatClampNeg = w + 1) (hd : decode cc pc = .ok (.aaload, 1)) (h : k (pc + 1) L (.ref w :: r) n σ τ) (hk : ∀ pc L st n σ τ, k pc L st n σ τ → am_Wb p l e R s m args below meth c Q D z A H0 nL n0 nf X ρ0 pc L st n σ τ) : am_Wb p l e R s m args below meth c Q D z A H0 nL n0 nf X ρ0 pc L (.int i :: .ref q :: r) n σ τ := by
  intro ρ H locs ls h0 h1 hX hW hS hl
  obtain ⟨hP, hD, hT⟩ := id hW
  have hqn : q < n := am_al_lt hq (Nat.le_trans hC.2.2.2.2.2.2.2.2.2.1 h0)
  refine va_aldq (D := D) (C := "CanalEnd$Sheet") hC.1 hC.2.1 hC.2.2.2.2.2.1 hP q 2 (by rw [am_ws_get hqn, am_cell_s hq2]) rfl hin hd ?_
  rw [ht]
  exact (hk _ _ _ _ _ _ h ρ H locs ls h0 h1 hX hW hS hl)
theorem am_m11r {q : Nat} {i v : Int32} {r : List Value} {w : Nat} (hC : am_Cx p R s m args c cc own D z A H0 nL n0 nf P X ρ0) (hq : am_al P n q = true) (hq2 : am_knd q = 13) (hin : vp_in i (am_len q)) (ht : τ q i.toNatClampNeg = w + 1) (hd : decode cc pc = .ok (.aaload, 1)) (h : k (pc + 1) L (.ref w :: r) n σ τ) (hk : ∀ pc L st n σ τ, k pc L st n σ τ → am_Wb p l e R s m args below meth c Q D z A H0 nL n0 nf X ρ0 pc L st n σ τ) : am_Wb p l e R s m args below meth c Q D z A H0 nL n0 nf X ρ0 pc L (.int i :: .ref q :: r) n σ τ := by
  intro ρ H locs ls h0 h1 hX hW hS hl
  obtain ⟨hP, hD, hT⟩ := id hW
  have hqn : q < n := am_al_lt hq (Nat.le_trans hC.2.2.2.2.2.2.2.2.2.1 h0)
  have hlt : i.toNatClampNeg < am_len q := Nat.not_le.mp fun q => hin (Or.inr q)
  have ha : (am_ws z ρ n σ τ)[q]? = some (ρ q, .inl (z.2.2.2, am_len q, .inr (.inr (.inr (.inr (fun i => am_ro ρ (τ q i))))))) := by rw [am_ws_get hqn, am_cell_r hq2]
  refine W.aald (v := va_rf (am_ro ρ (τ q i.toNatClampNeg))) (ty := .array .int) hC.1 hC.2.1 (hP q _ ha) ((hC.2.2.2.2.2.1.2 3 _ rfl).1 (am_len q) (fun j => va_rf (am_ro ρ (τ q j)))) rfl (fun q => by cases q) (by show ¬ (i < 0 ∨ (arrV _ _ _).slots.size ≤ _); rw [arrV_size]; exact hin) (by show (arrV _ _ _).slots[_]? = _; rw [arrV_read _ _ hlt]) rfl rfl hd ?_
  rw [ht]
  exact (hk _ _ _ _ _ _ h ρ H locs ls h0 h1 hX hW hS hl)
theorem am_m12 {q : Nat} {i v : Int32} {r : List Value} {w : Nat} (hC : am_Cx p R s m args c cc own D z A H0 nL n0 nf P X ρ0) (hq : am_al P n q = true) (hq2 : am_knd q = 12) (hin : vp_in i (am_len q)) (hz : am_al P n w = true) (hz2 : am_knd w = 4) (hd : decode cc pc = .ok (.aastore, 1)) (h : k (pc + 1) L r n σ (am_up τ q i.toNatClampNeg (w + 1))) (hk : ∀ pc L st n σ τ, k pc L st n σ τ → am_Wb p l e R s m args below meth c Q D z A H0 nL n0 nf X ρ0 pc L st n σ τ) : am_Wb p l e R s m args below meth c Q D z A H0 nL n0 nf X ρ0 pc L (.ref w :: .int i :: .ref q :: r) n σ τ := by
  intro ρ H locs ls h0 h1 hX hW hS hl
  obtain ⟨hP, hD, hT⟩ := id hW
  have hqn : q < n := am_al_lt hq (Nat.le_trans hC.2.2.2.2.2.2.2.2.2.1 h0)
  have hwn : w < n := am_al_lt hz (Nat.le_trans hC.2.2.2.2.2.2.2.2.2.1 h0)
  refine va_astq (D := D) (r := (RX4, TX4, 4)) hC.1 hC.2.1 hC.2.2.2.2.2.1 hP hD hS q 2 w 4 (by rw [am_ws_get hqn, am_cell_s hq2]) rfl (by rw [am_ws_get hwn, am_cell_o hz2 (by decide)]) rfl hin hd (fun H1 locs1 hP1 hD1 hS1 => ?_)
  have e := am_ws_set (z := z) (ρ := ρ) (n := n) (q := q) (σ := σ) (σ' := σ) (τ := τ) (τ' := am_up τ q i.toNatClampNeg (w + 1)) (c := .inl (z.2.2.1, am_len q, .inr (.inr (.inr (.inr (va_up (fun i => am_ro ρ (τ q i)) i.toNatClampNeg (some (ρ w)))))))) (by
    rw [am_cell_s hq2, show (fun j => am_ro ρ (am_up τ q i.toNatClampNeg (w + 1) q j)) = va_up (fun i => am_ro ρ (τ q i)) i.toNatClampNeg (some (ρ w)) from funext fun j => by
      rw [am_up_self]
      by_cases e9 : j = i.toNatClampNeg
      · rw [if_pos e9]
        simp [va_up, e9, am_ro]
      · rw [if_neg e9]
        simp [va_up, e9]]) (fun q9 hq9 => am_cell_cong rfl (fun _ => by rw [am_up_ne hq9]))
  rw [e] at hP1 hD1
  exact hk _ _ _ _ _ _ h ρ H1 locs1 ls h0 h1 hX ⟨hP1, hD1, fun q9 h9 i9 => by
    by_cases e9 : q9 = q
    · subst e9
      rw [am_up_self]
      split
      · exact hwn
      · exact hT _ h9 i9
    · rw [am_up_ne e9]
      exact hT _ h9 i9⟩ hS1 hl
theorem am_m13i {q : Nat} {r : List Value} (hC : am_Cx p R s m args c cc own D z A H0 nL n0 nf P X ρ0) (hq : am_al P n q = true) (hq2 : am_knd q = 10) (hd : decode cc pc = .ok (.arraylength, 1)) (h : k (pc + 1) L (.int (nI (am_len q)) :: r) n σ τ) (hk : ∀ pc L st n σ τ, k pc L st n σ τ → am_Wb p l e R s m args below meth c Q D z A H0 nL n0 nf X ρ0 pc L st n σ τ) : am_Wb p l e R s m args below meth c Q D z A H0 nL n0 nf X ρ0 pc L (.ref q :: r) n σ τ := by
  intro ρ H locs ls h0 h1 hX hW hS hl
  obtain ⟨hP, hD, hT⟩ := id hW
  have hqn : q < n := am_al_lt hq (Nat.le_trans hC.2.2.2.2.2.2.2.2.2.1 h0)
  exact va_alen (D := D) hC.1 hC.2.1 hC.2.2.2.2.2.1 hP q 0 (show (am_ws z ρ n σ τ)[q]? = some (ρ q, .inl (z.1, am_len q, .inl (σ q))) by rw [am_ws_get hqn, am_cell_i hq2]) rfl rfl hd (hk _ _ _ _ _ _ h ρ H locs ls h0 h1 hX hW hS hl)
theorem am_m13z {q : Nat} {r : List Value} (hC : am_Cx p R s m args c cc own D z A H0 nL n0 nf P X ρ0) (hq : am_al P n q = true) (hq2 : am_knd q = 11) (hd : decode cc pc = .ok (.arraylength, 1)) (h : k (pc + 1) L (.int (nI (am_len q)) :: r) n σ τ) (hk : ∀ pc L st n σ τ, k pc L st n σ τ → am_Wb p l e R s m args below meth c Q D z A H0 nL n0 nf X ρ0 pc L st n σ τ) : am_Wb p l e R s m args below meth c Q D z A H0 nL n0 nf X ρ0 pc L (.ref q :: r) n σ τ := by
  intro ρ H locs ls h0 h1 hX hW hS hl
  obtain ⟨hP, hD, hT⟩ := id hW
  have hqn : q < n := am_al_lt hq (Nat.le_trans hC.2.2.2.2.2.2.2.2.2.1 h0)
  exact va_alen (D := D) hC.1 hC.2.1 hC.2.2.2.2.2.1 hP q 1 (show (am_ws z ρ n σ τ)[q]? = some (ρ q, .inl (z.2.1, am_len q, .inl (σ q))) by rw [am_ws_get hqn, am_cell_z hq2]) rfl rfl hd (hk _ _ _ _ _ _ h ρ H locs ls h0 h1 hX hW hS hl)
theorem am_m13s {q : Nat} {r : List Value} (hC : am_Cx p R s m args c cc own D z A H0 nL n0 nf P X ρ0) (hq : am_al P n q = true) (hq2 : am_knd q = 12) (hd : decode cc pc = .ok (.arraylength, 1)) (h : k (pc + 1) L (.int (nI (am_len q)) :: r) n σ τ) (hk : ∀ pc L st n σ τ, k pc L st n σ τ → am_Wb p l e R s m args below meth c Q D z A H0 nL n0 nf X ρ0 pc L st n σ τ) : am_Wb p l e R s m args below meth c Q D z A H0 nL n0 nf X ρ0 pc L (.ref q :: r) n σ τ := by
  intro ρ H locs ls h0 h1 hX hW hS hl
  obtain ⟨hP, hD, hT⟩ := id hW
  have hqn : q < n := am_al_lt hq (Nat.le_trans hC.2.2.2.2.2.2.2.2.2.1 h0)
  exact va_alen (D := D) hC.1 hC.2.1 hC.2.2.2.2.2.1 hP q 2 (show (am_ws z ρ n σ τ)[q]? = some (ρ q, .inl (z.2.2.1, am_len q, .inr (.inr (.inr (.inr (fun i => am_ro ρ (τ q i))))))) by rw [am_ws_get hqn, am_cell_s hq2]) rfl rfl hd (hk _ _ _ _ _ _ h ρ H locs ls h0 h1 hX hW hS hl)
theorem am_m13r {q : Nat} {r : List Value} (hC : am_Cx p R s m args c cc own D z A H0 nL n0 nf P X ρ0) (hq : am_al P n q = true) (hq2 : am_knd q = 13) (hd : decode cc pc = .ok (.arraylength, 1)) (h : k (pc + 1) L (.int (nI (am_len q)) :: r) n σ τ) (hk : ∀ pc L st n σ τ, k pc L st n σ τ → am_Wb p l e R s m args below meth c Q D z A H0 nL n0 nf X ρ0 pc L st n σ τ) : am_Wb p l e R s m args below meth c Q D z A H0 nL n0 nf X ρ0 pc L (.ref q :: r) n σ τ := by
  intro ρ H locs ls h0 h1 hX hW hS hl
  obtain ⟨hP, hD, hT⟩ := id hW
  have hqn : q < n := am_al_lt hq (Nat.le_trans hC.2.2.2.2.2.2.2.2.2.1 h0)
  exact va_alen (D := D) hC.1 hC.2.1 hC.2.2.2.2.2.1 hP q 3 (show (am_ws z ρ n σ τ)[q]? = some (ρ q, .inl (z.2.2.2, am_len q, .inr (.inr (.inr (.inr (fun i => am_ro ρ (τ q i))))))) by rw [am_ws_get hqn, am_cell_r hq2]) rfl rfl hd (hk _ _ _ _ _ _ h ρ H locs ls h0 h1 hX hW hS hl)
theorem am_m14 {x i : Nat} {r : List Value} (hC : am_Cx p R s m args c cc own D z A H0 nL n0 nf P X ρ0) (hx : x < 9) (hw : .classLink own i (am_R x) ∈ am_tb) (hw2 : .instantiable (am_R x) (am_N x) ∈ am_tb) (hw3 : .initialized (am_R x) ∈ am_tb) (hq2 : am_knd n = x) (hN : am_len n = am_N x) (hnf : n + 1 ≤ nf) (hoS : am_okS n r = true) (hoL : am_okL n L = true) (hd : decode cc pc = .ok (.new i, 3)) (h : k (pc + 3) L (.ref n :: r) (n + 1) (am_z σ n 0) (am_z τ n 0)) (hk : ∀ pc L st n σ τ, k pc L st n σ τ → am_Wb p l e R s m args below meth c Q D z A H0 nL n0 nf X ρ0 pc L st n σ τ) : am_Wb p l e R s m args below meth c Q D z A H0 nL n0 nf X ρ0 pc L r n σ τ := by
  intro ρ H locs ls h0 h1 hX hW hS hl
  obtain ⟨hP, hD, hT⟩ := id hW
  have hm1 := am_sl_mono h0
  have hm2 : am_sl n + am_len n ≤ am_sl nf := am_sl_mono (a := n + 1) hnf
  have h1000 : nf ≤ 1000 := hC.2.2.2.2.2.2.2.2.2.2
  have hcl : n - n0 + 1 ≤ R.cells := by have := hC.2.2.2.2.2.2.2.1.1; omega
  have hsl : am_sl n - am_sl n0 + am_len n ≤ R.slots := by have := hC.2.2.2.2.2.2.2.1.2.1; omega
  obtain ⟨hc, hin, hty, hnm⟩ := am_cls hx
  have key : ∀ a9 : Nat, am_cell z (fun i => if i = n then a9 else ρ i) (am_z σ n 0) (am_z τ n 0) n = .inr (x, (List.range (am_N x)).map (fun k9 => bif am_isr x k9 then Value.null else .int 0)) := by
    intro a9
    rw [am_cell_o hq2 hx]
    congr 2
    apply List.map_congr_left
    intro k9 _
    simp only [am_fv, am_z_self]
    cases am_isr x k9 <;> rfl
  refine va_new (D := D) (ci := x) (fs := (List.range (am_N x)).map (fun k9 => bif am_isr x k9 then Value.null else .int 0)) (C := am_R x) (T := am_T x) (N := am_N x) hC.1 hC.2.1 hC.2.2.2.2.1 hin (am_ty x) hty hC.2.2.2.1 (hC.2.2.2.2.1 _ hw) (hC.2.2.2.2.1 _ hw2) (hC.2.2.2.2.1 _ hw3) hC.2.2.2.2.2.1 hP hD hS hC.2.2.2.2.2.2.1 hc (fun j hj => ?_) hcl (by rw [← hN]; exact hsl) hd (fun a9 H1 hP1 hD1 hS1 => ?_)
  · have hf := am_fty hx hj
    have e9 : vp_V ((List.range (am_N x)).map (fun k9 => bif am_isr x k9 then Value.null else .int 0)) j = bif am_isr x j then Value.null else .int 0 := by simp [vp_V, hj]
    rw [e9]
    cases hr : am_isr x j with
    | true =>
      have := hf.1 hr
      revert this
      cases am_ty x j <;> intro h9 <;> first | rfl | exact absurd h9 Bool.false_ne_true
    | false =>
      have := hf.2 hr
      revert this
      cases am_ty x j <;> intro h9 <;> first | rfl | exact absurd h9 Bool.false_ne_true
  have hW1 := hW.grow hP1 hD1 (key a9)
  rw [← hN]
  have hgo := hk _ _ _ _ _ _ h (fun i => if i = n then a9 else ρ i) H1 locs ls (by omega) hnf (fun q9 h9 => by show (if q9 = n then a9 else ρ q9) = ρ0 q9; rw [if_neg (by omega)]; exact hX q9 h9) hW1 hS1 (am_has.ext (fun q9 h9 => am_rho h9) (if_neg (by omega)) hoL hl)
  rw [List.map_cons, am_okS_map (ρ := ρ) (fun q9 h9 => am_rho h9) (if_neg (by omega)) r hoS] at hgo
  have e9 : am_cv (fun i => if i = n then a9 else ρ i) (.ref n) = .ref a9 := by show Value.ref (if n = n then a9 else ρ n) = _; rw [if_pos rfl]
  rw [e9] at hgo
  refine W.cs (cells' := n + 1 - n0) (slots' := am_sl (n + 1) - am_sl n0) (by omega) (by show _ = am_sl n + am_len n - am_sl n0; omega) hgo
theorem am_m15 {v : Int32} {r : List Value} (hC : am_Cx p R s m args c cc own D z A H0 nL n0 nf P X ρ0) (hq2 : am_knd n = 10) (hv : v = nI (am_len n)) (ha : .arrayClass .int ∈ am_tb) (hnf : n + 1 ≤ nf) (hoS : am_okS n r = true) (hoL : am_okL n L = true) (hd : decode cc pc = .ok (.newarray .int, 2)) (h : k (pc + 2) L (.ref n :: r) (n + 1) (am_z σ n 0) (am_z τ n 0)) (hk : ∀ pc L st n σ τ, k pc L st n σ τ → am_Wb p l e R s m args below meth c Q D z A H0 nL n0 nf X ρ0 pc L st n σ τ) : am_Wb p l e R s m args below meth c Q D z A H0 nL n0 nf X ρ0 pc L (.int v :: r) n σ τ := by
  intro ρ H locs ls h0 h1 hX hW hS hl
  obtain ⟨hP, hD, hT⟩ := id hW
  have hm1 := am_sl_mono h0
  have hm2 : am_sl n + am_len n ≤ am_sl nf := am_sl_mono (a := n + 1) hnf
  have h1000 : nf ≤ 1000 := hC.2.2.2.2.2.2.2.2.2.2
  have hcl : n - n0 + 1 ≤ R.cells := by have := hC.2.2.2.2.2.2.2.1.1; omega
  have hsl : am_sl n - am_sl n0 + am_len n ≤ R.slots := by have := hC.2.2.2.2.2.2.2.1.2.1; omega
  have hle := am_len_le n
  have hN : v.toNatClampNeg = am_len n := by rw [hv]; exact nI_clamp (by omega)
  refine va_newa (D := D) (atype := .int) (ty := .int) (a0 := (am_len n, .inl (fun _ => 0))) hC.1 hC.2.1 (hC.2.2.2.2.1 _ ha) rfl hC.2.2.2.2.2.1 hP hD hS hC.2.2.2.2.2.2.1 (fun _ => rfl) (by rw [hv]; exact nI_pos (by omega)) hN (by show am_len n * componentBytes .int ≤ 536870912; simp [componentBytes]; omega) hcl hsl hd (fun a9 cA H1 hK1 hP1 hD1 hS1 => ?_)
  have eA : cA = z.1 := by
    have g1 := (hK1.2 4 (cA, .int) rfl).2
    have g2 := (hC.2.2.2.2.2.1.2 0 (z.1, .int) rfl).2
    exact Option.some.inj (g1.symm.trans g2)
  subst eA
  have hW1 := hW.grow hP1 hD1 (by rw [am_cell_i hq2, show am_z σ n 0 n = (fun _ => 0) from funext fun j => am_z_self j])
  have hgo := hk _ _ _ _ _ _ h (fun i => if i = n then a9 else ρ i) H1 locs ls (by omega) hnf (fun q9 h9 => by show (if q9 = n then a9 else ρ q9) = ρ0 q9; rw [if_neg (by omega)]; exact hX q9 h9) hW1 hS1 (am_has.ext (fun q9 h9 => am_rho h9) (if_neg (by omega)) hoL hl)
  rw [List.map_cons, am_okS_map (ρ := ρ) (fun q9 h9 => am_rho h9) (if_neg (by omega)) r hoS] at hgo
  have e9 : am_cv (fun i => if i = n then a9 else ρ i) (.ref n) = .ref a9 := by show Value.ref (if n = n then a9 else ρ n) = _; rw [if_pos rfl]
  rw [e9] at hgo
  refine W.cs (cells' := n + 1 - n0) (slots' := am_sl (n + 1) - am_sl n0) (by omega) (by show _ = am_sl n + am_len n - am_sl n0; omega) hgo
theorem am_m16 {v : Int32} {r : List Value} (hC : am_Cx p R s m args c cc own D z A H0 nL n0 nf P X ρ0) (hq2 : am_knd n = 11) (hv : v = nI (am_len n)) (ha : .arrayClass .boolean ∈ am_tb) (hnf : n + 1 ≤ nf) (hoS : am_okS n r = true) (hoL : am_okL n L = true) (hd : decode cc pc = .ok (.newarray .boolean, 2)) (h : k (pc + 2) L (.ref n :: r) (n + 1) (am_z σ n 0) (am_z τ n 0)) (hk : ∀ pc L st n σ τ, k pc L st n σ τ → am_Wb p l e R s m args below meth c Q D z A H0 nL n0 nf X ρ0 pc L st n σ τ) : am_Wb p l e R s m args below meth c Q D z A H0 nL n0 nf X ρ0 pc L (.int v :: r) n σ τ := by
  intro ρ H locs ls h0 h1 hX hW hS hl
  obtain ⟨hP, hD, hT⟩ := id hW
  have hm1 := am_sl_mono h0
  have hm2 : am_sl n + am_len n ≤ am_sl nf := am_sl_mono (a := n + 1) hnf
  have h1000 : nf ≤ 1000 := hC.2.2.2.2.2.2.2.2.2.2
  have hcl : n - n0 + 1 ≤ R.cells := by have := hC.2.2.2.2.2.2.2.1.1; omega
  have hsl : am_sl n - am_sl n0 + am_len n ≤ R.slots := by have := hC.2.2.2.2.2.2.2.1.2.1; omega
  have hle := am_len_le n
  have hN : v.toNatClampNeg = am_len n := by rw [hv]; exact nI_clamp (by omega)
  refine va_newa (D := D) (atype := .boolean) (ty := .boolean) (a0 := (am_len n, .inl (fun _ => 0))) hC.1 hC.2.1 (hC.2.2.2.2.1 _ ha) rfl hC.2.2.2.2.2.1 hP hD hS hC.2.2.2.2.2.2.1 (fun _ => rfl) (by rw [hv]; exact nI_pos (by omega)) hN (by show am_len n * componentBytes .boolean ≤ 536870912; simp [componentBytes]; omega) hcl hsl hd (fun a9 cA H1 hK1 hP1 hD1 hS1 => ?_)
  have eA : cA = z.2.1 := by
    have g1 := (hK1.2 4 (cA, .boolean) rfl).2
    have g2 := (hC.2.2.2.2.2.1.2 1 (z.2.1, .boolean) rfl).2
    exact Option.some.inj (g1.symm.trans g2)
  subst eA
  have hW1 := hW.grow hP1 hD1 (by rw [am_cell_z hq2, show am_z σ n 0 n = (fun _ => 0) from funext fun j => am_z_self j])
  have hgo := hk _ _ _ _ _ _ h (fun i => if i = n then a9 else ρ i) H1 locs ls (by omega) hnf (fun q9 h9 => by show (if q9 = n then a9 else ρ q9) = ρ0 q9; rw [if_neg (by omega)]; exact hX q9 h9) hW1 hS1 (am_has.ext (fun q9 h9 => am_rho h9) (if_neg (by omega)) hoL hl)
  rw [List.map_cons, am_okS_map (ρ := ρ) (fun q9 h9 => am_rho h9) (if_neg (by omega)) r hoS] at hgo
  have e9 : am_cv (fun i => if i = n then a9 else ρ i) (.ref n) = .ref a9 := by show Value.ref (if n = n then a9 else ρ n) = _; rw [if_pos rfl]
  rw [e9] at hgo
  refine W.cs (cells' := n + 1 - n0) (slots' := am_sl (n + 1) - am_sl n0) (by omega) (by show _ = am_sl n + am_len n - am_sl n0; omega) hgo
theorem am_m17 {v : Int32} {i : Nat} {r : List Value} (hC : am_Cx p R s m args c cc own D z A H0 nL n0 nf P X ρ0) (hq2 : am_knd n = 12) (hv : v = nI (am_len n)) (hw : .classLink own i "CanalEnd$Sheet" ∈ am_tb) (ha : .arrayOver (.object "CanalEnd$Sheet") ∈ am_tb) (hnf : n + 1 ≤ nf) (hoS : am_okS n r = true) (hoL : am_okL n L = true) (hd : decode cc pc = .ok (.anewarray i, 3)) (h : k (pc + 3) L (.ref n :: r) (n + 1) (am_z σ n 0) (am_z τ n 0)) (hk : ∀ pc L st n σ τ, k pc L st n σ τ → am_Wb p l e R s m args below meth c Q D z A H0 nL n0 nf X ρ0 pc L st n σ τ) : am_Wb p l e R s m args below meth c Q D z A H0 nL n0 nf X ρ0 pc L (.int v :: r) n σ τ := by
  intro ρ H locs ls h0 h1 hX hW hS hl
  obtain ⟨hP, hD, hT⟩ := id hW
  have hm1 := am_sl_mono h0
  have hm2 : am_sl n + am_len n ≤ am_sl nf := am_sl_mono (a := n + 1) hnf
  have h1000 : nf ≤ 1000 := hC.2.2.2.2.2.2.2.2.2.2
  have hcl : n - n0 + 1 ≤ R.cells := by have := hC.2.2.2.2.2.2.2.1.1; omega
  have hsl : am_sl n - am_sl n0 + am_len n ≤ R.slots := by have := hC.2.2.2.2.2.2.2.1.2.1; omega
  have hle := am_len_le n
  have hN : v.toNatClampNeg = am_len n := by rw [hv]; exact nI_clamp (by omega)
  refine va_newq (D := D) (C := "CanalEnd$Sheet") hC.1 hC.2.1 hC.2.2.2.1 (hC.2.2.2.2.1 _ hw) (va_AO.of (hC.2.2.2.2.1 _ ha)) hC.2.2.2.2.2.1 hP hD hS hC.2.2.2.2.2.2.1 (by rw [hv]; exact nI_pos (by omega)) hN (by omega) hcl hsl hd (fun a9 cA H1 hK1 hP1 hD1 hS1 => ?_)
  have eA : cA = z.2.2.1 := by
    obtain ⟨_, _, _, _, _, g1⟩ := (hK1.2 4 (cA, .object "CanalEnd$Sheet") rfl).2
    obtain ⟨_, _, _, _, _, g2⟩ := (hC.2.2.2.2.2.1.2 2 (z.2.2.1, .object "CanalEnd$Sheet") rfl).2
    exact Option.some.inj (g1.symm.trans g2)
  subst eA
  have hW1 := hW.grow hP1 hD1 (by rw [am_cell_s hq2, show (fun j => am_ro (fun i => if i = n then a9 else ρ i) (am_z τ n 0 n j)) = (fun _ => none) from funext fun j => by rw [am_z_self]; rfl])
  have hgo := hk _ _ _ _ _ _ h (fun i => if i = n then a9 else ρ i) H1 locs ls (by omega) hnf (fun q9 h9 => by show (if q9 = n then a9 else ρ q9) = ρ0 q9; rw [if_neg (by omega)]; exact hX q9 h9) hW1 hS1 (am_has.ext (fun q9 h9 => am_rho h9) (if_neg (by omega)) hoL hl)
  rw [List.map_cons, am_okS_map (ρ := ρ) (fun q9 h9 => am_rho h9) (if_neg (by omega)) r hoS] at hgo
  have e9 : am_cv (fun i => if i = n then a9 else ρ i) (.ref n) = .ref a9 := by show Value.ref (if n = n then a9 else ρ n) = _; rw [if_pos rfl]
  rw [e9] at hgo
  refine W.cs (cells' := n + 1 - n0) (slots' := am_sl (n + 1) - am_sl n0) (by omega) (by show _ = am_sl n + am_len n - am_sl n0; omega) hgo
end AMB
end
section
theorem am_rows_at {q k : Nat} : ∀ (N : Nat), am_rows q k N = true → ∀ i, i < N → am_knd (q + 1 + i) = 10 ∧ am_len (q + 1 + i) = k
  | 0, _, i, hi => by omega
  | N + 1, h, i, hi => by
    have h2 := Bool.and_eq_true _ _ ▸ h
    have h3 := Bool.and_eq_true _ _ ▸ h2.1
    by_cases e : i = N
    · subst e
      exact ⟨Nat.eq_of_beq_eq_true h3.1, Nat.eq_of_beq_eq_true h3.2⟩
    · exact am_rows_at N h2.2 i (by omega)
theorem am_sl_rows {q k : Nat} : ∀ (N : Nat), am_rows q k N = true → am_sl (q + 1 + N) = am_sl (q + 1) + N * k
  | 0, _ => by simp
  | N + 1, h => by
    have h2 := Bool.and_eq_true _ _ ▸ h
    have ih := am_sl_rows N h2.2
    have := (am_rows_at (N + 1) h N (by omega)).2
    show am_sl (q + 1 + N) + am_len (q + 1 + N) = _
    rw [ih, this, Nat.succ_mul]
    omega
def am_rh (ρ r : Nat → Nat) (n a N : Nat) : Nat → Nat := fun i => if i = n then a else if n < i ∧ i < n + 1 + N then r (i - n - 1) else ρ i
theorem am_rh_lt {ρ r : Nat → Nat} {n a N q : Nat} (h : q < n) : am_rh ρ r n a N q = ρ q := by
  unfold am_rh
  rw [if_neg (by omega), if_neg (by omega)]
theorem am_rh_ge {ρ r : Nat → Nat} {n a N q : Nat} (h : n + 1 + N ≤ q) : am_rh ρ r n a N q = ρ q := by
  unfold am_rh
  rw [if_neg (by omega), if_neg (by omega)]
theorem am_zr_ne {α : Type} {f : Nat → Nat → α} {q N a : Nat} {v : α} (h : a < q) : am_zr f q N v a = f a := by
  funext b
  unfold am_zr
  rw [show Nat.ble q a = false from Bool.eq_false_iff.mpr (fun z => by have := Nat.le_of_ble_eq_true z; omega)]
  rfl
theorem am_zr_in {α : Type} {f : Nat → Nat → α} {q N a b : Nat} {v : α} (h : q ≤ a) (h2 : a < q + N) : am_zr f q N v a b = v := by
  unfold am_zr
  rw [show Nat.ble q a = true from Nat.ble_eq.mpr h, show Nat.blt a (q + N) = true from Nat.blt_eq.mpr h2]
  rfl
theorem am_rowT_ne {τ : am_Tu} {q N a : Nat} (h : a < q) : am_rowT τ q N a = τ a := by
  funext b
  unfold am_rowT
  rw [show Nat.beq a q = false from Bool.eq_false_iff.mpr (fun z => by have := Nat.eq_of_beq_eq_true z; omega), show Nat.ble q a = false from Bool.eq_false_iff.mpr (fun z => by have := Nat.le_of_ble_eq_true z; omega)]
  rfl
theorem am_rowT_self {τ : am_Tu} {q N b : Nat} : am_rowT τ q N q b = if b < N then q + 1 + b + 1 else 0 := by
  unfold am_rowT
  rw [show Nat.beq q q = true from Nat.beq_refl q]
  by_cases h : b < N
  · rw [if_pos h, show Nat.blt b N = true from Nat.blt_eq.mpr h]
    rfl
  · rw [if_neg h, show Nat.blt b N = false from Bool.eq_false_iff.mpr (fun z => h (Nat.blt_eq.mp z))]
    rfl
theorem am_rowT_in {τ : am_Tu} {q N a b : Nat} (h : q < a) (h2 : a < q + 1 + N) : am_rowT τ q N a b = 0 := by
  unfold am_rowT
  rw [show Nat.beq a q = false from Bool.eq_false_iff.mpr (fun z => by have := Nat.eq_of_beq_eq_true z; omega), show Nat.ble q a = true from Nat.ble_eq.mpr (Nat.le_of_lt h), show Nat.blt a (q + 1 + N) = true from Nat.blt_eq.mpr h2]
  rfl
theorem am_ws_rows {z : am_Z} {ρ r : Nat → Nat} {n a k : Nat} {σ : am_Sg} {τ : am_Tu} (hk : am_knd n = 13) (hr : am_rows n k (am_len n) = true) (hT : ∀ q, q < n → ∀ i, τ q i ≤ n) : (am_ws z ρ n σ τ ++ [(a, .inl (z.2.2.2, am_len n, .inr (.inr (.inr (.inr (fun i => if i < am_len n then some (r i) else none))))))]) ++ (List.range (am_len n)).map (fun i => (r i, .inl (z.1, k, .inl (fun _ => 0)))) = am_ws z (am_rh ρ r n a (am_len n)) (n + 1 + am_len n) (am_zr σ n (am_len n + 1) 0) (am_rowT τ n (am_len n)) := by
  unfold am_ws
  rw [List.range_add, List.map_append, List.range_succ, List.map_append]
  congr 1
  · congr 1
    · apply List.map_congr_left
      intro q hq
      have hq := List.mem_range.mp hq
      rw [am_rh_lt hq]
      congr 1
      refine (am_cell_cong (am_zr_ne hq) (fun i => ?_)).symm
      rw [am_rowT_ne hq]
      exact am_ro_ext (fun x hx => am_rh_lt hx) (hT q hq i)
    · rw [List.map_cons, List.map_nil, am_cell_r hk]
      have e1 : am_rh ρ r n a (am_len n) n = a := if_pos rfl
      have e2 : (fun i => am_ro (am_rh ρ r n a (am_len n)) (am_rowT τ n (am_len n) n i)) = (fun i => if i < am_len n then some (r i) else none) := by
        funext i
        rw [am_rowT_self]
        by_cases h : i < am_len n
        · rw [if_pos h, if_pos h]
          show some (am_rh ρ r n a (am_len n) (n + 1 + i)) = _
          unfold am_rh
          rw [if_neg (by omega), if_pos (by omega), show n + 1 + i - n - 1 = i by omega]
        · rw [if_neg h, if_neg h]
          rfl
      rw [e1, e2]
  · rw [List.map_map]
    apply List.map_congr_left
    intro i hi
    have hi := List.mem_range.mp hi
    obtain ⟨g1, g2⟩ := am_rows_at _ hr i hi
    show (r i, _) = (am_rh ρ r n a (am_len n) (n + 1 + i), am_cell z _ _ _ (n + 1 + i))
    rw [am_cell_i g1, g2]
    congr 1
    · unfold am_rh
      rw [if_neg (by omega), if_pos (by omega), show n + 1 + i - n - 1 = i by omega]
    · rw [show am_zr σ n (am_len n + 1) 0 (n + 1 + i) = (fun _ => 0) from funext fun j => am_zr_in (by omega) (by omega)]
section AMM
variable {p : Program} {l : Launch} {e : Env} {R : Room} {s : State} {m : MethodId} {args : Array Value} {below : List Frame} {meth : Method} {c : Code} {Q : State → Prop} {cc : ByteArray} {own : String} {D : va_G} {z : am_Z} {A : Nat → Prop} {H0 : Heap} {nL n0 nf P : Nat} {X : am_X} {ρ0 : Nat → Nat} {pc nx : Nat} {L : am_L} {st : List Value} {n : Nat} {σ : am_Sg} {τ : am_Tu} {k : am_K}
theorem am_m18 {v w : Int32} {i y : Nat} {r : List Value} (hC : am_Cx p R s m args c cc own D z A H0 nL n0 nf P X ρ0) (hq2 : am_knd n = 13) (hr : am_rows n y (am_len n) = true) (hy : y ≤ 10000) (hv : v = nI (am_len n)) (hw0 : w = nI y) (hw : .classLink own i "[[I" ∈ am_tb) (ha : .arrayOver (.array .int) ∈ am_tb) (ha2 : .arrayClass .int ∈ am_tb) (hnf : n + 1 + am_len n ≤ nf) (hoS : am_okS n r = true) (hoL : am_okL n L = true) (hd : decode cc pc = .ok (.multianewarray i 2, 4)) (h : k (pc + 4) L (.ref n :: r) (n + 1 + am_len n) (am_zr σ n (am_len n + 1) 0) (am_rowT τ n (am_len n))) (hk : ∀ pc L st n σ τ, k pc L st n σ τ → am_Wb p l e R s m args below meth c Q D z A H0 nL n0 nf X ρ0 pc L st n σ τ) : am_Wb p l e R s m args below meth c Q D z A H0 nL n0 nf X ρ0 pc L (.int w :: .int v :: r) n σ τ := by
  intro ρ H locs ls h0 h1 hX hW hS hl
  obtain ⟨hP, hD, hT⟩ := id hW
  have hm1 := am_sl_mono h0
  have hm2 := am_sl_mono hnf
  have hm3 := am_sl_rows _ hr
  have hm4 : am_sl (n + 1) = am_sl n + am_len n := rfl
  have h1000 : nf ≤ 1000 := hC.2.2.2.2.2.2.2.2.2.2
  have hle := am_len_le n
  have hcl : n - n0 + (1 + am_len n) ≤ R.cells := by have := hC.2.2.2.2.2.2.2.1.1; omega
  have hsl : am_sl n - am_sl n0 + (am_len n + am_len n * y) ≤ R.slots := by have := hC.2.2.2.2.2.2.2.1.2.1; omega
  have hN : v.toNatClampNeg = am_len n := by rw [hv]; exact nI_clamp (by omega)
  have hM : w.toNatClampNeg = y := by rw [hw0]; exact nI_clamp (by omega)
  have hP' : va_P D vwCl (am_ws z ρ n σ τ ++ va_pl [] (fun _ => .inr (0, []))) H := by rw [show va_pl [] (fun _ => (.inr (0, []) : va_E)) = [] from rfl, List.append_nil]; exact hP
  have hD' : va_D A (am_ws z ρ n σ τ ++ va_pl [] (fun _ => .inr (0, []))) := by rw [show va_pl [] (fun _ => (.inr (0, []) : va_E)) = [] from rfl, List.append_nil]; exact hD
  refine va_mna (D := D) (X := am_ws z ρ n σ τ) (L := []) (f := fun _ => .inr (0, [])) (ty := .int) (cy := z.1) (z := (y, .inl (fun _ => 0))) hC.1 hC.2.1 hC.2.2.2.1 (hC.2.2.2.2.1 _ hw) (hC.2.2.2.2.1 _ ha) (hC.2.2.2.2.1 _ ha2) (hC.2.2.2.2.2.1.2 0 (z.1, .int) rfl).2 hC.2.2.2.2.2.1 hP' hD' hS hC.2.2.2.2.2.2.1 (by rw [hv]; exact nI_pos (by omega)) (by rw [hw0]; exact nI_pos (by omega)) hN hM (by omega) (by show y * componentBytes .int ≤ 536870912; simp [componentBytes]; omega) (by omega) rfl rfl hcl hsl (fun c9 => by show ({ cls := c9, slots := Array.replicate y (.int 0), vm := .none } : Cell) = vp_cell c9 (y, .inl (fun _ => 0)); rw [vp_cell_i, arrV_new]) hd (fun a9 r9 cA H1 hinj _ hK1 hP1 hD1 hS1 => ?_)
  have eA : cA = z.2.2.2 := by
    have g1 := (hK1.2 4 (cA, .array .int) rfl).2
    have g2 := (hC.2.2.2.2.2.1.2 3 (z.2.2.2, .array .int) rfl).2
    exact Option.some.inj (g1.symm.trans g2)
  subst eA
  have e1 : va_pl ([] ++ (List.range (am_len n)).map r9) (vr_up (fun _ => .inr (0, [])) ((List.range (am_len n)).map r9) (.inl (z.1, (y, .inl (fun _ => 0))))) = (List.range (am_len n)).map (fun i => (r9 i, (.inl (z.1, y, .inl (fun _ => 0)) : va_E))) := by
    unfold va_pl
    rw [List.nil_append, List.map_map]
    apply List.map_congr_left
    intro j hj
    show (r9 j, _) = _
    rw [vr_up_in (List.mem_map.mpr ⟨j, hj, rfl⟩)]
  rw [e1, am_ws_rows hq2 hr hT] at hP1 hD1
  have hr1 : ∀ q9, q9 < n → am_rh ρ r9 n a9 (am_len n) q9 = ρ q9 := fun q9 h9 => am_rh_lt h9
  have hr2 : am_rh ρ r9 n a9 (am_len n) 1000 = ρ 1000 := am_rh_ge (by omega)
  have hgo := hk _ _ _ _ _ _ h (am_rh ρ r9 n a9 (am_len n)) H1 locs ls (by omega) hnf (fun q9 h9 => (hX q9 h9) ▸ (h9.elim (fun g => am_rh_lt (by omega)) (fun g => am_rh_ge (by omega)))) ⟨hP1, hD1, fun q9 h9 i9 => ?_⟩ hS1 (am_has.ext hr1 hr2 hoL hl)
  · rw [List.map_cons, am_okS_map hr1 hr2 r hoS] at hgo
    have e9 : am_cv (am_rh ρ r9 n a9 (am_len n)) (.ref n) = .ref a9 := by show Value.ref (am_rh ρ r9 n a9 (am_len n) n) = _; rw [show am_rh ρ r9 n a9 (am_len n) n = a9 from if_pos rfl]
    rw [e9] at hgo
    exact W.cs (cells' := n + 1 + am_len n - n0) (slots' := am_sl (n + 1 + am_len n) - am_sl n0) (by omega) (by omega) hgo
  · by_cases c1 : q9 < n
    · rw [am_rowT_ne c1]
      have := hT q9 c1 i9
      omega
    · by_cases c2 : q9 = n
      · subst c2
        rw [am_rowT_self]
        split <;> omega
      · rw [am_rowT_in (by omega) (by omega)]
        exact Nat.zero_le _
end AMM
def am_wsm (x : Nat) : List Cond := Cond.code (am_y x) (am_b x) (am_mL x) (am_rt x) :: am_tb.filter goodWord
theorem am_bad_nw {w : Cond} (hw : w ∈ am_tb) (hg : ¬ goodWord w = true) : am_nw w = true := by
  have h := (List.mem_filter.mp hw).2
  unfold am_okw at h
  rcases Bool.or_eq_true _ _ ▸ h with h | h
  · exact absurd h hg
  · exact h
theorem am_nw_to {w : Cond} (h : am_nw w = true) {A : Array Value} {U : State} (hb : w.before A U = true) : va_Nw w U := by
  cases w <;> first | exact absurd h Bool.false_ne_true | exact va_Nw.of rfl hb | exact hb
theorem am_nw_use {w : Cond} (h : am_nw w = true) {A : Array Value} {U : State} (hb : va_Nw w U) : w.before A U = true := by
  cases w <;> first | exact absurd h Bool.false_ne_true | exact va_Nw.use rfl hb | exact hb
theorem am_nw_warm {w : Cond} (h : am_nw w = true) {s U : State} (hW : s.WarmedH U.vm) (hb : va_Nw w s) : va_Nw w U := by
  cases w with
  | methodLinkNest a i x h => exact va_Nw.warmM hW hb
  | fieldLinkNest a i b n d h => exact va_Nw.warmF hW hb
  | arrayOver t =>
    cases t with
    | object n => exact va_AO.moved hW.alike hb
    | array t => exact Jvm.Stand.arrayOver_alikeB hW.alike hb
    | _ => exact absurd h Bool.false_ne_true
  | _ => exact absurd h Bool.false_ne_true
theorem am_nw_call {w : Cond} (h : am_nw w = true) {U : State} {g : JFrame} {mk : MethodId} {a : Array Value} (hb : va_Nw w U) : va_Nw w (U.calling g mk a) := by
  cases w with
  | methodLinkNest a i x h => exact va_Nw.same rfl rfl hb
  | fieldLinkNest a i b n d h => exact va_Nw.same rfl rfl hb
  | arrayOver t =>
    cases t with
    | object n => exact va_AO.moved (Vm.Alike.refl U.vm) hb
    | array t => exact Jvm.Stand.arrayOver_alikeB (Vm.Alike.refl U.vm) hb
    | _ => exact absurd h Bool.false_ne_true
  | _ => exact absurd h Bool.false_ne_true
def am_Bw (U : State) : Prop := ∀ w ∈ am_tb, am_nw w = true → va_Nw w U
theorem am_Bw.of {A : Array Value} {U : State} (h : ∀ w ∈ am_tb, w.before A U = true) : am_Bw U := fun w hw hn => am_nw_to hn (h w hw)
theorem am_Bw.warm {s U : State} (hW : s.WarmedH U.vm) (h : am_Bw s) : am_Bw U := fun w hw hn => am_nw_warm hn hW (h w hw hn)
theorem am_Bw.all {A : Array Value} {U : State} {x : Nat} (h1 : ∀ w ∈ am_wsm x, w.before A U = true) (h2 : am_Bw U) : ∀ w ∈ am_tb, w.before A U = true := fun w hw => by
  by_cases hg : goodWord w = true
  · exact h1 w (List.mem_cons_of_mem _ (List.mem_filter.mpr ⟨hw, hg⟩))
  · exact am_nw_use (am_bad_nw hw hg) (h2 w hw (am_bad_nw hw hg))
def am_rm (d n nf : Nat) : Room := { frames := d, cells := nf - n, slots := am_sl nf - am_sl n, locals := 64 * d }
def am_Fa (x : Nat) : Prop := Cond.code (am_y x) (am_b x) (am_mL x) (am_rt x) ∈ am_tb ∧ Cond.initialized (am_y x).cls ∈ am_tb ∧ ((am_y x).cls ≠ "java/lang/invoke/MethodHandle" ∧ (am_y x).cls ≠ "java/lang/invoke/VarHandle" ∧ (parseMethodDescriptor (am_y x).desc).map (fun d => d.parameters.length) = some (am_np x)) ∧ am_mL x ≤ 40 ∧ (am_kd x = 0 → Cond.instanceMethod (am_y x) ∈ am_tb ∧ Cond.selects (am_y x).cls (am_y x) (am_y x) ∈ am_tb ∧ (am_y x).cls = am_R (am_ci x) ∧ am_ci x < 9) ∧ (am_kd x = 1 → Cond.static (am_y x) ∈ am_tb) ∧ (am_kd x = 2 → (am_y x).name = "<init>" ∧ Cond.instanceMethod (am_y x) ∈ am_tb ∧ am_rt x = none)
def am_Pr (D : va_G) (z : am_Z) (ρ : Nat → Nat) (av : List Value) (n : Nat) (σ : am_Sg) (τ : am_Tu) (sz : Nat) : Array Value → State → Prop := va_Pc (av.map (am_cv ρ)) (fun U => U.heap.size = sz ∧ am_Wd D z ρ n σ τ (fun _ => True) U.heap ∧ va_K D vwCl (am_tys z) U ∧ am_Bw U)
def am_Po (D : va_G) (z : am_Z) (ρ : Nat → Nat) (n : Nat) (σ : am_Sg) (τ : am_Tu) (nf sz : Nat) (P : Option Value → am_Sg → am_Tu → Prop) : Array Value → State → Outcome → State → Prop := fun _ st oc t =>
  (∃ (r : Option Value) (ρ' : Nat → Nat) (σ' : am_Sg) (τ' : am_Tu), oc = .returned (r.map (am_cv ρ')) ∧ P r σ' τ' ∧ (∀ q, q < n ∨ nf ≤ q → ρ' q = ρ q) ∧ am_Wd D z ρ' nf σ' τ' (va_A (am_ws z ρ n σ τ) sz) t.heap) ∧ va_F (va_A (am_ws z ρ n σ τ) sz) st t
def am_Met (d x : Nat) (Cn : am_C) : Prop := ∀ (l : Launch) (D : va_G) (z : am_Z) (ρ : Nat → Nat) (av : List Value) (n nf : Nat) (σ : am_Sg) (τ : am_Tu) (P : Option Value → am_Sg → am_Tu → Prop) (sz : Nat), n ≤ nf → nf ≤ 1000 → Cn av n σ τ nf P →
  am_Fa x ∧ Met l (am_y x) (am_wsm x) (am_rm d n nf) (am_Pr D z ρ av n σ τ sz) (am_Po D z ρ n σ τ nf sz P) (nf - n) (am_sl nf - am_sl n) (va_A (am_ws z ρ n σ τ) sz)
theorem am_good {x : Nat} (h : am_Fa x) : GoodIn am_tb (am_wsm x) := fun w hw => by
  rcases List.mem_cons.mp hw with rfl | hw
  · exact ⟨h.1, good_of_word rfl⟩
  · obtain ⟨h1, h2⟩ := List.mem_filter.mp hw
    exact ⟨h1, good_of_word h2⟩
theorem am_blind {D : va_G} {z : am_Z} {ρ : Nat → Nat} {av : List Value} {n : Nat} {σ : am_Sg} {τ : am_Tu} {sz : Nat} : FrameBlind (am_Pr D z ρ av n σ τ sz) := fun a U g mk q => by
  obtain ⟨q0, q1, qP, qK, qB⟩ := q
  exact ⟨q0, q1, qP, va_K.moved (u := U) (U := U.calling g mk a) (Vm.Alike.refl U.vm) qK, fun w hw hn => am_nw_call hn (qB w hw hn)⟩
theorem am_inA {z : am_Z} {ρ : Nat → Nat} {n : Nat} {σ : am_Sg} {τ : am_Tu} {A : Nat → Prop} {H0 H : Heap} {locs : List Loc} (hD : va_D A (am_ws z ρ n σ τ)) (hS : va_S A H0 H locs) (hA : ∀ q, H0.size ≤ q → A q) : ∀ q, va_A (am_ws z ρ n σ τ) H.size q → A q := by
  rintro q (⟨k, e, h⟩ | h)
  · exact hD.2 k _ h
  · exact hA q (Nat.le_trans hS.1 h)
section AMC
variable {p : Program} {l : Launch} {e : Env} {R : Room} {s : State} {m : MethodId} {args : Array Value} {below : List Frame} {meth : Method} {c : Code} {Q : State → Prop} {cc : ByteArray} {own : String} {D : va_G} {z : am_Z} {A : Nat → Prop} {H0 : Heap} {nL n0 nf P : Nat} {X : am_X} {ρ0 : Nat → Nat} {pc nx : Nat} {L : am_L} {st : List Value} {n : Nat} {σ : am_Sg} {τ : am_Tu} {k : am_K}
theorem am_fin {H : Heap} {locs : List Loc} {ls : Array Slot} {ρ : Nat → Nat} {st0 sr : List Value} {nf' : Nat} {Pst : Option Value → am_Sg → am_Tu → Prop} {av : Array Value} (hC : am_Cx p R s m args c cc own D z A H0 nL n0 nf P X ρ0) (h0 : n0 ≤ n) (h1 : n ≤ nf) (hX : ∀ q, q < n0 ∨ nf ≤ q → ρ q = ρ0 q) (hW : am_Wd D z ρ n σ τ A H) (hS : va_S A H0 H locs) (hl : am_has ρ ls nL L) (hn1 : n ≤ nf') (hn2 : nf' ≤ nf) (hok : nf' = n ∨ (am_okS n sr = true ∧ am_okL n L = true))
    (hr : va_Run p l e R s m args below meth c H locs (n - n0) (am_sl n - am_sl n0) (nf' - n) (am_sl nf' - am_sl n) (F0 m pc ls st0) (sr.map (am_cv ρ)) (am_Po D z ρ n σ τ nf' H.size Pst av) (va_A (am_ws z ρ n σ τ) H.size))
    (hp : ∀ r σ' τ', Pst r σ' τ' → am_push (pc + 3) L sr nf' k r σ' τ') (hk : ∀ pc L st n σ τ, k pc L st n σ τ → am_Wb p l e R s m args below meth c Q D z A H0 nL n0 nf X ρ0 pc L st n σ τ) : W p l e R s m args below meth c H locs (n - n0) (am_sl n - am_sl n0) Q (F0 m pc ls st0) := by
  intro T hT X9
  obtain ⟨v, st₀, t, T', L9, g0, X', hL, e1, e2, ⟨⟨r, ρ', σ', τ', hv, hpst, hρ, hW'⟩, hz, hkeep⟩, st⟩ := hr T hT X9
  have h1000 : nf ≤ 1000 := hC.2.2.2.2.2.2.2.2.2.2
  have hsub := am_inA hW.2.1 hS hC.2.2.2.2.2.2.1
  rw [g0] at hz hkeep
  have hS1 : va_S A H0 T'.heap (locs ++ L9) := ⟨Nat.le_trans hS.1 (by rw [e1]; exact hz), fun q h1 h2 => by rw [e1, hkeep q (Nat.lt_of_lt_of_le h1 hS.1) (fun z => h2 (hsub q z))]; exact hS.2.1 q h1 h2, fun q hq => by
    rcases List.mem_append.mp hq with h | h
    · exact hS.2.2 q h
    · exact hsub _ (hL q h)⟩
  have hW1 : am_Wd D z ρ' nf' σ' τ' A T'.heap := by
    rw [e1]
    exact ⟨hW'.1, hW'.2.1.weaken (fun _ q _ h => hsub q.1 h), hW'.2.2⟩
  have hx : ρ' 1000 = ρ 1000 := hρ 1000 (Or.inr (by omega))
  have hext : sr.map (am_cv ρ') = sr.map (am_cv ρ) ∧ am_has ρ' ls nL L := by
    rcases hok with e | ⟨o1, o2⟩
    · have : ρ' = ρ := funext fun q => hρ q (by omega)
      rw [this]
      exact ⟨rfl, hl⟩
    · exact ⟨am_okS_map (fun q hq => hρ q (Or.inl hq)) hx sr o1, am_has.ext (fun q hq => hρ q (Or.inl hq)) hx o2 hl⟩
  have hm1 := am_sl_mono h0
  have hm2 := am_sl_mono hn1
  have hpu := hp r σ' τ' hpst
  have hv9 : v = r.map (am_cv ρ') := by cases hv; rfl
  have key : W p l e R s m args below meth c T'.heap (locs ++ L9) (nf' - n0) (am_sl nf' - am_sl n0) Q (F0 m (pc + 3) ls (v.toList ++ sr.map (am_cv ρ))) := by
    rw [hv9]
    cases r with
    | none =>
      have := hk _ _ _ _ _ _ hpu ρ' T'.heap (locs ++ L9) ls (by omega) hn2 (fun q hq => (hρ q (by omega)).trans (hX q hq)) hW1 hS1 hext.2
      rw [hext.1] at this
      exact this
    | some w =>
      have := hk _ _ _ _ _ _ hpu ρ' T'.heap (locs ++ L9) ls (by omega) hn2 (fun q hq => (hρ q (by omega)).trans (hX q hq)) hW1 hS1 hext.2
      rw [List.map_cons, hext.1] at this
      exact this
  rw [show n - n0 + (nf' - n) = nf' - n0 by omega, show am_sl n - am_sl n0 + (am_sl nf' - am_sl n) = am_sl nf' - am_sl n0 by omega] at X'
  obtain ⟨t2, a1, b1⟩ := key T' rfl X'
  exact ⟨t2, st t2 a1, b1⟩
theorem am_c0 {x d i q nf' : Nat} {tl sr : List Value} {Cn : am_C} (hC : am_Cx p R s m args c cc own D z A H0 nL n0 nf P X ρ0) (hM : am_Met d x Cn) (hRf : d + 1 ≤ R.frames) (hRl : 64 * (d + 1) ≤ R.locals) (hw : .methodLink own i (am_y x) ∈ am_tb) (hkd : am_kd x = 0) (hnp : tl.length = am_np x) (hq : am_al P n q = true) (hq2 : am_knd q = am_ci x) (hs : Nat.ble sr.length 4 = true) (hn1 : n ≤ nf') (hn2 : n ≤ nf → nf' ≤ nf) (hok : nf' = n ∨ (am_okS n sr = true ∧ am_okL n L = true)) (hd : decode cc pc = .ok (.invokevirtual i, 3)) (h : Cn (.ref q :: tl) n σ τ nf' (am_push (pc + 3) L sr nf' k)) (hk : ∀ pc L st n σ τ, k pc L st n σ τ → am_Wb p l e R s m args below meth c Q D z A H0 nL n0 nf X ρ0 pc L st n σ τ) : am_Wb p l e R s m args below meth c Q D z A H0 nL n0 nf X ρ0 pc L ((.ref q :: tl).reverse ++ sr) n σ τ := by
  intro ρ H locs ls h0 h1 hX hW hS hl
  obtain ⟨hP, hD, hT⟩ := id hW
  have hn2 := hn2 h1
  have h1000 : nf ≤ 1000 := hC.2.2.2.2.2.2.2.2.2.2
  obtain ⟨hF, hMet⟩ := hM l D z ρ (.ref q :: tl) n nf' σ τ (am_push (pc + 3) L sr nf' k) H.size hn1 (by omega) h
  have hm1 := am_sl_mono h0
  have hm2 := am_sl_mono hn1
  have hm3 := am_sl_mono hn2
  have hroom : n - n0 + (nf' - n) ≤ R.cells ∧ am_sl n - am_sl n0 + (am_sl nf' - am_sl n) ≤ R.slots := by have g1 := hC.2.2.2.2.2.2.2.1.1; have g2 := hC.2.2.2.2.2.2.2.1.2.1; omega
  have hR : (am_rm d n nf').frames + 1 ≤ R.frames ∧ 8 + (am_mL x + 11) + (am_rm d n nf').locals ≤ R.locals := by
    have g := hF.2.2.2.1
    show d + 1 ≤ R.frames ∧ 8 + (am_mL x + 11) + 64 * d ≤ R.locals
    omega
  have hfix : CallFix p m c cc nL s args am_tb own := ⟨hC.1, hC.2.1, hC.2.2.1, hC.2.2.2.1, hC.2.2.2.2.1⟩
  have hini := hC.2.2.2.2.1 _ hF.2.1
  have hcb := callB_of (rm := am_rm d n nf') (R := R) (own := own) (index := i) (am_np x) hC.2.2.2.2.1 (am_good hF) rfl rfl rfl hini (hC.2.2.2.2.1 _ hw) hF.2.2.1 hR
  obtain ⟨f1, f2, f3, f4⟩ := hF.2.2.2.2.1 hkd
  have hqn : q < n := am_al_lt hq (Nat.le_trans hC.2.2.2.2.2.2.2.2.2.1 h0)
  have hrec : ∃ cellB : Cell, H[ρ q]? = some cellB ∧ cellB.vm.isStatics = false ∧ s.vm.findClass (am_y x).cls = some cellB.cls := by
    rw [f3]
    exact va_recv hC.2.2.2.2.2.1 hP (am_cls f4).1 (by rw [am_ws_get hqn, am_cell_o hq2 f4])
  have hrun := va_runV (l := l) (e := e) (below := below) (meth := meth) (locs := locs) (cells := n - n0) (slots := am_sl n - am_sl n0) (As := tl.map (am_cv ρ)) (rest := sr.map (am_cv ρ)) (b := ρ q) (C := (am_y x).cls) (g := F0 m pc ls (((Value.ref q :: tl).reverse ++ sr).map (am_cv ρ))) hfix hMet ⟨hcb, hC.2.2.2.2.1 _ f1, hC.2.2.2.2.1 _ f2⟩ ⟨am_blind, hrec, fun U hU hU2 => ⟨rfl, by rw [hU], by rw [hU]; exact ⟨hP, hD.weaken (fun _ _ _ _ => trivial), hT⟩, va_K.moved hU2.alike hC.2.2.2.2.2.1, (am_Bw.of hC.2.2.2.2.1).warm hU2⟩⟩ rfl (by rw [List.length_map]; exact hnp) hl.1 (by simp [am_cv]) (lv_room (am_cats hs)) hd hroom
  exact am_fin hC h0 h1 hX hW hS hl hn1 hn2 hok hrun (fun _ _ _ h9 => h9) hk
theorem am_c1 {x d i q nf' : Nat} {tl sr : List Value} {Cn : am_C} (hC : am_Cx p R s m args c cc own D z A H0 nL n0 nf P X ρ0) (hM : am_Met d x Cn) (hRf : d + 1 ≤ R.frames) (hRl : 64 * (d + 1) ≤ R.locals) (hw : .methodLink own i (am_y x) ∈ am_tb) (hkd : am_kd x = 1) (hnp : tl.length = am_np x) (hs : Nat.ble sr.length 4 = true) (hn1 : n ≤ nf') (hn2 : n ≤ nf → nf' ≤ nf) (hok : nf' = n ∨ (am_okS n sr = true ∧ am_okL n L = true)) (hd : decode cc pc = .ok (.invokestatic i, 3)) (h : Cn tl n σ τ nf' (am_push (pc + 3) L sr nf' k)) (hk : ∀ pc L st n σ τ, k pc L st n σ τ → am_Wb p l e R s m args below meth c Q D z A H0 nL n0 nf X ρ0 pc L st n σ τ) : am_Wb p l e R s m args below meth c Q D z A H0 nL n0 nf X ρ0 pc L (tl.reverse ++ sr) n σ τ := by
  intro ρ H locs ls h0 h1 hX hW hS hl
  obtain ⟨hP, hD, hT⟩ := id hW
  have hn2 := hn2 h1
  have h1000 : nf ≤ 1000 := hC.2.2.2.2.2.2.2.2.2.2
  obtain ⟨hF, hMet⟩ := hM l D z ρ tl n nf' σ τ (am_push (pc + 3) L sr nf' k) H.size hn1 (by omega) h
  have hm1 := am_sl_mono h0
  have hm2 := am_sl_mono hn1
  have hm3 := am_sl_mono hn2
  have hroom : n - n0 + (nf' - n) ≤ R.cells ∧ am_sl n - am_sl n0 + (am_sl nf' - am_sl n) ≤ R.slots := by have g1 := hC.2.2.2.2.2.2.2.1.1; have g2 := hC.2.2.2.2.2.2.2.1.2.1; omega
  have hR : (am_rm d n nf').frames + 1 ≤ R.frames ∧ 8 + (am_mL x + 11) + (am_rm d n nf').locals ≤ R.locals := by
    have g := hF.2.2.2.1
    show d + 1 ≤ R.frames ∧ 8 + (am_mL x + 11) + 64 * d ≤ R.locals
    omega
  have hfix : CallFix p m c cc nL s args am_tb own := ⟨hC.1, hC.2.1, hC.2.2.1, hC.2.2.2.1, hC.2.2.2.2.1⟩
  have hini := hC.2.2.2.2.1 _ hF.2.1
  have hcb := callB_of (rm := am_rm d n nf') (R := R) (own := own) (index := i) (am_np x) hC.2.2.2.2.1 (am_good hF) rfl rfl rfl hini (hC.2.2.2.2.1 _ hw) hF.2.2.1 hR
  have f1 := hF.2.2.2.2.2.1 hkd
  have hrun := va_runS (l := l) (e := e) (below := below) (meth := meth) (locs := locs) (cells := n - n0) (slots := am_sl n - am_sl n0) (As := tl.map (am_cv ρ)) (rest := sr.map (am_cv ρ)) (g := F0 m pc ls ((tl.reverse ++ sr).map (am_cv ρ))) hfix hMet ⟨hcb, hC.2.2.2.2.1 _ f1⟩ ⟨am_blind, fun U hU hU2 => ⟨rfl, by rw [hU], by rw [hU]; exact ⟨hP, hD.weaken (fun _ _ _ _ => trivial), hT⟩, va_K.moved hU2.alike hC.2.2.2.2.2.1, (am_Bw.of hC.2.2.2.2.1).warm hU2⟩⟩ rfl (by rw [List.length_map]; exact hnp) hl.1 (by simp [am_cv]) (lv_room (am_cats hs)) hd hroom
  exact am_fin hC h0 h1 hX hW hS hl hn1 hn2 hok hrun (fun _ _ _ h9 => h9) hk
theorem am_c2 {x d i q nf' : Nat} {tl sr : List Value} {Cn : am_C} (hC : am_Cx p R s m args c cc own D z A H0 nL n0 nf P X ρ0) (hM : am_Met d x Cn) (hRf : d + 1 ≤ R.frames) (hRl : 64 * (d + 1) ≤ R.locals) (hw : .methodLink own i (am_y x) ∈ am_tb) (hkd : am_kd x = 2) (hnp : tl.length = am_np x) (hs : Nat.ble sr.length 4 = true) (hn1 : n ≤ nf') (hn2 : n ≤ nf → nf' ≤ nf) (hok : nf' = n ∨ (am_okS n sr = true ∧ am_okL n L = true)) (hd : decode cc pc = .ok (.invokespecial i, 3)) (h : Cn (.ref q :: tl) n σ τ nf' (am_push (pc + 3) L sr nf' k)) (hk : ∀ pc L st n σ τ, k pc L st n σ τ → am_Wb p l e R s m args below meth c Q D z A H0 nL n0 nf X ρ0 pc L st n σ τ) : am_Wb p l e R s m args below meth c Q D z A H0 nL n0 nf X ρ0 pc L ((.ref q :: tl).reverse ++ sr) n σ τ := by
  intro ρ H locs ls h0 h1 hX hW hS hl
  obtain ⟨hP, hD, hT⟩ := id hW
  have hn2 := hn2 h1
  have h1000 : nf ≤ 1000 := hC.2.2.2.2.2.2.2.2.2.2
  obtain ⟨hF, hMet⟩ := hM l D z ρ (.ref q :: tl) n nf' σ τ (am_push (pc + 3) L sr nf' k) H.size hn1 (by omega) h
  have hm1 := am_sl_mono h0
  have hm2 := am_sl_mono hn1
  have hm3 := am_sl_mono hn2
  have hroom : n - n0 + (nf' - n) ≤ R.cells ∧ am_sl n - am_sl n0 + (am_sl nf' - am_sl n) ≤ R.slots := by have g1 := hC.2.2.2.2.2.2.2.1.1; have g2 := hC.2.2.2.2.2.2.2.1.2.1; omega
  have hR : (am_rm d n nf').frames + 1 ≤ R.frames ∧ 8 + (am_mL x + 11) + (am_rm d n nf').locals ≤ R.locals := by
    have g := hF.2.2.2.1
    show d + 1 ≤ R.frames ∧ 8 + (am_mL x + 11) + 64 * d ≤ R.locals
    omega
  have hfix : CallFix p m c cc nL s args am_tb own := ⟨hC.1, hC.2.1, hC.2.2.1, hC.2.2.2.1, hC.2.2.2.2.1⟩
  have hini := hC.2.2.2.2.1 _ hF.2.1
  have hcb := callB_of (rm := am_rm d n nf') (R := R) (own := own) (index := i) (am_np x) hC.2.2.2.2.1 (am_good hF) rfl rfl rfl hini (hC.2.2.2.2.1 _ hw) hF.2.2.1 hR
  obtain ⟨f1, f2, f3⟩ := hF.2.2.2.2.2.2 hkd
  rw [f3] at hcb
  have hrun := va_runI (l := l) (e := e) (below := below) (meth := meth) (locs := locs) (cells := n - n0) (slots := am_sl n - am_sl n0) (As := tl.map (am_cv ρ)) (rest := sr.map (am_cv ρ)) (b := ρ q) (g := F0 m pc ls (((Value.ref q :: tl).reverse ++ sr).map (am_cv ρ))) hfix hMet ⟨hcb, f1, hC.2.2.2.2.1 _ f2⟩ ⟨am_blind, fun U hU hU2 => ⟨rfl, by rw [hU], by rw [hU]; exact ⟨hP, hD.weaken (fun _ _ _ _ => trivial), hT⟩, va_K.moved hU2.alike hC.2.2.2.2.2.1, (am_Bw.of hC.2.2.2.2.1).warm hU2⟩⟩ rfl (by rw [List.length_map]; exact hnp) hl.1 (by simp [am_cv]) (lv_room (am_cats hs)) hd hroom
  exact am_fin hC h0 h1 hX hW hS hl hn1 hn2 hok hrun (fun _ _ _ h9 => h9) hk
theorem am_c1n {x d i q nf' : Nat} {tl sr : List Value} {Cn : am_C} (hC : am_Cx p R s m args c cc own D z A H0 nL n0 nf P X ρ0) (hM : am_Met d x Cn) (hRf : d + 1 ≤ R.frames) (hRl : 64 * (d + 1) ≤ R.locals) (hw : .methodLinkNest own i (am_y x) "CanalEnd" ∈ am_tb) (hkd : am_kd x = 1) (hnp : tl.length = am_np x) (hs : Nat.ble sr.length 4 = true) (hn1 : n ≤ nf') (hn2 : n ≤ nf → nf' ≤ nf) (hok : nf' = n ∨ (am_okS n sr = true ∧ am_okL n L = true)) (hd : decode cc pc = .ok (.invokestatic i, 3)) (h : Cn tl n σ τ nf' (am_push (pc + 3) L sr nf' k)) (hk : ∀ pc L st n σ τ, k pc L st n σ τ → am_Wb p l e R s m args below meth c Q D z A H0 nL n0 nf X ρ0 pc L st n σ τ) : am_Wb p l e R s m args below meth c Q D z A H0 nL n0 nf X ρ0 pc L (tl.reverse ++ sr) n σ τ := by
  intro ρ H locs ls h0 h1 hX hW hS hl
  obtain ⟨hP, hD, hT⟩ := id hW
  have hn2 := hn2 h1
  have h1000 : nf ≤ 1000 := hC.2.2.2.2.2.2.2.2.2.2
  obtain ⟨hF, hMet⟩ := hM l D z ρ tl n nf' σ τ (am_push (pc + 3) L sr nf' k) H.size hn1 (by omega) h
  have hm1 := am_sl_mono h0
  have hm2 := am_sl_mono hn1
  have hm3 := am_sl_mono hn2
  have hroom : n - n0 + (nf' - n) ≤ R.cells ∧ am_sl n - am_sl n0 + (am_sl nf' - am_sl n) ≤ R.slots := by have g1 := hC.2.2.2.2.2.2.2.1.1; have g2 := hC.2.2.2.2.2.2.2.1.2.1; omega
  have hR : (am_rm d n nf').frames + 1 ≤ R.frames ∧ 8 + (am_mL x + 11) + (am_rm d n nf').locals ≤ R.locals := by
    have g := hF.2.2.2.1
    show d + 1 ≤ R.frames ∧ 8 + (am_mL x + 11) + 64 * d ≤ R.locals
    omega
  have hfix : CallFix p m c cc nL s args am_tb own := ⟨hC.1, hC.2.1, hC.2.2.1, hC.2.2.2.1, hC.2.2.2.2.1⟩
  have hini := hC.2.2.2.2.1 _ hF.2.1
  have hcb := va_cnB (rm := am_rm d n nf') (R := R) (own := own) (index := i) (host := "CanalEnd") (args := args) (am_np x) hC.2.2.2.2.1 (am_good hF) rfl rfl rfl (va_Nw.of (by rfl) (hC.2.2.2.2.1 _ hw)) hini hF.2.2.1 hR
  have f1 := hF.2.2.2.2.2.1 hkd
  have hrun := va_runSN (l := l) (e := e) (below := below) (meth := meth) (locs := locs) (cells := n - n0) (slots := am_sl n - am_sl n0) (As := tl.map (am_cv ρ)) (rest := sr.map (am_cv ρ)) (g := F0 m pc ls ((tl.reverse ++ sr).map (am_cv ρ))) hfix hMet ⟨hcb, hC.2.2.2.2.1 _ f1, trivial⟩ ⟨am_blind, fun U hU hU2 => ⟨rfl, by rw [hU], by rw [hU]; exact ⟨hP, hD.weaken (fun _ _ _ _ => trivial), hT⟩, va_K.moved hU2.alike hC.2.2.2.2.2.1, (am_Bw.of hC.2.2.2.2.1).warm hU2⟩⟩ rfl (by rw [List.length_map]; exact hnp) hl.1 (by simp [am_cv]) (lv_room (am_cats hs)) hd hroom
  exact am_fin hC h0 h1 hX hW hS hl hn1 hn2 hok hrun (fun _ _ _ h9 => h9) hk
theorem am_c2n {x d i q nf' : Nat} {tl sr : List Value} {Cn : am_C} (hC : am_Cx p R s m args c cc own D z A H0 nL n0 nf P X ρ0) (hM : am_Met d x Cn) (hRf : d + 1 ≤ R.frames) (hRl : 64 * (d + 1) ≤ R.locals) (hw : .methodLinkNest own i (am_y x) "CanalEnd" ∈ am_tb) (hkd : am_kd x = 2) (hnp : tl.length = am_np x) (hs : Nat.ble sr.length 4 = true) (hn1 : n ≤ nf') (hn2 : n ≤ nf → nf' ≤ nf) (hok : nf' = n ∨ (am_okS n sr = true ∧ am_okL n L = true)) (hd : decode cc pc = .ok (.invokespecial i, 3)) (h : Cn (.ref q :: tl) n σ τ nf' (am_push (pc + 3) L sr nf' k)) (hk : ∀ pc L st n σ τ, k pc L st n σ τ → am_Wb p l e R s m args below meth c Q D z A H0 nL n0 nf X ρ0 pc L st n σ τ) : am_Wb p l e R s m args below meth c Q D z A H0 nL n0 nf X ρ0 pc L ((.ref q :: tl).reverse ++ sr) n σ τ := by
  intro ρ H locs ls h0 h1 hX hW hS hl
  obtain ⟨hP, hD, hT⟩ := id hW
  have hn2 := hn2 h1
  have h1000 : nf ≤ 1000 := hC.2.2.2.2.2.2.2.2.2.2
  obtain ⟨hF, hMet⟩ := hM l D z ρ (.ref q :: tl) n nf' σ τ (am_push (pc + 3) L sr nf' k) H.size hn1 (by omega) h
  have hm1 := am_sl_mono h0
  have hm2 := am_sl_mono hn1
  have hm3 := am_sl_mono hn2
  have hroom : n - n0 + (nf' - n) ≤ R.cells ∧ am_sl n - am_sl n0 + (am_sl nf' - am_sl n) ≤ R.slots := by have g1 := hC.2.2.2.2.2.2.2.1.1; have g2 := hC.2.2.2.2.2.2.2.1.2.1; omega
  have hR : (am_rm d n nf').frames + 1 ≤ R.frames ∧ 8 + (am_mL x + 11) + (am_rm d n nf').locals ≤ R.locals := by
    have g := hF.2.2.2.1
    show d + 1 ≤ R.frames ∧ 8 + (am_mL x + 11) + 64 * d ≤ R.locals
    omega
  have hfix : CallFix p m c cc nL s args am_tb own := ⟨hC.1, hC.2.1, hC.2.2.1, hC.2.2.2.1, hC.2.2.2.2.1⟩
  have hini := hC.2.2.2.2.1 _ hF.2.1
  have hcb := va_cnB (rm := am_rm d n nf') (R := R) (own := own) (index := i) (host := "CanalEnd") (args := args) (am_np x) hC.2.2.2.2.1 (am_good hF) rfl rfl rfl (va_Nw.of (by rfl) (hC.2.2.2.2.1 _ hw)) hini hF.2.2.1 hR
  obtain ⟨f1, f2, f3⟩ := hF.2.2.2.2.2.2 hkd
  rw [f3] at hcb
  have hrun := va_runIN (l := l) (e := e) (below := below) (meth := meth) (locs := locs) (cells := n - n0) (slots := am_sl n - am_sl n0) (As := tl.map (am_cv ρ)) (rest := sr.map (am_cv ρ)) (b := ρ q) (g := F0 m pc ls (((Value.ref q :: tl).reverse ++ sr).map (am_cv ρ))) hfix hMet ⟨hcb, f1, hC.2.2.2.2.1 _ f2⟩ ⟨am_blind, fun U hU hU2 => ⟨rfl, by rw [hU], by rw [hU]; exact ⟨hP, hD.weaken (fun _ _ _ _ => trivial), hT⟩, va_K.moved hU2.alike hC.2.2.2.2.2.1, (am_Bw.of hC.2.2.2.2.1).warm hU2⟩⟩ rfl (by rw [List.length_map]; exact hnp) hl.1 (by simp [am_cv]) (lv_room (am_cats hs)) hd hroom
  exact am_fin hC h0 h1 hX hW hS hl hn1 hn2 hok hrun (fun _ _ _ h9 => h9) hk
theorem am_m23 {q i : Nat} {r : List Value} (hC : am_Cx p R s m args c cc own D z A H0 nL n0 nf P X ρ0) (hw : .methodLink own i objectInit ∈ am_tb) (hw2 : .instanceMethod objectInit ∈ am_tb) (hw3 : .code objectInit ⟨#[0xb1]⟩ 1 none ∈ am_tb) (hs : Nat.ble r.length 4 = true) (hd : decode cc pc = .ok (.invokespecial i, 3)) (h : k (pc + 3) L r n σ τ) (hk : ∀ pc L st n σ τ, k pc L st n σ τ → am_Wb p l e R s m args below meth c Q D z A H0 nL n0 nf X ρ0 pc L st n σ τ) : am_Wb p l e R s m args below meth c Q D z A H0 nL n0 nf X ρ0 pc L (.ref q :: r) n σ τ := by
  intro ρ H locs ls h0 h1 hX hW hS hl
  have hlo : 2 * (F0 m pc ls ((Value.ref q :: r).map (am_cv ρ))).monitorRoom + ((r.map (am_cv ρ)).map fun v => v.category).sum ≤ 8 := lv_room (am_cats hs)
  have g := hC.2.2.2.2.2.2.2.1
  exact W.objInit hC.1 hC.2.1 hC.2.2.2.1 (hC.2.2.2.2.1 _ hw) (hC.2.2.2.2.1 _ hw2) (hC.2.2.2.2.1 _ hw3) rfl (by rw [hC.2.2.1]; exact hl.1) rfl hd g.2.2.1 (by omega) (hk _ _ _ _ _ _ h ρ H locs ls h0 h1 hX hW hS hl)
theorem am_m24 {q0 q1 i x : Nat} {sp dp ln : Int32} {r : List Value} (hC : am_Cx p R s m args c cc own D z A H0 nL n0 nf P X ρ0) (hx : x = 10 ∨ x = 11) (hw : .methodLink own i arraycopyName ∈ am_tb) (hw2 : .native arraycopyName ∈ am_tb) (hw3 : .static arraycopyName ∈ am_tb) (hw4 : .initialized "java/lang/System" ∈ am_tb) (hq0 : am_al P n q0 = true) (hk0 : am_knd q0 = x) (hq1 : am_al P n q1 = true) (hk1 : am_knd q1 = x) (hs : Nat.ble r.length 4 = true) (g1 : ¬ sp < 0) (g2 : ¬ dp < 0) (g3 : ¬ ln < 0) (g4 : sp.toNatClampNeg + ln.toNatClampNeg ≤ am_len q0) (g5 : dp.toNatClampNeg + ln.toNatClampNeg ≤ am_len q1) (g6 : x = 11 → ∀ j, j < ln.toNatClampNeg → σ q0 (sp.toNatClampNeg + j) = 0 ∨ σ q0 (sp.toNatClampNeg + j) = 1) (hd : decode cc pc = .ok (.invokestatic i, 3)) (h : k (pc + 3) L r n (am_cp σ q0 q1 sp.toNatClampNeg dp.toNatClampNeg ln.toNatClampNeg) τ) (hk : ∀ pc L st n σ τ, k pc L st n σ τ → am_Wb p l e R s m args below meth c Q D z A H0 nL n0 nf X ρ0 pc L st n σ τ) : am_Wb p l e R s m args below meth c Q D z A H0 nL n0 nf X ρ0 pc L (.int ln :: .int dp :: .ref q1 :: .int sp :: .ref q0 :: r) n σ τ := by
  intro ρ H locs ls h0 h1 hX hW hS hl
  obtain ⟨hP, hD, hT⟩ := id hW
  have hn0 : q0 < n := am_al_lt hq0 (Nat.le_trans hC.2.2.2.2.2.2.2.2.2.1 h0)
  have hn1 : q1 < n := am_al_lt hq1 (Nat.le_trans hC.2.2.2.2.2.2.2.2.2.1 h0)
  have g := hC.2.2.2.2.2.2.2.1
  have hca := am_cats (ρ := ρ) hs
  have e0 : nativeFrameWords "java/lang/System" "arraycopy" 5 = 7 := by decide
  have self : am_cp σ q0 q1 sp.toNatClampNeg dp.toNatClampNeg ln.toNatClampNeg q1 = va_cpy (σ q0) (σ q1) sp.toNatClampNeg dp.toNatClampNeg ln.toNatClampNeg := by
    funext j
    unfold am_cp
    rw [show Nat.beq q1 q1 = true from Nat.beq_refl q1]
    rfl
  have oth : ∀ q9, ¬ q9 = q1 → am_cp σ q0 q1 sp.toNatClampNeg dp.toNatClampNeg ln.toNatClampNeg q9 = σ q9 := by
    intro q9 h9
    funext j
    unfold am_cp
    rw [show Nat.beq q9 q1 = false from Bool.eq_false_iff.mpr (fun z => h9 (Nat.eq_of_beq_eq_true z))]
    rfl
  rcases hx with rfl | rfl
  · refine va_copyi (D := D) (ty := .int) hC.1 hC.2.1 (hC.2.2.1.trans hl.1.symm) hC.2.2.2.1 (hC.2.2.2.2.1 _ hw) (hC.2.2.2.2.1 _ hw2) (hC.2.2.2.2.1 _ hw3) (hC.2.2.2.2.1 _ hw4) hC.2.2.2.2.2.1 hP hD hS q0 q1 0 0 (by rw [am_ws_get hn0, am_cell_i hk0]) (by rw [am_ws_get hn1, am_cell_i hk1]) rfl rfl rfl g1 g2 g3 g4 g5 (fun _ _ => rfl) g.2.2.1 (by rw [e0]; omega) hd (fun H1 locs1 hP1 hD1 hS1 => ?_)
    have e := am_ws_set (z := z) (ρ := ρ) (n := n) (q := q1) (σ := σ) (σ' := am_cp σ q0 q1 sp.toNatClampNeg dp.toNatClampNeg ln.toNatClampNeg) (τ := τ) (τ' := τ) (by rw [am_cell_i hk1, self]) (fun q9 hq9 => am_cell_cong (oth q9 hq9) (fun _ => rfl))
    rw [e] at hP1 hD1
    exact hk _ _ _ _ _ _ h ρ H1 locs1 ls h0 h1 hX ⟨hP1, hD1, hT⟩ hS1 hl
  · refine va_copyi (D := D) (ty := .boolean) hC.1 hC.2.1 (hC.2.2.1.trans hl.1.symm) hC.2.2.2.1 (hC.2.2.2.2.1 _ hw) (hC.2.2.2.2.1 _ hw2) (hC.2.2.2.2.1 _ hw3) (hC.2.2.2.2.1 _ hw4) hC.2.2.2.2.2.1 hP hD hS q0 q1 1 1 (by rw [am_ws_get hn0, am_cell_z hk0]) (by rw [am_ws_get hn1, am_cell_z hk1]) rfl rfl rfl g1 g2 g3 g4 g5 (fun j hj => by rcases g6 rfl j hj with e9 | e9 <;> rw [e9] <;> rfl) g.2.2.1 (by rw [e0]; omega) hd (fun H1 locs1 hP1 hD1 hS1 => ?_)
    have e := am_ws_set (z := z) (ρ := ρ) (n := n) (q := q1) (σ := σ) (σ' := am_cp σ q0 q1 sp.toNatClampNeg dp.toNatClampNeg ln.toNatClampNeg) (τ := τ) (τ' := τ) (by rw [am_cell_z hk1, self]) (fun q9 hq9 => am_cell_cong (oth q9 hq9) (fun _ => rfl))
    rw [e] at hP1 hD1
    exact hk _ _ _ _ _ _ h ρ H1 locs1 ls h0 h1 hX ⟨hP1, hD1, hT⟩ hS1 hl
theorem am_m29 {i : Int32} {r : List Value} (hC : am_Cx p R s m args c cc own D z A H0 nL n0 nf P X ρ0) (hX1 : X.1 = true) (hin : vp_in i X.2.1) (hd : decode cc pc = .ok (.iaload, 1)) (h : k (pc + 1) L (.int (X.2.2 i.toNatClampNeg) :: r) n σ τ) (hk : ∀ pc L st n σ τ, k pc L st n σ τ → am_Wb p l e R s m args below meth c Q D z A H0 nL n0 nf X ρ0 pc L st n σ τ) : am_Wb p l e R s m args below meth c Q D z A H0 nL n0 nf X ρ0 pc L (.int i :: .ref 1000 :: r) n σ τ := by
  intro ρ H locs ls h0 h1 hX hW hS hl
  obtain ⟨g1, g2, g3⟩ := hC.2.2.2.2.2.2.2.2.1 hX1
  show W p l e R s m args below meth c H locs _ _ Q (F0 m pc ls (.int i :: .ref (ρ 1000) :: r.map (am_cv ρ)))
  rw [hX 1000 (Or.inr hC.2.2.2.2.2.2.2.2.2.2)]
  exact va_sld hC.1 hC.2.1 g1 g2 g3 hS hin hd (hk _ _ _ _ _ _ h ρ H locs ls h0 h1 hX hW hS hl)
theorem am_m30 {r : List Value} (hC : am_Cx p R s m args c cc own D z A H0 nL n0 nf P X ρ0) (hX1 : X.1 = true) (hd : decode cc pc = .ok (.arraylength, 1)) (h : k (pc + 1) L (.int (nI X.2.1) :: r) n σ τ) (hk : ∀ pc L st n σ τ, k pc L st n σ τ → am_Wb p l e R s m args below meth c Q D z A H0 nL n0 nf X ρ0 pc L st n σ τ) : am_Wb p l e R s m args below meth c Q D z A H0 nL n0 nf X ρ0 pc L (.ref 1000 :: r) n σ τ := by
  intro ρ H locs ls h0 h1 hX hW hS hl
  obtain ⟨g1, g2, g3⟩ := hC.2.2.2.2.2.2.2.2.1 hX1
  show W p l e R s m args below meth c H locs _ _ Q (F0 m pc ls (.ref (ρ 1000) :: r.map (am_cv ρ)))
  rw [hX 1000 (Or.inr hC.2.2.2.2.2.2.2.2.2.2)]
  exact va_slen hC.1 hC.2.1 g1 g2 g3 hS hd (hk _ _ _ _ _ _ h ρ H locs ls h0 h1 hX hW hS hl)
end AMC
end
section
theorem am_and {a b : Bool} (h : (a && b) = true) : a = true ∧ b = true := by simpa using h
theorem am_chk_inv {own : String} {rt : Option FieldType} {kd : Nat} {cc : ByteArray} {pc : Nat} {ai : am_AI} (h : am_chk own rt kd cc pc ai = true) : decode cc pc = .ok (am_ins pc ai) ∧ ai.1 = pc + (am_ins pc ai).2 ∧ am_side own rt kd ai = true := by
  unfold am_chk at h
  obtain ⟨h1, h3⟩ := am_and h
  obtain ⟨h1, h2⟩ := am_and h1
  refine ⟨?_, Nat.eq_of_beq_eq_true h2, h3⟩
  revert h1
  cases hd : decode cc pc with
  | ok r => intro h1; rw [of_decide_eq_true h1]
  | error e => intro h1; exact absurd h1 Bool.false_ne_true
theorem am_fin4 {x : Nat} (h : Nat.blt x 4 = true) : ((Fin.ofNat 4 x : Fin 4) : Nat) = x := Nat.mod_eq_of_lt (Nat.blt_eq.mp h)
theorem am_fin2 {x : Nat} (h : Nat.blt x 2 = true) : ((Fin.ofNat 2 x : Fin 2) : Nat) = x := Nat.mod_eq_of_lt (Nat.blt_eq.mp h)
theorem am_not {b : Bool} (h : (!b) = true) : b = false := by simpa using h
theorem am_f1 : Cond.arrayClass .int ∈ am_tb := am_lk_mem (i := 156) (by decide +kernel)
theorem am_f2 : Cond.arrayClass .boolean ∈ am_tb := am_lk_mem (i := 157) (by decide +kernel)
theorem am_f3 : Cond.arrayOver (.object "CanalEnd$Sheet") ∈ am_tb := am_lk_mem (i := 306) (by decide +kernel)
theorem am_f4 : Cond.arrayOver (.array .int) ∈ am_tb := am_lk_mem (i := 238) (by decide +kernel)
theorem am_f5 : Cond.instanceMethod objectInit ∈ am_tb := am_lk_mem (i := 80) (by decide +kernel)
theorem am_f6 : Cond.code objectInit ⟨#[0xb1]⟩ 1 none ∈ am_tb := am_lk_mem (i := 81) (by decide +kernel)
theorem am_f7 : Cond.native arraycopyName ∈ am_tb := am_lk_mem (i := 446) (by decide +kernel)
theorem am_f8 : Cond.static arraycopyName ∈ am_tb := am_lk_mem (i := 445) (by decide +kernel)
theorem am_f9 : Cond.initialized "java/lang/System" ∈ am_tb := am_lk_mem (i := 71) (by decide +kernel)
theorem am_seq_len : ∀ (lo : Nat) (tg : List Nat), am_seq lo tg = true → tg.all (fun a => Nat.blt a 100000) = true → tg = [] ∨ lo + tg.length / 2 ≤ 100000
  | lo, a :: t :: r, h, h2 => by
    have g := am_and h
    have ha : a = lo := Nat.eq_of_beq_eq_true g.1
    have hb : a < 100000 := Nat.blt_eq.mp (List.all_eq_true.mp h2 a (by simp))
    rcases am_seq_len (lo + 1) r g.2 (List.all_eq_true.mpr fun x hx => List.all_eq_true.mp h2 x (by simp [hx])) with e | e
    · subst e
      right
      simp
      omega
    · right
      simp only [List.length_cons]
      omega
  | lo, [], h, h2 => Or.inl rfl
  | lo, [a], h, h2 => absurd h Bool.false_ne_true
theorem am_tgs_len : ∀ (tg : List Nat), (am_tgs tg).length ≤ tg.length
  | a :: t :: r => by
    have := am_tgs_len r
    simp [am_tgs]
    omega
  | [] => by simp [am_tgs]
  | [a] => by simp [am_tgs]
theorem am_prs_head (pc : Nat) : ∀ (a t : Nat) (r : List Nat), am_prs pc (a :: t :: r) = ((a : Int), (t : Int) - pc) :: am_prs pc r := fun _ _ _ => rfl
theorem am_inc_ok {pc : Nat} : ∀ (tg : List Nat), am_inc tg = true → ((am_prs pc tg).toArray.toList.zip ((am_prs pc tg).toArray.toList.drop 1)).all (fun (a, next) => a.1 < next.1) = true
  | a :: t :: b :: u :: r, h => by
    have g := am_and h
    have ih := am_inc_ok (pc := pc) (b :: u :: r) g.2
    have hab : a < b := Nat.blt_eq.mp g.1
    simp only [am_prs, List.drop_succ_cons, List.drop_zero, List.zip_cons_cons, List.all_cons, Bool.and_eq_true] at ih ⊢
    exact ⟨by simpa using hab, ih⟩
  | [a, t], h => by simp [am_prs]
  | [], h => by simp [am_prs]
  | [a], h => by simp [am_prs]
  | [a, b, c], h => absurd h Bool.false_ne_true

section AMD
variable {p : Program} {l : Launch} {e : Env} {R : Room} {s : State} {m : MethodId} {args : Array Value} {below : List Frame} {meth : Method} {c : Code} {Q : State → Prop} {cc : ByteArray} {own : String} {D : va_G} {z : am_Z} {A : Nat → Prop} {H0 : Heap} {nL n0 nf P : Nat} {X : am_X} {ρ0 : Nat → Nat} {pc nx : Nat} {L : am_L} {st : List Value} {n : Nat} {σ : am_Sg} {τ : am_Tu} {k : am_K}

def am_Rh (rt : Option FieldType) (cc : ByteArray) (r : am_Rt) (Wb : am_K) : Prop :=
  (rt = some .int → ∀ pc L v n σ τ, decode cc pc = .ok (.ireturn, 1) → r (some (.int v)) n σ τ → Wb pc L [.int v] n σ τ) ∧
  (rt = some .boolean → ∀ pc L v n σ τ, decode cc pc = .ok (.ireturn, 1) → (v = 0 ∨ v = 1) → r (some (.int v)) n σ τ → Wb pc L [.int v] n σ τ) ∧
  (rt = some .long → ∀ pc L v n σ τ, decode cc pc = .ok (.lreturn, 1) → r (some (.long v)) n σ τ → Wb pc L [.long v] n σ τ) ∧
  (rt = none → ∀ pc L n σ τ, decode cc pc = .ok (.return_, 1) → r none n σ τ → Wb pc L [] n σ τ)
theorem am_stM (hC : am_Cx p R s m args c cc own D z A H0 nL n0 nf P X ρ0) {Γ : Nat → am_C} {d kd : Nat} {rt : Option FieldType} {r : am_Rt} (hΓ : ∀ x, am_Met d x (Γ x)) (hRf : d + 1 ≤ R.frames) (hRl : 64 * (d + 1) ≤ R.locals) (hini : kd = 2 → meth.name = "<init>") (hret : am_Rh rt cc r (am_Wb p l e R s m args below meth c Q D z A H0 nL n0 nf X ρ0)) (hk : ∀ pc L st n σ τ, k pc L st n σ τ → am_Wb p l e R s m args below meth c Q D z A H0 nL n0 nf X ρ0 pc L st n σ τ) : ∀ (op x y nx : Nat) (c9 : Int32) (tg : List Nat) (lc : Int64), am_chk own rt kd cc pc (nx, op + 61, x, y, c9, tg, lc) = true → am_mem X Γ P nf nx op x y tg L st n σ τ k r → am_Wb p l e R s m args below meth c Q D z A H0 nL n0 nf X ρ0 pc L st n σ τ
  | 0, x, y, nx, c9, tg, lc, hch, h => by
    obtain ⟨hd, hnx, hs⟩ := am_chk_inv hch
    have hnx : nx = pc + 3 := hnx
    subst hnx
    have hs : (am_lk (.fieldLink own (tg.getD 0 0) (am_T x y).1 (am_T x y).2.1 (am_T x y).2.2.1) (tg.getD 1 0) && !am_isr x y && Nat.blt y (am_N x) && Nat.blt x 9) = true := hs
    obtain ⟨hs, s4⟩ := am_and hs
    obtain ⟨hs, s3⟩ := am_and hs
    obtain ⟨s1, s2⟩ := am_and hs
    obtain ⟨q, s9, rfl, h⟩ := am_rf_inv h
    obtain ⟨hg, h⟩ := am_gd_inv h
    obtain ⟨g1, g2⟩ := am_and hg
    exact am_m0 (w := 0) hC (Nat.blt_eq.mp s4) (Nat.blt_eq.mp s3) (am_not s2) hd (am_lk_mem s1) g1 (Nat.eq_of_beq_eq_true g2) h hk
  | 1, x, y, nx, c9, tg, lc, hch, h => by
    obtain ⟨hd, hnx, hs⟩ := am_chk_inv hch
    have hnx : nx = pc + 3 := hnx
    subst hnx
    have hs : (am_lk (.fieldLink own (tg.getD 0 0) (am_T x y).1 (am_T x y).2.1 (am_T x y).2.2.1) (tg.getD 1 0) && am_isr x y && Nat.blt y (am_N x) && Nat.blt x 9) = true := hs
    obtain ⟨hs, s4⟩ := am_and hs
    obtain ⟨hs, s3⟩ := am_and hs
    obtain ⟨s1, s2⟩ := am_and hs
    obtain ⟨q, s9, rfl, h⟩ := am_rf_inv h
    obtain ⟨hg, h⟩ := am_gd_inv h
    obtain ⟨g1, g2⟩ := am_and hg
    cases ht : τ q y with
    | zero => rw [ht] at h; exact am_m1n (w := 0) hC (Nat.blt_eq.mp s4) (Nat.blt_eq.mp s3) s2 hd (am_lk_mem s1) g1 (Nat.eq_of_beq_eq_true g2) ht h hk
    | succ w => rw [ht] at h; exact am_m1r hC (Nat.blt_eq.mp s4) (Nat.blt_eq.mp s3) s2 hd (am_lk_mem s1) g1 (Nat.eq_of_beq_eq_true g2) ht h hk
  | 2, x, y, nx, c9, tg, lc, hch, h => by
    obtain ⟨hd, hnx, hs⟩ := am_chk_inv hch
    have hnx : nx = pc + 3 := hnx
    subst hnx
    have hs : (am_lk (.fieldLinkNest own (tg.getD 0 0) (am_T x y).1 (am_T x y).2.1 (am_T x y).2.2.1 "CanalEnd") (tg.getD 1 0) && !am_isr x y && Nat.blt y (am_N x) && Nat.blt x 9) = true := hs
    obtain ⟨hs, s4⟩ := am_and hs
    obtain ⟨hs, s3⟩ := am_and hs
    obtain ⟨s1, s2⟩ := am_and hs
    obtain ⟨q, s9, rfl, h⟩ := am_rf_inv h
    obtain ⟨hg, h⟩ := am_gd_inv h
    obtain ⟨g1, g2⟩ := am_and hg
    exact am_m2 (w := 0) hC (Nat.blt_eq.mp s4) (Nat.blt_eq.mp s3) (am_not s2) hd (am_lk_mem s1) g1 (Nat.eq_of_beq_eq_true g2) h hk
  | 3, x, y, nx, c9, tg, lc, hch, h => by
    obtain ⟨hd, hnx, hs⟩ := am_chk_inv hch
    have hnx : nx = pc + 3 := hnx
    subst hnx
    have hs : (am_lk (.fieldLink own (tg.getD 0 0) (am_T x y).1 (am_T x y).2.1 (am_T x y).2.2.1) (tg.getD 1 0) && !am_isr x y && Nat.blt y (am_N x) && Nat.blt x 9 && !(am_T x y).2.2.2 && decide (am_ty x y = .int)) = true := hs
    obtain ⟨hs, s6⟩ := am_and hs
    obtain ⟨hs, s5⟩ := am_and hs
    obtain ⟨hs, s4⟩ := am_and hs
    obtain ⟨hs, s3⟩ := am_and hs
    obtain ⟨s1, s2⟩ := am_and hs
    obtain ⟨v, s8, rfl, h⟩ := am_un_inv h
    obtain ⟨q, s9, rfl, h⟩ := am_rf_inv h
    obtain ⟨hg, h⟩ := am_gd_inv h
    obtain ⟨g1, g2⟩ := am_and hg
    exact am_m3 (w := 0) hC (Nat.blt_eq.mp s4) (Nat.blt_eq.mp s3) (am_not s2) (am_not s5) (of_decide_eq_true s6) hd (am_lk_mem s1) g1 (Nat.eq_of_beq_eq_true g2) (h _ rfl) hk
  | 4, x, y, nx, c9, tg, lc, hch, h => by
    obtain ⟨hd, hnx, hs⟩ := am_chk_inv hch
    have hnx : nx = pc + 3 := hnx
    subst hnx
    have hs : (am_lk (.fieldLink own (tg.getD 0 0) (am_T x y).1 (am_T x y).2.1 (am_T x y).2.2.1) (tg.getD 1 0) && !am_isr x y && Nat.blt y (am_N x) && Nat.blt x 9 && !(am_T x y).2.2.2 && decide (am_ty x y = .boolean)) = true := hs
    obtain ⟨hs, s6⟩ := am_and hs
    obtain ⟨hs, s5⟩ := am_and hs
    obtain ⟨hs, s4⟩ := am_and hs
    obtain ⟨hs, s3⟩ := am_and hs
    obtain ⟨s1, s2⟩ := am_and hs
    obtain ⟨v, s8, rfl, h⟩ := am_un_inv h
    obtain ⟨q, s9, rfl, h⟩ := am_rf_inv h
    obtain ⟨hg, h⟩ := am_gd_inv h
    obtain ⟨g1, g2⟩ := am_and hg
    exact am_m4 (w := 0) hC (Nat.blt_eq.mp s4) (Nat.blt_eq.mp s3) (am_not s2) (am_not s5) (of_decide_eq_true s6) hd (am_lk_mem s1) g1 (Nat.eq_of_beq_eq_true g2) h.1 (h.2 _ rfl) hk
  | 5, x, y, nx, c9, tg, lc, hch, h => by
    obtain ⟨hd, hnx, hs⟩ := am_chk_inv hch
    have hnx : nx = pc + 3 := hnx
    subst hnx
    have hs : (am_lk (.fieldLink own (tg.getD 0 0) (am_T x y).1 (am_T x y).2.1 (am_T x y).2.2.1) (tg.getD 1 0) && am_isr x y && Nat.blt y (am_N x) && Nat.blt x 9 && !(am_T x y).2.2.2) = true := hs
    obtain ⟨hs, s5⟩ := am_and hs
    obtain ⟨hs, s4⟩ := am_and hs
    obtain ⟨hs, s3⟩ := am_and hs
    obtain ⟨s1, s2⟩ := am_and hs
    have h : (match (generalizing := false) st with
      | .ref z :: .ref q :: s => am_gd (am_al P n q && am_al P n z && Nat.beq (am_knd q) x) (k (pc + 3) L s n σ (am_up τ q y (z + 1)))
      | .null :: .ref q :: s => am_gd (am_al P n q && Nat.beq (am_knd q) x) (k (pc + 3) L s n σ (am_up τ q y 0))
      | _ => False) := h
    split at h
    · obtain ⟨hg, h⟩ := am_gd_inv h
      obtain ⟨hg, g2⟩ := am_and hg
      obtain ⟨g1, g3⟩ := am_and hg
      exact am_m5r hC (v := 0) (Nat.blt_eq.mp s4) (Nat.blt_eq.mp s3) s2 (am_not s5) hd (am_lk_mem s1) g1 (Nat.eq_of_beq_eq_true g2) g3 h hk
    · obtain ⟨hg, h⟩ := am_gd_inv h
      obtain ⟨g1, g2⟩ := am_and hg
      exact am_m5n hC (w := 0) (v := 0) (Nat.blt_eq.mp s4) (Nat.blt_eq.mp s3) s2 (am_not s5) hd (am_lk_mem s1) g1 (Nat.eq_of_beq_eq_true g2) h hk
    · exact h.elim
  | 6, x, y, nx, c9, tg, lc, hch, h => by
    obtain ⟨hd, hnx, hs⟩ := am_chk_inv hch
    have hnx : nx = pc + 3 := hnx
    subst hnx
    have hs : (am_lk (.fieldLink own (tg.getD 0 0) (am_T x y).1 (am_T x y).2.1 (am_T x y).2.2.1) (tg.getD 1 0) && am_isr x y && Nat.blt y (am_N x) && Nat.blt x 9 && (am_T x y).2.2.2 && decide ((am_T x y).1 = own) && Nat.beq kd 2) = true := hs
    obtain ⟨hs, s7⟩ := am_and hs
    obtain ⟨hs, s6⟩ := am_and hs
    obtain ⟨hs, s5⟩ := am_and hs
    obtain ⟨hs, s4⟩ := am_and hs
    obtain ⟨hs, s3⟩ := am_and hs
    obtain ⟨s1, s2⟩ := am_and hs
    have h : (match (generalizing := false) st with
      | .ref z :: .ref q :: s => am_gd (am_al P n q && am_al P n z && Nat.beq (am_knd q) x) (k (pc + 3) L s n σ (am_up τ q y (z + 1)))
      | _ => False) := h
    split at h
    · obtain ⟨hg, h⟩ := am_gd_inv h
      obtain ⟨hg, g2⟩ := am_and hg
      obtain ⟨g1, g3⟩ := am_and hg
      exact am_m6 hC (v := 0) (Nat.blt_eq.mp s4) (Nat.blt_eq.mp s3) s2 s5 (hini (Nat.eq_of_beq_eq_true s7)) (of_decide_eq_true s6) hd (am_lk_mem s1) g1 (Nat.eq_of_beq_eq_true g2) g3 h hk
    · exact h.elim
  | 7, x, y, nx, c9, tg, lc, hch, h => by
    obtain ⟨hd, hnx, hs⟩ := am_chk_inv hch
    have hnx : nx = pc + 1 := hnx
    subst hnx
    obtain ⟨i, s8, rfl, h⟩ := am_un_inv h
    obtain ⟨q, s9, rfl, h⟩ := am_rf_inv h
    obtain ⟨hg, h⟩ := am_gd_inv h
    obtain ⟨g1, g2⟩ := am_and hg
    exact am_m7 hC (v := 0) g1 (Nat.eq_of_beq_eq_true g2) h.1 hd h.2 hk
  | 9, x, y, nx, c9, tg, lc, hch, h => by
    obtain ⟨hd, hnx, hs⟩ := am_chk_inv hch
    have hnx : nx = pc + 1 := hnx
    subst hnx
    obtain ⟨i, s8, rfl, h⟩ := am_un_inv h
    obtain ⟨q, s9, rfl, h⟩ := am_rf_inv h
    obtain ⟨hg, h⟩ := am_gd_inv h
    obtain ⟨g1, g2⟩ := am_and hg
    exact am_m9 hC (v := 0) g1 (Nat.eq_of_beq_eq_true g2) h.1 hd h.2 hk
  | 8, x, y, nx, c9, tg, lc, hch, h => by
    obtain ⟨hd, hnx, hs⟩ := am_chk_inv hch
    have hnx : nx = pc + 1 := hnx
    subst hnx
    obtain ⟨v, s7, rfl, h⟩ := am_un_inv h
    obtain ⟨i, s8, rfl, h⟩ := am_un_inv h
    obtain ⟨q, s9, rfl, h⟩ := am_rf_inv h
    obtain ⟨hg, h⟩ := am_gd_inv h
    obtain ⟨g1, g2⟩ := am_and hg
    exact am_m8 hC g1 (Nat.eq_of_beq_eq_true g2) h.1 hd (h.2 _ rfl) hk
  | 10, x, y, nx, c9, tg, lc, hch, h => by
    obtain ⟨hd, hnx, hs⟩ := am_chk_inv hch
    have hnx : nx = pc + 1 := hnx
    subst hnx
    obtain ⟨v, s7, rfl, h⟩ := am_un_inv h
    obtain ⟨i, s8, rfl, h⟩ := am_un_inv h
    obtain ⟨q, s9, rfl, h⟩ := am_rf_inv h
    obtain ⟨hg, h⟩ := am_gd_inv h
    obtain ⟨g1, g2⟩ := am_and hg
    exact am_m10 hC g1 (Nat.eq_of_beq_eq_true g2) h.1 h.2.1 hd (h.2.2 _ rfl) hk
  | 11, x, y, nx, c9, tg, lc, hch, h => by
    obtain ⟨hd, hnx, hs⟩ := am_chk_inv hch
    have hnx : nx = pc + 1 := hnx
    subst hnx
    obtain ⟨i, s8, rfl, h⟩ := am_un_inv h
    obtain ⟨q, s9, rfl, h⟩ := am_rf_inv h
    obtain ⟨hg, h⟩ := am_gd_inv h
    obtain ⟨g1, g2⟩ := am_and hg
    obtain ⟨hin, hnz, h⟩ := h
    obtain ⟨w, hw⟩ : ∃ w, τ q i.toNatClampNeg = w + 1 := ⟨τ q i.toNatClampNeg - 1, by omega⟩
    rcases Bool.or_eq_true _ _ ▸ g2 with g2 | g2
    · exact am_m11s hC (v := 0) g1 (Nat.eq_of_beq_eq_true g2) hin hw hd (h w hw) hk
    · exact am_m11r hC (v := 0) g1 (Nat.eq_of_beq_eq_true g2) hin hw hd (h w hw) hk
  | 12, x, y, nx, c9, tg, lc, hch, h => by
    obtain ⟨hd, hnx, hs⟩ := am_chk_inv hch
    have hnx : nx = pc + 1 := hnx
    subst hnx
    obtain ⟨w, s7, rfl, h⟩ := am_rf_inv h
    obtain ⟨i, s8, rfl, h⟩ := am_un_inv h
    obtain ⟨q, s9, rfl, h⟩ := am_rf_inv h
    obtain ⟨hg, h⟩ := am_gd_inv h
    obtain ⟨hg, g4⟩ := am_and hg
    obtain ⟨hg, g3⟩ := am_and hg
    obtain ⟨g1, g2⟩ := am_and hg
    exact am_m12 hC (v := 0) g1 (Nat.eq_of_beq_eq_true g3) h.1 g2 (Nat.eq_of_beq_eq_true g4) hd h.2 hk
  | 13, x, y, nx, c9, tg, lc, hch, h => by
    obtain ⟨hd, hnx, hs⟩ := am_chk_inv hch
    have hnx : nx = pc + 1 := hnx
    subst hnx
    obtain ⟨q, s9, rfl, h⟩ := am_rf_inv h
    obtain ⟨hg, h⟩ := am_gd_inv h
    obtain ⟨hg, g3⟩ := am_and hg
    obtain ⟨g1, g2⟩ := am_and hg
    have g2 := Nat.le_of_ble_eq_true g2
    have g3 := Nat.le_of_ble_eq_true g3
    rcases (show am_knd q = 10 ∨ am_knd q = 11 ∨ am_knd q = 12 ∨ am_knd q = 13 by omega) with e | e | e | e
    · exact am_m13i hC g1 e hd h hk
    · exact am_m13z hC g1 e hd h hk
    · exact am_m13s hC g1 e hd h hk
    · exact am_m13r hC g1 e hd h hk
  | 14, x, y, nx, c9, tg, lc, hch, h => by
    obtain ⟨hd, hnx, hs⟩ := am_chk_inv hch
    have hnx : nx = pc + 3 := hnx
    subst hnx
    have hs : (am_lk (.classLink own (tg.getD 0 0) (am_R x)) (tg.getD 1 0) && am_lk (.instantiable (am_R x) (am_N x)) (tg.getD 2 0) && am_lk (.initialized (am_R x)) (tg.getD 3 0) && Nat.blt x 9) = true := hs
    obtain ⟨hs, s4⟩ := am_and hs
    obtain ⟨hs, s3⟩ := am_and hs
    obtain ⟨s1, s2⟩ := am_and hs
    obtain ⟨hg, h⟩ := am_gd_inv h
    obtain ⟨hg, g5⟩ := am_and hg
    obtain ⟨hg, g4⟩ := am_and hg
    obtain ⟨hg, g3⟩ := am_and hg
    obtain ⟨g1, g2⟩ := am_and hg
    exact am_m14 hC (Nat.blt_eq.mp s4) (am_lk_mem s1) (am_lk_mem s2) (am_lk_mem s3) (Nat.eq_of_beq_eq_true g1) (Nat.eq_of_beq_eq_true g2) (Nat.blt_eq.mp g3) g4 g5 hd (h _ rfl) hk
  | 15, x, y, nx, c9, tg, lc, hch, h => by
    obtain ⟨hd, hnx, hs⟩ := am_chk_inv hch
    have hnx : nx = pc + 2 := hnx
    subst hnx
    obtain ⟨v, s8, rfl, h⟩ := am_un_inv h
    obtain ⟨hg, h⟩ := am_gd_inv h
    obtain ⟨hg, g4⟩ := am_and hg
    obtain ⟨hg, g3⟩ := am_and hg
    obtain ⟨g1, g2⟩ := am_and hg
    exact am_m15 hC (Nat.eq_of_beq_eq_true g1) h.1 am_f1 (Nat.blt_eq.mp g2) g3 g4 hd (h.2 _ rfl) hk
  | 16, x, y, nx, c9, tg, lc, hch, h => by
    obtain ⟨hd, hnx, hs⟩ := am_chk_inv hch
    have hnx : nx = pc + 2 := hnx
    subst hnx
    obtain ⟨v, s8, rfl, h⟩ := am_un_inv h
    obtain ⟨hg, h⟩ := am_gd_inv h
    obtain ⟨hg, g4⟩ := am_and hg
    obtain ⟨hg, g3⟩ := am_and hg
    obtain ⟨g1, g2⟩ := am_and hg
    exact am_m16 hC (Nat.eq_of_beq_eq_true g1) h.1 am_f2 (Nat.blt_eq.mp g2) g3 g4 hd (h.2 _ rfl) hk
  | 17, x, y, nx, c9, tg, lc, hch, h => by
    obtain ⟨hd, hnx, hs⟩ := am_chk_inv hch
    have hnx : nx = pc + 3 := hnx
    subst hnx
    have hs : am_lk (.classLink own (tg.getD 0 0) "CanalEnd$Sheet") (tg.getD 1 0) = true := hs
    obtain ⟨v, s8, rfl, h⟩ := am_un_inv h
    obtain ⟨hg, h⟩ := am_gd_inv h
    obtain ⟨hg, g4⟩ := am_and hg
    obtain ⟨hg, g3⟩ := am_and hg
    obtain ⟨g1, g2⟩ := am_and hg
    exact am_m17 hC (Nat.eq_of_beq_eq_true g1) h.1 (am_lk_mem hs) am_f3 (Nat.blt_eq.mp g2) g3 g4 hd (h.2 _ rfl) hk
  | 18, x, y, nx, c9, tg, lc, hch, h => by
    obtain ⟨hd, hnx, hs⟩ := am_chk_inv hch
    have hnx : nx = pc + 4 := hnx
    subst hnx
    have hs : (am_lk (.classLink own (tg.getD 0 0) "[[I") (tg.getD 1 0) && Nat.ble y 10000) = true := hs
    obtain ⟨s1, s2⟩ := am_and hs
    obtain ⟨w, s7, rfl, h⟩ := am_un_inv h
    obtain ⟨v, s8, rfl, h⟩ := am_un_inv h
    obtain ⟨hg, h⟩ := am_gd_inv h
    obtain ⟨hg, g5⟩ := am_and hg
    obtain ⟨hg, g4⟩ := am_and hg
    obtain ⟨hg, g3⟩ := am_and hg
    obtain ⟨g1, g2⟩ := am_and hg
    exact am_m18 hC (Nat.eq_of_beq_eq_true g1) g2 (Nat.le_of_ble_eq_true s2) h.1 h.2.1 (am_lk_mem s1) am_f4 am_f1 (Nat.le_of_ble_eq_true g3) g4 g5 hd (h.2.2 _ rfl) hk
  | 19, x, y, nx, c9, tg, lc, hch, h => by
    obtain ⟨hd, hnx, hs⟩ := am_chk_inv hch
    have hnx : nx = pc + 3 := hnx
    subst hnx
    have hs : (am_lk (.methodLink own (tg.getD 0 0) (am_y x)) (tg.getD 1 0) && Nat.beq y (am_np x + 1) && Nat.beq (am_kd x) 0) = true := hs
    obtain ⟨hs, s3⟩ := am_and hs
    obtain ⟨s1, s2⟩ := am_and hs
    have s2 := Nat.eq_of_beq_eq_true s2
    obtain ⟨av, s9, rfl, hlen, h⟩ := am_takeK_inv _ _ _ _ h
    rw [List.append_nil] at h
    split at h
    · rename_i q tl
      obtain ⟨hg, h⟩ := am_gd_inv h
      obtain ⟨hg, g3⟩ := am_and hg
      obtain ⟨g1, g2⟩ := am_and hg
      exact am_c0 hC (hΓ x) hRf hRl (am_lk_mem s1) (Nat.eq_of_beq_eq_true s3) (by simp at hlen; omega) g1 (Nat.eq_of_beq_eq_true g2) g3 (Nat.le_refl n) (fun h9 => h9) (Or.inl rfl) hd h hk
    · exact h.elim
  | 20, x, y, nx, c9, tg, lc, hch, h => by
    obtain ⟨hd, hnx, hs⟩ := am_chk_inv hch
    have hnx : nx = pc + 3 := hnx
    subst hnx
    have hs : (am_lk (.methodLink own (tg.getD 0 0) (am_y x)) (tg.getD 1 0) && Nat.beq y (am_np x) && Nat.beq (am_kd x) 1) = true := hs
    obtain ⟨hs, s3⟩ := am_and hs
    obtain ⟨s1, s2⟩ := am_and hs
    have s2 := Nat.eq_of_beq_eq_true s2
    obtain ⟨av, s9, rfl, hlen, h⟩ := am_takeK_inv _ _ _ _ h
    rw [List.append_nil] at h
    obtain ⟨g3, h⟩ := am_gd_inv h
    exact am_c1 hC (q := 0) (hΓ x) hRf hRl (am_lk_mem s1) (Nat.eq_of_beq_eq_true s3) (by omega) g3 (Nat.le_refl n) (fun h9 => h9) (Or.inl rfl) hd h hk
  | 21, x, y, nx, c9, tg, lc, hch, h => by
    obtain ⟨hd, hnx, hs⟩ := am_chk_inv hch
    have hnx : nx = pc + 3 := hnx
    subst hnx
    have hs : (am_lk (.methodLink own (tg.getD 0 0) (am_y x)) (tg.getD 1 0) && Nat.beq y (am_np x + 1) && Nat.beq (am_kd x) 2) = true := hs
    obtain ⟨hs, s3⟩ := am_and hs
    obtain ⟨s1, s2⟩ := am_and hs
    have s2 := Nat.eq_of_beq_eq_true s2
    obtain ⟨av, s9, rfl, hlen, h⟩ := am_takeK_inv _ _ _ _ h
    rw [List.append_nil] at h
    split at h
    · rename_i q tl
      obtain ⟨hg, h⟩ := am_gd_inv h
      obtain ⟨hg, g5⟩ := am_and hg
      obtain ⟨hg, g4⟩ := am_and hg
      obtain ⟨hg, g3⟩ := am_and hg
      obtain ⟨g1, g2⟩ := am_and hg
      exact am_c2 hC (hΓ x) hRf hRl (am_lk_mem s1) (Nat.eq_of_beq_eq_true s3) (by simp at hlen; omega) g2 (Nat.le_add_right n _) (fun _ => Nat.le_of_ble_eq_true g3) (Or.inr ⟨g4, g5⟩) hd h hk
    · exact h.elim
  | 22, x, y, nx, c9, tg, lc, hch, h => by
    obtain ⟨hd, hnx, hs⟩ := am_chk_inv hch
    have hnx : nx = pc + 3 := hnx
    subst hnx
    have hs : (am_lk (.methodLink own (tg.getD 0 0) (am_y x)) (tg.getD 1 0) && Nat.beq y (am_np x + 1) && Nat.beq (am_kd x) 0) = true := hs
    obtain ⟨hs, s3⟩ := am_and hs
    obtain ⟨s1, s2⟩ := am_and hs
    have s2 := Nat.eq_of_beq_eq_true s2
    obtain ⟨av, s9, rfl, hlen, h⟩ := am_takeK_inv _ _ _ _ h
    rw [List.append_nil] at h
    split at h
    · rename_i q tl
      obtain ⟨hg, nf9, hn1, hn2, h⟩ := am_gd_inv h
      obtain ⟨hg, g5⟩ := am_and hg
      obtain ⟨hg, g4⟩ := am_and hg
      obtain ⟨hg, g3⟩ := am_and hg
      obtain ⟨g1, g2⟩ := am_and hg
      exact am_c0 hC (hΓ x) hRf hRl (am_lk_mem s1) (Nat.eq_of_beq_eq_true s3) (by simp at hlen; omega) g1 (Nat.eq_of_beq_eq_true g2) g3 hn1 (fun _ => hn2) (Or.inr ⟨g4, g5⟩) hd h hk
    · exact h.elim
  | 23, x, y, nx, c9, tg, lc, hch, h => by
    obtain ⟨hd, hnx, hs⟩ := am_chk_inv hch
    have hnx : nx = pc + 3 := hnx
    subst hnx
    have hs : am_lk (.methodLink own (tg.getD 0 0) objectInit) (tg.getD 1 0) = true := hs
    obtain ⟨q, s9, rfl, h⟩ := am_rf_inv h
    obtain ⟨hg, h⟩ := am_gd_inv h
    exact am_m23 hC (am_lk_mem hs) am_f5 am_f6 hg hd h hk
  | 24, x, y, nx, c9, tg, lc, hch, h => by
    obtain ⟨hd, hnx, hs⟩ := am_chk_inv hch
    have hnx : nx = pc + 3 := hnx
    subst hnx
    have hs : am_lk (.methodLink own (tg.getD 0 0) arraycopyName) (tg.getD 1 0) = true := hs
    have h : (match (generalizing := false) st with
      | .int ln :: .int dp :: .ref q1 :: .int sp :: .ref q0 :: s => am_gd (am_al P n q0 && am_al P n q1 && Nat.beq (am_knd q0) x && Nat.beq (am_knd q1) x && (Nat.beq x 10 || Nat.beq x 11) && Nat.ble s.length 4) (¬ sp < 0 ∧ ¬ dp < 0 ∧ ¬ ln < 0 ∧ sp.toNatClampNeg + ln.toNatClampNeg ≤ am_len q0 ∧ dp.toNatClampNeg + ln.toNatClampNeg ≤ am_len q1 ∧ (x = 11 → ∀ i, i < ln.toNatClampNeg → σ q0 (sp.toNatClampNeg + i) = 0 ∨ σ q0 (sp.toNatClampNeg + i) = 1) ∧ ∀ σ' : am_Sg, σ' = am_cp σ q0 q1 sp.toNatClampNeg dp.toNatClampNeg ln.toNatClampNeg → k (pc + 3) L s n σ' τ)
      | _ => False) := h
    split at h
    · obtain ⟨hg, h⟩ := am_gd_inv h
      obtain ⟨hg, g6⟩ := am_and hg
      obtain ⟨hg, g5⟩ := am_and hg
      obtain ⟨hg, g4⟩ := am_and hg
      obtain ⟨hg, g3⟩ := am_and hg
      obtain ⟨g1, g2⟩ := am_and hg
      obtain ⟨a1, a2, a3, a4, a5, a6, h⟩ := h
      refine am_m24 hC ?_ (am_lk_mem hs) am_f7 am_f8 am_f9 g1 (Nat.eq_of_beq_eq_true g3) g2 (Nat.eq_of_beq_eq_true g4) g6 a1 a2 a3 a4 a5 a6 hd (h _ rfl) hk
      rcases Bool.or_eq_true _ _ ▸ g5 with g5 | g5
      · exact Or.inl (Nat.eq_of_beq_eq_true g5)
      · exact Or.inr (Nat.eq_of_beq_eq_true g5)
    · exact h.elim
  | 25, x, y, nx, c9, tg, lc, hch, h => by
    obtain ⟨hd, hnx, hs⟩ := am_chk_inv hch
    have hnx : nx = pc + 1 := hnx
    subst hnx
    have hs : rt = some .int := of_decide_eq_true hs
    have h : (match (generalizing := false) st with
      | [.int v] => r (some (.int v)) n σ τ
      | _ => False) := h
    split at h
    · exact hret.1 hs _ _ _ _ _ _ hd h
    · exact h.elim
  | 26, x, y, nx, c9, tg, lc, hch, h => by
    obtain ⟨hd, hnx, hs⟩ := am_chk_inv hch
    have hnx : nx = pc + 1 := hnx
    subst hnx
    have hs : rt = some .boolean := of_decide_eq_true hs
    have h : (match (generalizing := false) st with
      | [.int v] => (v = 0 ∨ v = 1) ∧ r (some (.int v)) n σ τ
      | _ => False) := h
    split at h
    · exact hret.2.1 hs _ _ _ _ _ _ hd h.1 h.2
    · exact h.elim
  | 27, x, y, nx, c9, tg, lc, hch, h => by
    obtain ⟨hd, hnx, hs⟩ := am_chk_inv hch
    have hnx : nx = pc + 1 := hnx
    subst hnx
    have hs : rt = some .long := of_decide_eq_true hs
    have h : (match (generalizing := false) st with
      | [.long v] => r (some (.long v)) n σ τ
      | _ => False) := h
    split at h
    · exact hret.2.2.1 hs _ _ _ _ _ _ hd h
    · exact h.elim
  | 28, x, y, nx, c9, tg, lc, hch, h => by
    obtain ⟨hd, hnx, hs⟩ := am_chk_inv hch
    have hnx : nx = pc + 1 := hnx
    subst hnx
    have hs : rt = none := of_decide_eq_true hs
    have h : (match (generalizing := false) st with
      | [] => r none n σ τ
      | _ => False) := h
    split at h
    · exact hret.2.2.2 hs _ _ _ _ _ hd h
    · exact h.elim
  | 29, x, y, nx, c9, tg, lc, hch, h => by
    obtain ⟨hd, hnx, hs⟩ := am_chk_inv hch
    have hnx : nx = pc + 1 := hnx
    subst hnx
    obtain ⟨i, s8, rfl, h⟩ := am_un_inv h
    obtain ⟨q, s9, rfl, h⟩ := am_rf_inv h
    obtain ⟨hg, h7⟩ := am_gd_inv h
    obtain ⟨g1, g2⟩ := am_and hg
    have g2 := Nat.eq_of_beq_eq_true g2
    subst g2
    exact am_m29 hC g1 h7.1 hd h7.2 hk
  | 30, x, y, nx, c9, tg, lc, hch, h => by
    obtain ⟨hd, hnx, hs⟩ := am_chk_inv hch
    have hnx : nx = pc + 1 := hnx
    subst hnx
    obtain ⟨q, s9, rfl, h⟩ := am_rf_inv h
    obtain ⟨hg, h7⟩ := am_gd_inv h
    obtain ⟨g1, g2⟩ := am_and hg
    have g2 := Nat.eq_of_beq_eq_true g2
    subst g2
    exact am_m30 hC g1 hd h7 hk
  | 31, x, y, nx, c9, tg, lc, hch, h => by
    obtain ⟨hd, hnx, hs⟩ := am_chk_inv hch
    have hnx : nx = pc + 3 := hnx
    subst hnx
    have hs : (am_lk (.methodLinkNest own (tg.getD 0 0) (am_y x) "CanalEnd") (tg.getD 1 0) && Nat.beq y (am_np x) && Nat.beq (am_kd x) 1) = true := hs
    obtain ⟨hs, s3⟩ := am_and hs
    obtain ⟨s1, s2⟩ := am_and hs
    have s2 := Nat.eq_of_beq_eq_true s2
    obtain ⟨av, s9, rfl, hlen, h⟩ := am_takeK_inv _ _ _ _ h
    rw [List.append_nil] at h
    obtain ⟨g3, h⟩ := am_gd_inv h
    exact am_c1n hC (q := 0) (hΓ x) hRf hRl (am_lk_mem s1) (Nat.eq_of_beq_eq_true s3) (by omega) g3 (Nat.le_refl n) (fun h9 => h9) (Or.inl rfl) hd h hk
  | 32, x, y, nx, c9, tg, lc, hch, h => by
    obtain ⟨hd, hnx, hs⟩ := am_chk_inv hch
    have hnx : nx = pc + 3 := hnx
    subst hnx
    have hs : (am_lk (.methodLinkNest own (tg.getD 0 0) (am_y x) "CanalEnd") (tg.getD 1 0) && Nat.beq y (am_np x + 1) && Nat.beq (am_kd x) 2) = true := hs
    obtain ⟨hs, s3⟩ := am_and hs
    obtain ⟨s1, s2⟩ := am_and hs
    have s2 := Nat.eq_of_beq_eq_true s2
    obtain ⟨av, s9, rfl, hlen, h⟩ := am_takeK_inv _ _ _ _ h
    rw [List.append_nil] at h
    split at h
    · rename_i q tl
      obtain ⟨hg, h⟩ := am_gd_inv h
      obtain ⟨hg, g5⟩ := am_and hg
      obtain ⟨hg, g4⟩ := am_and hg
      obtain ⟨hg, g3⟩ := am_and hg
      obtain ⟨g1, g2⟩ := am_and hg
      exact am_c2n hC (hΓ x) hRf hRl (am_lk_mem s1) (Nat.eq_of_beq_eq_true s3) (by simp at hlen; omega) g2 (Nat.le_add_right n _) (fun _ => Nat.le_of_ble_eq_true g3) (Or.inr ⟨g4, g5⟩) hd h hk
    · exact h.elim
  | op + 33, x, y, nx, c9, tg, lc, hch, h => False.elim h
theorem am_st (hC : am_Cx p R s m args c cc own D z A H0 nL n0 nf P X ρ0) {Γ : Nat → am_C} {d kd : Nat} {rt : Option FieldType} {r : am_Rt} (hΓ : ∀ x, am_Met d x (Γ x)) (hRf : d + 1 ≤ R.frames) (hRl : 64 * (d + 1) ≤ R.locals) (hini : kd = 2 → meth.name = "<init>") (hret : am_Rh rt cc r (am_Wb p l e R s m args below meth c Q D z A H0 nL n0 nf X ρ0)) (hk : ∀ pc L st n σ τ, k pc L st n σ τ → am_Wb p l e R s m args below meth c Q D z A H0 nL n0 nf X ρ0 pc L st n σ τ) : ∀ (op x y nx : Nat) (c9 : Int32) (tg : List Nat) (lc : Int64), am_chk own rt kd cc pc (nx, op, x, y, c9, tg, lc) = true → am_step X Γ P nf (nx, op, x, y, c9, tg, lc) L st n σ τ k r → am_Wb p l e R s m args below meth c Q D z A H0 nL n0 nf X ρ0 pc L st n σ τ
  | 0, x, y, nx, c9, tg, lc, hch, h => by
    obtain ⟨hd, hnx, hs⟩ := am_chk_inv hch
    have hnx : nx = pc + 1 := hnx
    subst hnx
    exact am_s0 hC hd (of_decide_eq_true hs) h hk
  | 1, x, y, nx, c9, tg, lc, hch, h => by
    obtain ⟨hd, hnx, hs⟩ := am_chk_inv hch
    have hnx : nx = pc + 2 := hnx
    subst hnx
    exact am_s1 hC hd (of_decide_eq_true hs) h hk
  | 2, x, y, nx, c9, tg, lc, hch, h => by
    obtain ⟨hd, hnx, hs⟩ := am_chk_inv hch
    have hnx : nx = pc + 3 := hnx
    subst hnx
    exact am_s2 hC hd (of_decide_eq_true hs) h hk
  | 3, x, y, nx, c9, tg, lc, hch, h => by
    obtain ⟨hd, hnx, hs⟩ := am_chk_inv hch
    have hnx : nx = pc + 3 := hnx
    subst hnx
    exact am_s3 hC hd (am_lk_mem hs) h hk
  | 4, x, y, nx, c9, tg, lc, hch, h => by
    obtain ⟨hd, hnx, hs⟩ := am_chk_inv hch
    have hnx : nx = pc + 1 := hnx
    subst hnx
    exact am_s4 hC hd h hk
  | 5, x, y, nx, c9, tg, lc, hch, h => by
    obtain ⟨hd, hnx, hs⟩ := am_chk_inv hch
    have hnx : nx = pc + 2 := hnx
    subst hnx
    exact am_s5 hC hd h hk
  | 6, x, y, nx, c9, tg, lc, hch, h => by
    obtain ⟨hd, hnx, hs⟩ := am_chk_inv hch
    have hnx : nx = pc + 1 := hnx
    subst hnx
    exact am_s6 hC (am_fin4 hs) hd h hk
  | 7, x, y, nx, c9, tg, lc, hch, h => by
    obtain ⟨hd, hnx, hs⟩ := am_chk_inv hch
    have hnx : nx = pc + 2 := hnx
    subst hnx
    exact am_s7 hC hd h hk
  | 8, x, y, nx, c9, tg, lc, hch, h => by
    obtain ⟨hd, hnx, hs⟩ := am_chk_inv hch
    have hnx : nx = pc + 1 := hnx
    subst hnx
    exact am_s8 hC (am_fin4 hs) hd h hk
  | 9, x, y, nx, c9, tg, lc, hch, h => by
    obtain ⟨hd, hnx, hs⟩ := am_chk_inv hch
    have hnx : nx = pc + 2 := hnx
    subst hnx
    exact am_s9 hC hd h hk
  | 10, x, y, nx, c9, tg, lc, hch, h => by
    obtain ⟨hd, hnx, hs⟩ := am_chk_inv hch
    have hnx : nx = pc + 1 := hnx
    subst hnx
    exact am_s10 hC (am_fin4 hs) hd h hk
  | 11, x, y, nx, c9, tg, lc, hch, h => by
    obtain ⟨hd, hnx, hs⟩ := am_chk_inv hch
    have hnx : nx = pc + 2 := hnx
    subst hnx
    exact am_s11 hC hd h hk
  | 12, x, y, nx, c9, tg, lc, hch, h => by
    obtain ⟨hd, hnx, hs⟩ := am_chk_inv hch
    have hnx : nx = pc + 1 := hnx
    subst hnx
    exact am_s12 hC (am_fin4 hs) hd h hk
  | 13, x, y, nx, c9, tg, lc, hch, h => by
    obtain ⟨hd, hnx, hs⟩ := am_chk_inv hch
    have hnx : nx = pc + 2 := hnx
    subst hnx
    exact am_s13 hC hd h hk
  | 14, x, y, nx, c9, tg, lc, hch, h => by
    obtain ⟨hd, hnx, hs⟩ := am_chk_inv hch
    have hnx : nx = pc + 1 := hnx
    subst hnx
    exact am_s14 hC (am_fin4 hs) hd h hk
  | 15, x, y, nx, c9, tg, lc, hch, h => by
    obtain ⟨hd, hnx, hs⟩ := am_chk_inv hch
    have hnx : nx = pc + 2 := hnx
    subst hnx
    dsimp only [am_step] at h
    split at h
    · exact am_s15 hC hd h hk
    · exact h.elim
  | 16, x, y, nx, c9, tg, lc, hch, h => by
    obtain ⟨hd, hnx, hs⟩ := am_chk_inv hch
    have hnx : nx = pc + 1 := hnx
    subst hnx
    dsimp only [am_step] at h
    split at h
    · exact am_s16 hC (am_fin4 hs) hd h hk
    · exact h.elim
  | 17, x, y, nx, c9, tg, lc, hch, h => by
    obtain ⟨hd, hnx, hs⟩ := am_chk_inv hch
    have hnx : nx = pc + 3 := hnx
    subst hnx
    exact am_s17 hC (of_decide_eq_true hs) hd h hk
  | 18, x, y, nx, c9, tg, lc, hch, h => by
    obtain ⟨hd, hnx, hs⟩ := am_chk_inv hch
    have hnx : nx = pc + 1 := hnx
    subst hnx
    dsimp only [am_step] at h
    split at h
    · exact am_s18i (u := 0) (q := 0) (w := 0) hC hd h hk
    · exact am_s18r (u := 0) (v := 0) (q := 0) hC hd h hk
    · exact h.elim
  | 19, x, y, nx, c9, tg, lc, hch, h => by
    obtain ⟨hd, hnx, hs⟩ := am_chk_inv hch
    have hnx : nx = pc + 1 := hnx
    subst hnx
    dsimp only [am_step] at h
    split at h
    · exact am_s19i (u := 0) (q := 0) (w := 0) hC hd h hk
    · exact am_s19r (u := 0) (v := 0) (q := 0) hC hd h hk
    · exact h.elim
  | 20, x, y, nx, c9, tg, lc, hch, h => by
    obtain ⟨hd, hnx, hs⟩ := am_chk_inv hch
    have hnx : nx = pc + 1 := hnx
    subst hnx
    dsimp only [am_step] at h
    split at h
    · exact am_s20 (v := 0) (w := 0) hC hd h hk
    · exact h.elim
  | 21, x, y, nx, c9, tg, lc, hch, h => by
    obtain ⟨hd, hnx, hs⟩ := am_chk_inv hch
    have hnx : nx = pc + 1 := hnx
    subst hnx
    exact am_s21 hC hd h hk
  | 22, x, y, nx, c9, tg, lc, hch, h => by
    obtain ⟨hd, hnx, hs⟩ := am_chk_inv hch
    have hnx : nx = pc + 1 := hnx
    subst hnx
    exact am_s22 hC hd h hk
  | 23, x, y, nx, c9, tg, lc, hch, h => by
    obtain ⟨hd, hnx, hs⟩ := am_chk_inv hch
    have hnx : nx = pc + 1 := hnx
    subst hnx
    exact am_s23 hC hd h hk
  | 24, x, y, nx, c9, tg, lc, hch, h => by
    obtain ⟨hd, hnx, hs⟩ := am_chk_inv hch
    have hnx : nx = pc + 1 := hnx
    subst hnx
    exact am_s24 hC hd h hk
  | 25, x, y, nx, c9, tg, lc, hch, h => by
    obtain ⟨hd, hnx, hs⟩ := am_chk_inv hch
    have hnx : nx = pc + 1 := hnx
    subst hnx
    exact am_s25 hC hd h hk
  | 26, x, y, nx, c9, tg, lc, hch, h => by
    obtain ⟨hd, hnx, hs⟩ := am_chk_inv hch
    have hnx : nx = pc + 1 := hnx
    subst hnx
    exact am_s26 hC hd h hk
  | 27, x, y, nx, c9, tg, lc, hch, h => by
    obtain ⟨hd, hnx, hs⟩ := am_chk_inv hch
    have hnx : nx = pc + 1 := hnx
    subst hnx
    exact am_s27 hC hd h hk
  | 28, x, y, nx, c9, tg, lc, hch, h => by
    obtain ⟨hd, hnx, hs⟩ := am_chk_inv hch
    have hnx : nx = pc + 1 := hnx
    subst hnx
    exact am_s28 hC hd h hk
  | 29, x, y, nx, c9, tg, lc, hch, h => by
    obtain ⟨hd, hnx, hs⟩ := am_chk_inv hch
    have hnx : nx = pc + 1 := hnx
    subst hnx
    exact am_s29 hC hd h hk
  | 30, x, y, nx, c9, tg, lc, hch, h => by
    obtain ⟨hd, hnx, hs⟩ := am_chk_inv hch
    have hnx : nx = pc + 1 := hnx
    subst hnx
    exact am_s30 hC hd h hk
  | 31, x, y, nx, c9, tg, lc, hch, h => by
    obtain ⟨hd, hnx, hs⟩ := am_chk_inv hch
    have hnx : nx = pc + 1 := hnx
    subst hnx
    exact am_s31 hC hd h hk
  | 32, x, y, nx, c9, tg, lc, hch, h => by
    obtain ⟨hd, hnx, hs⟩ := am_chk_inv hch
    have hnx : nx = pc + 1 := hnx
    subst hnx
    exact am_s32 hC hd h hk
  | 33, x, y, nx, c9, tg, lc, hch, h => by
    obtain ⟨hd, hnx, hs⟩ := am_chk_inv hch
    have hnx : nx = pc + 1 := hnx
    subst hnx
    exact am_s33 hC hd h hk
  | 34, x, y, nx, c9, tg, lc, hch, h => by
    obtain ⟨hd, hnx, hs⟩ := am_chk_inv hch
    have hnx : nx = pc + 1 := hnx
    subst hnx
    exact am_s34 hC hd h hk
  | 36, x, y, nx, c9, tg, lc, hch, h => by
    obtain ⟨hd, hnx, hs⟩ := am_chk_inv hch
    have hnx : nx = pc + 1 := hnx
    subst hnx
    exact am_s36 hC hd h hk
  | 37, x, y, nx, c9, tg, lc, hch, h => by
    obtain ⟨hd, hnx, hs⟩ := am_chk_inv hch
    have hnx : nx = pc + 1 := hnx
    subst hnx
    exact am_s37 hC hd h hk
  | 38, x, y, nx, c9, tg, lc, hch, h => by
    obtain ⟨hd, hnx, hs⟩ := am_chk_inv hch
    have hnx : nx = pc + 1 := hnx
    subst hnx
    exact am_s38 hC hd h hk
  | 39, x, y, nx, c9, tg, lc, hch, h => by
    obtain ⟨hd, hnx, hs⟩ := am_chk_inv hch
    have hnx : nx = pc + 1 := hnx
    subst hnx
    exact am_s39 hC hd h hk
  | 40, x, y, nx, c9, tg, lc, hch, h => by
    obtain ⟨hd, hnx, hs⟩ := am_chk_inv hch
    have hnx : nx = pc + 1 := hnx
    subst hnx
    exact am_s40 hC hd h hk
  | 41, x, y, nx, c9, tg, lc, hch, h => by
    obtain ⟨hd, hnx, hs⟩ := am_chk_inv hch
    have hnx : nx = pc + 1 := hnx
    subst hnx
    exact am_s41 hC hd h hk
  | 35, x, y, nx, c9, tg, lc, hch, h => by
    obtain ⟨hd, hnx, hs⟩ := am_chk_inv hch
    have hnx : nx = pc + 1 := hnx
    subst hnx
    dsimp only [am_step] at h
    split at h
    · exact am_s35 hC hd h hk
    · exact h.elim
  | 42, x, y, nx, c9, tg, lc, hch, h => by
    obtain ⟨hd, hnx, hs⟩ := am_chk_inv hch
    have hnx : nx = pc + 1 := hnx
    subst hnx
    have hs : (Nat.blt x 2 && decide (Int64.ofNat x = lc)) = true := hs
    obtain ⟨s1, s2⟩ := am_and hs
    exact am_s42 hC hd (by rw [am_fin2 s1]; exact of_decide_eq_true s2) h hk
  | 43, x, y, nx, c9, tg, lc, hch, h => by
    obtain ⟨hd, hnx, hs⟩ := am_chk_inv hch
    have hnx : nx = pc + 3 := hnx
    subst hnx
    exact am_s43 hC hd (am_lk_mem hs) h hk
  | 44, x, y, nx, c9, tg, lc, hch, h => by
    obtain ⟨hd, hnx, hs⟩ := am_chk_inv hch
    have hnx : nx = pc + 3 := hnx
    subst hnx
    exact am_s44 hC hd h hk
  | 45, x, y, nx, c9, tg, lc, hch, h => by
    obtain ⟨hd, hnx, hs⟩ := am_chk_inv hch
    have hnx : nx = pc + 3 := hnx
    subst hnx
    exact am_s45 hC hd h hk
  | 46, x, y, nx, c9, tg, lc, hch, h => by
    obtain ⟨hd, hnx, hs⟩ := am_chk_inv hch
    have hnx : nx = pc + 3 := hnx
    subst hnx
    exact am_s46 hC hd h hk
  | 47, x, y, nx, c9, tg, lc, hch, h => by
    obtain ⟨hd, hnx, hs⟩ := am_chk_inv hch
    have hnx : nx = pc + 3 := hnx
    subst hnx
    exact am_s47 hC hd h hk
  | 48, x, y, nx, c9, tg, lc, hch, h => by
    obtain ⟨hd, hnx, hs⟩ := am_chk_inv hch
    have hnx : nx = pc + 3 := hnx
    subst hnx
    exact am_s48 hC hd h hk
  | 49, x, y, nx, c9, tg, lc, hch, h => by
    obtain ⟨hd, hnx, hs⟩ := am_chk_inv hch
    have hnx : nx = pc + 3 := hnx
    subst hnx
    exact am_s49 hC hd h hk
  | 50, x, y, nx, c9, tg, lc, hch, h => by
    obtain ⟨hd, hnx, hs⟩ := am_chk_inv hch
    have hnx : nx = pc + 3 := hnx
    subst hnx
    exact am_s50 hC hd h hk
  | 51, x, y, nx, c9, tg, lc, hch, h => by
    obtain ⟨hd, hnx, hs⟩ := am_chk_inv hch
    have hnx : nx = pc + 3 := hnx
    subst hnx
    exact am_s51 hC hd h hk
  | 52, x, y, nx, c9, tg, lc, hch, h => by
    obtain ⟨hd, hnx, hs⟩ := am_chk_inv hch
    have hnx : nx = pc + 3 := hnx
    subst hnx
    exact am_s52 hC hd h hk
  | 53, x, y, nx, c9, tg, lc, hch, h => by
    obtain ⟨hd, hnx, hs⟩ := am_chk_inv hch
    have hnx : nx = pc + 3 := hnx
    subst hnx
    exact am_s53 hC hd h hk
  | 54, x, y, nx, c9, tg, lc, hch, h => by
    obtain ⟨hd, hnx, hs⟩ := am_chk_inv hch
    have hnx : nx = pc + 3 := hnx
    subst hnx
    exact am_s54 hC hd h hk
  | 55, x, y, nx, c9, tg, lc, hch, h => by
    obtain ⟨hd, hnx, hs⟩ := am_chk_inv hch
    have hnx : nx = pc + 3 := hnx
    subst hnx
    exact am_s55 hC hd h hk
  | 56, x, y, nx, c9, tg, lc, hch, h => by
    obtain ⟨hd, hnx, hs⟩ := am_chk_inv hch
    have hnx : nx = pc + 3 := hnx
    subst hnx
    exact am_s56 hC hd h hk
  | 57, x, y, nx, c9, tg, lc, hch, h => by
    obtain ⟨hd, hnx, hs⟩ := am_chk_inv hch
    have hnx : nx = pc + 3 := hnx
    subst hnx
    dsimp only [am_step] at h
    split at h
    · exact am_s57r hC hd h hk
    · exact am_s57n (w := 0) hC hd h hk
    · exact h.elim
  | 58, x, y, nx, c9, tg, lc, hch, h => by
    obtain ⟨hd, hnx, hs⟩ := am_chk_inv hch
    have hnx : nx = pc + 3 := hnx
    subst hnx
    dsimp only [am_step] at h
    split at h
    · exact am_s58r hC hd h hk
    · exact am_s58n (w := 0) hC hd h hk
    · exact h.elim
  | 59, x, y, nx, c9, tg, lc, hch, h => by
    obtain ⟨hd, hnx, hs⟩ := am_chk_inv hch
    have hs : (am_seq (tg.getD 0 0) tg && Nat.blt 0 (am_tgs tg).length && tg.all fun a => Nat.blt a 100000) = true := hs
    obtain ⟨hs, s3⟩ := am_and hs
    obtain ⟨s1, s2⟩ := am_and hs
    obtain ⟨v, s9, rfl, h⟩ := am_un_inv h
    have hd : decode cc pc = .ok (.tableswitch ((y : Int) - pc) (tg.getD 0 0 : Nat) ((tg.getD 0 0 : Nat) + ((am_tgs tg).length : Nat) - 1) ((am_tgs tg).map fun (t : Nat) => (t : Int) - (pc : Int)).toArray, nx - pc) := hd
    intro ρ H locs ls h0 h1 hX hW hS hl
    have h2 := Nat.blt_eq.mp s2
    by_cases c1 : v.toInt < (tg.getD 0 0 : Nat) ∨ ((tg.getD 0 0 : Nat) + ((am_tgs tg).length : Nat) - 1 : Int) < v.toInt
    · refine lv_tableOut (tgt := y) hC.1 hC.2.1 hd c1 (by omega) (hk _ _ _ _ _ _ (am_sw_no _ tg s1 h (fun j hj e => ?_)) ρ H locs ls h0 h1 hX hW hS hl)
      have hb : (tg.getD 0 0) + j < 2 ^ 31 := by
        have : tg.getD 0 0 < 100000 := by
          cases tg with
          | nil => simp
          | cons a t => exact Nat.blt_eq.mp (List.all_eq_true.mp s3 a (by simp))
        have hl9 : (am_tgs tg).length < 2 ^ 30 := by
          have g1 := am_tgs_len tg
          rcases am_seq_len _ tg s1 s3 with g | g
          · subst g; simp [am_tgs]
          · omega
        omega
      rw [e, nI_toInt hb] at c1
      omega
    · obtain ⟨j, hj⟩ : ∃ j : Nat, v.toInt = ((tg.getD 0 0 + j : Nat) : Int) := ⟨(v.toInt - (tg.getD 0 0 : Nat)).toNat, by omega⟩
      have hjl : j < (am_tgs tg).length := by omega
      have hv : v = nI (tg.getD 0 0 + j) := by
        have hb : (tg.getD 0 0 + j : Nat) < 2 ^ 31 := by have := Int32.toInt_lt v; omega
        rw [fa_eq', nI_toInt hb]
        exact hj
      have ht : (am_tgs tg)[j]? = some (am_tgs tg)[j] := List.getElem?_eq_getElem hjl
      have hl9 : tg.getD 0 0 + tg.length < 2 ^ 31 := by
        have : tg.getD 0 0 < 100000 := by
          cases tg with
          | nil => simp
          | cons a t => exact Nat.blt_eq.mp (List.all_eq_true.mp s3 a (by simp))
        rcases am_seq_len _ tg s1 s3 with g | g
        · subst g; simp
        · omega
      refine lv_tableIn (tgt := (am_tgs tg)[j]) (off := ((am_tgs tg)[j] : Int) - pc) hC.1 hC.2.1 hd (by omega) (by omega) ?_ (by omega) (hk _ _ _ _ _ _ (am_sw_at _ tg j _ s1 h hl9 hv ht) ρ H locs ls h0 h1 hX hW hS hl)
      have : (v.toInt - (tg.getD 0 0 : Nat)).toNat = j := by omega
      rw [this]
      simp [hjl]
  | 60, x, y, nx, c9, tg, lc, hch, h => by
    obtain ⟨hd, hnx, hs⟩ := am_chk_inv hch
    have hs : (am_inc tg && tg.all fun a => Nat.blt a 100000) = true := hs
    obtain ⟨s1, s2⟩ := am_and hs
    obtain ⟨v, s9, rfl, h⟩ := am_un_inv h
    have hd : decode cc pc = .ok (.lookupswitch ((y : Int) - pc) (am_prs pc tg).toArray, nx - pc) := hd
    obtain ⟨t, h2, h3⟩ := am_off_at (pc := pc) tg s2 h
    intro ρ H locs ls h0 h1 hX hW hS hl
    exact lv_lookup (tgt := t) hC.1 hC.2.1 hd (am_inc_ok tg s1) rfl h2 (hk _ _ _ _ _ _ h3 ρ H locs ls h0 h1 hX hW hS hl)
  | op + 61, x, y, nx, c9, tg, lc, hch, h => am_stM hC hΓ hRf hRl hini hret hk op x y nx c9 tg lc hch h
end AMD
end
section
section AME
variable {p : Program} {l : Launch} {e : Env} {R : Room} {s : State} {m : MethodId} {args : Array Value} {below : List Frame} {meth : Method} {c : Code} {Q : State → Prop} {cc : ByteArray} {own : String} {D : va_G} {z : am_Z} {A : Nat → Prop} {H0 : Heap} {nL n0 nf P : Nat} {X : am_X} {ρ0 : Nat → Nat} 

theorem am_sound (hC : am_Cx p R s m args c cc own D z A H0 nL n0 nf P X ρ0) {T : Nat → Option am_AI} {Γ : Nat → am_C} {d kd : Nat} {rt : Option FieldType} {r : am_Rt} (hT : ∀ pc ai, T pc = some ai → am_chk own rt kd cc pc ai = true) (hΓ : ∀ x, am_Met d x (Γ x)) (hRf : d + 1 ≤ R.frames) (hRl : 64 * (d + 1) ≤ R.locals) (hini : kd = 2 → meth.name = "<init>") (hret : am_Rh rt cc r (am_Wb p l e R s m args below meth c Q D z A H0 nL n0 nf X ρ0)) (stop : Nat → Bool) : ∀ (f pc : Nat) (L : am_L) (st : List Value) (n : Nat) (σ : am_Sg) (τ : am_Tu), am_vc X T Γ P nf stop (am_Wb p l e R s m args below meth c Q D z A H0 nL n0 nf X ρ0) r f pc L st n σ τ → am_Wb p l e R s m args below meth c Q D z A H0 nL n0 nf X ρ0 pc L st n σ τ
  | 0, pc, L, st, n, σ, τ, h => h
  | f + 1, pc, L, st, n, σ, τ, h => by
    unfold am_vc at h
    cases hp : T pc with
    | none => rw [hp] at h; exact False.elim h
    | some ai =>
      rw [hp] at h
      have hch := hT pc ai hp
      obtain ⟨nx, op, x, y, c9, tg, lc⟩ := ai
      refine am_st hC hΓ hRf hRl hini hret (fun pc9 L9 st9 n9 σ9 τ9 h9 => ?_) op x y nx c9 tg lc hch h
      cases hs : stop pc9 with
      | true => rw [hs] at h9; exact h9
      | false => rw [hs] at h9; exact am_sound hC hT hΓ hRf hRl hini hret stop f pc9 L9 st9 n9 σ9 τ9 h9
end AME
def am_ent : Nat → List Value → am_L
  | nL, [] => List.replicate nL none
  | nL, v :: t => match v with
    | .long w => some (.long w) :: none :: am_ent (nL - 2) t
    | v => some v :: am_ent (nL - 1) t
def am_wds : List Value → Nat
  | [] => 0
  | v :: t => v.category + am_wds t
def am_nod : List Value → Bool
  | [] => true
  | .double _ :: _ => false
  | _ :: t => am_nod t
theorem am_lv_args_nth (ρ : Nat → Nat) : ∀ (av : List Value) (nL j i : Nat) (v : Value), am_nod av = true → am_nth (am_ent nL av) i = some v → (j + i, am_cv ρ v) ∈ lv_args j (av.map (am_cv ρ))
  | [], nL, j, i, v, hn, h => by
    exfalso
    revert h
    unfold am_ent
    have : ∀ (m i : Nat), am_nth (List.replicate m none) i = none := by
      intro m
      induction m with
      | zero => intro i; rfl
      | succ m ih =>
        intro i
        cases i with
        | zero => rfl
        | succ i => exact ih i
    rw [this]
    intro h
    cases h
  | w :: t, nL, j, i, v, hn, h => by
    have gen : ∀ (w : Value), w.category = 1 → am_nod t = true → am_nth (some w :: am_ent (nL - 1) t) i = some v → (j + i, am_cv ρ v) ∈ lv_args j ((w :: t).map (am_cv ρ)) := by
      intro w hc hn h
      rw [List.map_cons]
      unfold lv_args
      rw [am_cv_cat, hc]
      cases i with
      | zero =>
        have e : w = v := Option.some.inj h
        subst e
        exact List.mem_cons_self
      | succ i =>
        have := am_lv_args_nth ρ t (nL - 1) (j + 1) i v hn h
        rw [show j + (i + 1) = j + 1 + i by omega]
        exact List.mem_cons_of_mem _ this
    cases w with
    | long w =>
      rw [List.map_cons]
      show (j + i, am_cv ρ v) ∈ (j, Value.long w) :: lv_args (j + 2) (t.map (am_cv ρ))
      match i, h with
      | 0, h =>
        have e : Value.long w = v := Option.some.inj h
        subst e
        exact List.mem_cons_self
      | 1, h => cases h
      | i + 2, h =>
        have := am_lv_args_nth ρ t (nL - 2) (j + 2) i v hn h
        rw [show j + (i + 2) = j + 2 + i by omega]
        exact List.mem_cons_of_mem _ this
    | double b => exact absurd hn Bool.false_ne_true
    | int w => exact gen (.int w) rfl hn h
    | float w => exact gen (.float w) rfl hn h
    | null => exact gen .null rfl hn h
    | ref w => exact gen (.ref w) rfl hn h
    | retAddr w => exact gen (.retAddr w) rfl hn h
theorem am_ent_len : ∀ (av : List Value) (nL : Nat), am_nod av = true → am_wds av ≤ nL → (am_ent nL av).length = nL
  | [], nL, hn, h => by simp [am_ent]
  | v :: t, nL, hn, h => by
    cases v with
    | long w =>
      have h : 2 + am_wds t ≤ nL := h
      have := am_ent_len t (nL - 2) hn (by omega)
      show ((am_ent (nL - 2) t).length + 1) + 1 = nL
      omega
    | double b => exact absurd hn Bool.false_ne_true
    | int w =>
      have h : 1 + am_wds t ≤ nL := h
      have := am_ent_len t (nL - 1) hn (by omega)
      show (am_ent (nL - 1) t).length + 1 = nL
      omega
    | float w =>
      have h : 1 + am_wds t ≤ nL := h
      have := am_ent_len t (nL - 1) hn (by omega)
      show (am_ent (nL - 1) t).length + 1 = nL
      omega
    | null =>
      have h : 1 + am_wds t ≤ nL := h
      have := am_ent_len t (nL - 1) hn (by omega)
      show (am_ent (nL - 1) t).length + 1 = nL
      omega
    | ref w =>
      have h : 1 + am_wds t ≤ nL := h
      have := am_ent_len t (nL - 1) hn (by omega)
      show (am_ent (nL - 1) t).length + 1 = nL
      omega
    | retAddr w =>
      have h : 1 + am_wds t ≤ nL := h
      have := am_ent_len t (nL - 1) hn (by omega)
      show (am_ent (nL - 1) t).length + 1 = nL
      omega
theorem am_sl_words (ρ : Nat → Nat) : ∀ (av : List Value), (lg_sl (av.map (am_cv ρ))).length = am_wds av
  | [] => rfl
  | v :: t => by
    have ih := am_sl_words ρ t
    have e : lg_sl ((v :: t).map (am_cv ρ)) = (if (am_cv ρ v).category = 2 then [Slot.val (am_cv ρ v), .second] else [Slot.val (am_cv ρ v)]) ++ lg_sl (t.map (am_cv ρ)) := by simp [lg_sl]
    rw [e, List.length_append, ih]
    have hc := lv_cat v
    rw [am_cv_cat]
    show _ = v.category + am_wds t
    rcases hc with h | h <;> rw [h] <;> rfl
theorem am_ent_has (ρ : Nat → Nat) {av : List Value} {nL : Nat} (hn : am_nod av = true) (hw : am_wds av ≤ nL) : am_has ρ ((lg_sl (av.map (am_cv ρ)) ++ List.replicate (nL - (lg_sl (av.map (am_cv ρ))).length) Slot.unset).toArray) nL (am_ent nL av) := by
  have h := lv_entry (av.map (am_cv ρ)) (n := nL) (by rw [am_sl_words]; exact hw)
  refine ⟨h.1, h.2.1, am_ent_len av nL hn hw, fun i v hv => ?_⟩
  have := am_lv_args_nth ρ av nL 0 i v hn hv
  rw [Nat.zero_add] at this
  exact h.2.2 _ this
/-- a contract out of the walk of the abstract code -/
theorem am_meth {own0 : String} (x d P : Nat) (T : Nat → Option am_AI) (Γ : Nat → am_C) (Cn : am_C) (hy : plainName (am_y x).cls = true) (hF : am_Fa x) (hown : (am_y x).cls = own0) (hkd : am_kd x = 2 → (am_y x).name = "<init>")
    (hT : ∀ pc ai, T pc = some ai → am_chk own0 (am_rt x) (am_kd x) (am_b x) pc ai = true) (hΓ : ∀ y, am_Met d y (Γ y))
    (body : ∀ (av : List Value) (n : Nat) (σ : am_Sg) (τ : am_Tu) (nf : Nat) (Pst : Option Value → am_Sg → am_Tu → Prop), n ≤ nf → Cn av n σ τ nf Pst → P ≤ n ∧ am_nod av = true ∧ am_wds av ≤ am_mL x ∧
      ∀ (Wb : am_K), (∀ (stop : Nat → Bool) (f pc : Nat) (L : am_L) (st : List Value) (m : Nat) (σ' : am_Sg) (τ' : am_Tu), am_vc (false, 0, fun _ => 0) T Γ P nf stop Wb (fun v m σ τ => m = nf ∧ Pst v σ τ) f pc L st m σ' τ' → Wb pc L st m σ' τ') → Wb 0 (am_ent (am_mL x) av) [] n σ τ) : am_Met (d + 1) x Cn := by
  intro l D z ρ av n nf σ τ Pst sz hnf h1000 hCn
  refine ⟨hF, ?_⟩
  obtain ⟨hP, hnod, hwds, hb⟩ := body av n σ τ nf Pst hnf hCn
  refine Met.ofW (cc := am_b x) (maxL := am_mL x) (ret := am_rt x) hy rfl ?_
  intro p e s m args below meth c s₁ B hml hv
  obtain ⟨rfl, hsz, hWd, hK, hBw⟩ := hv
  subst hsz
  have hts : ∀ w ∈ am_tb, w.before (av.map (am_cv ρ)).toArray s = true := am_Bw.all (x := x) (atoms_spec (ws := am_wsm x) B.pre) hBw
  have hown2 : s.vm.findClass (am_y x).cls = some m.cls := findClass_of_methodNamed B.named
  have hC : am_Cx p (headSpec (am_wsm x) (am_rm (d + 1) n nf)).room s m (av.map (am_cv ρ)).toArray c (am_b x) own0 D z (va_A (am_ws z ρ n σ τ) s.heap.size) s.heap (am_mL x) n nf P (false, 0, fun _ => 0) ρ :=
    ⟨B.exec, B.bytes, hml, by rw [← hown]; exact hown2, hts, hK, fun q h => Or.inr h, ⟨Nat.le_refl _, Nat.le_refl _, by show 1 ≤ d + 1; omega, by show 64 ≤ 64 * (d + 1); omega⟩, fun h => (by cases h), hP, h1000⟩
  have hr := B.returns
  have hlocks := B.notSynchronized
  have hend : ∀ (pc : Nat) (L : am_L) (v : Option Value) (st : List Value) (ρ9 : Nat → Nat) (H : Heap) (locs : List Loc) (σ9 : am_Sg) (τ9 : am_Tu) , (∀ q, q < n ∨ nf ≤ q → ρ9 q = ρ q) → am_Wd D z ρ9 nf σ9 τ9 (va_A (am_ws z ρ n σ τ) s.heap.size) H → va_S (va_A (am_ws z ρ n σ τ) s.heap.size) s.heap H locs → Pst v σ9 τ9 → ∀ t : State, t.heap = H → s.WarmedH t.vm → am_Po D z ρ n σ τ nf s.heap.size Pst (av.map (am_cv ρ)).toArray s (.returned (v.map (am_cv ρ9))) t := by
    intro pc L v st ρ9 H locs σ9 τ9 hρ hWd9 hS9 hPv t ht hW9
    exact ⟨⟨v, ρ9, σ9, τ9, rfl, hPv, hρ, by rw [ht]; exact hWd9⟩, hS9.F ht⟩
  have hret : am_Rh (am_rt x) (am_b x) (fun v m σ τ => m = nf ∧ Pst v σ τ) (am_Wb p l e (headSpec (am_wsm x) (am_rm (d + 1) n nf)).room s m (av.map (am_cv ρ)).toArray below meth c (MQ below (am_Po D z ρ n σ τ nf s.heap.size Pst) (av.map (am_cv ρ)).toArray s (nf - n) (am_sl nf - am_sl n) (va_A (am_ws z ρ n σ τ) s.heap.size)) D z (va_A (am_ws z ρ n σ τ) s.heap.size) s.heap (am_mL x) n nf (false, 0, fun _ => 0) ρ) := by
    refine ⟨fun h pc L v n9 σ9 τ9 hd hp => ?_, fun h pc L v n9 σ9 τ9 hd hv hp => ?_, fun h pc L v n9 σ9 τ9 hd hp => ?_, fun h pc L n9 σ9 τ9 hd hp => ?_⟩
    · intro ρ9 H locs ls h0 h1 hX hW hS hl
      obtain ⟨rfl, hp⟩ := hp
      exact W.iret (v := v) B.exec B.bytes (hr.trans h) (hend pc L (some (.int v)) [] ρ9 H locs σ9 τ9 hX hW hS hp) hS.2.2 hd
    · intro ρ9 H locs ls h0 h1 hX hW hS hl
      obtain ⟨rfl, hp⟩ := hp
      exact W.zret (v := v) (ty := .boolean) B.exec B.bytes (hr.trans h) (by rcases hv with rfl | rfl <;> rfl) (hend pc L (some (.int v)) [] ρ9 H locs σ9 τ9 hX hW hS hp) hS.2.2 hd
    · intro ρ9 H locs ls h0 h1 hX hW hS hl
      obtain ⟨rfl, hp⟩ := hp
      exact W.lret (v := v) B.exec B.bytes (hr.trans h) (hend pc L (some (.long v)) [] ρ9 H locs σ9 τ9 hX hW hS hp) hS.2.2 hd
    · intro ρ9 H locs ls h0 h1 hX hW hS hl
      obtain ⟨rfl, hp⟩ := hp
      exact W.vret B.exec B.bytes (hr.trans h) (hend pc L none [] ρ9 H locs σ9 τ9 hX hW hS hp) hS.2.2 hd
  have hgo := hb _ (fun stop f pc L st m σ' τ' h => am_sound (l := l) (e := e) (below := below) (meth := meth) hC hT hΓ (by show d + 1 ≤ d + 1; omega) (by show 64 * (d + 1) ≤ 64 * (d + 1); omega) (fun h9 => (name_of_methodNamed B.named B.method).1.trans (hkd h9)) hret stop f pc L st m σ' τ' h)
  have hD0 := hWd.2.1.self (sz := s.heap.size)
  have := hgo ρ s.heap [] _ (Nat.le_refl n) hnf (fun _ _ => rfl) ⟨hWd.1, hD0, hWd.2.2⟩ va_S.rf (am_ent_has ρ hnod hwds)
  rw [lg_entry_eq]
  rw [Nat.sub_self, Nat.sub_self] at this
  exact this
end
