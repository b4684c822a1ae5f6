section
-- ===== PART A: goes FIRST, ahead of the names: the tables' words, and 'selects' of the private methods out of them =====
/-- a private method of a class that the tables say can be made, by its rows of tables_1 -/
def lw_okq (q : MethodName × Nat) : Prop := (q.1.cls ≠ "java/lang/invoke/MethodHandle" ∧ q.1.cls ≠ "java/lang/invoke/VarHandle") ∧ Cond.instantiable q.1.cls q.2 ∈ tables_1 ∧ Cond.privateMethod q.1 ∈ tables_1 ∧ Cond.instanceMethod q.1 ∈ tables_1
theorem lw_p0 : lw_okq (⟨"RefusedMayAsk$Reader", "advance", "()V"⟩, 10) := ⟨⟨by decide +kernel, by decide +kernel⟩, List.mem_of_getElem? (i := 26) (by decide +kernel), List.mem_of_getElem? (i := 222) (by decide +kernel), List.mem_of_getElem? (i := 223) (by decide +kernel)⟩
theorem lw_p1 : lw_okq (⟨"RefusedMayAsk$Reader", "takeWord", "()V"⟩, 10) := ⟨⟨by decide +kernel, by decide +kernel⟩, List.mem_of_getElem? (i := 26) (by decide +kernel), List.mem_of_getElem? (i := 229) (by decide +kernel), List.mem_of_getElem? (i := 230) (by decide +kernel)⟩
theorem lw_p2 : lw_okq (⟨"RefusedMayAsk$Reader", "spells", "(Ljava/lang/String;)Z"⟩, 10) := ⟨⟨by decide +kernel, by decide +kernel⟩, List.mem_of_getElem? (i := 26) (by decide +kernel), List.mem_of_getElem? (i := 248) (by decide +kernel), List.mem_of_getElem? (i := 249) (by decide +kernel)⟩
theorem lw_p3 : lw_okq (⟨"RefusedMayAsk$Reader", "takeNumber", "()V"⟩, 10) := ⟨⟨by decide +kernel, by decide +kernel⟩, List.mem_of_getElem? (i := 26) (by decide +kernel), List.mem_of_getElem? (i := 257) (by decide +kernel), List.mem_of_getElem? (i := 258) (by decide +kernel)⟩
theorem lw_p4 : lw_okq (⟨"RefusedMayAsk$Reader", "expect", "(I)V"⟩, 10) := ⟨⟨by decide +kernel, by decide +kernel⟩, List.mem_of_getElem? (i := 26) (by decide +kernel), List.mem_of_getElem? (i := 264) (by decide +kernel), List.mem_of_getElem? (i := 265) (by decide +kernel)⟩
theorem lw_p5 : lw_okq (⟨"RefusedMayAsk$Reader", "fail", "()V"⟩, 10) := ⟨⟨by decide +kernel, by decide +kernel⟩, List.mem_of_getElem? (i := 26) (by decide +kernel), List.mem_of_getElem? (i := 268) (by decide +kernel), List.mem_of_getElem? (i := 269) (by decide +kernel)⟩
theorem lw_p6 : lw_okq (⟨"RefusedMayAsk$Reader", "readLevel", "(II)V"⟩, 10) := ⟨⟨by decide +kernel, by decide +kernel⟩, List.mem_of_getElem? (i := 26) (by decide +kernel), List.mem_of_getElem? (i := 272) (by decide +kernel), List.mem_of_getElem? (i := 273) (by decide +kernel)⟩
theorem lw_p7 : lw_okq (⟨"RefusedMayAsk$Reader", "readOne", "(I)V"⟩, 10) := ⟨⟨by decide +kernel, by decide +kernel⟩, List.mem_of_getElem? (i := 26) (by decide +kernel), List.mem_of_getElem? (i := 276) (by decide +kernel), List.mem_of_getElem? (i := 277) (by decide +kernel)⟩
theorem lw_p8 : lw_okq (⟨"RefusedMayAsk$Reader", "emit", "(I)V"⟩, 10) := ⟨⟨by decide +kernel, by decide +kernel⟩, List.mem_of_getElem? (i := 26) (by decide +kernel), List.mem_of_getElem? (i := 280) (by decide +kernel), List.mem_of_getElem? (i := 281) (by decide +kernel)⟩
theorem lw_p9 : lw_okq (⟨"RefusedMayAsk$Reader", "enter", "(I)Z"⟩, 10) := ⟨⟨by decide +kernel, by decide +kernel⟩, List.mem_of_getElem? (i := 26) (by decide +kernel), List.mem_of_getElem? (i := 284) (by decide +kernel), List.mem_of_getElem? (i := 285) (by decide +kernel)⟩
theorem lw_p10 : lw_okq (⟨"RefusedMayAsk", "arePair", "(II)Z"⟩, 10) := ⟨⟨by decide +kernel, by decide +kernel⟩, List.mem_of_getElem? (i := 18) (by decide +kernel), List.mem_of_getElem? (i := 417) (by decide +kernel), List.mem_of_getElem? (i := 418) (by decide +kernel)⟩
theorem lw_p11 : lw_okq (⟨"RefusedMayAsk", "isMan", "(I)Z"⟩, 10) := ⟨⟨by decide +kernel, by decide +kernel⟩, List.mem_of_getElem? (i := 18) (by decide +kernel), List.mem_of_getElem? (i := 421) (by decide +kernel), List.mem_of_getElem? (i := 422) (by decide +kernel)⟩
theorem lw_p12 : lw_okq (⟨"RefusedMayAsk", "isMaid", "(I)Z"⟩, 10) := ⟨⟨by decide +kernel, by decide +kernel⟩, List.mem_of_getElem? (i := 18) (by decide +kernel), List.mem_of_getElem? (i := 425) (by decide +kernel), List.mem_of_getElem? (i := 426) (by decide +kernel)⟩
theorem lw_p13 : lw_okq (⟨"RefusedMayAsk", "replaceMonth", "(I)I"⟩, 10) := ⟨⟨by decide +kernel, by decide +kernel⟩, List.mem_of_getElem? (i := 18) (by decide +kernel), List.mem_of_getElem? (i := 439) (by decide +kernel), List.mem_of_getElem? (i := 440) (by decide +kernel)⟩
theorem lw_p14 : lw_okq (⟨"RefusedMayAsk$Town", "ruled", "(III)I"⟩, 13) := ⟨⟨by decide +kernel, by decide +kernel⟩, List.mem_of_getElem? (i := 301) (by decide +kernel), List.mem_of_getElem? (i := 466) (by decide +kernel), List.mem_of_getElem? (i := 467) (by decide +kernel)⟩
theorem lw_p15 : lw_okq (⟨"RefusedMayAsk", "ofMaid", "(II)I"⟩, 10) := ⟨⟨by decide +kernel, by decide +kernel⟩, List.mem_of_getElem? (i := 18) (by decide +kernel), List.mem_of_getElem? (i := 496) (by decide +kernel), List.mem_of_getElem? (i := 497) (by decide +kernel)⟩
def lw_privs_1 : List (MethodName × Nat) := [(⟨"RefusedMayAsk$Reader", "advance", "()V"⟩, 10), (⟨"RefusedMayAsk$Reader", "takeWord", "()V"⟩, 10), (⟨"RefusedMayAsk$Reader", "spells", "(Ljava/lang/String;)Z"⟩, 10), (⟨"RefusedMayAsk$Reader", "takeNumber", "()V"⟩, 10), (⟨"RefusedMayAsk$Reader", "expect", "(I)V"⟩, 10), (⟨"RefusedMayAsk$Reader", "fail", "()V"⟩, 10), (⟨"RefusedMayAsk$Reader", "readLevel", "(II)V"⟩, 10), (⟨"RefusedMayAsk$Reader", "readOne", "(I)V"⟩, 10), (⟨"RefusedMayAsk$Reader", "emit", "(I)V"⟩, 10), (⟨"RefusedMayAsk$Reader", "enter", "(I)Z"⟩, 10), (⟨"RefusedMayAsk", "arePair", "(II)Z"⟩, 10), (⟨"RefusedMayAsk", "isMan", "(I)Z"⟩, 10), (⟨"RefusedMayAsk", "isMaid", "(I)Z"⟩, 10), (⟨"RefusedMayAsk", "replaceMonth", "(I)I"⟩, 10), (⟨"RefusedMayAsk$Town", "ruled", "(III)I"⟩, 13), (⟨"RefusedMayAsk", "ofMaid", "(II)I"⟩, 10)]
theorem lw_r1 : ∀ q ∈ lw_privs_1, lw_okq q := List.forall_mem_cons.mpr ⟨lw_p0, List.forall_mem_cons.mpr ⟨lw_p1, List.forall_mem_cons.mpr ⟨lw_p2, List.forall_mem_cons.mpr ⟨lw_p3, List.forall_mem_cons.mpr ⟨lw_p4, List.forall_mem_cons.mpr ⟨lw_p5, List.forall_mem_cons.mpr ⟨lw_p6, List.forall_mem_cons.mpr ⟨lw_p7, List.forall_mem_cons.mpr ⟨lw_p8, List.forall_mem_cons.mpr ⟨lw_p9, List.forall_mem_cons.mpr ⟨lw_p10, List.forall_mem_cons.mpr ⟨lw_p11, List.forall_mem_cons.mpr ⟨lw_p12, List.forall_mem_cons.mpr ⟨lw_p13, List.forall_mem_cons.mpr ⟨lw_p14, List.forall_mem_cons.mpr ⟨lw_p15, fun _ h => absurd h List.not_mem_nil⟩⟩⟩⟩⟩⟩⟩⟩⟩⟩⟩⟩⟩⟩⟩⟩
theorem lw_p16 : lw_okq (⟨"RefusedMayAsk", "ofMan", "(II)I"⟩, 10) := ⟨⟨by decide +kernel, by decide +kernel⟩, List.mem_of_getElem? (i := 18) (by decide +kernel), List.mem_of_getElem? (i := 506) (by decide +kernel), List.mem_of_getElem? (i := 507) (by decide +kernel)⟩
theorem lw_p17 : lw_okq (⟨"RefusedMayAsk$Ways", "goOn", "(LRefusedMayAsk$Town;IIIII)V"⟩, 5) := ⟨⟨by decide +kernel, by decide +kernel⟩, List.mem_of_getElem? (i := 100) (by decide +kernel), List.mem_of_getElem? (i := 553) (by decide +kernel), List.mem_of_getElem? (i := 554) (by decide +kernel)⟩
theorem lw_p18 : lw_okq (⟨"RefusedMayAsk$Ways", "isBetter", "(III)Z"⟩, 5) := ⟨⟨by decide +kernel, by decide +kernel⟩, List.mem_of_getElem? (i := 100) (by decide +kernel), List.mem_of_getElem? (i := 558) (by decide +kernel), List.mem_of_getElem? (i := 559) (by decide +kernel)⟩
theorem lw_p19 : lw_okq (⟨"RefusedMayAsk$Ways", "keep", "(II)V"⟩, 5) := ⟨⟨by decide +kernel, by decide +kernel⟩, List.mem_of_getElem? (i := 100) (by decide +kernel), List.mem_of_getElem? (i := 562) (by decide +kernel), List.mem_of_getElem? (i := 563) (by decide +kernel)⟩
theorem lw_p20 : lw_okq (⟨"RefusedMayAsk", "refusesFromNowOn", "(II)Z"⟩, 10) := ⟨⟨by decide +kernel, by decide +kernel⟩, List.mem_of_getElem? (i := 18) (by decide +kernel), List.mem_of_getElem? (i := 577) (by decide +kernel), List.mem_of_getElem? (i := 578) (by decide +kernel)⟩
theorem lw_p21 : lw_okq (⟨"RefusedMayAsk$Pairings", "weigh", "(LRefusedMayAsk$Town;)V"⟩, 7) := ⟨⟨by decide +kernel, by decide +kernel⟩, List.mem_of_getElem? (i := 69) (by decide +kernel), List.mem_of_getElem? (i := 589) (by decide +kernel), List.mem_of_getElem? (i := 590) (by decide +kernel)⟩
theorem lw_p22 : lw_okq (⟨"RefusedMayAsk$Pairings", "pairFrom", "(LRefusedMayAsk$Town;III)V"⟩, 7) := ⟨⟨by decide +kernel, by decide +kernel⟩, List.mem_of_getElem? (i := 69) (by decide +kernel), List.mem_of_getElem? (i := 597) (by decide +kernel), List.mem_of_getElem? (i := 598) (by decide +kernel)⟩
theorem lw_p23 : lw_okq (⟨"RefusedMayAsk$Pairings", "enter", "(II)V"⟩, 7) := ⟨⟨by decide +kernel, by decide +kernel⟩, List.mem_of_getElem? (i := 69) (by decide +kernel), List.mem_of_getElem? (i := 601) (by decide +kernel), List.mem_of_getElem? (i := 602) (by decide +kernel)⟩
theorem lw_p24 : lw_okq (⟨"RefusedMayAsk$Pairings", "isSteady", "(LRefusedMayAsk$Town;)Z"⟩, 7) := ⟨⟨by decide +kernel, by decide +kernel⟩, List.mem_of_getElem? (i := 69) (by decide +kernel), List.mem_of_getElem? (i := 606) (by decide +kernel), List.mem_of_getElem? (i := 607) (by decide +kernel)⟩
theorem lw_p25 : lw_okq (⟨"RefusedMayAsk", "passRound", "()V"⟩, 10) := ⟨⟨by decide +kernel, by decide +kernel⟩, List.mem_of_getElem? (i := 18) (by decide +kernel), List.mem_of_getElem? (i := 637) (by decide +kernel), List.mem_of_getElem? (i := 638) (by decide +kernel)⟩
theorem lw_p26 : lw_okq (⟨"RefusedMayAskModel", "spell", "(IIIIIIIII)V"⟩, 58) := ⟨⟨by decide +kernel, by decide +kernel⟩, List.mem_of_getElem? (i := 726) (by decide +kernel), List.mem_of_getElem? (i := 732) (by decide +kernel), List.mem_of_getElem? (i := 733) (by decide +kernel)⟩
theorem lw_p27 : lw_okq (⟨"RefusedMayAskModel", "isMan", "(I)Z"⟩, 58) := ⟨⟨by decide +kernel, by decide +kernel⟩, List.mem_of_getElem? (i := 726) (by decide +kernel), List.mem_of_getElem? (i := 927) (by decide +kernel), List.mem_of_getElem? (i := 928) (by decide +kernel)⟩
theorem lw_p28 : lw_okq (⟨"RefusedMayAskModel", "isMaid", "(I)Z"⟩, 58) := ⟨⟨by decide +kernel, by decide +kernel⟩, List.mem_of_getElem? (i := 726) (by decide +kernel), List.mem_of_getElem? (i := 931) (by decide +kernel), List.mem_of_getElem? (i := 932) (by decide +kernel)⟩
theorem lw_p29 : lw_okq (⟨"RefusedMayAskModel", "needs", "(I)I"⟩, 58) := ⟨⟨by decide +kernel, by decide +kernel⟩, List.mem_of_getElem? (i := 726) (by decide +kernel), List.mem_of_getElem? (i := 946) (by decide +kernel), List.mem_of_getElem? (i := 947) (by decide +kernel)⟩
theorem lw_p30 : lw_okq (⟨"RefusedMayAskModel", "price", "(I)I"⟩, 58) := ⟨⟨by decide +kernel, by decide +kernel⟩, List.mem_of_getElem? (i := 726) (by decide +kernel), List.mem_of_getElem? (i := 950) (by decide +kernel), List.mem_of_getElem? (i := 951) (by decide +kernel)⟩
theorem lw_p31 : lw_okq (⟨"RefusedMayAskModel", "read", "(II)I"⟩, 58) := ⟨⟨by decide +kernel, by decide +kernel⟩, List.mem_of_getElem? (i := 726) (by decide +kernel), List.mem_of_getElem? (i := 963) (by decide +kernel), List.mem_of_getElem? (i := 964) (by decide +kernel)⟩
def lw_privs_2 : List (MethodName × Nat) := [(⟨"RefusedMayAsk", "ofMan", "(II)I"⟩, 10), (⟨"RefusedMayAsk$Ways", "goOn", "(LRefusedMayAsk$Town;IIIII)V"⟩, 5), (⟨"RefusedMayAsk$Ways", "isBetter", "(III)Z"⟩, 5), (⟨"RefusedMayAsk$Ways", "keep", "(II)V"⟩, 5), (⟨"RefusedMayAsk", "refusesFromNowOn", "(II)Z"⟩, 10), (⟨"RefusedMayAsk$Pairings", "weigh", "(LRefusedMayAsk$Town;)V"⟩, 7), (⟨"RefusedMayAsk$Pairings", "pairFrom", "(LRefusedMayAsk$Town;III)V"⟩, 7), (⟨"RefusedMayAsk$Pairings", "enter", "(II)V"⟩, 7), (⟨"RefusedMayAsk$Pairings", "isSteady", "(LRefusedMayAsk$Town;)Z"⟩, 7), (⟨"RefusedMayAsk", "passRound", "()V"⟩, 10), (⟨"RefusedMayAskModel", "spell", "(IIIIIIIII)V"⟩, 58), (⟨"RefusedMayAskModel", "isMan", "(I)Z"⟩, 58), (⟨"RefusedMayAskModel", "isMaid", "(I)Z"⟩, 58), (⟨"RefusedMayAskModel", "needs", "(I)I"⟩, 58), (⟨"RefusedMayAskModel", "price", "(I)I"⟩, 58), (⟨"RefusedMayAskModel", "read", "(II)I"⟩, 58)]
theorem lw_r2 : ∀ q ∈ lw_privs_2, lw_okq q := List.forall_mem_cons.mpr ⟨lw_p16, List.forall_mem_cons.mpr ⟨lw_p17, List.forall_mem_cons.mpr ⟨lw_p18, List.forall_mem_cons.mpr ⟨lw_p19, List.forall_mem_cons.mpr ⟨lw_p20, List.forall_mem_cons.mpr ⟨lw_p21, List.forall_mem_cons.mpr ⟨lw_p22, List.forall_mem_cons.mpr ⟨lw_p23, List.forall_mem_cons.mpr ⟨lw_p24, List.forall_mem_cons.mpr ⟨lw_p25, List.forall_mem_cons.mpr ⟨lw_p26, List.forall_mem_cons.mpr ⟨lw_p27, List.forall_mem_cons.mpr ⟨lw_p28, List.forall_mem_cons.mpr ⟨lw_p29, List.forall_mem_cons.mpr ⟨lw_p30, List.forall_mem_cons.mpr ⟨lw_p31, fun _ h => absurd h List.not_mem_nil⟩⟩⟩⟩⟩⟩⟩⟩⟩⟩⟩⟩⟩⟩⟩⟩
theorem lw_p32 : lw_okq (⟨"RefusedMayAskModel", "next", "()V"⟩, 58) := ⟨⟨by decide +kernel, by decide +kernel⟩, List.mem_of_getElem? (i := 726) (by decide +kernel), List.mem_of_getElem? (i := 967) (by decide +kernel), List.mem_of_getElem? (i := 968) (by decide +kernel)⟩
theorem lw_p33 : lw_okq (⟨"RefusedMayAskModel", "byteAt", "(I)I"⟩, 58) := ⟨⟨by decide +kernel, by decide +kernel⟩, List.mem_of_getElem? (i := 726) (by decide +kernel), List.mem_of_getElem? (i := 971) (by decide +kernel), List.mem_of_getElem? (i := 972) (by decide +kernel)⟩
theorem lw_p34 : lw_okq (⟨"RefusedMayAskModel", "isWord", "(IIIIIIII)Z"⟩, 58) := ⟨⟨by decide +kernel, by decide +kernel⟩, List.mem_of_getElem? (i := 726) (by decide +kernel), List.mem_of_getElem? (i := 980) (by decide +kernel), List.mem_of_getElem? (i := 981) (by decide +kernel)⟩
theorem lw_p35 : lw_okq (⟨"RefusedMayAskModel", "isLetter", "(II)Z"⟩, 58) := ⟨⟨by decide +kernel, by decide +kernel⟩, List.mem_of_getElem? (i := 726) (by decide +kernel), List.mem_of_getElem? (i := 984) (by decide +kernel), List.mem_of_getElem? (i := 985) (by decide +kernel)⟩
theorem lw_p36 : lw_okq (⟨"RefusedMayAskModel", "part", "(Z)I"⟩, 58) := ⟨⟨by decide +kernel, by decide +kernel⟩, List.mem_of_getElem? (i := 726) (by decide +kernel), List.mem_of_getElem? (i := 988) (by decide +kernel), List.mem_of_getElem? (i := 989) (by decide +kernel)⟩
theorem lw_p37 : lw_okq (⟨"RefusedMayAskModel", "fail", "()V"⟩, 58) := ⟨⟨by decide +kernel, by decide +kernel⟩, List.mem_of_getElem? (i := 726) (by decide +kernel), List.mem_of_getElem? (i := 992) (by decide +kernel), List.mem_of_getElem? (i := 993) (by decide +kernel)⟩
theorem lw_p38 : lw_okq (⟨"RefusedMayAskModel", "either", "()I"⟩, 58) := ⟨⟨by decide +kernel, by decide +kernel⟩, List.mem_of_getElem? (i := 726) (by decide +kernel), List.mem_of_getElem? (i := 996) (by decide +kernel), List.mem_of_getElem? (i := 997) (by decide +kernel)⟩
theorem lw_p39 : lw_okq (⟨"RefusedMayAskModel", "both", "()I"⟩, 58) := ⟨⟨by decide +kernel, by decide +kernel⟩, List.mem_of_getElem? (i := 726) (by decide +kernel), List.mem_of_getElem? (i := 1000) (by decide +kernel), List.mem_of_getElem? (i := 1001) (by decide +kernel)⟩
theorem lw_p40 : lw_okq (⟨"RefusedMayAskModel", "not", "()I"⟩, 58) := ⟨⟨by decide +kernel, by decide +kernel⟩, List.mem_of_getElem? (i := 726) (by decide +kernel), List.mem_of_getElem? (i := 1004) (by decide +kernel), List.mem_of_getElem? (i := 1005) (by decide +kernel)⟩
theorem lw_p41 : lw_okq (⟨"RefusedMayAskModel", "opens", "()Z"⟩, 58) := ⟨⟨by decide +kernel, by decide +kernel⟩, List.mem_of_getElem? (i := 726) (by decide +kernel), List.mem_of_getElem? (i := 1008) (by decide +kernel), List.mem_of_getElem? (i := 1009) (by decide +kernel)⟩
theorem lw_p42 : lw_okq (⟨"RefusedMayAskModel", "added", "()I"⟩, 58) := ⟨⟨by decide +kernel, by decide +kernel⟩, List.mem_of_getElem? (i := 726) (by decide +kernel), List.mem_of_getElem? (i := 1012) (by decide +kernel), List.mem_of_getElem? (i := 1013) (by decide +kernel)⟩
theorem lw_p43 : lw_okq (⟨"RefusedMayAskModel", "term", "()I"⟩, 58) := ⟨⟨by decide +kernel, by decide +kernel⟩, List.mem_of_getElem? (i := 726) (by decide +kernel), List.mem_of_getElem? (i := 1016) (by decide +kernel), List.mem_of_getElem? (i := 1017) (by decide +kernel)⟩
theorem lw_p44 : lw_okq (⟨"RefusedMayAskModel", "atom", "()I"⟩, 58) := ⟨⟨by decide +kernel, by decide +kernel⟩, List.mem_of_getElem? (i := 726) (by decide +kernel), List.mem_of_getElem? (i := 1020) (by decide +kernel), List.mem_of_getElem? (i := 1021) (by decide +kernel)⟩
theorem lw_p45 : lw_okq (⟨"RefusedMayAskModel", "isSign", "(I)Z"⟩, 58) := ⟨⟨by decide +kernel, by decide +kernel⟩, List.mem_of_getElem? (i := 726) (by decide +kernel), List.mem_of_getElem? (i := 1024) (by decide +kernel), List.mem_of_getElem? (i := 1025) (by decide +kernel)⟩
theorem lw_p46 : lw_okq (⟨"RefusedMayAskModel", "name", "()I"⟩, 58) := ⟨⟨by decide +kernel, by decide +kernel⟩, List.mem_of_getElem? (i := 726) (by decide +kernel), List.mem_of_getElem? (i := 1028) (by decide +kernel), List.mem_of_getElem? (i := 1029) (by decide +kernel)⟩
theorem lw_p47 : lw_okq (⟨"RefusedMayAskModel", "worth", "(II)I"⟩, 58) := ⟨⟨by decide +kernel, by decide +kernel⟩, List.mem_of_getElem? (i := 726) (by decide +kernel), List.mem_of_getElem? (i := 1042) (by decide +kernel), List.mem_of_getElem? (i := 1043) (by decide +kernel)⟩
def lw_privs_3 : List (MethodName × Nat) := [(⟨"RefusedMayAskModel", "next", "()V"⟩, 58), (⟨"RefusedMayAskModel", "byteAt", "(I)I"⟩, 58), (⟨"RefusedMayAskModel", "isWord", "(IIIIIIII)Z"⟩, 58), (⟨"RefusedMayAskModel", "isLetter", "(II)Z"⟩, 58), (⟨"RefusedMayAskModel", "part", "(Z)I"⟩, 58), (⟨"RefusedMayAskModel", "fail", "()V"⟩, 58), (⟨"RefusedMayAskModel", "either", "()I"⟩, 58), (⟨"RefusedMayAskModel", "both", "()I"⟩, 58), (⟨"RefusedMayAskModel", "not", "()I"⟩, 58), (⟨"RefusedMayAskModel", "opens", "()Z"⟩, 58), (⟨"RefusedMayAskModel", "added", "()I"⟩, 58), (⟨"RefusedMayAskModel", "term", "()I"⟩, 58), (⟨"RefusedMayAskModel", "atom", "()I"⟩, 58), (⟨"RefusedMayAskModel", "isSign", "(I)Z"⟩, 58), (⟨"RefusedMayAskModel", "name", "()I"⟩, 58), (⟨"RefusedMayAskModel", "worth", "(II)I"⟩, 58)]
theorem lw_r3 : ∀ q ∈ lw_privs_3, lw_okq q := List.forall_mem_cons.mpr ⟨lw_p32, List.forall_mem_cons.mpr ⟨lw_p33, List.forall_mem_cons.mpr ⟨lw_p34, List.forall_mem_cons.mpr ⟨lw_p35, List.forall_mem_cons.mpr ⟨lw_p36, List.forall_mem_cons.mpr ⟨lw_p37, List.forall_mem_cons.mpr ⟨lw_p38, List.forall_mem_cons.mpr ⟨lw_p39, List.forall_mem_cons.mpr ⟨lw_p40, List.forall_mem_cons.mpr ⟨lw_p41, List.forall_mem_cons.mpr ⟨lw_p42, List.forall_mem_cons.mpr ⟨lw_p43, List.forall_mem_cons.mpr ⟨lw_p44, List.forall_mem_cons.mpr ⟨lw_p45, List.forall_mem_cons.mpr ⟨lw_p46, List.forall_mem_cons.mpr ⟨lw_p47, fun _ h => absurd h List.not_mem_nil⟩⟩⟩⟩⟩⟩⟩⟩⟩⟩⟩⟩⟩⟩⟩⟩
theorem lw_p48 : lw_okq (⟨"RefusedMayAskModel", "says", "(IIII)I"⟩, 58) := ⟨⟨by decide +kernel, by decide +kernel⟩, List.mem_of_getElem? (i := 726) (by decide +kernel), List.mem_of_getElem? (i := 1046) (by decide +kernel), List.mem_of_getElem? (i := 1047) (by decide +kernel)⟩
theorem lw_p49 : lw_okq (⟨"RefusedMayAskModel", "mayAsk", "(II)Z"⟩, 58) := ⟨⟨by decide +kernel, by decide +kernel⟩, List.mem_of_getElem? (i := 726) (by decide +kernel), List.mem_of_getElem? (i := 1053) (by decide +kernel), List.mem_of_getElem? (i := 1054) (by decide +kernel)⟩
theorem lw_p50 : lw_okq (⟨"RefusedMayAskModel", "saysNo", "(III)Z"⟩, 58) := ⟨⟨by decide +kernel, by decide +kernel⟩, List.mem_of_getElem? (i := 726) (by decide +kernel), List.mem_of_getElem? (i := 1057) (by decide +kernel), List.mem_of_getElem? (i := 1058) (by decide +kernel)⟩
theorem lw_p51 : lw_okq (⟨"RefusedMayAskModel", "refuses", "(III)Z"⟩, 58) := ⟨⟨by decide +kernel, by decide +kernel⟩, List.mem_of_getElem? (i := 726) (by decide +kernel), List.mem_of_getElem? (i := 1061) (by decide +kernel), List.mem_of_getElem? (i := 1062) (by decide +kernel)⟩
theorem lw_p52 : lw_okq (⟨"RefusedMayAskModel", "wants", "(II)Z"⟩, 58) := ⟨⟨by decide +kernel, by decide +kernel⟩, List.mem_of_getElem? (i := 726) (by decide +kernel), List.mem_of_getElem? (i := 1065) (by decide +kernel), List.mem_of_getElem? (i := 1066) (by decide +kernel)⟩
theorem lw_p53 : lw_okq (⟨"RefusedMayAskModel", "answers", "(IIZ)V"⟩, 58) := ⟨⟨by decide +kernel, by decide +kernel⟩, List.mem_of_getElem? (i := 726) (by decide +kernel), List.mem_of_getElem? (i := 1073) (by decide +kernel), List.mem_of_getElem? (i := 1074) (by decide +kernel)⟩
theorem lw_p54 : lw_okq (⟨"RefusedMayAskModel", "lets", "(IIIIII)V"⟩, 58) := ⟨⟨by decide +kernel, by decide +kernel⟩, List.mem_of_getElem? (i := 726) (by decide +kernel), List.mem_of_getElem? (i := 1085) (by decide +kernel), List.mem_of_getElem? (i := 1086) (by decide +kernel)⟩
theorem lw_p55 : lw_okq (⟨"RefusedMayAskModel", "goes", "(I)I"⟩, 58) := ⟨⟨by decide +kernel, by decide +kernel⟩, List.mem_of_getElem? (i := 726) (by decide +kernel), List.mem_of_getElem? (i := 1101) (by decide +kernel), List.mem_of_getElem? (i := 1102) (by decide +kernel)⟩
theorem lw_p56 : lw_okq (⟨"RefusedMayAskModel", "gathers", "()V"⟩, 58) := ⟨⟨by decide +kernel, by decide +kernel⟩, List.mem_of_getElem? (i := 726) (by decide +kernel), List.mem_of_getElem? (i := 1105) (by decide +kernel), List.mem_of_getElem? (i := 1106) (by decide +kernel)⟩
theorem lw_p57 : lw_okq (⟨"RefusedMayAskModel", "pairs", "(III)V"⟩, 58) := ⟨⟨by decide +kernel, by decide +kernel⟩, List.mem_of_getElem? (i := 726) (by decide +kernel), List.mem_of_getElem? (i := 1109) (by decide +kernel), List.mem_of_getElem? (i := 1110) (by decide +kernel)⟩
theorem lw_p58 : lw_okq (⟨"RefusedMayAskModel", "isLawful", "()Z"⟩, 58) := ⟨⟨by decide +kernel, by decide +kernel⟩, List.mem_of_getElem? (i := 726) (by decide +kernel), List.mem_of_getElem? (i := 1113) (by decide +kernel), List.mem_of_getElem? (i := 1114) (by decide +kernel)⟩
theorem lw_p59 : lw_okq (⟨"RefusedMayAskModel", "isSteady", "()Z"⟩, 58) := ⟨⟨by decide +kernel, by decide +kernel⟩, List.mem_of_getElem? (i := 726) (by decide +kernel), List.mem_of_getElem? (i := 1117) (by decide +kernel), List.mem_of_getElem? (i := 1118) (by decide +kernel)⟩
theorem lw_p60 : lw_okq (⟨"RefusedMayAskModel", "manOf", "(I)I"⟩, 58) := ⟨⟨by decide +kernel, by decide +kernel⟩, List.mem_of_getElem? (i := 726) (by decide +kernel), List.mem_of_getElem? (i := 1121) (by decide +kernel), List.mem_of_getElem? (i := 1122) (by decide +kernel)⟩
theorem lw_p61 : lw_okq (⟨"RefusedMayAskModel", "laysAside", "()V"⟩, 58) := ⟨⟨by decide +kernel, by decide +kernel⟩, List.mem_of_getElem? (i := 726) (by decide +kernel), List.mem_of_getElem? (i := 1142) (by decide +kernel), List.mem_of_getElem? (i := 1143) (by decide +kernel)⟩
theorem lw_p62 : lw_okq (⟨"RefusedMayAskModel", "laysBack", "()V"⟩, 58) := ⟨⟨by decide +kernel, by decide +kernel⟩, List.mem_of_getElem? (i := 726) (by decide +kernel), List.mem_of_getElem? (i := 1146) (by decide +kernel), List.mem_of_getElem? (i := 1147) (by decide +kernel)⟩
def lw_privs_4 : List (MethodName × Nat) := [(⟨"RefusedMayAskModel", "says", "(IIII)I"⟩, 58), (⟨"RefusedMayAskModel", "mayAsk", "(II)Z"⟩, 58), (⟨"RefusedMayAskModel", "saysNo", "(III)Z"⟩, 58), (⟨"RefusedMayAskModel", "refuses", "(III)Z"⟩, 58), (⟨"RefusedMayAskModel", "wants", "(II)Z"⟩, 58), (⟨"RefusedMayAskModel", "answers", "(IIZ)V"⟩, 58), (⟨"RefusedMayAskModel", "lets", "(IIIIII)V"⟩, 58), (⟨"RefusedMayAskModel", "goes", "(I)I"⟩, 58), (⟨"RefusedMayAskModel", "gathers", "()V"⟩, 58), (⟨"RefusedMayAskModel", "pairs", "(III)V"⟩, 58), (⟨"RefusedMayAskModel", "isLawful", "()Z"⟩, 58), (⟨"RefusedMayAskModel", "isSteady", "()Z"⟩, 58), (⟨"RefusedMayAskModel", "manOf", "(I)I"⟩, 58), (⟨"RefusedMayAskModel", "laysAside", "()V"⟩, 58), (⟨"RefusedMayAskModel", "laysBack", "()V"⟩, 58)]
theorem lw_r4 : ∀ q ∈ lw_privs_4, lw_okq q := List.forall_mem_cons.mpr ⟨lw_p48, List.forall_mem_cons.mpr ⟨lw_p49, List.forall_mem_cons.mpr ⟨lw_p50, List.forall_mem_cons.mpr ⟨lw_p51, List.forall_mem_cons.mpr ⟨lw_p52, List.forall_mem_cons.mpr ⟨lw_p53, List.forall_mem_cons.mpr ⟨lw_p54, List.forall_mem_cons.mpr ⟨lw_p55, List.forall_mem_cons.mpr ⟨lw_p56, List.forall_mem_cons.mpr ⟨lw_p57, List.forall_mem_cons.mpr ⟨lw_p58, List.forall_mem_cons.mpr ⟨lw_p59, List.forall_mem_cons.mpr ⟨lw_p60, List.forall_mem_cons.mpr ⟨lw_p61, List.forall_mem_cons.mpr ⟨lw_p62, fun _ h => absurd h List.not_mem_nil⟩⟩⟩⟩⟩⟩⟩⟩⟩⟩⟩⟩⟩⟩⟩
def lw_privs : List (MethodName × Nat) := lw_privs_1 ++ (lw_privs_2 ++ (lw_privs_3 ++ (lw_privs_4)))
def lw_tbl : List Cond := k2_sels lw_privs ++ tables_1
theorem lw_privs_ok : ∀ q ∈ lw_privs, lw_okq q := by
  show ∀ q ∈ lw_privs_1 ++ (lw_privs_2 ++ (lw_privs_3 ++ (lw_privs_4))), lw_okq q
  exact List.forall_mem_append.mpr ⟨lw_r1, List.forall_mem_append.mpr ⟨lw_r2, List.forall_mem_append.mpr ⟨lw_r3, lw_r4⟩⟩⟩
end
section
def RX0 : String := "RefusedMayAsk$Kind"
def TX0 : u_T := fun k => match k with
  | _ => ("", "", "", false)
def tyX0 : Nat → FieldType := fun k => match k with
  | _ => .int
theorem nmX0 : ∀ a, a < 0 → ∀ b, b < 0 → a ≠ b → (TX0 a).2.1 ≠ (TX0 b).2.1 := by decide +kernel
theorem tyX0_ok : ∀ k, k < 0 → parseFieldDescriptor (TX0 k).2.2.1 = some (tyX0 k) := by decide +kernel
abbrev cX0_needs : ByteArray := prog_2_method_2_code
def yX0_needs : MethodName := ⟨RX0, "needs", "(II)I"⟩
abbrev cX0_refuses : ByteArray := prog_2_method_3_code
def yX0_refuses : MethodName := ⟨RX0, "refuses", "(IIII)Z"⟩
abbrev cX0_price : ByteArray := prog_2_method_4_code
def yX0_price : MethodName := ⟨RX0, "price", "(II)I"⟩
abbrev cX0_isUnder : ByteArray := prog_2_method_5_code
def yX0_isUnder : MethodName := ⟨RX0, "isUnder", "(II)Z"⟩
def RX1 : String := "RefusedMayAsk$Pairings"
def TX1 : u_T := fun k => match k with
  | 0 => ("RefusedMayAsk$Pairings", "rows", "[I", true)
  | 1 => ("RefusedMayAsk$Pairings", "content", "[I", true)
  | 2 => ("RefusedMayAsk$Pairings", "best", "[I", true)
  | 3 => ("RefusedMayAsk$Pairings", "allowed", "[Z", true)
  | 4 => ("RefusedMayAsk$Pairings", "worth", "[I", true)
  | 5 => ("RefusedMayAsk$Pairings", "wife", "[I", true)
  | _ => ("RefusedMayAsk$Pairings", "likesOwn", "[I", true)
def tyX1 : Nat → FieldType := fun k => match k with
  | 0 => .array .int
  | 1 => .array .int
  | 2 => .array .int
  | 3 => .array .boolean
  | 4 => .array .int
  | 5 => .array .int
  | _ => .array .int
theorem nmX1 : ∀ a, a < 7 → ∀ b, b < 7 → a ≠ b → (TX1 a).2.1 ≠ (TX1 b).2.1 := by decide +kernel
theorem tyX1_ok : ∀ k, k < 7 → parseFieldDescriptor (TX1 k).2.2.1 = some (tyX1 k) := by decide +kernel
abbrev cX1_init : ByteArray := prog_3_method_1_code
def yX1_init : MethodName := ⟨RX1, "<init>", "()V"⟩
abbrev cX1_tryAll : ByteArray := prog_3_method_2_code
def yX1_tryAll : MethodName := ⟨RX1, "tryAll", "(LRefusedMayAsk$Town;)V"⟩
abbrev cX1_bestMaid : ByteArray := prog_3_method_3_code
def yX1_bestMaid : MethodName := ⟨RX1, "bestMaid", "(II)I"⟩
abbrev cX1_rank : ByteArray := prog_3_method_4_code
def yX1_rank : MethodName := ⟨RX1, "rank", "(LRefusedMayAsk$Town;[I)I"⟩
abbrev cX1_weigh : ByteArray := prog_3_method_5_code
def yX1_weigh : MethodName := ⟨RX1, "weigh", "(LRefusedMayAsk$Town;)V"⟩
abbrev cX1_pairFrom : ByteArray := prog_3_method_6_code
def yX1_pairFrom : MethodName := ⟨RX1, "pairFrom", "(LRefusedMayAsk$Town;III)V"⟩
abbrev cX1_enter : ByteArray := prog_3_method_7_code
def yX1_enter : MethodName := ⟨RX1, "enter", "(II)V"⟩
abbrev cX1_isSteady : ByteArray := prog_3_method_8_code
def yX1_isSteady : MethodName := ⟨RX1, "isSteady", "(LRefusedMayAsk$Town;)Z"⟩
def RX2 : String := "RefusedMayAsk$Reader"
def TX2 : u_T := fun k => match k with
  | 0 => ("RefusedMayAsk$Reader", "codes", "[I", true)
  | 1 => ("RefusedMayAsk$Reader", "ends", "[I", true)
  | 2 => ("RefusedMayAsk$Reader", "size", "I", false)
  | 3 => ("RefusedMayAsk$Reader", "tape", "[I", true)
  | 4 => ("RefusedMayAsk$Reader", "length", "I", false)
  | 5 => ("RefusedMayAsk$Reader", "place", "I", false)
  | 6 => ("RefusedMayAsk$Reader", "start", "I", false)
  | 7 => ("RefusedMayAsk$Reader", "token", "I", false)
  | 8 => ("RefusedMayAsk$Reader", "value", "I", false)
  | _ => ("RefusedMayAsk$Reader", "fault", "I", false)
def tyX2 : Nat → FieldType := fun k => match k with
  | 0 => .array .int
  | 1 => .array .int
  | 2 => .int
  | 3 => .array .int
  | 4 => .int
  | 5 => .int
  | 6 => .int
  | 7 => .int
  | 8 => .int
  | _ => .int
theorem nmX2 : ∀ a, a < 10 → ∀ b, b < 10 → a ≠ b → (TX2 a).2.1 ≠ (TX2 b).2.1 := by decide +kernel
theorem tyX2_ok : ∀ k, k < 10 → parseFieldDescriptor (TX2 k).2.2.1 = some (tyX2 k) := by decide +kernel
abbrev cX2_init : ByteArray := prog_4_method_1_code
def yX2_init : MethodName := ⟨RX2, "<init>", "()V"⟩
abbrev cX2_append : ByteArray := prog_4_method_2_code
def yX2_append : MethodName := ⟨RX2, "append", "(I)Z"⟩
abbrev cX2_read : ByteArray := prog_4_method_3_code
def yX2_read : MethodName := ⟨RX2, "read", "()I"⟩
abbrev cX2_readLevel : ByteArray := prog_4_method_4_code
def yX2_readLevel : MethodName := ⟨RX2, "readLevel", "(II)V"⟩
abbrev cX2_levelOf : ByteArray := prog_4_method_5_code
def yX2_levelOf : MethodName := ⟨RX2, "levelOf", "(I)I"⟩
abbrev cX2_readOne : ByteArray := prog_4_method_6_code
def yX2_readOne : MethodName := ⟨RX2, "readOne", "(I)V"⟩
abbrev cX2_enter : ByteArray := prog_4_method_7_code
def yX2_enter : MethodName := ⟨RX2, "enter", "(I)Z"⟩
abbrev cX2_expect : ByteArray := prog_4_method_8_code
def yX2_expect : MethodName := ⟨RX2, "expect", "(I)V"⟩
abbrev cX2_fail : ByteArray := prog_4_method_9_code
def yX2_fail : MethodName := ⟨RX2, "fail", "()V"⟩
abbrev cX2_emit : ByteArray := prog_4_method_10_code
def yX2_emit : MethodName := ⟨RX2, "emit", "(I)V"⟩
abbrev cX2_advance : ByteArray := prog_4_method_11_code
def yX2_advance : MethodName := ⟨RX2, "advance", "()V"⟩
abbrev cX2_takeWord : ByteArray := prog_4_method_12_code
def yX2_takeWord : MethodName := ⟨RX2, "takeWord", "()V"⟩
abbrev cX2_takeNumber : ByteArray := prog_4_method_13_code
def yX2_takeNumber : MethodName := ⟨RX2, "takeNumber", "()V"⟩
abbrev cX2_spells : ByteArray := prog_4_method_14_code
def yX2_spells : MethodName := ⟨RX2, "spells", "(Ljava/lang/String;)Z"⟩
abbrev cX2_spelling : ByteArray := prog_4_method_15_code
def yX2_spelling : MethodName := ⟨RX2, "spelling", "(I)Ljava/lang/String;"⟩
abbrev cX2_isLetter : ByteArray := prog_4_method_16_code
def yX2_isLetter : MethodName := ⟨RX2, "isLetter", "(I)Z"⟩
abbrev cX2_isDigit : ByteArray := prog_4_method_17_code
def yX2_isDigit : MethodName := ⟨RX2, "isDigit", "(I)Z"⟩
abbrev cX2_isSign : ByteArray := prog_4_method_18_code
def yX2_isSign : MethodName := ⟨RX2, "isSign", "(I)Z"⟩
def RX3 : String := "RefusedMayAsk$Rule"
def TX3 : u_T := fun k => match k with
  | 0 => ("RefusedMayAsk$Rule", "number", "I", true)
  | 1 => ("RefusedMayAsk$Rule", "codes", "[I", true)
  | 2 => ("RefusedMayAsk$Rule", "ends", "[I", true)
  | _ => ("RefusedMayAsk$Rule", "stack", "[I", true)
def tyX3 : Nat → FieldType := fun k => match k with
  | 0 => .int
  | 1 => .array .int
  | 2 => .array .int
  | _ => .array .int
theorem nmX3 : ∀ a, a < 4 → ∀ b, b < 4 → a ≠ b → (TX3 a).2.1 ≠ (TX3 b).2.1 := by decide +kernel
theorem tyX3_ok : ∀ k, k < 4 → parseFieldDescriptor (TX3 k).2.2.1 = some (tyX3 k) := by decide +kernel
abbrev cX3_init : ByteArray := prog_5_method_1_code
def yX3_init : MethodName := ⟨RX3, "<init>", "(I)V"⟩
abbrev cX3_adopt : ByteArray := prog_5_method_2_code
def yX3_adopt : MethodName := ⟨RX3, "adopt", "([I[I)V"⟩
abbrev cX3_value : ByteArray := prog_5_method_3_code
def yX3_value : MethodName := ⟨RX3, "value", "(I[I)I"⟩
abbrev cX3_turned : ByteArray := prog_5_method_4_code
def yX3_turned : MethodName := ⟨RX3, "turned", "(II)I"⟩
abbrev cX3_joined : ByteArray := prog_5_method_5_code
def yX3_joined : MethodName := ⟨RX3, "joined", "(III)I"⟩
def RX4 : String := "RefusedMayAsk$Sheet"
def TX4 : u_T := fun k => match k with
  | 0 => ("RefusedMayAsk$Sheet", "sort", "I", false)
  | 1 => ("RefusedMayAsk$Sheet", "size", "I", false)
  | _ => ("RefusedMayAsk$Sheet", "items", "[I", true)
def tyX4 : Nat → FieldType := fun k => match k with
  | 0 => .int
  | 1 => .int
  | _ => .array .int
theorem nmX4 : ∀ a, a < 3 → ∀ b, b < 3 → a ≠ b → (TX4 a).2.1 ≠ (TX4 b).2.1 := by decide +kernel
theorem tyX4_ok : ∀ k, k < 3 → parseFieldDescriptor (TX4 k).2.2.1 = some (tyX4 k) := by decide +kernel
abbrev cX4_init : ByteArray := prog_6_method_1_code
def yX4_init : MethodName := ⟨RX4, "<init>", "()V"⟩
abbrev cX4_isMissing : ByteArray := prog_6_method_2_code
def yX4_isMissing : MethodName := ⟨RX4, "isMissing", "()Z"⟩
abbrev cX4_lay : ByteArray := prog_6_method_3_code
def yX4_lay : MethodName := ⟨RX4, "lay", "(II)V"⟩
abbrev cX4_holds : ByteArray := prog_6_method_4_code
def yX4_holds : MethodName := ⟨RX4, "holds", "(II)Z"⟩
abbrev cX4_put : ByteArray := prog_6_method_5_code
def yX4_put : MethodName := ⟨RX4, "put", "(II)V"⟩
def RX5 : String := "RefusedMayAsk$Town"
def TX5 : u_T := fun k => match k with
  | 0 => ("RefusedMayAsk$Town", "men", "I", false)
  | 1 => ("RefusedMayAsk$Town", "maids", "I", false)
  | 2 => ("RefusedMayAsk$Town", "month", "I", false)
  | 3 => ("RefusedMayAsk$Town", "rule", "LRefusedMayAsk$Rule;", false)
  | 4 => ("RefusedMayAsk$Town", "askings", "I", false)
  | 5 => ("RefusedMayAsk$Town", "prices", "I", false)
  | 6 => ("RefusedMayAsk$Town", "noes", "[I", true)
  | 7 => ("RefusedMayAsk$Town", "wife", "[I", true)
  | 8 => ("RefusedMayAsk$Town", "kind", "[I", true)
  | 9 => ("RefusedMayAsk$Town", "number", "[I", true)
  | 10 => ("RefusedMayAsk$Town", "his", "[I", true)
  | 11 => ("RefusedMayAsk$Town", "hers", "[I", true)
  | _ => ("RefusedMayAsk$Town", "names", "[I", true)
def tyX5 : Nat → FieldType := fun k => match k with
  | 0 => .int
  | 1 => .int
  | 2 => .int
  | 3 => .object "RefusedMayAsk$Rule"
  | 4 => .int
  | 5 => .int
  | 6 => .array .int
  | 7 => .array .int
  | 8 => .array .int
  | 9 => .array .int
  | 10 => .array .int
  | 11 => .array .int
  | _ => .array .int
theorem nmX5 : ∀ a, a < 13 → ∀ b, b < 13 → a ≠ b → (TX5 a).2.1 ≠ (TX5 b).2.1 := by decide +kernel
theorem tyX5_ok : ∀ k, k < 13 → parseFieldDescriptor (TX5 k).2.2.1 = some (tyX5 k) := by decide +kernel
abbrev cX5_init : ByteArray := prog_7_method_1_code
def yX5_init : MethodName := ⟨RX5, "<init>", "(LRefusedMayAsk$Rule;)V"⟩
abbrev cX5_at : ByteArray := prog_7_method_2_code
def yX5_at : MethodName := ⟨RX5, "at", "(II)I"⟩
abbrev cX5_resemble : ByteArray := prog_7_method_3_code
def yX5_resemble : MethodName := ⟨RX5, "resemble", "(LRefusedMayAsk$Town;)V"⟩
abbrev cX5_husband : ByteArray := prog_7_method_4_code
def yX5_husband : MethodName := ⟨RX5, "husband", "(I)I"⟩
abbrev cX5_marriedMen : ByteArray := prog_7_method_5_code
def yX5_marriedMen : MethodName := ⟨RX5, "marriedMen", "()I"⟩
abbrev cX5_mayAsk : ByteArray := prog_7_method_6_code
def yX5_mayAsk : MethodName := ⟨RX5, "mayAsk", "(II)Z"⟩
abbrev cX5_saysNo : ByteArray := prog_7_method_7_code
def yX5_saysNo : MethodName := ⟨RX5, "saysNo", "(II)Z"⟩
abbrev cX5_worth : ByteArray := prog_7_method_8_code
def yX5_worth : MethodName := ⟨RX5, "worth", "(II)I"⟩
abbrev cX5_wants : ByteArray := prog_7_method_9_code
def yX5_wants : MethodName := ⟨RX5, "wants", "(II)Z"⟩
abbrev cX5_ruled : ByteArray := prog_7_method_10_code
def yX5_ruled : MethodName := ⟨RX5, "ruled", "(III)I"⟩
abbrev cX5_asking : ByteArray := prog_7_method_11_code
def yX5_asking : MethodName := ⟨RX5, "asking", "(II)Z"⟩
abbrev cX5_endAsking : ByteArray := prog_7_method_12_code
def yX5_endAsking : MethodName := ⟨RX5, "endAsking", "(IIZ)V"⟩
abbrev cX5_choice : ByteArray := prog_7_method_13_code
def yX5_choice : MethodName := ⟨RX5, "choice", "(I)I"⟩
abbrev cX5_drawHers : ByteArray := prog_7_method_14_code
def yX5_drawHers : MethodName := ⟨RX5, "drawHers", "(I)V"⟩
def RX6 : String := "RefusedMayAsk$Ways"
def TX6 : u_T := fun k => match k with
  | 0 => ("RefusedMayAsk$Ways", "asked", "[I", true)
  | 1 => ("RefusedMayAsk$Ways", "found", "Z", false)
  | 2 => ("RefusedMayAsk$Ways", "length", "I", false)
  | 3 => ("RefusedMayAsk$Ways", "prices", "I", false)
  | _ => ("RefusedMayAsk$Ways", "path", "[I", true)
def tyX6 : Nat → FieldType := fun k => match k with
  | 0 => .array .int
  | 1 => .boolean
  | 2 => .int
  | 3 => .int
  | _ => .array .int
theorem nmX6 : ∀ a, a < 5 → ∀ b, b < 5 → a ≠ b → (TX6 a).2.1 ≠ (TX6 b).2.1 := by decide +kernel
theorem tyX6_ok : ∀ k, k < 5 → parseFieldDescriptor (TX6 k).2.2.1 = some (tyX6 k) := by decide +kernel
abbrev cX6_init : ByteArray := prog_8_method_1_code
def yX6_init : MethodName := ⟨RX6, "<init>", "()V"⟩
abbrev cX6_seek : ByteArray := prog_8_method_2_code
def yX6_seek : MethodName := ⟨RX6, "seek", "(LRefusedMayAsk$Town;III)V"⟩
abbrev cX6_goOn : ByteArray := prog_8_method_3_code
def yX6_goOn : MethodName := ⟨RX6, "goOn", "(LRefusedMayAsk$Town;IIIII)V"⟩
abbrev cX6_isBetter : ByteArray := prog_8_method_4_code
def yX6_isBetter : MethodName := ⟨RX6, "isBetter", "(III)Z"⟩
abbrev cX6_keep : ByteArray := prog_8_method_5_code
def yX6_keep : MethodName := ⟨RX6, "keep", "(II)V"⟩
def RX7 : String := "RefusedMayAsk"
def TX7 : u_T := fun k => match k with
  | 0 => ("RefusedMayAsk", "reader", "LRefusedMayAsk$Reader;", true)
  | 1 => ("RefusedMayAsk", "rules", "[LRefusedMayAsk$Rule;", true)
  | 2 => ("RefusedMayAsk", "texts", "I", false)
  | 3 => ("RefusedMayAsk", "town", "LRefusedMayAsk$Town;", true)
  | 4 => ("RefusedMayAsk", "thought", "LRefusedMayAsk$Town;", true)
  | 5 => ("RefusedMayAsk", "kept", "LRefusedMayAsk$Town;", true)
  | 6 => ("RefusedMayAsk", "hasImage", "Z", false)
  | 7 => ("RefusedMayAsk", "pairs", "LRefusedMayAsk$Pairings;", true)
  | 8 => ("RefusedMayAsk", "ways", "LRefusedMayAsk$Ways;", true)
  | _ => ("RefusedMayAsk", "sheets", "[LRefusedMayAsk$Sheet;", true)
def tyX7 : Nat → FieldType := fun k => match k with
  | 0 => .object "RefusedMayAsk$Reader"
  | 1 => .array (.object "RefusedMayAsk$Rule")
  | 2 => .int
  | 3 => .object "RefusedMayAsk$Town"
  | 4 => .object "RefusedMayAsk$Town"
  | 5 => .object "RefusedMayAsk$Town"
  | 6 => .boolean
  | 7 => .object "RefusedMayAsk$Pairings"
  | 8 => .object "RefusedMayAsk$Ways"
  | _ => .array (.object "RefusedMayAsk$Sheet")
theorem nmX7 : ∀ a, a < 10 → ∀ b, b < 10 → a ≠ b → (TX7 a).2.1 ≠ (TX7 b).2.1 := by decide +kernel
theorem tyX7_ok : ∀ k, k < 10 → parseFieldDescriptor (TX7 k).2.2.1 = some (tyX7 k) := by decide +kernel
abbrev cX7_init : ByteArray := prog_1_method_1_code
def yX7_init : MethodName := ⟨RX7, "<init>", "()V"⟩
abbrev cX7_man : ByteArray := prog_1_method_2_code
def yX7_man : MethodName := ⟨RX7, "man", "(I)I"⟩
abbrev cX7_maid : ByteArray := prog_1_method_3_code
def yX7_maid : MethodName := ⟨RX7, "maid", "(II)I"⟩
abbrev cX7_likes : ByteArray := prog_1_method_4_code
def yX7_likes : MethodName := ⟨RX7, "likes", "(IIII)I"⟩
abbrev cX7_set : ByteArray := prog_1_method_5_code
def yX7_set : MethodName := ⟨RX7, "set", "(III)I"⟩
abbrev cX7_told : ByteArray := prog_1_method_6_code
def yX7_told : MethodName := ⟨RX7, "told", "(III)I"⟩
abbrev cX7_of : ByteArray := prog_1_method_7_code
def yX7_of : MethodName := ⟨RX7, "of", "(II)I"⟩
abbrev cX7_ofMaid : ByteArray := prog_1_method_8_code
def yX7_ofMaid : MethodName := ⟨RX7, "ofMaid", "(II)I"⟩
abbrev cX7_ofMan : ByteArray := prog_1_method_9_code
def yX7_ofMan : MethodName := ⟨RX7, "ofMan", "(II)I"⟩
abbrev cX7_feed : ByteArray := prog_1_method_10_code
def yX7_feed : MethodName := ⟨RX7, "feed", "(I)I"⟩
abbrev cX7_text : ByteArray := prog_1_method_11_code
def yX7_text : MethodName := ⟨RX7, "text", "()I"⟩
abbrev cX7_force : ByteArray := prog_1_method_12_code
def yX7_force : MethodName := ⟨RX7, "force", "(I)I"⟩
abbrev cX7_ask : ByteArray := prog_1_method_13_code
def yX7_ask : MethodName := ⟨RX7, "ask", "(II)I"⟩
abbrev cX7_part : ByteArray := prog_1_method_14_code
def yX7_part : MethodName := ⟨RX7, "part", "(I)I"⟩
abbrev cX7_way : ByteArray := prog_1_method_15_code
def yX7_way : MethodName := ⟨RX7, "way", "(IIII)I"⟩
abbrev cX7_mistake : ByteArray := prog_1_method_16_code
def yX7_mistake : MethodName := ⟨RX7, "mistake", "(I)I"⟩
abbrev cX7_sure : ByteArray := prog_1_method_17_code
def yX7_sure : MethodName := ⟨RX7, "sure", "(I)I"⟩
abbrev cX7_refusesFromNowOn : ByteArray := prog_1_method_18_code
def yX7_refusesFromNowOn : MethodName := ⟨RX7, "refusesFromNowOn", "(II)Z"⟩
abbrev cX7_pairings : ByteArray := prog_1_method_19_code
def yX7_pairings : MethodName := ⟨RX7, "pairings", "(I)I"⟩
abbrev cX7_best : ByteArray := prog_1_method_20_code
def yX7_best : MethodName := ⟨RX7, "best", "(II)I"⟩
abbrev cX7_row : ByteArray := prog_1_method_21_code
def yX7_row : MethodName := ⟨RX7, "row", "(I)I"⟩
abbrev cX7_year : ByteArray := prog_1_method_22_code
def yX7_year : MethodName := ⟨RX7, "year", "(II)I"⟩
abbrev cX7_passRound : ByteArray := prog_1_method_23_code
def yX7_passRound : MethodName := ⟨RX7, "passRound", "()V"⟩
abbrev cX7_judge : ByteArray := prog_1_method_24_code
def yX7_judge : MethodName := ⟨RX7, "judge", "(II)I"⟩
abbrev cX7_drawn : ByteArray := prog_1_method_25_code
def yX7_drawn : MethodName := ⟨RX7, "drawn", "(I)I"⟩
abbrev cX7_chance : ByteArray := prog_1_method_26_code
def yX7_chance : MethodName := ⟨RX7, "chance", "(III)J"⟩
abbrev cX7_commonDivisor : ByteArray := prog_1_method_27_code
def yX7_commonDivisor : MethodName := ⟨RX7, "commonDivisor", "(II)I"⟩
abbrev cX7_image : ByteArray := prog_1_method_28_code
def yX7_image : MethodName := ⟨RX7, "image", "()I"⟩
abbrev cX7_back : ByteArray := prog_1_method_29_code
def yX7_back : MethodName := ⟨RX7, "back", "()I"⟩
abbrev cX7_count : ByteArray := prog_1_method_30_code
def yX7_count : MethodName := ⟨RX7, "count", "(I)I"⟩
abbrev cX7_sheet : ByteArray := prog_1_method_31_code
def yX7_sheet : MethodName := ⟨RX7, "sheet", "(III)I"⟩
abbrev cX7_cell : ByteArray := prog_1_method_32_code
def yX7_cell : MethodName := ⟨RX7, "cell", "(III)I"⟩
abbrev cX7_copy : ByteArray := prog_1_method_33_code
def yX7_copy : MethodName := ⟨RX7, "copy", "(IIIII)I"⟩
abbrev cX7_likings : ByteArray := prog_1_method_34_code
def yX7_likings : MethodName := ⟨RX7, "likings", "(IIII)I"⟩
abbrev cX7_taken : ByteArray := prog_1_method_35_code
def yX7_taken : MethodName := ⟨RX7, "taken", "(II)I"⟩
abbrev cX7_within : ByteArray := prog_1_method_36_code
def yX7_within : MethodName := ⟨RX7, "within", "(III)Z"⟩
abbrev cX7_isMan : ByteArray := prog_1_method_37_code
def yX7_isMan : MethodName := ⟨RX7, "isMan", "(I)Z"⟩
abbrev cX7_isMaid : ByteArray := prog_1_method_38_code
def yX7_isMaid : MethodName := ⟨RX7, "isMaid", "(I)Z"⟩
abbrev cX7_arePair : ByteArray := prog_1_method_39_code
def yX7_arePair : MethodName := ⟨RX7, "arePair", "(II)Z"⟩
abbrev cX7_isSheet : ByteArray := prog_1_method_40_code
def yX7_isSheet : MethodName := ⟨RX7, "isSheet", "(I)Z"⟩
abbrev cX7_replace : ByteArray := prog_1_method_41_code
def yX7_replace : MethodName := ⟨RX7, "replace", "([III)I"⟩
abbrev cX7_replaceMonth : ByteArray := prog_1_method_42_code
def yX7_replaceMonth : MethodName := ⟨RX7, "replaceMonth", "(I)I"⟩
def RX8 : String := "RefusedMayAskModel"
def TX8 : u_T := fun k => match k with
  | 0 => ("RefusedMayAskModel", "thrown", "I", false)
  | 1 => ("RefusedMayAskModel", "texts", "[I", true)
  | 2 => ("RefusedMayAskModel", "textSize", "[I", true)
  | 3 => ("RefusedMayAskModel", "textCount", "I", false)
  | 4 => ("RefusedMayAskModel", "rule", "I", false)
  | 5 => ("RefusedMayAskModel", "tape", "[I", true)
  | 6 => ("RefusedMayAskModel", "taped", "I", false)
  | 7 => ("RefusedMayAskModel", "men", "I", false)
  | 8 => ("RefusedMayAskModel", "maids", "I", false)
  | 9 => ("RefusedMayAskModel", "like", "[I", true)
  | 10 => ("RefusedMayAskModel", "hers", "[I", true)
  | 11 => ("RefusedMayAskModel", "noes", "[I", true)
  | 12 => ("RefusedMayAskModel", "wife", "[I", true)
  | 13 => ("RefusedMayAskModel", "husband", "[I", true)
  | 14 => ("RefusedMayAskModel", "kinds", "[I", true)
  | 15 => ("RefusedMayAskModel", "numbers", "[I", true)
  | 16 => ("RefusedMayAskModel", "month", "I", false)
  | 17 => ("RefusedMayAskModel", "ofLike", "I", false)
  | 18 => ("RefusedMayAskModel", "ofHers", "I", false)
  | 19 => ("RefusedMayAskModel", "ofNoes", "I", false)
  | 20 => ("RefusedMayAskModel", "ofMonth", "I", false)
  | 21 => ("RefusedMayAskModel", "ofMan", "I", false)
  | 22 => ("RefusedMayAskModel", "ofMaid", "I", false)
  | 23 => ("RefusedMayAskModel", "from", "I", false)
  | 24 => ("RefusedMayAskModel", "size", "I", false)
  | 25 => ("RefusedMayAskModel", "here", "I", false)
  | 26 => ("RefusedMayAskModel", "token", "I", false)
  | 27 => ("RefusedMayAskModel", "tokenAt", "I", false)
  | 28 => ("RefusedMayAskModel", "tokenWorth", "J", false)
  | 29 => ("RefusedMayAskModel", "open", "I", false)
  | 30 => ("RefusedMayAskModel", "bad", "Z", false)
  | 31 => ("RefusedMayAskModel", "fault", "I", false)
  | 32 => ("RefusedMayAskModel", "noesWas", "[I", true)
  | 33 => ("RefusedMayAskModel", "wifeWas", "[I", true)
  | 34 => ("RefusedMayAskModel", "husbandWas", "[I", true)
  | 35 => ("RefusedMayAskModel", "monthWas", "I", false)
  | 36 => ("RefusedMayAskModel", "row", "[I", true)
  | 37 => ("RefusedMayAskModel", "bestRow", "[I", true)
  | 38 => ("RefusedMayAskModel", "bestMany", "I", false)
  | 39 => ("RefusedMayAskModel", "bestPrice", "I", false)
  | 40 => ("RefusedMayAskModel", "pair", "[I", true)
  | 41 => ("RefusedMayAskModel", "bestPair", "[I", true)
  | 42 => ("RefusedMayAskModel", "rows", "I", false)
  | 43 => ("RefusedMayAskModel", "bestContent", "I", false)
  | 44 => ("RefusedMayAskModel", "nos", "[Z", true)
  | 45 => ("RefusedMayAskModel", "worths", "[I", true)
  | 46 => ("RefusedMayAskModel", "hersWas", "[I", true)
  | 47 => ("RefusedMayAskModel", "likeKept", "[I", true)
  | 48 => ("RefusedMayAskModel", "hersKept", "[I", true)
  | 49 => ("RefusedMayAskModel", "peopleKept", "[I", true)
  | 50 => ("RefusedMayAskModel", "menKept", "I", false)
  | 51 => ("RefusedMayAskModel", "maidsKept", "I", false)
  | 52 => ("RefusedMayAskModel", "monthKept", "I", false)
  | 53 => ("RefusedMayAskModel", "ruleKept", "I", false)
  | 54 => ("RefusedMayAskModel", "isThere", "[Z", true)
  | 55 => ("RefusedMayAskModel", "sorts", "[I", true)
  | 56 => ("RefusedMayAskModel", "sheetSize", "[I", true)
  | _ => ("RefusedMayAskModel", "items", "[I", true)
def tyX8 : Nat → FieldType := fun k => match k with
  | 0 => .int
  | 1 => .array .int
  | 2 => .array .int
  | 3 => .int
  | 4 => .int
  | 5 => .array .int
  | 6 => .int
  | 7 => .int
  | 8 => .int
  | 9 => .array .int
  | 10 => .array .int
  | 11 => .array .int
  | 12 => .array .int
  | 13 => .array .int
  | 14 => .array .int
  | 15 => .array .int
  | 16 => .int
  | 17 => .int
  | 18 => .int
  | 19 => .int
  | 20 => .int
  | 21 => .int
  | 22 => .int
  | 23 => .int
  | 24 => .int
  | 25 => .int
  | 26 => .int
  | 27 => .int
  | 28 => .long
  | 29 => .int
  | 30 => .boolean
  | 31 => .int
  | 32 => .array .int
  | 33 => .array .int
  | 34 => .array .int
  | 35 => .int
  | 36 => .array .int
  | 37 => .array .int
  | 38 => .int
  | 39 => .int
  | 40 => .array .int
  | 41 => .array .int
  | 42 => .int
  | 43 => .int
  | 44 => .array .boolean
  | 45 => .array .int
  | 46 => .array .int
  | 47 => .array .int
  | 48 => .array .int
  | 49 => .array .int
  | 50 => .int
  | 51 => .int
  | 52 => .int
  | 53 => .int
  | 54 => .array .boolean
  | 55 => .array .int
  | 56 => .array .int
  | _ => .array .int
theorem nmX8 : ∀ a, a < 58 → ∀ b, b < 58 → a ≠ b → (TX8 a).2.1 ≠ (TX8 b).2.1 := by decide +kernel
theorem tyX8_ok : ∀ k, k < 58 → parseFieldDescriptor (TX8 k).2.2.1 = some (tyX8 k) := by decide +kernel
abbrev cX8_in : ByteArray := prog_10_method_2_code
def yX8_in : MethodName := ⟨RX8, "in", "(JJJ)Z"⟩
abbrev cX8_within : ByteArray := prog_10_method_3_code
def yX8_within : MethodName := ⟨RX8, "within", "(III)I"⟩
abbrev cX8_init : ByteArray := prog_10_method_4_code
def yX8_init : MethodName := ⟨RX8, "<init>", "()V"⟩
abbrev cX8_spell : ByteArray := prog_10_method_5_code
def yX8_spell : MethodName := ⟨RX8, "spell", "(IIIIIIIII)V"⟩
abbrev cX8_isMan : ByteArray := prog_10_method_6_code
def yX8_isMan : MethodName := ⟨RX8, "isMan", "(I)Z"⟩
abbrev cX8_isMaid : ByteArray := prog_10_method_7_code
def yX8_isMaid : MethodName := ⟨RX8, "isMaid", "(I)Z"⟩
abbrev cX8_man : ByteArray := prog_10_method_8_code
def yX8_man : MethodName := ⟨RX8, "man", "(I)I"⟩
abbrev cX8_maid : ByteArray := prog_10_method_9_code
def yX8_maid : MethodName := ⟨RX8, "maid", "(II)I"⟩
abbrev cX8_likes : ByteArray := prog_10_method_10_code
def yX8_likes : MethodName := ⟨RX8, "likes", "(IIII)I"⟩
abbrev cX8_set : ByteArray := prog_10_method_11_code
def yX8_set : MethodName := ⟨RX8, "set", "(III)I"⟩
abbrev cX8_needs : ByteArray := prog_10_method_12_code
def yX8_needs : MethodName := ⟨RX8, "needs", "(I)I"⟩
abbrev cX8_refuses : ByteArray := prog_10_method_13_code
def yX8_refuses : MethodName := ⟨RX8, "refuses", "(III)Z"⟩
abbrev cX8_price : ByteArray := prog_10_method_14_code
def yX8_price : MethodName := ⟨RX8, "price", "(I)I"⟩
abbrev cX8_of : ByteArray := prog_10_method_15_code
def yX8_of : MethodName := ⟨RX8, "of", "(II)I"⟩
abbrev cX8_feed : ByteArray := prog_10_method_16_code
def yX8_feed : MethodName := ⟨RX8, "feed", "(I)I"⟩
abbrev cX8_byteAt : ByteArray := prog_10_method_17_code
def yX8_byteAt : MethodName := ⟨RX8, "byteAt", "(I)I"⟩
abbrev cX8_next : ByteArray := prog_10_method_18_code
def yX8_next : MethodName := ⟨RX8, "next", "()V"⟩
abbrev cX8_fail : ByteArray := prog_10_method_19_code
def yX8_fail : MethodName := ⟨RX8, "fail", "()V"⟩
abbrev cX8_isLetter : ByteArray := prog_10_method_20_code
def yX8_isLetter : MethodName := ⟨RX8, "isLetter", "(II)Z"⟩
abbrev cX8_isWord : ByteArray := prog_10_method_21_code
def yX8_isWord : MethodName := ⟨RX8, "isWord", "(IIIIIIII)Z"⟩
abbrev cX8_isSign : ByteArray := prog_10_method_22_code
def yX8_isSign : MethodName := ⟨RX8, "isSign", "(I)Z"⟩
abbrev cX8_opens : ByteArray := prog_10_method_23_code
def yX8_opens : MethodName := ⟨RX8, "opens", "()Z"⟩
abbrev cX8_name : ByteArray := prog_10_method_24_code
def yX8_name : MethodName := ⟨RX8, "name", "()I"⟩
abbrev cX8_atom : ByteArray := prog_10_method_25_code
def yX8_atom : MethodName := ⟨RX8, "atom", "()I"⟩
abbrev cX8_term : ByteArray := prog_10_method_26_code
def yX8_term : MethodName := ⟨RX8, "term", "()I"⟩
abbrev cX8_added : ByteArray := prog_10_method_27_code
def yX8_added : MethodName := ⟨RX8, "added", "()I"⟩
abbrev cX8_not : ByteArray := prog_10_method_28_code
def yX8_not : MethodName := ⟨RX8, "not", "()I"⟩
abbrev cX8_both : ByteArray := prog_10_method_29_code
def yX8_both : MethodName := ⟨RX8, "both", "()I"⟩
abbrev cX8_either : ByteArray := prog_10_method_30_code
def yX8_either : MethodName := ⟨RX8, "either", "()I"⟩
abbrev cX8_part : ByteArray := prog_10_method_31_code
def yX8_part : MethodName := ⟨RX8, "part", "(Z)I"⟩
abbrev cX8_read : ByteArray := prog_10_method_32_code
def yX8_read : MethodName := ⟨RX8, "read", "(II)I"⟩
abbrev cX8_text : ByteArray := prog_10_method_33_code
def yX8_text : MethodName := ⟨RX8, "text", "()I"⟩
abbrev cX8_force : ByteArray := prog_10_method_34_code
def yX8_force : MethodName := ⟨RX8, "force", "(I)I"⟩
abbrev cX8_says : ByteArray := prog_10_method_35_code
def yX8_says : MethodName := ⟨RX8, "says", "(IIII)I"⟩
abbrev cX8_saysNo : ByteArray := prog_10_method_36_code
def yX8_saysNo : MethodName := ⟨RX8, "saysNo", "(III)Z"⟩
abbrev cX8_mayAsk : ByteArray := prog_10_method_37_code
def yX8_mayAsk : MethodName := ⟨RX8, "mayAsk", "(II)Z"⟩
abbrev cX8_worth : ByteArray := prog_10_method_38_code
def yX8_worth : MethodName := ⟨RX8, "worth", "(II)I"⟩
abbrev cX8_wants : ByteArray := prog_10_method_39_code
def yX8_wants : MethodName := ⟨RX8, "wants", "(II)Z"⟩
abbrev cX8_told : ByteArray := prog_10_method_40_code
def yX8_told : MethodName := ⟨RX8, "told", "(III)I"⟩
abbrev cX8_answers : ByteArray := prog_10_method_41_code
def yX8_answers : MethodName := ⟨RX8, "answers", "(IIZ)V"⟩
abbrev cX8_ask : ByteArray := prog_10_method_42_code
def yX8_ask : MethodName := ⟨RX8, "ask", "(II)I"⟩
abbrev cX8_part_ : ByteArray := prog_10_method_43_code
def yX8_part_ : MethodName := ⟨RX8, "part", "(I)I"⟩
abbrev cX8_laysAside : ByteArray := prog_10_method_44_code
def yX8_laysAside : MethodName := ⟨RX8, "laysAside", "()V"⟩
abbrev cX8_laysBack : ByteArray := prog_10_method_45_code
def yX8_laysBack : MethodName := ⟨RX8, "laysBack", "()V"⟩
abbrev cX8_lets : ByteArray := prog_10_method_46_code
def yX8_lets : MethodName := ⟨RX8, "lets", "(IIIIII)V"⟩
abbrev cX8_way : ByteArray := prog_10_method_47_code
def yX8_way : MethodName := ⟨RX8, "way", "(IIII)I"⟩
abbrev cX8_mistake : ByteArray := prog_10_method_48_code
def yX8_mistake : MethodName := ⟨RX8, "mistake", "(I)I"⟩
abbrev cX8_sure : ByteArray := prog_10_method_49_code
def yX8_sure : MethodName := ⟨RX8, "sure", "(I)I"⟩
abbrev cX8_gathers : ByteArray := prog_10_method_50_code
def yX8_gathers : MethodName := ⟨RX8, "gathers", "()V"⟩
abbrev cX8_isLawful : ByteArray := prog_10_method_51_code
def yX8_isLawful : MethodName := ⟨RX8, "isLawful", "()Z"⟩
abbrev cX8_manOf : ByteArray := prog_10_method_52_code
def yX8_manOf : MethodName := ⟨RX8, "manOf", "(I)I"⟩
abbrev cX8_isSteady : ByteArray := prog_10_method_53_code
def yX8_isSteady : MethodName := ⟨RX8, "isSteady", "()Z"⟩
abbrev cX8_pairs : ByteArray := prog_10_method_54_code
def yX8_pairs : MethodName := ⟨RX8, "pairs", "(III)V"⟩
abbrev cX8_goes : ByteArray := prog_10_method_55_code
def yX8_goes : MethodName := ⟨RX8, "goes", "(I)I"⟩
abbrev cX8_pairings : ByteArray := prog_10_method_56_code
def yX8_pairings : MethodName := ⟨RX8, "pairings", "(I)I"⟩
abbrev cX8_best : ByteArray := prog_10_method_57_code
def yX8_best : MethodName := ⟨RX8, "best", "(II)I"⟩
abbrev cX8_row : ByteArray := prog_10_method_58_code
def yX8_row : MethodName := ⟨RX8, "row", "(I)I"⟩
abbrev cX8_year : ByteArray := prog_10_method_59_code
def yX8_year : MethodName := ⟨RX8, "year", "(II)I"⟩
abbrev cX8_judge : ByteArray := prog_10_method_60_code
def yX8_judge : MethodName := ⟨RX8, "judge", "(II)I"⟩
abbrev cX8_drawn : ByteArray := prog_10_method_61_code
def yX8_drawn : MethodName := ⟨RX8, "drawn", "(I)I"⟩
abbrev cX8_chance : ByteArray := prog_10_method_62_code
def yX8_chance : MethodName := ⟨RX8, "chance", "(III)J"⟩
abbrev cX8_image : ByteArray := prog_10_method_63_code
def yX8_image : MethodName := ⟨RX8, "image", "()I"⟩
abbrev cX8_back : ByteArray := prog_10_method_64_code
def yX8_back : MethodName := ⟨RX8, "back", "()I"⟩
abbrev cX8_count : ByteArray := prog_10_method_65_code
def yX8_count : MethodName := ⟨RX8, "count", "(I)I"⟩
abbrev cX8_isSheet : ByteArray := prog_10_method_66_code
def yX8_isSheet : MethodName := ⟨RX8, "isSheet", "(I)Z"⟩
abbrev cX8_sheet : ByteArray := prog_10_method_67_code
def yX8_sheet : MethodName := ⟨RX8, "sheet", "(III)I"⟩
abbrev cX8_cell : ByteArray := prog_10_method_68_code
def yX8_cell : MethodName := ⟨RX8, "cell", "(III)I"⟩
abbrev cX8_copy : ByteArray := prog_10_method_69_code
def yX8_copy : MethodName := ⟨RX8, "copy", "(IIIII)I"⟩
abbrev cX8_likings : ByteArray := prog_10_method_70_code
def yX8_likings : MethodName := ⟨RX8, "likings", "(IIII)I"⟩
abbrev cX8_over : ByteArray := prog_10_method_71_code
def yX8_over : MethodName := ⟨RX8, "over", "(I)I"⟩
abbrev cX8_taken : ByteArray := prog_10_method_72_code
def yX8_taken : MethodName := ⟨RX8, "taken", "(II)I"⟩
def RJ9 : String := "java/lang/Math"
def TJ9 : u_T := fun k => match k with
  | _ => ("", "", "", false)
def tyJ9 : Nat → FieldType := fun k => match k with
  | _ => .int
theorem nmJ9 : ∀ a, a < 0 → ∀ b, b < 0 → a ≠ b → (TJ9 a).2.1 ≠ (TJ9 b).2.1 := by decide +kernel
theorem tyJ9_ok : ∀ k, k < 0 → parseFieldDescriptor (TJ9 k).2.2.1 = some (tyJ9 k) := by decide +kernel
abbrev cJ9_max_7cf53 : ByteArray := prog_11_method_65_code
def yJ9_max_7cf53 : MethodName := ⟨RJ9, "max", "(II)I"⟩
abbrev cJ9_min_7cf53 : ByteArray := prog_11_method_69_code
def yJ9_min_7cf53 : MethodName := ⟨RJ9, "min", "(II)I"⟩
def RJ0 : String := "java/lang/String"
def TJ0 : u_T := fun k => match k with
  | _ => ("", "", "", false)
def tyJ0 : Nat → FieldType := fun k => match k with
  | _ => .int
theorem nmJ0 : ∀ a, a < 0 → ∀ b, b < 0 → a ≠ b → (TJ0 a).2.1 ≠ (TJ0 b).2.1 := by decide +kernel
theorem tyJ0_ok : ∀ k, k < 0 → parseFieldDescriptor (TJ0 k).2.2.1 = some (tyJ0 k) := by decide +kernel
abbrev cJ0_length_8abf5 : ByteArray := prog_12_method_54_code
def yJ0_length_8abf5 : MethodName := ⟨RJ0, "length", "()I"⟩
abbrev cJ0_charAt_5068e : ByteArray := prog_12_method_56_code
def yJ0_charAt_5068e : MethodName := ⟨RJ0, "charAt", "(I)C"⟩
abbrev cJ0_coder_7d493 : ByteArray := prog_12_method_152_code
def yJ0_coder_7d493 : MethodName := ⟨RJ0, "coder", "()B"⟩
abbrev cJ0_isLatin1_aae02 : ByteArray := prog_12_method_154_code
def yJ0_isLatin1_aae02 : MethodName := ⟨RJ0, "isLatin1", "()Z"⟩
abbrev cJ0_checkIndex_df160 : ByteArray := prog_12_method_155_code
def yJ0_checkIndex_df160 : MethodName := ⟨RJ0, "checkIndex", "(II)V"⟩
def RJ1 : String := "java/lang/StringLatin1"
def TJ1 : u_T := fun k => match k with
  | _ => ("", "", "", false)
def tyJ1 : Nat → FieldType := fun k => match k with
  | _ => .int
theorem nmJ1 : ∀ a, a < 0 → ∀ b, b < 0 → a ≠ b → (TJ1 a).2.1 ≠ (TJ1 b).2.1 := by decide +kernel
theorem tyJ1_ok : ∀ k, k < 0 → parseFieldDescriptor (TJ1 k).2.2.1 = some (tyJ1 k) := by decide +kernel
abbrev cJ1_charAt_3b067 : ByteArray := prog_13_method_2_code
def yJ1_charAt_3b067 : MethodName := ⟨RJ1, "charAt", "([BI)C"⟩
def RJ2 : String := "java/lang/StringUTF16"
def TJ2 : u_T := fun k => match k with
  | _ => ("", "", "", false)
def tyJ2 : Nat → FieldType := fun k => match k with
  | _ => .int
theorem nmJ2 : ∀ a, a < 0 → ∀ b, b < 0 → a ≠ b → (TJ2 a).2.1 ≠ (TJ2 b).2.1 := by decide +kernel
theorem tyJ2_ok : ∀ k, k < 0 → parseFieldDescriptor (TJ2 k).2.2.1 = some (tyJ2 k) := by decide +kernel
abbrev cJ2_getChar_3b067 : ByteArray := prog_14_method_5_code
def yJ2_getChar_3b067 : MethodName := ⟨RJ2, "getChar", "([BI)C"⟩
abbrev cJ2_length_9d52b : ByteArray := prog_14_method_6_code
def yJ2_length_9d52b : MethodName := ⟨RJ2, "length", "([B)I"⟩
abbrev cJ2_charAt_3b067 : ByteArray := prog_14_method_83_code
def yJ2_charAt_3b067 : MethodName := ⟨RJ2, "charAt", "([BI)C"⟩
abbrev cJ2_checkIndex_2214a : ByteArray := prog_14_method_91_code
def yJ2_checkIndex_2214a : MethodName := ⟨RJ2, "checkIndex", "(I[B)V"⟩
def RJ10 : String := "java/lang/System"
def TJ10 : u_T := fun k => match k with
  | _ => ("", "", "", false)
def tyJ10 : Nat → FieldType := fun k => match k with
  | _ => .int
theorem nmJ10 : ∀ a, a < 0 → ∀ b, b < 0 → a ≠ b → (TJ10 a).2.1 ≠ (TJ10 b).2.1 := by decide +kernel
theorem tyJ10_ok : ∀ k, k < 0 → parseFieldDescriptor (TJ10 k).2.2.1 = some (tyJ10 k) := by decide +kernel
def RJ7 : String := "java/util/Arrays"
def TJ7 : u_T := fun k => match k with
  | _ => ("", "", "", false)
def tyJ7 : Nat → FieldType := fun k => match k with
  | _ => .int
theorem nmJ7 : ∀ a, a < 0 → ∀ b, b < 0 → a ≠ b → (TJ7 a).2.1 ≠ (TJ7 b).2.1 := by decide +kernel
theorem tyJ7_ok : ∀ k, k < 0 → parseFieldDescriptor (TJ7 k).2.2.1 = some (tyJ7 k) := by decide +kernel
abbrev cJ7_fill_53178 : ByteArray := prog_16_method_103_code
def yJ7_fill_53178 : MethodName := ⟨RJ7, "fill", "([II)V"⟩
def RJ3 : String := "jdk/internal/util/Preconditions"
def TJ3 : u_T := fun k => match k with
  | _ => ("", "", "", false)
def tyJ3 : Nat → FieldType := fun k => match k with
  | _ => .int
theorem nmJ3 : ∀ a, a < 0 → ∀ b, b < 0 → a ≠ b → (TJ3 a).2.1 ≠ (TJ3 b).2.1 := by decide +kernel
theorem tyJ3_ok : ∀ k, k < 0 → parseFieldDescriptor (TJ3 k).2.2.1 = some (tyJ3 k) := by decide +kernel
abbrev cJ3_checkIndex_8e157 : ByteArray := prog_17_method_11_code
def yJ3_checkIndex_8e157 : MethodName := ⟨RJ3, "checkIndex", "(IILjava/util/function/BiFunction;)I"⟩
end
section
theorem dX0_needs_0 : decode cX0_needs 0 = .ok (.iload_n 0, 1) := by decide +kernel
theorem dX0_needs_1 : decode cX0_needs 1 = .ok (.tableswitch 61 1 5 #[35, 37, 43, 35, 49], 35) := by decide +kernel
theorem dX0_needs_36 : decode cX0_needs 36 = .ok (.iconst 0, 1) := by decide +kernel
theorem dX0_needs_37 : decode cX0_needs 37 = .ok (.ireturn, 1) := by decide +kernel
theorem dX0_needs_38 : decode cX0_needs 38 = .ok (.iconst 1, 1) := by decide +kernel
theorem dX0_needs_39 : decode cX0_needs 39 = .ok (.iload_n 1, 1) := by decide +kernel
theorem dX0_needs_40 : decode cX0_needs 40 = .ok (.iconst 3, 1) := by decide +kernel
theorem dX0_needs_41 : decode cX0_needs 41 = .ok (.irem, 1) := by decide +kernel
theorem dX0_needs_42 : decode cX0_needs 42 = .ok (.iadd, 1) := by decide +kernel
theorem dX0_needs_43 : decode cX0_needs 43 = .ok (.ireturn, 1) := by decide +kernel
theorem dX0_needs_44 : decode cX0_needs 44 = .ok (.iconst 2, 1) := by decide +kernel
theorem dX0_needs_45 : decode cX0_needs 45 = .ok (.iload_n 1, 1) := by decide +kernel
theorem dX0_needs_46 : decode cX0_needs 46 = .ok (.iconst 3, 1) := by decide +kernel
theorem dX0_needs_47 : decode cX0_needs 47 = .ok (.irem, 1) := by decide +kernel
theorem dX0_needs_48 : decode cX0_needs 48 = .ok (.iadd, 1) := by decide +kernel
theorem dX0_needs_49 : decode cX0_needs 49 = .ok (.ireturn, 1) := by decide +kernel
theorem dX0_needs_50 : decode cX0_needs 50 = .ok (.iload_n 1, 1) := by decide +kernel
theorem dX0_needs_51 : decode cX0_needs 51 = .ok (.iconst 2, 1) := by decide +kernel
theorem dX0_needs_52 : decode cX0_needs 52 = .ok (.irem, 1) := by decide +kernel
theorem dX0_needs_53 : decode cX0_needs 53 = .ok (.ifCond .ne 7, 3) := by decide +kernel
theorem dX0_needs_56 : decode cX0_needs 56 = .ok (.iconst 0, 1) := by decide +kernel
theorem dX0_needs_57 : decode cX0_needs 57 = .ok (.goto 4, 3) := by decide +kernel
theorem dX0_needs_60 : decode cX0_needs 60 = .ok (.iconst 1, 1) := by decide +kernel
theorem dX0_needs_61 : decode cX0_needs 61 = .ok (.ireturn, 1) := by decide +kernel
theorem dX0_needs_62 : decode cX0_needs 62 = .ok (.iconst 1, 1) := by decide +kernel
theorem dX0_needs_63 : decode cX0_needs 63 = .ok (.ireturn, 1) := by decide +kernel
theorem dX0_refuses_0 : decode cX0_refuses 0 = .ok (.iload_n 2, 1) := by decide +kernel
theorem dX0_refuses_1 : decode cX0_refuses 1 = .ok (.bipush 50, 2) := by decide +kernel
theorem dX0_refuses_3 : decode cX0_refuses 3 = .ok (.if_icmp .ge 7, 3) := by decide +kernel
theorem dX0_refuses_6 : decode cX0_refuses 6 = .ok (.iconst 1, 1) := by decide +kernel
theorem dX0_refuses_7 : decode cX0_refuses 7 = .ok (.goto 4, 3) := by decide +kernel
theorem dX0_refuses_10 : decode cX0_refuses 10 = .ok (.iconst 0, 1) := by decide +kernel
theorem dX0_refuses_11 : decode cX0_refuses 11 = .ok (.istore 4, 2) := by decide +kernel
theorem dX0_refuses_13 : decode cX0_refuses 13 = .ok (.iload_n 0, 1) := by decide +kernel
theorem dX0_refuses_14 : decode cX0_refuses 14 = .ok (.tableswitch 107 1 5 #[34, 53, 69, 91, 93], 34) := by decide +kernel
theorem dX0_refuses_48 : decode cX0_refuses 48 = .ok (.iload 4, 2) := by decide +kernel
theorem dX0_refuses_50 : decode cX0_refuses 50 = .ok (.ifCond .eq 15, 3) := by decide +kernel
theorem dX0_refuses_53 : decode cX0_refuses 53 = .ok (.iload_n 2, 1) := by decide +kernel
theorem dX0_refuses_54 : decode cX0_refuses 54 = .ok (.bipush 10, 2) := by decide +kernel
theorem dX0_refuses_56 : decode cX0_refuses 56 = .ok (.iload_n 1, 1) := by decide +kernel
theorem dX0_refuses_57 : decode cX0_refuses 57 = .ok (.imul, 1) := by decide +kernel
theorem dX0_refuses_58 : decode cX0_refuses 58 = .ok (.if_icmp .ge 7, 3) := by decide +kernel
theorem dX0_refuses_61 : decode cX0_refuses 61 = .ok (.iconst 1, 1) := by decide +kernel
theorem dX0_refuses_62 : decode cX0_refuses 62 = .ok (.goto 4, 3) := by decide +kernel
theorem dX0_refuses_65 : decode cX0_refuses 65 = .ok (.iconst 0, 1) := by decide +kernel
theorem dX0_refuses_66 : decode cX0_refuses 66 = .ok (.ireturn, 1) := by decide +kernel
theorem dX0_refuses_67 : decode cX0_refuses 67 = .ok (.iload 4, 2) := by decide +kernel
theorem dX0_refuses_69 : decode cX0_refuses 69 = .ok (.ifCond .ne 8, 3) := by decide +kernel
theorem dX0_refuses_72 : decode cX0_refuses 72 = .ok (.iload_n 3, 1) := by decide +kernel
theorem dX0_refuses_73 : decode cX0_refuses 73 = .ok (.iconst 2, 1) := by decide +kernel
theorem dX0_refuses_74 : decode cX0_refuses 74 = .ok (.if_icmp .le 7, 3) := by decide +kernel
theorem dX0_refuses_77 : decode cX0_refuses 77 = .ok (.iconst 1, 1) := by decide +kernel
theorem dX0_refuses_78 : decode cX0_refuses 78 = .ok (.goto 4, 3) := by decide +kernel
theorem dX0_refuses_81 : decode cX0_refuses 81 = .ok (.iconst 0, 1) := by decide +kernel
theorem dX0_refuses_82 : decode cX0_refuses 82 = .ok (.ireturn, 1) := by decide +kernel
theorem dX0_refuses_83 : decode cX0_refuses 83 = .ok (.iload 4, 2) := by decide +kernel
theorem dX0_refuses_85 : decode cX0_refuses 85 = .ok (.ifCond .ne 14, 3) := by decide +kernel
theorem dX0_refuses_88 : decode cX0_refuses 88 = .ok (.iload_n 3, 1) := by decide +kernel
theorem dX0_refuses_89 : decode cX0_refuses 89 = .ok (.iconst 2, 1) := by decide +kernel
theorem dX0_refuses_90 : decode cX0_refuses 90 = .ok (.if_icmp .gt 9, 3) := by decide +kernel
theorem dX0_refuses_93 : decode cX0_refuses 93 = .ok (.iload_n 2, 1) := by decide +kernel
theorem dX0_refuses_94 : decode cX0_refuses 94 = .ok (.bipush 70, 2) := by decide +kernel
theorem dX0_refuses_96 : decode cX0_refuses 96 = .ok (.if_icmp .ge 7, 3) := by decide +kernel
theorem dX0_refuses_99 : decode cX0_refuses 99 = .ok (.iconst 1, 1) := by decide +kernel
theorem dX0_refuses_100 : decode cX0_refuses 100 = .ok (.goto 4, 3) := by decide +kernel
theorem dX0_refuses_103 : decode cX0_refuses 103 = .ok (.iconst 0, 1) := by decide +kernel
theorem dX0_refuses_104 : decode cX0_refuses 104 = .ok (.ireturn, 1) := by decide +kernel
theorem dX0_refuses_105 : decode cX0_refuses 105 = .ok (.iconst 1, 1) := by decide +kernel
theorem dX0_refuses_106 : decode cX0_refuses 106 = .ok (.ireturn, 1) := by decide +kernel
theorem dX0_refuses_107 : decode cX0_refuses 107 = .ok (.iload_n 3, 1) := by decide +kernel
theorem dX0_refuses_108 : decode cX0_refuses 108 = .ok (.iload_n 1, 1) := by decide +kernel
theorem dX0_refuses_109 : decode cX0_refuses 109 = .ok (.iadd, 1) := by decide +kernel
theorem dX0_refuses_110 : decode cX0_refuses 110 = .ok (.iconst 2, 1) := by decide +kernel
theorem dX0_refuses_111 : decode cX0_refuses 111 = .ok (.irem, 1) := by decide +kernel
theorem dX0_refuses_112 : decode cX0_refuses 112 = .ok (.ifCond .eq 7, 3) := by decide +kernel
theorem dX0_refuses_115 : decode cX0_refuses 115 = .ok (.iconst 1, 1) := by decide +kernel
theorem dX0_refuses_116 : decode cX0_refuses 116 = .ok (.goto 4, 3) := by decide +kernel
theorem dX0_refuses_119 : decode cX0_refuses 119 = .ok (.iconst 0, 1) := by decide +kernel
theorem dX0_refuses_120 : decode cX0_refuses 120 = .ok (.ireturn, 1) := by decide +kernel
theorem dX0_refuses_121 : decode cX0_refuses 121 = .ok (.iload 4, 2) := by decide +kernel
theorem dX0_refuses_123 : decode cX0_refuses 123 = .ok (.ireturn, 1) := by decide +kernel
theorem dX0_price_0 : decode cX0_price 0 = .ok (.iload_n 0, 1) := by decide +kernel
theorem dX0_price_1 : decode cX0_price 1 = .ok (.tableswitch 59 1 5 #[35, 39, 43, 53, 55], 35) := by decide +kernel
theorem dX0_price_36 : decode cX0_price 36 = .ok (.iload_n 1, 1) := by decide +kernel
theorem dX0_price_37 : decode cX0_price 37 = .ok (.iconst 5, 1) := by decide +kernel
theorem dX0_price_38 : decode cX0_price 38 = .ok (.iadd, 1) := by decide +kernel
theorem dX0_price_39 : decode cX0_price 39 = .ok (.ireturn, 1) := by decide +kernel
theorem dX0_price_40 : decode cX0_price 40 = .ok (.iconst 2, 1) := by decide +kernel
theorem dX0_price_41 : decode cX0_price 41 = .ok (.iload_n 1, 1) := by decide +kernel
theorem dX0_price_42 : decode cX0_price 42 = .ok (.imul, 1) := by decide +kernel
theorem dX0_price_43 : decode cX0_price 43 = .ok (.ireturn, 1) := by decide +kernel
theorem dX0_price_44 : decode cX0_price 44 = .ok (.iconst 2, 1) := by decide +kernel
theorem dX0_price_45 : decode cX0_price 45 = .ok (.iload_n 1, 1) := by decide +kernel
theorem dX0_price_46 : decode cX0_price 46 = .ok (.imul, 1) := by decide +kernel
theorem dX0_price_47 : decode cX0_price 47 = .ok (.iconst 3, 1) := by decide +kernel
theorem dX0_price_48 : decode cX0_price 48 = .ok (.isub, 1) := by decide +kernel
theorem dX0_price_49 : decode cX0_price 49 = .ok (.iconst 0, 1) := by decide +kernel
theorem dX0_price_50 : decode cX0_price 50 = .ok (.invokestatic 11, 3) := by decide +kernel
theorem dX0_price_53 : decode cX0_price 53 = .ok (.ireturn, 1) := by decide +kernel
theorem dX0_price_54 : decode cX0_price 54 = .ok (.iconst 0, 1) := by decide +kernel
theorem dX0_price_55 : decode cX0_price 55 = .ok (.ireturn, 1) := by decide +kernel
theorem dX0_price_56 : decode cX0_price 56 = .ok (.iload_n 1, 1) := by decide +kernel
theorem dX0_price_57 : decode cX0_price 57 = .ok (.iconst 1, 1) := by decide +kernel
theorem dX0_price_58 : decode cX0_price 58 = .ok (.iadd, 1) := by decide +kernel
theorem dX0_price_59 : decode cX0_price 59 = .ok (.ireturn, 1) := by decide +kernel
theorem dX0_price_60 : decode cX0_price 60 = .ok (.iload_n 1, 1) := by decide +kernel
theorem dX0_price_61 : decode cX0_price 61 = .ok (.ireturn, 1) := by decide +kernel
theorem dX0_isUnder_0 : decode cX0_isUnder 0 = .ok (.iload_n 0, 1) := by decide +kernel
theorem dX0_isUnder_1 : decode cX0_isUnder 1 = .ok (.istore_n 2, 1) := by decide +kernel
theorem dX0_isUnder_2 : decode cX0_isUnder 2 = .ok (.iconst 0, 1) := by decide +kernel
theorem dX0_isUnder_3 : decode cX0_isUnder 3 = .ok (.istore_n 3, 1) := by decide +kernel
theorem dX0_isUnder_4 : decode cX0_isUnder 4 = .ok (.iload_n 3, 1) := by decide +kernel
theorem dX0_isUnder_5 : decode cX0_isUnder 5 = .ok (.iconst 5, 1) := by decide +kernel
theorem dX0_isUnder_6 : decode cX0_isUnder 6 = .ok (.if_icmp .gt 27, 3) := by decide +kernel
theorem dX0_isUnder_9 : decode cX0_isUnder 9 = .ok (.iload_n 2, 1) := by decide +kernel
theorem dX0_isUnder_10 : decode cX0_isUnder 10 = .ok (.iconst (-1), 1) := by decide +kernel
theorem dX0_isUnder_11 : decode cX0_isUnder 11 = .ok (.if_icmp .eq 22, 3) := by decide +kernel
theorem dX0_isUnder_14 : decode cX0_isUnder 14 = .ok (.iload_n 2, 1) := by decide +kernel
theorem dX0_isUnder_15 : decode cX0_isUnder 15 = .ok (.iload_n 1, 1) := by decide +kernel
theorem dX0_isUnder_16 : decode cX0_isUnder 16 = .ok (.if_icmp .ne 5, 3) := by decide +kernel
theorem dX0_isUnder_19 : decode cX0_isUnder 19 = .ok (.iconst 1, 1) := by decide +kernel
theorem dX0_isUnder_20 : decode cX0_isUnder 20 = .ok (.ireturn, 1) := by decide +kernel
theorem dX0_isUnder_21 : decode cX0_isUnder 21 = .ok (.getstatic 17, 3) := by decide +kernel
theorem dX0_isUnder_24 : decode cX0_isUnder 24 = .ok (.iload_n 2, 1) := by decide +kernel
theorem dX0_isUnder_25 : decode cX0_isUnder 25 = .ok (.iaload, 1) := by decide +kernel
theorem dX0_isUnder_26 : decode cX0_isUnder 26 = .ok (.istore_n 2, 1) := by decide +kernel
theorem dX0_isUnder_27 : decode cX0_isUnder 27 = .ok (.iinc 3 1, 3) := by decide +kernel
theorem dX0_isUnder_30 : decode cX0_isUnder 30 = .ok (.goto (-26), 3) := by decide +kernel
theorem dX0_isUnder_33 : decode cX0_isUnder 33 = .ok (.iconst 0, 1) := by decide +kernel
theorem dX0_isUnder_34 : decode cX0_isUnder 34 = .ok (.ireturn, 1) := by decide +kernel
theorem dX1_init_0 : decode cX1_init 0 = .ok (.aload_n 0, 1) := by decide +kernel
theorem dX1_init_1 : decode cX1_init 1 = .ok (.invokespecial 3, 3) := by decide +kernel
theorem dX1_init_4 : decode cX1_init 4 = .ok (.aload_n 0, 1) := by decide +kernel
theorem dX1_init_5 : decode cX1_init 5 = .ok (.iconst 2, 1) := by decide +kernel
theorem dX1_init_6 : decode cX1_init 6 = .ok (.newarray .int, 2) := by decide +kernel
theorem dX1_init_8 : decode cX1_init 8 = .ok (.putfield 11, 3) := by decide +kernel
theorem dX1_init_11 : decode cX1_init 11 = .ok (.aload_n 0, 1) := by decide +kernel
theorem dX1_init_12 : decode cX1_init 12 = .ok (.iconst 2, 1) := by decide +kernel
theorem dX1_init_13 : decode cX1_init 13 = .ok (.newarray .int, 2) := by decide +kernel
theorem dX1_init_15 : decode cX1_init 15 = .ok (.putfield 15, 3) := by decide +kernel
theorem dX1_init_18 : decode cX1_init 18 = .ok (.aload_n 0, 1) := by decide +kernel
theorem dX1_init_19 : decode cX1_init 19 = .ok (.bipush 8, 2) := by decide +kernel
theorem dX1_init_21 : decode cX1_init 21 = .ok (.newarray .int, 2) := by decide +kernel
theorem dX1_init_23 : decode cX1_init 23 = .ok (.putfield 18, 3) := by decide +kernel
theorem dX1_init_26 : decode cX1_init 26 = .ok (.aload_n 0, 1) := by decide +kernel
theorem dX1_init_27 : decode cX1_init 27 = .ok (.bipush 16, 2) := by decide +kernel
theorem dX1_init_29 : decode cX1_init 29 = .ok (.newarray .boolean, 2) := by decide +kernel
theorem dX1_init_31 : decode cX1_init 31 = .ok (.putfield 21, 3) := by decide +kernel
theorem dX1_init_34 : decode cX1_init 34 = .ok (.aload_n 0, 1) := by decide +kernel
theorem dX1_init_35 : decode cX1_init 35 = .ok (.bipush 16, 2) := by decide +kernel
theorem dX1_init_37 : decode cX1_init 37 = .ok (.newarray .int, 2) := by decide +kernel
theorem dX1_init_39 : decode cX1_init 39 = .ok (.putfield 25, 3) := by decide +kernel
theorem dX1_init_42 : decode cX1_init 42 = .ok (.aload_n 0, 1) := by decide +kernel
theorem dX1_init_43 : decode cX1_init 43 = .ok (.iconst 4, 1) := by decide +kernel
theorem dX1_init_44 : decode cX1_init 44 = .ok (.newarray .int, 2) := by decide +kernel
theorem dX1_init_46 : decode cX1_init 46 = .ok (.putfield 28, 3) := by decide +kernel
theorem dX1_init_49 : decode cX1_init 49 = .ok (.aload_n 0, 1) := by decide +kernel
theorem dX1_init_50 : decode cX1_init 50 = .ok (.iconst 4, 1) := by decide +kernel
theorem dX1_init_51 : decode cX1_init 51 = .ok (.newarray .int, 2) := by decide +kernel
theorem dX1_init_53 : decode cX1_init 53 = .ok (.putfield 31, 3) := by decide +kernel
theorem dX1_init_56 : decode cX1_init 56 = .ok (.return_, 1) := by decide +kernel
theorem dX1_tryAll_0 : decode cX1_tryAll 0 = .ok (.aload_n 0, 1) := by decide +kernel
theorem dX1_tryAll_1 : decode cX1_tryAll 1 = .ok (.aload_n 1, 1) := by decide +kernel
theorem dX1_tryAll_2 : decode cX1_tryAll 2 = .ok (.invokevirtual 34, 3) := by decide +kernel
theorem dX1_tryAll_5 : decode cX1_tryAll 5 = .ok (.aload_n 0, 1) := by decide +kernel
theorem dX1_tryAll_6 : decode cX1_tryAll 6 = .ok (.getfield 11, 3) := by decide +kernel
theorem dX1_tryAll_9 : decode cX1_tryAll 9 = .ok (.iconst 0, 1) := by decide +kernel
theorem dX1_tryAll_10 : decode cX1_tryAll 10 = .ok (.invokestatic 38, 3) := by decide +kernel
theorem dX1_tryAll_13 : decode cX1_tryAll 13 = .ok (.aload_n 0, 1) := by decide +kernel
theorem dX1_tryAll_14 : decode cX1_tryAll 14 = .ok (.getfield 15, 3) := by decide +kernel
theorem dX1_tryAll_17 : decode cX1_tryAll 17 = .ok (.iconst 0, 1) := by decide +kernel
theorem dX1_tryAll_18 : decode cX1_tryAll 18 = .ok (.invokestatic 38, 3) := by decide +kernel
theorem dX1_tryAll_21 : decode cX1_tryAll 21 = .ok (.aload_n 0, 1) := by decide +kernel
theorem dX1_tryAll_22 : decode cX1_tryAll 22 = .ok (.aload_n 1, 1) := by decide +kernel
theorem dX1_tryAll_23 : decode cX1_tryAll 23 = .ok (.iconst 0, 1) := by decide +kernel
theorem dX1_tryAll_24 : decode cX1_tryAll 24 = .ok (.iconst 0, 1) := by decide +kernel
theorem dX1_tryAll_25 : decode cX1_tryAll 25 = .ok (.iconst 0, 1) := by decide +kernel
theorem dX1_tryAll_26 : decode cX1_tryAll 26 = .ok (.invokevirtual 44, 3) := by decide +kernel
theorem dX1_tryAll_29 : decode cX1_tryAll 29 = .ok (.return_, 1) := by decide +kernel
theorem dX1_bestMaid_0 : decode cX1_bestMaid 0 = .ok (.aload_n 0, 1) := by decide +kernel
theorem dX1_bestMaid_1 : decode cX1_bestMaid 1 = .ok (.getfield 18, 3) := by decide +kernel
theorem dX1_bestMaid_4 : decode cX1_bestMaid 4 = .ok (.iload_n 1, 1) := by decide +kernel
theorem dX1_bestMaid_5 : decode cX1_bestMaid 5 = .ok (.iconst 4, 1) := by decide +kernel
theorem dX1_bestMaid_6 : decode cX1_bestMaid 6 = .ok (.imul, 1) := by decide +kernel
theorem dX1_bestMaid_7 : decode cX1_bestMaid 7 = .ok (.iload_n 2, 1) := by decide +kernel
theorem dX1_bestMaid_8 : decode cX1_bestMaid 8 = .ok (.iadd, 1) := by decide +kernel
theorem dX1_bestMaid_9 : decode cX1_bestMaid 9 = .ok (.iaload, 1) := by decide +kernel
theorem dX1_bestMaid_10 : decode cX1_bestMaid 10 = .ok (.ireturn, 1) := by decide +kernel
theorem dX1_rank_0 : decode cX1_rank 0 = .ok (.aload_n 0, 1) := by decide +kernel
theorem dX1_rank_1 : decode cX1_rank 1 = .ok (.aload_n 1, 1) := by decide +kernel
theorem dX1_rank_2 : decode cX1_rank 2 = .ok (.invokevirtual 34, 3) := by decide +kernel
theorem dX1_rank_5 : decode cX1_rank 5 = .ok (.iconst 0, 1) := by decide +kernel
theorem dX1_rank_6 : decode cX1_rank 6 = .ok (.istore_n 3, 1) := by decide +kernel
theorem dX1_rank_7 : decode cX1_rank 7 = .ok (.iconst 1, 1) := by decide +kernel
theorem dX1_rank_8 : decode cX1_rank 8 = .ok (.istore 4, 2) := by decide +kernel
theorem dX1_rank_10 : decode cX1_rank 10 = .ok (.iconst 0, 1) := by decide +kernel
theorem dX1_rank_11 : decode cX1_rank 11 = .ok (.istore 5, 2) := by decide +kernel
theorem dX1_rank_13 : decode cX1_rank 13 = .ok (.iload 5, 2) := by decide +kernel
theorem dX1_rank_15 : decode cX1_rank 15 = .ok (.aload_n 1, 1) := by decide +kernel
theorem dX1_rank_16 : decode cX1_rank 16 = .ok (.getfield 48, 3) := by decide +kernel
theorem dX1_rank_19 : decode cX1_rank 19 = .ok (.if_icmp .ge 97, 3) := by decide +kernel
theorem dX1_rank_22 : decode cX1_rank 22 = .ok (.aload_n 2, 1) := by decide +kernel
theorem dX1_rank_23 : decode cX1_rank 23 = .ok (.iload 5, 2) := by decide +kernel
theorem dX1_rank_25 : decode cX1_rank 25 = .ok (.iaload, 1) := by decide +kernel
theorem dX1_rank_26 : decode cX1_rank 26 = .ok (.istore 6, 2) := by decide +kernel
theorem dX1_rank_28 : decode cX1_rank 28 = .ok (.iload 6, 2) := by decide +kernel
theorem dX1_rank_30 : decode cX1_rank 30 = .ok (.iconst (-1), 1) := by decide +kernel
theorem dX1_rank_31 : decode cX1_rank 31 = .ok (.if_icmp .lt 28, 3) := by decide +kernel
theorem dX1_rank_34 : decode cX1_rank 34 = .ok (.iload 6, 2) := by decide +kernel
theorem dX1_rank_36 : decode cX1_rank 36 = .ok (.aload_n 1, 1) := by decide +kernel
theorem dX1_rank_37 : decode cX1_rank 37 = .ok (.getfield 54, 3) := by decide +kernel
theorem dX1_rank_40 : decode cX1_rank 40 = .ok (.if_icmp .ge 19, 3) := by decide +kernel
theorem dX1_rank_43 : decode cX1_rank 43 = .ok (.iload 6, 2) := by decide +kernel
theorem dX1_rank_45 : decode cX1_rank 45 = .ok (.iconst (-1), 1) := by decide +kernel
theorem dX1_rank_46 : decode cX1_rank 46 = .ok (.if_icmp .eq 15, 3) := by decide +kernel
theorem dX1_rank_49 : decode cX1_rank 49 = .ok (.iload_n 3, 1) := by decide +kernel
theorem dX1_rank_50 : decode cX1_rank 50 = .ok (.iload 6, 2) := by decide +kernel
theorem dX1_rank_52 : decode cX1_rank 52 = .ok (.ishr, 1) := by decide +kernel
theorem dX1_rank_53 : decode cX1_rank 53 = .ok (.iconst 1, 1) := by decide +kernel
theorem dX1_rank_54 : decode cX1_rank 54 = .ok (.iand, 1) := by decide +kernel
theorem dX1_rank_55 : decode cX1_rank 55 = .ok (.iconst 1, 1) := by decide +kernel
theorem dX1_rank_56 : decode cX1_rank 56 = .ok (.if_icmp .ne 5, 3) := by decide +kernel
theorem dX1_rank_59 : decode cX1_rank 59 = .ok (.iconst 0, 1) := by decide +kernel
theorem dX1_rank_60 : decode cX1_rank 60 = .ok (.ireturn, 1) := by decide +kernel
theorem dX1_rank_61 : decode cX1_rank 61 = .ok (.iload 6, 2) := by decide +kernel
theorem dX1_rank_63 : decode cX1_rank 63 = .ok (.iconst (-1), 1) := by decide +kernel
theorem dX1_rank_64 : decode cX1_rank 64 = .ok (.if_icmp .eq 37, 3) := by decide +kernel
theorem dX1_rank_67 : decode cX1_rank 67 = .ok (.iload_n 3, 1) := by decide +kernel
theorem dX1_rank_68 : decode cX1_rank 68 = .ok (.iconst 1, 1) := by decide +kernel
theorem dX1_rank_69 : decode cX1_rank 69 = .ok (.iload 6, 2) := by decide +kernel
theorem dX1_rank_71 : decode cX1_rank 71 = .ok (.ishl, 1) := by decide +kernel
theorem dX1_rank_72 : decode cX1_rank 72 = .ok (.ior, 1) := by decide +kernel
theorem dX1_rank_73 : decode cX1_rank 73 = .ok (.istore_n 3, 1) := by decide +kernel
theorem dX1_rank_74 : decode cX1_rank 74 = .ok (.iload 4, 2) := by decide +kernel
theorem dX1_rank_76 : decode cX1_rank 76 = .ok (.ifCond .eq 22, 3) := by decide +kernel
theorem dX1_rank_79 : decode cX1_rank 79 = .ok (.aload_n 0, 1) := by decide +kernel
theorem dX1_rank_80 : decode cX1_rank 80 = .ok (.getfield 21, 3) := by decide +kernel
theorem dX1_rank_83 : decode cX1_rank 83 = .ok (.iload 5, 2) := by decide +kernel
theorem dX1_rank_85 : decode cX1_rank 85 = .ok (.iload 6, 2) := by decide +kernel
theorem dX1_rank_87 : decode cX1_rank 87 = .ok (.invokestatic 57, 3) := by decide +kernel
theorem dX1_rank_90 : decode cX1_rank 90 = .ok (.baload, 1) := by decide +kernel
theorem dX1_rank_91 : decode cX1_rank 91 = .ok (.ifCond .eq 7, 3) := by decide +kernel
theorem dX1_rank_94 : decode cX1_rank 94 = .ok (.iconst 1, 1) := by decide +kernel
theorem dX1_rank_95 : decode cX1_rank 95 = .ok (.goto 4, 3) := by decide +kernel
theorem dX1_rank_98 : decode cX1_rank 98 = .ok (.iconst 0, 1) := by decide +kernel
theorem dX1_rank_99 : decode cX1_rank 99 = .ok (.istore 4, 2) := by decide +kernel
theorem dX1_rank_101 : decode cX1_rank 101 = .ok (.aload_n 0, 1) := by decide +kernel
theorem dX1_rank_102 : decode cX1_rank 102 = .ok (.getfield 28, 3) := by decide +kernel
theorem dX1_rank_105 : decode cX1_rank 105 = .ok (.iload 5, 2) := by decide +kernel
theorem dX1_rank_107 : decode cX1_rank 107 = .ok (.iload 6, 2) := by decide +kernel
theorem dX1_rank_109 : decode cX1_rank 109 = .ok (.iastore, 1) := by decide +kernel
theorem dX1_rank_110 : decode cX1_rank 110 = .ok (.iinc 5 1, 3) := by decide +kernel
theorem dX1_rank_113 : decode cX1_rank 113 = .ok (.goto (-100), 3) := by decide +kernel
theorem dX1_rank_116 : decode cX1_rank 116 = .ok (.iload 4, 2) := by decide +kernel
theorem dX1_rank_118 : decode cX1_rank 118 = .ok (.ifCond .ne 5, 3) := by decide +kernel
theorem dX1_rank_121 : decode cX1_rank 121 = .ok (.iconst 1, 1) := by decide +kernel
theorem dX1_rank_122 : decode cX1_rank 122 = .ok (.ireturn, 1) := by decide +kernel
theorem dX1_rank_123 : decode cX1_rank 123 = .ok (.aload_n 0, 1) := by decide +kernel
theorem dX1_rank_124 : decode cX1_rank 124 = .ok (.aload_n 1, 1) := by decide +kernel
theorem dX1_rank_125 : decode cX1_rank 125 = .ok (.invokevirtual 61, 3) := by decide +kernel
theorem dX1_rank_128 : decode cX1_rank 128 = .ok (.ifCond .eq 7, 3) := by decide +kernel
theorem dX1_rank_131 : decode cX1_rank 131 = .ok (.iconst 3, 1) := by decide +kernel
theorem dX1_rank_132 : decode cX1_rank 132 = .ok (.goto 4, 3) := by decide +kernel
theorem dX1_rank_135 : decode cX1_rank 135 = .ok (.iconst 2, 1) := by decide +kernel
theorem dX1_rank_136 : decode cX1_rank 136 = .ok (.ireturn, 1) := by decide +kernel
theorem dX1_weigh_0 : decode cX1_weigh 0 = .ok (.iconst 0, 1) := by decide +kernel
theorem dX1_weigh_1 : decode cX1_weigh 1 = .ok (.istore_n 2, 1) := by decide +kernel
theorem dX1_weigh_2 : decode cX1_weigh 2 = .ok (.iload_n 2, 1) := by decide +kernel
theorem dX1_weigh_3 : decode cX1_weigh 3 = .ok (.aload_n 1, 1) := by decide +kernel
theorem dX1_weigh_4 : decode cX1_weigh 4 = .ok (.getfield 48, 3) := by decide +kernel
theorem dX1_weigh_7 : decode cX1_weigh 7 = .ok (.if_icmp .ge 65, 3) := by decide +kernel
theorem dX1_weigh_10 : decode cX1_weigh 10 = .ok (.iconst 0, 1) := by decide +kernel
theorem dX1_weigh_11 : decode cX1_weigh 11 = .ok (.istore_n 3, 1) := by decide +kernel
theorem dX1_weigh_12 : decode cX1_weigh 12 = .ok (.iload_n 3, 1) := by decide +kernel
theorem dX1_weigh_13 : decode cX1_weigh 13 = .ok (.aload_n 1, 1) := by decide +kernel
theorem dX1_weigh_14 : decode cX1_weigh 14 = .ok (.getfield 54, 3) := by decide +kernel
theorem dX1_weigh_17 : decode cX1_weigh 17 = .ok (.if_icmp .ge 49, 3) := by decide +kernel
theorem dX1_weigh_20 : decode cX1_weigh 20 = .ok (.aload_n 0, 1) := by decide +kernel
theorem dX1_weigh_21 : decode cX1_weigh 21 = .ok (.getfield 21, 3) := by decide +kernel
theorem dX1_weigh_24 : decode cX1_weigh 24 = .ok (.iload_n 2, 1) := by decide +kernel
theorem dX1_weigh_25 : decode cX1_weigh 25 = .ok (.iload_n 3, 1) := by decide +kernel
theorem dX1_weigh_26 : decode cX1_weigh 26 = .ok (.invokestatic 57, 3) := by decide +kernel
theorem dX1_weigh_29 : decode cX1_weigh 29 = .ok (.aload_n 1, 1) := by decide +kernel
theorem dX1_weigh_30 : decode cX1_weigh 30 = .ok (.iload_n 2, 1) := by decide +kernel
theorem dX1_weigh_31 : decode cX1_weigh 31 = .ok (.iload_n 3, 1) := by decide +kernel
theorem dX1_weigh_32 : decode cX1_weigh 32 = .ok (.invokevirtual 65, 3) := by decide +kernel
theorem dX1_weigh_35 : decode cX1_weigh 35 = .ok (.ifCond .ne 7, 3) := by decide +kernel
theorem dX1_weigh_38 : decode cX1_weigh 38 = .ok (.iconst 1, 1) := by decide +kernel
theorem dX1_weigh_39 : decode cX1_weigh 39 = .ok (.goto 4, 3) := by decide +kernel
theorem dX1_weigh_42 : decode cX1_weigh 42 = .ok (.iconst 0, 1) := by decide +kernel
theorem dX1_weigh_43 : decode cX1_weigh 43 = .ok (.bastore, 1) := by decide +kernel
theorem dX1_weigh_44 : decode cX1_weigh 44 = .ok (.aload_n 0, 1) := by decide +kernel
theorem dX1_weigh_45 : decode cX1_weigh 45 = .ok (.getfield 25, 3) := by decide +kernel
theorem dX1_weigh_48 : decode cX1_weigh 48 = .ok (.iload_n 2, 1) := by decide +kernel
theorem dX1_weigh_49 : decode cX1_weigh 49 = .ok (.iload_n 3, 1) := by decide +kernel
theorem dX1_weigh_50 : decode cX1_weigh 50 = .ok (.invokestatic 57, 3) := by decide +kernel
theorem dX1_weigh_53 : decode cX1_weigh 53 = .ok (.aload_n 1, 1) := by decide +kernel
theorem dX1_weigh_54 : decode cX1_weigh 54 = .ok (.iload_n 2, 1) := by decide +kernel
theorem dX1_weigh_55 : decode cX1_weigh 55 = .ok (.iload_n 3, 1) := by decide +kernel
theorem dX1_weigh_56 : decode cX1_weigh 56 = .ok (.invokevirtual 69, 3) := by decide +kernel
theorem dX1_weigh_59 : decode cX1_weigh 59 = .ok (.iastore, 1) := by decide +kernel
theorem dX1_weigh_60 : decode cX1_weigh 60 = .ok (.iinc 3 1, 3) := by decide +kernel
theorem dX1_weigh_63 : decode cX1_weigh 63 = .ok (.goto (-51), 3) := by decide +kernel
theorem dX1_weigh_66 : decode cX1_weigh 66 = .ok (.iinc 2 1, 3) := by decide +kernel
theorem dX1_weigh_69 : decode cX1_weigh 69 = .ok (.goto (-67), 3) := by decide +kernel
theorem dX1_weigh_72 : decode cX1_weigh 72 = .ok (.return_, 1) := by decide +kernel
theorem dX1_pairFrom_0 : decode cX1_pairFrom 0 = .ok (.iload_n 2, 1) := by decide +kernel
theorem dX1_pairFrom_1 : decode cX1_pairFrom 1 = .ok (.aload_n 1, 1) := by decide +kernel
theorem dX1_pairFrom_2 : decode cX1_pairFrom 2 = .ok (.getfield 48, 3) := by decide +kernel
theorem dX1_pairFrom_5 : decode cX1_pairFrom 5 = .ok (.if_icmp .lt 26, 3) := by decide +kernel
theorem dX1_pairFrom_8 : decode cX1_pairFrom 8 = .ok (.aload_n 0, 1) := by decide +kernel
theorem dX1_pairFrom_9 : decode cX1_pairFrom 9 = .ok (.iconst 0, 1) := by decide +kernel
theorem dX1_pairFrom_10 : decode cX1_pairFrom 10 = .ok (.iload 4, 2) := by decide +kernel
theorem dX1_pairFrom_12 : decode cX1_pairFrom 12 = .ok (.invokevirtual 71, 3) := by decide +kernel
theorem dX1_pairFrom_15 : decode cX1_pairFrom 15 = .ok (.aload_n 0, 1) := by decide +kernel
theorem dX1_pairFrom_16 : decode cX1_pairFrom 16 = .ok (.aload_n 1, 1) := by decide +kernel
theorem dX1_pairFrom_17 : decode cX1_pairFrom 17 = .ok (.invokevirtual 61, 3) := by decide +kernel
theorem dX1_pairFrom_20 : decode cX1_pairFrom 20 = .ok (.ifCond .eq 10, 3) := by decide +kernel
theorem dX1_pairFrom_23 : decode cX1_pairFrom 23 = .ok (.aload_n 0, 1) := by decide +kernel
theorem dX1_pairFrom_24 : decode cX1_pairFrom 24 = .ok (.iconst 1, 1) := by decide +kernel
theorem dX1_pairFrom_25 : decode cX1_pairFrom 25 = .ok (.iload 4, 2) := by decide +kernel
theorem dX1_pairFrom_27 : decode cX1_pairFrom 27 = .ok (.invokevirtual 71, 3) := by decide +kernel
theorem dX1_pairFrom_30 : decode cX1_pairFrom 30 = .ok (.return_, 1) := by decide +kernel
theorem dX1_pairFrom_31 : decode cX1_pairFrom 31 = .ok (.aload_n 0, 1) := by decide +kernel
theorem dX1_pairFrom_32 : decode cX1_pairFrom 32 = .ok (.getfield 28, 3) := by decide +kernel
theorem dX1_pairFrom_35 : decode cX1_pairFrom 35 = .ok (.iload_n 2, 1) := by decide +kernel
theorem dX1_pairFrom_36 : decode cX1_pairFrom 36 = .ok (.iconst (-1), 1) := by decide +kernel
theorem dX1_pairFrom_37 : decode cX1_pairFrom 37 = .ok (.iastore, 1) := by decide +kernel
theorem dX1_pairFrom_38 : decode cX1_pairFrom 38 = .ok (.aload_n 0, 1) := by decide +kernel
theorem dX1_pairFrom_39 : decode cX1_pairFrom 39 = .ok (.aload_n 1, 1) := by decide +kernel
theorem dX1_pairFrom_40 : decode cX1_pairFrom 40 = .ok (.iload_n 2, 1) := by decide +kernel
theorem dX1_pairFrom_41 : decode cX1_pairFrom 41 = .ok (.iconst 1, 1) := by decide +kernel
theorem dX1_pairFrom_42 : decode cX1_pairFrom 42 = .ok (.iadd, 1) := by decide +kernel
theorem dX1_pairFrom_43 : decode cX1_pairFrom 43 = .ok (.iload_n 3, 1) := by decide +kernel
theorem dX1_pairFrom_44 : decode cX1_pairFrom 44 = .ok (.iload 4, 2) := by decide +kernel
theorem dX1_pairFrom_46 : decode cX1_pairFrom 46 = .ok (.invokevirtual 44, 3) := by decide +kernel
theorem dX1_pairFrom_49 : decode cX1_pairFrom 49 = .ok (.iconst 0, 1) := by decide +kernel
theorem dX1_pairFrom_50 : decode cX1_pairFrom 50 = .ok (.istore 5, 2) := by decide +kernel
theorem dX1_pairFrom_52 : decode cX1_pairFrom 52 = .ok (.iload 5, 2) := by decide +kernel
theorem dX1_pairFrom_54 : decode cX1_pairFrom 54 = .ok (.aload_n 1, 1) := by decide +kernel
theorem dX1_pairFrom_55 : decode cX1_pairFrom 55 = .ok (.getfield 54, 3) := by decide +kernel
theorem dX1_pairFrom_58 : decode cX1_pairFrom 58 = .ok (.if_icmp .ge 68, 3) := by decide +kernel
theorem dX1_pairFrom_61 : decode cX1_pairFrom 61 = .ok (.iload_n 3, 1) := by decide +kernel
theorem dX1_pairFrom_62 : decode cX1_pairFrom 62 = .ok (.iload 5, 2) := by decide +kernel
theorem dX1_pairFrom_64 : decode cX1_pairFrom 64 = .ok (.ishr, 1) := by decide +kernel
theorem dX1_pairFrom_65 : decode cX1_pairFrom 65 = .ok (.iconst 1, 1) := by decide +kernel
theorem dX1_pairFrom_66 : decode cX1_pairFrom 66 = .ok (.iand, 1) := by decide +kernel
theorem dX1_pairFrom_67 : decode cX1_pairFrom 67 = .ok (.ifCond .ne 53, 3) := by decide +kernel
theorem dX1_pairFrom_70 : decode cX1_pairFrom 70 = .ok (.aload_n 0, 1) := by decide +kernel
theorem dX1_pairFrom_71 : decode cX1_pairFrom 71 = .ok (.getfield 21, 3) := by decide +kernel
theorem dX1_pairFrom_74 : decode cX1_pairFrom 74 = .ok (.iload_n 2, 1) := by decide +kernel
theorem dX1_pairFrom_75 : decode cX1_pairFrom 75 = .ok (.iload 5, 2) := by decide +kernel
theorem dX1_pairFrom_77 : decode cX1_pairFrom 77 = .ok (.invokestatic 57, 3) := by decide +kernel
theorem dX1_pairFrom_80 : decode cX1_pairFrom 80 = .ok (.baload, 1) := by decide +kernel
theorem dX1_pairFrom_81 : decode cX1_pairFrom 81 = .ok (.ifCond .eq 39, 3) := by decide +kernel
theorem dX1_pairFrom_84 : decode cX1_pairFrom 84 = .ok (.aload_n 0, 1) := by decide +kernel
theorem dX1_pairFrom_85 : decode cX1_pairFrom 85 = .ok (.getfield 28, 3) := by decide +kernel
theorem dX1_pairFrom_88 : decode cX1_pairFrom 88 = .ok (.iload_n 2, 1) := by decide +kernel
theorem dX1_pairFrom_89 : decode cX1_pairFrom 89 = .ok (.iload 5, 2) := by decide +kernel
theorem dX1_pairFrom_91 : decode cX1_pairFrom 91 = .ok (.iastore, 1) := by decide +kernel
theorem dX1_pairFrom_92 : decode cX1_pairFrom 92 = .ok (.aload_n 0, 1) := by decide +kernel
theorem dX1_pairFrom_93 : decode cX1_pairFrom 93 = .ok (.aload_n 1, 1) := by decide +kernel
theorem dX1_pairFrom_94 : decode cX1_pairFrom 94 = .ok (.iload_n 2, 1) := by decide +kernel
theorem dX1_pairFrom_95 : decode cX1_pairFrom 95 = .ok (.iconst 1, 1) := by decide +kernel
theorem dX1_pairFrom_96 : decode cX1_pairFrom 96 = .ok (.iadd, 1) := by decide +kernel
theorem dX1_pairFrom_97 : decode cX1_pairFrom 97 = .ok (.iload_n 3, 1) := by decide +kernel
theorem dX1_pairFrom_98 : decode cX1_pairFrom 98 = .ok (.iconst 1, 1) := by decide +kernel
theorem dX1_pairFrom_99 : decode cX1_pairFrom 99 = .ok (.iload 5, 2) := by decide +kernel
theorem dX1_pairFrom_101 : decode cX1_pairFrom 101 = .ok (.ishl, 1) := by decide +kernel
theorem dX1_pairFrom_102 : decode cX1_pairFrom 102 = .ok (.ior, 1) := by decide +kernel
theorem dX1_pairFrom_103 : decode cX1_pairFrom 103 = .ok (.iload 4, 2) := by decide +kernel
theorem dX1_pairFrom_105 : decode cX1_pairFrom 105 = .ok (.aload_n 0, 1) := by decide +kernel
theorem dX1_pairFrom_106 : decode cX1_pairFrom 106 = .ok (.getfield 25, 3) := by decide +kernel
theorem dX1_pairFrom_109 : decode cX1_pairFrom 109 = .ok (.iload_n 2, 1) := by decide +kernel
theorem dX1_pairFrom_110 : decode cX1_pairFrom 110 = .ok (.iload 5, 2) := by decide +kernel
theorem dX1_pairFrom_112 : decode cX1_pairFrom 112 = .ok (.invokestatic 57, 3) := by decide +kernel
theorem dX1_pairFrom_115 : decode cX1_pairFrom 115 = .ok (.iaload, 1) := by decide +kernel
theorem dX1_pairFrom_116 : decode cX1_pairFrom 116 = .ok (.iadd, 1) := by decide +kernel
theorem dX1_pairFrom_117 : decode cX1_pairFrom 117 = .ok (.invokevirtual 44, 3) := by decide +kernel
theorem dX1_pairFrom_120 : decode cX1_pairFrom 120 = .ok (.iinc 5 1, 3) := by decide +kernel
theorem dX1_pairFrom_123 : decode cX1_pairFrom 123 = .ok (.goto (-71), 3) := by decide +kernel
theorem dX1_pairFrom_126 : decode cX1_pairFrom 126 = .ok (.return_, 1) := by decide +kernel
theorem dX1_enter_0 : decode cX1_enter 0 = .ok (.aload_n 0, 1) := by decide +kernel
theorem dX1_enter_1 : decode cX1_enter 1 = .ok (.getfield 11, 3) := by decide +kernel
theorem dX1_enter_4 : decode cX1_enter 4 = .ok (.iload_n 1, 1) := by decide +kernel
theorem dX1_enter_5 : decode cX1_enter 5 = .ok (.iaload, 1) := by decide +kernel
theorem dX1_enter_6 : decode cX1_enter 6 = .ok (.ifCond .eq 13, 3) := by decide +kernel
theorem dX1_enter_9 : decode cX1_enter 9 = .ok (.iload_n 2, 1) := by decide +kernel
theorem dX1_enter_10 : decode cX1_enter 10 = .ok (.aload_n 0, 1) := by decide +kernel
theorem dX1_enter_11 : decode cX1_enter 11 = .ok (.getfield 15, 3) := by decide +kernel
theorem dX1_enter_14 : decode cX1_enter 14 = .ok (.iload_n 1, 1) := by decide +kernel
theorem dX1_enter_15 : decode cX1_enter 15 = .ok (.iaload, 1) := by decide +kernel
theorem dX1_enter_16 : decode cX1_enter 16 = .ok (.if_icmp .le 26, 3) := by decide +kernel
theorem dX1_enter_19 : decode cX1_enter 19 = .ok (.aload_n 0, 1) := by decide +kernel
theorem dX1_enter_20 : decode cX1_enter 20 = .ok (.getfield 15, 3) := by decide +kernel
theorem dX1_enter_23 : decode cX1_enter 23 = .ok (.iload_n 1, 1) := by decide +kernel
theorem dX1_enter_24 : decode cX1_enter 24 = .ok (.iload_n 2, 1) := by decide +kernel
theorem dX1_enter_25 : decode cX1_enter 25 = .ok (.iastore, 1) := by decide +kernel
theorem dX1_enter_26 : decode cX1_enter 26 = .ok (.aload_n 0, 1) := by decide +kernel
theorem dX1_enter_27 : decode cX1_enter 27 = .ok (.getfield 28, 3) := by decide +kernel
theorem dX1_enter_30 : decode cX1_enter 30 = .ok (.iconst 0, 1) := by decide +kernel
theorem dX1_enter_31 : decode cX1_enter 31 = .ok (.aload_n 0, 1) := by decide +kernel
theorem dX1_enter_32 : decode cX1_enter 32 = .ok (.getfield 18, 3) := by decide +kernel
theorem dX1_enter_35 : decode cX1_enter 35 = .ok (.iload_n 1, 1) := by decide +kernel
theorem dX1_enter_36 : decode cX1_enter 36 = .ok (.iconst 4, 1) := by decide +kernel
theorem dX1_enter_37 : decode cX1_enter 37 = .ok (.imul, 1) := by decide +kernel
theorem dX1_enter_38 : decode cX1_enter 38 = .ok (.iconst 4, 1) := by decide +kernel
theorem dX1_enter_39 : decode cX1_enter 39 = .ok (.invokestatic 75, 3) := by decide +kernel
theorem dX1_enter_42 : decode cX1_enter 42 = .ok (.aload_n 0, 1) := by decide +kernel
theorem dX1_enter_43 : decode cX1_enter 43 = .ok (.getfield 11, 3) := by decide +kernel
theorem dX1_enter_46 : decode cX1_enter 46 = .ok (.iload_n 1, 1) := by decide +kernel
theorem dX1_enter_47 : decode cX1_enter 47 = .ok (.dup2, 1) := by decide +kernel
theorem dX1_enter_48 : decode cX1_enter 48 = .ok (.iaload, 1) := by decide +kernel
theorem dX1_enter_49 : decode cX1_enter 49 = .ok (.iconst 1, 1) := by decide +kernel
theorem dX1_enter_50 : decode cX1_enter 50 = .ok (.iadd, 1) := by decide +kernel
theorem dX1_enter_51 : decode cX1_enter 51 = .ok (.iastore, 1) := by decide +kernel
theorem dX1_enter_52 : decode cX1_enter 52 = .ok (.return_, 1) := by decide +kernel
theorem dX1_isSteady_0 : decode cX1_isSteady 0 = .ok (.aload_n 0, 1) := by decide +kernel
theorem dX1_isSteady_1 : decode cX1_isSteady 1 = .ok (.getfield 31, 3) := by decide +kernel
theorem dX1_isSteady_4 : decode cX1_isSteady 4 = .ok (.iconst (-1), 1) := by decide +kernel
theorem dX1_isSteady_5 : decode cX1_isSteady 5 = .ok (.invokestatic 38, 3) := by decide +kernel
theorem dX1_isSteady_8 : decode cX1_isSteady 8 = .ok (.iconst 0, 1) := by decide +kernel
theorem dX1_isSteady_9 : decode cX1_isSteady 9 = .ok (.istore_n 2, 1) := by decide +kernel
theorem dX1_isSteady_10 : decode cX1_isSteady 10 = .ok (.iload_n 2, 1) := by decide +kernel
theorem dX1_isSteady_11 : decode cX1_isSteady 11 = .ok (.aload_n 1, 1) := by decide +kernel
theorem dX1_isSteady_12 : decode cX1_isSteady 12 = .ok (.getfield 48, 3) := by decide +kernel
theorem dX1_isSteady_15 : decode cX1_isSteady 15 = .ok (.if_icmp .ge 45, 3) := by decide +kernel
theorem dX1_isSteady_18 : decode cX1_isSteady 18 = .ok (.aload_n 0, 1) := by decide +kernel
theorem dX1_isSteady_19 : decode cX1_isSteady 19 = .ok (.getfield 28, 3) := by decide +kernel
theorem dX1_isSteady_22 : decode cX1_isSteady 22 = .ok (.iload_n 2, 1) := by decide +kernel
theorem dX1_isSteady_23 : decode cX1_isSteady 23 = .ok (.iaload, 1) := by decide +kernel
theorem dX1_isSteady_24 : decode cX1_isSteady 24 = .ok (.iconst (-1), 1) := by decide +kernel
theorem dX1_isSteady_25 : decode cX1_isSteady 25 = .ok (.if_icmp .eq 29, 3) := by decide +kernel
theorem dX1_isSteady_28 : decode cX1_isSteady 28 = .ok (.aload_n 0, 1) := by decide +kernel
theorem dX1_isSteady_29 : decode cX1_isSteady 29 = .ok (.getfield 31, 3) := by decide +kernel
theorem dX1_isSteady_32 : decode cX1_isSteady 32 = .ok (.aload_n 0, 1) := by decide +kernel
theorem dX1_isSteady_33 : decode cX1_isSteady 33 = .ok (.getfield 28, 3) := by decide +kernel
theorem dX1_isSteady_36 : decode cX1_isSteady 36 = .ok (.iload_n 2, 1) := by decide +kernel
theorem dX1_isSteady_37 : decode cX1_isSteady 37 = .ok (.iaload, 1) := by decide +kernel
theorem dX1_isSteady_38 : decode cX1_isSteady 38 = .ok (.aload_n 1, 1) := by decide +kernel
theorem dX1_isSteady_39 : decode cX1_isSteady 39 = .ok (.getfield 81, 3) := by decide +kernel
theorem dX1_isSteady_42 : decode cX1_isSteady 42 = .ok (.iload_n 2, 1) := by decide +kernel
theorem dX1_isSteady_43 : decode cX1_isSteady 43 = .ok (.aload_n 0, 1) := by decide +kernel
theorem dX1_isSteady_44 : decode cX1_isSteady 44 = .ok (.getfield 28, 3) := by decide +kernel
theorem dX1_isSteady_47 : decode cX1_isSteady 47 = .ok (.iload_n 2, 1) := by decide +kernel
theorem dX1_isSteady_48 : decode cX1_isSteady 48 = .ok (.iaload, 1) := by decide +kernel
theorem dX1_isSteady_49 : decode cX1_isSteady 49 = .ok (.invokestatic 57, 3) := by decide +kernel
theorem dX1_isSteady_52 : decode cX1_isSteady 52 = .ok (.iaload, 1) := by decide +kernel
theorem dX1_isSteady_53 : decode cX1_isSteady 53 = .ok (.iastore, 1) := by decide +kernel
theorem dX1_isSteady_54 : decode cX1_isSteady 54 = .ok (.iinc 2 1, 3) := by decide +kernel
theorem dX1_isSteady_57 : decode cX1_isSteady 57 = .ok (.goto (-47), 3) := by decide +kernel
theorem dX1_isSteady_60 : decode cX1_isSteady 60 = .ok (.iconst 0, 1) := by decide +kernel
theorem dX1_isSteady_61 : decode cX1_isSteady 61 = .ok (.istore_n 2, 1) := by decide +kernel
theorem dX1_isSteady_62 : decode cX1_isSteady 62 = .ok (.iload_n 2, 1) := by decide +kernel
theorem dX1_isSteady_63 : decode cX1_isSteady 63 = .ok (.aload_n 1, 1) := by decide +kernel
theorem dX1_isSteady_64 : decode cX1_isSteady 64 = .ok (.getfield 48, 3) := by decide +kernel
theorem dX1_isSteady_67 : decode cX1_isSteady 67 = .ok (.if_icmp .ge 105, 3) := by decide +kernel
theorem dX1_isSteady_70 : decode cX1_isSteady 70 = .ok (.aload_n 0, 1) := by decide +kernel
theorem dX1_isSteady_71 : decode cX1_isSteady 71 = .ok (.getfield 28, 3) := by decide +kernel
theorem dX1_isSteady_74 : decode cX1_isSteady 74 = .ok (.iload_n 2, 1) := by decide +kernel
theorem dX1_isSteady_75 : decode cX1_isSteady 75 = .ok (.iaload, 1) := by decide +kernel
theorem dX1_isSteady_76 : decode cX1_isSteady 76 = .ok (.iconst (-1), 1) := by decide +kernel
theorem dX1_isSteady_77 : decode cX1_isSteady 77 = .ok (.if_icmp .ne 7, 3) := by decide +kernel
theorem dX1_isSteady_80 : decode cX1_isSteady 80 = .ok (.iconst (-1), 1) := by decide +kernel
theorem dX1_isSteady_81 : decode cX1_isSteady 81 = .ok (.goto 18, 3) := by decide +kernel
theorem dX1_isSteady_84 : decode cX1_isSteady 84 = .ok (.aload_n 1, 1) := by decide +kernel
theorem dX1_isSteady_85 : decode cX1_isSteady 85 = .ok (.getfield 84, 3) := by decide +kernel
theorem dX1_isSteady_88 : decode cX1_isSteady 88 = .ok (.iload_n 2, 1) := by decide +kernel
theorem dX1_isSteady_89 : decode cX1_isSteady 89 = .ok (.aload_n 0, 1) := by decide +kernel
theorem dX1_isSteady_90 : decode cX1_isSteady 90 = .ok (.getfield 28, 3) := by decide +kernel
theorem dX1_isSteady_93 : decode cX1_isSteady 93 = .ok (.iload_n 2, 1) := by decide +kernel
theorem dX1_isSteady_94 : decode cX1_isSteady 94 = .ok (.iaload, 1) := by decide +kernel
theorem dX1_isSteady_95 : decode cX1_isSteady 95 = .ok (.invokestatic 57, 3) := by decide +kernel
theorem dX1_isSteady_98 : decode cX1_isSteady 98 = .ok (.iaload, 1) := by decide +kernel
theorem dX1_isSteady_99 : decode cX1_isSteady 99 = .ok (.istore_n 3, 1) := by decide +kernel
theorem dX1_isSteady_100 : decode cX1_isSteady 100 = .ok (.iconst 0, 1) := by decide +kernel
theorem dX1_isSteady_101 : decode cX1_isSteady 101 = .ok (.istore 4, 2) := by decide +kernel
theorem dX1_isSteady_103 : decode cX1_isSteady 103 = .ok (.iload 4, 2) := by decide +kernel
theorem dX1_isSteady_105 : decode cX1_isSteady 105 = .ok (.aload_n 1, 1) := by decide +kernel
theorem dX1_isSteady_106 : decode cX1_isSteady 106 = .ok (.getfield 54, 3) := by decide +kernel
theorem dX1_isSteady_109 : decode cX1_isSteady 109 = .ok (.if_icmp .ge 57, 3) := by decide +kernel
theorem dX1_isSteady_112 : decode cX1_isSteady 112 = .ok (.iload_n 2, 1) := by decide +kernel
theorem dX1_isSteady_113 : decode cX1_isSteady 113 = .ok (.iload 4, 2) := by decide +kernel
theorem dX1_isSteady_115 : decode cX1_isSteady 115 = .ok (.invokestatic 57, 3) := by decide +kernel
theorem dX1_isSteady_118 : decode cX1_isSteady 118 = .ok (.istore 5, 2) := by decide +kernel
theorem dX1_isSteady_120 : decode cX1_isSteady 120 = .ok (.aload_n 0, 1) := by decide +kernel
theorem dX1_isSteady_121 : decode cX1_isSteady 121 = .ok (.getfield 21, 3) := by decide +kernel
theorem dX1_isSteady_124 : decode cX1_isSteady 124 = .ok (.iload 5, 2) := by decide +kernel
theorem dX1_isSteady_126 : decode cX1_isSteady 126 = .ok (.baload, 1) := by decide +kernel
theorem dX1_isSteady_127 : decode cX1_isSteady 127 = .ok (.ifCond .eq 33, 3) := by decide +kernel
theorem dX1_isSteady_130 : decode cX1_isSteady 130 = .ok (.aload_n 1, 1) := by decide +kernel
theorem dX1_isSteady_131 : decode cX1_isSteady 131 = .ok (.getfield 84, 3) := by decide +kernel
theorem dX1_isSteady_134 : decode cX1_isSteady 134 = .ok (.iload 5, 2) := by decide +kernel
theorem dX1_isSteady_136 : decode cX1_isSteady 136 = .ok (.iaload, 1) := by decide +kernel
theorem dX1_isSteady_137 : decode cX1_isSteady 137 = .ok (.iload_n 3, 1) := by decide +kernel
theorem dX1_isSteady_138 : decode cX1_isSteady 138 = .ok (.if_icmp .le 22, 3) := by decide +kernel
theorem dX1_isSteady_141 : decode cX1_isSteady 141 = .ok (.aload_n 1, 1) := by decide +kernel
theorem dX1_isSteady_142 : decode cX1_isSteady 142 = .ok (.getfield 81, 3) := by decide +kernel
theorem dX1_isSteady_145 : decode cX1_isSteady 145 = .ok (.iload 5, 2) := by decide +kernel
theorem dX1_isSteady_147 : decode cX1_isSteady 147 = .ok (.iaload, 1) := by decide +kernel
theorem dX1_isSteady_148 : decode cX1_isSteady 148 = .ok (.aload_n 0, 1) := by decide +kernel
theorem dX1_isSteady_149 : decode cX1_isSteady 149 = .ok (.getfield 31, 3) := by decide +kernel
theorem dX1_isSteady_152 : decode cX1_isSteady 152 = .ok (.iload 4, 2) := by decide +kernel
theorem dX1_isSteady_154 : decode cX1_isSteady 154 = .ok (.iaload, 1) := by decide +kernel
theorem dX1_isSteady_155 : decode cX1_isSteady 155 = .ok (.if_icmp .le 5, 3) := by decide +kernel
theorem dX1_isSteady_158 : decode cX1_isSteady 158 = .ok (.iconst 0, 1) := by decide +kernel
theorem dX1_isSteady_159 : decode cX1_isSteady 159 = .ok (.ireturn, 1) := by decide +kernel
theorem dX1_isSteady_160 : decode cX1_isSteady 160 = .ok (.iinc 4 1, 3) := by decide +kernel
theorem dX1_isSteady_163 : decode cX1_isSteady 163 = .ok (.goto (-60), 3) := by decide +kernel
theorem dX1_isSteady_166 : decode cX1_isSteady 166 = .ok (.iinc 2 1, 3) := by decide +kernel
theorem dX1_isSteady_169 : decode cX1_isSteady 169 = .ok (.goto (-107), 3) := by decide +kernel
theorem dX1_isSteady_172 : decode cX1_isSteady 172 = .ok (.iconst 1, 1) := by decide +kernel
theorem dX1_isSteady_173 : decode cX1_isSteady 173 = .ok (.ireturn, 1) := by decide +kernel
theorem dX2_init_0 : decode cX2_init 0 = .ok (.aload_n 0, 1) := by decide +kernel
theorem dX2_init_1 : decode cX2_init 1 = .ok (.invokespecial 3, 3) := by decide +kernel
theorem dX2_init_4 : decode cX2_init 4 = .ok (.aload_n 0, 1) := by decide +kernel
theorem dX2_init_5 : decode cX2_init 5 = .ok (.sipush 160, 3) := by decide +kernel
theorem dX2_init_8 : decode cX2_init 8 = .ok (.newarray .int, 2) := by decide +kernel
theorem dX2_init_10 : decode cX2_init 10 = .ok (.putfield 11, 3) := by decide +kernel
theorem dX2_init_13 : decode cX2_init 13 = .ok (.aload_n 0, 1) := by decide +kernel
theorem dX2_init_14 : decode cX2_init 14 = .ok (.iconst 3, 1) := by decide +kernel
theorem dX2_init_15 : decode cX2_init 15 = .ok (.newarray .int, 2) := by decide +kernel
theorem dX2_init_17 : decode cX2_init 17 = .ok (.putfield 17, 3) := by decide +kernel
theorem dX2_init_20 : decode cX2_init 20 = .ok (.aload_n 0, 1) := by decide +kernel
theorem dX2_init_21 : decode cX2_init 21 = .ok (.iconst 0, 1) := by decide +kernel
theorem dX2_init_22 : decode cX2_init 22 = .ok (.putfield 20, 3) := by decide +kernel
theorem dX2_init_25 : decode cX2_init 25 = .ok (.aload_n 0, 1) := by decide +kernel
theorem dX2_init_26 : decode cX2_init 26 = .ok (.sipush 160, 3) := by decide +kernel
theorem dX2_init_29 : decode cX2_init 29 = .ok (.newarray .int, 2) := by decide +kernel
theorem dX2_init_31 : decode cX2_init 31 = .ok (.putfield 24, 3) := by decide +kernel
theorem dX2_init_34 : decode cX2_init 34 = .ok (.aload_n 0, 1) := by decide +kernel
theorem dX2_init_35 : decode cX2_init 35 = .ok (.iconst 0, 1) := by decide +kernel
theorem dX2_init_36 : decode cX2_init 36 = .ok (.putfield 27, 3) := by decide +kernel
theorem dX2_init_39 : decode cX2_init 39 = .ok (.aload_n 0, 1) := by decide +kernel
theorem dX2_init_40 : decode cX2_init 40 = .ok (.iconst 0, 1) := by decide +kernel
theorem dX2_init_41 : decode cX2_init 41 = .ok (.putfield 30, 3) := by decide +kernel
theorem dX2_init_44 : decode cX2_init 44 = .ok (.aload_n 0, 1) := by decide +kernel
theorem dX2_init_45 : decode cX2_init 45 = .ok (.iconst 0, 1) := by decide +kernel
theorem dX2_init_46 : decode cX2_init 46 = .ok (.putfield 33, 3) := by decide +kernel
theorem dX2_init_49 : decode cX2_init 49 = .ok (.aload_n 0, 1) := by decide +kernel
theorem dX2_init_50 : decode cX2_init 50 = .ok (.iconst (-1), 1) := by decide +kernel
theorem dX2_init_51 : decode cX2_init 51 = .ok (.putfield 36, 3) := by decide +kernel
theorem dX2_init_54 : decode cX2_init 54 = .ok (.aload_n 0, 1) := by decide +kernel
theorem dX2_init_55 : decode cX2_init 55 = .ok (.iconst 0, 1) := by decide +kernel
theorem dX2_init_56 : decode cX2_init 56 = .ok (.putfield 39, 3) := by decide +kernel
theorem dX2_init_59 : decode cX2_init 59 = .ok (.aload_n 0, 1) := by decide +kernel
theorem dX2_init_60 : decode cX2_init 60 = .ok (.iconst (-1), 1) := by decide +kernel
theorem dX2_init_61 : decode cX2_init 61 = .ok (.putfield 42, 3) := by decide +kernel
theorem dX2_init_64 : decode cX2_init 64 = .ok (.return_, 1) := by decide +kernel
theorem dX2_append_0 : decode cX2_append 0 = .ok (.aload_n 0, 1) := by decide +kernel
theorem dX2_append_1 : decode cX2_append 1 = .ok (.getfield 20, 3) := by decide +kernel
theorem dX2_append_4 : decode cX2_append 4 = .ok (.sipush 160, 3) := by decide +kernel
theorem dX2_append_7 : decode cX2_append 7 = .ok (.if_icmp .lt 5, 3) := by decide +kernel
theorem dX2_append_10 : decode cX2_append 10 = .ok (.iconst 0, 1) := by decide +kernel
theorem dX2_append_11 : decode cX2_append 11 = .ok (.ireturn, 1) := by decide +kernel
theorem dX2_append_12 : decode cX2_append 12 = .ok (.aload_n 0, 1) := by decide +kernel
theorem dX2_append_13 : decode cX2_append 13 = .ok (.getfield 24, 3) := by decide +kernel
theorem dX2_append_16 : decode cX2_append 16 = .ok (.aload_n 0, 1) := by decide +kernel
theorem dX2_append_17 : decode cX2_append 17 = .ok (.getfield 20, 3) := by decide +kernel
theorem dX2_append_20 : decode cX2_append 20 = .ok (.iload_n 1, 1) := by decide +kernel
theorem dX2_append_21 : decode cX2_append 21 = .ok (.iastore, 1) := by decide +kernel
theorem dX2_append_22 : decode cX2_append 22 = .ok (.aload_n 0, 1) := by decide +kernel
theorem dX2_append_23 : decode cX2_append 23 = .ok (.dup, 1) := by decide +kernel
theorem dX2_append_24 : decode cX2_append 24 = .ok (.getfield 20, 3) := by decide +kernel
theorem dX2_append_27 : decode cX2_append 27 = .ok (.iconst 1, 1) := by decide +kernel
theorem dX2_append_28 : decode cX2_append 28 = .ok (.iadd, 1) := by decide +kernel
theorem dX2_append_29 : decode cX2_append 29 = .ok (.putfield 20, 3) := by decide +kernel
theorem dX2_append_32 : decode cX2_append 32 = .ok (.iconst 1, 1) := by decide +kernel
theorem dX2_append_33 : decode cX2_append 33 = .ok (.ireturn, 1) := by decide +kernel
theorem dX2_read_0 : decode cX2_read 0 = .ok (.aload_n 0, 1) := by decide +kernel
theorem dX2_read_1 : decode cX2_read 1 = .ok (.iconst 0, 1) := by decide +kernel
theorem dX2_read_2 : decode cX2_read 2 = .ok (.putfield 27, 3) := by decide +kernel
theorem dX2_read_5 : decode cX2_read 5 = .ok (.aload_n 0, 1) := by decide +kernel
theorem dX2_read_6 : decode cX2_read 6 = .ok (.iconst 0, 1) := by decide +kernel
theorem dX2_read_7 : decode cX2_read 7 = .ok (.putfield 30, 3) := by decide +kernel
theorem dX2_read_10 : decode cX2_read 10 = .ok (.aload_n 0, 1) := by decide +kernel
theorem dX2_read_11 : decode cX2_read 11 = .ok (.iconst (-1), 1) := by decide +kernel
theorem dX2_read_12 : decode cX2_read 12 = .ok (.putfield 42, 3) := by decide +kernel
theorem dX2_read_15 : decode cX2_read 15 = .ok (.aload_n 0, 1) := by decide +kernel
theorem dX2_read_16 : decode cX2_read 16 = .ok (.invokevirtual 45, 3) := by decide +kernel
theorem dX2_read_19 : decode cX2_read 19 = .ok (.iconst 0, 1) := by decide +kernel
theorem dX2_read_20 : decode cX2_read 20 = .ok (.istore_n 1, 1) := by decide +kernel
theorem dX2_read_21 : decode cX2_read 21 = .ok (.iload_n 1, 1) := by decide +kernel
theorem dX2_read_22 : decode cX2_read 22 = .ok (.iconst 3, 1) := by decide +kernel
theorem dX2_read_23 : decode cX2_read 23 = .ok (.if_icmp .ge 39, 3) := by decide +kernel
theorem dX2_read_26 : decode cX2_read 26 = .ok (.aload_n 0, 1) := by decide +kernel
theorem dX2_read_27 : decode cX2_read 27 = .ok (.bipush 7, 2) := by decide +kernel
theorem dX2_read_29 : decode cX2_read 29 = .ok (.iload_n 1, 1) := by decide +kernel
theorem dX2_read_30 : decode cX2_read 30 = .ok (.iadd, 1) := by decide +kernel
theorem dX2_read_31 : decode cX2_read 31 = .ok (.invokevirtual 48, 3) := by decide +kernel
theorem dX2_read_34 : decode cX2_read 34 = .ok (.aload_n 0, 1) := by decide +kernel
theorem dX2_read_35 : decode cX2_read 35 = .ok (.iconst 0, 1) := by decide +kernel
theorem dX2_read_36 : decode cX2_read 36 = .ok (.iconst 0, 1) := by decide +kernel
theorem dX2_read_37 : decode cX2_read 37 = .ok (.invokevirtual 52, 3) := by decide +kernel
theorem dX2_read_40 : decode cX2_read 40 = .ok (.aload_n 0, 1) := by decide +kernel
theorem dX2_read_41 : decode cX2_read 41 = .ok (.bipush 59, 2) := by decide +kernel
theorem dX2_read_43 : decode cX2_read 43 = .ok (.invokevirtual 48, 3) := by decide +kernel
theorem dX2_read_46 : decode cX2_read 46 = .ok (.aload_n 0, 1) := by decide +kernel
theorem dX2_read_47 : decode cX2_read 47 = .ok (.getfield 17, 3) := by decide +kernel
theorem dX2_read_50 : decode cX2_read 50 = .ok (.iload_n 1, 1) := by decide +kernel
theorem dX2_read_51 : decode cX2_read 51 = .ok (.aload_n 0, 1) := by decide +kernel
theorem dX2_read_52 : decode cX2_read 52 = .ok (.getfield 27, 3) := by decide +kernel
theorem dX2_read_55 : decode cX2_read 55 = .ok (.iastore, 1) := by decide +kernel
theorem dX2_read_56 : decode cX2_read 56 = .ok (.iinc 1 1, 3) := by decide +kernel
theorem dX2_read_59 : decode cX2_read 59 = .ok (.goto (-38), 3) := by decide +kernel
theorem dX2_read_62 : decode cX2_read 62 = .ok (.aload_n 0, 1) := by decide +kernel
theorem dX2_read_63 : decode cX2_read 63 = .ok (.iconst (-1), 1) := by decide +kernel
theorem dX2_read_64 : decode cX2_read 64 = .ok (.invokevirtual 48, 3) := by decide +kernel
theorem dX2_read_67 : decode cX2_read 67 = .ok (.aload_n 0, 1) := by decide +kernel
theorem dX2_read_68 : decode cX2_read 68 = .ok (.getfield 42, 3) := by decide +kernel
theorem dX2_read_71 : decode cX2_read 71 = .ok (.ireturn, 1) := by decide +kernel
theorem dX2_readLevel_0 : decode cX2_readLevel 0 = .ok (.iload_n 1, 1) := by decide +kernel
theorem dX2_readLevel_1 : decode cX2_readLevel 1 = .ok (.iconst 4, 1) := by decide +kernel
theorem dX2_readLevel_2 : decode cX2_readLevel 2 = .ok (.if_icmp .le 9, 3) := by decide +kernel
theorem dX2_readLevel_5 : decode cX2_readLevel 5 = .ok (.aload_n 0, 1) := by decide +kernel
theorem dX2_readLevel_6 : decode cX2_readLevel 6 = .ok (.iload_n 2, 1) := by decide +kernel
theorem dX2_readLevel_7 : decode cX2_readLevel 7 = .ok (.invokevirtual 56, 3) := by decide +kernel
theorem dX2_readLevel_10 : decode cX2_readLevel 10 = .ok (.return_, 1) := by decide +kernel
theorem dX2_readLevel_11 : decode cX2_readLevel 11 = .ok (.iload_n 1, 1) := by decide +kernel
theorem dX2_readLevel_12 : decode cX2_readLevel 12 = .ok (.iconst 2, 1) := by decide +kernel
theorem dX2_readLevel_13 : decode cX2_readLevel 13 = .ok (.if_icmp .ne 35, 3) := by decide +kernel
theorem dX2_readLevel_16 : decode cX2_readLevel 16 = .ok (.aload_n 0, 1) := by decide +kernel
theorem dX2_readLevel_17 : decode cX2_readLevel 17 = .ok (.getfield 36, 3) := by decide +kernel
theorem dX2_readLevel_20 : decode cX2_readLevel 20 = .ok (.bipush 12, 2) := by decide +kernel
theorem dX2_readLevel_22 : decode cX2_readLevel 22 = .ok (.if_icmp .ne 26, 3) := by decide +kernel
theorem dX2_readLevel_25 : decode cX2_readLevel 25 = .ok (.aload_n 0, 1) := by decide +kernel
theorem dX2_readLevel_26 : decode cX2_readLevel 26 = .ok (.iload_n 2, 1) := by decide +kernel
theorem dX2_readLevel_27 : decode cX2_readLevel 27 = .ok (.invokevirtual 59, 3) := by decide +kernel
theorem dX2_readLevel_30 : decode cX2_readLevel 30 = .ok (.ifCond .eq 17, 3) := by decide +kernel
theorem dX2_readLevel_33 : decode cX2_readLevel 33 = .ok (.aload_n 0, 1) := by decide +kernel
theorem dX2_readLevel_34 : decode cX2_readLevel 34 = .ok (.iconst 2, 1) := by decide +kernel
theorem dX2_readLevel_35 : decode cX2_readLevel 35 = .ok (.iload_n 2, 1) := by decide +kernel
theorem dX2_readLevel_36 : decode cX2_readLevel 36 = .ok (.iconst 1, 1) := by decide +kernel
theorem dX2_readLevel_37 : decode cX2_readLevel 37 = .ok (.iadd, 1) := by decide +kernel
theorem dX2_readLevel_38 : decode cX2_readLevel 38 = .ok (.invokevirtual 52, 3) := by decide +kernel
theorem dX2_readLevel_41 : decode cX2_readLevel 41 = .ok (.aload_n 0, 1) := by decide +kernel
theorem dX2_readLevel_42 : decode cX2_readLevel 42 = .ok (.bipush (-12), 2) := by decide +kernel
theorem dX2_readLevel_44 : decode cX2_readLevel 44 = .ok (.invokevirtual 63, 3) := by decide +kernel
theorem dX2_readLevel_47 : decode cX2_readLevel 47 = .ok (.return_, 1) := by decide +kernel
theorem dX2_readLevel_48 : decode cX2_readLevel 48 = .ok (.aload_n 0, 1) := by decide +kernel
theorem dX2_readLevel_49 : decode cX2_readLevel 49 = .ok (.iload_n 1, 1) := by decide +kernel
theorem dX2_readLevel_50 : decode cX2_readLevel 50 = .ok (.iconst 1, 1) := by decide +kernel
theorem dX2_readLevel_51 : decode cX2_readLevel 51 = .ok (.iadd, 1) := by decide +kernel
theorem dX2_readLevel_52 : decode cX2_readLevel 52 = .ok (.iload_n 2, 1) := by decide +kernel
theorem dX2_readLevel_53 : decode cX2_readLevel 53 = .ok (.invokevirtual 52, 3) := by decide +kernel
theorem dX2_readLevel_56 : decode cX2_readLevel 56 = .ok (.iload_n 1, 1) := by decide +kernel
theorem dX2_readLevel_57 : decode cX2_readLevel 57 = .ok (.iconst 2, 1) := by decide +kernel
theorem dX2_readLevel_58 : decode cX2_readLevel 58 = .ok (.if_icmp .ne 7, 3) := by decide +kernel
theorem dX2_readLevel_61 : decode cX2_readLevel 61 = .ok (.iconst 1, 1) := by decide +kernel
theorem dX2_readLevel_62 : decode cX2_readLevel 62 = .ok (.goto 6, 3) := by decide +kernel
theorem dX2_readLevel_65 : decode cX2_readLevel 65 = .ok (.sipush 160, 3) := by decide +kernel
theorem dX2_readLevel_68 : decode cX2_readLevel 68 = .ok (.istore_n 3, 1) := by decide +kernel
theorem dX2_readLevel_69 : decode cX2_readLevel 69 = .ok (.iconst 0, 1) := by decide +kernel
theorem dX2_readLevel_70 : decode cX2_readLevel 70 = .ok (.istore 4, 2) := by decide +kernel
theorem dX2_readLevel_72 : decode cX2_readLevel 72 = .ok (.iload 4, 2) := by decide +kernel
theorem dX2_readLevel_74 : decode cX2_readLevel 74 = .ok (.iload_n 3, 1) := by decide +kernel
theorem dX2_readLevel_75 : decode cX2_readLevel 75 = .ok (.if_icmp .ge 45, 3) := by decide +kernel
theorem dX2_readLevel_78 : decode cX2_readLevel 78 = .ok (.aload_n 0, 1) := by decide +kernel
theorem dX2_readLevel_79 : decode cX2_readLevel 79 = .ok (.getfield 36, 3) := by decide +kernel
theorem dX2_readLevel_82 : decode cX2_readLevel 82 = .ok (.invokestatic 66, 3) := by decide +kernel
theorem dX2_readLevel_85 : decode cX2_readLevel 85 = .ok (.iload_n 1, 1) := by decide +kernel
theorem dX2_readLevel_86 : decode cX2_readLevel 86 = .ok (.if_icmp .ne 34, 3) := by decide +kernel
theorem dX2_readLevel_89 : decode cX2_readLevel 89 = .ok (.aload_n 0, 1) := by decide +kernel
theorem dX2_readLevel_90 : decode cX2_readLevel 90 = .ok (.getfield 36, 3) := by decide +kernel
theorem dX2_readLevel_93 : decode cX2_readLevel 93 = .ok (.istore 5, 2) := by decide +kernel
theorem dX2_readLevel_95 : decode cX2_readLevel 95 = .ok (.aload_n 0, 1) := by decide +kernel
theorem dX2_readLevel_96 : decode cX2_readLevel 96 = .ok (.invokevirtual 45, 3) := by decide +kernel
theorem dX2_readLevel_99 : decode cX2_readLevel 99 = .ok (.aload_n 0, 1) := by decide +kernel
theorem dX2_readLevel_100 : decode cX2_readLevel 100 = .ok (.iload_n 1, 1) := by decide +kernel
theorem dX2_readLevel_101 : decode cX2_readLevel 101 = .ok (.iconst 1, 1) := by decide +kernel
theorem dX2_readLevel_102 : decode cX2_readLevel 102 = .ok (.iadd, 1) := by decide +kernel
theorem dX2_readLevel_103 : decode cX2_readLevel 103 = .ok (.iload_n 2, 1) := by decide +kernel
theorem dX2_readLevel_104 : decode cX2_readLevel 104 = .ok (.invokevirtual 52, 3) := by decide +kernel
theorem dX2_readLevel_107 : decode cX2_readLevel 107 = .ok (.aload_n 0, 1) := by decide +kernel
theorem dX2_readLevel_108 : decode cX2_readLevel 108 = .ok (.iload 5, 2) := by decide +kernel
theorem dX2_readLevel_110 : decode cX2_readLevel 110 = .ok (.ineg, 1) := by decide +kernel
theorem dX2_readLevel_111 : decode cX2_readLevel 111 = .ok (.invokevirtual 63, 3) := by decide +kernel
theorem dX2_readLevel_114 : decode cX2_readLevel 114 = .ok (.iinc 4 1, 3) := by decide +kernel
theorem dX2_readLevel_117 : decode cX2_readLevel 117 = .ok (.goto (-45), 3) := by decide +kernel
theorem dX2_readLevel_120 : decode cX2_readLevel 120 = .ok (.return_, 1) := by decide +kernel
theorem dX2_levelOf_0 : decode cX2_levelOf 0 = .ok (.iload_n 0, 1) := by decide +kernel
theorem dX2_levelOf_1 : decode cX2_levelOf 1 = .ok (.lookupswitch 77 #[(10, 67), (11, 69), (42, 75), (43, 73), (45, 73), (60, 71), (61, 71)], 67) := by decide +kernel
theorem dX2_levelOf_68 : decode cX2_levelOf 68 = .ok (.iconst 0, 1) := by decide +kernel
theorem dX2_levelOf_69 : decode cX2_levelOf 69 = .ok (.ireturn, 1) := by decide +kernel
theorem dX2_levelOf_70 : decode cX2_levelOf 70 = .ok (.iconst 1, 1) := by decide +kernel
theorem dX2_levelOf_71 : decode cX2_levelOf 71 = .ok (.ireturn, 1) := by decide +kernel
theorem dX2_levelOf_72 : decode cX2_levelOf 72 = .ok (.iconst 2, 1) := by decide +kernel
theorem dX2_levelOf_73 : decode cX2_levelOf 73 = .ok (.ireturn, 1) := by decide +kernel
theorem dX2_levelOf_74 : decode cX2_levelOf 74 = .ok (.iconst 3, 1) := by decide +kernel
theorem dX2_levelOf_75 : decode cX2_levelOf 75 = .ok (.ireturn, 1) := by decide +kernel
theorem dX2_levelOf_76 : decode cX2_levelOf 76 = .ok (.iconst 4, 1) := by decide +kernel
theorem dX2_levelOf_77 : decode cX2_levelOf 77 = .ok (.ireturn, 1) := by decide +kernel
theorem dX2_levelOf_78 : decode cX2_levelOf 78 = .ok (.iconst (-1), 1) := by decide +kernel
theorem dX2_levelOf_79 : decode cX2_levelOf 79 = .ok (.ireturn, 1) := by decide +kernel
theorem dX2_readOne_0 : decode cX2_readOne 0 = .ok (.aload_n 0, 1) := by decide +kernel
theorem dX2_readOne_1 : decode cX2_readOne 1 = .ok (.getfield 36, 3) := by decide +kernel
theorem dX2_readOne_4 : decode cX2_readOne 4 = .ok (.ifCond .ne 18, 3) := by decide +kernel
theorem dX2_readOne_7 : decode cX2_readOne 7 = .ok (.aload_n 0, 1) := by decide +kernel
theorem dX2_readOne_8 : decode cX2_readOne 8 = .ok (.aload_n 0, 1) := by decide +kernel
theorem dX2_readOne_9 : decode cX2_readOne 9 = .ok (.getfield 39, 3) := by decide +kernel
theorem dX2_readOne_12 : decode cX2_readOne 12 = .ok (.invokevirtual 63, 3) := by decide +kernel
theorem dX2_readOne_15 : decode cX2_readOne 15 = .ok (.aload_n 0, 1) := by decide +kernel
theorem dX2_readOne_16 : decode cX2_readOne 16 = .ok (.invokevirtual 45, 3) := by decide +kernel
theorem dX2_readOne_19 : decode cX2_readOne 19 = .ok (.goto 107, 3) := by decide +kernel
theorem dX2_readOne_22 : decode cX2_readOne 22 = .ok (.aload_n 0, 1) := by decide +kernel
theorem dX2_readOne_23 : decode cX2_readOne 23 = .ok (.getfield 36, 3) := by decide +kernel
theorem dX2_readOne_26 : decode cX2_readOne 26 = .ok (.iconst 1, 1) := by decide +kernel
theorem dX2_readOne_27 : decode cX2_readOne 27 = .ok (.if_icmp .lt 28, 3) := by decide +kernel
theorem dX2_readOne_30 : decode cX2_readOne 30 = .ok (.aload_n 0, 1) := by decide +kernel
theorem dX2_readOne_31 : decode cX2_readOne 31 = .ok (.getfield 36, 3) := by decide +kernel
theorem dX2_readOne_34 : decode cX2_readOne 34 = .ok (.bipush 6, 2) := by decide +kernel
theorem dX2_readOne_36 : decode cX2_readOne 36 = .ok (.if_icmp .gt 19, 3) := by decide +kernel
theorem dX2_readOne_39 : decode cX2_readOne 39 = .ok (.aload_n 0, 1) := by decide +kernel
theorem dX2_readOne_40 : decode cX2_readOne 40 = .ok (.aload_n 0, 1) := by decide +kernel
theorem dX2_readOne_41 : decode cX2_readOne 41 = .ok (.getfield 36, 3) := by decide +kernel
theorem dX2_readOne_44 : decode cX2_readOne 44 = .ok (.ineg, 1) := by decide +kernel
theorem dX2_readOne_45 : decode cX2_readOne 45 = .ok (.invokevirtual 63, 3) := by decide +kernel
theorem dX2_readOne_48 : decode cX2_readOne 48 = .ok (.aload_n 0, 1) := by decide +kernel
theorem dX2_readOne_49 : decode cX2_readOne 49 = .ok (.invokevirtual 45, 3) := by decide +kernel
theorem dX2_readOne_52 : decode cX2_readOne 52 = .ok (.goto 74, 3) := by decide +kernel
theorem dX2_readOne_55 : decode cX2_readOne 55 = .ok (.aload_n 0, 1) := by decide +kernel
theorem dX2_readOne_56 : decode cX2_readOne 56 = .ok (.getfield 36, 3) := by decide +kernel
theorem dX2_readOne_59 : decode cX2_readOne 59 = .ok (.bipush 45, 2) := by decide +kernel
theorem dX2_readOne_61 : decode cX2_readOne 61 = .ok (.if_icmp .ne 27, 3) := by decide +kernel
theorem dX2_readOne_64 : decode cX2_readOne 64 = .ok (.aload_n 0, 1) := by decide +kernel
theorem dX2_readOne_65 : decode cX2_readOne 65 = .ok (.iload_n 1, 1) := by decide +kernel
theorem dX2_readOne_66 : decode cX2_readOne 66 = .ok (.invokevirtual 59, 3) := by decide +kernel
theorem dX2_readOne_69 : decode cX2_readOne 69 = .ok (.ifCond .eq 57, 3) := by decide +kernel
theorem dX2_readOne_72 : decode cX2_readOne 72 = .ok (.aload_n 0, 1) := by decide +kernel
theorem dX2_readOne_73 : decode cX2_readOne 73 = .ok (.iload_n 1, 1) := by decide +kernel
theorem dX2_readOne_74 : decode cX2_readOne 74 = .ok (.iconst 1, 1) := by decide +kernel
theorem dX2_readOne_75 : decode cX2_readOne 75 = .ok (.iadd, 1) := by decide +kernel
theorem dX2_readOne_76 : decode cX2_readOne 76 = .ok (.invokevirtual 56, 3) := by decide +kernel
theorem dX2_readOne_79 : decode cX2_readOne 79 = .ok (.aload_n 0, 1) := by decide +kernel
theorem dX2_readOne_80 : decode cX2_readOne 80 = .ok (.bipush (-13), 2) := by decide +kernel
theorem dX2_readOne_82 : decode cX2_readOne 82 = .ok (.invokevirtual 63, 3) := by decide +kernel
theorem dX2_readOne_85 : decode cX2_readOne 85 = .ok (.goto 41, 3) := by decide +kernel
theorem dX2_readOne_88 : decode cX2_readOne 88 = .ok (.aload_n 0, 1) := by decide +kernel
theorem dX2_readOne_89 : decode cX2_readOne 89 = .ok (.getfield 36, 3) := by decide +kernel
theorem dX2_readOne_92 : decode cX2_readOne 92 = .ok (.bipush 40, 2) := by decide +kernel
theorem dX2_readOne_94 : decode cX2_readOne 94 = .ok (.if_icmp .ne 28, 3) := by decide +kernel
theorem dX2_readOne_97 : decode cX2_readOne 97 = .ok (.aload_n 0, 1) := by decide +kernel
theorem dX2_readOne_98 : decode cX2_readOne 98 = .ok (.iload_n 1, 1) := by decide +kernel
theorem dX2_readOne_99 : decode cX2_readOne 99 = .ok (.invokevirtual 59, 3) := by decide +kernel
theorem dX2_readOne_102 : decode cX2_readOne 102 = .ok (.ifCond .eq 24, 3) := by decide +kernel
theorem dX2_readOne_105 : decode cX2_readOne 105 = .ok (.aload_n 0, 1) := by decide +kernel
theorem dX2_readOne_106 : decode cX2_readOne 106 = .ok (.iconst 0, 1) := by decide +kernel
theorem dX2_readOne_107 : decode cX2_readOne 107 = .ok (.iload_n 1, 1) := by decide +kernel
theorem dX2_readOne_108 : decode cX2_readOne 108 = .ok (.iconst 1, 1) := by decide +kernel
theorem dX2_readOne_109 : decode cX2_readOne 109 = .ok (.iadd, 1) := by decide +kernel
theorem dX2_readOne_110 : decode cX2_readOne 110 = .ok (.invokevirtual 52, 3) := by decide +kernel
theorem dX2_readOne_113 : decode cX2_readOne 113 = .ok (.aload_n 0, 1) := by decide +kernel
theorem dX2_readOne_114 : decode cX2_readOne 114 = .ok (.bipush 41, 2) := by decide +kernel
theorem dX2_readOne_116 : decode cX2_readOne 116 = .ok (.invokevirtual 48, 3) := by decide +kernel
theorem dX2_readOne_119 : decode cX2_readOne 119 = .ok (.goto 7, 3) := by decide +kernel
theorem dX2_readOne_122 : decode cX2_readOne 122 = .ok (.aload_n 0, 1) := by decide +kernel
theorem dX2_readOne_123 : decode cX2_readOne 123 = .ok (.invokevirtual 70, 3) := by decide +kernel
theorem dX2_readOne_126 : decode cX2_readOne 126 = .ok (.return_, 1) := by decide +kernel
theorem dX2_enter_0 : decode cX2_enter 0 = .ok (.iload_n 1, 1) := by decide +kernel
theorem dX2_enter_1 : decode cX2_enter 1 = .ok (.iconst 5, 1) := by decide +kernel
theorem dX2_enter_2 : decode cX2_enter 2 = .ok (.if_icmp .lt 9, 3) := by decide +kernel
theorem dX2_enter_5 : decode cX2_enter 5 = .ok (.aload_n 0, 1) := by decide +kernel
theorem dX2_enter_6 : decode cX2_enter 6 = .ok (.invokevirtual 70, 3) := by decide +kernel
theorem dX2_enter_9 : decode cX2_enter 9 = .ok (.iconst 0, 1) := by decide +kernel
theorem dX2_enter_10 : decode cX2_enter 10 = .ok (.ireturn, 1) := by decide +kernel
theorem dX2_enter_11 : decode cX2_enter 11 = .ok (.aload_n 0, 1) := by decide +kernel
theorem dX2_enter_12 : decode cX2_enter 12 = .ok (.invokevirtual 45, 3) := by decide +kernel
theorem dX2_enter_15 : decode cX2_enter 15 = .ok (.iconst 1, 1) := by decide +kernel
theorem dX2_enter_16 : decode cX2_enter 16 = .ok (.ireturn, 1) := by decide +kernel
theorem dX2_expect_0 : decode cX2_expect 0 = .ok (.aload_n 0, 1) := by decide +kernel
theorem dX2_expect_1 : decode cX2_expect 1 = .ok (.getfield 36, 3) := by decide +kernel
theorem dX2_expect_4 : decode cX2_expect 4 = .ok (.iload_n 1, 1) := by decide +kernel
theorem dX2_expect_5 : decode cX2_expect 5 = .ok (.if_icmp .eq 10, 3) := by decide +kernel
theorem dX2_expect_8 : decode cX2_expect 8 = .ok (.aload_n 0, 1) := by decide +kernel
theorem dX2_expect_9 : decode cX2_expect 9 = .ok (.invokevirtual 70, 3) := by decide +kernel
theorem dX2_expect_12 : decode cX2_expect 12 = .ok (.goto 15, 3) := by decide +kernel
theorem dX2_expect_15 : decode cX2_expect 15 = .ok (.aload_n 0, 1) := by decide +kernel
theorem dX2_expect_16 : decode cX2_expect 16 = .ok (.getfield 36, 3) := by decide +kernel
theorem dX2_expect_19 : decode cX2_expect 19 = .ok (.iconst (-1), 1) := by decide +kernel
theorem dX2_expect_20 : decode cX2_expect 20 = .ok (.if_icmp .eq 7, 3) := by decide +kernel
theorem dX2_expect_23 : decode cX2_expect 23 = .ok (.aload_n 0, 1) := by decide +kernel
theorem dX2_expect_24 : decode cX2_expect 24 = .ok (.invokevirtual 45, 3) := by decide +kernel
theorem dX2_expect_27 : decode cX2_expect 27 = .ok (.return_, 1) := by decide +kernel
theorem dX2_fail_0 : decode cX2_fail 0 = .ok (.aload_n 0, 1) := by decide +kernel
theorem dX2_fail_1 : decode cX2_fail 1 = .ok (.getfield 42, 3) := by decide +kernel
theorem dX2_fail_4 : decode cX2_fail 4 = .ok (.iconst (-1), 1) := by decide +kernel
theorem dX2_fail_5 : decode cX2_fail 5 = .ok (.if_icmp .ne 11, 3) := by decide +kernel
theorem dX2_fail_8 : decode cX2_fail 8 = .ok (.aload_n 0, 1) := by decide +kernel
theorem dX2_fail_9 : decode cX2_fail 9 = .ok (.aload_n 0, 1) := by decide +kernel
theorem dX2_fail_10 : decode cX2_fail 10 = .ok (.getfield 33, 3) := by decide +kernel
theorem dX2_fail_13 : decode cX2_fail 13 = .ok (.putfield 42, 3) := by decide +kernel
theorem dX2_fail_16 : decode cX2_fail 16 = .ok (.aload_n 0, 1) := by decide +kernel
theorem dX2_fail_17 : decode cX2_fail 17 = .ok (.bipush (-2), 2) := by decide +kernel
theorem dX2_fail_19 : decode cX2_fail 19 = .ok (.putfield 36, 3) := by decide +kernel
theorem dX2_fail_22 : decode cX2_fail 22 = .ok (.return_, 1) := by decide +kernel
theorem dX2_emit_0 : decode cX2_emit 0 = .ok (.aload_n 0, 1) := by decide +kernel
theorem dX2_emit_1 : decode cX2_emit 1 = .ok (.getfield 27, 3) := by decide +kernel
theorem dX2_emit_4 : decode cX2_emit 4 = .ok (.aload_n 0, 1) := by decide +kernel
theorem dX2_emit_5 : decode cX2_emit 5 = .ok (.getfield 11, 3) := by decide +kernel
theorem dX2_emit_8 : decode cX2_emit 8 = .ok (.arraylength, 1) := by decide +kernel
theorem dX2_emit_9 : decode cX2_emit 9 = .ok (.if_icmp .ge 23, 3) := by decide +kernel
theorem dX2_emit_12 : decode cX2_emit 12 = .ok (.aload_n 0, 1) := by decide +kernel
theorem dX2_emit_13 : decode cX2_emit 13 = .ok (.getfield 11, 3) := by decide +kernel
theorem dX2_emit_16 : decode cX2_emit 16 = .ok (.aload_n 0, 1) := by decide +kernel
theorem dX2_emit_17 : decode cX2_emit 17 = .ok (.getfield 27, 3) := by decide +kernel
theorem dX2_emit_20 : decode cX2_emit 20 = .ok (.iload_n 1, 1) := by decide +kernel
theorem dX2_emit_21 : decode cX2_emit 21 = .ok (.iastore, 1) := by decide +kernel
theorem dX2_emit_22 : decode cX2_emit 22 = .ok (.aload_n 0, 1) := by decide +kernel
theorem dX2_emit_23 : decode cX2_emit 23 = .ok (.dup, 1) := by decide +kernel
theorem dX2_emit_24 : decode cX2_emit 24 = .ok (.getfield 27, 3) := by decide +kernel
theorem dX2_emit_27 : decode cX2_emit 27 = .ok (.iconst 1, 1) := by decide +kernel
theorem dX2_emit_28 : decode cX2_emit 28 = .ok (.iadd, 1) := by decide +kernel
theorem dX2_emit_29 : decode cX2_emit 29 = .ok (.putfield 27, 3) := by decide +kernel
theorem dX2_emit_32 : decode cX2_emit 32 = .ok (.return_, 1) := by decide +kernel
theorem dX2_advance_0 : decode cX2_advance 0 = .ok (.aload_n 0, 1) := by decide +kernel
theorem dX2_advance_1 : decode cX2_advance 1 = .ok (.getfield 30, 3) := by decide +kernel
theorem dX2_advance_4 : decode cX2_advance 4 = .ok (.aload_n 0, 1) := by decide +kernel
theorem dX2_advance_5 : decode cX2_advance 5 = .ok (.getfield 20, 3) := by decide +kernel
theorem dX2_advance_8 : decode cX2_advance 8 = .ok (.if_icmp .ge 44, 3) := by decide +kernel
theorem dX2_advance_11 : decode cX2_advance 11 = .ok (.aload_n 0, 1) := by decide +kernel
theorem dX2_advance_12 : decode cX2_advance 12 = .ok (.getfield 24, 3) := by decide +kernel
theorem dX2_advance_15 : decode cX2_advance 15 = .ok (.aload_n 0, 1) := by decide +kernel
theorem dX2_advance_16 : decode cX2_advance 16 = .ok (.getfield 30, 3) := by decide +kernel
theorem dX2_advance_19 : decode cX2_advance 19 = .ok (.iaload, 1) := by decide +kernel
theorem dX2_advance_20 : decode cX2_advance 20 = .ok (.bipush 32, 2) := by decide +kernel
theorem dX2_advance_22 : decode cX2_advance 22 = .ok (.if_icmp .eq 17, 3) := by decide +kernel
theorem dX2_advance_25 : decode cX2_advance 25 = .ok (.aload_n 0, 1) := by decide +kernel
theorem dX2_advance_26 : decode cX2_advance 26 = .ok (.getfield 24, 3) := by decide +kernel
theorem dX2_advance_29 : decode cX2_advance 29 = .ok (.aload_n 0, 1) := by decide +kernel
theorem dX2_advance_30 : decode cX2_advance 30 = .ok (.getfield 30, 3) := by decide +kernel
theorem dX2_advance_33 : decode cX2_advance 33 = .ok (.iaload, 1) := by decide +kernel
theorem dX2_advance_34 : decode cX2_advance 34 = .ok (.bipush 10, 2) := by decide +kernel
theorem dX2_advance_36 : decode cX2_advance 36 = .ok (.if_icmp .ne 16, 3) := by decide +kernel
theorem dX2_advance_39 : decode cX2_advance 39 = .ok (.aload_n 0, 1) := by decide +kernel
theorem dX2_advance_40 : decode cX2_advance 40 = .ok (.dup, 1) := by decide +kernel
theorem dX2_advance_41 : decode cX2_advance 41 = .ok (.getfield 30, 3) := by decide +kernel
theorem dX2_advance_44 : decode cX2_advance 44 = .ok (.iconst 1, 1) := by decide +kernel
theorem dX2_advance_45 : decode cX2_advance 45 = .ok (.iadd, 1) := by decide +kernel
theorem dX2_advance_46 : decode cX2_advance 46 = .ok (.putfield 30, 3) := by decide +kernel
theorem dX2_advance_49 : decode cX2_advance 49 = .ok (.goto (-49), 3) := by decide +kernel
theorem dX2_advance_52 : decode cX2_advance 52 = .ok (.aload_n 0, 1) := by decide +kernel
theorem dX2_advance_53 : decode cX2_advance 53 = .ok (.aload_n 0, 1) := by decide +kernel
theorem dX2_advance_54 : decode cX2_advance 54 = .ok (.getfield 30, 3) := by decide +kernel
theorem dX2_advance_57 : decode cX2_advance 57 = .ok (.putfield 33, 3) := by decide +kernel
theorem dX2_advance_60 : decode cX2_advance 60 = .ok (.aload_n 0, 1) := by decide +kernel
theorem dX2_advance_61 : decode cX2_advance 61 = .ok (.getfield 30, 3) := by decide +kernel
theorem dX2_advance_64 : decode cX2_advance 64 = .ok (.aload_n 0, 1) := by decide +kernel
theorem dX2_advance_65 : decode cX2_advance 65 = .ok (.getfield 20, 3) := by decide +kernel
theorem dX2_advance_68 : decode cX2_advance 68 = .ok (.if_icmp .lt 11, 3) := by decide +kernel
theorem dX2_advance_71 : decode cX2_advance 71 = .ok (.aload_n 0, 1) := by decide +kernel
theorem dX2_advance_72 : decode cX2_advance 72 = .ok (.iconst (-1), 1) := by decide +kernel
theorem dX2_advance_73 : decode cX2_advance 73 = .ok (.putfield 36, 3) := by decide +kernel
theorem dX2_advance_76 : decode cX2_advance 76 = .ok (.goto 90, 3) := by decide +kernel
theorem dX2_advance_79 : decode cX2_advance 79 = .ok (.aload_n 0, 1) := by decide +kernel
theorem dX2_advance_80 : decode cX2_advance 80 = .ok (.getfield 24, 3) := by decide +kernel
theorem dX2_advance_83 : decode cX2_advance 83 = .ok (.aload_n 0, 1) := by decide +kernel
theorem dX2_advance_84 : decode cX2_advance 84 = .ok (.getfield 30, 3) := by decide +kernel
theorem dX2_advance_87 : decode cX2_advance 87 = .ok (.iaload, 1) := by decide +kernel
theorem dX2_advance_88 : decode cX2_advance 88 = .ok (.invokestatic 73, 3) := by decide +kernel
theorem dX2_advance_91 : decode cX2_advance 91 = .ok (.ifCond .eq 10, 3) := by decide +kernel
theorem dX2_advance_94 : decode cX2_advance 94 = .ok (.aload_n 0, 1) := by decide +kernel
theorem dX2_advance_95 : decode cX2_advance 95 = .ok (.invokevirtual 76, 3) := by decide +kernel
theorem dX2_advance_98 : decode cX2_advance 98 = .ok (.goto 68, 3) := by decide +kernel
theorem dX2_advance_101 : decode cX2_advance 101 = .ok (.aload_n 0, 1) := by decide +kernel
theorem dX2_advance_102 : decode cX2_advance 102 = .ok (.getfield 24, 3) := by decide +kernel
theorem dX2_advance_105 : decode cX2_advance 105 = .ok (.aload_n 0, 1) := by decide +kernel
theorem dX2_advance_106 : decode cX2_advance 106 = .ok (.getfield 30, 3) := by decide +kernel
theorem dX2_advance_109 : decode cX2_advance 109 = .ok (.iaload, 1) := by decide +kernel
theorem dX2_advance_110 : decode cX2_advance 110 = .ok (.invokestatic 79, 3) := by decide +kernel
theorem dX2_advance_113 : decode cX2_advance 113 = .ok (.ifCond .eq 10, 3) := by decide +kernel
theorem dX2_advance_116 : decode cX2_advance 116 = .ok (.aload_n 0, 1) := by decide +kernel
theorem dX2_advance_117 : decode cX2_advance 117 = .ok (.invokevirtual 82, 3) := by decide +kernel
theorem dX2_advance_120 : decode cX2_advance 120 = .ok (.goto 46, 3) := by decide +kernel
theorem dX2_advance_123 : decode cX2_advance 123 = .ok (.aload_n 0, 1) := by decide +kernel
theorem dX2_advance_124 : decode cX2_advance 124 = .ok (.aload_n 0, 1) := by decide +kernel
theorem dX2_advance_125 : decode cX2_advance 125 = .ok (.getfield 24, 3) := by decide +kernel
theorem dX2_advance_128 : decode cX2_advance 128 = .ok (.aload_n 0, 1) := by decide +kernel
theorem dX2_advance_129 : decode cX2_advance 129 = .ok (.getfield 30, 3) := by decide +kernel
theorem dX2_advance_132 : decode cX2_advance 132 = .ok (.iaload, 1) := by decide +kernel
theorem dX2_advance_133 : decode cX2_advance 133 = .ok (.invokestatic 85, 3) := by decide +kernel
theorem dX2_advance_136 : decode cX2_advance 136 = .ok (.ifCond .eq 15, 3) := by decide +kernel
theorem dX2_advance_139 : decode cX2_advance 139 = .ok (.aload_n 0, 1) := by decide +kernel
theorem dX2_advance_140 : decode cX2_advance 140 = .ok (.getfield 24, 3) := by decide +kernel
theorem dX2_advance_143 : decode cX2_advance 143 = .ok (.aload_n 0, 1) := by decide +kernel
theorem dX2_advance_144 : decode cX2_advance 144 = .ok (.getfield 30, 3) := by decide +kernel
theorem dX2_advance_147 : decode cX2_advance 147 = .ok (.iaload, 1) := by decide +kernel
theorem dX2_advance_148 : decode cX2_advance 148 = .ok (.goto 5, 3) := by decide +kernel
theorem dX2_advance_151 : decode cX2_advance 151 = .ok (.bipush (-2), 2) := by decide +kernel
theorem dX2_advance_153 : decode cX2_advance 153 = .ok (.putfield 36, 3) := by decide +kernel
theorem dX2_advance_156 : decode cX2_advance 156 = .ok (.aload_n 0, 1) := by decide +kernel
theorem dX2_advance_157 : decode cX2_advance 157 = .ok (.dup, 1) := by decide +kernel
theorem dX2_advance_158 : decode cX2_advance 158 = .ok (.getfield 30, 3) := by decide +kernel
theorem dX2_advance_161 : decode cX2_advance 161 = .ok (.iconst 1, 1) := by decide +kernel
theorem dX2_advance_162 : decode cX2_advance 162 = .ok (.iadd, 1) := by decide +kernel
theorem dX2_advance_163 : decode cX2_advance 163 = .ok (.putfield 30, 3) := by decide +kernel
theorem dX2_advance_166 : decode cX2_advance 166 = .ok (.return_, 1) := by decide +kernel
theorem dX2_takeWord_0 : decode cX2_takeWord 0 = .ok (.aload_n 0, 1) := by decide +kernel
theorem dX2_takeWord_1 : decode cX2_takeWord 1 = .ok (.getfield 30, 3) := by decide +kernel
theorem dX2_takeWord_4 : decode cX2_takeWord 4 = .ok (.aload_n 0, 1) := by decide +kernel
theorem dX2_takeWord_5 : decode cX2_takeWord 5 = .ok (.getfield 20, 3) := by decide +kernel
theorem dX2_takeWord_8 : decode cX2_takeWord 8 = .ok (.if_icmp .ge 31, 3) := by decide +kernel
theorem dX2_takeWord_11 : decode cX2_takeWord 11 = .ok (.aload_n 0, 1) := by decide +kernel
theorem dX2_takeWord_12 : decode cX2_takeWord 12 = .ok (.getfield 24, 3) := by decide +kernel
theorem dX2_takeWord_15 : decode cX2_takeWord 15 = .ok (.aload_n 0, 1) := by decide +kernel
theorem dX2_takeWord_16 : decode cX2_takeWord 16 = .ok (.getfield 30, 3) := by decide +kernel
theorem dX2_takeWord_19 : decode cX2_takeWord 19 = .ok (.iaload, 1) := by decide +kernel
theorem dX2_takeWord_20 : decode cX2_takeWord 20 = .ok (.invokestatic 73, 3) := by decide +kernel
theorem dX2_takeWord_23 : decode cX2_takeWord 23 = .ok (.ifCond .eq 16, 3) := by decide +kernel
theorem dX2_takeWord_26 : decode cX2_takeWord 26 = .ok (.aload_n 0, 1) := by decide +kernel
theorem dX2_takeWord_27 : decode cX2_takeWord 27 = .ok (.dup, 1) := by decide +kernel
theorem dX2_takeWord_28 : decode cX2_takeWord 28 = .ok (.getfield 30, 3) := by decide +kernel
theorem dX2_takeWord_31 : decode cX2_takeWord 31 = .ok (.iconst 1, 1) := by decide +kernel
theorem dX2_takeWord_32 : decode cX2_takeWord 32 = .ok (.iadd, 1) := by decide +kernel
theorem dX2_takeWord_33 : decode cX2_takeWord 33 = .ok (.putfield 30, 3) := by decide +kernel
theorem dX2_takeWord_36 : decode cX2_takeWord 36 = .ok (.goto (-36), 3) := by decide +kernel
theorem dX2_takeWord_39 : decode cX2_takeWord 39 = .ok (.aload_n 0, 1) := by decide +kernel
theorem dX2_takeWord_40 : decode cX2_takeWord 40 = .ok (.bipush (-2), 2) := by decide +kernel
theorem dX2_takeWord_42 : decode cX2_takeWord 42 = .ok (.putfield 36, 3) := by decide +kernel
theorem dX2_takeWord_45 : decode cX2_takeWord 45 = .ok (.iconst 1, 1) := by decide +kernel
theorem dX2_takeWord_46 : decode cX2_takeWord 46 = .ok (.istore_n 1, 1) := by decide +kernel
theorem dX2_takeWord_47 : decode cX2_takeWord 47 = .ok (.iload_n 1, 1) := by decide +kernel
theorem dX2_takeWord_48 : decode cX2_takeWord 48 = .ok (.bipush 12, 2) := by decide +kernel
theorem dX2_takeWord_50 : decode cX2_takeWord 50 = .ok (.if_icmp .gt 25, 3) := by decide +kernel
theorem dX2_takeWord_53 : decode cX2_takeWord 53 = .ok (.aload_n 0, 1) := by decide +kernel
theorem dX2_takeWord_54 : decode cX2_takeWord 54 = .ok (.iload_n 1, 1) := by decide +kernel
theorem dX2_takeWord_55 : decode cX2_takeWord 55 = .ok (.invokestatic 88, 3) := by decide +kernel
theorem dX2_takeWord_58 : decode cX2_takeWord 58 = .ok (.invokevirtual 92, 3) := by decide +kernel
theorem dX2_takeWord_61 : decode cX2_takeWord 61 = .ok (.ifCond .eq 8, 3) := by decide +kernel
theorem dX2_takeWord_64 : decode cX2_takeWord 64 = .ok (.aload_n 0, 1) := by decide +kernel
theorem dX2_takeWord_65 : decode cX2_takeWord 65 = .ok (.iload_n 1, 1) := by decide +kernel
theorem dX2_takeWord_66 : decode cX2_takeWord 66 = .ok (.putfield 36, 3) := by decide +kernel
theorem dX2_takeWord_69 : decode cX2_takeWord 69 = .ok (.iinc 1 1, 3) := by decide +kernel
theorem dX2_takeWord_72 : decode cX2_takeWord 72 = .ok (.goto (-25), 3) := by decide +kernel
theorem dX2_takeWord_75 : decode cX2_takeWord 75 = .ok (.return_, 1) := by decide +kernel
theorem dX2_takeNumber_0 : decode cX2_takeNumber 0 = .ok (.aload_n 0, 1) := by decide +kernel
theorem dX2_takeNumber_1 : decode cX2_takeNumber 1 = .ok (.iconst 0, 1) := by decide +kernel
theorem dX2_takeNumber_2 : decode cX2_takeNumber 2 = .ok (.putfield 39, 3) := by decide +kernel
theorem dX2_takeNumber_5 : decode cX2_takeNumber 5 = .ok (.aload_n 0, 1) := by decide +kernel
theorem dX2_takeNumber_6 : decode cX2_takeNumber 6 = .ok (.getfield 30, 3) := by decide +kernel
theorem dX2_takeNumber_9 : decode cX2_takeNumber 9 = .ok (.aload_n 0, 1) := by decide +kernel
theorem dX2_takeNumber_10 : decode cX2_takeNumber 10 = .ok (.getfield 20, 3) := by decide +kernel
theorem dX2_takeNumber_13 : decode cX2_takeNumber 13 = .ok (.if_icmp .ge 55, 3) := by decide +kernel
theorem dX2_takeNumber_16 : decode cX2_takeNumber 16 = .ok (.aload_n 0, 1) := by decide +kernel
theorem dX2_takeNumber_17 : decode cX2_takeNumber 17 = .ok (.getfield 24, 3) := by decide +kernel
theorem dX2_takeNumber_20 : decode cX2_takeNumber 20 = .ok (.aload_n 0, 1) := by decide +kernel
theorem dX2_takeNumber_21 : decode cX2_takeNumber 21 = .ok (.getfield 30, 3) := by decide +kernel
theorem dX2_takeNumber_24 : decode cX2_takeNumber 24 = .ok (.iaload, 1) := by decide +kernel
theorem dX2_takeNumber_25 : decode cX2_takeNumber 25 = .ok (.invokestatic 79, 3) := by decide +kernel
theorem dX2_takeNumber_28 : decode cX2_takeNumber 28 = .ok (.ifCond .eq 40, 3) := by decide +kernel
theorem dX2_takeNumber_31 : decode cX2_takeNumber 31 = .ok (.aload_n 0, 1) := by decide +kernel
theorem dX2_takeNumber_32 : decode cX2_takeNumber 32 = .ok (.aload_n 0, 1) := by decide +kernel
theorem dX2_takeNumber_33 : decode cX2_takeNumber 33 = .ok (.getfield 39, 3) := by decide +kernel
theorem dX2_takeNumber_36 : decode cX2_takeNumber 36 = .ok (.bipush 10, 2) := by decide +kernel
theorem dX2_takeNumber_38 : decode cX2_takeNumber 38 = .ok (.imul, 1) := by decide +kernel
theorem dX2_takeNumber_39 : decode cX2_takeNumber 39 = .ok (.aload_n 0, 1) := by decide +kernel
theorem dX2_takeNumber_40 : decode cX2_takeNumber 40 = .ok (.getfield 24, 3) := by decide +kernel
theorem dX2_takeNumber_43 : decode cX2_takeNumber 43 = .ok (.aload_n 0, 1) := by decide +kernel
theorem dX2_takeNumber_44 : decode cX2_takeNumber 44 = .ok (.getfield 30, 3) := by decide +kernel
theorem dX2_takeNumber_47 : decode cX2_takeNumber 47 = .ok (.iaload, 1) := by decide +kernel
theorem dX2_takeNumber_48 : decode cX2_takeNumber 48 = .ok (.iadd, 1) := by decide +kernel
theorem dX2_takeNumber_49 : decode cX2_takeNumber 49 = .ok (.bipush 48, 2) := by decide +kernel
theorem dX2_takeNumber_51 : decode cX2_takeNumber 51 = .ok (.isub, 1) := by decide +kernel
theorem dX2_takeNumber_52 : decode cX2_takeNumber 52 = .ok (.putfield 39, 3) := by decide +kernel
theorem dX2_takeNumber_55 : decode cX2_takeNumber 55 = .ok (.aload_n 0, 1) := by decide +kernel
theorem dX2_takeNumber_56 : decode cX2_takeNumber 56 = .ok (.dup, 1) := by decide +kernel
theorem dX2_takeNumber_57 : decode cX2_takeNumber 57 = .ok (.getfield 30, 3) := by decide +kernel
theorem dX2_takeNumber_60 : decode cX2_takeNumber 60 = .ok (.iconst 1, 1) := by decide +kernel
theorem dX2_takeNumber_61 : decode cX2_takeNumber 61 = .ok (.iadd, 1) := by decide +kernel
theorem dX2_takeNumber_62 : decode cX2_takeNumber 62 = .ok (.putfield 30, 3) := by decide +kernel
theorem dX2_takeNumber_65 : decode cX2_takeNumber 65 = .ok (.goto (-60), 3) := by decide +kernel
theorem dX2_takeNumber_68 : decode cX2_takeNumber 68 = .ok (.aload_n 0, 1) := by decide +kernel
theorem dX2_takeNumber_69 : decode cX2_takeNumber 69 = .ok (.aload_n 0, 1) := by decide +kernel
theorem dX2_takeNumber_70 : decode cX2_takeNumber 70 = .ok (.getfield 30, 3) := by decide +kernel
theorem dX2_takeNumber_73 : decode cX2_takeNumber 73 = .ok (.aload_n 0, 1) := by decide +kernel
theorem dX2_takeNumber_74 : decode cX2_takeNumber 74 = .ok (.getfield 33, 3) := by decide +kernel
theorem dX2_takeNumber_77 : decode cX2_takeNumber 77 = .ok (.isub, 1) := by decide +kernel
theorem dX2_takeNumber_78 : decode cX2_takeNumber 78 = .ok (.iconst 4, 1) := by decide +kernel
theorem dX2_takeNumber_79 : decode cX2_takeNumber 79 = .ok (.if_icmp .le 8, 3) := by decide +kernel
theorem dX2_takeNumber_82 : decode cX2_takeNumber 82 = .ok (.bipush (-2), 2) := by decide +kernel
theorem dX2_takeNumber_84 : decode cX2_takeNumber 84 = .ok (.goto 4, 3) := by decide +kernel
theorem dX2_takeNumber_87 : decode cX2_takeNumber 87 = .ok (.iconst 0, 1) := by decide +kernel
theorem dX2_takeNumber_88 : decode cX2_takeNumber 88 = .ok (.putfield 36, 3) := by decide +kernel
theorem dX2_takeNumber_91 : decode cX2_takeNumber 91 = .ok (.return_, 1) := by decide +kernel
theorem dX2_spells_0 : decode cX2_spells 0 = .ok (.aload_n 0, 1) := by decide +kernel
theorem dX2_spells_1 : decode cX2_spells 1 = .ok (.getfield 30, 3) := by decide +kernel
theorem dX2_spells_4 : decode cX2_spells 4 = .ok (.aload_n 0, 1) := by decide +kernel
theorem dX2_spells_5 : decode cX2_spells 5 = .ok (.getfield 33, 3) := by decide +kernel
theorem dX2_spells_8 : decode cX2_spells 8 = .ok (.isub, 1) := by decide +kernel
theorem dX2_spells_9 : decode cX2_spells 9 = .ok (.aload_n 1, 1) := by decide +kernel
theorem dX2_spells_10 : decode cX2_spells 10 = .ok (.invokevirtual 96, 3) := by decide +kernel
theorem dX2_spells_13 : decode cX2_spells 13 = .ok (.if_icmp .eq 5, 3) := by decide +kernel
theorem dX2_spells_16 : decode cX2_spells 16 = .ok (.iconst 0, 1) := by decide +kernel
theorem dX2_spells_17 : decode cX2_spells 17 = .ok (.ireturn, 1) := by decide +kernel
theorem dX2_spells_18 : decode cX2_spells 18 = .ok (.iconst 0, 1) := by decide +kernel
theorem dX2_spells_19 : decode cX2_spells 19 = .ok (.istore_n 2, 1) := by decide +kernel
theorem dX2_spells_20 : decode cX2_spells 20 = .ok (.iload_n 2, 1) := by decide +kernel
theorem dX2_spells_21 : decode cX2_spells 21 = .ok (.aload_n 1, 1) := by decide +kernel
theorem dX2_spells_22 : decode cX2_spells 22 = .ok (.invokevirtual 96, 3) := by decide +kernel
theorem dX2_spells_25 : decode cX2_spells 25 = .ok (.if_icmp .ge 30, 3) := by decide +kernel
theorem dX2_spells_28 : decode cX2_spells 28 = .ok (.aload_n 0, 1) := by decide +kernel
theorem dX2_spells_29 : decode cX2_spells 29 = .ok (.getfield 24, 3) := by decide +kernel
theorem dX2_spells_32 : decode cX2_spells 32 = .ok (.aload_n 0, 1) := by decide +kernel
theorem dX2_spells_33 : decode cX2_spells 33 = .ok (.getfield 33, 3) := by decide +kernel
theorem dX2_spells_36 : decode cX2_spells 36 = .ok (.iload_n 2, 1) := by decide +kernel
theorem dX2_spells_37 : decode cX2_spells 37 = .ok (.iadd, 1) := by decide +kernel
theorem dX2_spells_38 : decode cX2_spells 38 = .ok (.iaload, 1) := by decide +kernel
theorem dX2_spells_39 : decode cX2_spells 39 = .ok (.aload_n 1, 1) := by decide +kernel
theorem dX2_spells_40 : decode cX2_spells 40 = .ok (.iload_n 2, 1) := by decide +kernel
theorem dX2_spells_41 : decode cX2_spells 41 = .ok (.invokevirtual 101, 3) := by decide +kernel
theorem dX2_spells_44 : decode cX2_spells 44 = .ok (.if_icmp .eq 5, 3) := by decide +kernel
theorem dX2_spells_47 : decode cX2_spells 47 = .ok (.iconst 0, 1) := by decide +kernel
theorem dX2_spells_48 : decode cX2_spells 48 = .ok (.ireturn, 1) := by decide +kernel
theorem dX2_spells_49 : decode cX2_spells 49 = .ok (.iinc 2 1, 3) := by decide +kernel
theorem dX2_spells_52 : decode cX2_spells 52 = .ok (.goto (-32), 3) := by decide +kernel
theorem dX2_spells_55 : decode cX2_spells 55 = .ok (.iconst 1, 1) := by decide +kernel
theorem dX2_spells_56 : decode cX2_spells 56 = .ok (.ireturn, 1) := by decide +kernel
theorem dX2_spelling_0 : decode cX2_spelling 0 = .ok (.iload_n 0, 1) := by decide +kernel
theorem dX2_spelling_1 : decode cX2_spelling 1 = .ok (.tableswitch 92 1 11 #[59, 62, 65, 68, 71, 74, 77, 80, 83, 86, 89], 59) := by decide +kernel
theorem dX2_spelling_60 : decode cX2_spelling 60 = .ok (.ldc 105, 2) := by decide +kernel
theorem dX2_spelling_62 : decode cX2_spelling 62 = .ok (.areturn, 1) := by decide +kernel
theorem dX2_spelling_63 : decode cX2_spelling 63 = .ok (.ldc 107, 2) := by decide +kernel
theorem dX2_spelling_65 : decode cX2_spelling 65 = .ok (.areturn, 1) := by decide +kernel
theorem dX2_spelling_66 : decode cX2_spelling 66 = .ok (.ldc 109, 2) := by decide +kernel
theorem dX2_spelling_68 : decode cX2_spelling 68 = .ok (.areturn, 1) := by decide +kernel
theorem dX2_spelling_69 : decode cX2_spelling 69 = .ok (.ldc 111, 2) := by decide +kernel
theorem dX2_spelling_71 : decode cX2_spelling 71 = .ok (.areturn, 1) := by decide +kernel
theorem dX2_spelling_72 : decode cX2_spelling 72 = .ok (.ldc 113, 2) := by decide +kernel
theorem dX2_spelling_74 : decode cX2_spelling 74 = .ok (.areturn, 1) := by decide +kernel
theorem dX2_spelling_75 : decode cX2_spelling 75 = .ok (.ldc 115, 2) := by decide +kernel
theorem dX2_spelling_77 : decode cX2_spelling 77 = .ok (.areturn, 1) := by decide +kernel
theorem dX2_spelling_78 : decode cX2_spelling 78 = .ok (.ldc 117, 2) := by decide +kernel
theorem dX2_spelling_80 : decode cX2_spelling 80 = .ok (.areturn, 1) := by decide +kernel
theorem dX2_spelling_81 : decode cX2_spelling 81 = .ok (.ldc 119, 2) := by decide +kernel
theorem dX2_spelling_83 : decode cX2_spelling 83 = .ok (.areturn, 1) := by decide +kernel
theorem dX2_spelling_84 : decode cX2_spelling 84 = .ok (.ldc 121, 2) := by decide +kernel
theorem dX2_spelling_86 : decode cX2_spelling 86 = .ok (.areturn, 1) := by decide +kernel
theorem dX2_spelling_87 : decode cX2_spelling 87 = .ok (.ldc 123, 2) := by decide +kernel
theorem dX2_spelling_89 : decode cX2_spelling 89 = .ok (.areturn, 1) := by decide +kernel
theorem dX2_spelling_90 : decode cX2_spelling 90 = .ok (.ldc 125, 2) := by decide +kernel
theorem dX2_spelling_92 : decode cX2_spelling 92 = .ok (.areturn, 1) := by decide +kernel
theorem dX2_spelling_93 : decode cX2_spelling 93 = .ok (.ldc 127, 2) := by decide +kernel
theorem dX2_spelling_95 : decode cX2_spelling 95 = .ok (.areturn, 1) := by decide +kernel
theorem dX2_isLetter_0 : decode cX2_isLetter 0 = .ok (.bipush 97, 2) := by decide +kernel
theorem dX2_isLetter_2 : decode cX2_isLetter 2 = .ok (.iload_n 0, 1) := by decide +kernel
theorem dX2_isLetter_3 : decode cX2_isLetter 3 = .ok (.if_icmp .gt 13, 3) := by decide +kernel
theorem dX2_isLetter_6 : decode cX2_isLetter 6 = .ok (.iload_n 0, 1) := by decide +kernel
theorem dX2_isLetter_7 : decode cX2_isLetter 7 = .ok (.bipush 122, 2) := by decide +kernel
theorem dX2_isLetter_9 : decode cX2_isLetter 9 = .ok (.if_icmp .gt 7, 3) := by decide +kernel
theorem dX2_isLetter_12 : decode cX2_isLetter 12 = .ok (.iconst 1, 1) := by decide +kernel
theorem dX2_isLetter_13 : decode cX2_isLetter 13 = .ok (.goto 4, 3) := by decide +kernel
theorem dX2_isLetter_16 : decode cX2_isLetter 16 = .ok (.iconst 0, 1) := by decide +kernel
theorem dX2_isLetter_17 : decode cX2_isLetter 17 = .ok (.ireturn, 1) := by decide +kernel
theorem dX2_isDigit_0 : decode cX2_isDigit 0 = .ok (.bipush 48, 2) := by decide +kernel
theorem dX2_isDigit_2 : decode cX2_isDigit 2 = .ok (.iload_n 0, 1) := by decide +kernel
theorem dX2_isDigit_3 : decode cX2_isDigit 3 = .ok (.if_icmp .gt 13, 3) := by decide +kernel
theorem dX2_isDigit_6 : decode cX2_isDigit 6 = .ok (.iload_n 0, 1) := by decide +kernel
theorem dX2_isDigit_7 : decode cX2_isDigit 7 = .ok (.bipush 57, 2) := by decide +kernel
theorem dX2_isDigit_9 : decode cX2_isDigit 9 = .ok (.if_icmp .gt 7, 3) := by decide +kernel
theorem dX2_isDigit_12 : decode cX2_isDigit 12 = .ok (.iconst 1, 1) := by decide +kernel
theorem dX2_isDigit_13 : decode cX2_isDigit 13 = .ok (.goto 4, 3) := by decide +kernel
theorem dX2_isDigit_16 : decode cX2_isDigit 16 = .ok (.iconst 0, 1) := by decide +kernel
theorem dX2_isDigit_17 : decode cX2_isDigit 17 = .ok (.ireturn, 1) := by decide +kernel
theorem dX2_isSign_0 : decode cX2_isSign 0 = .ok (.iload_n 0, 1) := by decide +kernel
theorem dX2_isSign_1 : decode cX2_isSign 1 = .ok (.tableswitch 105 40 61 #[103, 103, 103, 103, 105, 103, 105, 105, 105, 105, 105, 105, 105, 105, 105, 105, 105, 105, 105, 103, 103, 103], 103) := by decide +kernel
theorem dX2_isSign_104 : decode cX2_isSign 104 = .ok (.iconst 1, 1) := by decide +kernel
theorem dX2_isSign_105 : decode cX2_isSign 105 = .ok (.ireturn, 1) := by decide +kernel
theorem dX2_isSign_106 : decode cX2_isSign 106 = .ok (.iconst 0, 1) := by decide +kernel
theorem dX2_isSign_107 : decode cX2_isSign 107 = .ok (.ireturn, 1) := by decide +kernel
theorem dX3_init_0 : decode cX3_init 0 = .ok (.aload_n 0, 1) := by decide +kernel
theorem dX3_init_1 : decode cX3_init 1 = .ok (.invokespecial 1, 3) := by decide +kernel
theorem dX3_init_4 : decode cX3_init 4 = .ok (.aload_n 0, 1) := by decide +kernel
theorem dX3_init_5 : decode cX3_init 5 = .ok (.sipush 160, 3) := by decide +kernel
theorem dX3_init_8 : decode cX3_init 8 = .ok (.newarray .int, 2) := by decide +kernel
theorem dX3_init_10 : decode cX3_init 10 = .ok (.putfield 9, 3) := by decide +kernel
theorem dX3_init_13 : decode cX3_init 13 = .ok (.aload_n 0, 1) := by decide +kernel
theorem dX3_init_14 : decode cX3_init 14 = .ok (.iconst 3, 1) := by decide +kernel
theorem dX3_init_15 : decode cX3_init 15 = .ok (.newarray .int, 2) := by decide +kernel
theorem dX3_init_17 : decode cX3_init 17 = .ok (.putfield 15, 3) := by decide +kernel
theorem dX3_init_20 : decode cX3_init 20 = .ok (.aload_n 0, 1) := by decide +kernel
theorem dX3_init_21 : decode cX3_init 21 = .ok (.sipush 160, 3) := by decide +kernel
theorem dX3_init_24 : decode cX3_init 24 = .ok (.newarray .int, 2) := by decide +kernel
theorem dX3_init_26 : decode cX3_init 26 = .ok (.putfield 18, 3) := by decide +kernel
theorem dX3_init_29 : decode cX3_init 29 = .ok (.aload_n 0, 1) := by decide +kernel
theorem dX3_init_30 : decode cX3_init 30 = .ok (.iload_n 1, 1) := by decide +kernel
theorem dX3_init_31 : decode cX3_init 31 = .ok (.putfield 21, 3) := by decide +kernel
theorem dX3_init_34 : decode cX3_init 34 = .ok (.return_, 1) := by decide +kernel
theorem dX3_adopt_0 : decode cX3_adopt 0 = .ok (.aload_n 1, 1) := by decide +kernel
theorem dX3_adopt_1 : decode cX3_adopt 1 = .ok (.iconst 0, 1) := by decide +kernel
theorem dX3_adopt_2 : decode cX3_adopt 2 = .ok (.aload_n 0, 1) := by decide +kernel
theorem dX3_adopt_3 : decode cX3_adopt 3 = .ok (.getfield 9, 3) := by decide +kernel
theorem dX3_adopt_6 : decode cX3_adopt 6 = .ok (.iconst 0, 1) := by decide +kernel
theorem dX3_adopt_7 : decode cX3_adopt 7 = .ok (.aload_n 1, 1) := by decide +kernel
theorem dX3_adopt_8 : decode cX3_adopt 8 = .ok (.arraylength, 1) := by decide +kernel
theorem dX3_adopt_9 : decode cX3_adopt 9 = .ok (.aload_n 0, 1) := by decide +kernel
theorem dX3_adopt_10 : decode cX3_adopt 10 = .ok (.getfield 9, 3) := by decide +kernel
theorem dX3_adopt_13 : decode cX3_adopt 13 = .ok (.arraylength, 1) := by decide +kernel
theorem dX3_adopt_14 : decode cX3_adopt 14 = .ok (.invokestatic 25, 3) := by decide +kernel
theorem dX3_adopt_17 : decode cX3_adopt 17 = .ok (.invokestatic 31, 3) := by decide +kernel
theorem dX3_adopt_20 : decode cX3_adopt 20 = .ok (.aload_n 2, 1) := by decide +kernel
theorem dX3_adopt_21 : decode cX3_adopt 21 = .ok (.iconst 0, 1) := by decide +kernel
theorem dX3_adopt_22 : decode cX3_adopt 22 = .ok (.aload_n 0, 1) := by decide +kernel
theorem dX3_adopt_23 : decode cX3_adopt 23 = .ok (.getfield 15, 3) := by decide +kernel
theorem dX3_adopt_26 : decode cX3_adopt 26 = .ok (.iconst 0, 1) := by decide +kernel
theorem dX3_adopt_27 : decode cX3_adopt 27 = .ok (.aload_n 2, 1) := by decide +kernel
theorem dX3_adopt_28 : decode cX3_adopt 28 = .ok (.arraylength, 1) := by decide +kernel
theorem dX3_adopt_29 : decode cX3_adopt 29 = .ok (.aload_n 0, 1) := by decide +kernel
theorem dX3_adopt_30 : decode cX3_adopt 30 = .ok (.getfield 15, 3) := by decide +kernel
theorem dX3_adopt_33 : decode cX3_adopt 33 = .ok (.arraylength, 1) := by decide +kernel
theorem dX3_adopt_34 : decode cX3_adopt 34 = .ok (.invokestatic 25, 3) := by decide +kernel
theorem dX3_adopt_37 : decode cX3_adopt 37 = .ok (.invokestatic 31, 3) := by decide +kernel
theorem dX3_adopt_40 : decode cX3_adopt 40 = .ok (.return_, 1) := by decide +kernel
theorem dX3_value_0 : decode cX3_value 0 = .ok (.iconst 0, 1) := by decide +kernel
theorem dX3_value_1 : decode cX3_value 1 = .ok (.istore_n 3, 1) := by decide +kernel
theorem dX3_value_2 : decode cX3_value 2 = .ok (.iload_n 1, 1) := by decide +kernel
theorem dX3_value_3 : decode cX3_value 3 = .ok (.ifCond .ne 7, 3) := by decide +kernel
theorem dX3_value_6 : decode cX3_value 6 = .ok (.iconst 0, 1) := by decide +kernel
theorem dX3_value_7 : decode cX3_value 7 = .ok (.goto 11, 3) := by decide +kernel
theorem dX3_value_10 : decode cX3_value 10 = .ok (.aload_n 0, 1) := by decide +kernel
theorem dX3_value_11 : decode cX3_value 11 = .ok (.getfield 15, 3) := by decide +kernel
theorem dX3_value_14 : decode cX3_value 14 = .ok (.iload_n 1, 1) := by decide +kernel
theorem dX3_value_15 : decode cX3_value 15 = .ok (.iconst 1, 1) := by decide +kernel
theorem dX3_value_16 : decode cX3_value 16 = .ok (.isub, 1) := by decide +kernel
theorem dX3_value_17 : decode cX3_value 17 = .ok (.iaload, 1) := by decide +kernel
theorem dX3_value_18 : decode cX3_value 18 = .ok (.istore 4, 2) := by decide +kernel
theorem dX3_value_20 : decode cX3_value 20 = .ok (.iload 4, 2) := by decide +kernel
theorem dX3_value_22 : decode cX3_value 22 = .ok (.aload_n 0, 1) := by decide +kernel
theorem dX3_value_23 : decode cX3_value 23 = .ok (.getfield 15, 3) := by decide +kernel
theorem dX3_value_26 : decode cX3_value 26 = .ok (.iload_n 1, 1) := by decide +kernel
theorem dX3_value_27 : decode cX3_value 27 = .ok (.iaload, 1) := by decide +kernel
theorem dX3_value_28 : decode cX3_value 28 = .ok (.if_icmp .ge 139, 3) := by decide +kernel
theorem dX3_value_31 : decode cX3_value 31 = .ok (.aload_n 0, 1) := by decide +kernel
theorem dX3_value_32 : decode cX3_value 32 = .ok (.getfield 9, 3) := by decide +kernel
theorem dX3_value_35 : decode cX3_value 35 = .ok (.iload 4, 2) := by decide +kernel
theorem dX3_value_37 : decode cX3_value 37 = .ok (.iaload, 1) := by decide +kernel
theorem dX3_value_38 : decode cX3_value 38 = .ok (.istore 5, 2) := by decide +kernel
theorem dX3_value_40 : decode cX3_value 40 = .ok (.iload 5, 2) := by decide +kernel
theorem dX3_value_42 : decode cX3_value 42 = .ok (.bipush (-7), 2) := by decide +kernel
theorem dX3_value_44 : decode cX3_value 44 = .ok (.if_icmp .le 39, 3) := by decide +kernel
theorem dX3_value_47 : decode cX3_value 47 = .ok (.iload_n 3, 1) := by decide +kernel
theorem dX3_value_48 : decode cX3_value 48 = .ok (.aload_n 0, 1) := by decide +kernel
theorem dX3_value_49 : decode cX3_value 49 = .ok (.getfield 18, 3) := by decide +kernel
theorem dX3_value_52 : decode cX3_value 52 = .ok (.arraylength, 1) := by decide +kernel
theorem dX3_value_53 : decode cX3_value 53 = .ok (.if_icmp .ge 108, 3) := by decide +kernel
theorem dX3_value_56 : decode cX3_value 56 = .ok (.aload_n 0, 1) := by decide +kernel
theorem dX3_value_57 : decode cX3_value 57 = .ok (.getfield 18, 3) := by decide +kernel
theorem dX3_value_60 : decode cX3_value 60 = .ok (.iload_n 3, 1) := by decide +kernel
theorem dX3_value_61 : decode cX3_value 61 = .ok (.iload 5, 2) := by decide +kernel
theorem dX3_value_63 : decode cX3_value 63 = .ok (.ifCond .lt 8, 3) := by decide +kernel
theorem dX3_value_66 : decode cX3_value 66 = .ok (.iload 5, 2) := by decide +kernel
theorem dX3_value_68 : decode cX3_value 68 = .ok (.goto 8, 3) := by decide +kernel
theorem dX3_value_71 : decode cX3_value 71 = .ok (.aload_n 2, 1) := by decide +kernel
theorem dX3_value_72 : decode cX3_value 72 = .ok (.iload 5, 2) := by decide +kernel
theorem dX3_value_74 : decode cX3_value 74 = .ok (.ineg, 1) := by decide +kernel
theorem dX3_value_75 : decode cX3_value 75 = .ok (.iaload, 1) := by decide +kernel
theorem dX3_value_76 : decode cX3_value 76 = .ok (.iastore, 1) := by decide +kernel
theorem dX3_value_77 : decode cX3_value 77 = .ok (.iinc 3 1, 3) := by decide +kernel
theorem dX3_value_80 : decode cX3_value 80 = .ok (.goto 81, 3) := by decide +kernel
theorem dX3_value_83 : decode cX3_value 83 = .ok (.iload 5, 2) := by decide +kernel
theorem dX3_value_85 : decode cX3_value 85 = .ok (.bipush (-12), 2) := by decide +kernel
theorem dX3_value_87 : decode cX3_value 87 = .ok (.if_icmp .eq 10, 3) := by decide +kernel
theorem dX3_value_90 : decode cX3_value 90 = .ok (.iload 5, 2) := by decide +kernel
theorem dX3_value_92 : decode cX3_value 92 = .ok (.bipush (-13), 2) := by decide +kernel
theorem dX3_value_94 : decode cX3_value 94 = .ok (.if_icmp .ne 32, 3) := by decide +kernel
theorem dX3_value_97 : decode cX3_value 97 = .ok (.iload_n 3, 1) := by decide +kernel
theorem dX3_value_98 : decode cX3_value 98 = .ok (.iconst 1, 1) := by decide +kernel
theorem dX3_value_99 : decode cX3_value 99 = .ok (.if_icmp .lt 62, 3) := by decide +kernel
theorem dX3_value_102 : decode cX3_value 102 = .ok (.aload_n 0, 1) := by decide +kernel
theorem dX3_value_103 : decode cX3_value 103 = .ok (.getfield 18, 3) := by decide +kernel
theorem dX3_value_106 : decode cX3_value 106 = .ok (.iload_n 3, 1) := by decide +kernel
theorem dX3_value_107 : decode cX3_value 107 = .ok (.iconst 1, 1) := by decide +kernel
theorem dX3_value_108 : decode cX3_value 108 = .ok (.isub, 1) := by decide +kernel
theorem dX3_value_109 : decode cX3_value 109 = .ok (.iload 5, 2) := by decide +kernel
theorem dX3_value_111 : decode cX3_value 111 = .ok (.aload_n 0, 1) := by decide +kernel
theorem dX3_value_112 : decode cX3_value 112 = .ok (.getfield 18, 3) := by decide +kernel
theorem dX3_value_115 : decode cX3_value 115 = .ok (.iload_n 3, 1) := by decide +kernel
theorem dX3_value_116 : decode cX3_value 116 = .ok (.iconst 1, 1) := by decide +kernel
theorem dX3_value_117 : decode cX3_value 117 = .ok (.isub, 1) := by decide +kernel
theorem dX3_value_118 : decode cX3_value 118 = .ok (.iaload, 1) := by decide +kernel
theorem dX3_value_119 : decode cX3_value 119 = .ok (.invokestatic 37, 3) := by decide +kernel
theorem dX3_value_122 : decode cX3_value 122 = .ok (.iastore, 1) := by decide +kernel
theorem dX3_value_123 : decode cX3_value 123 = .ok (.goto 38, 3) := by decide +kernel
theorem dX3_value_126 : decode cX3_value 126 = .ok (.iload_n 3, 1) := by decide +kernel
theorem dX3_value_127 : decode cX3_value 127 = .ok (.iconst 2, 1) := by decide +kernel
theorem dX3_value_128 : decode cX3_value 128 = .ok (.if_icmp .lt 33, 3) := by decide +kernel
theorem dX3_value_131 : decode cX3_value 131 = .ok (.iinc 3 (-1), 3) := by decide +kernel
theorem dX3_value_134 : decode cX3_value 134 = .ok (.aload_n 0, 1) := by decide +kernel
theorem dX3_value_135 : decode cX3_value 135 = .ok (.getfield 18, 3) := by decide +kernel
theorem dX3_value_138 : decode cX3_value 138 = .ok (.iload_n 3, 1) := by decide +kernel
theorem dX3_value_139 : decode cX3_value 139 = .ok (.iconst 1, 1) := by decide +kernel
theorem dX3_value_140 : decode cX3_value 140 = .ok (.isub, 1) := by decide +kernel
theorem dX3_value_141 : decode cX3_value 141 = .ok (.iload 5, 2) := by decide +kernel
theorem dX3_value_143 : decode cX3_value 143 = .ok (.aload_n 0, 1) := by decide +kernel
theorem dX3_value_144 : decode cX3_value 144 = .ok (.getfield 18, 3) := by decide +kernel
theorem dX3_value_147 : decode cX3_value 147 = .ok (.iload_n 3, 1) := by decide +kernel
theorem dX3_value_148 : decode cX3_value 148 = .ok (.iconst 1, 1) := by decide +kernel
theorem dX3_value_149 : decode cX3_value 149 = .ok (.isub, 1) := by decide +kernel
theorem dX3_value_150 : decode cX3_value 150 = .ok (.iaload, 1) := by decide +kernel
theorem dX3_value_151 : decode cX3_value 151 = .ok (.aload_n 0, 1) := by decide +kernel
theorem dX3_value_152 : decode cX3_value 152 = .ok (.getfield 18, 3) := by decide +kernel
theorem dX3_value_155 : decode cX3_value 155 = .ok (.iload_n 3, 1) := by decide +kernel
theorem dX3_value_156 : decode cX3_value 156 = .ok (.iaload, 1) := by decide +kernel
theorem dX3_value_157 : decode cX3_value 157 = .ok (.invokestatic 40, 3) := by decide +kernel
theorem dX3_value_160 : decode cX3_value 160 = .ok (.iastore, 1) := by decide +kernel
theorem dX3_value_161 : decode cX3_value 161 = .ok (.iinc 4 1, 3) := by decide +kernel
theorem dX3_value_164 : decode cX3_value 164 = .ok (.goto (-144), 3) := by decide +kernel
theorem dX3_value_167 : decode cX3_value 167 = .ok (.aload_n 0, 1) := by decide +kernel
theorem dX3_value_168 : decode cX3_value 168 = .ok (.getfield 18, 3) := by decide +kernel
theorem dX3_value_171 : decode cX3_value 171 = .ok (.iconst 0, 1) := by decide +kernel
theorem dX3_value_172 : decode cX3_value 172 = .ok (.iaload, 1) := by decide +kernel
theorem dX3_value_173 : decode cX3_value 173 = .ok (.ireturn, 1) := by decide +kernel
theorem dX3_turned_0 : decode cX3_turned 0 = .ok (.iload_n 0, 1) := by decide +kernel
theorem dX3_turned_1 : decode cX3_turned 1 = .ok (.bipush (-13), 2) := by decide +kernel
theorem dX3_turned_3 : decode cX3_turned 3 = .ok (.if_icmp .ne 6, 3) := by decide +kernel
theorem dX3_turned_6 : decode cX3_turned 6 = .ok (.iload_n 1, 1) := by decide +kernel
theorem dX3_turned_7 : decode cX3_turned 7 = .ok (.ineg, 1) := by decide +kernel
theorem dX3_turned_8 : decode cX3_turned 8 = .ok (.ireturn, 1) := by decide +kernel
theorem dX3_turned_9 : decode cX3_turned 9 = .ok (.iload_n 1, 1) := by decide +kernel
theorem dX3_turned_10 : decode cX3_turned 10 = .ok (.ifCond .ne 7, 3) := by decide +kernel
theorem dX3_turned_13 : decode cX3_turned 13 = .ok (.iconst 1, 1) := by decide +kernel
theorem dX3_turned_14 : decode cX3_turned 14 = .ok (.goto 4, 3) := by decide +kernel
theorem dX3_turned_17 : decode cX3_turned 17 = .ok (.iconst 0, 1) := by decide +kernel
theorem dX3_turned_18 : decode cX3_turned 18 = .ok (.ireturn, 1) := by decide +kernel
theorem dX3_joined_0 : decode cX3_joined 0 = .ok (.iload_n 0, 1) := by decide +kernel
theorem dX3_joined_1 : decode cX3_joined 1 = .ok (.ineg, 1) := by decide +kernel
theorem dX3_joined_2 : decode cX3_joined 2 = .ok (.lookupswitch 116 #[(10, 58), (11, 72), (43, 108), (45, 112), (60, 86), (61, 97)], 58) := by decide +kernel
theorem dX3_joined_60 : decode cX3_joined 60 = .ok (.iload_n 1, 1) := by decide +kernel
theorem dX3_joined_61 : decode cX3_joined 61 = .ok (.ifCond .ne 7, 3) := by decide +kernel
theorem dX3_joined_64 : decode cX3_joined 64 = .ok (.iload_n 2, 1) := by decide +kernel
theorem dX3_joined_65 : decode cX3_joined 65 = .ok (.ifCond .eq 7, 3) := by decide +kernel
theorem dX3_joined_68 : decode cX3_joined 68 = .ok (.iconst 1, 1) := by decide +kernel
theorem dX3_joined_69 : decode cX3_joined 69 = .ok (.goto 4, 3) := by decide +kernel
theorem dX3_joined_72 : decode cX3_joined 72 = .ok (.iconst 0, 1) := by decide +kernel
theorem dX3_joined_73 : decode cX3_joined 73 = .ok (.ireturn, 1) := by decide +kernel
theorem dX3_joined_74 : decode cX3_joined 74 = .ok (.iload_n 1, 1) := by decide +kernel
theorem dX3_joined_75 : decode cX3_joined 75 = .ok (.ifCond .eq 11, 3) := by decide +kernel
theorem dX3_joined_78 : decode cX3_joined 78 = .ok (.iload_n 2, 1) := by decide +kernel
theorem dX3_joined_79 : decode cX3_joined 79 = .ok (.ifCond .eq 7, 3) := by decide +kernel
theorem dX3_joined_82 : decode cX3_joined 82 = .ok (.iconst 1, 1) := by decide +kernel
theorem dX3_joined_83 : decode cX3_joined 83 = .ok (.goto 4, 3) := by decide +kernel
theorem dX3_joined_86 : decode cX3_joined 86 = .ok (.iconst 0, 1) := by decide +kernel
theorem dX3_joined_87 : decode cX3_joined 87 = .ok (.ireturn, 1) := by decide +kernel
theorem dX3_joined_88 : decode cX3_joined 88 = .ok (.iload_n 1, 1) := by decide +kernel
theorem dX3_joined_89 : decode cX3_joined 89 = .ok (.iload_n 2, 1) := by decide +kernel
theorem dX3_joined_90 : decode cX3_joined 90 = .ok (.if_icmp .ge 7, 3) := by decide +kernel
theorem dX3_joined_93 : decode cX3_joined 93 = .ok (.iconst 1, 1) := by decide +kernel
theorem dX3_joined_94 : decode cX3_joined 94 = .ok (.goto 4, 3) := by decide +kernel
theorem dX3_joined_97 : decode cX3_joined 97 = .ok (.iconst 0, 1) := by decide +kernel
theorem dX3_joined_98 : decode cX3_joined 98 = .ok (.ireturn, 1) := by decide +kernel
theorem dX3_joined_99 : decode cX3_joined 99 = .ok (.iload_n 1, 1) := by decide +kernel
theorem dX3_joined_100 : decode cX3_joined 100 = .ok (.iload_n 2, 1) := by decide +kernel
theorem dX3_joined_101 : decode cX3_joined 101 = .ok (.if_icmp .ne 7, 3) := by decide +kernel
theorem dX3_joined_104 : decode cX3_joined 104 = .ok (.iconst 1, 1) := by decide +kernel
theorem dX3_joined_105 : decode cX3_joined 105 = .ok (.goto 4, 3) := by decide +kernel
theorem dX3_joined_108 : decode cX3_joined 108 = .ok (.iconst 0, 1) := by decide +kernel
theorem dX3_joined_109 : decode cX3_joined 109 = .ok (.ireturn, 1) := by decide +kernel
theorem dX3_joined_110 : decode cX3_joined 110 = .ok (.iload_n 1, 1) := by decide +kernel
theorem dX3_joined_111 : decode cX3_joined 111 = .ok (.iload_n 2, 1) := by decide +kernel
theorem dX3_joined_112 : decode cX3_joined 112 = .ok (.iadd, 1) := by decide +kernel
theorem dX3_joined_113 : decode cX3_joined 113 = .ok (.ireturn, 1) := by decide +kernel
theorem dX3_joined_114 : decode cX3_joined 114 = .ok (.iload_n 1, 1) := by decide +kernel
theorem dX3_joined_115 : decode cX3_joined 115 = .ok (.iload_n 2, 1) := by decide +kernel
theorem dX3_joined_116 : decode cX3_joined 116 = .ok (.isub, 1) := by decide +kernel
theorem dX3_joined_117 : decode cX3_joined 117 = .ok (.ireturn, 1) := by decide +kernel
theorem dX3_joined_118 : decode cX3_joined 118 = .ok (.iload_n 1, 1) := by decide +kernel
theorem dX3_joined_119 : decode cX3_joined 119 = .ok (.iload_n 2, 1) := by decide +kernel
theorem dX3_joined_120 : decode cX3_joined 120 = .ok (.imul, 1) := by decide +kernel
theorem dX3_joined_121 : decode cX3_joined 121 = .ok (.ireturn, 1) := by decide +kernel
theorem dX4_init_0 : decode cX4_init 0 = .ok (.aload_n 0, 1) := by decide +kernel
theorem dX4_init_1 : decode cX4_init 1 = .ok (.invokespecial 3, 3) := by decide +kernel
theorem dX4_init_4 : decode cX4_init 4 = .ok (.aload_n 0, 1) := by decide +kernel
theorem dX4_init_5 : decode cX4_init 5 = .ok (.iconst (-1), 1) := by decide +kernel
theorem dX4_init_6 : decode cX4_init 6 = .ok (.putfield 11, 3) := by decide +kernel
theorem dX4_init_9 : decode cX4_init 9 = .ok (.aload_n 0, 1) := by decide +kernel
theorem dX4_init_10 : decode cX4_init 10 = .ok (.iconst 0, 1) := by decide +kernel
theorem dX4_init_11 : decode cX4_init 11 = .ok (.putfield 15, 3) := by decide +kernel
theorem dX4_init_14 : decode cX4_init 14 = .ok (.aload_n 0, 1) := by decide +kernel
theorem dX4_init_15 : decode cX4_init 15 = .ok (.bipush 40, 2) := by decide +kernel
theorem dX4_init_17 : decode cX4_init 17 = .ok (.newarray .int, 2) := by decide +kernel
theorem dX4_init_19 : decode cX4_init 19 = .ok (.putfield 18, 3) := by decide +kernel
theorem dX4_init_22 : decode cX4_init 22 = .ok (.return_, 1) := by decide +kernel
theorem dX4_isMissing_0 : decode cX4_isMissing 0 = .ok (.aload_n 0, 1) := by decide +kernel
theorem dX4_isMissing_1 : decode cX4_isMissing 1 = .ok (.getfield 11, 3) := by decide +kernel
theorem dX4_isMissing_4 : decode cX4_isMissing 4 = .ok (.iconst (-1), 1) := by decide +kernel
theorem dX4_isMissing_5 : decode cX4_isMissing 5 = .ok (.if_icmp .ne 7, 3) := by decide +kernel
theorem dX4_isMissing_8 : decode cX4_isMissing 8 = .ok (.iconst 1, 1) := by decide +kernel
theorem dX4_isMissing_9 : decode cX4_isMissing 9 = .ok (.goto 4, 3) := by decide +kernel
theorem dX4_isMissing_12 : decode cX4_isMissing 12 = .ok (.iconst 0, 1) := by decide +kernel
theorem dX4_isMissing_13 : decode cX4_isMissing 13 = .ok (.ireturn, 1) := by decide +kernel
theorem dX4_lay_0 : decode cX4_lay 0 = .ok (.aload_n 0, 1) := by decide +kernel
theorem dX4_lay_1 : decode cX4_lay 1 = .ok (.iload_n 1, 1) := by decide +kernel
theorem dX4_lay_2 : decode cX4_lay 2 = .ok (.putfield 11, 3) := by decide +kernel
theorem dX4_lay_5 : decode cX4_lay 5 = .ok (.aload_n 0, 1) := by decide +kernel
theorem dX4_lay_6 : decode cX4_lay 6 = .ok (.iload_n 2, 1) := by decide +kernel
theorem dX4_lay_7 : decode cX4_lay 7 = .ok (.putfield 15, 3) := by decide +kernel
theorem dX4_lay_10 : decode cX4_lay 10 = .ok (.aload_n 0, 1) := by decide +kernel
theorem dX4_lay_11 : decode cX4_lay 11 = .ok (.getfield 18, 3) := by decide +kernel
theorem dX4_lay_14 : decode cX4_lay 14 = .ok (.iconst 0, 1) := by decide +kernel
theorem dX4_lay_15 : decode cX4_lay 15 = .ok (.invokestatic 22, 3) := by decide +kernel
theorem dX4_lay_18 : decode cX4_lay 18 = .ok (.return_, 1) := by decide +kernel
theorem dX4_holds_0 : decode cX4_holds 0 = .ok (.iload_n 1, 1) := by decide +kernel
theorem dX4_holds_1 : decode cX4_holds 1 = .ok (.ifCond .lt 21, 3) := by decide +kernel
theorem dX4_holds_4 : decode cX4_holds 4 = .ok (.iload_n 2, 1) := by decide +kernel
theorem dX4_holds_5 : decode cX4_holds 5 = .ok (.ifCond .lt 17, 3) := by decide +kernel
theorem dX4_holds_8 : decode cX4_holds 8 = .ok (.iload_n 1, 1) := by decide +kernel
theorem dX4_holds_9 : decode cX4_holds 9 = .ok (.aload_n 0, 1) := by decide +kernel
theorem dX4_holds_10 : decode cX4_holds 10 = .ok (.getfield 15, 3) := by decide +kernel
theorem dX4_holds_13 : decode cX4_holds 13 = .ok (.iload_n 2, 1) := by decide +kernel
theorem dX4_holds_14 : decode cX4_holds 14 = .ok (.isub, 1) := by decide +kernel
theorem dX4_holds_15 : decode cX4_holds 15 = .ok (.if_icmp .gt 7, 3) := by decide +kernel
theorem dX4_holds_18 : decode cX4_holds 18 = .ok (.iconst 1, 1) := by decide +kernel
theorem dX4_holds_19 : decode cX4_holds 19 = .ok (.goto 4, 3) := by decide +kernel
theorem dX4_holds_22 : decode cX4_holds 22 = .ok (.iconst 0, 1) := by decide +kernel
theorem dX4_holds_23 : decode cX4_holds 23 = .ok (.ireturn, 1) := by decide +kernel
theorem dX4_put_0 : decode cX4_put 0 = .ok (.aload_n 0, 1) := by decide +kernel
theorem dX4_put_1 : decode cX4_put 1 = .ok (.getfield 11, 3) := by decide +kernel
theorem dX4_put_4 : decode cX4_put 4 = .ok (.lookupswitch 50 #[(0, 28), (1, 39)], 28) := by decide +kernel
theorem dX4_put_32 : decode cX4_put 32 = .ok (.aload_n 0, 1) := by decide +kernel
theorem dX4_put_33 : decode cX4_put 33 = .ok (.getfield 18, 3) := by decide +kernel
theorem dX4_put_36 : decode cX4_put 36 = .ok (.iload_n 1, 1) := by decide +kernel
theorem dX4_put_37 : decode cX4_put 37 = .ok (.iload_n 2, 1) := by decide +kernel
theorem dX4_put_38 : decode cX4_put 38 = .ok (.i2b, 1) := by decide +kernel
theorem dX4_put_39 : decode cX4_put 39 = .ok (.iastore, 1) := by decide +kernel
theorem dX4_put_40 : decode cX4_put 40 = .ok (.goto 21, 3) := by decide +kernel
theorem dX4_put_43 : decode cX4_put 43 = .ok (.aload_n 0, 1) := by decide +kernel
theorem dX4_put_44 : decode cX4_put 44 = .ok (.getfield 18, 3) := by decide +kernel
theorem dX4_put_47 : decode cX4_put 47 = .ok (.iload_n 1, 1) := by decide +kernel
theorem dX4_put_48 : decode cX4_put 48 = .ok (.iload_n 2, 1) := by decide +kernel
theorem dX4_put_49 : decode cX4_put 49 = .ok (.i2s, 1) := by decide +kernel
theorem dX4_put_50 : decode cX4_put 50 = .ok (.iastore, 1) := by decide +kernel
theorem dX4_put_51 : decode cX4_put 51 = .ok (.goto 10, 3) := by decide +kernel
theorem dX4_put_54 : decode cX4_put 54 = .ok (.aload_n 0, 1) := by decide +kernel
theorem dX4_put_55 : decode cX4_put 55 = .ok (.getfield 18, 3) := by decide +kernel
theorem dX4_put_58 : decode cX4_put 58 = .ok (.iload_n 1, 1) := by decide +kernel
theorem dX4_put_59 : decode cX4_put 59 = .ok (.iload_n 2, 1) := by decide +kernel
theorem dX4_put_60 : decode cX4_put 60 = .ok (.iastore, 1) := by decide +kernel
theorem dX4_put_61 : decode cX4_put 61 = .ok (.return_, 1) := by decide +kernel
theorem dX5_init_0 : decode cX5_init 0 = .ok (.aload_n 0, 1) := by decide +kernel
theorem dX5_init_1 : decode cX5_init 1 = .ok (.invokespecial 3, 3) := by decide +kernel
theorem dX5_init_4 : decode cX5_init 4 = .ok (.aload_n 0, 1) := by decide +kernel
theorem dX5_init_5 : decode cX5_init 5 = .ok (.iconst 0, 1) := by decide +kernel
theorem dX5_init_6 : decode cX5_init 6 = .ok (.putfield 9, 3) := by decide +kernel
theorem dX5_init_9 : decode cX5_init 9 = .ok (.aload_n 0, 1) := by decide +kernel
theorem dX5_init_10 : decode cX5_init 10 = .ok (.iconst 0, 1) := by decide +kernel
theorem dX5_init_11 : decode cX5_init 11 = .ok (.putfield 15, 3) := by decide +kernel
theorem dX5_init_14 : decode cX5_init 14 = .ok (.aload_n 0, 1) := by decide +kernel
theorem dX5_init_15 : decode cX5_init 15 = .ok (.iconst 0, 1) := by decide +kernel
theorem dX5_init_16 : decode cX5_init 16 = .ok (.putfield 18, 3) := by decide +kernel
theorem dX5_init_19 : decode cX5_init 19 = .ok (.aload_n 0, 1) := by decide +kernel
theorem dX5_init_20 : decode cX5_init 20 = .ok (.iconst 0, 1) := by decide +kernel
theorem dX5_init_21 : decode cX5_init 21 = .ok (.putfield 21, 3) := by decide +kernel
theorem dX5_init_24 : decode cX5_init 24 = .ok (.aload_n 0, 1) := by decide +kernel
theorem dX5_init_25 : decode cX5_init 25 = .ok (.iconst 0, 1) := by decide +kernel
theorem dX5_init_26 : decode cX5_init 26 = .ok (.putfield 24, 3) := by decide +kernel
theorem dX5_init_29 : decode cX5_init 29 = .ok (.aload_n 0, 1) := by decide +kernel
theorem dX5_init_30 : decode cX5_init 30 = .ok (.iconst 4, 1) := by decide +kernel
theorem dX5_init_31 : decode cX5_init 31 = .ok (.newarray .int, 2) := by decide +kernel
theorem dX5_init_33 : decode cX5_init 33 = .ok (.putfield 27, 3) := by decide +kernel
theorem dX5_init_36 : decode cX5_init 36 = .ok (.aload_n 0, 1) := by decide +kernel
theorem dX5_init_37 : decode cX5_init 37 = .ok (.iconst 4, 1) := by decide +kernel
theorem dX5_init_38 : decode cX5_init 38 = .ok (.newarray .int, 2) := by decide +kernel
theorem dX5_init_40 : decode cX5_init 40 = .ok (.putfield 31, 3) := by decide +kernel
theorem dX5_init_43 : decode cX5_init 43 = .ok (.aload_n 0, 1) := by decide +kernel
theorem dX5_init_44 : decode cX5_init 44 = .ok (.iconst 4, 1) := by decide +kernel
theorem dX5_init_45 : decode cX5_init 45 = .ok (.newarray .int, 2) := by decide +kernel
theorem dX5_init_47 : decode cX5_init 47 = .ok (.putfield 34, 3) := by decide +kernel
theorem dX5_init_50 : decode cX5_init 50 = .ok (.aload_n 0, 1) := by decide +kernel
theorem dX5_init_51 : decode cX5_init 51 = .ok (.iconst 4, 1) := by decide +kernel
theorem dX5_init_52 : decode cX5_init 52 = .ok (.newarray .int, 2) := by decide +kernel
theorem dX5_init_54 : decode cX5_init 54 = .ok (.putfield 37, 3) := by decide +kernel
theorem dX5_init_57 : decode cX5_init 57 = .ok (.aload_n 0, 1) := by decide +kernel
theorem dX5_init_58 : decode cX5_init 58 = .ok (.bipush 16, 2) := by decide +kernel
theorem dX5_init_60 : decode cX5_init 60 = .ok (.newarray .int, 2) := by decide +kernel
theorem dX5_init_62 : decode cX5_init 62 = .ok (.putfield 40, 3) := by decide +kernel
theorem dX5_init_65 : decode cX5_init 65 = .ok (.aload_n 0, 1) := by decide +kernel
theorem dX5_init_66 : decode cX5_init 66 = .ok (.bipush 16, 2) := by decide +kernel
theorem dX5_init_68 : decode cX5_init 68 = .ok (.newarray .int, 2) := by decide +kernel
theorem dX5_init_70 : decode cX5_init 70 = .ok (.putfield 43, 3) := by decide +kernel
theorem dX5_init_73 : decode cX5_init 73 = .ok (.aload_n 0, 1) := by decide +kernel
theorem dX5_init_74 : decode cX5_init 74 = .ok (.bipush 7, 2) := by decide +kernel
theorem dX5_init_76 : decode cX5_init 76 = .ok (.newarray .int, 2) := by decide +kernel
theorem dX5_init_78 : decode cX5_init 78 = .ok (.putfield 48, 3) := by decide +kernel
theorem dX5_init_81 : decode cX5_init 81 = .ok (.aload_n 0, 1) := by decide +kernel
theorem dX5_init_82 : decode cX5_init 82 = .ok (.aload_n 1, 1) := by decide +kernel
theorem dX5_init_83 : decode cX5_init 83 = .ok (.putfield 51, 3) := by decide +kernel
theorem dX5_init_86 : decode cX5_init 86 = .ok (.aload_n 0, 1) := by decide +kernel
theorem dX5_init_87 : decode cX5_init 87 = .ok (.getfield 31, 3) := by decide +kernel
theorem dX5_init_90 : decode cX5_init 90 = .ok (.iconst (-1), 1) := by decide +kernel
theorem dX5_init_91 : decode cX5_init 91 = .ok (.invokestatic 55, 3) := by decide +kernel
theorem dX5_init_94 : decode cX5_init 94 = .ok (.aload_n 0, 1) := by decide +kernel
theorem dX5_init_95 : decode cX5_init 95 = .ok (.getfield 40, 3) := by decide +kernel
theorem dX5_init_98 : decode cX5_init 98 = .ok (.bipush 50, 2) := by decide +kernel
theorem dX5_init_100 : decode cX5_init 100 = .ok (.invokestatic 55, 3) := by decide +kernel
theorem dX5_init_103 : decode cX5_init 103 = .ok (.aload_n 0, 1) := by decide +kernel
theorem dX5_init_104 : decode cX5_init 104 = .ok (.getfield 43, 3) := by decide +kernel
theorem dX5_init_107 : decode cX5_init 107 = .ok (.bipush 50, 2) := by decide +kernel
theorem dX5_init_109 : decode cX5_init 109 = .ok (.invokestatic 55, 3) := by decide +kernel
theorem dX5_init_112 : decode cX5_init 112 = .ok (.return_, 1) := by decide +kernel
theorem dX5_at_0 : decode cX5_at 0 = .ok (.iload_n 0, 1) := by decide +kernel
theorem dX5_at_1 : decode cX5_at 1 = .ok (.iconst 4, 1) := by decide +kernel
theorem dX5_at_2 : decode cX5_at 2 = .ok (.imul, 1) := by decide +kernel
theorem dX5_at_3 : decode cX5_at 3 = .ok (.iload_n 1, 1) := by decide +kernel
theorem dX5_at_4 : decode cX5_at 4 = .ok (.iadd, 1) := by decide +kernel
theorem dX5_at_5 : decode cX5_at 5 = .ok (.ireturn, 1) := by decide +kernel
theorem dX5_resemble_0 : decode cX5_resemble 0 = .ok (.aload_n 0, 1) := by decide +kernel
theorem dX5_resemble_1 : decode cX5_resemble 1 = .ok (.aload_n 1, 1) := by decide +kernel
theorem dX5_resemble_2 : decode cX5_resemble 2 = .ok (.getfield 9, 3) := by decide +kernel
theorem dX5_resemble_5 : decode cX5_resemble 5 = .ok (.putfield 9, 3) := by decide +kernel
theorem dX5_resemble_8 : decode cX5_resemble 8 = .ok (.aload_n 0, 1) := by decide +kernel
theorem dX5_resemble_9 : decode cX5_resemble 9 = .ok (.aload_n 1, 1) := by decide +kernel
theorem dX5_resemble_10 : decode cX5_resemble 10 = .ok (.getfield 15, 3) := by decide +kernel
theorem dX5_resemble_13 : decode cX5_resemble 13 = .ok (.putfield 15, 3) := by decide +kernel
theorem dX5_resemble_16 : decode cX5_resemble 16 = .ok (.aload_n 0, 1) := by decide +kernel
theorem dX5_resemble_17 : decode cX5_resemble 17 = .ok (.aload_n 1, 1) := by decide +kernel
theorem dX5_resemble_18 : decode cX5_resemble 18 = .ok (.getfield 18, 3) := by decide +kernel
theorem dX5_resemble_21 : decode cX5_resemble 21 = .ok (.putfield 18, 3) := by decide +kernel
theorem dX5_resemble_24 : decode cX5_resemble 24 = .ok (.aload_n 0, 1) := by decide +kernel
theorem dX5_resemble_25 : decode cX5_resemble 25 = .ok (.aload_n 1, 1) := by decide +kernel
theorem dX5_resemble_26 : decode cX5_resemble 26 = .ok (.getfield 51, 3) := by decide +kernel
theorem dX5_resemble_29 : decode cX5_resemble 29 = .ok (.putfield 51, 3) := by decide +kernel
theorem dX5_resemble_32 : decode cX5_resemble 32 = .ok (.aload_n 0, 1) := by decide +kernel
theorem dX5_resemble_33 : decode cX5_resemble 33 = .ok (.iconst 0, 1) := by decide +kernel
theorem dX5_resemble_34 : decode cX5_resemble 34 = .ok (.putfield 21, 3) := by decide +kernel
theorem dX5_resemble_37 : decode cX5_resemble 37 = .ok (.aload_n 0, 1) := by decide +kernel
theorem dX5_resemble_38 : decode cX5_resemble 38 = .ok (.iconst 0, 1) := by decide +kernel
theorem dX5_resemble_39 : decode cX5_resemble 39 = .ok (.putfield 24, 3) := by decide +kernel
theorem dX5_resemble_42 : decode cX5_resemble 42 = .ok (.aload_n 1, 1) := by decide +kernel
theorem dX5_resemble_43 : decode cX5_resemble 43 = .ok (.getfield 27, 3) := by decide +kernel
theorem dX5_resemble_46 : decode cX5_resemble 46 = .ok (.iconst 0, 1) := by decide +kernel
theorem dX5_resemble_47 : decode cX5_resemble 47 = .ok (.aload_n 0, 1) := by decide +kernel
theorem dX5_resemble_48 : decode cX5_resemble 48 = .ok (.getfield 27, 3) := by decide +kernel
theorem dX5_resemble_51 : decode cX5_resemble 51 = .ok (.iconst 0, 1) := by decide +kernel
theorem dX5_resemble_52 : decode cX5_resemble 52 = .ok (.aload_n 0, 1) := by decide +kernel
theorem dX5_resemble_53 : decode cX5_resemble 53 = .ok (.getfield 27, 3) := by decide +kernel
theorem dX5_resemble_56 : decode cX5_resemble 56 = .ok (.arraylength, 1) := by decide +kernel
theorem dX5_resemble_57 : decode cX5_resemble 57 = .ok (.invokestatic 61, 3) := by decide +kernel
theorem dX5_resemble_60 : decode cX5_resemble 60 = .ok (.aload_n 1, 1) := by decide +kernel
theorem dX5_resemble_61 : decode cX5_resemble 61 = .ok (.getfield 31, 3) := by decide +kernel
theorem dX5_resemble_64 : decode cX5_resemble 64 = .ok (.iconst 0, 1) := by decide +kernel
theorem dX5_resemble_65 : decode cX5_resemble 65 = .ok (.aload_n 0, 1) := by decide +kernel
theorem dX5_resemble_66 : decode cX5_resemble 66 = .ok (.getfield 31, 3) := by decide +kernel
theorem dX5_resemble_69 : decode cX5_resemble 69 = .ok (.iconst 0, 1) := by decide +kernel
theorem dX5_resemble_70 : decode cX5_resemble 70 = .ok (.aload_n 0, 1) := by decide +kernel
theorem dX5_resemble_71 : decode cX5_resemble 71 = .ok (.getfield 31, 3) := by decide +kernel
theorem dX5_resemble_74 : decode cX5_resemble 74 = .ok (.arraylength, 1) := by decide +kernel
theorem dX5_resemble_75 : decode cX5_resemble 75 = .ok (.invokestatic 61, 3) := by decide +kernel
theorem dX5_resemble_78 : decode cX5_resemble 78 = .ok (.aload_n 1, 1) := by decide +kernel
theorem dX5_resemble_79 : decode cX5_resemble 79 = .ok (.getfield 34, 3) := by decide +kernel
theorem dX5_resemble_82 : decode cX5_resemble 82 = .ok (.iconst 0, 1) := by decide +kernel
theorem dX5_resemble_83 : decode cX5_resemble 83 = .ok (.aload_n 0, 1) := by decide +kernel
theorem dX5_resemble_84 : decode cX5_resemble 84 = .ok (.getfield 34, 3) := by decide +kernel
theorem dX5_resemble_87 : decode cX5_resemble 87 = .ok (.iconst 0, 1) := by decide +kernel
theorem dX5_resemble_88 : decode cX5_resemble 88 = .ok (.aload_n 0, 1) := by decide +kernel
theorem dX5_resemble_89 : decode cX5_resemble 89 = .ok (.getfield 34, 3) := by decide +kernel
theorem dX5_resemble_92 : decode cX5_resemble 92 = .ok (.arraylength, 1) := by decide +kernel
theorem dX5_resemble_93 : decode cX5_resemble 93 = .ok (.invokestatic 61, 3) := by decide +kernel
theorem dX5_resemble_96 : decode cX5_resemble 96 = .ok (.aload_n 1, 1) := by decide +kernel
theorem dX5_resemble_97 : decode cX5_resemble 97 = .ok (.getfield 37, 3) := by decide +kernel
theorem dX5_resemble_100 : decode cX5_resemble 100 = .ok (.iconst 0, 1) := by decide +kernel
theorem dX5_resemble_101 : decode cX5_resemble 101 = .ok (.aload_n 0, 1) := by decide +kernel
theorem dX5_resemble_102 : decode cX5_resemble 102 = .ok (.getfield 37, 3) := by decide +kernel
theorem dX5_resemble_105 : decode cX5_resemble 105 = .ok (.iconst 0, 1) := by decide +kernel
theorem dX5_resemble_106 : decode cX5_resemble 106 = .ok (.aload_n 0, 1) := by decide +kernel
theorem dX5_resemble_107 : decode cX5_resemble 107 = .ok (.getfield 37, 3) := by decide +kernel
theorem dX5_resemble_110 : decode cX5_resemble 110 = .ok (.arraylength, 1) := by decide +kernel
theorem dX5_resemble_111 : decode cX5_resemble 111 = .ok (.invokestatic 61, 3) := by decide +kernel
theorem dX5_resemble_114 : decode cX5_resemble 114 = .ok (.aload_n 1, 1) := by decide +kernel
theorem dX5_resemble_115 : decode cX5_resemble 115 = .ok (.getfield 40, 3) := by decide +kernel
theorem dX5_resemble_118 : decode cX5_resemble 118 = .ok (.iconst 0, 1) := by decide +kernel
theorem dX5_resemble_119 : decode cX5_resemble 119 = .ok (.aload_n 0, 1) := by decide +kernel
theorem dX5_resemble_120 : decode cX5_resemble 120 = .ok (.getfield 40, 3) := by decide +kernel
theorem dX5_resemble_123 : decode cX5_resemble 123 = .ok (.iconst 0, 1) := by decide +kernel
theorem dX5_resemble_124 : decode cX5_resemble 124 = .ok (.aload_n 0, 1) := by decide +kernel
theorem dX5_resemble_125 : decode cX5_resemble 125 = .ok (.getfield 40, 3) := by decide +kernel
theorem dX5_resemble_128 : decode cX5_resemble 128 = .ok (.arraylength, 1) := by decide +kernel
theorem dX5_resemble_129 : decode cX5_resemble 129 = .ok (.invokestatic 61, 3) := by decide +kernel
theorem dX5_resemble_132 : decode cX5_resemble 132 = .ok (.aload_n 1, 1) := by decide +kernel
theorem dX5_resemble_133 : decode cX5_resemble 133 = .ok (.getfield 43, 3) := by decide +kernel
theorem dX5_resemble_136 : decode cX5_resemble 136 = .ok (.iconst 0, 1) := by decide +kernel
theorem dX5_resemble_137 : decode cX5_resemble 137 = .ok (.aload_n 0, 1) := by decide +kernel
theorem dX5_resemble_138 : decode cX5_resemble 138 = .ok (.getfield 43, 3) := by decide +kernel
theorem dX5_resemble_141 : decode cX5_resemble 141 = .ok (.iconst 0, 1) := by decide +kernel
theorem dX5_resemble_142 : decode cX5_resemble 142 = .ok (.aload_n 0, 1) := by decide +kernel
theorem dX5_resemble_143 : decode cX5_resemble 143 = .ok (.getfield 43, 3) := by decide +kernel
theorem dX5_resemble_146 : decode cX5_resemble 146 = .ok (.arraylength, 1) := by decide +kernel
theorem dX5_resemble_147 : decode cX5_resemble 147 = .ok (.invokestatic 61, 3) := by decide +kernel
theorem dX5_resemble_150 : decode cX5_resemble 150 = .ok (.return_, 1) := by decide +kernel
theorem dX5_husband_0 : decode cX5_husband 0 = .ok (.iconst 0, 1) := by decide +kernel
theorem dX5_husband_1 : decode cX5_husband 1 = .ok (.istore_n 2, 1) := by decide +kernel
theorem dX5_husband_2 : decode cX5_husband 2 = .ok (.iload_n 2, 1) := by decide +kernel
theorem dX5_husband_3 : decode cX5_husband 3 = .ok (.aload_n 0, 1) := by decide +kernel
theorem dX5_husband_4 : decode cX5_husband 4 = .ok (.getfield 9, 3) := by decide +kernel
theorem dX5_husband_7 : decode cX5_husband 7 = .ok (.if_icmp .ge 21, 3) := by decide +kernel
theorem dX5_husband_10 : decode cX5_husband 10 = .ok (.aload_n 0, 1) := by decide +kernel
theorem dX5_husband_11 : decode cX5_husband 11 = .ok (.getfield 31, 3) := by decide +kernel
theorem dX5_husband_14 : decode cX5_husband 14 = .ok (.iload_n 2, 1) := by decide +kernel
theorem dX5_husband_15 : decode cX5_husband 15 = .ok (.iaload, 1) := by decide +kernel
theorem dX5_husband_16 : decode cX5_husband 16 = .ok (.iload_n 1, 1) := by decide +kernel
theorem dX5_husband_17 : decode cX5_husband 17 = .ok (.if_icmp .ne 5, 3) := by decide +kernel
theorem dX5_husband_20 : decode cX5_husband 20 = .ok (.iload_n 2, 1) := by decide +kernel
theorem dX5_husband_21 : decode cX5_husband 21 = .ok (.ireturn, 1) := by decide +kernel
theorem dX5_husband_22 : decode cX5_husband 22 = .ok (.iinc 2 1, 3) := by decide +kernel
theorem dX5_husband_25 : decode cX5_husband 25 = .ok (.goto (-23), 3) := by decide +kernel
theorem dX5_husband_28 : decode cX5_husband 28 = .ok (.iconst (-1), 1) := by decide +kernel
theorem dX5_husband_29 : decode cX5_husband 29 = .ok (.ireturn, 1) := by decide +kernel
theorem dX5_marriedMen_0 : decode cX5_marriedMen 0 = .ok (.iconst 0, 1) := by decide +kernel
theorem dX5_marriedMen_1 : decode cX5_marriedMen 1 = .ok (.istore_n 1, 1) := by decide +kernel
theorem dX5_marriedMen_2 : decode cX5_marriedMen 2 = .ok (.iconst 0, 1) := by decide +kernel
theorem dX5_marriedMen_3 : decode cX5_marriedMen 3 = .ok (.istore_n 2, 1) := by decide +kernel
theorem dX5_marriedMen_4 : decode cX5_marriedMen 4 = .ok (.iload_n 2, 1) := by decide +kernel
theorem dX5_marriedMen_5 : decode cX5_marriedMen 5 = .ok (.aload_n 0, 1) := by decide +kernel
theorem dX5_marriedMen_6 : decode cX5_marriedMen 6 = .ok (.getfield 9, 3) := by decide +kernel
theorem dX5_marriedMen_9 : decode cX5_marriedMen 9 = .ok (.if_icmp .ge 22, 3) := by decide +kernel
theorem dX5_marriedMen_12 : decode cX5_marriedMen 12 = .ok (.aload_n 0, 1) := by decide +kernel
theorem dX5_marriedMen_13 : decode cX5_marriedMen 13 = .ok (.getfield 31, 3) := by decide +kernel
theorem dX5_marriedMen_16 : decode cX5_marriedMen 16 = .ok (.iload_n 2, 1) := by decide +kernel
theorem dX5_marriedMen_17 : decode cX5_marriedMen 17 = .ok (.iaload, 1) := by decide +kernel
theorem dX5_marriedMen_18 : decode cX5_marriedMen 18 = .ok (.iconst (-1), 1) := by decide +kernel
theorem dX5_marriedMen_19 : decode cX5_marriedMen 19 = .ok (.if_icmp .eq 6, 3) := by decide +kernel
theorem dX5_marriedMen_22 : decode cX5_marriedMen 22 = .ok (.iinc 1 1, 3) := by decide +kernel
theorem dX5_marriedMen_25 : decode cX5_marriedMen 25 = .ok (.iinc 2 1, 3) := by decide +kernel
theorem dX5_marriedMen_28 : decode cX5_marriedMen 28 = .ok (.goto (-24), 3) := by decide +kernel
theorem dX5_marriedMen_31 : decode cX5_marriedMen 31 = .ok (.iload_n 1, 1) := by decide +kernel
theorem dX5_marriedMen_32 : decode cX5_marriedMen 32 = .ok (.ireturn, 1) := by decide +kernel
theorem dX5_mayAsk_0 : decode cX5_mayAsk 0 = .ok (.aload_n 0, 1) := by decide +kernel
theorem dX5_mayAsk_1 : decode cX5_mayAsk 1 = .ok (.getfield 31, 3) := by decide +kernel
theorem dX5_mayAsk_4 : decode cX5_mayAsk 4 = .ok (.iload_n 1, 1) := by decide +kernel
theorem dX5_mayAsk_5 : decode cX5_mayAsk 5 = .ok (.iaload, 1) := by decide +kernel
theorem dX5_mayAsk_6 : decode cX5_mayAsk 6 = .ok (.iconst (-1), 1) := by decide +kernel
theorem dX5_mayAsk_7 : decode cX5_mayAsk 7 = .ok (.if_icmp .ne 40, 3) := by decide +kernel
theorem dX5_mayAsk_10 : decode cX5_mayAsk 10 = .ok (.aload_n 0, 1) := by decide +kernel
theorem dX5_mayAsk_11 : decode cX5_mayAsk 11 = .ok (.iload_n 2, 1) := by decide +kernel
theorem dX5_mayAsk_12 : decode cX5_mayAsk 12 = .ok (.invokevirtual 67, 3) := by decide +kernel
theorem dX5_mayAsk_15 : decode cX5_mayAsk 15 = .ok (.iconst (-1), 1) := by decide +kernel
theorem dX5_mayAsk_16 : decode cX5_mayAsk 16 = .ok (.if_icmp .ne 31, 3) := by decide +kernel
theorem dX5_mayAsk_19 : decode cX5_mayAsk 19 = .ok (.aload_n 0, 1) := by decide +kernel
theorem dX5_mayAsk_20 : decode cX5_mayAsk 20 = .ok (.getfield 27, 3) := by decide +kernel
theorem dX5_mayAsk_23 : decode cX5_mayAsk 23 = .ok (.iload_n 1, 1) := by decide +kernel
theorem dX5_mayAsk_24 : decode cX5_mayAsk 24 = .ok (.iaload, 1) := by decide +kernel
theorem dX5_mayAsk_25 : decode cX5_mayAsk 25 = .ok (.aload_n 0, 1) := by decide +kernel
theorem dX5_mayAsk_26 : decode cX5_mayAsk 26 = .ok (.getfield 34, 3) := by decide +kernel
theorem dX5_mayAsk_29 : decode cX5_mayAsk 29 = .ok (.iload_n 2, 1) := by decide +kernel
theorem dX5_mayAsk_30 : decode cX5_mayAsk 30 = .ok (.iaload, 1) := by decide +kernel
theorem dX5_mayAsk_31 : decode cX5_mayAsk 31 = .ok (.aload_n 0, 1) := by decide +kernel
theorem dX5_mayAsk_32 : decode cX5_mayAsk 32 = .ok (.getfield 37, 3) := by decide +kernel
theorem dX5_mayAsk_35 : decode cX5_mayAsk 35 = .ok (.iload_n 2, 1) := by decide +kernel
theorem dX5_mayAsk_36 : decode cX5_mayAsk 36 = .ok (.iaload, 1) := by decide +kernel
theorem dX5_mayAsk_37 : decode cX5_mayAsk 37 = .ok (.invokestatic 71, 3) := by decide +kernel
theorem dX5_mayAsk_40 : decode cX5_mayAsk 40 = .ok (.if_icmp .lt 7, 3) := by decide +kernel
theorem dX5_mayAsk_43 : decode cX5_mayAsk 43 = .ok (.iconst 1, 1) := by decide +kernel
theorem dX5_mayAsk_44 : decode cX5_mayAsk 44 = .ok (.goto 4, 3) := by decide +kernel
theorem dX5_mayAsk_47 : decode cX5_mayAsk 47 = .ok (.iconst 0, 1) := by decide +kernel
theorem dX5_mayAsk_48 : decode cX5_mayAsk 48 = .ok (.ireturn, 1) := by decide +kernel
theorem dX5_saysNo_0 : decode cX5_saysNo 0 = .ok (.aload_n 0, 1) := by decide +kernel
theorem dX5_saysNo_1 : decode cX5_saysNo 1 = .ok (.getfield 34, 3) := by decide +kernel
theorem dX5_saysNo_4 : decode cX5_saysNo 4 = .ok (.iload_n 2, 1) := by decide +kernel
theorem dX5_saysNo_5 : decode cX5_saysNo 5 = .ok (.iaload, 1) := by decide +kernel
theorem dX5_saysNo_6 : decode cX5_saysNo 6 = .ok (.aload_n 0, 1) := by decide +kernel
theorem dX5_saysNo_7 : decode cX5_saysNo 7 = .ok (.getfield 37, 3) := by decide +kernel
theorem dX5_saysNo_10 : decode cX5_saysNo 10 = .ok (.iload_n 2, 1) := by decide +kernel
theorem dX5_saysNo_11 : decode cX5_saysNo 11 = .ok (.iaload, 1) := by decide +kernel
theorem dX5_saysNo_12 : decode cX5_saysNo 12 = .ok (.aload_n 0, 1) := by decide +kernel
theorem dX5_saysNo_13 : decode cX5_saysNo 13 = .ok (.getfield 43, 3) := by decide +kernel
theorem dX5_saysNo_16 : decode cX5_saysNo 16 = .ok (.iload_n 1, 1) := by decide +kernel
theorem dX5_saysNo_17 : decode cX5_saysNo 17 = .ok (.iload_n 2, 1) := by decide +kernel
theorem dX5_saysNo_18 : decode cX5_saysNo 18 = .ok (.invokestatic 77, 3) := by decide +kernel
theorem dX5_saysNo_21 : decode cX5_saysNo 21 = .ok (.iaload, 1) := by decide +kernel
theorem dX5_saysNo_22 : decode cX5_saysNo 22 = .ok (.aload_n 0, 1) := by decide +kernel
theorem dX5_saysNo_23 : decode cX5_saysNo 23 = .ok (.getfield 27, 3) := by decide +kernel
theorem dX5_saysNo_26 : decode cX5_saysNo 26 = .ok (.iload_n 1, 1) := by decide +kernel
theorem dX5_saysNo_27 : decode cX5_saysNo 27 = .ok (.iaload, 1) := by decide +kernel
theorem dX5_saysNo_28 : decode cX5_saysNo 28 = .ok (.invokestatic 80, 3) := by decide +kernel
theorem dX5_saysNo_31 : decode cX5_saysNo 31 = .ok (.ifCond .ne 13, 3) := by decide +kernel
theorem dX5_saysNo_34 : decode cX5_saysNo 34 = .ok (.aload_n 0, 1) := by decide +kernel
theorem dX5_saysNo_35 : decode cX5_saysNo 35 = .ok (.iconst 0, 1) := by decide +kernel
theorem dX5_saysNo_36 : decode cX5_saysNo 36 = .ok (.iload_n 1, 1) := by decide +kernel
theorem dX5_saysNo_37 : decode cX5_saysNo 37 = .ok (.iload_n 2, 1) := by decide +kernel
theorem dX5_saysNo_38 : decode cX5_saysNo 38 = .ok (.invokevirtual 84, 3) := by decide +kernel
theorem dX5_saysNo_41 : decode cX5_saysNo 41 = .ok (.ifCond .ne 7, 3) := by decide +kernel
theorem dX5_saysNo_44 : decode cX5_saysNo 44 = .ok (.iconst 1, 1) := by decide +kernel
theorem dX5_saysNo_45 : decode cX5_saysNo 45 = .ok (.goto 4, 3) := by decide +kernel
theorem dX5_saysNo_48 : decode cX5_saysNo 48 = .ok (.iconst 0, 1) := by decide +kernel
theorem dX5_saysNo_49 : decode cX5_saysNo 49 = .ok (.ireturn, 1) := by decide +kernel
theorem dX5_worth_0 : decode cX5_worth 0 = .ok (.iconst 0, 1) := by decide +kernel
theorem dX5_worth_1 : decode cX5_worth 1 = .ok (.aload_n 0, 1) := by decide +kernel
theorem dX5_worth_2 : decode cX5_worth 2 = .ok (.iconst 1, 1) := by decide +kernel
theorem dX5_worth_3 : decode cX5_worth 3 = .ok (.iload_n 1, 1) := by decide +kernel
theorem dX5_worth_4 : decode cX5_worth 4 = .ok (.iload_n 2, 1) := by decide +kernel
theorem dX5_worth_5 : decode cX5_worth 5 = .ok (.invokevirtual 84, 3) := by decide +kernel
theorem dX5_worth_8 : decode cX5_worth 8 = .ok (.bipush 99, 2) := by decide +kernel
theorem dX5_worth_10 : decode cX5_worth 10 = .ok (.invokestatic 88, 3) := by decide +kernel
theorem dX5_worth_13 : decode cX5_worth 13 = .ok (.invokestatic 93, 3) := by decide +kernel
theorem dX5_worth_16 : decode cX5_worth 16 = .ok (.ireturn, 1) := by decide +kernel
theorem dX5_wants_0 : decode cX5_wants 0 = .ok (.aload_n 0, 1) := by decide +kernel
theorem dX5_wants_1 : decode cX5_wants 1 = .ok (.iconst 2, 1) := by decide +kernel
theorem dX5_wants_2 : decode cX5_wants 2 = .ok (.iload_n 1, 1) := by decide +kernel
theorem dX5_wants_3 : decode cX5_wants 3 = .ok (.iload_n 2, 1) := by decide +kernel
theorem dX5_wants_4 : decode cX5_wants 4 = .ok (.invokevirtual 84, 3) := by decide +kernel
theorem dX5_wants_7 : decode cX5_wants 7 = .ok (.ifCond .eq 7, 3) := by decide +kernel
theorem dX5_wants_10 : decode cX5_wants 10 = .ok (.iconst 1, 1) := by decide +kernel
theorem dX5_wants_11 : decode cX5_wants 11 = .ok (.goto 4, 3) := by decide +kernel
theorem dX5_wants_14 : decode cX5_wants 14 = .ok (.iconst 0, 1) := by decide +kernel
theorem dX5_wants_15 : decode cX5_wants 15 = .ok (.ireturn, 1) := by decide +kernel
theorem dX5_ruled_0 : decode cX5_ruled 0 = .ok (.aload_n 0, 1) := by decide +kernel
theorem dX5_ruled_1 : decode cX5_ruled 1 = .ok (.getfield 48, 3) := by decide +kernel
theorem dX5_ruled_4 : decode cX5_ruled 4 = .ok (.iconst 1, 1) := by decide +kernel
theorem dX5_ruled_5 : decode cX5_ruled 5 = .ok (.aload_n 0, 1) := by decide +kernel
theorem dX5_ruled_6 : decode cX5_ruled 6 = .ok (.getfield 40, 3) := by decide +kernel
theorem dX5_ruled_9 : decode cX5_ruled 9 = .ok (.iload_n 2, 1) := by decide +kernel
theorem dX5_ruled_10 : decode cX5_ruled 10 = .ok (.iload_n 3, 1) := by decide +kernel
theorem dX5_ruled_11 : decode cX5_ruled 11 = .ok (.invokestatic 77, 3) := by decide +kernel
theorem dX5_ruled_14 : decode cX5_ruled 14 = .ok (.iaload, 1) := by decide +kernel
theorem dX5_ruled_15 : decode cX5_ruled 15 = .ok (.iastore, 1) := by decide +kernel
theorem dX5_ruled_16 : decode cX5_ruled 16 = .ok (.aload_n 0, 1) := by decide +kernel
theorem dX5_ruled_17 : decode cX5_ruled 17 = .ok (.getfield 48, 3) := by decide +kernel
theorem dX5_ruled_20 : decode cX5_ruled 20 = .ok (.iconst 2, 1) := by decide +kernel
theorem dX5_ruled_21 : decode cX5_ruled 21 = .ok (.aload_n 0, 1) := by decide +kernel
theorem dX5_ruled_22 : decode cX5_ruled 22 = .ok (.getfield 43, 3) := by decide +kernel
theorem dX5_ruled_25 : decode cX5_ruled 25 = .ok (.iload_n 2, 1) := by decide +kernel
theorem dX5_ruled_26 : decode cX5_ruled 26 = .ok (.iload_n 3, 1) := by decide +kernel
theorem dX5_ruled_27 : decode cX5_ruled 27 = .ok (.invokestatic 77, 3) := by decide +kernel
theorem dX5_ruled_30 : decode cX5_ruled 30 = .ok (.iaload, 1) := by decide +kernel
theorem dX5_ruled_31 : decode cX5_ruled 31 = .ok (.iastore, 1) := by decide +kernel
theorem dX5_ruled_32 : decode cX5_ruled 32 = .ok (.aload_n 0, 1) := by decide +kernel
theorem dX5_ruled_33 : decode cX5_ruled 33 = .ok (.getfield 48, 3) := by decide +kernel
theorem dX5_ruled_36 : decode cX5_ruled 36 = .ok (.iconst 3, 1) := by decide +kernel
theorem dX5_ruled_37 : decode cX5_ruled 37 = .ok (.aload_n 0, 1) := by decide +kernel
theorem dX5_ruled_38 : decode cX5_ruled 38 = .ok (.getfield 27, 3) := by decide +kernel
theorem dX5_ruled_41 : decode cX5_ruled 41 = .ok (.iload_n 2, 1) := by decide +kernel
theorem dX5_ruled_42 : decode cX5_ruled 42 = .ok (.iaload, 1) := by decide +kernel
theorem dX5_ruled_43 : decode cX5_ruled 43 = .ok (.iastore, 1) := by decide +kernel
theorem dX5_ruled_44 : decode cX5_ruled 44 = .ok (.aload_n 0, 1) := by decide +kernel
theorem dX5_ruled_45 : decode cX5_ruled 45 = .ok (.getfield 48, 3) := by decide +kernel
theorem dX5_ruled_48 : decode cX5_ruled 48 = .ok (.iconst 4, 1) := by decide +kernel
theorem dX5_ruled_49 : decode cX5_ruled 49 = .ok (.aload_n 0, 1) := by decide +kernel
theorem dX5_ruled_50 : decode cX5_ruled 50 = .ok (.getfield 18, 3) := by decide +kernel
theorem dX5_ruled_53 : decode cX5_ruled 53 = .ok (.iastore, 1) := by decide +kernel
theorem dX5_ruled_54 : decode cX5_ruled 54 = .ok (.aload_n 0, 1) := by decide +kernel
theorem dX5_ruled_55 : decode cX5_ruled 55 = .ok (.getfield 48, 3) := by decide +kernel
theorem dX5_ruled_58 : decode cX5_ruled 58 = .ok (.iconst 5, 1) := by decide +kernel
theorem dX5_ruled_59 : decode cX5_ruled 59 = .ok (.iload_n 2, 1) := by decide +kernel
theorem dX5_ruled_60 : decode cX5_ruled 60 = .ok (.iastore, 1) := by decide +kernel
theorem dX5_ruled_61 : decode cX5_ruled 61 = .ok (.aload_n 0, 1) := by decide +kernel
theorem dX5_ruled_62 : decode cX5_ruled 62 = .ok (.getfield 48, 3) := by decide +kernel
theorem dX5_ruled_65 : decode cX5_ruled 65 = .ok (.bipush 6, 2) := by decide +kernel
theorem dX5_ruled_67 : decode cX5_ruled 67 = .ok (.iload_n 3, 1) := by decide +kernel
theorem dX5_ruled_68 : decode cX5_ruled 68 = .ok (.iastore, 1) := by decide +kernel
theorem dX5_ruled_69 : decode cX5_ruled 69 = .ok (.aload_n 0, 1) := by decide +kernel
theorem dX5_ruled_70 : decode cX5_ruled 70 = .ok (.getfield 51, 3) := by decide +kernel
theorem dX5_ruled_73 : decode cX5_ruled 73 = .ok (.iload_n 1, 1) := by decide +kernel
theorem dX5_ruled_74 : decode cX5_ruled 74 = .ok (.aload_n 0, 1) := by decide +kernel
theorem dX5_ruled_75 : decode cX5_ruled 75 = .ok (.getfield 48, 3) := by decide +kernel
theorem dX5_ruled_78 : decode cX5_ruled 78 = .ok (.invokevirtual 96, 3) := by decide +kernel
theorem dX5_ruled_81 : decode cX5_ruled 81 = .ok (.ireturn, 1) := by decide +kernel
theorem dX5_asking_0 : decode cX5_asking 0 = .ok (.aload_n 0, 1) := by decide +kernel
theorem dX5_asking_1 : decode cX5_asking 1 = .ok (.iload_n 1, 1) := by decide +kernel
theorem dX5_asking_2 : decode cX5_asking 2 = .ok (.iload_n 2, 1) := by decide +kernel
theorem dX5_asking_3 : decode cX5_asking 3 = .ok (.invokevirtual 100, 3) := by decide +kernel
theorem dX5_asking_6 : decode cX5_asking 6 = .ok (.ifCond .ne 7, 3) := by decide +kernel
theorem dX5_asking_9 : decode cX5_asking 9 = .ok (.iconst 1, 1) := by decide +kernel
theorem dX5_asking_10 : decode cX5_asking 10 = .ok (.goto 4, 3) := by decide +kernel
theorem dX5_asking_13 : decode cX5_asking 13 = .ok (.iconst 0, 1) := by decide +kernel
theorem dX5_asking_14 : decode cX5_asking 14 = .ok (.istore_n 3, 1) := by decide +kernel
theorem dX5_asking_15 : decode cX5_asking 15 = .ok (.aload_n 0, 1) := by decide +kernel
theorem dX5_asking_16 : decode cX5_asking 16 = .ok (.iload_n 1, 1) := by decide +kernel
theorem dX5_asking_17 : decode cX5_asking 17 = .ok (.iload_n 2, 1) := by decide +kernel
theorem dX5_asking_18 : decode cX5_asking 18 = .ok (.iload_n 3, 1) := by decide +kernel
theorem dX5_asking_19 : decode cX5_asking 19 = .ok (.invokevirtual 104, 3) := by decide +kernel
theorem dX5_asking_22 : decode cX5_asking 22 = .ok (.iload_n 3, 1) := by decide +kernel
theorem dX5_asking_23 : decode cX5_asking 23 = .ok (.ireturn, 1) := by decide +kernel
theorem dX5_endAsking_0 : decode cX5_endAsking 0 = .ok (.iload_n 3, 1) := by decide +kernel
theorem dX5_endAsking_1 : decode cX5_endAsking 1 = .ok (.ifCond .eq 13, 3) := by decide +kernel
theorem dX5_endAsking_4 : decode cX5_endAsking 4 = .ok (.aload_n 0, 1) := by decide +kernel
theorem dX5_endAsking_5 : decode cX5_endAsking 5 = .ok (.getfield 31, 3) := by decide +kernel
theorem dX5_endAsking_8 : decode cX5_endAsking 8 = .ok (.iload_n 1, 1) := by decide +kernel
theorem dX5_endAsking_9 : decode cX5_endAsking 9 = .ok (.iload_n 2, 1) := by decide +kernel
theorem dX5_endAsking_10 : decode cX5_endAsking 10 = .ok (.iastore, 1) := by decide +kernel
theorem dX5_endAsking_11 : decode cX5_endAsking 11 = .ok (.goto 46, 3) := by decide +kernel
theorem dX5_endAsking_14 : decode cX5_endAsking 14 = .ok (.aload_n 0, 1) := by decide +kernel
theorem dX5_endAsking_15 : decode cX5_endAsking 15 = .ok (.getfield 27, 3) := by decide +kernel
theorem dX5_endAsking_18 : decode cX5_endAsking 18 = .ok (.iload_n 1, 1) := by decide +kernel
theorem dX5_endAsking_19 : decode cX5_endAsking 19 = .ok (.aload_n 0, 1) := by decide +kernel
theorem dX5_endAsking_20 : decode cX5_endAsking 20 = .ok (.getfield 27, 3) := by decide +kernel
theorem dX5_endAsking_23 : decode cX5_endAsking 23 = .ok (.iload_n 1, 1) := by decide +kernel
theorem dX5_endAsking_24 : decode cX5_endAsking 24 = .ok (.iaload, 1) := by decide +kernel
theorem dX5_endAsking_25 : decode cX5_endAsking 25 = .ok (.iconst 1, 1) := by decide +kernel
theorem dX5_endAsking_26 : decode cX5_endAsking 26 = .ok (.iadd, 1) := by decide +kernel
theorem dX5_endAsking_27 : decode cX5_endAsking 27 = .ok (.bipush 9, 2) := by decide +kernel
theorem dX5_endAsking_29 : decode cX5_endAsking 29 = .ok (.invokestatic 88, 3) := by decide +kernel
theorem dX5_endAsking_32 : decode cX5_endAsking 32 = .ok (.iastore, 1) := by decide +kernel
theorem dX5_endAsking_33 : decode cX5_endAsking 33 = .ok (.aload_n 0, 1) := by decide +kernel
theorem dX5_endAsking_34 : decode cX5_endAsking 34 = .ok (.dup, 1) := by decide +kernel
theorem dX5_endAsking_35 : decode cX5_endAsking 35 = .ok (.getfield 24, 3) := by decide +kernel
theorem dX5_endAsking_38 : decode cX5_endAsking 38 = .ok (.aload_n 0, 1) := by decide +kernel
theorem dX5_endAsking_39 : decode cX5_endAsking 39 = .ok (.getfield 34, 3) := by decide +kernel
theorem dX5_endAsking_42 : decode cX5_endAsking 42 = .ok (.iload_n 2, 1) := by decide +kernel
theorem dX5_endAsking_43 : decode cX5_endAsking 43 = .ok (.iaload, 1) := by decide +kernel
theorem dX5_endAsking_44 : decode cX5_endAsking 44 = .ok (.aload_n 0, 1) := by decide +kernel
theorem dX5_endAsking_45 : decode cX5_endAsking 45 = .ok (.getfield 37, 3) := by decide +kernel
theorem dX5_endAsking_48 : decode cX5_endAsking 48 = .ok (.iload_n 2, 1) := by decide +kernel
theorem dX5_endAsking_49 : decode cX5_endAsking 49 = .ok (.iaload, 1) := by decide +kernel
theorem dX5_endAsking_50 : decode cX5_endAsking 50 = .ok (.invokestatic 108, 3) := by decide +kernel
theorem dX5_endAsking_53 : decode cX5_endAsking 53 = .ok (.iadd, 1) := by decide +kernel
theorem dX5_endAsking_54 : decode cX5_endAsking 54 = .ok (.putfield 24, 3) := by decide +kernel
theorem dX5_endAsking_57 : decode cX5_endAsking 57 = .ok (.aload_n 0, 1) := by decide +kernel
theorem dX5_endAsking_58 : decode cX5_endAsking 58 = .ok (.aload_n 0, 1) := by decide +kernel
theorem dX5_endAsking_59 : decode cX5_endAsking 59 = .ok (.getfield 18, 3) := by decide +kernel
theorem dX5_endAsking_62 : decode cX5_endAsking 62 = .ok (.iconst 1, 1) := by decide +kernel
theorem dX5_endAsking_63 : decode cX5_endAsking 63 = .ok (.iadd, 1) := by decide +kernel
theorem dX5_endAsking_64 : decode cX5_endAsking 64 = .ok (.bipush 99, 2) := by decide +kernel
theorem dX5_endAsking_66 : decode cX5_endAsking 66 = .ok (.invokestatic 88, 3) := by decide +kernel
theorem dX5_endAsking_69 : decode cX5_endAsking 69 = .ok (.putfield 18, 3) := by decide +kernel
theorem dX5_endAsking_72 : decode cX5_endAsking 72 = .ok (.aload_n 0, 1) := by decide +kernel
theorem dX5_endAsking_73 : decode cX5_endAsking 73 = .ok (.dup, 1) := by decide +kernel
theorem dX5_endAsking_74 : decode cX5_endAsking 74 = .ok (.getfield 21, 3) := by decide +kernel
theorem dX5_endAsking_77 : decode cX5_endAsking 77 = .ok (.iconst 1, 1) := by decide +kernel
theorem dX5_endAsking_78 : decode cX5_endAsking 78 = .ok (.iadd, 1) := by decide +kernel
theorem dX5_endAsking_79 : decode cX5_endAsking 79 = .ok (.putfield 21, 3) := by decide +kernel
theorem dX5_endAsking_82 : decode cX5_endAsking 82 = .ok (.return_, 1) := by decide +kernel
theorem dX5_choice_0 : decode cX5_choice 0 = .ok (.iconst (-1), 1) := by decide +kernel
theorem dX5_choice_1 : decode cX5_choice 1 = .ok (.istore_n 2, 1) := by decide +kernel
theorem dX5_choice_2 : decode cX5_choice 2 = .ok (.iconst 0, 1) := by decide +kernel
theorem dX5_choice_3 : decode cX5_choice 3 = .ok (.istore_n 3, 1) := by decide +kernel
theorem dX5_choice_4 : decode cX5_choice 4 = .ok (.iload_n 3, 1) := by decide +kernel
theorem dX5_choice_5 : decode cX5_choice 5 = .ok (.aload_n 0, 1) := by decide +kernel
theorem dX5_choice_6 : decode cX5_choice 6 = .ok (.getfield 15, 3) := by decide +kernel
theorem dX5_choice_9 : decode cX5_choice 9 = .ok (.if_icmp .ge 57, 3) := by decide +kernel
theorem dX5_choice_12 : decode cX5_choice 12 = .ok (.aload_n 0, 1) := by decide +kernel
theorem dX5_choice_13 : decode cX5_choice 13 = .ok (.iload_n 1, 1) := by decide +kernel
theorem dX5_choice_14 : decode cX5_choice 14 = .ok (.iload_n 3, 1) := by decide +kernel
theorem dX5_choice_15 : decode cX5_choice 15 = .ok (.invokevirtual 111, 3) := by decide +kernel
theorem dX5_choice_18 : decode cX5_choice 18 = .ok (.ifCond .eq 42, 3) := by decide +kernel
theorem dX5_choice_21 : decode cX5_choice 21 = .ok (.aload_n 0, 1) := by decide +kernel
theorem dX5_choice_22 : decode cX5_choice 22 = .ok (.iload_n 1, 1) := by decide +kernel
theorem dX5_choice_23 : decode cX5_choice 23 = .ok (.iload_n 3, 1) := by decide +kernel
theorem dX5_choice_24 : decode cX5_choice 24 = .ok (.invokevirtual 114, 3) := by decide +kernel
theorem dX5_choice_27 : decode cX5_choice 27 = .ok (.ifCond .eq 33, 3) := by decide +kernel
theorem dX5_choice_30 : decode cX5_choice 30 = .ok (.iload_n 2, 1) := by decide +kernel
theorem dX5_choice_31 : decode cX5_choice 31 = .ok (.iconst (-1), 1) := by decide +kernel
theorem dX5_choice_32 : decode cX5_choice 32 = .ok (.if_icmp .eq 26, 3) := by decide +kernel
theorem dX5_choice_35 : decode cX5_choice 35 = .ok (.aload_n 0, 1) := by decide +kernel
theorem dX5_choice_36 : decode cX5_choice 36 = .ok (.getfield 40, 3) := by decide +kernel
theorem dX5_choice_39 : decode cX5_choice 39 = .ok (.iload_n 1, 1) := by decide +kernel
theorem dX5_choice_40 : decode cX5_choice 40 = .ok (.iload_n 3, 1) := by decide +kernel
theorem dX5_choice_41 : decode cX5_choice 41 = .ok (.invokestatic 77, 3) := by decide +kernel
theorem dX5_choice_44 : decode cX5_choice 44 = .ok (.iaload, 1) := by decide +kernel
theorem dX5_choice_45 : decode cX5_choice 45 = .ok (.aload_n 0, 1) := by decide +kernel
theorem dX5_choice_46 : decode cX5_choice 46 = .ok (.getfield 40, 3) := by decide +kernel
theorem dX5_choice_49 : decode cX5_choice 49 = .ok (.iload_n 1, 1) := by decide +kernel
theorem dX5_choice_50 : decode cX5_choice 50 = .ok (.iload_n 2, 1) := by decide +kernel
theorem dX5_choice_51 : decode cX5_choice 51 = .ok (.invokestatic 77, 3) := by decide +kernel
theorem dX5_choice_54 : decode cX5_choice 54 = .ok (.iaload, 1) := by decide +kernel
theorem dX5_choice_55 : decode cX5_choice 55 = .ok (.if_icmp .le 5, 3) := by decide +kernel
theorem dX5_choice_58 : decode cX5_choice 58 = .ok (.iload_n 3, 1) := by decide +kernel
theorem dX5_choice_59 : decode cX5_choice 59 = .ok (.istore_n 2, 1) := by decide +kernel
theorem dX5_choice_60 : decode cX5_choice 60 = .ok (.iinc 3 1, 3) := by decide +kernel
theorem dX5_choice_63 : decode cX5_choice 63 = .ok (.goto (-59), 3) := by decide +kernel
theorem dX5_choice_66 : decode cX5_choice 66 = .ok (.iload_n 2, 1) := by decide +kernel
theorem dX5_choice_67 : decode cX5_choice 67 = .ok (.ireturn, 1) := by decide +kernel
theorem dX5_drawHers_0 : decode cX5_drawHers 0 = .ok (.iload_n 1, 1) := by decide +kernel
theorem dX5_drawHers_1 : decode cX5_drawHers 1 = .ok (.istore_n 2, 1) := by decide +kernel
theorem dX5_drawHers_2 : decode cX5_drawHers 2 = .ok (.iconst 0, 1) := by decide +kernel
theorem dX5_drawHers_3 : decode cX5_drawHers 3 = .ok (.istore_n 3, 1) := by decide +kernel
theorem dX5_drawHers_4 : decode cX5_drawHers 4 = .ok (.iload_n 3, 1) := by decide +kernel
theorem dX5_drawHers_5 : decode cX5_drawHers 5 = .ok (.aload_n 0, 1) := by decide +kernel
theorem dX5_drawHers_6 : decode cX5_drawHers 6 = .ok (.getfield 9, 3) := by decide +kernel
theorem dX5_drawHers_9 : decode cX5_drawHers 9 = .ok (.if_icmp .ge 54, 3) := by decide +kernel
theorem dX5_drawHers_12 : decode cX5_drawHers 12 = .ok (.iconst 0, 1) := by decide +kernel
theorem dX5_drawHers_13 : decode cX5_drawHers 13 = .ok (.istore 4, 2) := by decide +kernel
theorem dX5_drawHers_15 : decode cX5_drawHers 15 = .ok (.iload 4, 2) := by decide +kernel
theorem dX5_drawHers_17 : decode cX5_drawHers 17 = .ok (.aload_n 0, 1) := by decide +kernel
theorem dX5_drawHers_18 : decode cX5_drawHers 18 = .ok (.getfield 15, 3) := by decide +kernel
theorem dX5_drawHers_21 : decode cX5_drawHers 21 = .ok (.if_icmp .ge 36, 3) := by decide +kernel
theorem dX5_drawHers_24 : decode cX5_drawHers 24 = .ok (.iload_n 2, 1) := by decide +kernel
theorem dX5_drawHers_25 : decode cX5_drawHers 25 = .ok (.ldc 117, 2) := by decide +kernel
theorem dX5_drawHers_27 : decode cX5_drawHers 27 = .ok (.imul, 1) := by decide +kernel
theorem dX5_drawHers_28 : decode cX5_drawHers 28 = .ok (.sipush 12345, 3) := by decide +kernel
theorem dX5_drawHers_31 : decode cX5_drawHers 31 = .ok (.iadd, 1) := by decide +kernel
theorem dX5_drawHers_32 : decode cX5_drawHers 32 = .ok (.istore_n 2, 1) := by decide +kernel
theorem dX5_drawHers_33 : decode cX5_drawHers 33 = .ok (.aload_n 0, 1) := by decide +kernel
theorem dX5_drawHers_34 : decode cX5_drawHers 34 = .ok (.getfield 43, 3) := by decide +kernel
theorem dX5_drawHers_37 : decode cX5_drawHers 37 = .ok (.iload_n 3, 1) := by decide +kernel
theorem dX5_drawHers_38 : decode cX5_drawHers 38 = .ok (.iload 4, 2) := by decide +kernel
theorem dX5_drawHers_40 : decode cX5_drawHers 40 = .ok (.invokestatic 77, 3) := by decide +kernel
theorem dX5_drawHers_43 : decode cX5_drawHers 43 = .ok (.iload_n 2, 1) := by decide +kernel
theorem dX5_drawHers_44 : decode cX5_drawHers 44 = .ok (.bipush 9, 2) := by decide +kernel
theorem dX5_drawHers_46 : decode cX5_drawHers 46 = .ok (.iushr, 1) := by decide +kernel
theorem dX5_drawHers_47 : decode cX5_drawHers 47 = .ok (.bipush 100, 2) := by decide +kernel
theorem dX5_drawHers_49 : decode cX5_drawHers 49 = .ok (.irem, 1) := by decide +kernel
theorem dX5_drawHers_50 : decode cX5_drawHers 50 = .ok (.iastore, 1) := by decide +kernel
theorem dX5_drawHers_51 : decode cX5_drawHers 51 = .ok (.iinc 4 1, 3) := by decide +kernel
theorem dX5_drawHers_54 : decode cX5_drawHers 54 = .ok (.goto (-39), 3) := by decide +kernel
theorem dX5_drawHers_57 : decode cX5_drawHers 57 = .ok (.iinc 3 1, 3) := by decide +kernel
theorem dX5_drawHers_60 : decode cX5_drawHers 60 = .ok (.goto (-56), 3) := by decide +kernel
theorem dX5_drawHers_63 : decode cX5_drawHers 63 = .ok (.return_, 1) := by decide +kernel
theorem dX6_init_0 : decode cX6_init 0 = .ok (.aload_n 0, 1) := by decide +kernel
theorem dX6_init_1 : decode cX6_init 1 = .ok (.invokespecial 3, 3) := by decide +kernel
theorem dX6_init_4 : decode cX6_init 4 = .ok (.aload_n 0, 1) := by decide +kernel
theorem dX6_init_5 : decode cX6_init 5 = .ok (.iconst 4, 1) := by decide +kernel
theorem dX6_init_6 : decode cX6_init 6 = .ok (.newarray .int, 2) := by decide +kernel
theorem dX6_init_8 : decode cX6_init 8 = .ok (.putfield 9, 3) := by decide +kernel
theorem dX6_init_11 : decode cX6_init 11 = .ok (.aload_n 0, 1) := by decide +kernel
theorem dX6_init_12 : decode cX6_init 12 = .ok (.iconst 0, 1) := by decide +kernel
theorem dX6_init_13 : decode cX6_init 13 = .ok (.putfield 15, 3) := by decide +kernel
theorem dX6_init_16 : decode cX6_init 16 = .ok (.aload_n 0, 1) := by decide +kernel
theorem dX6_init_17 : decode cX6_init 17 = .ok (.iconst 0, 1) := by decide +kernel
theorem dX6_init_18 : decode cX6_init 18 = .ok (.putfield 19, 3) := by decide +kernel
theorem dX6_init_21 : decode cX6_init 21 = .ok (.aload_n 0, 1) := by decide +kernel
theorem dX6_init_22 : decode cX6_init 22 = .ok (.iconst 0, 1) := by decide +kernel
theorem dX6_init_23 : decode cX6_init 23 = .ok (.putfield 23, 3) := by decide +kernel
theorem dX6_init_26 : decode cX6_init 26 = .ok (.aload_n 0, 1) := by decide +kernel
theorem dX6_init_27 : decode cX6_init 27 = .ok (.iconst 4, 1) := by decide +kernel
theorem dX6_init_28 : decode cX6_init 28 = .ok (.newarray .int, 2) := by decide +kernel
theorem dX6_init_30 : decode cX6_init 30 = .ok (.putfield 26, 3) := by decide +kernel
theorem dX6_init_33 : decode cX6_init 33 = .ok (.return_, 1) := by decide +kernel
theorem dX6_seek_0 : decode cX6_seek 0 = .ok (.aload_n 0, 1) := by decide +kernel
theorem dX6_seek_1 : decode cX6_seek 1 = .ok (.iconst 0, 1) := by decide +kernel
theorem dX6_seek_2 : decode cX6_seek 2 = .ok (.putfield 15, 3) := by decide +kernel
theorem dX6_seek_5 : decode cX6_seek 5 = .ok (.aload_n 0, 1) := by decide +kernel
theorem dX6_seek_6 : decode cX6_seek 6 = .ok (.aload_n 1, 1) := by decide +kernel
theorem dX6_seek_7 : decode cX6_seek 7 = .ok (.iload_n 2, 1) := by decide +kernel
theorem dX6_seek_8 : decode cX6_seek 8 = .ok (.iload_n 3, 1) := by decide +kernel
theorem dX6_seek_9 : decode cX6_seek 9 = .ok (.iload 4, 2) := by decide +kernel
theorem dX6_seek_11 : decode cX6_seek 11 = .ok (.iconst 0, 1) := by decide +kernel
theorem dX6_seek_12 : decode cX6_seek 12 = .ok (.iconst 1, 1) := by decide +kernel
theorem dX6_seek_13 : decode cX6_seek 13 = .ok (.iload_n 3, 1) := by decide +kernel
theorem dX6_seek_14 : decode cX6_seek 14 = .ok (.ishl, 1) := by decide +kernel
theorem dX6_seek_15 : decode cX6_seek 15 = .ok (.invokevirtual 29, 3) := by decide +kernel
theorem dX6_seek_18 : decode cX6_seek 18 = .ok (.return_, 1) := by decide +kernel
theorem dX6_goOn_0 : decode cX6_goOn 0 = .ok (.aload_n 1, 1) := by decide +kernel
theorem dX6_goOn_1 : decode cX6_goOn 1 = .ok (.iload_n 2, 1) := by decide +kernel
theorem dX6_goOn_2 : decode cX6_goOn 2 = .ok (.iload_n 3, 1) := by decide +kernel
theorem dX6_goOn_3 : decode cX6_goOn 3 = .ok (.invokevirtual 33, 3) := by decide +kernel
theorem dX6_goOn_6 : decode cX6_goOn 6 = .ok (.ifCond .eq 28, 3) := by decide +kernel
theorem dX6_goOn_9 : decode cX6_goOn 9 = .ok (.aload_n 0, 1) := by decide +kernel
theorem dX6_goOn_10 : decode cX6_goOn 10 = .ok (.iload 4, 2) := by decide +kernel
theorem dX6_goOn_12 : decode cX6_goOn 12 = .ok (.iload 5, 2) := by decide +kernel
theorem dX6_goOn_14 : decode cX6_goOn 14 = .ok (.aload_n 1, 1) := by decide +kernel
theorem dX6_goOn_15 : decode cX6_goOn 15 = .ok (.getfield 39, 3) := by decide +kernel
theorem dX6_goOn_18 : decode cX6_goOn 18 = .ok (.invokevirtual 40, 3) := by decide +kernel
theorem dX6_goOn_21 : decode cX6_goOn 21 = .ok (.ifCond .eq 13, 3) := by decide +kernel
theorem dX6_goOn_24 : decode cX6_goOn 24 = .ok (.aload_n 0, 1) := by decide +kernel
theorem dX6_goOn_25 : decode cX6_goOn 25 = .ok (.iload 5, 2) := by decide +kernel
theorem dX6_goOn_27 : decode cX6_goOn 27 = .ok (.aload_n 1, 1) := by decide +kernel
theorem dX6_goOn_28 : decode cX6_goOn 28 = .ok (.getfield 39, 3) := by decide +kernel
theorem dX6_goOn_31 : decode cX6_goOn 31 = .ok (.invokevirtual 44, 3) := by decide +kernel
theorem dX6_goOn_34 : decode cX6_goOn 34 = .ok (.iload 5, 2) := by decide +kernel
theorem dX6_goOn_36 : decode cX6_goOn 36 = .ok (.iconst 4, 1) := by decide +kernel
theorem dX6_goOn_37 : decode cX6_goOn 37 = .ok (.if_icmp .lt 4, 3) := by decide +kernel
theorem dX6_goOn_40 : decode cX6_goOn 40 = .ok (.return_, 1) := by decide +kernel
theorem dX6_goOn_41 : decode cX6_goOn 41 = .ok (.aload_n 1, 1) := by decide +kernel
theorem dX6_goOn_42 : decode cX6_goOn 42 = .ok (.getfield 48, 3) := by decide +kernel
theorem dX6_goOn_45 : decode cX6_goOn 45 = .ok (.iload_n 2, 1) := by decide +kernel
theorem dX6_goOn_46 : decode cX6_goOn 46 = .ok (.iaload, 1) := by decide +kernel
theorem dX6_goOn_47 : decode cX6_goOn 47 = .ok (.istore 7, 2) := by decide +kernel
theorem dX6_goOn_49 : decode cX6_goOn 49 = .ok (.aload_n 1, 1) := by decide +kernel
theorem dX6_goOn_50 : decode cX6_goOn 50 = .ok (.getfield 51, 3) := by decide +kernel
theorem dX6_goOn_53 : decode cX6_goOn 53 = .ok (.istore 8, 2) := by decide +kernel
theorem dX6_goOn_55 : decode cX6_goOn 55 = .ok (.aload_n 1, 1) := by decide +kernel
theorem dX6_goOn_56 : decode cX6_goOn 56 = .ok (.getfield 39, 3) := by decide +kernel
theorem dX6_goOn_59 : decode cX6_goOn 59 = .ok (.istore 9, 2) := by decide +kernel
theorem dX6_goOn_61 : decode cX6_goOn 61 = .ok (.iconst 0, 1) := by decide +kernel
theorem dX6_goOn_62 : decode cX6_goOn 62 = .ok (.istore 10, 2) := by decide +kernel
theorem dX6_goOn_64 : decode cX6_goOn 64 = .ok (.iload 10, 2) := by decide +kernel
theorem dX6_goOn_66 : decode cX6_goOn 66 = .ok (.aload_n 1, 1) := by decide +kernel
theorem dX6_goOn_67 : decode cX6_goOn 67 = .ok (.getfield 54, 3) := by decide +kernel
theorem dX6_goOn_70 : decode cX6_goOn 70 = .ok (.if_icmp .ge 96, 3) := by decide +kernel
theorem dX6_goOn_73 : decode cX6_goOn 73 = .ok (.iload 6, 2) := by decide +kernel
theorem dX6_goOn_75 : decode cX6_goOn 75 = .ok (.iload 10, 2) := by decide +kernel
theorem dX6_goOn_77 : decode cX6_goOn 77 = .ok (.ishr, 1) := by decide +kernel
theorem dX6_goOn_78 : decode cX6_goOn 78 = .ok (.iconst 1, 1) := by decide +kernel
theorem dX6_goOn_79 : decode cX6_goOn 79 = .ok (.iand, 1) := by decide +kernel
theorem dX6_goOn_80 : decode cX6_goOn 80 = .ok (.ifCond .ne 80, 3) := by decide +kernel
theorem dX6_goOn_83 : decode cX6_goOn 83 = .ok (.aload_n 1, 1) := by decide +kernel
theorem dX6_goOn_84 : decode cX6_goOn 84 = .ok (.iload_n 2, 1) := by decide +kernel
theorem dX6_goOn_85 : decode cX6_goOn 85 = .ok (.iload 10, 2) := by decide +kernel
theorem dX6_goOn_87 : decode cX6_goOn 87 = .ok (.invokevirtual 33, 3) := by decide +kernel
theorem dX6_goOn_90 : decode cX6_goOn 90 = .ok (.ifCond .eq 70, 3) := by decide +kernel
theorem dX6_goOn_93 : decode cX6_goOn 93 = .ok (.aload_n 1, 1) := by decide +kernel
theorem dX6_goOn_94 : decode cX6_goOn 94 = .ok (.iload_n 2, 1) := by decide +kernel
theorem dX6_goOn_95 : decode cX6_goOn 95 = .ok (.iload 10, 2) := by decide +kernel
theorem dX6_goOn_97 : decode cX6_goOn 97 = .ok (.invokevirtual 57, 3) := by decide +kernel
theorem dX6_goOn_100 : decode cX6_goOn 100 = .ok (.ifCond .eq 60, 3) := by decide +kernel
theorem dX6_goOn_103 : decode cX6_goOn 103 = .ok (.aload_n 0, 1) := by decide +kernel
theorem dX6_goOn_104 : decode cX6_goOn 104 = .ok (.getfield 26, 3) := by decide +kernel
theorem dX6_goOn_107 : decode cX6_goOn 107 = .ok (.iload 5, 2) := by decide +kernel
theorem dX6_goOn_109 : decode cX6_goOn 109 = .ok (.iload 10, 2) := by decide +kernel
theorem dX6_goOn_111 : decode cX6_goOn 111 = .ok (.iastore, 1) := by decide +kernel
theorem dX6_goOn_112 : decode cX6_goOn 112 = .ok (.aload_n 1, 1) := by decide +kernel
theorem dX6_goOn_113 : decode cX6_goOn 113 = .ok (.iload_n 2, 1) := by decide +kernel
theorem dX6_goOn_114 : decode cX6_goOn 114 = .ok (.iload 10, 2) := by decide +kernel
theorem dX6_goOn_116 : decode cX6_goOn 116 = .ok (.iconst 0, 1) := by decide +kernel
theorem dX6_goOn_117 : decode cX6_goOn 117 = .ok (.invokevirtual 60, 3) := by decide +kernel
theorem dX6_goOn_120 : decode cX6_goOn 120 = .ok (.aload_n 0, 1) := by decide +kernel
theorem dX6_goOn_121 : decode cX6_goOn 121 = .ok (.aload_n 1, 1) := by decide +kernel
theorem dX6_goOn_122 : decode cX6_goOn 122 = .ok (.iload_n 2, 1) := by decide +kernel
theorem dX6_goOn_123 : decode cX6_goOn 123 = .ok (.iload_n 3, 1) := by decide +kernel
theorem dX6_goOn_124 : decode cX6_goOn 124 = .ok (.iload 4, 2) := by decide +kernel
theorem dX6_goOn_126 : decode cX6_goOn 126 = .ok (.iload 5, 2) := by decide +kernel
theorem dX6_goOn_128 : decode cX6_goOn 128 = .ok (.iconst 1, 1) := by decide +kernel
theorem dX6_goOn_129 : decode cX6_goOn 129 = .ok (.iadd, 1) := by decide +kernel
theorem dX6_goOn_130 : decode cX6_goOn 130 = .ok (.iload 6, 2) := by decide +kernel
theorem dX6_goOn_132 : decode cX6_goOn 132 = .ok (.iconst 1, 1) := by decide +kernel
theorem dX6_goOn_133 : decode cX6_goOn 133 = .ok (.iload 10, 2) := by decide +kernel
theorem dX6_goOn_135 : decode cX6_goOn 135 = .ok (.ishl, 1) := by decide +kernel
theorem dX6_goOn_136 : decode cX6_goOn 136 = .ok (.ior, 1) := by decide +kernel
theorem dX6_goOn_137 : decode cX6_goOn 137 = .ok (.invokevirtual 29, 3) := by decide +kernel
theorem dX6_goOn_140 : decode cX6_goOn 140 = .ok (.aload_n 1, 1) := by decide +kernel
theorem dX6_goOn_141 : decode cX6_goOn 141 = .ok (.getfield 48, 3) := by decide +kernel
theorem dX6_goOn_144 : decode cX6_goOn 144 = .ok (.iload_n 2, 1) := by decide +kernel
theorem dX6_goOn_145 : decode cX6_goOn 145 = .ok (.iload 7, 2) := by decide +kernel
theorem dX6_goOn_147 : decode cX6_goOn 147 = .ok (.iastore, 1) := by decide +kernel
theorem dX6_goOn_148 : decode cX6_goOn 148 = .ok (.aload_n 1, 1) := by decide +kernel
theorem dX6_goOn_149 : decode cX6_goOn 149 = .ok (.iload 8, 2) := by decide +kernel
theorem dX6_goOn_151 : decode cX6_goOn 151 = .ok (.putfield 51, 3) := by decide +kernel
theorem dX6_goOn_154 : decode cX6_goOn 154 = .ok (.aload_n 1, 1) := by decide +kernel
theorem dX6_goOn_155 : decode cX6_goOn 155 = .ok (.iload 9, 2) := by decide +kernel
theorem dX6_goOn_157 : decode cX6_goOn 157 = .ok (.putfield 39, 3) := by decide +kernel
theorem dX6_goOn_160 : decode cX6_goOn 160 = .ok (.iinc 10 1, 3) := by decide +kernel
theorem dX6_goOn_163 : decode cX6_goOn 163 = .ok (.goto (-99), 3) := by decide +kernel
theorem dX6_goOn_166 : decode cX6_goOn 166 = .ok (.return_, 1) := by decide +kernel
theorem dX6_isBetter_0 : decode cX6_isBetter 0 = .ok (.aload_n 0, 1) := by decide +kernel
theorem dX6_isBetter_1 : decode cX6_isBetter 1 = .ok (.getfield 15, 3) := by decide +kernel
theorem dX6_isBetter_4 : decode cX6_isBetter 4 = .ok (.ifCond .eq 26, 3) := by decide +kernel
theorem dX6_isBetter_7 : decode cX6_isBetter 7 = .ok (.iload_n 1, 1) := by decide +kernel
theorem dX6_isBetter_8 : decode cX6_isBetter 8 = .ok (.ifCond .ne 14, 3) := by decide +kernel
theorem dX6_isBetter_11 : decode cX6_isBetter 11 = .ok (.iload_n 2, 1) := by decide +kernel
theorem dX6_isBetter_12 : decode cX6_isBetter 12 = .ok (.aload_n 0, 1) := by decide +kernel
theorem dX6_isBetter_13 : decode cX6_isBetter 13 = .ok (.getfield 19, 3) := by decide +kernel
theorem dX6_isBetter_16 : decode cX6_isBetter 16 = .ok (.if_icmp .ge 18, 3) := by decide +kernel
theorem dX6_isBetter_19 : decode cX6_isBetter 19 = .ok (.goto 11, 3) := by decide +kernel
theorem dX6_isBetter_22 : decode cX6_isBetter 22 = .ok (.iload_n 3, 1) := by decide +kernel
theorem dX6_isBetter_23 : decode cX6_isBetter 23 = .ok (.aload_n 0, 1) := by decide +kernel
theorem dX6_isBetter_24 : decode cX6_isBetter 24 = .ok (.getfield 23, 3) := by decide +kernel
theorem dX6_isBetter_27 : decode cX6_isBetter 27 = .ok (.if_icmp .ge 7, 3) := by decide +kernel
theorem dX6_isBetter_30 : decode cX6_isBetter 30 = .ok (.iconst 1, 1) := by decide +kernel
theorem dX6_isBetter_31 : decode cX6_isBetter 31 = .ok (.goto 4, 3) := by decide +kernel
theorem dX6_isBetter_34 : decode cX6_isBetter 34 = .ok (.iconst 0, 1) := by decide +kernel
theorem dX6_isBetter_35 : decode cX6_isBetter 35 = .ok (.ireturn, 1) := by decide +kernel
theorem dX6_keep_0 : decode cX6_keep 0 = .ok (.aload_n 0, 1) := by decide +kernel
theorem dX6_keep_1 : decode cX6_keep 1 = .ok (.iconst 1, 1) := by decide +kernel
theorem dX6_keep_2 : decode cX6_keep 2 = .ok (.putfield 15, 3) := by decide +kernel
theorem dX6_keep_5 : decode cX6_keep 5 = .ok (.aload_n 0, 1) := by decide +kernel
theorem dX6_keep_6 : decode cX6_keep 6 = .ok (.iload_n 1, 1) := by decide +kernel
theorem dX6_keep_7 : decode cX6_keep 7 = .ok (.putfield 19, 3) := by decide +kernel
theorem dX6_keep_10 : decode cX6_keep 10 = .ok (.aload_n 0, 1) := by decide +kernel
theorem dX6_keep_11 : decode cX6_keep 11 = .ok (.iload_n 2, 1) := by decide +kernel
theorem dX6_keep_12 : decode cX6_keep 12 = .ok (.putfield 23, 3) := by decide +kernel
theorem dX6_keep_15 : decode cX6_keep 15 = .ok (.aload_n 0, 1) := by decide +kernel
theorem dX6_keep_16 : decode cX6_keep 16 = .ok (.getfield 26, 3) := by decide +kernel
theorem dX6_keep_19 : decode cX6_keep 19 = .ok (.iconst 0, 1) := by decide +kernel
theorem dX6_keep_20 : decode cX6_keep 20 = .ok (.aload_n 0, 1) := by decide +kernel
theorem dX6_keep_21 : decode cX6_keep 21 = .ok (.getfield 9, 3) := by decide +kernel
theorem dX6_keep_24 : decode cX6_keep 24 = .ok (.iconst 0, 1) := by decide +kernel
theorem dX6_keep_25 : decode cX6_keep 25 = .ok (.aload_n 0, 1) := by decide +kernel
theorem dX6_keep_26 : decode cX6_keep 26 = .ok (.getfield 26, 3) := by decide +kernel
theorem dX6_keep_29 : decode cX6_keep 29 = .ok (.arraylength, 1) := by decide +kernel
theorem dX6_keep_30 : decode cX6_keep 30 = .ok (.invokestatic 64, 3) := by decide +kernel
theorem dX6_keep_33 : decode cX6_keep 33 = .ok (.return_, 1) := by decide +kernel
theorem dX7_init_0 : decode cX7_init 0 = .ok (.aload_n 0, 1) := by decide +kernel
theorem dX7_init_1 : decode cX7_init 1 = .ok (.invokespecial 1, 3) := by decide +kernel
theorem dX7_init_4 : decode cX7_init 4 = .ok (.aload_n 0, 1) := by decide +kernel
theorem dX7_init_5 : decode cX7_init 5 = .ok (.new 7, 3) := by decide +kernel
theorem dX7_init_8 : decode cX7_init 8 = .ok (.dup, 1) := by decide +kernel
theorem dX7_init_9 : decode cX7_init 9 = .ok (.invokespecial 9, 3) := by decide +kernel
theorem dX7_init_12 : decode cX7_init 12 = .ok (.putfield 10, 3) := by decide +kernel
theorem dX7_init_15 : decode cX7_init 15 = .ok (.aload_n 0, 1) := by decide +kernel
theorem dX7_init_16 : decode cX7_init 16 = .ok (.bipush 6, 2) := by decide +kernel
theorem dX7_init_18 : decode cX7_init 18 = .ok (.anewarray 16, 3) := by decide +kernel
theorem dX7_init_21 : decode cX7_init 21 = .ok (.putfield 18, 3) := by decide +kernel
theorem dX7_init_24 : decode cX7_init 24 = .ok (.aload_n 0, 1) := by decide +kernel
theorem dX7_init_25 : decode cX7_init 25 = .ok (.iconst 1, 1) := by decide +kernel
theorem dX7_init_26 : decode cX7_init 26 = .ok (.putfield 22, 3) := by decide +kernel
theorem dX7_init_29 : decode cX7_init 29 = .ok (.aload_n 0, 1) := by decide +kernel
theorem dX7_init_30 : decode cX7_init 30 = .ok (.iconst 0, 1) := by decide +kernel
theorem dX7_init_31 : decode cX7_init 31 = .ok (.putfield 26, 3) := by decide +kernel
theorem dX7_init_34 : decode cX7_init 34 = .ok (.aload_n 0, 1) := by decide +kernel
theorem dX7_init_35 : decode cX7_init 35 = .ok (.new 30, 3) := by decide +kernel
theorem dX7_init_38 : decode cX7_init 38 = .ok (.dup, 1) := by decide +kernel
theorem dX7_init_39 : decode cX7_init 39 = .ok (.invokespecial 32, 3) := by decide +kernel
theorem dX7_init_42 : decode cX7_init 42 = .ok (.putfield 33, 3) := by decide +kernel
theorem dX7_init_45 : decode cX7_init 45 = .ok (.aload_n 0, 1) := by decide +kernel
theorem dX7_init_46 : decode cX7_init 46 = .ok (.new 37, 3) := by decide +kernel
theorem dX7_init_49 : decode cX7_init 49 = .ok (.dup, 1) := by decide +kernel
theorem dX7_init_50 : decode cX7_init 50 = .ok (.invokespecial 39, 3) := by decide +kernel
theorem dX7_init_53 : decode cX7_init 53 = .ok (.putfield 40, 3) := by decide +kernel
theorem dX7_init_56 : decode cX7_init 56 = .ok (.aload_n 0, 1) := by decide +kernel
theorem dX7_init_57 : decode cX7_init 57 = .ok (.iconst 4, 1) := by decide +kernel
theorem dX7_init_58 : decode cX7_init 58 = .ok (.anewarray 44, 3) := by decide +kernel
theorem dX7_init_61 : decode cX7_init 61 = .ok (.putfield 46, 3) := by decide +kernel
theorem dX7_init_64 : decode cX7_init 64 = .ok (.iconst 0, 1) := by decide +kernel
theorem dX7_init_65 : decode cX7_init 65 = .ok (.istore_n 1, 1) := by decide +kernel
theorem dX7_init_66 : decode cX7_init 66 = .ok (.iload_n 1, 1) := by decide +kernel
theorem dX7_init_67 : decode cX7_init 67 = .ok (.bipush 6, 2) := by decide +kernel
theorem dX7_init_69 : decode cX7_init 69 = .ok (.if_icmp .ge 23, 3) := by decide +kernel
theorem dX7_init_72 : decode cX7_init 72 = .ok (.aload_n 0, 1) := by decide +kernel
theorem dX7_init_73 : decode cX7_init 73 = .ok (.getfield 18, 3) := by decide +kernel
theorem dX7_init_76 : decode cX7_init 76 = .ok (.iload_n 1, 1) := by decide +kernel
theorem dX7_init_77 : decode cX7_init 77 = .ok (.new 16, 3) := by decide +kernel
theorem dX7_init_80 : decode cX7_init 80 = .ok (.dup, 1) := by decide +kernel
theorem dX7_init_81 : decode cX7_init 81 = .ok (.iload_n 1, 1) := by decide +kernel
theorem dX7_init_82 : decode cX7_init 82 = .ok (.invokespecial 50, 3) := by decide +kernel
theorem dX7_init_85 : decode cX7_init 85 = .ok (.aastore, 1) := by decide +kernel
theorem dX7_init_86 : decode cX7_init 86 = .ok (.iinc 1 1, 3) := by decide +kernel
theorem dX7_init_89 : decode cX7_init 89 = .ok (.goto (-23), 3) := by decide +kernel
theorem dX7_init_92 : decode cX7_init 92 = .ok (.iconst 0, 1) := by decide +kernel
theorem dX7_init_93 : decode cX7_init 93 = .ok (.istore_n 1, 1) := by decide +kernel
theorem dX7_init_94 : decode cX7_init 94 = .ok (.iload_n 1, 1) := by decide +kernel
theorem dX7_init_95 : decode cX7_init 95 = .ok (.iconst 4, 1) := by decide +kernel
theorem dX7_init_96 : decode cX7_init 96 = .ok (.if_icmp .ge 22, 3) := by decide +kernel
theorem dX7_init_99 : decode cX7_init 99 = .ok (.aload_n 0, 1) := by decide +kernel
theorem dX7_init_100 : decode cX7_init 100 = .ok (.getfield 46, 3) := by decide +kernel
theorem dX7_init_103 : decode cX7_init 103 = .ok (.iload_n 1, 1) := by decide +kernel
theorem dX7_init_104 : decode cX7_init 104 = .ok (.new 44, 3) := by decide +kernel
theorem dX7_init_107 : decode cX7_init 107 = .ok (.dup, 1) := by decide +kernel
theorem dX7_init_108 : decode cX7_init 108 = .ok (.invokespecial 53, 3) := by decide +kernel
theorem dX7_init_111 : decode cX7_init 111 = .ok (.aastore, 1) := by decide +kernel
theorem dX7_init_112 : decode cX7_init 112 = .ok (.iinc 1 1, 3) := by decide +kernel
theorem dX7_init_115 : decode cX7_init 115 = .ok (.goto (-21), 3) := by decide +kernel
theorem dX7_init_118 : decode cX7_init 118 = .ok (.iconst 0, 1) := by decide +kernel
theorem dX7_init_119 : decode cX7_init 119 = .ok (.istore_n 1, 1) := by decide +kernel
theorem dX7_init_120 : decode cX7_init 120 = .ok (.iload_n 1, 1) := by decide +kernel
theorem dX7_init_121 : decode cX7_init 121 = .ok (.ldc 54, 2) := by decide +kernel
theorem dX7_init_123 : decode cX7_init 123 = .ok (.invokevirtual 56, 3) := by decide +kernel
theorem dX7_init_126 : decode cX7_init 126 = .ok (.if_icmp .ge 23, 3) := by decide +kernel
theorem dX7_init_129 : decode cX7_init 129 = .ok (.aload_n 0, 1) := by decide +kernel
theorem dX7_init_130 : decode cX7_init 130 = .ok (.getfield 10, 3) := by decide +kernel
theorem dX7_init_133 : decode cX7_init 133 = .ok (.ldc 54, 2) := by decide +kernel
theorem dX7_init_135 : decode cX7_init 135 = .ok (.iload_n 1, 1) := by decide +kernel
theorem dX7_init_136 : decode cX7_init 136 = .ok (.invokevirtual 62, 3) := by decide +kernel
theorem dX7_init_139 : decode cX7_init 139 = .ok (.invokevirtual 66, 3) := by decide +kernel
theorem dX7_init_142 : decode cX7_init 142 = .ok (.pop, 1) := by decide +kernel
theorem dX7_init_143 : decode cX7_init 143 = .ok (.iinc 1 1, 3) := by decide +kernel
theorem dX7_init_146 : decode cX7_init 146 = .ok (.goto (-26), 3) := by decide +kernel
theorem dX7_init_149 : decode cX7_init 149 = .ok (.aload_n 0, 1) := by decide +kernel
theorem dX7_init_150 : decode cX7_init 150 = .ok (.getfield 10, 3) := by decide +kernel
theorem dX7_init_153 : decode cX7_init 153 = .ok (.invokevirtual 70, 3) := by decide +kernel
theorem dX7_init_156 : decode cX7_init 156 = .ok (.pop, 1) := by decide +kernel
theorem dX7_init_157 : decode cX7_init 157 = .ok (.aload_n 0, 1) := by decide +kernel
theorem dX7_init_158 : decode cX7_init 158 = .ok (.getfield 18, 3) := by decide +kernel
theorem dX7_init_161 : decode cX7_init 161 = .ok (.iconst 0, 1) := by decide +kernel
theorem dX7_init_162 : decode cX7_init 162 = .ok (.aaload, 1) := by decide +kernel
theorem dX7_init_163 : decode cX7_init 163 = .ok (.aload_n 0, 1) := by decide +kernel
theorem dX7_init_164 : decode cX7_init 164 = .ok (.getfield 10, 3) := by decide +kernel
theorem dX7_init_167 : decode cX7_init 167 = .ok (.getfield 73, 3) := by decide +kernel
theorem dX7_init_170 : decode cX7_init 170 = .ok (.aload_n 0, 1) := by decide +kernel
theorem dX7_init_171 : decode cX7_init 171 = .ok (.getfield 10, 3) := by decide +kernel
theorem dX7_init_174 : decode cX7_init 174 = .ok (.getfield 77, 3) := by decide +kernel
theorem dX7_init_177 : decode cX7_init 177 = .ok (.invokevirtual 80, 3) := by decide +kernel
theorem dX7_init_180 : decode cX7_init 180 = .ok (.aload_n 0, 1) := by decide +kernel
theorem dX7_init_181 : decode cX7_init 181 = .ok (.getfield 10, 3) := by decide +kernel
theorem dX7_init_184 : decode cX7_init 184 = .ok (.iconst 0, 1) := by decide +kernel
theorem dX7_init_185 : decode cX7_init 185 = .ok (.putfield 84, 3) := by decide +kernel
theorem dX7_init_188 : decode cX7_init 188 = .ok (.aload_n 0, 1) := by decide +kernel
theorem dX7_init_189 : decode cX7_init 189 = .ok (.new 87, 3) := by decide +kernel
theorem dX7_init_192 : decode cX7_init 192 = .ok (.dup, 1) := by decide +kernel
theorem dX7_init_193 : decode cX7_init 193 = .ok (.aload_n 0, 1) := by decide +kernel
theorem dX7_init_194 : decode cX7_init 194 = .ok (.getfield 18, 3) := by decide +kernel
theorem dX7_init_197 : decode cX7_init 197 = .ok (.iconst 0, 1) := by decide +kernel
theorem dX7_init_198 : decode cX7_init 198 = .ok (.aaload, 1) := by decide +kernel
theorem dX7_init_199 : decode cX7_init 199 = .ok (.invokespecial 89, 3) := by decide +kernel
theorem dX7_init_202 : decode cX7_init 202 = .ok (.putfield 92, 3) := by decide +kernel
theorem dX7_init_205 : decode cX7_init 205 = .ok (.aload_n 0, 1) := by decide +kernel
theorem dX7_init_206 : decode cX7_init 206 = .ok (.new 87, 3) := by decide +kernel
theorem dX7_init_209 : decode cX7_init 209 = .ok (.dup, 1) := by decide +kernel
theorem dX7_init_210 : decode cX7_init 210 = .ok (.aload_n 0, 1) := by decide +kernel
theorem dX7_init_211 : decode cX7_init 211 = .ok (.getfield 18, 3) := by decide +kernel
theorem dX7_init_214 : decode cX7_init 214 = .ok (.iconst 0, 1) := by decide +kernel
theorem dX7_init_215 : decode cX7_init 215 = .ok (.aaload, 1) := by decide +kernel
theorem dX7_init_216 : decode cX7_init 216 = .ok (.invokespecial 89, 3) := by decide +kernel
theorem dX7_init_219 : decode cX7_init 219 = .ok (.putfield 96, 3) := by decide +kernel
theorem dX7_init_222 : decode cX7_init 222 = .ok (.aload_n 0, 1) := by decide +kernel
theorem dX7_init_223 : decode cX7_init 223 = .ok (.new 87, 3) := by decide +kernel
theorem dX7_init_226 : decode cX7_init 226 = .ok (.dup, 1) := by decide +kernel
theorem dX7_init_227 : decode cX7_init 227 = .ok (.aload_n 0, 1) := by decide +kernel
theorem dX7_init_228 : decode cX7_init 228 = .ok (.getfield 18, 3) := by decide +kernel
theorem dX7_init_231 : decode cX7_init 231 = .ok (.iconst 0, 1) := by decide +kernel
theorem dX7_init_232 : decode cX7_init 232 = .ok (.aaload, 1) := by decide +kernel
theorem dX7_init_233 : decode cX7_init 233 = .ok (.invokespecial 89, 3) := by decide +kernel
theorem dX7_init_236 : decode cX7_init 236 = .ok (.putfield 99, 3) := by decide +kernel
theorem dX7_init_239 : decode cX7_init 239 = .ok (.return_, 1) := by decide +kernel
theorem dX7_man_0 : decode cX7_man 0 = .ok (.iload_n 1, 1) := by decide +kernel
theorem dX7_man_1 : decode cX7_man 1 = .ok (.iconst 0, 1) := by decide +kernel
theorem dX7_man_2 : decode cX7_man 2 = .ok (.bipush 9, 2) := by decide +kernel
theorem dX7_man_4 : decode cX7_man 4 = .ok (.invokestatic 102, 3) := by decide +kernel
theorem dX7_man_7 : decode cX7_man 7 = .ok (.ifCond .ne 6, 3) := by decide +kernel
theorem dX7_man_10 : decode cX7_man 10 = .ok (.bipush (-2), 2) := by decide +kernel
theorem dX7_man_12 : decode cX7_man 12 = .ok (.ireturn, 1) := by decide +kernel
theorem dX7_man_13 : decode cX7_man 13 = .ok (.aload_n 0, 1) := by decide +kernel
theorem dX7_man_14 : decode cX7_man 14 = .ok (.getfield 92, 3) := by decide +kernel
theorem dX7_man_17 : decode cX7_man 17 = .ok (.getfield 106, 3) := by decide +kernel
theorem dX7_man_20 : decode cX7_man 20 = .ok (.iconst 4, 1) := by decide +kernel
theorem dX7_man_21 : decode cX7_man 21 = .ok (.if_icmp .lt 6, 3) := by decide +kernel
theorem dX7_man_24 : decode cX7_man 24 = .ok (.bipush (-4), 2) := by decide +kernel
theorem dX7_man_26 : decode cX7_man 26 = .ok (.ireturn, 1) := by decide +kernel
theorem dX7_man_27 : decode cX7_man 27 = .ok (.aload_n 0, 1) := by decide +kernel
theorem dX7_man_28 : decode cX7_man 28 = .ok (.getfield 92, 3) := by decide +kernel
theorem dX7_man_31 : decode cX7_man 31 = .ok (.getfield 109, 3) := by decide +kernel
theorem dX7_man_34 : decode cX7_man 34 = .ok (.aload_n 0, 1) := by decide +kernel
theorem dX7_man_35 : decode cX7_man 35 = .ok (.getfield 92, 3) := by decide +kernel
theorem dX7_man_38 : decode cX7_man 38 = .ok (.getfield 106, 3) := by decide +kernel
theorem dX7_man_41 : decode cX7_man 41 = .ok (.iload_n 1, 1) := by decide +kernel
theorem dX7_man_42 : decode cX7_man 42 = .ok (.iastore, 1) := by decide +kernel
theorem dX7_man_43 : decode cX7_man 43 = .ok (.aload_n 0, 1) := by decide +kernel
theorem dX7_man_44 : decode cX7_man 44 = .ok (.getfield 92, 3) := by decide +kernel
theorem dX7_man_47 : decode cX7_man 47 = .ok (.dup, 1) := by decide +kernel
theorem dX7_man_48 : decode cX7_man 48 = .ok (.getfield 106, 3) := by decide +kernel
theorem dX7_man_51 : decode cX7_man 51 = .ok (.iconst 1, 1) := by decide +kernel
theorem dX7_man_52 : decode cX7_man 52 = .ok (.iadd, 1) := by decide +kernel
theorem dX7_man_53 : decode cX7_man 53 = .ok (.putfield 106, 3) := by decide +kernel
theorem dX7_man_56 : decode cX7_man 56 = .ok (.aload_n 0, 1) := by decide +kernel
theorem dX7_man_57 : decode cX7_man 57 = .ok (.getfield 92, 3) := by decide +kernel
theorem dX7_man_60 : decode cX7_man 60 = .ok (.getfield 106, 3) := by decide +kernel
theorem dX7_man_63 : decode cX7_man 63 = .ok (.iconst 1, 1) := by decide +kernel
theorem dX7_man_64 : decode cX7_man 64 = .ok (.isub, 1) := by decide +kernel
theorem dX7_man_65 : decode cX7_man 65 = .ok (.ireturn, 1) := by decide +kernel
theorem dX7_maid_0 : decode cX7_maid 0 = .ok (.iload_n 1, 1) := by decide +kernel
theorem dX7_maid_1 : decode cX7_maid 1 = .ok (.iconst 0, 1) := by decide +kernel
theorem dX7_maid_2 : decode cX7_maid 2 = .ok (.iconst 5, 1) := by decide +kernel
theorem dX7_maid_3 : decode cX7_maid 3 = .ok (.invokestatic 102, 3) := by decide +kernel
theorem dX7_maid_6 : decode cX7_maid 6 = .ok (.ifCond .eq 13, 3) := by decide +kernel
theorem dX7_maid_9 : decode cX7_maid 9 = .ok (.iload_n 2, 1) := by decide +kernel
theorem dX7_maid_10 : decode cX7_maid 10 = .ok (.iconst 0, 1) := by decide +kernel
theorem dX7_maid_11 : decode cX7_maid 11 = .ok (.bipush 9, 2) := by decide +kernel
theorem dX7_maid_13 : decode cX7_maid 13 = .ok (.invokestatic 102, 3) := by decide +kernel
theorem dX7_maid_16 : decode cX7_maid 16 = .ok (.ifCond .ne 6, 3) := by decide +kernel
theorem dX7_maid_19 : decode cX7_maid 19 = .ok (.bipush (-2), 2) := by decide +kernel
theorem dX7_maid_21 : decode cX7_maid 21 = .ok (.ireturn, 1) := by decide +kernel
theorem dX7_maid_22 : decode cX7_maid 22 = .ok (.aload_n 0, 1) := by decide +kernel
theorem dX7_maid_23 : decode cX7_maid 23 = .ok (.getfield 92, 3) := by decide +kernel
theorem dX7_maid_26 : decode cX7_maid 26 = .ok (.getfield 114, 3) := by decide +kernel
theorem dX7_maid_29 : decode cX7_maid 29 = .ok (.iconst 4, 1) := by decide +kernel
theorem dX7_maid_30 : decode cX7_maid 30 = .ok (.if_icmp .lt 6, 3) := by decide +kernel
theorem dX7_maid_33 : decode cX7_maid 33 = .ok (.bipush (-4), 2) := by decide +kernel
theorem dX7_maid_35 : decode cX7_maid 35 = .ok (.ireturn, 1) := by decide +kernel
theorem dX7_maid_36 : decode cX7_maid 36 = .ok (.aload_n 0, 1) := by decide +kernel
theorem dX7_maid_37 : decode cX7_maid 37 = .ok (.getfield 92, 3) := by decide +kernel
theorem dX7_maid_40 : decode cX7_maid 40 = .ok (.getfield 117, 3) := by decide +kernel
theorem dX7_maid_43 : decode cX7_maid 43 = .ok (.aload_n 0, 1) := by decide +kernel
theorem dX7_maid_44 : decode cX7_maid 44 = .ok (.getfield 92, 3) := by decide +kernel
theorem dX7_maid_47 : decode cX7_maid 47 = .ok (.getfield 114, 3) := by decide +kernel
theorem dX7_maid_50 : decode cX7_maid 50 = .ok (.iload_n 1, 1) := by decide +kernel
theorem dX7_maid_51 : decode cX7_maid 51 = .ok (.iastore, 1) := by decide +kernel
theorem dX7_maid_52 : decode cX7_maid 52 = .ok (.aload_n 0, 1) := by decide +kernel
theorem dX7_maid_53 : decode cX7_maid 53 = .ok (.getfield 92, 3) := by decide +kernel
theorem dX7_maid_56 : decode cX7_maid 56 = .ok (.getfield 120, 3) := by decide +kernel
theorem dX7_maid_59 : decode cX7_maid 59 = .ok (.aload_n 0, 1) := by decide +kernel
theorem dX7_maid_60 : decode cX7_maid 60 = .ok (.getfield 92, 3) := by decide +kernel
theorem dX7_maid_63 : decode cX7_maid 63 = .ok (.getfield 114, 3) := by decide +kernel
theorem dX7_maid_66 : decode cX7_maid 66 = .ok (.iload_n 2, 1) := by decide +kernel
theorem dX7_maid_67 : decode cX7_maid 67 = .ok (.iastore, 1) := by decide +kernel
theorem dX7_maid_68 : decode cX7_maid 68 = .ok (.aload_n 0, 1) := by decide +kernel
theorem dX7_maid_69 : decode cX7_maid 69 = .ok (.getfield 92, 3) := by decide +kernel
theorem dX7_maid_72 : decode cX7_maid 72 = .ok (.dup, 1) := by decide +kernel
theorem dX7_maid_73 : decode cX7_maid 73 = .ok (.getfield 114, 3) := by decide +kernel
theorem dX7_maid_76 : decode cX7_maid 76 = .ok (.iconst 1, 1) := by decide +kernel
theorem dX7_maid_77 : decode cX7_maid 77 = .ok (.iadd, 1) := by decide +kernel
theorem dX7_maid_78 : decode cX7_maid 78 = .ok (.putfield 114, 3) := by decide +kernel
theorem dX7_maid_81 : decode cX7_maid 81 = .ok (.aload_n 0, 1) := by decide +kernel
theorem dX7_maid_82 : decode cX7_maid 82 = .ok (.getfield 92, 3) := by decide +kernel
theorem dX7_maid_85 : decode cX7_maid 85 = .ok (.getfield 114, 3) := by decide +kernel
theorem dX7_maid_88 : decode cX7_maid 88 = .ok (.iconst 1, 1) := by decide +kernel
theorem dX7_maid_89 : decode cX7_maid 89 = .ok (.isub, 1) := by decide +kernel
theorem dX7_maid_90 : decode cX7_maid 90 = .ok (.ireturn, 1) := by decide +kernel
theorem dX7_likes_0 : decode cX7_likes 0 = .ok (.aload_n 0, 1) := by decide +kernel
theorem dX7_likes_1 : decode cX7_likes 1 = .ok (.iload_n 1, 1) := by decide +kernel
theorem dX7_likes_2 : decode cX7_likes 2 = .ok (.iload_n 2, 1) := by decide +kernel
theorem dX7_likes_3 : decode cX7_likes 3 = .ok (.invokevirtual 123, 3) := by decide +kernel
theorem dX7_likes_6 : decode cX7_likes 6 = .ok (.ifCond .eq 23, 3) := by decide +kernel
theorem dX7_likes_9 : decode cX7_likes 9 = .ok (.iload_n 3, 1) := by decide +kernel
theorem dX7_likes_10 : decode cX7_likes 10 = .ok (.iconst 0, 1) := by decide +kernel
theorem dX7_likes_11 : decode cX7_likes 11 = .ok (.iconst 1, 1) := by decide +kernel
theorem dX7_likes_12 : decode cX7_likes 12 = .ok (.invokestatic 102, 3) := by decide +kernel
theorem dX7_likes_15 : decode cX7_likes 15 = .ok (.ifCond .eq 14, 3) := by decide +kernel
theorem dX7_likes_18 : decode cX7_likes 18 = .ok (.iload 4, 2) := by decide +kernel
theorem dX7_likes_20 : decode cX7_likes 20 = .ok (.iconst 0, 1) := by decide +kernel
theorem dX7_likes_21 : decode cX7_likes 21 = .ok (.bipush 99, 2) := by decide +kernel
theorem dX7_likes_23 : decode cX7_likes 23 = .ok (.invokestatic 102, 3) := by decide +kernel
theorem dX7_likes_26 : decode cX7_likes 26 = .ok (.ifCond .ne 6, 3) := by decide +kernel
theorem dX7_likes_29 : decode cX7_likes 29 = .ok (.bipush (-2), 2) := by decide +kernel
theorem dX7_likes_31 : decode cX7_likes 31 = .ok (.ireturn, 1) := by decide +kernel
theorem dX7_likes_32 : decode cX7_likes 32 = .ok (.iload_n 3, 1) := by decide +kernel
theorem dX7_likes_33 : decode cX7_likes 33 = .ok (.ifCond .ne 13, 3) := by decide +kernel
theorem dX7_likes_36 : decode cX7_likes 36 = .ok (.aload_n 0, 1) := by decide +kernel
theorem dX7_likes_37 : decode cX7_likes 37 = .ok (.getfield 92, 3) := by decide +kernel
theorem dX7_likes_40 : decode cX7_likes 40 = .ok (.getfield 127, 3) := by decide +kernel
theorem dX7_likes_43 : decode cX7_likes 43 = .ok (.goto 10, 3) := by decide +kernel
theorem dX7_likes_46 : decode cX7_likes 46 = .ok (.aload_n 0, 1) := by decide +kernel
theorem dX7_likes_47 : decode cX7_likes 47 = .ok (.getfield 92, 3) := by decide +kernel
theorem dX7_likes_50 : decode cX7_likes 50 = .ok (.getfield 130, 3) := by decide +kernel
theorem dX7_likes_53 : decode cX7_likes 53 = .ok (.iload_n 1, 1) := by decide +kernel
theorem dX7_likes_54 : decode cX7_likes 54 = .ok (.iload_n 2, 1) := by decide +kernel
theorem dX7_likes_55 : decode cX7_likes 55 = .ok (.invokestatic 133, 3) := by decide +kernel
theorem dX7_likes_58 : decode cX7_likes 58 = .ok (.iload 4, 2) := by decide +kernel
theorem dX7_likes_60 : decode cX7_likes 60 = .ok (.invokestatic 137, 3) := by decide +kernel
theorem dX7_likes_63 : decode cX7_likes 63 = .ok (.ireturn, 1) := by decide +kernel
theorem dX7_set_0 : decode cX7_set 0 = .ok (.iload_n 1, 1) := by decide +kernel
theorem dX7_set_1 : decode cX7_set 1 = .ok (.tableswitch 120 0 2 #[27, 63, 99], 27) := by decide +kernel
theorem dX7_set_28 : decode cX7_set 28 = .ok (.aload_n 0, 1) := by decide +kernel
theorem dX7_set_29 : decode cX7_set 29 = .ok (.iload_n 2, 1) := by decide +kernel
theorem dX7_set_30 : decode cX7_set 30 = .ok (.invokevirtual 141, 3) := by decide +kernel
theorem dX7_set_33 : decode cX7_set 33 = .ok (.ifCond .eq 28, 3) := by decide +kernel
theorem dX7_set_36 : decode cX7_set 36 = .ok (.iload_n 3, 1) := by decide +kernel
theorem dX7_set_37 : decode cX7_set 37 = .ok (.iconst 0, 1) := by decide +kernel
theorem dX7_set_38 : decode cX7_set 38 = .ok (.bipush 9, 2) := by decide +kernel
theorem dX7_set_40 : decode cX7_set 40 = .ok (.invokestatic 102, 3) := by decide +kernel
theorem dX7_set_43 : decode cX7_set 43 = .ok (.ifCond .eq 18, 3) := by decide +kernel
theorem dX7_set_46 : decode cX7_set 46 = .ok (.aload_n 0, 1) := by decide +kernel
theorem dX7_set_47 : decode cX7_set 47 = .ok (.getfield 92, 3) := by decide +kernel
theorem dX7_set_50 : decode cX7_set 50 = .ok (.getfield 109, 3) := by decide +kernel
theorem dX7_set_53 : decode cX7_set 53 = .ok (.iload_n 2, 1) := by decide +kernel
theorem dX7_set_54 : decode cX7_set 54 = .ok (.iload_n 3, 1) := by decide +kernel
theorem dX7_set_55 : decode cX7_set 55 = .ok (.invokestatic 137, 3) := by decide +kernel
theorem dX7_set_58 : decode cX7_set 58 = .ok (.goto 5, 3) := by decide +kernel
theorem dX7_set_61 : decode cX7_set 61 = .ok (.bipush (-2), 2) := by decide +kernel
theorem dX7_set_63 : decode cX7_set 63 = .ok (.ireturn, 1) := by decide +kernel
theorem dX7_set_64 : decode cX7_set 64 = .ok (.aload_n 0, 1) := by decide +kernel
theorem dX7_set_65 : decode cX7_set 65 = .ok (.iload_n 2, 1) := by decide +kernel
theorem dX7_set_66 : decode cX7_set 66 = .ok (.invokevirtual 144, 3) := by decide +kernel
theorem dX7_set_69 : decode cX7_set 69 = .ok (.ifCond .eq 28, 3) := by decide +kernel
theorem dX7_set_72 : decode cX7_set 72 = .ok (.iload_n 3, 1) := by decide +kernel
theorem dX7_set_73 : decode cX7_set 73 = .ok (.iconst 0, 1) := by decide +kernel
theorem dX7_set_74 : decode cX7_set 74 = .ok (.bipush 9, 2) := by decide +kernel
theorem dX7_set_76 : decode cX7_set 76 = .ok (.invokestatic 102, 3) := by decide +kernel
theorem dX7_set_79 : decode cX7_set 79 = .ok (.ifCond .eq 18, 3) := by decide +kernel
theorem dX7_set_82 : decode cX7_set 82 = .ok (.aload_n 0, 1) := by decide +kernel
theorem dX7_set_83 : decode cX7_set 83 = .ok (.getfield 92, 3) := by decide +kernel
theorem dX7_set_86 : decode cX7_set 86 = .ok (.getfield 120, 3) := by decide +kernel
theorem dX7_set_89 : decode cX7_set 89 = .ok (.iload_n 2, 1) := by decide +kernel
theorem dX7_set_90 : decode cX7_set 90 = .ok (.iload_n 3, 1) := by decide +kernel
theorem dX7_set_91 : decode cX7_set 91 = .ok (.invokestatic 137, 3) := by decide +kernel
theorem dX7_set_94 : decode cX7_set 94 = .ok (.goto 5, 3) := by decide +kernel
theorem dX7_set_97 : decode cX7_set 97 = .ok (.bipush (-2), 2) := by decide +kernel
theorem dX7_set_99 : decode cX7_set 99 = .ok (.ireturn, 1) := by decide +kernel
theorem dX7_set_100 : decode cX7_set 100 = .ok (.iload_n 3, 1) := by decide +kernel
theorem dX7_set_101 : decode cX7_set 101 = .ok (.iconst 0, 1) := by decide +kernel
theorem dX7_set_102 : decode cX7_set 102 = .ok (.bipush 99, 2) := by decide +kernel
theorem dX7_set_104 : decode cX7_set 104 = .ok (.invokestatic 102, 3) := by decide +kernel
theorem dX7_set_107 : decode cX7_set 107 = .ok (.ifCond .eq 11, 3) := by decide +kernel
theorem dX7_set_110 : decode cX7_set 110 = .ok (.aload_n 0, 1) := by decide +kernel
theorem dX7_set_111 : decode cX7_set 111 = .ok (.iload_n 3, 1) := by decide +kernel
theorem dX7_set_112 : decode cX7_set 112 = .ok (.invokevirtual 147, 3) := by decide +kernel
theorem dX7_set_115 : decode cX7_set 115 = .ok (.goto 5, 3) := by decide +kernel
theorem dX7_set_118 : decode cX7_set 118 = .ok (.bipush (-2), 2) := by decide +kernel
theorem dX7_set_120 : decode cX7_set 120 = .ok (.ireturn, 1) := by decide +kernel
theorem dX7_set_121 : decode cX7_set 121 = .ok (.bipush (-2), 2) := by decide +kernel
theorem dX7_set_123 : decode cX7_set 123 = .ok (.ireturn, 1) := by decide +kernel
theorem dX7_told_0 : decode cX7_told 0 = .ok (.aload_n 0, 1) := by decide +kernel
theorem dX7_told_1 : decode cX7_told 1 = .ok (.iload_n 1, 1) := by decide +kernel
theorem dX7_told_2 : decode cX7_told 2 = .ok (.iload_n 2, 1) := by decide +kernel
theorem dX7_told_3 : decode cX7_told 3 = .ok (.invokevirtual 123, 3) := by decide +kernel
theorem dX7_told_6 : decode cX7_told 6 = .ok (.ifCond .ne 6, 3) := by decide +kernel
theorem dX7_told_9 : decode cX7_told 9 = .ok (.bipush (-2), 2) := by decide +kernel
theorem dX7_told_11 : decode cX7_told 11 = .ok (.ireturn, 1) := by decide +kernel
theorem dX7_told_12 : decode cX7_told 12 = .ok (.iload_n 3, 1) := by decide +kernel
theorem dX7_told_13 : decode cX7_told 13 = .ok (.tableswitch 131 0 5 #[39, 53, 67, 85, 103, 113], 39) := by decide +kernel
theorem dX7_told_52 : decode cX7_told 52 = .ok (.aload_n 0, 1) := by decide +kernel
theorem dX7_told_53 : decode cX7_told 53 = .ok (.getfield 92, 3) := by decide +kernel
theorem dX7_told_56 : decode cX7_told 56 = .ok (.getfield 127, 3) := by decide +kernel
theorem dX7_told_59 : decode cX7_told 59 = .ok (.iload_n 1, 1) := by decide +kernel
theorem dX7_told_60 : decode cX7_told 60 = .ok (.iload_n 2, 1) := by decide +kernel
theorem dX7_told_61 : decode cX7_told 61 = .ok (.invokestatic 133, 3) := by decide +kernel
theorem dX7_told_64 : decode cX7_told 64 = .ok (.iaload, 1) := by decide +kernel
theorem dX7_told_65 : decode cX7_told 65 = .ok (.ireturn, 1) := by decide +kernel
theorem dX7_told_66 : decode cX7_told 66 = .ok (.aload_n 0, 1) := by decide +kernel
theorem dX7_told_67 : decode cX7_told 67 = .ok (.getfield 92, 3) := by decide +kernel
theorem dX7_told_70 : decode cX7_told 70 = .ok (.getfield 130, 3) := by decide +kernel
theorem dX7_told_73 : decode cX7_told 73 = .ok (.iload_n 1, 1) := by decide +kernel
theorem dX7_told_74 : decode cX7_told 74 = .ok (.iload_n 2, 1) := by decide +kernel
theorem dX7_told_75 : decode cX7_told 75 = .ok (.invokestatic 133, 3) := by decide +kernel
theorem dX7_told_78 : decode cX7_told 78 = .ok (.iaload, 1) := by decide +kernel
theorem dX7_told_79 : decode cX7_told 79 = .ok (.ireturn, 1) := by decide +kernel
theorem dX7_told_80 : decode cX7_told 80 = .ok (.aload_n 0, 1) := by decide +kernel
theorem dX7_told_81 : decode cX7_told 81 = .ok (.getfield 92, 3) := by decide +kernel
theorem dX7_told_84 : decode cX7_told 84 = .ok (.iload_n 1, 1) := by decide +kernel
theorem dX7_told_85 : decode cX7_told 85 = .ok (.iload_n 2, 1) := by decide +kernel
theorem dX7_told_86 : decode cX7_told 86 = .ok (.invokevirtual 151, 3) := by decide +kernel
theorem dX7_told_89 : decode cX7_told 89 = .ok (.ifCond .eq 7, 3) := by decide +kernel
theorem dX7_told_92 : decode cX7_told 92 = .ok (.iconst 1, 1) := by decide +kernel
theorem dX7_told_93 : decode cX7_told 93 = .ok (.goto 4, 3) := by decide +kernel
theorem dX7_told_96 : decode cX7_told 96 = .ok (.iconst 0, 1) := by decide +kernel
theorem dX7_told_97 : decode cX7_told 97 = .ok (.ireturn, 1) := by decide +kernel
theorem dX7_told_98 : decode cX7_told 98 = .ok (.aload_n 0, 1) := by decide +kernel
theorem dX7_told_99 : decode cX7_told 99 = .ok (.getfield 92, 3) := by decide +kernel
theorem dX7_told_102 : decode cX7_told 102 = .ok (.iload_n 1, 1) := by decide +kernel
theorem dX7_told_103 : decode cX7_told 103 = .ok (.iload_n 2, 1) := by decide +kernel
theorem dX7_told_104 : decode cX7_told 104 = .ok (.invokevirtual 154, 3) := by decide +kernel
theorem dX7_told_107 : decode cX7_told 107 = .ok (.ifCond .eq 7, 3) := by decide +kernel
theorem dX7_told_110 : decode cX7_told 110 = .ok (.iconst 1, 1) := by decide +kernel
theorem dX7_told_111 : decode cX7_told 111 = .ok (.goto 4, 3) := by decide +kernel
theorem dX7_told_114 : decode cX7_told 114 = .ok (.iconst 0, 1) := by decide +kernel
theorem dX7_told_115 : decode cX7_told 115 = .ok (.ireturn, 1) := by decide +kernel
theorem dX7_told_116 : decode cX7_told 116 = .ok (.aload_n 0, 1) := by decide +kernel
theorem dX7_told_117 : decode cX7_told 117 = .ok (.getfield 92, 3) := by decide +kernel
theorem dX7_told_120 : decode cX7_told 120 = .ok (.iload_n 1, 1) := by decide +kernel
theorem dX7_told_121 : decode cX7_told 121 = .ok (.iload_n 2, 1) := by decide +kernel
theorem dX7_told_122 : decode cX7_told 122 = .ok (.invokevirtual 157, 3) := by decide +kernel
theorem dX7_told_125 : decode cX7_told 125 = .ok (.ireturn, 1) := by decide +kernel
theorem dX7_told_126 : decode cX7_told 126 = .ok (.aload_n 0, 1) := by decide +kernel
theorem dX7_told_127 : decode cX7_told 127 = .ok (.getfield 92, 3) := by decide +kernel
theorem dX7_told_130 : decode cX7_told 130 = .ok (.iload_n 1, 1) := by decide +kernel
theorem dX7_told_131 : decode cX7_told 131 = .ok (.iload_n 2, 1) := by decide +kernel
theorem dX7_told_132 : decode cX7_told 132 = .ok (.invokevirtual 160, 3) := by decide +kernel
theorem dX7_told_135 : decode cX7_told 135 = .ok (.ifCond .eq 7, 3) := by decide +kernel
theorem dX7_told_138 : decode cX7_told 138 = .ok (.iconst 1, 1) := by decide +kernel
theorem dX7_told_139 : decode cX7_told 139 = .ok (.goto 4, 3) := by decide +kernel
theorem dX7_told_142 : decode cX7_told 142 = .ok (.iconst 0, 1) := by decide +kernel
theorem dX7_told_143 : decode cX7_told 143 = .ok (.ireturn, 1) := by decide +kernel
theorem dX7_told_144 : decode cX7_told 144 = .ok (.bipush (-2), 2) := by decide +kernel
theorem dX7_told_146 : decode cX7_told 146 = .ok (.ireturn, 1) := by decide +kernel
theorem dX7_of_0 : decode cX7_of 0 = .ok (.iload_n 2, 1) := by decide +kernel
theorem dX7_of_1 : decode cX7_of 1 = .ok (.iconst 0, 1) := by decide +kernel
theorem dX7_of_2 : decode cX7_of 2 = .ok (.iconst 4, 1) := by decide +kernel
theorem dX7_of_3 : decode cX7_of 3 = .ok (.invokestatic 102, 3) := by decide +kernel
theorem dX7_of_6 : decode cX7_of 6 = .ok (.ifCond .eq 23, 3) := by decide +kernel
theorem dX7_of_9 : decode cX7_of 9 = .ok (.aload_n 0, 1) := by decide +kernel
theorem dX7_of_10 : decode cX7_of 10 = .ok (.iload_n 1, 1) := by decide +kernel
theorem dX7_of_11 : decode cX7_of 11 = .ok (.invokevirtual 144, 3) := by decide +kernel
theorem dX7_of_14 : decode cX7_of 14 = .ok (.ifCond .eq 12, 3) := by decide +kernel
theorem dX7_of_17 : decode cX7_of 17 = .ok (.aload_n 0, 1) := by decide +kernel
theorem dX7_of_18 : decode cX7_of 18 = .ok (.iload_n 1, 1) := by decide +kernel
theorem dX7_of_19 : decode cX7_of 19 = .ok (.iload_n 2, 1) := by decide +kernel
theorem dX7_of_20 : decode cX7_of 20 = .ok (.invokevirtual 163, 3) := by decide +kernel
theorem dX7_of_23 : decode cX7_of 23 = .ok (.goto 5, 3) := by decide +kernel
theorem dX7_of_26 : decode cX7_of 26 = .ok (.bipush (-2), 2) := by decide +kernel
theorem dX7_of_28 : decode cX7_of 28 = .ok (.ireturn, 1) := by decide +kernel
theorem dX7_of_29 : decode cX7_of 29 = .ok (.iload_n 2, 1) := by decide +kernel
theorem dX7_of_30 : decode cX7_of 30 = .ok (.iconst 5, 1) := by decide +kernel
theorem dX7_of_31 : decode cX7_of 31 = .ok (.bipush 6, 2) := by decide +kernel
theorem dX7_of_33 : decode cX7_of 33 = .ok (.invokestatic 102, 3) := by decide +kernel
theorem dX7_of_36 : decode cX7_of 36 = .ok (.ifCond .eq 23, 3) := by decide +kernel
theorem dX7_of_39 : decode cX7_of 39 = .ok (.aload_n 0, 1) := by decide +kernel
theorem dX7_of_40 : decode cX7_of 40 = .ok (.iload_n 1, 1) := by decide +kernel
theorem dX7_of_41 : decode cX7_of 41 = .ok (.invokevirtual 141, 3) := by decide +kernel
theorem dX7_of_44 : decode cX7_of 44 = .ok (.ifCond .eq 12, 3) := by decide +kernel
theorem dX7_of_47 : decode cX7_of 47 = .ok (.aload_n 0, 1) := by decide +kernel
theorem dX7_of_48 : decode cX7_of 48 = .ok (.iload_n 1, 1) := by decide +kernel
theorem dX7_of_49 : decode cX7_of 49 = .ok (.iload_n 2, 1) := by decide +kernel
theorem dX7_of_50 : decode cX7_of 50 = .ok (.invokevirtual 166, 3) := by decide +kernel
theorem dX7_of_53 : decode cX7_of 53 = .ok (.goto 5, 3) := by decide +kernel
theorem dX7_of_56 : decode cX7_of 56 = .ok (.bipush (-2), 2) := by decide +kernel
theorem dX7_of_58 : decode cX7_of 58 = .ok (.ireturn, 1) := by decide +kernel
theorem dX7_of_59 : decode cX7_of 59 = .ok (.bipush (-2), 2) := by decide +kernel
theorem dX7_of_61 : decode cX7_of 61 = .ok (.ireturn, 1) := by decide +kernel
theorem dX7_ofMaid_0 : decode cX7_ofMaid 0 = .ok (.iload_n 2, 1) := by decide +kernel
theorem dX7_ofMaid_1 : decode cX7_ofMaid 1 = .ok (.tableswitch 95 0 3 #[31, 41, 51, 73], 31) := by decide +kernel
theorem dX7_ofMaid_32 : decode cX7_ofMaid 32 = .ok (.aload_n 0, 1) := by decide +kernel
theorem dX7_ofMaid_33 : decode cX7_ofMaid 33 = .ok (.getfield 92, 3) := by decide +kernel
theorem dX7_ofMaid_36 : decode cX7_ofMaid 36 = .ok (.getfield 117, 3) := by decide +kernel
theorem dX7_ofMaid_39 : decode cX7_ofMaid 39 = .ok (.iload_n 1, 1) := by decide +kernel
theorem dX7_ofMaid_40 : decode cX7_ofMaid 40 = .ok (.iaload, 1) := by decide +kernel
theorem dX7_ofMaid_41 : decode cX7_ofMaid 41 = .ok (.ireturn, 1) := by decide +kernel
theorem dX7_ofMaid_42 : decode cX7_ofMaid 42 = .ok (.aload_n 0, 1) := by decide +kernel
theorem dX7_ofMaid_43 : decode cX7_ofMaid 43 = .ok (.getfield 92, 3) := by decide +kernel
theorem dX7_ofMaid_46 : decode cX7_ofMaid 46 = .ok (.getfield 120, 3) := by decide +kernel
theorem dX7_ofMaid_49 : decode cX7_ofMaid 49 = .ok (.iload_n 1, 1) := by decide +kernel
theorem dX7_ofMaid_50 : decode cX7_ofMaid 50 = .ok (.iaload, 1) := by decide +kernel
theorem dX7_ofMaid_51 : decode cX7_ofMaid 51 = .ok (.ireturn, 1) := by decide +kernel
theorem dX7_ofMaid_52 : decode cX7_ofMaid 52 = .ok (.aload_n 0, 1) := by decide +kernel
theorem dX7_ofMaid_53 : decode cX7_ofMaid 53 = .ok (.getfield 92, 3) := by decide +kernel
theorem dX7_ofMaid_56 : decode cX7_ofMaid 56 = .ok (.getfield 117, 3) := by decide +kernel
theorem dX7_ofMaid_59 : decode cX7_ofMaid 59 = .ok (.iload_n 1, 1) := by decide +kernel
theorem dX7_ofMaid_60 : decode cX7_ofMaid 60 = .ok (.iaload, 1) := by decide +kernel
theorem dX7_ofMaid_61 : decode cX7_ofMaid 61 = .ok (.aload_n 0, 1) := by decide +kernel
theorem dX7_ofMaid_62 : decode cX7_ofMaid 62 = .ok (.getfield 92, 3) := by decide +kernel
theorem dX7_ofMaid_65 : decode cX7_ofMaid 65 = .ok (.getfield 120, 3) := by decide +kernel
theorem dX7_ofMaid_68 : decode cX7_ofMaid 68 = .ok (.iload_n 1, 1) := by decide +kernel
theorem dX7_ofMaid_69 : decode cX7_ofMaid 69 = .ok (.iaload, 1) := by decide +kernel
theorem dX7_ofMaid_70 : decode cX7_ofMaid 70 = .ok (.invokestatic 169, 3) := by decide +kernel
theorem dX7_ofMaid_73 : decode cX7_ofMaid 73 = .ok (.ireturn, 1) := by decide +kernel
theorem dX7_ofMaid_74 : decode cX7_ofMaid 74 = .ok (.aload_n 0, 1) := by decide +kernel
theorem dX7_ofMaid_75 : decode cX7_ofMaid 75 = .ok (.getfield 92, 3) := by decide +kernel
theorem dX7_ofMaid_78 : decode cX7_ofMaid 78 = .ok (.getfield 117, 3) := by decide +kernel
theorem dX7_ofMaid_81 : decode cX7_ofMaid 81 = .ok (.iload_n 1, 1) := by decide +kernel
theorem dX7_ofMaid_82 : decode cX7_ofMaid 82 = .ok (.iaload, 1) := by decide +kernel
theorem dX7_ofMaid_83 : decode cX7_ofMaid 83 = .ok (.aload_n 0, 1) := by decide +kernel
theorem dX7_ofMaid_84 : decode cX7_ofMaid 84 = .ok (.getfield 92, 3) := by decide +kernel
theorem dX7_ofMaid_87 : decode cX7_ofMaid 87 = .ok (.getfield 120, 3) := by decide +kernel
theorem dX7_ofMaid_90 : decode cX7_ofMaid 90 = .ok (.iload_n 1, 1) := by decide +kernel
theorem dX7_ofMaid_91 : decode cX7_ofMaid 91 = .ok (.iaload, 1) := by decide +kernel
theorem dX7_ofMaid_92 : decode cX7_ofMaid 92 = .ok (.invokestatic 172, 3) := by decide +kernel
theorem dX7_ofMaid_95 : decode cX7_ofMaid 95 = .ok (.ireturn, 1) := by decide +kernel
theorem dX7_ofMaid_96 : decode cX7_ofMaid 96 = .ok (.aload_n 0, 1) := by decide +kernel
theorem dX7_ofMaid_97 : decode cX7_ofMaid 97 = .ok (.getfield 92, 3) := by decide +kernel
theorem dX7_ofMaid_100 : decode cX7_ofMaid 100 = .ok (.iload_n 1, 1) := by decide +kernel
theorem dX7_ofMaid_101 : decode cX7_ofMaid 101 = .ok (.invokevirtual 175, 3) := by decide +kernel
theorem dX7_ofMaid_104 : decode cX7_ofMaid 104 = .ok (.ireturn, 1) := by decide +kernel
theorem dX7_ofMan_0 : decode cX7_ofMan 0 = .ok (.iload_n 2, 1) := by decide +kernel
theorem dX7_ofMan_1 : decode cX7_ofMan 1 = .ok (.iconst 5, 1) := by decide +kernel
theorem dX7_ofMan_2 : decode cX7_ofMan 2 = .ok (.if_icmp .ne 15, 3) := by decide +kernel
theorem dX7_ofMan_5 : decode cX7_ofMan 5 = .ok (.aload_n 0, 1) := by decide +kernel
theorem dX7_ofMan_6 : decode cX7_ofMan 6 = .ok (.getfield 92, 3) := by decide +kernel
theorem dX7_ofMan_9 : decode cX7_ofMan 9 = .ok (.getfield 109, 3) := by decide +kernel
theorem dX7_ofMan_12 : decode cX7_ofMan 12 = .ok (.iload_n 1, 1) := by decide +kernel
theorem dX7_ofMan_13 : decode cX7_ofMan 13 = .ok (.iaload, 1) := by decide +kernel
theorem dX7_ofMan_14 : decode cX7_ofMan 14 = .ok (.goto 12, 3) := by decide +kernel
theorem dX7_ofMan_17 : decode cX7_ofMan 17 = .ok (.aload_n 0, 1) := by decide +kernel
theorem dX7_ofMan_18 : decode cX7_ofMan 18 = .ok (.getfield 92, 3) := by decide +kernel
theorem dX7_ofMan_21 : decode cX7_ofMan 21 = .ok (.getfield 178, 3) := by decide +kernel
theorem dX7_ofMan_24 : decode cX7_ofMan 24 = .ok (.iload_n 1, 1) := by decide +kernel
theorem dX7_ofMan_25 : decode cX7_ofMan 25 = .ok (.iaload, 1) := by decide +kernel
theorem dX7_ofMan_26 : decode cX7_ofMan 26 = .ok (.ireturn, 1) := by decide +kernel
theorem dX7_feed_0 : decode cX7_feed 0 = .ok (.iload_n 1, 1) := by decide +kernel
theorem dX7_feed_1 : decode cX7_feed 1 = .ok (.iconst 0, 1) := by decide +kernel
theorem dX7_feed_2 : decode cX7_feed 2 = .ok (.sipush 255, 3) := by decide +kernel
theorem dX7_feed_5 : decode cX7_feed 5 = .ok (.invokestatic 102, 3) := by decide +kernel
theorem dX7_feed_8 : decode cX7_feed 8 = .ok (.ifCond .ne 6, 3) := by decide +kernel
theorem dX7_feed_11 : decode cX7_feed 11 = .ok (.bipush (-2), 2) := by decide +kernel
theorem dX7_feed_13 : decode cX7_feed 13 = .ok (.ireturn, 1) := by decide +kernel
theorem dX7_feed_14 : decode cX7_feed 14 = .ok (.aload_n 0, 1) := by decide +kernel
theorem dX7_feed_15 : decode cX7_feed 15 = .ok (.getfield 10, 3) := by decide +kernel
theorem dX7_feed_18 : decode cX7_feed 18 = .ok (.iload_n 1, 1) := by decide +kernel
theorem dX7_feed_19 : decode cX7_feed 19 = .ok (.invokevirtual 66, 3) := by decide +kernel
theorem dX7_feed_22 : decode cX7_feed 22 = .ok (.ifCond .eq 13, 3) := by decide +kernel
theorem dX7_feed_25 : decode cX7_feed 25 = .ok (.aload_n 0, 1) := by decide +kernel
theorem dX7_feed_26 : decode cX7_feed 26 = .ok (.getfield 10, 3) := by decide +kernel
theorem dX7_feed_29 : decode cX7_feed 29 = .ok (.getfield 84, 3) := by decide +kernel
theorem dX7_feed_32 : decode cX7_feed 32 = .ok (.goto 5, 3) := by decide +kernel
theorem dX7_feed_35 : decode cX7_feed 35 = .ok (.bipush (-4), 2) := by decide +kernel
theorem dX7_feed_37 : decode cX7_feed 37 = .ok (.ireturn, 1) := by decide +kernel
theorem dX7_text_0 : decode cX7_text 0 = .ok (.aload_n 0, 1) := by decide +kernel
theorem dX7_text_1 : decode cX7_text 1 = .ok (.getfield 22, 3) := by decide +kernel
theorem dX7_text_4 : decode cX7_text 4 = .ok (.bipush 6, 2) := by decide +kernel
theorem dX7_text_6 : decode cX7_text 6 = .ok (.if_icmp .lt 6, 3) := by decide +kernel
theorem dX7_text_9 : decode cX7_text 9 = .ok (.bipush (-4), 2) := by decide +kernel
theorem dX7_text_11 : decode cX7_text 11 = .ok (.ireturn, 1) := by decide +kernel
theorem dX7_text_12 : decode cX7_text 12 = .ok (.aload_n 0, 1) := by decide +kernel
theorem dX7_text_13 : decode cX7_text 13 = .ok (.getfield 10, 3) := by decide +kernel
theorem dX7_text_16 : decode cX7_text 16 = .ok (.invokevirtual 70, 3) := by decide +kernel
theorem dX7_text_19 : decode cX7_text 19 = .ok (.istore_n 1, 1) := by decide +kernel
theorem dX7_text_20 : decode cX7_text 20 = .ok (.aload_n 0, 1) := by decide +kernel
theorem dX7_text_21 : decode cX7_text 21 = .ok (.getfield 10, 3) := by decide +kernel
theorem dX7_text_24 : decode cX7_text 24 = .ok (.iconst 0, 1) := by decide +kernel
theorem dX7_text_25 : decode cX7_text 25 = .ok (.putfield 84, 3) := by decide +kernel
theorem dX7_text_28 : decode cX7_text 28 = .ok (.iload_n 1, 1) := by decide +kernel
theorem dX7_text_29 : decode cX7_text 29 = .ok (.iconst (-1), 1) := by decide +kernel
theorem dX7_text_30 : decode cX7_text 30 = .ok (.if_icmp .eq 8, 3) := by decide +kernel
theorem dX7_text_33 : decode cX7_text 33 = .ok (.bipush (-100), 2) := by decide +kernel
theorem dX7_text_35 : decode cX7_text 35 = .ok (.iload_n 1, 1) := by decide +kernel
theorem dX7_text_36 : decode cX7_text 36 = .ok (.isub, 1) := by decide +kernel
theorem dX7_text_37 : decode cX7_text 37 = .ok (.ireturn, 1) := by decide +kernel
theorem dX7_text_38 : decode cX7_text 38 = .ok (.aload_n 0, 1) := by decide +kernel
theorem dX7_text_39 : decode cX7_text 39 = .ok (.getfield 18, 3) := by decide +kernel
theorem dX7_text_42 : decode cX7_text 42 = .ok (.aload_n 0, 1) := by decide +kernel
theorem dX7_text_43 : decode cX7_text 43 = .ok (.getfield 22, 3) := by decide +kernel
theorem dX7_text_46 : decode cX7_text 46 = .ok (.aaload, 1) := by decide +kernel
theorem dX7_text_47 : decode cX7_text 47 = .ok (.aload_n 0, 1) := by decide +kernel
theorem dX7_text_48 : decode cX7_text 48 = .ok (.getfield 10, 3) := by decide +kernel
theorem dX7_text_51 : decode cX7_text 51 = .ok (.getfield 73, 3) := by decide +kernel
theorem dX7_text_54 : decode cX7_text 54 = .ok (.aload_n 0, 1) := by decide +kernel
theorem dX7_text_55 : decode cX7_text 55 = .ok (.getfield 10, 3) := by decide +kernel
theorem dX7_text_58 : decode cX7_text 58 = .ok (.getfield 77, 3) := by decide +kernel
theorem dX7_text_61 : decode cX7_text 61 = .ok (.invokevirtual 80, 3) := by decide +kernel
theorem dX7_text_64 : decode cX7_text 64 = .ok (.aload_n 0, 1) := by decide +kernel
theorem dX7_text_65 : decode cX7_text 65 = .ok (.dup, 1) := by decide +kernel
theorem dX7_text_66 : decode cX7_text 66 = .ok (.getfield 22, 3) := by decide +kernel
theorem dX7_text_69 : decode cX7_text 69 = .ok (.iconst 1, 1) := by decide +kernel
theorem dX7_text_70 : decode cX7_text 70 = .ok (.iadd, 1) := by decide +kernel
theorem dX7_text_71 : decode cX7_text 71 = .ok (.putfield 22, 3) := by decide +kernel
theorem dX7_text_74 : decode cX7_text 74 = .ok (.aload_n 0, 1) := by decide +kernel
theorem dX7_text_75 : decode cX7_text 75 = .ok (.getfield 22, 3) := by decide +kernel
theorem dX7_text_78 : decode cX7_text 78 = .ok (.iconst 1, 1) := by decide +kernel
theorem dX7_text_79 : decode cX7_text 79 = .ok (.isub, 1) := by decide +kernel
theorem dX7_text_80 : decode cX7_text 80 = .ok (.ireturn, 1) := by decide +kernel
theorem dX7_force_0 : decode cX7_force 0 = .ok (.iload_n 1, 1) := by decide +kernel
theorem dX7_force_1 : decode cX7_force 1 = .ok (.iconst 0, 1) := by decide +kernel
theorem dX7_force_2 : decode cX7_force 2 = .ok (.aload_n 0, 1) := by decide +kernel
theorem dX7_force_3 : decode cX7_force 3 = .ok (.getfield 22, 3) := by decide +kernel
theorem dX7_force_6 : decode cX7_force 6 = .ok (.iconst 1, 1) := by decide +kernel
theorem dX7_force_7 : decode cX7_force 7 = .ok (.isub, 1) := by decide +kernel
theorem dX7_force_8 : decode cX7_force 8 = .ok (.invokestatic 102, 3) := by decide +kernel
theorem dX7_force_11 : decode cX7_force 11 = .ok (.ifCond .ne 6, 3) := by decide +kernel
theorem dX7_force_14 : decode cX7_force 14 = .ok (.bipush (-2), 2) := by decide +kernel
theorem dX7_force_16 : decode cX7_force 16 = .ok (.ireturn, 1) := by decide +kernel
theorem dX7_force_17 : decode cX7_force 17 = .ok (.aload_n 0, 1) := by decide +kernel
theorem dX7_force_18 : decode cX7_force 18 = .ok (.getfield 92, 3) := by decide +kernel
theorem dX7_force_21 : decode cX7_force 21 = .ok (.getfield 181, 3) := by decide +kernel
theorem dX7_force_24 : decode cX7_force 24 = .ok (.getfield 185, 3) := by decide +kernel
theorem dX7_force_27 : decode cX7_force 27 = .ok (.istore_n 2, 1) := by decide +kernel
theorem dX7_force_28 : decode cX7_force 28 = .ok (.aload_n 0, 1) := by decide +kernel
theorem dX7_force_29 : decode cX7_force 29 = .ok (.getfield 92, 3) := by decide +kernel
theorem dX7_force_32 : decode cX7_force 32 = .ok (.aload_n 0, 1) := by decide +kernel
theorem dX7_force_33 : decode cX7_force 33 = .ok (.getfield 18, 3) := by decide +kernel
theorem dX7_force_36 : decode cX7_force 36 = .ok (.iload_n 1, 1) := by decide +kernel
theorem dX7_force_37 : decode cX7_force 37 = .ok (.aaload, 1) := by decide +kernel
theorem dX7_force_38 : decode cX7_force 38 = .ok (.putfield 181, 3) := by decide +kernel
theorem dX7_force_41 : decode cX7_force 41 = .ok (.iload_n 2, 1) := by decide +kernel
theorem dX7_force_42 : decode cX7_force 42 = .ok (.ireturn, 1) := by decide +kernel
theorem dX7_ask_0 : decode cX7_ask 0 = .ok (.aload_n 0, 1) := by decide +kernel
theorem dX7_ask_1 : decode cX7_ask 1 = .ok (.iload_n 1, 1) := by decide +kernel
theorem dX7_ask_2 : decode cX7_ask 2 = .ok (.iload_n 2, 1) := by decide +kernel
theorem dX7_ask_3 : decode cX7_ask 3 = .ok (.invokevirtual 123, 3) := by decide +kernel
theorem dX7_ask_6 : decode cX7_ask 6 = .ok (.ifCond .ne 6, 3) := by decide +kernel
theorem dX7_ask_9 : decode cX7_ask 9 = .ok (.bipush (-2), 2) := by decide +kernel
theorem dX7_ask_11 : decode cX7_ask 11 = .ok (.ireturn, 1) := by decide +kernel
theorem dX7_ask_12 : decode cX7_ask 12 = .ok (.aload_n 0, 1) := by decide +kernel
theorem dX7_ask_13 : decode cX7_ask 13 = .ok (.getfield 92, 3) := by decide +kernel
theorem dX7_ask_16 : decode cX7_ask 16 = .ok (.iload_n 1, 1) := by decide +kernel
theorem dX7_ask_17 : decode cX7_ask 17 = .ok (.iload_n 2, 1) := by decide +kernel
theorem dX7_ask_18 : decode cX7_ask 18 = .ok (.invokevirtual 151, 3) := by decide +kernel
theorem dX7_ask_21 : decode cX7_ask 21 = .ok (.ifCond .ne 6, 3) := by decide +kernel
theorem dX7_ask_24 : decode cX7_ask 24 = .ok (.bipush (-3), 2) := by decide +kernel
theorem dX7_ask_26 : decode cX7_ask 26 = .ok (.ireturn, 1) := by decide +kernel
theorem dX7_ask_27 : decode cX7_ask 27 = .ok (.aload_n 0, 1) := by decide +kernel
theorem dX7_ask_28 : decode cX7_ask 28 = .ok (.getfield 92, 3) := by decide +kernel
theorem dX7_ask_31 : decode cX7_ask 31 = .ok (.iload_n 1, 1) := by decide +kernel
theorem dX7_ask_32 : decode cX7_ask 32 = .ok (.iload_n 2, 1) := by decide +kernel
theorem dX7_ask_33 : decode cX7_ask 33 = .ok (.invokevirtual 187, 3) := by decide +kernel
theorem dX7_ask_36 : decode cX7_ask 36 = .ok (.ifCond .eq 7, 3) := by decide +kernel
theorem dX7_ask_39 : decode cX7_ask 39 = .ok (.iconst 1, 1) := by decide +kernel
theorem dX7_ask_40 : decode cX7_ask 40 = .ok (.goto 4, 3) := by decide +kernel
theorem dX7_ask_43 : decode cX7_ask 43 = .ok (.iconst 0, 1) := by decide +kernel
theorem dX7_ask_44 : decode cX7_ask 44 = .ok (.ireturn, 1) := by decide +kernel
theorem dX7_part_0 : decode cX7_part 0 = .ok (.aload_n 0, 1) := by decide +kernel
theorem dX7_part_1 : decode cX7_part 1 = .ok (.iload_n 1, 1) := by decide +kernel
theorem dX7_part_2 : decode cX7_part 2 = .ok (.invokevirtual 141, 3) := by decide +kernel
theorem dX7_part_5 : decode cX7_part 5 = .ok (.ifCond .ne 6, 3) := by decide +kernel
theorem dX7_part_8 : decode cX7_part 8 = .ok (.bipush (-2), 2) := by decide +kernel
theorem dX7_part_10 : decode cX7_part 10 = .ok (.ireturn, 1) := by decide +kernel
theorem dX7_part_11 : decode cX7_part 11 = .ok (.aload_n 0, 1) := by decide +kernel
theorem dX7_part_12 : decode cX7_part 12 = .ok (.getfield 92, 3) := by decide +kernel
theorem dX7_part_15 : decode cX7_part 15 = .ok (.getfield 178, 3) := by decide +kernel
theorem dX7_part_18 : decode cX7_part 18 = .ok (.iload_n 1, 1) := by decide +kernel
theorem dX7_part_19 : decode cX7_part 19 = .ok (.iaload, 1) := by decide +kernel
theorem dX7_part_20 : decode cX7_part 20 = .ok (.iconst (-1), 1) := by decide +kernel
theorem dX7_part_21 : decode cX7_part 21 = .ok (.if_icmp .ne 8, 3) := by decide +kernel
theorem dX7_part_24 : decode cX7_part 24 = .ok (.bipush (-3), 2) := by decide +kernel
theorem dX7_part_26 : decode cX7_part 26 = .ok (.goto 15, 3) := by decide +kernel
theorem dX7_part_29 : decode cX7_part 29 = .ok (.aload_n 0, 1) := by decide +kernel
theorem dX7_part_30 : decode cX7_part 30 = .ok (.getfield 92, 3) := by decide +kernel
theorem dX7_part_33 : decode cX7_part 33 = .ok (.getfield 178, 3) := by decide +kernel
theorem dX7_part_36 : decode cX7_part 36 = .ok (.iload_n 1, 1) := by decide +kernel
theorem dX7_part_37 : decode cX7_part 37 = .ok (.iconst (-1), 1) := by decide +kernel
theorem dX7_part_38 : decode cX7_part 38 = .ok (.invokestatic 137, 3) := by decide +kernel
theorem dX7_part_41 : decode cX7_part 41 = .ok (.ireturn, 1) := by decide +kernel
theorem dX7_way_0 : decode cX7_way 0 = .ok (.aload_n 0, 1) := by decide +kernel
theorem dX7_way_1 : decode cX7_way 1 = .ok (.iload_n 1, 1) := by decide +kernel
theorem dX7_way_2 : decode cX7_way 2 = .ok (.iload_n 2, 1) := by decide +kernel
theorem dX7_way_3 : decode cX7_way 3 = .ok (.invokevirtual 123, 3) := by decide +kernel
theorem dX7_way_6 : decode cX7_way 6 = .ok (.ifCond .eq 22, 3) := by decide +kernel
theorem dX7_way_9 : decode cX7_way 9 = .ok (.iload_n 3, 1) := by decide +kernel
theorem dX7_way_10 : decode cX7_way 10 = .ok (.iconst 0, 1) := by decide +kernel
theorem dX7_way_11 : decode cX7_way 11 = .ok (.iconst 1, 1) := by decide +kernel
theorem dX7_way_12 : decode cX7_way 12 = .ok (.invokestatic 102, 3) := by decide +kernel
theorem dX7_way_15 : decode cX7_way 15 = .ok (.ifCond .eq 13, 3) := by decide +kernel
theorem dX7_way_18 : decode cX7_way 18 = .ok (.iload 4, 2) := by decide +kernel
theorem dX7_way_20 : decode cX7_way 20 = .ok (.iconst 0, 1) := by decide +kernel
theorem dX7_way_21 : decode cX7_way 21 = .ok (.iconst 5, 1) := by decide +kernel
theorem dX7_way_22 : decode cX7_way 22 = .ok (.invokestatic 102, 3) := by decide +kernel
theorem dX7_way_25 : decode cX7_way 25 = .ok (.ifCond .ne 6, 3) := by decide +kernel
theorem dX7_way_28 : decode cX7_way 28 = .ok (.bipush (-2), 2) := by decide +kernel
theorem dX7_way_30 : decode cX7_way 30 = .ok (.ireturn, 1) := by decide +kernel
theorem dX7_way_31 : decode cX7_way 31 = .ok (.aload_n 0, 1) := by decide +kernel
theorem dX7_way_32 : decode cX7_way 32 = .ok (.getfield 96, 3) := by decide +kernel
theorem dX7_way_35 : decode cX7_way 35 = .ok (.aload_n 0, 1) := by decide +kernel
theorem dX7_way_36 : decode cX7_way 36 = .ok (.getfield 92, 3) := by decide +kernel
theorem dX7_way_39 : decode cX7_way 39 = .ok (.invokevirtual 190, 3) := by decide +kernel
theorem dX7_way_42 : decode cX7_way 42 = .ok (.aload_n 0, 1) := by decide +kernel
theorem dX7_way_43 : decode cX7_way 43 = .ok (.getfield 40, 3) := by decide +kernel
theorem dX7_way_46 : decode cX7_way 46 = .ok (.aload_n 0, 1) := by decide +kernel
theorem dX7_way_47 : decode cX7_way 47 = .ok (.getfield 96, 3) := by decide +kernel
theorem dX7_way_50 : decode cX7_way 50 = .ok (.iload_n 1, 1) := by decide +kernel
theorem dX7_way_51 : decode cX7_way 51 = .ok (.iload_n 2, 1) := by decide +kernel
theorem dX7_way_52 : decode cX7_way 52 = .ok (.iload_n 3, 1) := by decide +kernel
theorem dX7_way_53 : decode cX7_way 53 = .ok (.invokevirtual 194, 3) := by decide +kernel
theorem dX7_way_56 : decode cX7_way 56 = .ok (.aload_n 0, 1) := by decide +kernel
theorem dX7_way_57 : decode cX7_way 57 = .ok (.getfield 40, 3) := by decide +kernel
theorem dX7_way_60 : decode cX7_way 60 = .ok (.getfield 198, 3) := by decide +kernel
theorem dX7_way_63 : decode cX7_way 63 = .ok (.ifCond .ne 5, 3) := by decide +kernel
theorem dX7_way_66 : decode cX7_way 66 = .ok (.iconst (-1), 1) := by decide +kernel
theorem dX7_way_67 : decode cX7_way 67 = .ok (.ireturn, 1) := by decide +kernel
theorem dX7_way_68 : decode cX7_way 68 = .ok (.iload 4, 2) := by decide +kernel
theorem dX7_way_70 : decode cX7_way 70 = .ok (.lookupswitch 42 #[(0, 26), (1, 34)], 26) := by decide +kernel
theorem dX7_way_96 : decode cX7_way 96 = .ok (.aload_n 0, 1) := by decide +kernel
theorem dX7_way_97 : decode cX7_way 97 = .ok (.getfield 40, 3) := by decide +kernel
theorem dX7_way_100 : decode cX7_way 100 = .ok (.getfield 201, 3) := by decide +kernel
theorem dX7_way_103 : decode cX7_way 103 = .ok (.ireturn, 1) := by decide +kernel
theorem dX7_way_104 : decode cX7_way 104 = .ok (.aload_n 0, 1) := by decide +kernel
theorem dX7_way_105 : decode cX7_way 105 = .ok (.getfield 40, 3) := by decide +kernel
theorem dX7_way_108 : decode cX7_way 108 = .ok (.getfield 203, 3) := by decide +kernel
theorem dX7_way_111 : decode cX7_way 111 = .ok (.ireturn, 1) := by decide +kernel
theorem dX7_way_112 : decode cX7_way 112 = .ok (.iload 4, 2) := by decide +kernel
theorem dX7_way_114 : decode cX7_way 114 = .ok (.iconst 2, 1) := by decide +kernel
theorem dX7_way_115 : decode cX7_way 115 = .ok (.isub, 1) := by decide +kernel
theorem dX7_way_116 : decode cX7_way 116 = .ok (.aload_n 0, 1) := by decide +kernel
theorem dX7_way_117 : decode cX7_way 117 = .ok (.getfield 40, 3) := by decide +kernel
theorem dX7_way_120 : decode cX7_way 120 = .ok (.getfield 201, 3) := by decide +kernel
theorem dX7_way_123 : decode cX7_way 123 = .ok (.if_icmp .ge 18, 3) := by decide +kernel
theorem dX7_way_126 : decode cX7_way 126 = .ok (.aload_n 0, 1) := by decide +kernel
theorem dX7_way_127 : decode cX7_way 127 = .ok (.getfield 40, 3) := by decide +kernel
theorem dX7_way_130 : decode cX7_way 130 = .ok (.getfield 206, 3) := by decide +kernel
theorem dX7_way_133 : decode cX7_way 133 = .ok (.iload 4, 2) := by decide +kernel
theorem dX7_way_135 : decode cX7_way 135 = .ok (.iconst 2, 1) := by decide +kernel
theorem dX7_way_136 : decode cX7_way 136 = .ok (.isub, 1) := by decide +kernel
theorem dX7_way_137 : decode cX7_way 137 = .ok (.iaload, 1) := by decide +kernel
theorem dX7_way_138 : decode cX7_way 138 = .ok (.goto 4, 3) := by decide +kernel
theorem dX7_way_141 : decode cX7_way 141 = .ok (.iconst (-1), 1) := by decide +kernel
theorem dX7_way_142 : decode cX7_way 142 = .ok (.ireturn, 1) := by decide +kernel
theorem dX7_mistake_0 : decode cX7_mistake 0 = .ok (.aload_n 0, 1) := by decide +kernel
theorem dX7_mistake_1 : decode cX7_mistake 1 = .ok (.iload_n 1, 1) := by decide +kernel
theorem dX7_mistake_2 : decode cX7_mistake 2 = .ok (.invokevirtual 141, 3) := by decide +kernel
theorem dX7_mistake_5 : decode cX7_mistake 5 = .ok (.ifCond .ne 6, 3) := by decide +kernel
theorem dX7_mistake_8 : decode cX7_mistake 8 = .ok (.bipush (-2), 2) := by decide +kernel
theorem dX7_mistake_10 : decode cX7_mistake 10 = .ok (.ireturn, 1) := by decide +kernel
theorem dX7_mistake_11 : decode cX7_mistake 11 = .ok (.iconst (-1), 1) := by decide +kernel
theorem dX7_mistake_12 : decode cX7_mistake 12 = .ok (.istore_n 2, 1) := by decide +kernel
theorem dX7_mistake_13 : decode cX7_mistake 13 = .ok (.iconst 0, 1) := by decide +kernel
theorem dX7_mistake_14 : decode cX7_mistake 14 = .ok (.istore_n 3, 1) := by decide +kernel
theorem dX7_mistake_15 : decode cX7_mistake 15 = .ok (.iload_n 3, 1) := by decide +kernel
theorem dX7_mistake_16 : decode cX7_mistake 16 = .ok (.aload_n 0, 1) := by decide +kernel
theorem dX7_mistake_17 : decode cX7_mistake 17 = .ok (.getfield 92, 3) := by decide +kernel
theorem dX7_mistake_20 : decode cX7_mistake 20 = .ok (.getfield 114, 3) := by decide +kernel
theorem dX7_mistake_23 : decode cX7_mistake 23 = .ok (.if_icmp .ge 69, 3) := by decide +kernel
theorem dX7_mistake_26 : decode cX7_mistake 26 = .ok (.aload_n 0, 1) := by decide +kernel
theorem dX7_mistake_27 : decode cX7_mistake 27 = .ok (.getfield 92, 3) := by decide +kernel
theorem dX7_mistake_30 : decode cX7_mistake 30 = .ok (.iload_n 1, 1) := by decide +kernel
theorem dX7_mistake_31 : decode cX7_mistake 31 = .ok (.iload_n 3, 1) := by decide +kernel
theorem dX7_mistake_32 : decode cX7_mistake 32 = .ok (.invokevirtual 151, 3) := by decide +kernel
theorem dX7_mistake_35 : decode cX7_mistake 35 = .ok (.ifCond .eq 51, 3) := by decide +kernel
theorem dX7_mistake_38 : decode cX7_mistake 38 = .ok (.aload_n 0, 1) := by decide +kernel
theorem dX7_mistake_39 : decode cX7_mistake 39 = .ok (.getfield 92, 3) := by decide +kernel
theorem dX7_mistake_42 : decode cX7_mistake 42 = .ok (.iload_n 1, 1) := by decide +kernel
theorem dX7_mistake_43 : decode cX7_mistake 43 = .ok (.iload_n 3, 1) := by decide +kernel
theorem dX7_mistake_44 : decode cX7_mistake 44 = .ok (.invokevirtual 154, 3) := by decide +kernel
theorem dX7_mistake_47 : decode cX7_mistake 47 = .ok (.ifCond .ne 39, 3) := by decide +kernel
theorem dX7_mistake_50 : decode cX7_mistake 50 = .ok (.iload_n 2, 1) := by decide +kernel
theorem dX7_mistake_51 : decode cX7_mistake 51 = .ok (.iconst (-1), 1) := by decide +kernel
theorem dX7_mistake_52 : decode cX7_mistake 52 = .ok (.if_icmp .eq 32, 3) := by decide +kernel
theorem dX7_mistake_55 : decode cX7_mistake 55 = .ok (.aload_n 0, 1) := by decide +kernel
theorem dX7_mistake_56 : decode cX7_mistake 56 = .ok (.getfield 92, 3) := by decide +kernel
theorem dX7_mistake_59 : decode cX7_mistake 59 = .ok (.getfield 127, 3) := by decide +kernel
theorem dX7_mistake_62 : decode cX7_mistake 62 = .ok (.iload_n 1, 1) := by decide +kernel
theorem dX7_mistake_63 : decode cX7_mistake 63 = .ok (.iload_n 3, 1) := by decide +kernel
theorem dX7_mistake_64 : decode cX7_mistake 64 = .ok (.invokestatic 133, 3) := by decide +kernel
theorem dX7_mistake_67 : decode cX7_mistake 67 = .ok (.iaload, 1) := by decide +kernel
theorem dX7_mistake_68 : decode cX7_mistake 68 = .ok (.aload_n 0, 1) := by decide +kernel
theorem dX7_mistake_69 : decode cX7_mistake 69 = .ok (.getfield 92, 3) := by decide +kernel
theorem dX7_mistake_72 : decode cX7_mistake 72 = .ok (.getfield 127, 3) := by decide +kernel
theorem dX7_mistake_75 : decode cX7_mistake 75 = .ok (.iload_n 1, 1) := by decide +kernel
theorem dX7_mistake_76 : decode cX7_mistake 76 = .ok (.iload_n 2, 1) := by decide +kernel
theorem dX7_mistake_77 : decode cX7_mistake 77 = .ok (.invokestatic 133, 3) := by decide +kernel
theorem dX7_mistake_80 : decode cX7_mistake 80 = .ok (.iaload, 1) := by decide +kernel
theorem dX7_mistake_81 : decode cX7_mistake 81 = .ok (.if_icmp .ge 5, 3) := by decide +kernel
theorem dX7_mistake_84 : decode cX7_mistake 84 = .ok (.iload_n 3, 1) := by decide +kernel
theorem dX7_mistake_85 : decode cX7_mistake 85 = .ok (.istore_n 2, 1) := by decide +kernel
theorem dX7_mistake_86 : decode cX7_mistake 86 = .ok (.iinc 3 1, 3) := by decide +kernel
theorem dX7_mistake_89 : decode cX7_mistake 89 = .ok (.goto (-74), 3) := by decide +kernel
theorem dX7_mistake_92 : decode cX7_mistake 92 = .ok (.iload_n 2, 1) := by decide +kernel
theorem dX7_mistake_93 : decode cX7_mistake 93 = .ok (.ireturn, 1) := by decide +kernel
theorem dX7_sure_0 : decode cX7_sure 0 = .ok (.aload_n 0, 1) := by decide +kernel
theorem dX7_sure_1 : decode cX7_sure 1 = .ok (.iload_n 1, 1) := by decide +kernel
theorem dX7_sure_2 : decode cX7_sure 2 = .ok (.invokevirtual 141, 3) := by decide +kernel
theorem dX7_sure_5 : decode cX7_sure 5 = .ok (.ifCond .ne 6, 3) := by decide +kernel
theorem dX7_sure_8 : decode cX7_sure 8 = .ok (.bipush (-2), 2) := by decide +kernel
theorem dX7_sure_10 : decode cX7_sure 10 = .ok (.ireturn, 1) := by decide +kernel
theorem dX7_sure_11 : decode cX7_sure 11 = .ok (.aload_n 0, 1) := by decide +kernel
theorem dX7_sure_12 : decode cX7_sure 12 = .ok (.getfield 96, 3) := by decide +kernel
theorem dX7_sure_15 : decode cX7_sure 15 = .ok (.aload_n 0, 1) := by decide +kernel
theorem dX7_sure_16 : decode cX7_sure 16 = .ok (.getfield 92, 3) := by decide +kernel
theorem dX7_sure_19 : decode cX7_sure 19 = .ok (.invokevirtual 190, 3) := by decide +kernel
theorem dX7_sure_22 : decode cX7_sure 22 = .ok (.iconst 0, 1) := by decide +kernel
theorem dX7_sure_23 : decode cX7_sure 23 = .ok (.istore_n 2, 1) := by decide +kernel
theorem dX7_sure_24 : decode cX7_sure 24 = .ok (.iconst 0, 1) := by decide +kernel
theorem dX7_sure_25 : decode cX7_sure 25 = .ok (.istore_n 3, 1) := by decide +kernel
theorem dX7_sure_26 : decode cX7_sure 26 = .ok (.iload_n 3, 1) := by decide +kernel
theorem dX7_sure_27 : decode cX7_sure 27 = .ok (.aload_n 0, 1) := by decide +kernel
theorem dX7_sure_28 : decode cX7_sure 28 = .ok (.getfield 92, 3) := by decide +kernel
theorem dX7_sure_31 : decode cX7_sure 31 = .ok (.getfield 114, 3) := by decide +kernel
theorem dX7_sure_34 : decode cX7_sure 34 = .ok (.if_icmp .ge 36, 3) := by decide +kernel
theorem dX7_sure_37 : decode cX7_sure 37 = .ok (.aload_n 0, 1) := by decide +kernel
theorem dX7_sure_38 : decode cX7_sure 38 = .ok (.getfield 92, 3) := by decide +kernel
theorem dX7_sure_41 : decode cX7_sure 41 = .ok (.iload_n 1, 1) := by decide +kernel
theorem dX7_sure_42 : decode cX7_sure 42 = .ok (.iload_n 3, 1) := by decide +kernel
theorem dX7_sure_43 : decode cX7_sure 43 = .ok (.invokevirtual 151, 3) := by decide +kernel
theorem dX7_sure_46 : decode cX7_sure 46 = .ok (.ifCond .eq 18, 3) := by decide +kernel
theorem dX7_sure_49 : decode cX7_sure 49 = .ok (.aload_n 0, 1) := by decide +kernel
theorem dX7_sure_50 : decode cX7_sure 50 = .ok (.iload_n 1, 1) := by decide +kernel
theorem dX7_sure_51 : decode cX7_sure 51 = .ok (.iload_n 3, 1) := by decide +kernel
theorem dX7_sure_52 : decode cX7_sure 52 = .ok (.invokevirtual 209, 3) := by decide +kernel
theorem dX7_sure_55 : decode cX7_sure 55 = .ok (.ifCond .eq 9, 3) := by decide +kernel
theorem dX7_sure_58 : decode cX7_sure 58 = .ok (.iload_n 2, 1) := by decide +kernel
theorem dX7_sure_59 : decode cX7_sure 59 = .ok (.iconst 1, 1) := by decide +kernel
theorem dX7_sure_60 : decode cX7_sure 60 = .ok (.iload_n 3, 1) := by decide +kernel
theorem dX7_sure_61 : decode cX7_sure 61 = .ok (.ishl, 1) := by decide +kernel
theorem dX7_sure_62 : decode cX7_sure 62 = .ok (.ior, 1) := by decide +kernel
theorem dX7_sure_63 : decode cX7_sure 63 = .ok (.istore_n 2, 1) := by decide +kernel
theorem dX7_sure_64 : decode cX7_sure 64 = .ok (.iinc 3 1, 3) := by decide +kernel
theorem dX7_sure_67 : decode cX7_sure 67 = .ok (.goto (-41), 3) := by decide +kernel
theorem dX7_sure_70 : decode cX7_sure 70 = .ok (.iload_n 2, 1) := by decide +kernel
theorem dX7_sure_71 : decode cX7_sure 71 = .ok (.ireturn, 1) := by decide +kernel
theorem dX7_refusesFromNowOn_0 : decode cX7_refusesFromNowOn 0 = .ok (.aload_n 0, 1) := by decide +kernel
theorem dX7_refusesFromNowOn_1 : decode cX7_refusesFromNowOn 1 = .ok (.getfield 92, 3) := by decide +kernel
theorem dX7_refusesFromNowOn_4 : decode cX7_refusesFromNowOn 4 = .ok (.getfield 109, 3) := by decide +kernel
theorem dX7_refusesFromNowOn_7 : decode cX7_refusesFromNowOn 7 = .ok (.iload_n 1, 1) := by decide +kernel
theorem dX7_refusesFromNowOn_8 : decode cX7_refusesFromNowOn 8 = .ok (.iaload, 1) := by decide +kernel
theorem dX7_refusesFromNowOn_9 : decode cX7_refusesFromNowOn 9 = .ok (.istore_n 3, 1) := by decide +kernel
theorem dX7_refusesFromNowOn_10 : decode cX7_refusesFromNowOn 10 = .ok (.iload_n 3, 1) := by decide +kernel
theorem dX7_refusesFromNowOn_11 : decode cX7_refusesFromNowOn 11 = .ok (.bipush 9, 2) := by decide +kernel
theorem dX7_refusesFromNowOn_13 : decode cX7_refusesFromNowOn 13 = .ok (.if_icmp .gt 33, 3) := by decide +kernel
theorem dX7_refusesFromNowOn_16 : decode cX7_refusesFromNowOn 16 = .ok (.aload_n 0, 1) := by decide +kernel
theorem dX7_refusesFromNowOn_17 : decode cX7_refusesFromNowOn 17 = .ok (.getfield 96, 3) := by decide +kernel
theorem dX7_refusesFromNowOn_20 : decode cX7_refusesFromNowOn 20 = .ok (.getfield 109, 3) := by decide +kernel
theorem dX7_refusesFromNowOn_23 : decode cX7_refusesFromNowOn 23 = .ok (.iload_n 1, 1) := by decide +kernel
theorem dX7_refusesFromNowOn_24 : decode cX7_refusesFromNowOn 24 = .ok (.iload_n 3, 1) := by decide +kernel
theorem dX7_refusesFromNowOn_25 : decode cX7_refusesFromNowOn 25 = .ok (.iastore, 1) := by decide +kernel
theorem dX7_refusesFromNowOn_26 : decode cX7_refusesFromNowOn 26 = .ok (.aload_n 0, 1) := by decide +kernel
theorem dX7_refusesFromNowOn_27 : decode cX7_refusesFromNowOn 27 = .ok (.getfield 96, 3) := by decide +kernel
theorem dX7_refusesFromNowOn_30 : decode cX7_refusesFromNowOn 30 = .ok (.iload_n 1, 1) := by decide +kernel
theorem dX7_refusesFromNowOn_31 : decode cX7_refusesFromNowOn 31 = .ok (.iload_n 2, 1) := by decide +kernel
theorem dX7_refusesFromNowOn_32 : decode cX7_refusesFromNowOn 32 = .ok (.invokevirtual 154, 3) := by decide +kernel
theorem dX7_refusesFromNowOn_35 : decode cX7_refusesFromNowOn 35 = .ok (.ifCond .ne 5, 3) := by decide +kernel
theorem dX7_refusesFromNowOn_38 : decode cX7_refusesFromNowOn 38 = .ok (.iconst 0, 1) := by decide +kernel
theorem dX7_refusesFromNowOn_39 : decode cX7_refusesFromNowOn 39 = .ok (.ireturn, 1) := by decide +kernel
theorem dX7_refusesFromNowOn_40 : decode cX7_refusesFromNowOn 40 = .ok (.iinc 3 1, 3) := by decide +kernel
theorem dX7_refusesFromNowOn_43 : decode cX7_refusesFromNowOn 43 = .ok (.goto (-33), 3) := by decide +kernel
theorem dX7_refusesFromNowOn_46 : decode cX7_refusesFromNowOn 46 = .ok (.iconst 1, 1) := by decide +kernel
theorem dX7_refusesFromNowOn_47 : decode cX7_refusesFromNowOn 47 = .ok (.ireturn, 1) := by decide +kernel
theorem dX7_pairings_0 : decode cX7_pairings 0 = .ok (.iload_n 1, 1) := by decide +kernel
theorem dX7_pairings_1 : decode cX7_pairings 1 = .ok (.iconst 0, 1) := by decide +kernel
theorem dX7_pairings_2 : decode cX7_pairings 2 = .ok (.iconst 1, 1) := by decide +kernel
theorem dX7_pairings_3 : decode cX7_pairings 3 = .ok (.invokestatic 102, 3) := by decide +kernel
theorem dX7_pairings_6 : decode cX7_pairings 6 = .ok (.ifCond .ne 6, 3) := by decide +kernel
theorem dX7_pairings_9 : decode cX7_pairings 9 = .ok (.bipush (-2), 2) := by decide +kernel
theorem dX7_pairings_11 : decode cX7_pairings 11 = .ok (.ireturn, 1) := by decide +kernel
theorem dX7_pairings_12 : decode cX7_pairings 12 = .ok (.aload_n 0, 1) := by decide +kernel
theorem dX7_pairings_13 : decode cX7_pairings 13 = .ok (.getfield 33, 3) := by decide +kernel
theorem dX7_pairings_16 : decode cX7_pairings 16 = .ok (.aload_n 0, 1) := by decide +kernel
theorem dX7_pairings_17 : decode cX7_pairings 17 = .ok (.getfield 92, 3) := by decide +kernel
theorem dX7_pairings_20 : decode cX7_pairings 20 = .ok (.invokevirtual 212, 3) := by decide +kernel
theorem dX7_pairings_23 : decode cX7_pairings 23 = .ok (.aload_n 0, 1) := by decide +kernel
theorem dX7_pairings_24 : decode cX7_pairings 24 = .ok (.getfield 33, 3) := by decide +kernel
theorem dX7_pairings_27 : decode cX7_pairings 27 = .ok (.getfield 215, 3) := by decide +kernel
theorem dX7_pairings_30 : decode cX7_pairings 30 = .ok (.iload_n 1, 1) := by decide +kernel
theorem dX7_pairings_31 : decode cX7_pairings 31 = .ok (.iaload, 1) := by decide +kernel
theorem dX7_pairings_32 : decode cX7_pairings 32 = .ok (.ireturn, 1) := by decide +kernel
theorem dX7_best_0 : decode cX7_best 0 = .ok (.iload_n 1, 1) := by decide +kernel
theorem dX7_best_1 : decode cX7_best 1 = .ok (.iconst 0, 1) := by decide +kernel
theorem dX7_best_2 : decode cX7_best 2 = .ok (.iconst 1, 1) := by decide +kernel
theorem dX7_best_3 : decode cX7_best 3 = .ok (.invokestatic 102, 3) := by decide +kernel
theorem dX7_best_6 : decode cX7_best 6 = .ok (.ifCond .eq 16, 3) := by decide +kernel
theorem dX7_best_9 : decode cX7_best 9 = .ok (.iload_n 2, 1) := by decide +kernel
theorem dX7_best_10 : decode cX7_best 10 = .ok (.iconst (-1), 1) := by decide +kernel
theorem dX7_best_11 : decode cX7_best 11 = .ok (.if_icmp .eq 14, 3) := by decide +kernel
theorem dX7_best_14 : decode cX7_best 14 = .ok (.aload_n 0, 1) := by decide +kernel
theorem dX7_best_15 : decode cX7_best 15 = .ok (.iload_n 2, 1) := by decide +kernel
theorem dX7_best_16 : decode cX7_best 16 = .ok (.invokevirtual 141, 3) := by decide +kernel
theorem dX7_best_19 : decode cX7_best 19 = .ok (.ifCond .ne 6, 3) := by decide +kernel
theorem dX7_best_22 : decode cX7_best 22 = .ok (.bipush (-2), 2) := by decide +kernel
theorem dX7_best_24 : decode cX7_best 24 = .ok (.ireturn, 1) := by decide +kernel
theorem dX7_best_25 : decode cX7_best 25 = .ok (.aload_n 0, 1) := by decide +kernel
theorem dX7_best_26 : decode cX7_best 26 = .ok (.getfield 33, 3) := by decide +kernel
theorem dX7_best_29 : decode cX7_best 29 = .ok (.aload_n 0, 1) := by decide +kernel
theorem dX7_best_30 : decode cX7_best 30 = .ok (.getfield 92, 3) := by decide +kernel
theorem dX7_best_33 : decode cX7_best 33 = .ok (.invokevirtual 212, 3) := by decide +kernel
theorem dX7_best_36 : decode cX7_best 36 = .ok (.aload_n 0, 1) := by decide +kernel
theorem dX7_best_37 : decode cX7_best 37 = .ok (.getfield 33, 3) := by decide +kernel
theorem dX7_best_40 : decode cX7_best 40 = .ok (.getfield 215, 3) := by decide +kernel
theorem dX7_best_43 : decode cX7_best 43 = .ok (.iload_n 1, 1) := by decide +kernel
theorem dX7_best_44 : decode cX7_best 44 = .ok (.iaload, 1) := by decide +kernel
theorem dX7_best_45 : decode cX7_best 45 = .ok (.ifCond .ne 6, 3) := by decide +kernel
theorem dX7_best_48 : decode cX7_best 48 = .ok (.bipush (-3), 2) := by decide +kernel
theorem dX7_best_50 : decode cX7_best 50 = .ok (.ireturn, 1) := by decide +kernel
theorem dX7_best_51 : decode cX7_best 51 = .ok (.iload_n 2, 1) := by decide +kernel
theorem dX7_best_52 : decode cX7_best 52 = .ok (.iconst (-1), 1) := by decide +kernel
theorem dX7_best_53 : decode cX7_best 53 = .ok (.if_icmp .ne 15, 3) := by decide +kernel
theorem dX7_best_56 : decode cX7_best 56 = .ok (.aload_n 0, 1) := by decide +kernel
theorem dX7_best_57 : decode cX7_best 57 = .ok (.getfield 33, 3) := by decide +kernel
theorem dX7_best_60 : decode cX7_best 60 = .ok (.getfield 218, 3) := by decide +kernel
theorem dX7_best_63 : decode cX7_best 63 = .ok (.iload_n 1, 1) := by decide +kernel
theorem dX7_best_64 : decode cX7_best 64 = .ok (.iaload, 1) := by decide +kernel
theorem dX7_best_65 : decode cX7_best 65 = .ok (.goto 12, 3) := by decide +kernel
theorem dX7_best_68 : decode cX7_best 68 = .ok (.aload_n 0, 1) := by decide +kernel
theorem dX7_best_69 : decode cX7_best 69 = .ok (.getfield 33, 3) := by decide +kernel
theorem dX7_best_72 : decode cX7_best 72 = .ok (.iload_n 1, 1) := by decide +kernel
theorem dX7_best_73 : decode cX7_best 73 = .ok (.iload_n 2, 1) := by decide +kernel
theorem dX7_best_74 : decode cX7_best 74 = .ok (.invokevirtual 221, 3) := by decide +kernel
theorem dX7_best_77 : decode cX7_best 77 = .ok (.ireturn, 1) := by decide +kernel
theorem dX7_row_0 : decode cX7_row 0 = .ok (.iload_n 1, 1) := by decide +kernel
theorem dX7_row_1 : decode cX7_row 1 = .ok (.invokestatic 224, 3) := by decide +kernel
theorem dX7_row_4 : decode cX7_row 4 = .ok (.ifCond .ne 6, 3) := by decide +kernel
theorem dX7_row_7 : decode cX7_row 7 = .ok (.bipush (-2), 2) := by decide +kernel
theorem dX7_row_9 : decode cX7_row 9 = .ok (.ireturn, 1) := by decide +kernel
theorem dX7_row_10 : decode cX7_row 10 = .ok (.aload_n 0, 1) := by decide +kernel
theorem dX7_row_11 : decode cX7_row 11 = .ok (.getfield 46, 3) := by decide +kernel
theorem dX7_row_14 : decode cX7_row 14 = .ok (.iload_n 1, 1) := by decide +kernel
theorem dX7_row_15 : decode cX7_row 15 = .ok (.aaload, 1) := by decide +kernel
theorem dX7_row_16 : decode cX7_row 16 = .ok (.astore_n 2, 1) := by decide +kernel
theorem dX7_row_17 : decode cX7_row 17 = .ok (.aload_n 2, 1) := by decide +kernel
theorem dX7_row_18 : decode cX7_row 18 = .ok (.invokevirtual 227, 3) := by decide +kernel
theorem dX7_row_21 : decode cX7_row 21 = .ok (.ifCond .eq 6, 3) := by decide +kernel
theorem dX7_row_24 : decode cX7_row 24 = .ok (.bipush (-11), 2) := by decide +kernel
theorem dX7_row_26 : decode cX7_row 26 = .ok (.ireturn, 1) := by decide +kernel
theorem dX7_row_27 : decode cX7_row 27 = .ok (.aload_n 2, 1) := by decide +kernel
theorem dX7_row_28 : decode cX7_row 28 = .ok (.getfield 231, 3) := by decide +kernel
theorem dX7_row_31 : decode cX7_row 31 = .ok (.aload_n 0, 1) := by decide +kernel
theorem dX7_row_32 : decode cX7_row 32 = .ok (.getfield 92, 3) := by decide +kernel
theorem dX7_row_35 : decode cX7_row 35 = .ok (.getfield 106, 3) := by decide +kernel
theorem dX7_row_38 : decode cX7_row 38 = .ok (.if_icmp .ne 21, 3) := by decide +kernel
theorem dX7_row_41 : decode cX7_row 41 = .ok (.aload_n 0, 1) := by decide +kernel
theorem dX7_row_42 : decode cX7_row 42 = .ok (.getfield 33, 3) := by decide +kernel
theorem dX7_row_45 : decode cX7_row 45 = .ok (.aload_n 0, 1) := by decide +kernel
theorem dX7_row_46 : decode cX7_row 46 = .ok (.getfield 92, 3) := by decide +kernel
theorem dX7_row_49 : decode cX7_row 49 = .ok (.aload_n 2, 1) := by decide +kernel
theorem dX7_row_50 : decode cX7_row 50 = .ok (.getfield 232, 3) := by decide +kernel
theorem dX7_row_53 : decode cX7_row 53 = .ok (.invokevirtual 235, 3) := by decide +kernel
theorem dX7_row_56 : decode cX7_row 56 = .ok (.goto 5, 3) := by decide +kernel
theorem dX7_row_59 : decode cX7_row 59 = .ok (.bipush (-2), 2) := by decide +kernel
theorem dX7_row_61 : decode cX7_row 61 = .ok (.ireturn, 1) := by decide +kernel
theorem dX7_year_0 : decode cX7_year 0 = .ok (.iload_n 1, 1) := by decide +kernel
theorem dX7_year_1 : decode cX7_year 1 = .ok (.iconst 0, 1) := by decide +kernel
theorem dX7_year_2 : decode cX7_year 2 = .ok (.bipush 12, 2) := by decide +kernel
theorem dX7_year_4 : decode cX7_year 4 = .ok (.invokestatic 102, 3) := by decide +kernel
theorem dX7_year_7 : decode cX7_year 7 = .ok (.ifCond .eq 13, 3) := by decide +kernel
theorem dX7_year_10 : decode cX7_year 10 = .ok (.iload_n 2, 1) := by decide +kernel
theorem dX7_year_11 : decode cX7_year 11 = .ok (.iconst 0, 1) := by decide +kernel
theorem dX7_year_12 : decode cX7_year 12 = .ok (.bipush 6, 2) := by decide +kernel
theorem dX7_year_14 : decode cX7_year 14 = .ok (.invokestatic 102, 3) := by decide +kernel
theorem dX7_year_17 : decode cX7_year 17 = .ok (.ifCond .ne 6, 3) := by decide +kernel
theorem dX7_year_20 : decode cX7_year 20 = .ok (.bipush (-2), 2) := by decide +kernel
theorem dX7_year_22 : decode cX7_year 22 = .ok (.ireturn, 1) := by decide +kernel
theorem dX7_year_23 : decode cX7_year 23 = .ok (.aload_n 0, 1) := by decide +kernel
theorem dX7_year_24 : decode cX7_year 24 = .ok (.getfield 96, 3) := by decide +kernel
theorem dX7_year_27 : decode cX7_year 27 = .ok (.aload_n 0, 1) := by decide +kernel
theorem dX7_year_28 : decode cX7_year 28 = .ok (.getfield 92, 3) := by decide +kernel
theorem dX7_year_31 : decode cX7_year 31 = .ok (.invokevirtual 190, 3) := by decide +kernel
theorem dX7_year_34 : decode cX7_year 34 = .ok (.iconst 0, 1) := by decide +kernel
theorem dX7_year_35 : decode cX7_year 35 = .ok (.istore_n 3, 1) := by decide +kernel
theorem dX7_year_36 : decode cX7_year 36 = .ok (.iload_n 3, 1) := by decide +kernel
theorem dX7_year_37 : decode cX7_year 37 = .ok (.iload_n 1, 1) := by decide +kernel
theorem dX7_year_38 : decode cX7_year 38 = .ok (.if_icmp .ge 13, 3) := by decide +kernel
theorem dX7_year_41 : decode cX7_year 41 = .ok (.aload_n 0, 1) := by decide +kernel
theorem dX7_year_42 : decode cX7_year 42 = .ok (.invokevirtual 239, 3) := by decide +kernel
theorem dX7_year_45 : decode cX7_year 45 = .ok (.iinc 3 1, 3) := by decide +kernel
theorem dX7_year_48 : decode cX7_year 48 = .ok (.goto (-12), 3) := by decide +kernel
theorem dX7_year_51 : decode cX7_year 51 = .ok (.iload_n 2, 1) := by decide +kernel
theorem dX7_year_52 : decode cX7_year 52 = .ok (.tableswitch 52 0 2 #[28, 36, 44], 28) := by decide +kernel
theorem dX7_year_80 : decode cX7_year 80 = .ok (.aload_n 0, 1) := by decide +kernel
theorem dX7_year_81 : decode cX7_year 81 = .ok (.getfield 96, 3) := by decide +kernel
theorem dX7_year_84 : decode cX7_year 84 = .ok (.invokevirtual 242, 3) := by decide +kernel
theorem dX7_year_87 : decode cX7_year 87 = .ok (.ireturn, 1) := by decide +kernel
theorem dX7_year_88 : decode cX7_year 88 = .ok (.aload_n 0, 1) := by decide +kernel
theorem dX7_year_89 : decode cX7_year 89 = .ok (.getfield 96, 3) := by decide +kernel
theorem dX7_year_92 : decode cX7_year 92 = .ok (.getfield 245, 3) := by decide +kernel
theorem dX7_year_95 : decode cX7_year 95 = .ok (.ireturn, 1) := by decide +kernel
theorem dX7_year_96 : decode cX7_year 96 = .ok (.aload_n 0, 1) := by decide +kernel
theorem dX7_year_97 : decode cX7_year 97 = .ok (.getfield 96, 3) := by decide +kernel
theorem dX7_year_100 : decode cX7_year 100 = .ok (.getfield 248, 3) := by decide +kernel
theorem dX7_year_103 : decode cX7_year 103 = .ok (.ireturn, 1) := by decide +kernel
theorem dX7_year_104 : decode cX7_year 104 = .ok (.aload_n 0, 1) := by decide +kernel
theorem dX7_year_105 : decode cX7_year 105 = .ok (.iload_n 2, 1) := by decide +kernel
theorem dX7_year_106 : decode cX7_year 106 = .ok (.iconst 3, 1) := by decide +kernel
theorem dX7_year_107 : decode cX7_year 107 = .ok (.isub, 1) := by decide +kernel
theorem dX7_year_108 : decode cX7_year 108 = .ok (.invokevirtual 141, 3) := by decide +kernel
theorem dX7_year_111 : decode cX7_year 111 = .ok (.ifCond .eq 17, 3) := by decide +kernel
theorem dX7_year_114 : decode cX7_year 114 = .ok (.aload_n 0, 1) := by decide +kernel
theorem dX7_year_115 : decode cX7_year 115 = .ok (.getfield 96, 3) := by decide +kernel
theorem dX7_year_118 : decode cX7_year 118 = .ok (.getfield 178, 3) := by decide +kernel
theorem dX7_year_121 : decode cX7_year 121 = .ok (.iload_n 2, 1) := by decide +kernel
theorem dX7_year_122 : decode cX7_year 122 = .ok (.iconst 3, 1) := by decide +kernel
theorem dX7_year_123 : decode cX7_year 123 = .ok (.isub, 1) := by decide +kernel
theorem dX7_year_124 : decode cX7_year 124 = .ok (.iaload, 1) := by decide +kernel
theorem dX7_year_125 : decode cX7_year 125 = .ok (.goto 4, 3) := by decide +kernel
theorem dX7_year_128 : decode cX7_year 128 = .ok (.iconst (-1), 1) := by decide +kernel
theorem dX7_year_129 : decode cX7_year 129 = .ok (.ireturn, 1) := by decide +kernel
theorem dX7_passRound_0 : decode cX7_passRound 0 = .ok (.iconst 0, 1) := by decide +kernel
theorem dX7_passRound_1 : decode cX7_passRound 1 = .ok (.istore_n 1, 1) := by decide +kernel
theorem dX7_passRound_2 : decode cX7_passRound 2 = .ok (.iload_n 1, 1) := by decide +kernel
theorem dX7_passRound_3 : decode cX7_passRound 3 = .ok (.aload_n 0, 1) := by decide +kernel
theorem dX7_passRound_4 : decode cX7_passRound 4 = .ok (.getfield 96, 3) := by decide +kernel
theorem dX7_passRound_7 : decode cX7_passRound 7 = .ok (.getfield 106, 3) := by decide +kernel
theorem dX7_passRound_10 : decode cX7_passRound 10 = .ok (.if_icmp .ge 33, 3) := by decide +kernel
theorem dX7_passRound_13 : decode cX7_passRound 13 = .ok (.aload_n 0, 1) := by decide +kernel
theorem dX7_passRound_14 : decode cX7_passRound 14 = .ok (.getfield 96, 3) := by decide +kernel
theorem dX7_passRound_17 : decode cX7_passRound 17 = .ok (.iload_n 1, 1) := by decide +kernel
theorem dX7_passRound_18 : decode cX7_passRound 18 = .ok (.invokevirtual 249, 3) := by decide +kernel
theorem dX7_passRound_21 : decode cX7_passRound 21 = .ok (.istore_n 2, 1) := by decide +kernel
theorem dX7_passRound_22 : decode cX7_passRound 22 = .ok (.iload_n 2, 1) := by decide +kernel
theorem dX7_passRound_23 : decode cX7_passRound 23 = .ok (.iconst (-1), 1) := by decide +kernel
theorem dX7_passRound_24 : decode cX7_passRound 24 = .ok (.if_icmp .eq 13, 3) := by decide +kernel
theorem dX7_passRound_27 : decode cX7_passRound 27 = .ok (.aload_n 0, 1) := by decide +kernel
theorem dX7_passRound_28 : decode cX7_passRound 28 = .ok (.getfield 96, 3) := by decide +kernel
theorem dX7_passRound_31 : decode cX7_passRound 31 = .ok (.iload_n 1, 1) := by decide +kernel
theorem dX7_passRound_32 : decode cX7_passRound 32 = .ok (.iload_n 2, 1) := by decide +kernel
theorem dX7_passRound_33 : decode cX7_passRound 33 = .ok (.invokevirtual 187, 3) := by decide +kernel
theorem dX7_passRound_36 : decode cX7_passRound 36 = .ok (.pop, 1) := by decide +kernel
theorem dX7_passRound_37 : decode cX7_passRound 37 = .ok (.iinc 1 1, 3) := by decide +kernel
theorem dX7_passRound_40 : decode cX7_passRound 40 = .ok (.goto (-38), 3) := by decide +kernel
theorem dX7_passRound_43 : decode cX7_passRound 43 = .ok (.return_, 1) := by decide +kernel
theorem dX7_judge_0 : decode cX7_judge 0 = .ok (.iload_n 1, 1) := by decide +kernel
theorem dX7_judge_1 : decode cX7_judge 1 = .ok (.invokestatic 224, 3) := by decide +kernel
theorem dX7_judge_4 : decode cX7_judge 4 = .ok (.ifCond .eq 12, 3) := by decide +kernel
theorem dX7_judge_7 : decode cX7_judge 7 = .ok (.iload_n 2, 1) := by decide +kernel
theorem dX7_judge_8 : decode cX7_judge 8 = .ok (.iconst 0, 1) := by decide +kernel
theorem dX7_judge_9 : decode cX7_judge 9 = .ok (.iconst 1, 1) := by decide +kernel
theorem dX7_judge_10 : decode cX7_judge 10 = .ok (.invokestatic 102, 3) := by decide +kernel
theorem dX7_judge_13 : decode cX7_judge 13 = .ok (.ifCond .ne 6, 3) := by decide +kernel
theorem dX7_judge_16 : decode cX7_judge 16 = .ok (.bipush (-2), 2) := by decide +kernel
theorem dX7_judge_18 : decode cX7_judge 18 = .ok (.ireturn, 1) := by decide +kernel
theorem dX7_judge_19 : decode cX7_judge 19 = .ok (.aload_n 0, 1) := by decide +kernel
theorem dX7_judge_20 : decode cX7_judge 20 = .ok (.getfield 46, 3) := by decide +kernel
theorem dX7_judge_23 : decode cX7_judge 23 = .ok (.iload_n 1, 1) := by decide +kernel
theorem dX7_judge_24 : decode cX7_judge 24 = .ok (.aaload, 1) := by decide +kernel
theorem dX7_judge_25 : decode cX7_judge 25 = .ok (.astore_n 3, 1) := by decide +kernel
theorem dX7_judge_26 : decode cX7_judge 26 = .ok (.aload_n 3, 1) := by decide +kernel
theorem dX7_judge_27 : decode cX7_judge 27 = .ok (.invokevirtual 227, 3) := by decide +kernel
theorem dX7_judge_30 : decode cX7_judge 30 = .ok (.ifCond .eq 6, 3) := by decide +kernel
theorem dX7_judge_33 : decode cX7_judge 33 = .ok (.bipush (-11), 2) := by decide +kernel
theorem dX7_judge_35 : decode cX7_judge 35 = .ok (.ireturn, 1) := by decide +kernel
theorem dX7_judge_36 : decode cX7_judge 36 = .ok (.aload_n 3, 1) := by decide +kernel
theorem dX7_judge_37 : decode cX7_judge 37 = .ok (.getfield 231, 3) := by decide +kernel
theorem dX7_judge_40 : decode cX7_judge 40 = .ok (.iconst 3, 1) := by decide +kernel
theorem dX7_judge_41 : decode cX7_judge 41 = .ok (.irem, 1) := by decide +kernel
theorem dX7_judge_42 : decode cX7_judge 42 = .ok (.ifCond .eq 6, 3) := by decide +kernel
theorem dX7_judge_45 : decode cX7_judge 45 = .ok (.bipush (-2), 2) := by decide +kernel
theorem dX7_judge_47 : decode cX7_judge 47 = .ok (.ireturn, 1) := by decide +kernel
theorem dX7_judge_48 : decode cX7_judge 48 = .ok (.aload_n 0, 1) := by decide +kernel
theorem dX7_judge_49 : decode cX7_judge 49 = .ok (.getfield 96, 3) := by decide +kernel
theorem dX7_judge_52 : decode cX7_judge 52 = .ok (.aload_n 0, 1) := by decide +kernel
theorem dX7_judge_53 : decode cX7_judge 53 = .ok (.getfield 92, 3) := by decide +kernel
theorem dX7_judge_56 : decode cX7_judge 56 = .ok (.invokevirtual 190, 3) := by decide +kernel
theorem dX7_judge_59 : decode cX7_judge 59 = .ok (.iconst 0, 1) := by decide +kernel
theorem dX7_judge_60 : decode cX7_judge 60 = .ok (.istore 4, 2) := by decide +kernel
theorem dX7_judge_62 : decode cX7_judge 62 = .ok (.iconst 0, 1) := by decide +kernel
theorem dX7_judge_63 : decode cX7_judge 63 = .ok (.istore 5, 2) := by decide +kernel
theorem dX7_judge_65 : decode cX7_judge 65 = .ok (.iconst 3, 1) := by decide +kernel
theorem dX7_judge_66 : decode cX7_judge 66 = .ok (.iload 5, 2) := by decide +kernel
theorem dX7_judge_68 : decode cX7_judge 68 = .ok (.imul, 1) := by decide +kernel
theorem dX7_judge_69 : decode cX7_judge 69 = .ok (.aload_n 3, 1) := by decide +kernel
theorem dX7_judge_70 : decode cX7_judge 70 = .ok (.getfield 231, 3) := by decide +kernel
theorem dX7_judge_73 : decode cX7_judge 73 = .ok (.if_icmp .ge 143, 3) := by decide +kernel
theorem dX7_judge_76 : decode cX7_judge 76 = .ok (.aload_n 3, 1) := by decide +kernel
theorem dX7_judge_77 : decode cX7_judge 77 = .ok (.getfield 232, 3) := by decide +kernel
theorem dX7_judge_80 : decode cX7_judge 80 = .ok (.iconst 3, 1) := by decide +kernel
theorem dX7_judge_81 : decode cX7_judge 81 = .ok (.iload 5, 2) := by decide +kernel
theorem dX7_judge_83 : decode cX7_judge 83 = .ok (.imul, 1) := by decide +kernel
theorem dX7_judge_84 : decode cX7_judge 84 = .ok (.iaload, 1) := by decide +kernel
theorem dX7_judge_85 : decode cX7_judge 85 = .ok (.istore 6, 2) := by decide +kernel
theorem dX7_judge_87 : decode cX7_judge 87 = .ok (.aload_n 3, 1) := by decide +kernel
theorem dX7_judge_88 : decode cX7_judge 88 = .ok (.getfield 232, 3) := by decide +kernel
theorem dX7_judge_91 : decode cX7_judge 91 = .ok (.iconst 3, 1) := by decide +kernel
theorem dX7_judge_92 : decode cX7_judge 92 = .ok (.iload 5, 2) := by decide +kernel
theorem dX7_judge_94 : decode cX7_judge 94 = .ok (.imul, 1) := by decide +kernel
theorem dX7_judge_95 : decode cX7_judge 95 = .ok (.iconst 1, 1) := by decide +kernel
theorem dX7_judge_96 : decode cX7_judge 96 = .ok (.iadd, 1) := by decide +kernel
theorem dX7_judge_97 : decode cX7_judge 97 = .ok (.iaload, 1) := by decide +kernel
theorem dX7_judge_98 : decode cX7_judge 98 = .ok (.istore 7, 2) := by decide +kernel
theorem dX7_judge_100 : decode cX7_judge 100 = .ok (.aload_n 3, 1) := by decide +kernel
theorem dX7_judge_101 : decode cX7_judge 101 = .ok (.getfield 232, 3) := by decide +kernel
theorem dX7_judge_104 : decode cX7_judge 104 = .ok (.iconst 3, 1) := by decide +kernel
theorem dX7_judge_105 : decode cX7_judge 105 = .ok (.iload 5, 2) := by decide +kernel
theorem dX7_judge_107 : decode cX7_judge 107 = .ok (.imul, 1) := by decide +kernel
theorem dX7_judge_108 : decode cX7_judge 108 = .ok (.iconst 2, 1) := by decide +kernel
theorem dX7_judge_109 : decode cX7_judge 109 = .ok (.iadd, 1) := by decide +kernel
theorem dX7_judge_110 : decode cX7_judge 110 = .ok (.iaload, 1) := by decide +kernel
theorem dX7_judge_111 : decode cX7_judge 111 = .ok (.istore 8, 2) := by decide +kernel
theorem dX7_judge_113 : decode cX7_judge 113 = .ok (.aload_n 0, 1) := by decide +kernel
theorem dX7_judge_114 : decode cX7_judge 114 = .ok (.iload 6, 2) := by decide +kernel
theorem dX7_judge_116 : decode cX7_judge 116 = .ok (.iload 7, 2) := by decide +kernel
theorem dX7_judge_118 : decode cX7_judge 118 = .ok (.invokevirtual 123, 3) := by decide +kernel
theorem dX7_judge_121 : decode cX7_judge 121 = .ok (.ifCond .eq 27, 3) := by decide +kernel
theorem dX7_judge_124 : decode cX7_judge 124 = .ok (.iload 8, 2) := by decide +kernel
theorem dX7_judge_126 : decode cX7_judge 126 = .ok (.iconst 0, 1) := by decide +kernel
theorem dX7_judge_127 : decode cX7_judge 127 = .ok (.iconst 1, 1) := by decide +kernel
theorem dX7_judge_128 : decode cX7_judge 128 = .ok (.invokestatic 102, 3) := by decide +kernel
theorem dX7_judge_131 : decode cX7_judge 131 = .ok (.ifCond .eq 17, 3) := by decide +kernel
theorem dX7_judge_134 : decode cX7_judge 134 = .ok (.aload_n 0, 1) := by decide +kernel
theorem dX7_judge_135 : decode cX7_judge 135 = .ok (.getfield 96, 3) := by decide +kernel
theorem dX7_judge_138 : decode cX7_judge 138 = .ok (.iload 6, 2) := by decide +kernel
theorem dX7_judge_140 : decode cX7_judge 140 = .ok (.iload 7, 2) := by decide +kernel
theorem dX7_judge_142 : decode cX7_judge 142 = .ok (.invokevirtual 151, 3) := by decide +kernel
theorem dX7_judge_145 : decode cX7_judge 145 = .ok (.ifCond .ne 15, 3) := by decide +kernel
theorem dX7_judge_148 : decode cX7_judge 148 = .ok (.iload_n 2, 1) := by decide +kernel
theorem dX7_judge_149 : decode cX7_judge 149 = .ok (.ifCond .ne 8, 3) := by decide +kernel
theorem dX7_judge_152 : decode cX7_judge 152 = .ok (.iload 5, 2) := by decide +kernel
theorem dX7_judge_154 : decode cX7_judge 154 = .ok (.goto 5, 3) := by decide +kernel
theorem dX7_judge_157 : decode cX7_judge 157 = .ok (.iload 4, 2) := by decide +kernel
theorem dX7_judge_159 : decode cX7_judge 159 = .ok (.ireturn, 1) := by decide +kernel
theorem dX7_judge_160 : decode cX7_judge 160 = .ok (.aload_n 0, 1) := by decide +kernel
theorem dX7_judge_161 : decode cX7_judge 161 = .ok (.getfield 96, 3) := by decide +kernel
theorem dX7_judge_164 : decode cX7_judge 164 = .ok (.iload 6, 2) := by decide +kernel
theorem dX7_judge_166 : decode cX7_judge 166 = .ok (.iload 7, 2) := by decide +kernel
theorem dX7_judge_168 : decode cX7_judge 168 = .ok (.invokevirtual 154, 3) := by decide +kernel
theorem dX7_judge_171 : decode cX7_judge 171 = .ok (.iload 8, 2) := by decide +kernel
theorem dX7_judge_173 : decode cX7_judge 173 = .ok (.iconst 1, 1) := by decide +kernel
theorem dX7_judge_174 : decode cX7_judge 174 = .ok (.if_icmp .ne 7, 3) := by decide +kernel
theorem dX7_judge_177 : decode cX7_judge 177 = .ok (.iconst 1, 1) := by decide +kernel
theorem dX7_judge_178 : decode cX7_judge 178 = .ok (.goto 4, 3) := by decide +kernel
theorem dX7_judge_181 : decode cX7_judge 181 = .ok (.iconst 0, 1) := by decide +kernel
theorem dX7_judge_182 : decode cX7_judge 182 = .ok (.if_icmp .ne 6, 3) := by decide +kernel
theorem dX7_judge_185 : decode cX7_judge 185 = .ok (.iinc 4 1, 3) := by decide +kernel
theorem dX7_judge_188 : decode cX7_judge 188 = .ok (.aload_n 0, 1) := by decide +kernel
theorem dX7_judge_189 : decode cX7_judge 189 = .ok (.getfield 96, 3) := by decide +kernel
theorem dX7_judge_192 : decode cX7_judge 192 = .ok (.iload 6, 2) := by decide +kernel
theorem dX7_judge_194 : decode cX7_judge 194 = .ok (.iload 7, 2) := by decide +kernel
theorem dX7_judge_196 : decode cX7_judge 196 = .ok (.iload 8, 2) := by decide +kernel
theorem dX7_judge_198 : decode cX7_judge 198 = .ok (.iconst 1, 1) := by decide +kernel
theorem dX7_judge_199 : decode cX7_judge 199 = .ok (.if_icmp .ne 7, 3) := by decide +kernel
theorem dX7_judge_202 : decode cX7_judge 202 = .ok (.iconst 1, 1) := by decide +kernel
theorem dX7_judge_203 : decode cX7_judge 203 = .ok (.goto 4, 3) := by decide +kernel
theorem dX7_judge_206 : decode cX7_judge 206 = .ok (.iconst 0, 1) := by decide +kernel
theorem dX7_judge_207 : decode cX7_judge 207 = .ok (.invokevirtual 252, 3) := by decide +kernel
theorem dX7_judge_210 : decode cX7_judge 210 = .ok (.iinc 5 1, 3) := by decide +kernel
theorem dX7_judge_213 : decode cX7_judge 213 = .ok (.goto (-148), 3) := by decide +kernel
theorem dX7_judge_216 : decode cX7_judge 216 = .ok (.iload_n 2, 1) := by decide +kernel
theorem dX7_judge_217 : decode cX7_judge 217 = .ok (.ifCond .ne 7, 3) := by decide +kernel
theorem dX7_judge_220 : decode cX7_judge 220 = .ok (.iconst (-1), 1) := by decide +kernel
theorem dX7_judge_221 : decode cX7_judge 221 = .ok (.goto 5, 3) := by decide +kernel
theorem dX7_judge_224 : decode cX7_judge 224 = .ok (.iload 4, 2) := by decide +kernel
theorem dX7_judge_226 : decode cX7_judge 226 = .ok (.ireturn, 1) := by decide +kernel
theorem dX7_drawn_0 : decode cX7_drawn 0 = .ok (.aload_n 0, 1) := by decide +kernel
theorem dX7_drawn_1 : decode cX7_drawn 1 = .ok (.getfield 96, 3) := by decide +kernel
theorem dX7_drawn_4 : decode cX7_drawn 4 = .ok (.aload_n 0, 1) := by decide +kernel
theorem dX7_drawn_5 : decode cX7_drawn 5 = .ok (.getfield 92, 3) := by decide +kernel
theorem dX7_drawn_8 : decode cX7_drawn 8 = .ok (.invokevirtual 190, 3) := by decide +kernel
theorem dX7_drawn_11 : decode cX7_drawn 11 = .ok (.aload_n 0, 1) := by decide +kernel
theorem dX7_drawn_12 : decode cX7_drawn 12 = .ok (.getfield 96, 3) := by decide +kernel
theorem dX7_drawn_15 : decode cX7_drawn 15 = .ok (.iload_n 1, 1) := by decide +kernel
theorem dX7_drawn_16 : decode cX7_drawn 16 = .ok (.invokevirtual 256, 3) := by decide +kernel
theorem dX7_drawn_19 : decode cX7_drawn 19 = .ok (.aload_n 0, 1) := by decide +kernel
theorem dX7_drawn_20 : decode cX7_drawn 20 = .ok (.getfield 33, 3) := by decide +kernel
theorem dX7_drawn_23 : decode cX7_drawn 23 = .ok (.aload_n 0, 1) := by decide +kernel
theorem dX7_drawn_24 : decode cX7_drawn 24 = .ok (.getfield 96, 3) := by decide +kernel
theorem dX7_drawn_27 : decode cX7_drawn 27 = .ok (.invokevirtual 212, 3) := by decide +kernel
theorem dX7_drawn_30 : decode cX7_drawn 30 = .ok (.aload_n 0, 1) := by decide +kernel
theorem dX7_drawn_31 : decode cX7_drawn 31 = .ok (.getfield 33, 3) := by decide +kernel
theorem dX7_drawn_34 : decode cX7_drawn 34 = .ok (.getfield 215, 3) := by decide +kernel
theorem dX7_drawn_37 : decode cX7_drawn 37 = .ok (.iconst 1, 1) := by decide +kernel
theorem dX7_drawn_38 : decode cX7_drawn 38 = .ok (.iaload, 1) := by decide +kernel
theorem dX7_drawn_39 : decode cX7_drawn 39 = .ok (.ireturn, 1) := by decide +kernel
theorem dX7_chance_0 : decode cX7_chance 0 = .ok (.iload_n 2, 1) := by decide +kernel
theorem dX7_chance_1 : decode cX7_chance 1 = .ok (.iconst 1, 1) := by decide +kernel
theorem dX7_chance_2 : decode cX7_chance 2 = .ok (.bipush 20, 2) := by decide +kernel
theorem dX7_chance_4 : decode cX7_chance 4 = .ok (.invokestatic 102, 3) := by decide +kernel
theorem dX7_chance_7 : decode cX7_chance 7 = .ok (.ifCond .eq 12, 3) := by decide +kernel
theorem dX7_chance_10 : decode cX7_chance 10 = .ok (.iload_n 3, 1) := by decide +kernel
theorem dX7_chance_11 : decode cX7_chance 11 = .ok (.iconst 0, 1) := by decide +kernel
theorem dX7_chance_12 : decode cX7_chance 12 = .ok (.iconst 1, 1) := by decide +kernel
theorem dX7_chance_13 : decode cX7_chance 13 = .ok (.invokestatic 102, 3) := by decide +kernel
theorem dX7_chance_16 : decode cX7_chance 16 = .ok (.ifCond .ne 7, 3) := by decide +kernel
theorem dX7_chance_19 : decode cX7_chance 19 = .ok (.ldc2_w 259, 3) := by decide +kernel
theorem dX7_chance_22 : decode cX7_chance 22 = .ok (.lreturn, 1) := by decide +kernel
theorem dX7_chance_23 : decode cX7_chance 23 = .ok (.iconst 0, 1) := by decide +kernel
theorem dX7_chance_24 : decode cX7_chance 24 = .ok (.istore 4, 2) := by decide +kernel
theorem dX7_chance_26 : decode cX7_chance 26 = .ok (.iconst 0, 1) := by decide +kernel
theorem dX7_chance_27 : decode cX7_chance 27 = .ok (.istore 5, 2) := by decide +kernel
theorem dX7_chance_29 : decode cX7_chance 29 = .ok (.iload 5, 2) := by decide +kernel
theorem dX7_chance_31 : decode cX7_chance 31 = .ok (.iload_n 2, 1) := by decide +kernel
theorem dX7_chance_32 : decode cX7_chance 32 = .ok (.if_icmp .ge 23, 3) := by decide +kernel
theorem dX7_chance_35 : decode cX7_chance 35 = .ok (.aload_n 0, 1) := by decide +kernel
theorem dX7_chance_36 : decode cX7_chance 36 = .ok (.iload_n 1, 1) := by decide +kernel
theorem dX7_chance_37 : decode cX7_chance 37 = .ok (.iload 5, 2) := by decide +kernel
theorem dX7_chance_39 : decode cX7_chance 39 = .ok (.iadd, 1) := by decide +kernel
theorem dX7_chance_40 : decode cX7_chance 40 = .ok (.invokevirtual 261, 3) := by decide +kernel
theorem dX7_chance_43 : decode cX7_chance 43 = .ok (.ifCond .le 6, 3) := by decide +kernel
theorem dX7_chance_46 : decode cX7_chance 46 = .ok (.iinc 4 1, 3) := by decide +kernel
theorem dX7_chance_49 : decode cX7_chance 49 = .ok (.iinc 5 1, 3) := by decide +kernel
theorem dX7_chance_52 : decode cX7_chance 52 = .ok (.goto (-23), 3) := by decide +kernel
theorem dX7_chance_55 : decode cX7_chance 55 = .ok (.iload 4, 2) := by decide +kernel
theorem dX7_chance_57 : decode cX7_chance 57 = .ok (.iload_n 2, 1) := by decide +kernel
theorem dX7_chance_58 : decode cX7_chance 58 = .ok (.invokestatic 264, 3) := by decide +kernel
theorem dX7_chance_61 : decode cX7_chance 61 = .ok (.istore 5, 2) := by decide +kernel
theorem dX7_chance_63 : decode cX7_chance 63 = .ok (.iload_n 3, 1) := by decide +kernel
theorem dX7_chance_64 : decode cX7_chance 64 = .ok (.ifCond .ne 12, 3) := by decide +kernel
theorem dX7_chance_67 : decode cX7_chance 67 = .ok (.iload 4, 2) := by decide +kernel
theorem dX7_chance_69 : decode cX7_chance 69 = .ok (.iload 5, 2) := by decide +kernel
theorem dX7_chance_71 : decode cX7_chance 71 = .ok (.idiv, 1) := by decide +kernel
theorem dX7_chance_72 : decode cX7_chance 72 = .ok (.i2l, 1) := by decide +kernel
theorem dX7_chance_73 : decode cX7_chance 73 = .ok (.goto 8, 3) := by decide +kernel
theorem dX7_chance_76 : decode cX7_chance 76 = .ok (.iload_n 2, 1) := by decide +kernel
theorem dX7_chance_77 : decode cX7_chance 77 = .ok (.iload 5, 2) := by decide +kernel
theorem dX7_chance_79 : decode cX7_chance 79 = .ok (.idiv, 1) := by decide +kernel
theorem dX7_chance_80 : decode cX7_chance 80 = .ok (.i2l, 1) := by decide +kernel
theorem dX7_chance_81 : decode cX7_chance 81 = .ok (.lreturn, 1) := by decide +kernel
theorem dX7_commonDivisor_0 : decode cX7_commonDivisor 0 = .ok (.iload_n 1, 1) := by decide +kernel
theorem dX7_commonDivisor_1 : decode cX7_commonDivisor 1 = .ok (.istore_n 2, 1) := by decide +kernel
theorem dX7_commonDivisor_2 : decode cX7_commonDivisor 2 = .ok (.iload_n 2, 1) := by decide +kernel
theorem dX7_commonDivisor_3 : decode cX7_commonDivisor 3 = .ok (.iconst 1, 1) := by decide +kernel
theorem dX7_commonDivisor_4 : decode cX7_commonDivisor 4 = .ok (.if_icmp .le 23, 3) := by decide +kernel
theorem dX7_commonDivisor_7 : decode cX7_commonDivisor 7 = .ok (.iload_n 0, 1) := by decide +kernel
theorem dX7_commonDivisor_8 : decode cX7_commonDivisor 8 = .ok (.iload_n 2, 1) := by decide +kernel
theorem dX7_commonDivisor_9 : decode cX7_commonDivisor 9 = .ok (.irem, 1) := by decide +kernel
theorem dX7_commonDivisor_10 : decode cX7_commonDivisor 10 = .ok (.ifCond .ne 11, 3) := by decide +kernel
theorem dX7_commonDivisor_13 : decode cX7_commonDivisor 13 = .ok (.iload_n 1, 1) := by decide +kernel
theorem dX7_commonDivisor_14 : decode cX7_commonDivisor 14 = .ok (.iload_n 2, 1) := by decide +kernel
theorem dX7_commonDivisor_15 : decode cX7_commonDivisor 15 = .ok (.irem, 1) := by decide +kernel
theorem dX7_commonDivisor_16 : decode cX7_commonDivisor 16 = .ok (.ifCond .ne 5, 3) := by decide +kernel
theorem dX7_commonDivisor_19 : decode cX7_commonDivisor 19 = .ok (.iload_n 2, 1) := by decide +kernel
theorem dX7_commonDivisor_20 : decode cX7_commonDivisor 20 = .ok (.ireturn, 1) := by decide +kernel
theorem dX7_commonDivisor_21 : decode cX7_commonDivisor 21 = .ok (.iinc 2 (-1), 3) := by decide +kernel
theorem dX7_commonDivisor_24 : decode cX7_commonDivisor 24 = .ok (.goto (-22), 3) := by decide +kernel
theorem dX7_commonDivisor_27 : decode cX7_commonDivisor 27 = .ok (.iconst 1, 1) := by decide +kernel
theorem dX7_commonDivisor_28 : decode cX7_commonDivisor 28 = .ok (.ireturn, 1) := by decide +kernel
theorem dX7_image_0 : decode cX7_image 0 = .ok (.aload_n 0, 1) := by decide +kernel
theorem dX7_image_1 : decode cX7_image 1 = .ok (.getfield 99, 3) := by decide +kernel
theorem dX7_image_4 : decode cX7_image 4 = .ok (.aload_n 0, 1) := by decide +kernel
theorem dX7_image_5 : decode cX7_image 5 = .ok (.getfield 92, 3) := by decide +kernel
theorem dX7_image_8 : decode cX7_image 8 = .ok (.invokevirtual 190, 3) := by decide +kernel
theorem dX7_image_11 : decode cX7_image 11 = .ok (.aload_n 0, 1) := by decide +kernel
theorem dX7_image_12 : decode cX7_image 12 = .ok (.iconst 1, 1) := by decide +kernel
theorem dX7_image_13 : decode cX7_image 13 = .ok (.putfield 26, 3) := by decide +kernel
theorem dX7_image_16 : decode cX7_image 16 = .ok (.aload_n 0, 1) := by decide +kernel
theorem dX7_image_17 : decode cX7_image 17 = .ok (.getfield 92, 3) := by decide +kernel
theorem dX7_image_20 : decode cX7_image 20 = .ok (.getfield 106, 3) := by decide +kernel
theorem dX7_image_23 : decode cX7_image 23 = .ok (.ireturn, 1) := by decide +kernel
theorem dX7_back_0 : decode cX7_back 0 = .ok (.aload_n 0, 1) := by decide +kernel
theorem dX7_back_1 : decode cX7_back 1 = .ok (.getfield 26, 3) := by decide +kernel
theorem dX7_back_4 : decode cX7_back 4 = .ok (.ifCond .ne 6, 3) := by decide +kernel
theorem dX7_back_7 : decode cX7_back 7 = .ok (.bipush (-3), 2) := by decide +kernel
theorem dX7_back_9 : decode cX7_back 9 = .ok (.ireturn, 1) := by decide +kernel
theorem dX7_back_10 : decode cX7_back 10 = .ok (.aload_n 0, 1) := by decide +kernel
theorem dX7_back_11 : decode cX7_back 11 = .ok (.getfield 92, 3) := by decide +kernel
theorem dX7_back_14 : decode cX7_back 14 = .ok (.aload_n 0, 1) := by decide +kernel
theorem dX7_back_15 : decode cX7_back 15 = .ok (.getfield 99, 3) := by decide +kernel
theorem dX7_back_18 : decode cX7_back 18 = .ok (.invokevirtual 190, 3) := by decide +kernel
theorem dX7_back_21 : decode cX7_back 21 = .ok (.aload_n 0, 1) := by decide +kernel
theorem dX7_back_22 : decode cX7_back 22 = .ok (.getfield 92, 3) := by decide +kernel
theorem dX7_back_25 : decode cX7_back 25 = .ok (.getfield 106, 3) := by decide +kernel
theorem dX7_back_28 : decode cX7_back 28 = .ok (.ireturn, 1) := by decide +kernel
theorem dX7_count_0 : decode cX7_count 0 = .ok (.iload_n 1, 1) := by decide +kernel
theorem dX7_count_1 : decode cX7_count 1 = .ok (.tableswitch 99 0 6 #[43, 51, 59, 67, 75, 80, 88], 43) := by decide +kernel
theorem dX7_count_44 : decode cX7_count 44 = .ok (.aload_n 0, 1) := by decide +kernel
theorem dX7_count_45 : decode cX7_count 45 = .ok (.getfield 92, 3) := by decide +kernel
theorem dX7_count_48 : decode cX7_count 48 = .ok (.getfield 106, 3) := by decide +kernel
theorem dX7_count_51 : decode cX7_count 51 = .ok (.ireturn, 1) := by decide +kernel
theorem dX7_count_52 : decode cX7_count 52 = .ok (.aload_n 0, 1) := by decide +kernel
theorem dX7_count_53 : decode cX7_count 53 = .ok (.getfield 92, 3) := by decide +kernel
theorem dX7_count_56 : decode cX7_count 56 = .ok (.getfield 114, 3) := by decide +kernel
theorem dX7_count_59 : decode cX7_count 59 = .ok (.ireturn, 1) := by decide +kernel
theorem dX7_count_60 : decode cX7_count 60 = .ok (.aload_n 0, 1) := by decide +kernel
theorem dX7_count_61 : decode cX7_count 61 = .ok (.getfield 92, 3) := by decide +kernel
theorem dX7_count_64 : decode cX7_count 64 = .ok (.invokevirtual 242, 3) := by decide +kernel
theorem dX7_count_67 : decode cX7_count 67 = .ok (.ireturn, 1) := by decide +kernel
theorem dX7_count_68 : decode cX7_count 68 = .ok (.aload_n 0, 1) := by decide +kernel
theorem dX7_count_69 : decode cX7_count 69 = .ok (.getfield 92, 3) := by decide +kernel
theorem dX7_count_72 : decode cX7_count 72 = .ok (.getfield 267, 3) := by decide +kernel
theorem dX7_count_75 : decode cX7_count 75 = .ok (.ireturn, 1) := by decide +kernel
theorem dX7_count_76 : decode cX7_count 76 = .ok (.aload_n 0, 1) := by decide +kernel
theorem dX7_count_77 : decode cX7_count 77 = .ok (.getfield 22, 3) := by decide +kernel
theorem dX7_count_80 : decode cX7_count 80 = .ok (.ireturn, 1) := by decide +kernel
theorem dX7_count_81 : decode cX7_count 81 = .ok (.aload_n 0, 1) := by decide +kernel
theorem dX7_count_82 : decode cX7_count 82 = .ok (.getfield 10, 3) := by decide +kernel
theorem dX7_count_85 : decode cX7_count 85 = .ok (.getfield 84, 3) := by decide +kernel
theorem dX7_count_88 : decode cX7_count 88 = .ok (.ireturn, 1) := by decide +kernel
theorem dX7_count_89 : decode cX7_count 89 = .ok (.aload_n 0, 1) := by decide +kernel
theorem dX7_count_90 : decode cX7_count 90 = .ok (.getfield 92, 3) := by decide +kernel
theorem dX7_count_93 : decode cX7_count 93 = .ok (.getfield 181, 3) := by decide +kernel
theorem dX7_count_96 : decode cX7_count 96 = .ok (.getfield 185, 3) := by decide +kernel
theorem dX7_count_99 : decode cX7_count 99 = .ok (.ireturn, 1) := by decide +kernel
theorem dX7_count_100 : decode cX7_count 100 = .ok (.bipush (-2), 2) := by decide +kernel
theorem dX7_count_102 : decode cX7_count 102 = .ok (.ireturn, 1) := by decide +kernel
theorem dX7_sheet_0 : decode cX7_sheet 0 = .ok (.iload_n 1, 1) := by decide +kernel
theorem dX7_sheet_1 : decode cX7_sheet 1 = .ok (.invokestatic 224, 3) := by decide +kernel
theorem dX7_sheet_4 : decode cX7_sheet 4 = .ok (.ifCond .eq 12, 3) := by decide +kernel
theorem dX7_sheet_7 : decode cX7_sheet 7 = .ok (.iload_n 2, 1) := by decide +kernel
theorem dX7_sheet_8 : decode cX7_sheet 8 = .ok (.iconst (-1), 1) := by decide +kernel
theorem dX7_sheet_9 : decode cX7_sheet 9 = .ok (.iconst 2, 1) := by decide +kernel
theorem dX7_sheet_10 : decode cX7_sheet 10 = .ok (.invokestatic 102, 3) := by decide +kernel
theorem dX7_sheet_13 : decode cX7_sheet 13 = .ok (.ifCond .ne 6, 3) := by decide +kernel
theorem dX7_sheet_16 : decode cX7_sheet 16 = .ok (.bipush (-2), 2) := by decide +kernel
theorem dX7_sheet_18 : decode cX7_sheet 18 = .ok (.ireturn, 1) := by decide +kernel
theorem dX7_sheet_19 : decode cX7_sheet 19 = .ok (.iload_n 2, 1) := by decide +kernel
theorem dX7_sheet_20 : decode cX7_sheet 20 = .ok (.iconst (-1), 1) := by decide +kernel
theorem dX7_sheet_21 : decode cX7_sheet 21 = .ok (.if_icmp .ne 16, 3) := by decide +kernel
theorem dX7_sheet_24 : decode cX7_sheet 24 = .ok (.aload_n 0, 1) := by decide +kernel
theorem dX7_sheet_25 : decode cX7_sheet 25 = .ok (.getfield 46, 3) := by decide +kernel
theorem dX7_sheet_28 : decode cX7_sheet 28 = .ok (.iload_n 1, 1) := by decide +kernel
theorem dX7_sheet_29 : decode cX7_sheet 29 = .ok (.aaload, 1) := by decide +kernel
theorem dX7_sheet_30 : decode cX7_sheet 30 = .ok (.iload_n 2, 1) := by decide +kernel
theorem dX7_sheet_31 : decode cX7_sheet 31 = .ok (.iconst 0, 1) := by decide +kernel
theorem dX7_sheet_32 : decode cX7_sheet 32 = .ok (.invokevirtual 270, 3) := by decide +kernel
theorem dX7_sheet_35 : decode cX7_sheet 35 = .ok (.iconst 1, 1) := by decide +kernel
theorem dX7_sheet_36 : decode cX7_sheet 36 = .ok (.ireturn, 1) := by decide +kernel
theorem dX7_sheet_37 : decode cX7_sheet 37 = .ok (.iload_n 3, 1) := by decide +kernel
theorem dX7_sheet_38 : decode cX7_sheet 38 = .ok (.bipush 40, 2) := by decide +kernel
theorem dX7_sheet_40 : decode cX7_sheet 40 = .ok (.if_icmp .le 6, 3) := by decide +kernel
theorem dX7_sheet_43 : decode cX7_sheet 43 = .ok (.bipush (-2), 2) := by decide +kernel
theorem dX7_sheet_45 : decode cX7_sheet 45 = .ok (.ireturn, 1) := by decide +kernel
theorem dX7_sheet_46 : decode cX7_sheet 46 = .ok (.iload_n 3, 1) := by decide +kernel
theorem dX7_sheet_47 : decode cX7_sheet 47 = .ok (.ifCond .ge 6, 3) := by decide +kernel
theorem dX7_sheet_50 : decode cX7_sheet 50 = .ok (.bipush (-14), 2) := by decide +kernel
theorem dX7_sheet_52 : decode cX7_sheet 52 = .ok (.ireturn, 1) := by decide +kernel
theorem dX7_sheet_53 : decode cX7_sheet 53 = .ok (.aload_n 0, 1) := by decide +kernel
theorem dX7_sheet_54 : decode cX7_sheet 54 = .ok (.getfield 46, 3) := by decide +kernel
theorem dX7_sheet_57 : decode cX7_sheet 57 = .ok (.iload_n 1, 1) := by decide +kernel
theorem dX7_sheet_58 : decode cX7_sheet 58 = .ok (.aaload, 1) := by decide +kernel
theorem dX7_sheet_59 : decode cX7_sheet 59 = .ok (.iload_n 2, 1) := by decide +kernel
theorem dX7_sheet_60 : decode cX7_sheet 60 = .ok (.iload_n 3, 1) := by decide +kernel
theorem dX7_sheet_61 : decode cX7_sheet 61 = .ok (.invokevirtual 270, 3) := by decide +kernel
theorem dX7_sheet_64 : decode cX7_sheet 64 = .ok (.iconst 1, 1) := by decide +kernel
theorem dX7_sheet_65 : decode cX7_sheet 65 = .ok (.ireturn, 1) := by decide +kernel
theorem dX7_cell_0 : decode cX7_cell 0 = .ok (.iload_n 1, 1) := by decide +kernel
theorem dX7_cell_1 : decode cX7_cell 1 = .ok (.invokestatic 224, 3) := by decide +kernel
theorem dX7_cell_4 : decode cX7_cell 4 = .ok (.ifCond .ne 6, 3) := by decide +kernel
theorem dX7_cell_7 : decode cX7_cell 7 = .ok (.bipush (-2), 2) := by decide +kernel
theorem dX7_cell_9 : decode cX7_cell 9 = .ok (.ireturn, 1) := by decide +kernel
theorem dX7_cell_10 : decode cX7_cell 10 = .ok (.aload_n 0, 1) := by decide +kernel
theorem dX7_cell_11 : decode cX7_cell 11 = .ok (.getfield 46, 3) := by decide +kernel
theorem dX7_cell_14 : decode cX7_cell 14 = .ok (.iload_n 1, 1) := by decide +kernel
theorem dX7_cell_15 : decode cX7_cell 15 = .ok (.aaload, 1) := by decide +kernel
theorem dX7_cell_16 : decode cX7_cell 16 = .ok (.astore 4, 2) := by decide +kernel
theorem dX7_cell_18 : decode cX7_cell 18 = .ok (.aload 4, 2) := by decide +kernel
theorem dX7_cell_20 : decode cX7_cell 20 = .ok (.invokevirtual 227, 3) := by decide +kernel
theorem dX7_cell_23 : decode cX7_cell 23 = .ok (.ifCond .eq 6, 3) := by decide +kernel
theorem dX7_cell_26 : decode cX7_cell 26 = .ok (.bipush (-11), 2) := by decide +kernel
theorem dX7_cell_28 : decode cX7_cell 28 = .ok (.ireturn, 1) := by decide +kernel
theorem dX7_cell_29 : decode cX7_cell 29 = .ok (.aload 4, 2) := by decide +kernel
theorem dX7_cell_31 : decode cX7_cell 31 = .ok (.iload_n 2, 1) := by decide +kernel
theorem dX7_cell_32 : decode cX7_cell 32 = .ok (.iconst 1, 1) := by decide +kernel
theorem dX7_cell_33 : decode cX7_cell 33 = .ok (.invokevirtual 274, 3) := by decide +kernel
theorem dX7_cell_36 : decode cX7_cell 36 = .ok (.ifCond .ne 6, 3) := by decide +kernel
theorem dX7_cell_39 : decode cX7_cell 39 = .ok (.bipush (-12), 2) := by decide +kernel
theorem dX7_cell_41 : decode cX7_cell 41 = .ok (.ireturn, 1) := by decide +kernel
theorem dX7_cell_42 : decode cX7_cell 42 = .ok (.aload 4, 2) := by decide +kernel
theorem dX7_cell_44 : decode cX7_cell 44 = .ok (.iload_n 2, 1) := by decide +kernel
theorem dX7_cell_45 : decode cX7_cell 45 = .ok (.iload_n 3, 1) := by decide +kernel
theorem dX7_cell_46 : decode cX7_cell 46 = .ok (.invokevirtual 277, 3) := by decide +kernel
theorem dX7_cell_49 : decode cX7_cell 49 = .ok (.iconst 1, 1) := by decide +kernel
theorem dX7_cell_50 : decode cX7_cell 50 = .ok (.ireturn, 1) := by decide +kernel
theorem dX7_copy_0 : decode cX7_copy 0 = .ok (.iload_n 1, 1) := by decide +kernel
theorem dX7_copy_1 : decode cX7_copy 1 = .ok (.invokestatic 224, 3) := by decide +kernel
theorem dX7_copy_4 : decode cX7_copy 4 = .ok (.ifCond .eq 10, 3) := by decide +kernel
theorem dX7_copy_7 : decode cX7_copy 7 = .ok (.iload_n 3, 1) := by decide +kernel
theorem dX7_copy_8 : decode cX7_copy 8 = .ok (.invokestatic 224, 3) := by decide +kernel
theorem dX7_copy_11 : decode cX7_copy 11 = .ok (.ifCond .ne 6, 3) := by decide +kernel
theorem dX7_copy_14 : decode cX7_copy 14 = .ok (.bipush (-2), 2) := by decide +kernel
theorem dX7_copy_16 : decode cX7_copy 16 = .ok (.ireturn, 1) := by decide +kernel
theorem dX7_copy_17 : decode cX7_copy 17 = .ok (.aload_n 0, 1) := by decide +kernel
theorem dX7_copy_18 : decode cX7_copy 18 = .ok (.getfield 46, 3) := by decide +kernel
theorem dX7_copy_21 : decode cX7_copy 21 = .ok (.iload_n 1, 1) := by decide +kernel
theorem dX7_copy_22 : decode cX7_copy 22 = .ok (.aaload, 1) := by decide +kernel
theorem dX7_copy_23 : decode cX7_copy 23 = .ok (.astore 6, 2) := by decide +kernel
theorem dX7_copy_25 : decode cX7_copy 25 = .ok (.aload_n 0, 1) := by decide +kernel
theorem dX7_copy_26 : decode cX7_copy 26 = .ok (.getfield 46, 3) := by decide +kernel
theorem dX7_copy_29 : decode cX7_copy 29 = .ok (.iload_n 3, 1) := by decide +kernel
theorem dX7_copy_30 : decode cX7_copy 30 = .ok (.aaload, 1) := by decide +kernel
theorem dX7_copy_31 : decode cX7_copy 31 = .ok (.astore 7, 2) := by decide +kernel
theorem dX7_copy_33 : decode cX7_copy 33 = .ok (.aload 6, 2) := by decide +kernel
theorem dX7_copy_35 : decode cX7_copy 35 = .ok (.invokevirtual 227, 3) := by decide +kernel
theorem dX7_copy_38 : decode cX7_copy 38 = .ok (.ifCond .ne 11, 3) := by decide +kernel
theorem dX7_copy_41 : decode cX7_copy 41 = .ok (.aload 7, 2) := by decide +kernel
theorem dX7_copy_43 : decode cX7_copy 43 = .ok (.invokevirtual 227, 3) := by decide +kernel
theorem dX7_copy_46 : decode cX7_copy 46 = .ok (.ifCond .eq 6, 3) := by decide +kernel
theorem dX7_copy_49 : decode cX7_copy 49 = .ok (.bipush (-11), 2) := by decide +kernel
theorem dX7_copy_51 : decode cX7_copy 51 = .ok (.ireturn, 1) := by decide +kernel
theorem dX7_copy_52 : decode cX7_copy 52 = .ok (.aload 6, 2) := by decide +kernel
theorem dX7_copy_54 : decode cX7_copy 54 = .ok (.getfield 280, 3) := by decide +kernel
theorem dX7_copy_57 : decode cX7_copy 57 = .ok (.aload 7, 2) := by decide +kernel
theorem dX7_copy_59 : decode cX7_copy 59 = .ok (.getfield 280, 3) := by decide +kernel
theorem dX7_copy_62 : decode cX7_copy 62 = .ok (.if_icmp .eq 6, 3) := by decide +kernel
theorem dX7_copy_65 : decode cX7_copy 65 = .ok (.bipush (-13), 2) := by decide +kernel
theorem dX7_copy_67 : decode cX7_copy 67 = .ok (.ireturn, 1) := by decide +kernel
theorem dX7_copy_68 : decode cX7_copy 68 = .ok (.aload 6, 2) := by decide +kernel
theorem dX7_copy_70 : decode cX7_copy 70 = .ok (.iload_n 2, 1) := by decide +kernel
theorem dX7_copy_71 : decode cX7_copy 71 = .ok (.iload 5, 2) := by decide +kernel
theorem dX7_copy_73 : decode cX7_copy 73 = .ok (.invokevirtual 274, 3) := by decide +kernel
theorem dX7_copy_76 : decode cX7_copy 76 = .ok (.ifCond .eq 15, 3) := by decide +kernel
theorem dX7_copy_79 : decode cX7_copy 79 = .ok (.aload 7, 2) := by decide +kernel
theorem dX7_copy_81 : decode cX7_copy 81 = .ok (.iload 4, 2) := by decide +kernel
theorem dX7_copy_83 : decode cX7_copy 83 = .ok (.iload 5, 2) := by decide +kernel
theorem dX7_copy_85 : decode cX7_copy 85 = .ok (.invokevirtual 274, 3) := by decide +kernel
theorem dX7_copy_88 : decode cX7_copy 88 = .ok (.ifCond .ne 6, 3) := by decide +kernel
theorem dX7_copy_91 : decode cX7_copy 91 = .ok (.bipush (-12), 2) := by decide +kernel
theorem dX7_copy_93 : decode cX7_copy 93 = .ok (.ireturn, 1) := by decide +kernel
theorem dX7_copy_94 : decode cX7_copy 94 = .ok (.aload 6, 2) := by decide +kernel
theorem dX7_copy_96 : decode cX7_copy 96 = .ok (.getfield 232, 3) := by decide +kernel
theorem dX7_copy_99 : decode cX7_copy 99 = .ok (.iload_n 2, 1) := by decide +kernel
theorem dX7_copy_100 : decode cX7_copy 100 = .ok (.aload 7, 2) := by decide +kernel
theorem dX7_copy_102 : decode cX7_copy 102 = .ok (.getfield 232, 3) := by decide +kernel
theorem dX7_copy_105 : decode cX7_copy 105 = .ok (.iload 4, 2) := by decide +kernel
theorem dX7_copy_107 : decode cX7_copy 107 = .ok (.iload 5, 2) := by decide +kernel
theorem dX7_copy_109 : decode cX7_copy 109 = .ok (.invokestatic 283, 3) := by decide +kernel
theorem dX7_copy_112 : decode cX7_copy 112 = .ok (.iload 5, 2) := by decide +kernel
theorem dX7_copy_114 : decode cX7_copy 114 = .ok (.ireturn, 1) := by decide +kernel
theorem dX7_likings_0 : decode cX7_likings 0 = .ok (.iload_n 1, 1) := by decide +kernel
theorem dX7_likings_1 : decode cX7_likings 1 = .ok (.invokestatic 224, 3) := by decide +kernel
theorem dX7_likings_4 : decode cX7_likings 4 = .ok (.ifCond .eq 23, 3) := by decide +kernel
theorem dX7_likings_7 : decode cX7_likings 7 = .ok (.iload_n 2, 1) := by decide +kernel
theorem dX7_likings_8 : decode cX7_likings 8 = .ok (.iconst 0, 1) := by decide +kernel
theorem dX7_likings_9 : decode cX7_likings 9 = .ok (.iconst 2, 1) := by decide +kernel
theorem dX7_likings_10 : decode cX7_likings 10 = .ok (.invokestatic 102, 3) := by decide +kernel
theorem dX7_likings_13 : decode cX7_likings 13 = .ok (.ifCond .eq 14, 3) := by decide +kernel
theorem dX7_likings_16 : decode cX7_likings 16 = .ok (.iload 4, 2) := by decide +kernel
theorem dX7_likings_18 : decode cX7_likings 18 = .ok (.iconst 0, 1) := by decide +kernel
theorem dX7_likings_19 : decode cX7_likings 19 = .ok (.bipush 10, 2) := by decide +kernel
theorem dX7_likings_21 : decode cX7_likings 21 = .ok (.invokestatic 102, 3) := by decide +kernel
theorem dX7_likings_24 : decode cX7_likings 24 = .ok (.ifCond .ne 6, 3) := by decide +kernel
theorem dX7_likings_27 : decode cX7_likings 27 = .ok (.bipush (-2), 2) := by decide +kernel
theorem dX7_likings_29 : decode cX7_likings 29 = .ok (.ireturn, 1) := by decide +kernel
theorem dX7_likings_30 : decode cX7_likings 30 = .ok (.aload_n 0, 1) := by decide +kernel
theorem dX7_likings_31 : decode cX7_likings 31 = .ok (.getfield 46, 3) := by decide +kernel
theorem dX7_likings_34 : decode cX7_likings 34 = .ok (.iload_n 1, 1) := by decide +kernel
theorem dX7_likings_35 : decode cX7_likings 35 = .ok (.aaload, 1) := by decide +kernel
theorem dX7_likings_36 : decode cX7_likings 36 = .ok (.astore 5, 2) := by decide +kernel
theorem dX7_likings_38 : decode cX7_likings 38 = .ok (.aload 5, 2) := by decide +kernel
theorem dX7_likings_40 : decode cX7_likings 40 = .ok (.invokevirtual 227, 3) := by decide +kernel
theorem dX7_likings_43 : decode cX7_likings 43 = .ok (.ifCond .eq 6, 3) := by decide +kernel
theorem dX7_likings_46 : decode cX7_likings 46 = .ok (.bipush (-11), 2) := by decide +kernel
theorem dX7_likings_48 : decode cX7_likings 48 = .ok (.ireturn, 1) := by decide +kernel
theorem dX7_likings_49 : decode cX7_likings 49 = .ok (.aload 5, 2) := by decide +kernel
theorem dX7_likings_51 : decode cX7_likings 51 = .ok (.getfield 280, 3) := by decide +kernel
theorem dX7_likings_54 : decode cX7_likings 54 = .ok (.iload_n 2, 1) := by decide +kernel
theorem dX7_likings_55 : decode cX7_likings 55 = .ok (.if_icmp .eq 6, 3) := by decide +kernel
theorem dX7_likings_58 : decode cX7_likings 58 = .ok (.bipush (-13), 2) := by decide +kernel
theorem dX7_likings_60 : decode cX7_likings 60 = .ok (.ireturn, 1) := by decide +kernel
theorem dX7_likings_61 : decode cX7_likings 61 = .ok (.iconst 0, 1) := by decide +kernel
theorem dX7_likings_62 : decode cX7_likings 62 = .ok (.istore 6, 2) := by decide +kernel
theorem dX7_likings_64 : decode cX7_likings 64 = .ok (.iconst 0, 1) := by decide +kernel
theorem dX7_likings_65 : decode cX7_likings 65 = .ok (.istore 7, 2) := by decide +kernel
theorem dX7_likings_67 : decode cX7_likings 67 = .ok (.iload 7, 2) := by decide +kernel
theorem dX7_likings_69 : decode cX7_likings 69 = .ok (.iload 4, 2) := by decide +kernel
theorem dX7_likings_71 : decode cX7_likings 71 = .ok (.if_icmp .ge 76, 3) := by decide +kernel
theorem dX7_likings_74 : decode cX7_likings 74 = .ok (.iload_n 3, 1) := by decide +kernel
theorem dX7_likings_75 : decode cX7_likings 75 = .ok (.iconst 4, 1) := by decide +kernel
theorem dX7_likings_76 : decode cX7_likings 76 = .ok (.iload 7, 2) := by decide +kernel
theorem dX7_likings_78 : decode cX7_likings 78 = .ok (.imul, 1) := by decide +kernel
theorem dX7_likings_79 : decode cX7_likings 79 = .ok (.iadd, 1) := by decide +kernel
theorem dX7_likings_80 : decode cX7_likings 80 = .ok (.istore 8, 2) := by decide +kernel
theorem dX7_likings_82 : decode cX7_likings 82 = .ok (.aload 5, 2) := by decide +kernel
theorem dX7_likings_84 : decode cX7_likings 84 = .ok (.iload 8, 2) := by decide +kernel
theorem dX7_likings_86 : decode cX7_likings 86 = .ok (.iconst 4, 1) := by decide +kernel
theorem dX7_likings_87 : decode cX7_likings 87 = .ok (.invokevirtual 274, 3) := by decide +kernel
theorem dX7_likings_90 : decode cX7_likings 90 = .ok (.ifCond .ne 6, 3) := by decide +kernel
theorem dX7_likings_93 : decode cX7_likings 93 = .ok (.bipush (-12), 2) := by decide +kernel
theorem dX7_likings_95 : decode cX7_likings 95 = .ok (.ireturn, 1) := by decide +kernel
theorem dX7_likings_96 : decode cX7_likings 96 = .ok (.aload 5, 2) := by decide +kernel
theorem dX7_likings_98 : decode cX7_likings 98 = .ok (.getfield 232, 3) := by decide +kernel
theorem dX7_likings_101 : decode cX7_likings 101 = .ok (.astore 9, 2) := by decide +kernel
theorem dX7_likings_103 : decode cX7_likings 103 = .ok (.aload_n 0, 1) := by decide +kernel
theorem dX7_likings_104 : decode cX7_likings 104 = .ok (.aload 9, 2) := by decide +kernel
theorem dX7_likings_106 : decode cX7_likings 106 = .ok (.iload 8, 2) := by decide +kernel
theorem dX7_likings_108 : decode cX7_likings 108 = .ok (.iaload, 1) := by decide +kernel
theorem dX7_likings_109 : decode cX7_likings 109 = .ok (.aload 9, 2) := by decide +kernel
theorem dX7_likings_111 : decode cX7_likings 111 = .ok (.iload 8, 2) := by decide +kernel
theorem dX7_likings_113 : decode cX7_likings 113 = .ok (.iconst 1, 1) := by decide +kernel
theorem dX7_likings_114 : decode cX7_likings 114 = .ok (.iadd, 1) := by decide +kernel
theorem dX7_likings_115 : decode cX7_likings 115 = .ok (.iaload, 1) := by decide +kernel
theorem dX7_likings_116 : decode cX7_likings 116 = .ok (.aload 9, 2) := by decide +kernel
theorem dX7_likings_118 : decode cX7_likings 118 = .ok (.iload 8, 2) := by decide +kernel
theorem dX7_likings_120 : decode cX7_likings 120 = .ok (.iconst 2, 1) := by decide +kernel
theorem dX7_likings_121 : decode cX7_likings 121 = .ok (.iadd, 1) := by decide +kernel
theorem dX7_likings_122 : decode cX7_likings 122 = .ok (.iaload, 1) := by decide +kernel
theorem dX7_likings_123 : decode cX7_likings 123 = .ok (.aload 9, 2) := by decide +kernel
theorem dX7_likings_125 : decode cX7_likings 125 = .ok (.iload 8, 2) := by decide +kernel
theorem dX7_likings_127 : decode cX7_likings 127 = .ok (.iconst 3, 1) := by decide +kernel
theorem dX7_likings_128 : decode cX7_likings 128 = .ok (.iadd, 1) := by decide +kernel
theorem dX7_likings_129 : decode cX7_likings 129 = .ok (.iaload, 1) := by decide +kernel
theorem dX7_likings_130 : decode cX7_likings 130 = .ok (.invokevirtual 289, 3) := by decide +kernel
theorem dX7_likings_133 : decode cX7_likings 133 = .ok (.bipush (-2), 2) := by decide +kernel
theorem dX7_likings_135 : decode cX7_likings 135 = .ok (.if_icmp .eq 6, 3) := by decide +kernel
theorem dX7_likings_138 : decode cX7_likings 138 = .ok (.iinc 6 1, 3) := by decide +kernel
theorem dX7_likings_141 : decode cX7_likings 141 = .ok (.iinc 7 1, 3) := by decide +kernel
theorem dX7_likings_144 : decode cX7_likings 144 = .ok (.goto (-77), 3) := by decide +kernel
theorem dX7_likings_147 : decode cX7_likings 147 = .ok (.iload 6, 2) := by decide +kernel
theorem dX7_likings_149 : decode cX7_likings 149 = .ok (.ireturn, 1) := by decide +kernel
theorem dX7_taken_0 : decode cX7_taken 0 = .ok (.iload_n 2, 1) := by decide +kernel
theorem dX7_taken_1 : decode cX7_taken 1 = .ok (.iconst 0, 1) := by decide +kernel
theorem dX7_taken_2 : decode cX7_taken 2 = .ok (.iconst 5, 1) := by decide +kernel
theorem dX7_taken_3 : decode cX7_taken 3 = .ok (.invokestatic 102, 3) := by decide +kernel
theorem dX7_taken_6 : decode cX7_taken 6 = .ok (.ifCond .ne 6, 3) := by decide +kernel
theorem dX7_taken_9 : decode cX7_taken 9 = .ok (.bipush (-2), 2) := by decide +kernel
theorem dX7_taken_11 : decode cX7_taken 11 = .ok (.ireturn, 1) := by decide +kernel
theorem dX7_taken_12 : decode cX7_taken 12 = .ok (.aload_n 0, 1) := by decide +kernel
theorem dX7_taken_13 : decode cX7_taken 13 = .ok (.iload_n 1, 1) := by decide +kernel
theorem dX7_taken_14 : decode cX7_taken 14 = .ok (.invokevirtual 144, 3) := by decide +kernel
theorem dX7_taken_17 : decode cX7_taken 17 = .ok (.ifCond .ne 6, 3) := by decide +kernel
theorem dX7_taken_20 : decode cX7_taken 20 = .ok (.bipush (-11), 2) := by decide +kernel
theorem dX7_taken_22 : decode cX7_taken 22 = .ok (.ireturn, 1) := by decide +kernel
theorem dX7_taken_23 : decode cX7_taken 23 = .ok (.aload_n 0, 1) := by decide +kernel
theorem dX7_taken_24 : decode cX7_taken 24 = .ok (.getfield 92, 3) := by decide +kernel
theorem dX7_taken_27 : decode cX7_taken 27 = .ok (.getfield 117, 3) := by decide +kernel
theorem dX7_taken_30 : decode cX7_taken 30 = .ok (.iload_n 1, 1) := by decide +kernel
theorem dX7_taken_31 : decode cX7_taken 31 = .ok (.iaload, 1) := by decide +kernel
theorem dX7_taken_32 : decode cX7_taken 32 = .ok (.iload_n 2, 1) := by decide +kernel
theorem dX7_taken_33 : decode cX7_taken 33 = .ok (.invokestatic 293, 3) := by decide +kernel
theorem dX7_taken_36 : decode cX7_taken 36 = .ok (.ifCond .eq 15, 3) := by decide +kernel
theorem dX7_taken_39 : decode cX7_taken 39 = .ok (.aload_n 0, 1) := by decide +kernel
theorem dX7_taken_40 : decode cX7_taken 40 = .ok (.getfield 92, 3) := by decide +kernel
theorem dX7_taken_43 : decode cX7_taken 43 = .ok (.getfield 120, 3) := by decide +kernel
theorem dX7_taken_46 : decode cX7_taken 46 = .ok (.iload_n 1, 1) := by decide +kernel
theorem dX7_taken_47 : decode cX7_taken 47 = .ok (.iaload, 1) := by decide +kernel
theorem dX7_taken_48 : decode cX7_taken 48 = .ok (.goto 5, 3) := by decide +kernel
theorem dX7_taken_51 : decode cX7_taken 51 = .ok (.bipush (-13), 2) := by decide +kernel
theorem dX7_taken_53 : decode cX7_taken 53 = .ok (.ireturn, 1) := by decide +kernel
theorem dX7_within_0 : decode cX7_within 0 = .ok (.iload_n 1, 1) := by decide +kernel
theorem dX7_within_1 : decode cX7_within 1 = .ok (.iload_n 0, 1) := by decide +kernel
theorem dX7_within_2 : decode cX7_within 2 = .ok (.if_icmp .gt 12, 3) := by decide +kernel
theorem dX7_within_5 : decode cX7_within 5 = .ok (.iload_n 0, 1) := by decide +kernel
theorem dX7_within_6 : decode cX7_within 6 = .ok (.iload_n 2, 1) := by decide +kernel
theorem dX7_within_7 : decode cX7_within 7 = .ok (.if_icmp .gt 7, 3) := by decide +kernel
theorem dX7_within_10 : decode cX7_within 10 = .ok (.iconst 1, 1) := by decide +kernel
theorem dX7_within_11 : decode cX7_within 11 = .ok (.goto 4, 3) := by decide +kernel
theorem dX7_within_14 : decode cX7_within 14 = .ok (.iconst 0, 1) := by decide +kernel
theorem dX7_within_15 : decode cX7_within 15 = .ok (.ireturn, 1) := by decide +kernel
theorem dX7_isMan_0 : decode cX7_isMan 0 = .ok (.iload_n 1, 1) := by decide +kernel
theorem dX7_isMan_1 : decode cX7_isMan 1 = .ok (.iconst 0, 1) := by decide +kernel
theorem dX7_isMan_2 : decode cX7_isMan 2 = .ok (.aload_n 0, 1) := by decide +kernel
theorem dX7_isMan_3 : decode cX7_isMan 3 = .ok (.getfield 92, 3) := by decide +kernel
theorem dX7_isMan_6 : decode cX7_isMan 6 = .ok (.getfield 106, 3) := by decide +kernel
theorem dX7_isMan_9 : decode cX7_isMan 9 = .ok (.iconst 1, 1) := by decide +kernel
theorem dX7_isMan_10 : decode cX7_isMan 10 = .ok (.isub, 1) := by decide +kernel
theorem dX7_isMan_11 : decode cX7_isMan 11 = .ok (.invokestatic 102, 3) := by decide +kernel
theorem dX7_isMan_14 : decode cX7_isMan 14 = .ok (.ireturn, 1) := by decide +kernel
theorem dX7_isMaid_0 : decode cX7_isMaid 0 = .ok (.iload_n 1, 1) := by decide +kernel
theorem dX7_isMaid_1 : decode cX7_isMaid 1 = .ok (.iconst 0, 1) := by decide +kernel
theorem dX7_isMaid_2 : decode cX7_isMaid 2 = .ok (.aload_n 0, 1) := by decide +kernel
theorem dX7_isMaid_3 : decode cX7_isMaid 3 = .ok (.getfield 92, 3) := by decide +kernel
theorem dX7_isMaid_6 : decode cX7_isMaid 6 = .ok (.getfield 114, 3) := by decide +kernel
theorem dX7_isMaid_9 : decode cX7_isMaid 9 = .ok (.iconst 1, 1) := by decide +kernel
theorem dX7_isMaid_10 : decode cX7_isMaid 10 = .ok (.isub, 1) := by decide +kernel
theorem dX7_isMaid_11 : decode cX7_isMaid 11 = .ok (.invokestatic 102, 3) := by decide +kernel
theorem dX7_isMaid_14 : decode cX7_isMaid 14 = .ok (.ireturn, 1) := by decide +kernel
theorem dX7_arePair_0 : decode cX7_arePair 0 = .ok (.aload_n 0, 1) := by decide +kernel
theorem dX7_arePair_1 : decode cX7_arePair 1 = .ok (.iload_n 1, 1) := by decide +kernel
theorem dX7_arePair_2 : decode cX7_arePair 2 = .ok (.invokevirtual 141, 3) := by decide +kernel
theorem dX7_arePair_5 : decode cX7_arePair 5 = .ok (.ifCond .eq 15, 3) := by decide +kernel
theorem dX7_arePair_8 : decode cX7_arePair 8 = .ok (.aload_n 0, 1) := by decide +kernel
theorem dX7_arePair_9 : decode cX7_arePair 9 = .ok (.iload_n 2, 1) := by decide +kernel
theorem dX7_arePair_10 : decode cX7_arePair 10 = .ok (.invokevirtual 144, 3) := by decide +kernel
theorem dX7_arePair_13 : decode cX7_arePair 13 = .ok (.ifCond .eq 7, 3) := by decide +kernel
theorem dX7_arePair_16 : decode cX7_arePair 16 = .ok (.iconst 1, 1) := by decide +kernel
theorem dX7_arePair_17 : decode cX7_arePair 17 = .ok (.goto 4, 3) := by decide +kernel
theorem dX7_arePair_20 : decode cX7_arePair 20 = .ok (.iconst 0, 1) := by decide +kernel
theorem dX7_arePair_21 : decode cX7_arePair 21 = .ok (.ireturn, 1) := by decide +kernel
theorem dX7_isSheet_0 : decode cX7_isSheet 0 = .ok (.iload_n 0, 1) := by decide +kernel
theorem dX7_isSheet_1 : decode cX7_isSheet 1 = .ok (.iconst 0, 1) := by decide +kernel
theorem dX7_isSheet_2 : decode cX7_isSheet 2 = .ok (.iconst 3, 1) := by decide +kernel
theorem dX7_isSheet_3 : decode cX7_isSheet 3 = .ok (.invokestatic 102, 3) := by decide +kernel
theorem dX7_isSheet_6 : decode cX7_isSheet 6 = .ok (.ireturn, 1) := by decide +kernel
theorem dX7_replace_0 : decode cX7_replace 0 = .ok (.aload_n 0, 1) := by decide +kernel
theorem dX7_replace_1 : decode cX7_replace 1 = .ok (.iload_n 1, 1) := by decide +kernel
theorem dX7_replace_2 : decode cX7_replace 2 = .ok (.iaload, 1) := by decide +kernel
theorem dX7_replace_3 : decode cX7_replace 3 = .ok (.istore_n 3, 1) := by decide +kernel
theorem dX7_replace_4 : decode cX7_replace 4 = .ok (.aload_n 0, 1) := by decide +kernel
theorem dX7_replace_5 : decode cX7_replace 5 = .ok (.iload_n 1, 1) := by decide +kernel
theorem dX7_replace_6 : decode cX7_replace 6 = .ok (.iload_n 2, 1) := by decide +kernel
theorem dX7_replace_7 : decode cX7_replace 7 = .ok (.iastore, 1) := by decide +kernel
theorem dX7_replace_8 : decode cX7_replace 8 = .ok (.iload_n 3, 1) := by decide +kernel
theorem dX7_replace_9 : decode cX7_replace 9 = .ok (.ireturn, 1) := by decide +kernel
theorem dX7_replaceMonth_0 : decode cX7_replaceMonth 0 = .ok (.aload_n 0, 1) := by decide +kernel
theorem dX7_replaceMonth_1 : decode cX7_replaceMonth 1 = .ok (.getfield 92, 3) := by decide +kernel
theorem dX7_replaceMonth_4 : decode cX7_replaceMonth 4 = .ok (.getfield 267, 3) := by decide +kernel
theorem dX7_replaceMonth_7 : decode cX7_replaceMonth 7 = .ok (.istore_n 2, 1) := by decide +kernel
theorem dX7_replaceMonth_8 : decode cX7_replaceMonth 8 = .ok (.aload_n 0, 1) := by decide +kernel
theorem dX7_replaceMonth_9 : decode cX7_replaceMonth 9 = .ok (.getfield 92, 3) := by decide +kernel
theorem dX7_replaceMonth_12 : decode cX7_replaceMonth 12 = .ok (.iload_n 1, 1) := by decide +kernel
theorem dX7_replaceMonth_13 : decode cX7_replaceMonth 13 = .ok (.putfield 267, 3) := by decide +kernel
theorem dX7_replaceMonth_16 : decode cX7_replaceMonth 16 = .ok (.iload_n 2, 1) := by decide +kernel
theorem dX7_replaceMonth_17 : decode cX7_replaceMonth 17 = .ok (.ireturn, 1) := by decide +kernel
theorem dJ9_max_7cf53_0 : decode cJ9_max_7cf53 0 = .ok (.iload_n 0, 1) := by decide +kernel
theorem dJ9_max_7cf53_1 : decode cJ9_max_7cf53 1 = .ok (.iload_n 1, 1) := by decide +kernel
theorem dJ9_max_7cf53_2 : decode cJ9_max_7cf53 2 = .ok (.if_icmp .lt 7, 3) := by decide +kernel
theorem dJ9_max_7cf53_5 : decode cJ9_max_7cf53 5 = .ok (.iload_n 0, 1) := by decide +kernel
theorem dJ9_max_7cf53_6 : decode cJ9_max_7cf53 6 = .ok (.goto 4, 3) := by decide +kernel
theorem dJ9_max_7cf53_9 : decode cJ9_max_7cf53 9 = .ok (.iload_n 1, 1) := by decide +kernel
theorem dJ9_max_7cf53_10 : decode cJ9_max_7cf53 10 = .ok (.ireturn, 1) := by decide +kernel
theorem dJ9_min_7cf53_0 : decode cJ9_min_7cf53 0 = .ok (.iload_n 0, 1) := by decide +kernel
theorem dJ9_min_7cf53_1 : decode cJ9_min_7cf53 1 = .ok (.iload_n 1, 1) := by decide +kernel
theorem dJ9_min_7cf53_2 : decode cJ9_min_7cf53 2 = .ok (.if_icmp .gt 7, 3) := by decide +kernel
theorem dJ9_min_7cf53_5 : decode cJ9_min_7cf53 5 = .ok (.iload_n 0, 1) := by decide +kernel
theorem dJ9_min_7cf53_6 : decode cJ9_min_7cf53 6 = .ok (.goto 4, 3) := by decide +kernel
theorem dJ9_min_7cf53_9 : decode cJ9_min_7cf53 9 = .ok (.iload_n 1, 1) := by decide +kernel
theorem dJ9_min_7cf53_10 : decode cJ9_min_7cf53 10 = .ok (.ireturn, 1) := by decide +kernel
theorem dJ0_length_8abf5_0 : decode cJ0_length_8abf5 0 = .ok (.aload_n 0, 1) := by decide +kernel
theorem dJ0_length_8abf5_1 : decode cJ0_length_8abf5 1 = .ok (.getfield 9, 3) := by decide +kernel
theorem dJ0_length_8abf5_4 : decode cJ0_length_8abf5 4 = .ok (.arraylength, 1) := by decide +kernel
theorem dJ0_length_8abf5_5 : decode cJ0_length_8abf5 5 = .ok (.aload_n 0, 1) := by decide +kernel
theorem dJ0_length_8abf5_6 : decode cJ0_length_8abf5 6 = .ok (.invokevirtual 335, 3) := by decide +kernel
theorem dJ0_length_8abf5_9 : decode cJ0_length_8abf5 9 = .ok (.ishr, 1) := by decide +kernel
theorem dJ0_length_8abf5_10 : decode cJ0_length_8abf5 10 = .ok (.ireturn, 1) := by decide +kernel
theorem dJ0_charAt_5068e_0 : decode cJ0_charAt_5068e 0 = .ok (.aload_n 0, 1) := by decide +kernel
theorem dJ0_charAt_5068e_1 : decode cJ0_charAt_5068e 1 = .ok (.invokevirtual 492, 3) := by decide +kernel
theorem dJ0_charAt_5068e_4 : decode cJ0_charAt_5068e 4 = .ok (.ifCond .eq 12, 3) := by decide +kernel
theorem dJ0_charAt_5068e_7 : decode cJ0_charAt_5068e 7 = .ok (.aload_n 0, 1) := by decide +kernel
theorem dJ0_charAt_5068e_8 : decode cJ0_charAt_5068e 8 = .ok (.getfield 9, 3) := by decide +kernel
theorem dJ0_charAt_5068e_11 : decode cJ0_charAt_5068e 11 = .ok (.iload_n 1, 1) := by decide +kernel
theorem dJ0_charAt_5068e_12 : decode cJ0_charAt_5068e 12 = .ok (.invokestatic 495, 3) := by decide +kernel
theorem dJ0_charAt_5068e_15 : decode cJ0_charAt_5068e 15 = .ok (.ireturn, 1) := by decide +kernel
theorem dJ0_charAt_5068e_16 : decode cJ0_charAt_5068e 16 = .ok (.aload_n 0, 1) := by decide +kernel
theorem dJ0_charAt_5068e_17 : decode cJ0_charAt_5068e 17 = .ok (.getfield 9, 3) := by decide +kernel
theorem dJ0_charAt_5068e_20 : decode cJ0_charAt_5068e 20 = .ok (.iload_n 1, 1) := by decide +kernel
theorem dJ0_charAt_5068e_21 : decode cJ0_charAt_5068e 21 = .ok (.invokestatic 498, 3) := by decide +kernel
theorem dJ0_charAt_5068e_24 : decode cJ0_charAt_5068e 24 = .ok (.ireturn, 1) := by decide +kernel
theorem dJ0_coder_7d493_0 : decode cJ0_coder_7d493 0 = .ok (.getstatic 38, 3) := by decide +kernel
theorem dJ0_coder_7d493_3 : decode cJ0_coder_7d493 3 = .ok (.ifCond .eq 10, 3) := by decide +kernel
theorem dJ0_coder_7d493_6 : decode cJ0_coder_7d493 6 = .ok (.aload_n 0, 1) := by decide +kernel
theorem dJ0_coder_7d493_7 : decode cJ0_coder_7d493 7 = .ok (.getfield 15, 3) := by decide +kernel
theorem dJ0_coder_7d493_10 : decode cJ0_coder_7d493 10 = .ok (.goto 4, 3) := by decide +kernel
theorem dJ0_coder_7d493_13 : decode cJ0_coder_7d493 13 = .ok (.iconst 1, 1) := by decide +kernel
theorem dJ0_coder_7d493_14 : decode cJ0_coder_7d493 14 = .ok (.ireturn, 1) := by decide +kernel
theorem dJ0_isLatin1_aae02_0 : decode cJ0_isLatin1_aae02 0 = .ok (.getstatic 38, 3) := by decide +kernel
theorem dJ0_isLatin1_aae02_3 : decode cJ0_isLatin1_aae02 3 = .ok (.ifCond .eq 14, 3) := by decide +kernel
theorem dJ0_isLatin1_aae02_6 : decode cJ0_isLatin1_aae02 6 = .ok (.aload_n 0, 1) := by decide +kernel
theorem dJ0_isLatin1_aae02_7 : decode cJ0_isLatin1_aae02 7 = .ok (.getfield 15, 3) := by decide +kernel
theorem dJ0_isLatin1_aae02_10 : decode cJ0_isLatin1_aae02 10 = .ok (.ifCond .ne 7, 3) := by decide +kernel
theorem dJ0_isLatin1_aae02_13 : decode cJ0_isLatin1_aae02 13 = .ok (.iconst 1, 1) := by decide +kernel
theorem dJ0_isLatin1_aae02_14 : decode cJ0_isLatin1_aae02 14 = .ok (.goto 4, 3) := by decide +kernel
theorem dJ0_isLatin1_aae02_17 : decode cJ0_isLatin1_aae02 17 = .ok (.iconst 0, 1) := by decide +kernel
theorem dJ0_isLatin1_aae02_18 : decode cJ0_isLatin1_aae02 18 = .ok (.ireturn, 1) := by decide +kernel
theorem dJ0_checkIndex_df160_0 : decode cJ0_checkIndex_df160 0 = .ok (.iload_n 0, 1) := by decide +kernel
theorem dJ0_checkIndex_df160_1 : decode cJ0_checkIndex_df160 1 = .ok (.iload_n 1, 1) := by decide +kernel
theorem dJ0_checkIndex_df160_2 : decode cJ0_checkIndex_df160 2 = .ok (.getstatic 1053, 3) := by decide +kernel
theorem dJ0_checkIndex_df160_5 : decode cJ0_checkIndex_df160 5 = .ok (.invokestatic 1059, 3) := by decide +kernel
theorem dJ0_checkIndex_df160_8 : decode cJ0_checkIndex_df160 8 = .ok (.pop, 1) := by decide +kernel
theorem dJ0_checkIndex_df160_9 : decode cJ0_checkIndex_df160 9 = .ok (.return_, 1) := by decide +kernel
theorem dJ1_charAt_3b067_0 : decode cJ1_charAt_3b067 0 = .ok (.iload_n 1, 1) := by decide +kernel
theorem dJ1_charAt_3b067_1 : decode cJ1_charAt_3b067 1 = .ok (.aload_n 0, 1) := by decide +kernel
theorem dJ1_charAt_3b067_2 : decode cJ1_charAt_3b067 2 = .ok (.arraylength, 1) := by decide +kernel
theorem dJ1_charAt_3b067_3 : decode cJ1_charAt_3b067 3 = .ok (.invokestatic 9, 3) := by decide +kernel
theorem dJ1_charAt_3b067_6 : decode cJ1_charAt_3b067 6 = .ok (.aload_n 0, 1) := by decide +kernel
theorem dJ1_charAt_3b067_7 : decode cJ1_charAt_3b067 7 = .ok (.iload_n 1, 1) := by decide +kernel
theorem dJ1_charAt_3b067_8 : decode cJ1_charAt_3b067 8 = .ok (.baload, 1) := by decide +kernel
theorem dJ1_charAt_3b067_9 : decode cJ1_charAt_3b067 9 = .ok (.sipush 255, 3) := by decide +kernel
theorem dJ1_charAt_3b067_12 : decode cJ1_charAt_3b067 12 = .ok (.iand, 1) := by decide +kernel
theorem dJ1_charAt_3b067_13 : decode cJ1_charAt_3b067 13 = .ok (.i2c, 1) := by decide +kernel
theorem dJ1_charAt_3b067_14 : decode cJ1_charAt_3b067 14 = .ok (.ireturn, 1) := by decide +kernel
theorem dJ2_getChar_3b067_0 : decode cJ2_getChar_3b067 0 = .ok (.getstatic 44, 3) := by decide +kernel
theorem dJ2_getChar_3b067_3 : decode cJ2_getChar_3b067 3 = .ok (.ifCond .ne 25, 3) := by decide +kernel
theorem dJ2_getChar_3b067_6 : decode cJ2_getChar_3b067 6 = .ok (.iload_n 1, 1) := by decide +kernel
theorem dJ2_getChar_3b067_7 : decode cJ2_getChar_3b067 7 = .ok (.ifCond .lt 11, 3) := by decide +kernel
theorem dJ2_getChar_3b067_10 : decode cJ2_getChar_3b067 10 = .ok (.iload_n 1, 1) := by decide +kernel
theorem dJ2_getChar_3b067_11 : decode cJ2_getChar_3b067 11 = .ok (.aload_n 0, 1) := by decide +kernel
theorem dJ2_getChar_3b067_12 : decode cJ2_getChar_3b067 12 = .ok (.invokestatic 48, 3) := by decide +kernel
theorem dJ2_getChar_3b067_15 : decode cJ2_getChar_3b067 15 = .ok (.if_icmp .lt 13, 3) := by decide +kernel
theorem dJ2_getChar_3b067_18 : decode cJ2_getChar_3b067 18 = .ok (.new 52, 3) := by decide +kernel
theorem dJ2_getChar_3b067_21 : decode cJ2_getChar_3b067 21 = .ok (.dup, 1) := by decide +kernel
theorem dJ2_getChar_3b067_22 : decode cJ2_getChar_3b067 22 = .ok (.ldc 54, 2) := by decide +kernel
theorem dJ2_getChar_3b067_24 : decode cJ2_getChar_3b067 24 = .ok (.invokespecial 56, 3) := by decide +kernel
theorem dJ2_getChar_3b067_27 : decode cJ2_getChar_3b067 27 = .ok (.athrow, 1) := by decide +kernel
theorem dJ2_getChar_3b067_28 : decode cJ2_getChar_3b067 28 = .ok (.iload_n 1, 1) := by decide +kernel
theorem dJ2_getChar_3b067_29 : decode cJ2_getChar_3b067 29 = .ok (.iconst 1, 1) := by decide +kernel
theorem dJ2_getChar_3b067_30 : decode cJ2_getChar_3b067 30 = .ok (.ishl, 1) := by decide +kernel
theorem dJ2_getChar_3b067_31 : decode cJ2_getChar_3b067 31 = .ok (.istore_n 1, 1) := by decide +kernel
theorem dJ2_getChar_3b067_32 : decode cJ2_getChar_3b067 32 = .ok (.aload_n 0, 1) := by decide +kernel
theorem dJ2_getChar_3b067_33 : decode cJ2_getChar_3b067 33 = .ok (.iload_n 1, 1) := by decide +kernel
theorem dJ2_getChar_3b067_34 : decode cJ2_getChar_3b067 34 = .ok (.iinc 1 1, 3) := by decide +kernel
theorem dJ2_getChar_3b067_37 : decode cJ2_getChar_3b067 37 = .ok (.baload, 1) := by decide +kernel
theorem dJ2_getChar_3b067_38 : decode cJ2_getChar_3b067 38 = .ok (.sipush 255, 3) := by decide +kernel
theorem dJ2_getChar_3b067_41 : decode cJ2_getChar_3b067 41 = .ok (.iand, 1) := by decide +kernel
theorem dJ2_getChar_3b067_42 : decode cJ2_getChar_3b067 42 = .ok (.getstatic 59, 3) := by decide +kernel
theorem dJ2_getChar_3b067_45 : decode cJ2_getChar_3b067 45 = .ok (.ishl, 1) := by decide +kernel
theorem dJ2_getChar_3b067_46 : decode cJ2_getChar_3b067 46 = .ok (.aload_n 0, 1) := by decide +kernel
theorem dJ2_getChar_3b067_47 : decode cJ2_getChar_3b067 47 = .ok (.iload_n 1, 1) := by decide +kernel
theorem dJ2_getChar_3b067_48 : decode cJ2_getChar_3b067 48 = .ok (.baload, 1) := by decide +kernel
theorem dJ2_getChar_3b067_49 : decode cJ2_getChar_3b067 49 = .ok (.sipush 255, 3) := by decide +kernel
theorem dJ2_getChar_3b067_52 : decode cJ2_getChar_3b067 52 = .ok (.iand, 1) := by decide +kernel
theorem dJ2_getChar_3b067_53 : decode cJ2_getChar_3b067 53 = .ok (.getstatic 63, 3) := by decide +kernel
theorem dJ2_getChar_3b067_56 : decode cJ2_getChar_3b067 56 = .ok (.ishl, 1) := by decide +kernel
theorem dJ2_getChar_3b067_57 : decode cJ2_getChar_3b067 57 = .ok (.ior, 1) := by decide +kernel
theorem dJ2_getChar_3b067_58 : decode cJ2_getChar_3b067 58 = .ok (.i2c, 1) := by decide +kernel
theorem dJ2_getChar_3b067_59 : decode cJ2_getChar_3b067 59 = .ok (.ireturn, 1) := by decide +kernel
theorem dJ2_length_9d52b_0 : decode cJ2_length_9d52b 0 = .ok (.aload_n 0, 1) := by decide +kernel
theorem dJ2_length_9d52b_1 : decode cJ2_length_9d52b 1 = .ok (.arraylength, 1) := by decide +kernel
theorem dJ2_length_9d52b_2 : decode cJ2_length_9d52b 2 = .ok (.iconst 1, 1) := by decide +kernel
theorem dJ2_length_9d52b_3 : decode cJ2_length_9d52b 3 = .ok (.ishr, 1) := by decide +kernel
theorem dJ2_length_9d52b_4 : decode cJ2_length_9d52b 4 = .ok (.ireturn, 1) := by decide +kernel
theorem dJ2_charAt_3b067_0 : decode cJ2_charAt_3b067 0 = .ok (.iload_n 1, 1) := by decide +kernel
theorem dJ2_charAt_3b067_1 : decode cJ2_charAt_3b067 1 = .ok (.aload_n 0, 1) := by decide +kernel
theorem dJ2_charAt_3b067_2 : decode cJ2_charAt_3b067 2 = .ok (.invokestatic 67, 3) := by decide +kernel
theorem dJ2_charAt_3b067_5 : decode cJ2_charAt_3b067 5 = .ok (.aload_n 0, 1) := by decide +kernel
theorem dJ2_charAt_3b067_6 : decode cJ2_charAt_3b067 6 = .ok (.iload_n 1, 1) := by decide +kernel
theorem dJ2_charAt_3b067_7 : decode cJ2_charAt_3b067 7 = .ok (.invokestatic 71, 3) := by decide +kernel
theorem dJ2_charAt_3b067_10 : decode cJ2_charAt_3b067 10 = .ok (.ireturn, 1) := by decide +kernel
theorem dJ2_checkIndex_2214a_0 : decode cJ2_checkIndex_2214a 0 = .ok (.iload_n 0, 1) := by decide +kernel
theorem dJ2_checkIndex_2214a_1 : decode cJ2_checkIndex_2214a 1 = .ok (.aload_n 1, 1) := by decide +kernel
theorem dJ2_checkIndex_2214a_2 : decode cJ2_checkIndex_2214a 2 = .ok (.invokestatic 48, 3) := by decide +kernel
theorem dJ2_checkIndex_2214a_5 : decode cJ2_checkIndex_2214a 5 = .ok (.invokestatic 414, 3) := by decide +kernel
theorem dJ2_checkIndex_2214a_8 : decode cJ2_checkIndex_2214a 8 = .ok (.return_, 1) := by decide +kernel
theorem dJ7_fill_53178_0 : decode cJ7_fill_53178 0 = .ok (.iconst 0, 1) := by decide +kernel
theorem dJ7_fill_53178_1 : decode cJ7_fill_53178 1 = .ok (.istore_n 2, 1) := by decide +kernel
theorem dJ7_fill_53178_2 : decode cJ7_fill_53178 2 = .ok (.aload_n 0, 1) := by decide +kernel
theorem dJ7_fill_53178_3 : decode cJ7_fill_53178 3 = .ok (.arraylength, 1) := by decide +kernel
theorem dJ7_fill_53178_4 : decode cJ7_fill_53178 4 = .ok (.istore_n 3, 1) := by decide +kernel
theorem dJ7_fill_53178_5 : decode cJ7_fill_53178 5 = .ok (.iload_n 2, 1) := by decide +kernel
theorem dJ7_fill_53178_6 : decode cJ7_fill_53178 6 = .ok (.iload_n 3, 1) := by decide +kernel
theorem dJ7_fill_53178_7 : decode cJ7_fill_53178 7 = .ok (.if_icmp .ge 13, 3) := by decide +kernel
theorem dJ7_fill_53178_10 : decode cJ7_fill_53178 10 = .ok (.aload_n 0, 1) := by decide +kernel
theorem dJ7_fill_53178_11 : decode cJ7_fill_53178 11 = .ok (.iload_n 2, 1) := by decide +kernel
theorem dJ7_fill_53178_12 : decode cJ7_fill_53178 12 = .ok (.iload_n 1, 1) := by decide +kernel
theorem dJ7_fill_53178_13 : decode cJ7_fill_53178 13 = .ok (.iastore, 1) := by decide +kernel
theorem dJ7_fill_53178_14 : decode cJ7_fill_53178 14 = .ok (.iinc 2 1, 3) := by decide +kernel
theorem dJ7_fill_53178_17 : decode cJ7_fill_53178 17 = .ok (.goto (-12), 3) := by decide +kernel
theorem dJ7_fill_53178_20 : decode cJ7_fill_53178 20 = .ok (.return_, 1) := by decide +kernel
theorem dJ3_checkIndex_8e157_0 : decode cJ3_checkIndex_8e157 0 = .ok (.iload_n 0, 1) := by decide +kernel
theorem dJ3_checkIndex_8e157_1 : decode cJ3_checkIndex_8e157 1 = .ok (.ifCond .lt 8, 3) := by decide +kernel
theorem dJ3_checkIndex_8e157_4 : decode cJ3_checkIndex_8e157 4 = .ok (.iload_n 0, 1) := by decide +kernel
theorem dJ3_checkIndex_8e157_5 : decode cJ3_checkIndex_8e157 5 = .ok (.iload_n 1, 1) := by decide +kernel
theorem dJ3_checkIndex_8e157_6 : decode cJ3_checkIndex_8e157 6 = .ok (.if_icmp .lt 10, 3) := by decide +kernel
theorem dJ3_checkIndex_8e157_9 : decode cJ3_checkIndex_8e157 9 = .ok (.aload_n 2, 1) := by decide +kernel
theorem dJ3_checkIndex_8e157_10 : decode cJ3_checkIndex_8e157 10 = .ok (.iload_n 0, 1) := by decide +kernel
theorem dJ3_checkIndex_8e157_11 : decode cJ3_checkIndex_8e157 11 = .ok (.iload_n 1, 1) := by decide +kernel
theorem dJ3_checkIndex_8e157_12 : decode cJ3_checkIndex_8e157 12 = .ok (.invokestatic 95, 3) := by decide +kernel
theorem dJ3_checkIndex_8e157_15 : decode cJ3_checkIndex_8e157 15 = .ok (.athrow, 1) := by decide +kernel
theorem dJ3_checkIndex_8e157_16 : decode cJ3_checkIndex_8e157 16 = .ok (.iload_n 0, 1) := by decide +kernel
theorem dJ3_checkIndex_8e157_17 : decode cJ3_checkIndex_8e157 17 = .ok (.ireturn, 1) := by decide +kernel
end
section
theorem dX8_in_0 : decode cX8_in 0 = .ok (.lload_n 0, 1) := by decide +kernel
theorem dX8_in_1 : decode cX8_in 1 = .ok (.lload_n 2, 1) := by decide +kernel
theorem dX8_in_2 : decode cX8_in 2 = .ok (.lcmp, 1) := by decide +kernel
theorem dX8_in_3 : decode cX8_in 3 = .ok (.ifCond .lt 14, 3) := by decide +kernel
theorem dX8_in_6 : decode cX8_in 6 = .ok (.lload_n 0, 1) := by decide +kernel
theorem dX8_in_7 : decode cX8_in 7 = .ok (.lload 4, 2) := by decide +kernel
theorem dX8_in_9 : decode cX8_in 9 = .ok (.lcmp, 1) := by decide +kernel
theorem dX8_in_10 : decode cX8_in 10 = .ok (.ifCond .gt 7, 3) := by decide +kernel
theorem dX8_in_13 : decode cX8_in 13 = .ok (.iconst 1, 1) := by decide +kernel
theorem dX8_in_14 : decode cX8_in 14 = .ok (.goto 4, 3) := by decide +kernel
theorem dX8_in_17 : decode cX8_in 17 = .ok (.iconst 0, 1) := by decide +kernel
theorem dX8_in_18 : decode cX8_in 18 = .ok (.ireturn, 1) := by decide +kernel
theorem dX8_within_0 : decode cX8_within 0 = .ok (.iload_n 0, 1) := by decide +kernel
theorem dX8_within_1 : decode cX8_within 1 = .ok (.iload_n 1, 1) := by decide +kernel
theorem dX8_within_2 : decode cX8_within 2 = .ok (.if_icmp .ge 7, 3) := by decide +kernel
theorem dX8_within_5 : decode cX8_within 5 = .ok (.iload_n 1, 1) := by decide +kernel
theorem dX8_within_6 : decode cX8_within 6 = .ok (.goto 13, 3) := by decide +kernel
theorem dX8_within_9 : decode cX8_within 9 = .ok (.iload_n 0, 1) := by decide +kernel
theorem dX8_within_10 : decode cX8_within 10 = .ok (.iload_n 2, 1) := by decide +kernel
theorem dX8_within_11 : decode cX8_within 11 = .ok (.if_icmp .le 7, 3) := by decide +kernel
theorem dX8_within_14 : decode cX8_within 14 = .ok (.iload_n 2, 1) := by decide +kernel
theorem dX8_within_15 : decode cX8_within 15 = .ok (.goto 4, 3) := by decide +kernel
theorem dX8_within_18 : decode cX8_within 18 = .ok (.iload_n 0, 1) := by decide +kernel
theorem dX8_within_19 : decode cX8_within 19 = .ok (.ireturn, 1) := by decide +kernel
theorem dX8_init_0 : decode cX8_init 0 = .ok (.aload_n 0, 1) := by decide +kernel
theorem dX8_init_1 : decode cX8_init 1 = .ok (.invokespecial 7, 3) := by decide +kernel
theorem dX8_init_4 : decode cX8_init 4 = .ok (.aload_n 0, 1) := by decide +kernel
theorem dX8_init_5 : decode cX8_init 5 = .ok (.sipush 960, 3) := by decide +kernel
theorem dX8_init_8 : decode cX8_init 8 = .ok (.newarray .int, 2) := by decide +kernel
theorem dX8_init_10 : decode cX8_init 10 = .ok (.putfield 13, 3) := by decide +kernel
theorem dX8_init_13 : decode cX8_init 13 = .ok (.aload_n 0, 1) := by decide +kernel
theorem dX8_init_14 : decode cX8_init 14 = .ok (.bipush 6, 2) := by decide +kernel
theorem dX8_init_16 : decode cX8_init 16 = .ok (.newarray .int, 2) := by decide +kernel
theorem dX8_init_18 : decode cX8_init 18 = .ok (.putfield 17, 3) := by decide +kernel
theorem dX8_init_21 : decode cX8_init 21 = .ok (.aload_n 0, 1) := by decide +kernel
theorem dX8_init_22 : decode cX8_init 22 = .ok (.sipush 160, 3) := by decide +kernel
theorem dX8_init_25 : decode cX8_init 25 = .ok (.newarray .int, 2) := by decide +kernel
theorem dX8_init_27 : decode cX8_init 27 = .ok (.putfield 20, 3) := by decide +kernel
theorem dX8_init_30 : decode cX8_init 30 = .ok (.aload_n 0, 1) := by decide +kernel
theorem dX8_init_31 : decode cX8_init 31 = .ok (.bipush 16, 2) := by decide +kernel
theorem dX8_init_33 : decode cX8_init 33 = .ok (.newarray .int, 2) := by decide +kernel
theorem dX8_init_35 : decode cX8_init 35 = .ok (.putfield 23, 3) := by decide +kernel
theorem dX8_init_38 : decode cX8_init 38 = .ok (.aload_n 0, 1) := by decide +kernel
theorem dX8_init_39 : decode cX8_init 39 = .ok (.bipush 16, 2) := by decide +kernel
theorem dX8_init_41 : decode cX8_init 41 = .ok (.newarray .int, 2) := by decide +kernel
theorem dX8_init_43 : decode cX8_init 43 = .ok (.putfield 26, 3) := by decide +kernel
theorem dX8_init_46 : decode cX8_init 46 = .ok (.aload_n 0, 1) := by decide +kernel
theorem dX8_init_47 : decode cX8_init 47 = .ok (.iconst 4, 1) := by decide +kernel
theorem dX8_init_48 : decode cX8_init 48 = .ok (.newarray .int, 2) := by decide +kernel
theorem dX8_init_50 : decode cX8_init 50 = .ok (.putfield 29, 3) := by decide +kernel
theorem dX8_init_53 : decode cX8_init 53 = .ok (.aload_n 0, 1) := by decide +kernel
theorem dX8_init_54 : decode cX8_init 54 = .ok (.iconst 4, 1) := by decide +kernel
theorem dX8_init_55 : decode cX8_init 55 = .ok (.newarray .int, 2) := by decide +kernel
theorem dX8_init_57 : decode cX8_init 57 = .ok (.putfield 32, 3) := by decide +kernel
theorem dX8_init_60 : decode cX8_init 60 = .ok (.aload_n 0, 1) := by decide +kernel
theorem dX8_init_61 : decode cX8_init 61 = .ok (.iconst 4, 1) := by decide +kernel
theorem dX8_init_62 : decode cX8_init 62 = .ok (.newarray .int, 2) := by decide +kernel
theorem dX8_init_64 : decode cX8_init 64 = .ok (.putfield 35, 3) := by decide +kernel
theorem dX8_init_67 : decode cX8_init 67 = .ok (.aload_n 0, 1) := by decide +kernel
theorem dX8_init_68 : decode cX8_init 68 = .ok (.iconst 4, 1) := by decide +kernel
theorem dX8_init_69 : decode cX8_init 69 = .ok (.newarray .int, 2) := by decide +kernel
theorem dX8_init_71 : decode cX8_init 71 = .ok (.putfield 38, 3) := by decide +kernel
theorem dX8_init_74 : decode cX8_init 74 = .ok (.aload_n 0, 1) := by decide +kernel
theorem dX8_init_75 : decode cX8_init 75 = .ok (.iconst 4, 1) := by decide +kernel
theorem dX8_init_76 : decode cX8_init 76 = .ok (.newarray .int, 2) := by decide +kernel
theorem dX8_init_78 : decode cX8_init 78 = .ok (.putfield 41, 3) := by decide +kernel
theorem dX8_init_81 : decode cX8_init 81 = .ok (.aload_n 0, 1) := by decide +kernel
theorem dX8_init_82 : decode cX8_init 82 = .ok (.iconst 4, 1) := by decide +kernel
theorem dX8_init_83 : decode cX8_init 83 = .ok (.newarray .int, 2) := by decide +kernel
theorem dX8_init_85 : decode cX8_init 85 = .ok (.putfield 44, 3) := by decide +kernel
theorem dX8_init_88 : decode cX8_init 88 = .ok (.aload_n 0, 1) := by decide +kernel
theorem dX8_init_89 : decode cX8_init 89 = .ok (.iconst 4, 1) := by decide +kernel
theorem dX8_init_90 : decode cX8_init 90 = .ok (.newarray .int, 2) := by decide +kernel
theorem dX8_init_92 : decode cX8_init 92 = .ok (.putfield 47, 3) := by decide +kernel
theorem dX8_init_95 : decode cX8_init 95 = .ok (.aload_n 0, 1) := by decide +kernel
theorem dX8_init_96 : decode cX8_init 96 = .ok (.iconst 4, 1) := by decide +kernel
theorem dX8_init_97 : decode cX8_init 97 = .ok (.newarray .int, 2) := by decide +kernel
theorem dX8_init_99 : decode cX8_init 99 = .ok (.putfield 50, 3) := by decide +kernel
theorem dX8_init_102 : decode cX8_init 102 = .ok (.aload_n 0, 1) := by decide +kernel
theorem dX8_init_103 : decode cX8_init 103 = .ok (.iconst 4, 1) := by decide +kernel
theorem dX8_init_104 : decode cX8_init 104 = .ok (.newarray .int, 2) := by decide +kernel
theorem dX8_init_106 : decode cX8_init 106 = .ok (.putfield 53, 3) := by decide +kernel
theorem dX8_init_109 : decode cX8_init 109 = .ok (.aload_n 0, 1) := by decide +kernel
theorem dX8_init_110 : decode cX8_init 110 = .ok (.iconst 4, 1) := by decide +kernel
theorem dX8_init_111 : decode cX8_init 111 = .ok (.newarray .int, 2) := by decide +kernel
theorem dX8_init_113 : decode cX8_init 113 = .ok (.putfield 56, 3) := by decide +kernel
theorem dX8_init_116 : decode cX8_init 116 = .ok (.aload_n 0, 1) := by decide +kernel
theorem dX8_init_117 : decode cX8_init 117 = .ok (.iconst 4, 1) := by decide +kernel
theorem dX8_init_118 : decode cX8_init 118 = .ok (.newarray .int, 2) := by decide +kernel
theorem dX8_init_120 : decode cX8_init 120 = .ok (.putfield 59, 3) := by decide +kernel
theorem dX8_init_123 : decode cX8_init 123 = .ok (.aload_n 0, 1) := by decide +kernel
theorem dX8_init_124 : decode cX8_init 124 = .ok (.iconst 4, 1) := by decide +kernel
theorem dX8_init_125 : decode cX8_init 125 = .ok (.newarray .int, 2) := by decide +kernel
theorem dX8_init_127 : decode cX8_init 127 = .ok (.putfield 62, 3) := by decide +kernel
theorem dX8_init_130 : decode cX8_init 130 = .ok (.aload_n 0, 1) := by decide +kernel
theorem dX8_init_131 : decode cX8_init 131 = .ok (.bipush 16, 2) := by decide +kernel
theorem dX8_init_133 : decode cX8_init 133 = .ok (.newarray .boolean, 2) := by decide +kernel
theorem dX8_init_135 : decode cX8_init 135 = .ok (.putfield 65, 3) := by decide +kernel
theorem dX8_init_138 : decode cX8_init 138 = .ok (.aload_n 0, 1) := by decide +kernel
theorem dX8_init_139 : decode cX8_init 139 = .ok (.bipush 16, 2) := by decide +kernel
theorem dX8_init_141 : decode cX8_init 141 = .ok (.newarray .int, 2) := by decide +kernel
theorem dX8_init_143 : decode cX8_init 143 = .ok (.putfield 69, 3) := by decide +kernel
theorem dX8_init_146 : decode cX8_init 146 = .ok (.aload_n 0, 1) := by decide +kernel
theorem dX8_init_147 : decode cX8_init 147 = .ok (.bipush 16, 2) := by decide +kernel
theorem dX8_init_149 : decode cX8_init 149 = .ok (.newarray .int, 2) := by decide +kernel
theorem dX8_init_151 : decode cX8_init 151 = .ok (.putfield 72, 3) := by decide +kernel
theorem dX8_init_154 : decode cX8_init 154 = .ok (.aload_n 0, 1) := by decide +kernel
theorem dX8_init_155 : decode cX8_init 155 = .ok (.bipush 16, 2) := by decide +kernel
theorem dX8_init_157 : decode cX8_init 157 = .ok (.newarray .int, 2) := by decide +kernel
theorem dX8_init_159 : decode cX8_init 159 = .ok (.putfield 75, 3) := by decide +kernel
theorem dX8_init_162 : decode cX8_init 162 = .ok (.aload_n 0, 1) := by decide +kernel
theorem dX8_init_163 : decode cX8_init 163 = .ok (.bipush 16, 2) := by decide +kernel
theorem dX8_init_165 : decode cX8_init 165 = .ok (.newarray .int, 2) := by decide +kernel
theorem dX8_init_167 : decode cX8_init 167 = .ok (.putfield 78, 3) := by decide +kernel
theorem dX8_init_170 : decode cX8_init 170 = .ok (.aload_n 0, 1) := by decide +kernel
theorem dX8_init_171 : decode cX8_init 171 = .ok (.bipush 16, 2) := by decide +kernel
theorem dX8_init_173 : decode cX8_init 173 = .ok (.newarray .int, 2) := by decide +kernel
theorem dX8_init_175 : decode cX8_init 175 = .ok (.putfield 81, 3) := by decide +kernel
theorem dX8_init_178 : decode cX8_init 178 = .ok (.aload_n 0, 1) := by decide +kernel
theorem dX8_init_179 : decode cX8_init 179 = .ok (.iconst (-1), 1) := by decide +kernel
theorem dX8_init_180 : decode cX8_init 180 = .ok (.putfield 84, 3) := by decide +kernel
theorem dX8_init_183 : decode cX8_init 183 = .ok (.aload_n 0, 1) := by decide +kernel
theorem dX8_init_184 : decode cX8_init 184 = .ok (.iconst 4, 1) := by decide +kernel
theorem dX8_init_185 : decode cX8_init 185 = .ok (.newarray .boolean, 2) := by decide +kernel
theorem dX8_init_187 : decode cX8_init 187 = .ok (.putfield 87, 3) := by decide +kernel
theorem dX8_init_190 : decode cX8_init 190 = .ok (.aload_n 0, 1) := by decide +kernel
theorem dX8_init_191 : decode cX8_init 191 = .ok (.iconst 4, 1) := by decide +kernel
theorem dX8_init_192 : decode cX8_init 192 = .ok (.newarray .int, 2) := by decide +kernel
theorem dX8_init_194 : decode cX8_init 194 = .ok (.putfield 90, 3) := by decide +kernel
theorem dX8_init_197 : decode cX8_init 197 = .ok (.aload_n 0, 1) := by decide +kernel
theorem dX8_init_198 : decode cX8_init 198 = .ok (.iconst 4, 1) := by decide +kernel
theorem dX8_init_199 : decode cX8_init 199 = .ok (.newarray .int, 2) := by decide +kernel
theorem dX8_init_201 : decode cX8_init 201 = .ok (.putfield 93, 3) := by decide +kernel
theorem dX8_init_204 : decode cX8_init 204 = .ok (.aload_n 0, 1) := by decide +kernel
theorem dX8_init_205 : decode cX8_init 205 = .ok (.sipush 160, 3) := by decide +kernel
theorem dX8_init_208 : decode cX8_init 208 = .ok (.newarray .int, 2) := by decide +kernel
theorem dX8_init_210 : decode cX8_init 210 = .ok (.putfield 96, 3) := by decide +kernel
theorem dX8_init_213 : decode cX8_init 213 = .ok (.aload_n 0, 1) := by decide +kernel
theorem dX8_init_214 : decode cX8_init 214 = .ok (.iconst 0, 1) := by decide +kernel
theorem dX8_init_215 : decode cX8_init 215 = .ok (.bipush 116, 2) := by decide +kernel
theorem dX8_init_217 : decode cX8_init 217 = .ok (.bipush 97, 2) := by decide +kernel
theorem dX8_init_219 : decode cX8_init 219 = .ok (.bipush 107, 2) := by decide +kernel
theorem dX8_init_221 : decode cX8_init 221 = .ok (.bipush 101, 2) := by decide +kernel
theorem dX8_init_223 : decode cX8_init 223 = .ok (.bipush 115, 2) := by decide +kernel
theorem dX8_init_225 : decode cX8_init 225 = .ok (.bipush 32, 2) := by decide +kernel
theorem dX8_init_227 : decode cX8_init 227 = .ok (.bipush 49, 2) := by decide +kernel
theorem dX8_init_229 : decode cX8_init 229 = .ok (.bipush 32, 2) := by decide +kernel
theorem dX8_init_231 : decode cX8_init 231 = .ok (.invokevirtual 99, 3) := by decide +kernel
theorem dX8_init_234 : decode cX8_init 234 = .ok (.aload_n 0, 1) := by decide +kernel
theorem dX8_init_235 : decode cX8_init 235 = .ok (.bipush 8, 2) := by decide +kernel
theorem dX8_init_237 : decode cX8_init 237 = .ok (.bipush 59, 2) := by decide +kernel
theorem dX8_init_239 : decode cX8_init 239 = .ok (.bipush 32, 2) := by decide +kernel
theorem dX8_init_241 : decode cX8_init 241 = .ok (.bipush 119, 2) := by decide +kernel
theorem dX8_init_243 : decode cX8_init 243 = .ok (.bipush 111, 2) := by decide +kernel
theorem dX8_init_245 : decode cX8_init 245 = .ok (.bipush 114, 2) := by decide +kernel
theorem dX8_init_247 : decode cX8_init 247 = .ok (.bipush 116, 2) := by decide +kernel
theorem dX8_init_249 : decode cX8_init 249 = .ok (.bipush 104, 2) := by decide +kernel
theorem dX8_init_251 : decode cX8_init 251 = .ok (.bipush 32, 2) := by decide +kernel
theorem dX8_init_253 : decode cX8_init 253 = .ok (.invokevirtual 99, 3) := by decide +kernel
theorem dX8_init_256 : decode cX8_init 256 = .ok (.aload_n 0, 1) := by decide +kernel
theorem dX8_init_257 : decode cX8_init 257 = .ok (.bipush 16, 2) := by decide +kernel
theorem dX8_init_259 : decode cX8_init 259 = .ok (.bipush 108, 2) := by decide +kernel
theorem dX8_init_261 : decode cX8_init 261 = .ok (.bipush 105, 2) := by decide +kernel
theorem dX8_init_263 : decode cX8_init 263 = .ok (.bipush 107, 2) := by decide +kernel
theorem dX8_init_265 : decode cX8_init 265 = .ok (.bipush 101, 2) := by decide +kernel
theorem dX8_init_267 : decode cX8_init 267 = .ok (.bipush 32, 2) := by decide +kernel
theorem dX8_init_269 : decode cX8_init 269 = .ok (.bipush 43, 2) := by decide +kernel
theorem dX8_init_271 : decode cX8_init 271 = .ok (.bipush 32, 2) := by decide +kernel
theorem dX8_init_273 : decode cX8_init 273 = .ok (.bipush 104, 2) := by decide +kernel
theorem dX8_init_275 : decode cX8_init 275 = .ok (.invokevirtual 99, 3) := by decide +kernel
theorem dX8_init_278 : decode cX8_init 278 = .ok (.aload_n 0, 1) := by decide +kernel
theorem dX8_init_279 : decode cX8_init 279 = .ok (.bipush 24, 2) := by decide +kernel
theorem dX8_init_281 : decode cX8_init 281 = .ok (.bipush 101, 2) := by decide +kernel
theorem dX8_init_283 : decode cX8_init 283 = .ok (.bipush 114, 2) := by decide +kernel
theorem dX8_init_285 : decode cX8_init 285 = .ok (.bipush 115, 2) := by decide +kernel
theorem dX8_init_287 : decode cX8_init 287 = .ok (.bipush 32, 2) := by decide +kernel
theorem dX8_init_289 : decode cX8_init 289 = .ok (.bipush 45, 2) := by decide +kernel
theorem dX8_init_291 : decode cX8_init 291 = .ok (.bipush 32, 2) := by decide +kernel
theorem dX8_init_293 : decode cX8_init 293 = .ok (.bipush 53, 2) := by decide +kernel
theorem dX8_init_295 : decode cX8_init 295 = .ok (.bipush 48, 2) := by decide +kernel
theorem dX8_init_297 : decode cX8_init 297 = .ok (.invokevirtual 99, 3) := by decide +kernel
theorem dX8_init_300 : decode cX8_init 300 = .ok (.aload_n 0, 1) := by decide +kernel
theorem dX8_init_301 : decode cX8_init 301 = .ok (.bipush 32, 2) := by decide +kernel
theorem dX8_init_303 : decode cX8_init 303 = .ok (.bipush 32, 2) := by decide +kernel
theorem dX8_init_305 : decode cX8_init 305 = .ok (.bipush 59, 2) := by decide +kernel
theorem dX8_init_307 : decode cX8_init 307 = .ok (.bipush 32, 2) := by decide +kernel
theorem dX8_init_309 : decode cX8_init 309 = .ok (.bipush 119, 2) := by decide +kernel
theorem dX8_init_311 : decode cX8_init 311 = .ok (.bipush 97, 2) := by decide +kernel
theorem dX8_init_313 : decode cX8_init 313 = .ok (.bipush 110, 2) := by decide +kernel
theorem dX8_init_315 : decode cX8_init 315 = .ok (.bipush 116, 2) := by decide +kernel
theorem dX8_init_317 : decode cX8_init 317 = .ok (.bipush 115, 2) := by decide +kernel
theorem dX8_init_319 : decode cX8_init 319 = .ok (.invokevirtual 99, 3) := by decide +kernel
theorem dX8_init_322 : decode cX8_init 322 = .ok (.aload_n 0, 1) := by decide +kernel
theorem dX8_init_323 : decode cX8_init 323 = .ok (.bipush 40, 2) := by decide +kernel
theorem dX8_init_325 : decode cX8_init 325 = .ok (.bipush 32, 2) := by decide +kernel
theorem dX8_init_327 : decode cX8_init 327 = .ok (.bipush 51, 2) := by decide +kernel
theorem dX8_init_329 : decode cX8_init 329 = .ok (.bipush 48, 2) := by decide +kernel
theorem dX8_init_331 : decode cX8_init 331 = .ok (.bipush 32, 2) := by decide +kernel
theorem dX8_init_333 : decode cX8_init 333 = .ok (.bipush 60, 2) := by decide +kernel
theorem dX8_init_335 : decode cX8_init 335 = .ok (.bipush 32, 2) := by decide +kernel
theorem dX8_init_337 : decode cX8_init 337 = .ok (.bipush 108, 2) := by decide +kernel
theorem dX8_init_339 : decode cX8_init 339 = .ok (.bipush 105, 2) := by decide +kernel
theorem dX8_init_341 : decode cX8_init 341 = .ok (.invokevirtual 99, 3) := by decide +kernel
theorem dX8_init_344 : decode cX8_init 344 = .ok (.aload_n 0, 1) := by decide +kernel
theorem dX8_init_345 : decode cX8_init 345 = .ok (.bipush 48, 2) := by decide +kernel
theorem dX8_init_347 : decode cX8_init 347 = .ok (.bipush 107, 2) := by decide +kernel
theorem dX8_init_349 : decode cX8_init 349 = .ok (.bipush 101, 2) := by decide +kernel
theorem dX8_init_351 : decode cX8_init 351 = .ok (.bipush 32, 2) := by decide +kernel
theorem dX8_init_353 : decode cX8_init 353 = .ok (.bipush 59, 2) := by decide +kernel
theorem dX8_init_355 : decode cX8_init 355 = .ok (.bipush 32, 2) := by decide +kernel
theorem dX8_init_357 : decode cX8_init 357 = .ok (.bipush 32, 2) := by decide +kernel
theorem dX8_init_359 : decode cX8_init 359 = .ok (.bipush 32, 2) := by decide +kernel
theorem dX8_init_361 : decode cX8_init 361 = .ok (.bipush 32, 2) := by decide +kernel
theorem dX8_init_363 : decode cX8_init 363 = .ok (.invokevirtual 99, 3) := by decide +kernel
theorem dX8_init_366 : decode cX8_init 366 = .ok (.aload_n 0, 1) := by decide +kernel
theorem dX8_init_367 : decode cX8_init 367 = .ok (.getfield 17, 3) := by decide +kernel
theorem dX8_init_370 : decode cX8_init 370 = .ok (.iconst 0, 1) := by decide +kernel
theorem dX8_init_371 : decode cX8_init 371 = .ok (.bipush 56, 2) := by decide +kernel
theorem dX8_init_373 : decode cX8_init 373 = .ok (.iastore, 1) := by decide +kernel
theorem dX8_init_374 : decode cX8_init 374 = .ok (.aload_n 0, 1) := by decide +kernel
theorem dX8_init_375 : decode cX8_init 375 = .ok (.iconst 1, 1) := by decide +kernel
theorem dX8_init_376 : decode cX8_init 376 = .ok (.putfield 103, 3) := by decide +kernel
theorem dX8_init_379 : decode cX8_init 379 = .ok (.return_, 1) := by decide +kernel
theorem dX8_spell_0 : decode cX8_spell 0 = .ok (.aload_n 0, 1) := by decide +kernel
theorem dX8_spell_1 : decode cX8_spell 1 = .ok (.getfield 13, 3) := by decide +kernel
theorem dX8_spell_4 : decode cX8_spell 4 = .ok (.iload_n 1, 1) := by decide +kernel
theorem dX8_spell_5 : decode cX8_spell 5 = .ok (.iload_n 2, 1) := by decide +kernel
theorem dX8_spell_6 : decode cX8_spell 6 = .ok (.iastore, 1) := by decide +kernel
theorem dX8_spell_7 : decode cX8_spell 7 = .ok (.aload_n 0, 1) := by decide +kernel
theorem dX8_spell_8 : decode cX8_spell 8 = .ok (.getfield 13, 3) := by decide +kernel
theorem dX8_spell_11 : decode cX8_spell 11 = .ok (.iload_n 1, 1) := by decide +kernel
theorem dX8_spell_12 : decode cX8_spell 12 = .ok (.iconst 1, 1) := by decide +kernel
theorem dX8_spell_13 : decode cX8_spell 13 = .ok (.iadd, 1) := by decide +kernel
theorem dX8_spell_14 : decode cX8_spell 14 = .ok (.iload_n 3, 1) := by decide +kernel
theorem dX8_spell_15 : decode cX8_spell 15 = .ok (.iastore, 1) := by decide +kernel
theorem dX8_spell_16 : decode cX8_spell 16 = .ok (.aload_n 0, 1) := by decide +kernel
theorem dX8_spell_17 : decode cX8_spell 17 = .ok (.getfield 13, 3) := by decide +kernel
theorem dX8_spell_20 : decode cX8_spell 20 = .ok (.iload_n 1, 1) := by decide +kernel
theorem dX8_spell_21 : decode cX8_spell 21 = .ok (.iconst 2, 1) := by decide +kernel
theorem dX8_spell_22 : decode cX8_spell 22 = .ok (.iadd, 1) := by decide +kernel
theorem dX8_spell_23 : decode cX8_spell 23 = .ok (.iload 4, 2) := by decide +kernel
theorem dX8_spell_25 : decode cX8_spell 25 = .ok (.iastore, 1) := by decide +kernel
theorem dX8_spell_26 : decode cX8_spell 26 = .ok (.aload_n 0, 1) := by decide +kernel
theorem dX8_spell_27 : decode cX8_spell 27 = .ok (.getfield 13, 3) := by decide +kernel
theorem dX8_spell_30 : decode cX8_spell 30 = .ok (.iload_n 1, 1) := by decide +kernel
theorem dX8_spell_31 : decode cX8_spell 31 = .ok (.iconst 3, 1) := by decide +kernel
theorem dX8_spell_32 : decode cX8_spell 32 = .ok (.iadd, 1) := by decide +kernel
theorem dX8_spell_33 : decode cX8_spell 33 = .ok (.iload 5, 2) := by decide +kernel
theorem dX8_spell_35 : decode cX8_spell 35 = .ok (.iastore, 1) := by decide +kernel
theorem dX8_spell_36 : decode cX8_spell 36 = .ok (.aload_n 0, 1) := by decide +kernel
theorem dX8_spell_37 : decode cX8_spell 37 = .ok (.getfield 13, 3) := by decide +kernel
theorem dX8_spell_40 : decode cX8_spell 40 = .ok (.iload_n 1, 1) := by decide +kernel
theorem dX8_spell_41 : decode cX8_spell 41 = .ok (.iconst 4, 1) := by decide +kernel
theorem dX8_spell_42 : decode cX8_spell 42 = .ok (.iadd, 1) := by decide +kernel
theorem dX8_spell_43 : decode cX8_spell 43 = .ok (.iload 6, 2) := by decide +kernel
theorem dX8_spell_45 : decode cX8_spell 45 = .ok (.iastore, 1) := by decide +kernel
theorem dX8_spell_46 : decode cX8_spell 46 = .ok (.aload_n 0, 1) := by decide +kernel
theorem dX8_spell_47 : decode cX8_spell 47 = .ok (.getfield 13, 3) := by decide +kernel
theorem dX8_spell_50 : decode cX8_spell 50 = .ok (.iload_n 1, 1) := by decide +kernel
theorem dX8_spell_51 : decode cX8_spell 51 = .ok (.iconst 5, 1) := by decide +kernel
theorem dX8_spell_52 : decode cX8_spell 52 = .ok (.iadd, 1) := by decide +kernel
theorem dX8_spell_53 : decode cX8_spell 53 = .ok (.iload 7, 2) := by decide +kernel
theorem dX8_spell_55 : decode cX8_spell 55 = .ok (.iastore, 1) := by decide +kernel
theorem dX8_spell_56 : decode cX8_spell 56 = .ok (.aload_n 0, 1) := by decide +kernel
theorem dX8_spell_57 : decode cX8_spell 57 = .ok (.getfield 13, 3) := by decide +kernel
theorem dX8_spell_60 : decode cX8_spell 60 = .ok (.iload_n 1, 1) := by decide +kernel
theorem dX8_spell_61 : decode cX8_spell 61 = .ok (.bipush 6, 2) := by decide +kernel
theorem dX8_spell_63 : decode cX8_spell 63 = .ok (.iadd, 1) := by decide +kernel
theorem dX8_spell_64 : decode cX8_spell 64 = .ok (.iload 8, 2) := by decide +kernel
theorem dX8_spell_66 : decode cX8_spell 66 = .ok (.iastore, 1) := by decide +kernel
theorem dX8_spell_67 : decode cX8_spell 67 = .ok (.aload_n 0, 1) := by decide +kernel
theorem dX8_spell_68 : decode cX8_spell 68 = .ok (.getfield 13, 3) := by decide +kernel
theorem dX8_spell_71 : decode cX8_spell 71 = .ok (.iload_n 1, 1) := by decide +kernel
theorem dX8_spell_72 : decode cX8_spell 72 = .ok (.bipush 7, 2) := by decide +kernel
theorem dX8_spell_74 : decode cX8_spell 74 = .ok (.iadd, 1) := by decide +kernel
theorem dX8_spell_75 : decode cX8_spell 75 = .ok (.iload 9, 2) := by decide +kernel
theorem dX8_spell_77 : decode cX8_spell 77 = .ok (.iastore, 1) := by decide +kernel
theorem dX8_spell_78 : decode cX8_spell 78 = .ok (.return_, 1) := by decide +kernel
theorem dX8_isMan_0 : decode cX8_isMan 0 = .ok (.iload_n 1, 1) := by decide +kernel
theorem dX8_isMan_1 : decode cX8_isMan 1 = .ok (.i2l, 1) := by decide +kernel
theorem dX8_isMan_2 : decode cX8_isMan 2 = .ok (.lconst 0, 1) := by decide +kernel
theorem dX8_isMan_3 : decode cX8_isMan 3 = .ok (.aload_n 0, 1) := by decide +kernel
theorem dX8_isMan_4 : decode cX8_isMan 4 = .ok (.getfield 106, 3) := by decide +kernel
theorem dX8_isMan_7 : decode cX8_isMan 7 = .ok (.iconst 1, 1) := by decide +kernel
theorem dX8_isMan_8 : decode cX8_isMan 8 = .ok (.isub, 1) := by decide +kernel
theorem dX8_isMan_9 : decode cX8_isMan 9 = .ok (.i2l, 1) := by decide +kernel
theorem dX8_isMan_10 : decode cX8_isMan 10 = .ok (.invokestatic 109, 3) := by decide +kernel
theorem dX8_isMan_13 : decode cX8_isMan 13 = .ok (.ireturn, 1) := by decide +kernel
theorem dX8_isMaid_0 : decode cX8_isMaid 0 = .ok (.iload_n 1, 1) := by decide +kernel
theorem dX8_isMaid_1 : decode cX8_isMaid 1 = .ok (.i2l, 1) := by decide +kernel
theorem dX8_isMaid_2 : decode cX8_isMaid 2 = .ok (.lconst 0, 1) := by decide +kernel
theorem dX8_isMaid_3 : decode cX8_isMaid 3 = .ok (.aload_n 0, 1) := by decide +kernel
theorem dX8_isMaid_4 : decode cX8_isMaid 4 = .ok (.getfield 113, 3) := by decide +kernel
theorem dX8_isMaid_7 : decode cX8_isMaid 7 = .ok (.iconst 1, 1) := by decide +kernel
theorem dX8_isMaid_8 : decode cX8_isMaid 8 = .ok (.isub, 1) := by decide +kernel
theorem dX8_isMaid_9 : decode cX8_isMaid 9 = .ok (.i2l, 1) := by decide +kernel
theorem dX8_isMaid_10 : decode cX8_isMaid 10 = .ok (.invokestatic 109, 3) := by decide +kernel
theorem dX8_isMaid_13 : decode cX8_isMaid 13 = .ok (.ireturn, 1) := by decide +kernel
theorem dX8_man_0 : decode cX8_man 0 = .ok (.iload_n 1, 1) := by decide +kernel
theorem dX8_man_1 : decode cX8_man 1 = .ok (.i2l, 1) := by decide +kernel
theorem dX8_man_2 : decode cX8_man 2 = .ok (.lconst 0, 1) := by decide +kernel
theorem dX8_man_3 : decode cX8_man 3 = .ok (.ldc2_w 116, 3) := by decide +kernel
theorem dX8_man_6 : decode cX8_man 6 = .ok (.invokestatic 109, 3) := by decide +kernel
theorem dX8_man_9 : decode cX8_man 9 = .ok (.ifCond .ne 6, 3) := by decide +kernel
theorem dX8_man_12 : decode cX8_man 12 = .ok (.bipush (-2), 2) := by decide +kernel
theorem dX8_man_14 : decode cX8_man 14 = .ok (.ireturn, 1) := by decide +kernel
theorem dX8_man_15 : decode cX8_man 15 = .ok (.aload_n 0, 1) := by decide +kernel
theorem dX8_man_16 : decode cX8_man 16 = .ok (.getfield 106, 3) := by decide +kernel
theorem dX8_man_19 : decode cX8_man 19 = .ok (.iconst 4, 1) := by decide +kernel
theorem dX8_man_20 : decode cX8_man 20 = .ok (.if_icmp .ne 6, 3) := by decide +kernel
theorem dX8_man_23 : decode cX8_man 23 = .ok (.bipush (-4), 2) := by decide +kernel
theorem dX8_man_25 : decode cX8_man 25 = .ok (.ireturn, 1) := by decide +kernel
theorem dX8_man_26 : decode cX8_man 26 = .ok (.aload_n 0, 1) := by decide +kernel
theorem dX8_man_27 : decode cX8_man 27 = .ok (.getfield 29, 3) := by decide +kernel
theorem dX8_man_30 : decode cX8_man 30 = .ok (.aload_n 0, 1) := by decide +kernel
theorem dX8_man_31 : decode cX8_man 31 = .ok (.getfield 106, 3) := by decide +kernel
theorem dX8_man_34 : decode cX8_man 34 = .ok (.iload_n 1, 1) := by decide +kernel
theorem dX8_man_35 : decode cX8_man 35 = .ok (.iastore, 1) := by decide +kernel
theorem dX8_man_36 : decode cX8_man 36 = .ok (.aload_n 0, 1) := by decide +kernel
theorem dX8_man_37 : decode cX8_man 37 = .ok (.getfield 32, 3) := by decide +kernel
theorem dX8_man_40 : decode cX8_man 40 = .ok (.aload_n 0, 1) := by decide +kernel
theorem dX8_man_41 : decode cX8_man 41 = .ok (.getfield 106, 3) := by decide +kernel
theorem dX8_man_44 : decode cX8_man 44 = .ok (.iconst (-1), 1) := by decide +kernel
theorem dX8_man_45 : decode cX8_man 45 = .ok (.iastore, 1) := by decide +kernel
theorem dX8_man_46 : decode cX8_man 46 = .ok (.iconst 0, 1) := by decide +kernel
theorem dX8_man_47 : decode cX8_man 47 = .ok (.istore_n 2, 1) := by decide +kernel
theorem dX8_man_48 : decode cX8_man 48 = .ok (.iload_n 2, 1) := by decide +kernel
theorem dX8_man_49 : decode cX8_man 49 = .ok (.iconst 4, 1) := by decide +kernel
theorem dX8_man_50 : decode cX8_man 50 = .ok (.if_icmp .ge 39, 3) := by decide +kernel
theorem dX8_man_53 : decode cX8_man 53 = .ok (.aload_n 0, 1) := by decide +kernel
theorem dX8_man_54 : decode cX8_man 54 = .ok (.getfield 23, 3) := by decide +kernel
theorem dX8_man_57 : decode cX8_man 57 = .ok (.iconst 4, 1) := by decide +kernel
theorem dX8_man_58 : decode cX8_man 58 = .ok (.aload_n 0, 1) := by decide +kernel
theorem dX8_man_59 : decode cX8_man 59 = .ok (.getfield 106, 3) := by decide +kernel
theorem dX8_man_62 : decode cX8_man 62 = .ok (.imul, 1) := by decide +kernel
theorem dX8_man_63 : decode cX8_man 63 = .ok (.iload_n 2, 1) := by decide +kernel
theorem dX8_man_64 : decode cX8_man 64 = .ok (.iadd, 1) := by decide +kernel
theorem dX8_man_65 : decode cX8_man 65 = .ok (.bipush 50, 2) := by decide +kernel
theorem dX8_man_67 : decode cX8_man 67 = .ok (.iastore, 1) := by decide +kernel
theorem dX8_man_68 : decode cX8_man 68 = .ok (.aload_n 0, 1) := by decide +kernel
theorem dX8_man_69 : decode cX8_man 69 = .ok (.getfield 26, 3) := by decide +kernel
theorem dX8_man_72 : decode cX8_man 72 = .ok (.iconst 4, 1) := by decide +kernel
theorem dX8_man_73 : decode cX8_man 73 = .ok (.aload_n 0, 1) := by decide +kernel
theorem dX8_man_74 : decode cX8_man 74 = .ok (.getfield 106, 3) := by decide +kernel
theorem dX8_man_77 : decode cX8_man 77 = .ok (.imul, 1) := by decide +kernel
theorem dX8_man_78 : decode cX8_man 78 = .ok (.iload_n 2, 1) := by decide +kernel
theorem dX8_man_79 : decode cX8_man 79 = .ok (.iadd, 1) := by decide +kernel
theorem dX8_man_80 : decode cX8_man 80 = .ok (.bipush 50, 2) := by decide +kernel
theorem dX8_man_82 : decode cX8_man 82 = .ok (.iastore, 1) := by decide +kernel
theorem dX8_man_83 : decode cX8_man 83 = .ok (.iinc 2 1, 3) := by decide +kernel
theorem dX8_man_86 : decode cX8_man 86 = .ok (.goto (-38), 3) := by decide +kernel
theorem dX8_man_89 : decode cX8_man 89 = .ok (.aload_n 0, 1) := by decide +kernel
theorem dX8_man_90 : decode cX8_man 90 = .ok (.dup, 1) := by decide +kernel
theorem dX8_man_91 : decode cX8_man 91 = .ok (.getfield 106, 3) := by decide +kernel
theorem dX8_man_94 : decode cX8_man 94 = .ok (.iconst 1, 1) := by decide +kernel
theorem dX8_man_95 : decode cX8_man 95 = .ok (.iadd, 1) := by decide +kernel
theorem dX8_man_96 : decode cX8_man 96 = .ok (.putfield 106, 3) := by decide +kernel
theorem dX8_man_99 : decode cX8_man 99 = .ok (.aload_n 0, 1) := by decide +kernel
theorem dX8_man_100 : decode cX8_man 100 = .ok (.getfield 106, 3) := by decide +kernel
theorem dX8_man_103 : decode cX8_man 103 = .ok (.iconst 1, 1) := by decide +kernel
theorem dX8_man_104 : decode cX8_man 104 = .ok (.isub, 1) := by decide +kernel
theorem dX8_man_105 : decode cX8_man 105 = .ok (.ireturn, 1) := by decide +kernel
theorem dX8_maid_0 : decode cX8_maid 0 = .ok (.iload_n 1, 1) := by decide +kernel
theorem dX8_maid_1 : decode cX8_maid 1 = .ok (.i2l, 1) := by decide +kernel
theorem dX8_maid_2 : decode cX8_maid 2 = .ok (.lconst 0, 1) := by decide +kernel
theorem dX8_maid_3 : decode cX8_maid 3 = .ok (.ldc2_w 118, 3) := by decide +kernel
theorem dX8_maid_6 : decode cX8_maid 6 = .ok (.invokestatic 109, 3) := by decide +kernel
theorem dX8_maid_9 : decode cX8_maid 9 = .ok (.ifCond .eq 15, 3) := by decide +kernel
theorem dX8_maid_12 : decode cX8_maid 12 = .ok (.iload_n 2, 1) := by decide +kernel
theorem dX8_maid_13 : decode cX8_maid 13 = .ok (.i2l, 1) := by decide +kernel
theorem dX8_maid_14 : decode cX8_maid 14 = .ok (.lconst 0, 1) := by decide +kernel
theorem dX8_maid_15 : decode cX8_maid 15 = .ok (.ldc2_w 116, 3) := by decide +kernel
theorem dX8_maid_18 : decode cX8_maid 18 = .ok (.invokestatic 109, 3) := by decide +kernel
theorem dX8_maid_21 : decode cX8_maid 21 = .ok (.ifCond .ne 6, 3) := by decide +kernel
theorem dX8_maid_24 : decode cX8_maid 24 = .ok (.bipush (-2), 2) := by decide +kernel
theorem dX8_maid_26 : decode cX8_maid 26 = .ok (.ireturn, 1) := by decide +kernel
theorem dX8_maid_27 : decode cX8_maid 27 = .ok (.aload_n 0, 1) := by decide +kernel
theorem dX8_maid_28 : decode cX8_maid 28 = .ok (.getfield 113, 3) := by decide +kernel
theorem dX8_maid_31 : decode cX8_maid 31 = .ok (.iconst 4, 1) := by decide +kernel
theorem dX8_maid_32 : decode cX8_maid 32 = .ok (.if_icmp .ne 6, 3) := by decide +kernel
theorem dX8_maid_35 : decode cX8_maid 35 = .ok (.bipush (-4), 2) := by decide +kernel
theorem dX8_maid_37 : decode cX8_maid 37 = .ok (.ireturn, 1) := by decide +kernel
theorem dX8_maid_38 : decode cX8_maid 38 = .ok (.aload_n 0, 1) := by decide +kernel
theorem dX8_maid_39 : decode cX8_maid 39 = .ok (.getfield 38, 3) := by decide +kernel
theorem dX8_maid_42 : decode cX8_maid 42 = .ok (.aload_n 0, 1) := by decide +kernel
theorem dX8_maid_43 : decode cX8_maid 43 = .ok (.getfield 113, 3) := by decide +kernel
theorem dX8_maid_46 : decode cX8_maid 46 = .ok (.iload_n 1, 1) := by decide +kernel
theorem dX8_maid_47 : decode cX8_maid 47 = .ok (.iastore, 1) := by decide +kernel
theorem dX8_maid_48 : decode cX8_maid 48 = .ok (.aload_n 0, 1) := by decide +kernel
theorem dX8_maid_49 : decode cX8_maid 49 = .ok (.getfield 41, 3) := by decide +kernel
theorem dX8_maid_52 : decode cX8_maid 52 = .ok (.aload_n 0, 1) := by decide +kernel
theorem dX8_maid_53 : decode cX8_maid 53 = .ok (.getfield 113, 3) := by decide +kernel
theorem dX8_maid_56 : decode cX8_maid 56 = .ok (.iload_n 2, 1) := by decide +kernel
theorem dX8_maid_57 : decode cX8_maid 57 = .ok (.iastore, 1) := by decide +kernel
theorem dX8_maid_58 : decode cX8_maid 58 = .ok (.aload_n 0, 1) := by decide +kernel
theorem dX8_maid_59 : decode cX8_maid 59 = .ok (.getfield 35, 3) := by decide +kernel
theorem dX8_maid_62 : decode cX8_maid 62 = .ok (.aload_n 0, 1) := by decide +kernel
theorem dX8_maid_63 : decode cX8_maid 63 = .ok (.getfield 113, 3) := by decide +kernel
theorem dX8_maid_66 : decode cX8_maid 66 = .ok (.iconst (-1), 1) := by decide +kernel
theorem dX8_maid_67 : decode cX8_maid 67 = .ok (.iastore, 1) := by decide +kernel
theorem dX8_maid_68 : decode cX8_maid 68 = .ok (.iconst 0, 1) := by decide +kernel
theorem dX8_maid_69 : decode cX8_maid 69 = .ok (.istore_n 3, 1) := by decide +kernel
theorem dX8_maid_70 : decode cX8_maid 70 = .ok (.iload_n 3, 1) := by decide +kernel
theorem dX8_maid_71 : decode cX8_maid 71 = .ok (.iconst 4, 1) := by decide +kernel
theorem dX8_maid_72 : decode cX8_maid 72 = .ok (.if_icmp .ge 39, 3) := by decide +kernel
theorem dX8_maid_75 : decode cX8_maid 75 = .ok (.aload_n 0, 1) := by decide +kernel
theorem dX8_maid_76 : decode cX8_maid 76 = .ok (.getfield 23, 3) := by decide +kernel
theorem dX8_maid_79 : decode cX8_maid 79 = .ok (.iconst 4, 1) := by decide +kernel
theorem dX8_maid_80 : decode cX8_maid 80 = .ok (.iload_n 3, 1) := by decide +kernel
theorem dX8_maid_81 : decode cX8_maid 81 = .ok (.imul, 1) := by decide +kernel
theorem dX8_maid_82 : decode cX8_maid 82 = .ok (.aload_n 0, 1) := by decide +kernel
theorem dX8_maid_83 : decode cX8_maid 83 = .ok (.getfield 113, 3) := by decide +kernel
theorem dX8_maid_86 : decode cX8_maid 86 = .ok (.iadd, 1) := by decide +kernel
theorem dX8_maid_87 : decode cX8_maid 87 = .ok (.bipush 50, 2) := by decide +kernel
theorem dX8_maid_89 : decode cX8_maid 89 = .ok (.iastore, 1) := by decide +kernel
theorem dX8_maid_90 : decode cX8_maid 90 = .ok (.aload_n 0, 1) := by decide +kernel
theorem dX8_maid_91 : decode cX8_maid 91 = .ok (.getfield 26, 3) := by decide +kernel
theorem dX8_maid_94 : decode cX8_maid 94 = .ok (.iconst 4, 1) := by decide +kernel
theorem dX8_maid_95 : decode cX8_maid 95 = .ok (.iload_n 3, 1) := by decide +kernel
theorem dX8_maid_96 : decode cX8_maid 96 = .ok (.imul, 1) := by decide +kernel
theorem dX8_maid_97 : decode cX8_maid 97 = .ok (.aload_n 0, 1) := by decide +kernel
theorem dX8_maid_98 : decode cX8_maid 98 = .ok (.getfield 113, 3) := by decide +kernel
theorem dX8_maid_101 : decode cX8_maid 101 = .ok (.iadd, 1) := by decide +kernel
theorem dX8_maid_102 : decode cX8_maid 102 = .ok (.bipush 50, 2) := by decide +kernel
theorem dX8_maid_104 : decode cX8_maid 104 = .ok (.iastore, 1) := by decide +kernel
theorem dX8_maid_105 : decode cX8_maid 105 = .ok (.iinc 3 1, 3) := by decide +kernel
theorem dX8_maid_108 : decode cX8_maid 108 = .ok (.goto (-38), 3) := by decide +kernel
theorem dX8_maid_111 : decode cX8_maid 111 = .ok (.aload_n 0, 1) := by decide +kernel
theorem dX8_maid_112 : decode cX8_maid 112 = .ok (.dup, 1) := by decide +kernel
theorem dX8_maid_113 : decode cX8_maid 113 = .ok (.getfield 113, 3) := by decide +kernel
theorem dX8_maid_116 : decode cX8_maid 116 = .ok (.iconst 1, 1) := by decide +kernel
theorem dX8_maid_117 : decode cX8_maid 117 = .ok (.iadd, 1) := by decide +kernel
theorem dX8_maid_118 : decode cX8_maid 118 = .ok (.putfield 113, 3) := by decide +kernel
theorem dX8_maid_121 : decode cX8_maid 121 = .ok (.aload_n 0, 1) := by decide +kernel
theorem dX8_maid_122 : decode cX8_maid 122 = .ok (.getfield 113, 3) := by decide +kernel
theorem dX8_maid_125 : decode cX8_maid 125 = .ok (.iconst 1, 1) := by decide +kernel
theorem dX8_maid_126 : decode cX8_maid 126 = .ok (.isub, 1) := by decide +kernel
theorem dX8_maid_127 : decode cX8_maid 127 = .ok (.ireturn, 1) := by decide +kernel
theorem dX8_likes_0 : decode cX8_likes 0 = .ok (.aload_n 0, 1) := by decide +kernel
theorem dX8_likes_1 : decode cX8_likes 1 = .ok (.iload_n 1, 1) := by decide +kernel
theorem dX8_likes_2 : decode cX8_likes 2 = .ok (.invokevirtual 120, 3) := by decide +kernel
theorem dX8_likes_5 : decode cX8_likes 5 = .ok (.ifCond .eq 34, 3) := by decide +kernel
theorem dX8_likes_8 : decode cX8_likes 8 = .ok (.aload_n 0, 1) := by decide +kernel
theorem dX8_likes_9 : decode cX8_likes 9 = .ok (.iload_n 2, 1) := by decide +kernel
theorem dX8_likes_10 : decode cX8_likes 10 = .ok (.invokevirtual 124, 3) := by decide +kernel
theorem dX8_likes_13 : decode cX8_likes 13 = .ok (.ifCond .eq 26, 3) := by decide +kernel
theorem dX8_likes_16 : decode cX8_likes 16 = .ok (.iload_n 3, 1) := by decide +kernel
theorem dX8_likes_17 : decode cX8_likes 17 = .ok (.i2l, 1) := by decide +kernel
theorem dX8_likes_18 : decode cX8_likes 18 = .ok (.lconst 0, 1) := by decide +kernel
theorem dX8_likes_19 : decode cX8_likes 19 = .ok (.lconst 1, 1) := by decide +kernel
theorem dX8_likes_20 : decode cX8_likes 20 = .ok (.invokestatic 109, 3) := by decide +kernel
theorem dX8_likes_23 : decode cX8_likes 23 = .ok (.ifCond .eq 16, 3) := by decide +kernel
theorem dX8_likes_26 : decode cX8_likes 26 = .ok (.iload 4, 2) := by decide +kernel
theorem dX8_likes_28 : decode cX8_likes 28 = .ok (.i2l, 1) := by decide +kernel
theorem dX8_likes_29 : decode cX8_likes 29 = .ok (.lconst 0, 1) := by decide +kernel
theorem dX8_likes_30 : decode cX8_likes 30 = .ok (.ldc2_w 127, 3) := by decide +kernel
theorem dX8_likes_33 : decode cX8_likes 33 = .ok (.invokestatic 109, 3) := by decide +kernel
theorem dX8_likes_36 : decode cX8_likes 36 = .ok (.ifCond .ne 6, 3) := by decide +kernel
theorem dX8_likes_39 : decode cX8_likes 39 = .ok (.bipush (-2), 2) := by decide +kernel
theorem dX8_likes_41 : decode cX8_likes 41 = .ok (.ireturn, 1) := by decide +kernel
theorem dX8_likes_42 : decode cX8_likes 42 = .ok (.iconst 4, 1) := by decide +kernel
theorem dX8_likes_43 : decode cX8_likes 43 = .ok (.iload_n 1, 1) := by decide +kernel
theorem dX8_likes_44 : decode cX8_likes 44 = .ok (.imul, 1) := by decide +kernel
theorem dX8_likes_45 : decode cX8_likes 45 = .ok (.iload_n 2, 1) := by decide +kernel
theorem dX8_likes_46 : decode cX8_likes 46 = .ok (.iadd, 1) := by decide +kernel
theorem dX8_likes_47 : decode cX8_likes 47 = .ok (.istore 5, 2) := by decide +kernel
theorem dX8_likes_49 : decode cX8_likes 49 = .ok (.iload_n 3, 1) := by decide +kernel
theorem dX8_likes_50 : decode cX8_likes 50 = .ok (.ifCond .ne 13, 3) := by decide +kernel
theorem dX8_likes_53 : decode cX8_likes 53 = .ok (.aload_n 0, 1) := by decide +kernel
theorem dX8_likes_54 : decode cX8_likes 54 = .ok (.getfield 23, 3) := by decide +kernel
theorem dX8_likes_57 : decode cX8_likes 57 = .ok (.iload 5, 2) := by decide +kernel
theorem dX8_likes_59 : decode cX8_likes 59 = .ok (.iaload, 1) := by decide +kernel
theorem dX8_likes_60 : decode cX8_likes 60 = .ok (.goto 10, 3) := by decide +kernel
theorem dX8_likes_63 : decode cX8_likes 63 = .ok (.aload_n 0, 1) := by decide +kernel
theorem dX8_likes_64 : decode cX8_likes 64 = .ok (.getfield 26, 3) := by decide +kernel
theorem dX8_likes_67 : decode cX8_likes 67 = .ok (.iload 5, 2) := by decide +kernel
theorem dX8_likes_69 : decode cX8_likes 69 = .ok (.iaload, 1) := by decide +kernel
theorem dX8_likes_70 : decode cX8_likes 70 = .ok (.istore 6, 2) := by decide +kernel
theorem dX8_likes_72 : decode cX8_likes 72 = .ok (.iload_n 3, 1) := by decide +kernel
theorem dX8_likes_73 : decode cX8_likes 73 = .ok (.ifCond .ne 15, 3) := by decide +kernel
theorem dX8_likes_76 : decode cX8_likes 76 = .ok (.aload_n 0, 1) := by decide +kernel
theorem dX8_likes_77 : decode cX8_likes 77 = .ok (.getfield 23, 3) := by decide +kernel
theorem dX8_likes_80 : decode cX8_likes 80 = .ok (.iload 5, 2) := by decide +kernel
theorem dX8_likes_82 : decode cX8_likes 82 = .ok (.iload 4, 2) := by decide +kernel
theorem dX8_likes_84 : decode cX8_likes 84 = .ok (.iastore, 1) := by decide +kernel
theorem dX8_likes_85 : decode cX8_likes 85 = .ok (.goto 12, 3) := by decide +kernel
theorem dX8_likes_88 : decode cX8_likes 88 = .ok (.aload_n 0, 1) := by decide +kernel
theorem dX8_likes_89 : decode cX8_likes 89 = .ok (.getfield 26, 3) := by decide +kernel
theorem dX8_likes_92 : decode cX8_likes 92 = .ok (.iload 5, 2) := by decide +kernel
theorem dX8_likes_94 : decode cX8_likes 94 = .ok (.iload 4, 2) := by decide +kernel
theorem dX8_likes_96 : decode cX8_likes 96 = .ok (.iastore, 1) := by decide +kernel
theorem dX8_likes_97 : decode cX8_likes 97 = .ok (.iload 6, 2) := by decide +kernel
theorem dX8_likes_99 : decode cX8_likes 99 = .ok (.ireturn, 1) := by decide +kernel
theorem dX8_set_0 : decode cX8_set 0 = .ok (.iload_n 1, 1) := by decide +kernel
theorem dX8_set_1 : decode cX8_set 1 = .ok (.i2l, 1) := by decide +kernel
theorem dX8_set_2 : decode cX8_set 2 = .ok (.lconst 0, 1) := by decide +kernel
theorem dX8_set_3 : decode cX8_set 3 = .ok (.ldc2_w 129, 3) := by decide +kernel
theorem dX8_set_6 : decode cX8_set 6 = .ok (.invokestatic 109, 3) := by decide +kernel
theorem dX8_set_9 : decode cX8_set 9 = .ok (.ifCond .eq 51, 3) := by decide +kernel
theorem dX8_set_12 : decode cX8_set 12 = .ok (.iload_n 1, 1) := by decide +kernel
theorem dX8_set_13 : decode cX8_set 13 = .ok (.ifCond .ne 11, 3) := by decide +kernel
theorem dX8_set_16 : decode cX8_set 16 = .ok (.aload_n 0, 1) := by decide +kernel
theorem dX8_set_17 : decode cX8_set 17 = .ok (.iload_n 2, 1) := by decide +kernel
theorem dX8_set_18 : decode cX8_set 18 = .ok (.invokevirtual 120, 3) := by decide +kernel
theorem dX8_set_21 : decode cX8_set 21 = .ok (.ifCond .eq 39, 3) := by decide +kernel
theorem dX8_set_24 : decode cX8_set 24 = .ok (.iload_n 1, 1) := by decide +kernel
theorem dX8_set_25 : decode cX8_set 25 = .ok (.iconst 1, 1) := by decide +kernel
theorem dX8_set_26 : decode cX8_set 26 = .ok (.if_icmp .ne 11, 3) := by decide +kernel
theorem dX8_set_29 : decode cX8_set 29 = .ok (.aload_n 0, 1) := by decide +kernel
theorem dX8_set_30 : decode cX8_set 30 = .ok (.iload_n 2, 1) := by decide +kernel
theorem dX8_set_31 : decode cX8_set 31 = .ok (.invokevirtual 124, 3) := by decide +kernel
theorem dX8_set_34 : decode cX8_set 34 = .ok (.ifCond .eq 26, 3) := by decide +kernel
theorem dX8_set_37 : decode cX8_set 37 = .ok (.iload_n 3, 1) := by decide +kernel
theorem dX8_set_38 : decode cX8_set 38 = .ok (.i2l, 1) := by decide +kernel
theorem dX8_set_39 : decode cX8_set 39 = .ok (.lconst 0, 1) := by decide +kernel
theorem dX8_set_40 : decode cX8_set 40 = .ok (.iload_n 1, 1) := by decide +kernel
theorem dX8_set_41 : decode cX8_set 41 = .ok (.iconst 2, 1) := by decide +kernel
theorem dX8_set_42 : decode cX8_set 42 = .ok (.if_icmp .ne 9, 3) := by decide +kernel
theorem dX8_set_45 : decode cX8_set 45 = .ok (.ldc2_w 127, 3) := by decide +kernel
theorem dX8_set_48 : decode cX8_set 48 = .ok (.goto 6, 3) := by decide +kernel
theorem dX8_set_51 : decode cX8_set 51 = .ok (.ldc2_w 116, 3) := by decide +kernel
theorem dX8_set_54 : decode cX8_set 54 = .ok (.invokestatic 109, 3) := by decide +kernel
theorem dX8_set_57 : decode cX8_set 57 = .ok (.ifCond .ne 6, 3) := by decide +kernel
theorem dX8_set_60 : decode cX8_set 60 = .ok (.bipush (-2), 2) := by decide +kernel
theorem dX8_set_62 : decode cX8_set 62 = .ok (.ireturn, 1) := by decide +kernel
theorem dX8_set_63 : decode cX8_set 63 = .ok (.iload_n 1, 1) := by decide +kernel
theorem dX8_set_64 : decode cX8_set 64 = .ok (.ifCond .ne 12, 3) := by decide +kernel
theorem dX8_set_67 : decode cX8_set 67 = .ok (.aload_n 0, 1) := by decide +kernel
theorem dX8_set_68 : decode cX8_set 68 = .ok (.getfield 29, 3) := by decide +kernel
theorem dX8_set_71 : decode cX8_set 71 = .ok (.iload_n 2, 1) := by decide +kernel
theorem dX8_set_72 : decode cX8_set 72 = .ok (.iaload, 1) := by decide +kernel
theorem dX8_set_73 : decode cX8_set 73 = .ok (.goto 21, 3) := by decide +kernel
theorem dX8_set_76 : decode cX8_set 76 = .ok (.iload_n 1, 1) := by decide +kernel
theorem dX8_set_77 : decode cX8_set 77 = .ok (.iconst 1, 1) := by decide +kernel
theorem dX8_set_78 : decode cX8_set 78 = .ok (.if_icmp .ne 12, 3) := by decide +kernel
theorem dX8_set_81 : decode cX8_set 81 = .ok (.aload_n 0, 1) := by decide +kernel
theorem dX8_set_82 : decode cX8_set 82 = .ok (.getfield 41, 3) := by decide +kernel
theorem dX8_set_85 : decode cX8_set 85 = .ok (.iload_n 2, 1) := by decide +kernel
theorem dX8_set_86 : decode cX8_set 86 = .ok (.iaload, 1) := by decide +kernel
theorem dX8_set_87 : decode cX8_set 87 = .ok (.goto 7, 3) := by decide +kernel
theorem dX8_set_90 : decode cX8_set 90 = .ok (.aload_n 0, 1) := by decide +kernel
theorem dX8_set_91 : decode cX8_set 91 = .ok (.getfield 131, 3) := by decide +kernel
theorem dX8_set_94 : decode cX8_set 94 = .ok (.istore 4, 2) := by decide +kernel
theorem dX8_set_96 : decode cX8_set 96 = .ok (.iload_n 1, 1) := by decide +kernel
theorem dX8_set_97 : decode cX8_set 97 = .ok (.ifCond .ne 13, 3) := by decide +kernel
theorem dX8_set_100 : decode cX8_set 100 = .ok (.aload_n 0, 1) := by decide +kernel
theorem dX8_set_101 : decode cX8_set 101 = .ok (.getfield 29, 3) := by decide +kernel
theorem dX8_set_104 : decode cX8_set 104 = .ok (.iload_n 2, 1) := by decide +kernel
theorem dX8_set_105 : decode cX8_set 105 = .ok (.iload_n 3, 1) := by decide +kernel
theorem dX8_set_106 : decode cX8_set 106 = .ok (.iastore, 1) := by decide +kernel
theorem dX8_set_107 : decode cX8_set 107 = .ok (.goto 23, 3) := by decide +kernel
theorem dX8_set_110 : decode cX8_set 110 = .ok (.iload_n 1, 1) := by decide +kernel
theorem dX8_set_111 : decode cX8_set 111 = .ok (.iconst 1, 1) := by decide +kernel
theorem dX8_set_112 : decode cX8_set 112 = .ok (.if_icmp .ne 13, 3) := by decide +kernel
theorem dX8_set_115 : decode cX8_set 115 = .ok (.aload_n 0, 1) := by decide +kernel
theorem dX8_set_116 : decode cX8_set 116 = .ok (.getfield 41, 3) := by decide +kernel
theorem dX8_set_119 : decode cX8_set 119 = .ok (.iload_n 2, 1) := by decide +kernel
theorem dX8_set_120 : decode cX8_set 120 = .ok (.iload_n 3, 1) := by decide +kernel
theorem dX8_set_121 : decode cX8_set 121 = .ok (.iastore, 1) := by decide +kernel
theorem dX8_set_122 : decode cX8_set 122 = .ok (.goto 8, 3) := by decide +kernel
theorem dX8_set_125 : decode cX8_set 125 = .ok (.aload_n 0, 1) := by decide +kernel
theorem dX8_set_126 : decode cX8_set 126 = .ok (.iload_n 3, 1) := by decide +kernel
theorem dX8_set_127 : decode cX8_set 127 = .ok (.putfield 131, 3) := by decide +kernel
theorem dX8_set_130 : decode cX8_set 130 = .ok (.iload 4, 2) := by decide +kernel
theorem dX8_set_132 : decode cX8_set 132 = .ok (.ireturn, 1) := by decide +kernel
theorem dX8_needs_0 : decode cX8_needs 0 = .ok (.aload_n 0, 1) := by decide +kernel
theorem dX8_needs_1 : decode cX8_needs 1 = .ok (.getfield 38, 3) := by decide +kernel
theorem dX8_needs_4 : decode cX8_needs 4 = .ok (.iload_n 1, 1) := by decide +kernel
theorem dX8_needs_5 : decode cX8_needs 5 = .ok (.iaload, 1) := by decide +kernel
theorem dX8_needs_6 : decode cX8_needs 6 = .ok (.istore_n 2, 1) := by decide +kernel
theorem dX8_needs_7 : decode cX8_needs 7 = .ok (.iload_n 2, 1) := by decide +kernel
theorem dX8_needs_8 : decode cX8_needs 8 = .ok (.iconst 1, 1) := by decide +kernel
theorem dX8_needs_9 : decode cX8_needs 9 = .ok (.if_icmp .eq 8, 3) := by decide +kernel
theorem dX8_needs_12 : decode cX8_needs 12 = .ok (.iload_n 2, 1) := by decide +kernel
theorem dX8_needs_13 : decode cX8_needs 13 = .ok (.iconst 4, 1) := by decide +kernel
theorem dX8_needs_14 : decode cX8_needs 14 = .ok (.if_icmp .ne 5, 3) := by decide +kernel
theorem dX8_needs_17 : decode cX8_needs 17 = .ok (.iconst 0, 1) := by decide +kernel
theorem dX8_needs_18 : decode cX8_needs 18 = .ok (.ireturn, 1) := by decide +kernel
theorem dX8_needs_19 : decode cX8_needs 19 = .ok (.iload_n 2, 1) := by decide +kernel
theorem dX8_needs_20 : decode cX8_needs 20 = .ok (.iconst 2, 1) := by decide +kernel
theorem dX8_needs_21 : decode cX8_needs 21 = .ok (.if_icmp .eq 8, 3) := by decide +kernel
theorem dX8_needs_24 : decode cX8_needs 24 = .ok (.iload_n 2, 1) := by decide +kernel
theorem dX8_needs_25 : decode cX8_needs 25 = .ok (.iconst 3, 1) := by decide +kernel
theorem dX8_needs_26 : decode cX8_needs 26 = .ok (.if_icmp .ne 25, 3) := by decide +kernel
theorem dX8_needs_29 : decode cX8_needs 29 = .ok (.iconst 1, 1) := by decide +kernel
theorem dX8_needs_30 : decode cX8_needs 30 = .ok (.aload_n 0, 1) := by decide +kernel
theorem dX8_needs_31 : decode cX8_needs 31 = .ok (.getfield 41, 3) := by decide +kernel
theorem dX8_needs_34 : decode cX8_needs 34 = .ok (.iload_n 1, 1) := by decide +kernel
theorem dX8_needs_35 : decode cX8_needs 35 = .ok (.iaload, 1) := by decide +kernel
theorem dX8_needs_36 : decode cX8_needs 36 = .ok (.iconst 3, 1) := by decide +kernel
theorem dX8_needs_37 : decode cX8_needs 37 = .ok (.irem, 1) := by decide +kernel
theorem dX8_needs_38 : decode cX8_needs 38 = .ok (.iadd, 1) := by decide +kernel
theorem dX8_needs_39 : decode cX8_needs 39 = .ok (.iload_n 2, 1) := by decide +kernel
theorem dX8_needs_40 : decode cX8_needs 40 = .ok (.iconst 3, 1) := by decide +kernel
theorem dX8_needs_41 : decode cX8_needs 41 = .ok (.if_icmp .ne 7, 3) := by decide +kernel
theorem dX8_needs_44 : decode cX8_needs 44 = .ok (.iconst 1, 1) := by decide +kernel
theorem dX8_needs_45 : decode cX8_needs 45 = .ok (.goto 4, 3) := by decide +kernel
theorem dX8_needs_48 : decode cX8_needs 48 = .ok (.iconst 0, 1) := by decide +kernel
theorem dX8_needs_49 : decode cX8_needs 49 = .ok (.iadd, 1) := by decide +kernel
theorem dX8_needs_50 : decode cX8_needs 50 = .ok (.ireturn, 1) := by decide +kernel
theorem dX8_needs_51 : decode cX8_needs 51 = .ok (.iload_n 2, 1) := by decide +kernel
theorem dX8_needs_52 : decode cX8_needs 52 = .ok (.iconst 5, 1) := by decide +kernel
theorem dX8_needs_53 : decode cX8_needs 53 = .ok (.if_icmp .ne 18, 3) := by decide +kernel
theorem dX8_needs_56 : decode cX8_needs 56 = .ok (.aload_n 0, 1) := by decide +kernel
theorem dX8_needs_57 : decode cX8_needs 57 = .ok (.getfield 41, 3) := by decide +kernel
theorem dX8_needs_60 : decode cX8_needs 60 = .ok (.iload_n 1, 1) := by decide +kernel
theorem dX8_needs_61 : decode cX8_needs 61 = .ok (.iaload, 1) := by decide +kernel
theorem dX8_needs_62 : decode cX8_needs 62 = .ok (.iconst 2, 1) := by decide +kernel
theorem dX8_needs_63 : decode cX8_needs 63 = .ok (.irem, 1) := by decide +kernel
theorem dX8_needs_64 : decode cX8_needs 64 = .ok (.ifCond .ne 7, 3) := by decide +kernel
theorem dX8_needs_67 : decode cX8_needs 67 = .ok (.iconst 0, 1) := by decide +kernel
theorem dX8_needs_68 : decode cX8_needs 68 = .ok (.goto 4, 3) := by decide +kernel
theorem dX8_needs_71 : decode cX8_needs 71 = .ok (.iconst 1, 1) := by decide +kernel
theorem dX8_needs_72 : decode cX8_needs 72 = .ok (.ireturn, 1) := by decide +kernel
theorem dX8_refuses_0 : decode cX8_refuses 0 = .ok (.aload_n 0, 1) := by decide +kernel
theorem dX8_refuses_1 : decode cX8_refuses 1 = .ok (.getfield 38, 3) := by decide +kernel
theorem dX8_refuses_4 : decode cX8_refuses 4 = .ok (.iload_n 1, 1) := by decide +kernel
theorem dX8_refuses_5 : decode cX8_refuses 5 = .ok (.iaload, 1) := by decide +kernel
theorem dX8_refuses_6 : decode cX8_refuses 6 = .ok (.istore 4, 2) := by decide +kernel
theorem dX8_refuses_8 : decode cX8_refuses 8 = .ok (.iload 4, 2) := by decide +kernel
theorem dX8_refuses_10 : decode cX8_refuses 10 = .ok (.iconst 4, 1) := by decide +kernel
theorem dX8_refuses_11 : decode cX8_refuses 11 = .ok (.if_icmp .ne 5, 3) := by decide +kernel
theorem dX8_refuses_14 : decode cX8_refuses 14 = .ok (.iconst 1, 1) := by decide +kernel
theorem dX8_refuses_15 : decode cX8_refuses 15 = .ok (.ireturn, 1) := by decide +kernel
theorem dX8_refuses_16 : decode cX8_refuses 16 = .ok (.iload 4, 2) := by decide +kernel
theorem dX8_refuses_18 : decode cX8_refuses 18 = .ok (.iconst 5, 1) := by decide +kernel
theorem dX8_refuses_19 : decode cX8_refuses 19 = .ok (.if_icmp .ne 23, 3) := by decide +kernel
theorem dX8_refuses_22 : decode cX8_refuses 22 = .ok (.iload_n 3, 1) := by decide +kernel
theorem dX8_refuses_23 : decode cX8_refuses 23 = .ok (.aload_n 0, 1) := by decide +kernel
theorem dX8_refuses_24 : decode cX8_refuses 24 = .ok (.getfield 41, 3) := by decide +kernel
theorem dX8_refuses_27 : decode cX8_refuses 27 = .ok (.iload_n 1, 1) := by decide +kernel
theorem dX8_refuses_28 : decode cX8_refuses 28 = .ok (.iaload, 1) := by decide +kernel
theorem dX8_refuses_29 : decode cX8_refuses 29 = .ok (.iadd, 1) := by decide +kernel
theorem dX8_refuses_30 : decode cX8_refuses 30 = .ok (.iconst 2, 1) := by decide +kernel
theorem dX8_refuses_31 : decode cX8_refuses 31 = .ok (.irem, 1) := by decide +kernel
theorem dX8_refuses_32 : decode cX8_refuses 32 = .ok (.iconst 1, 1) := by decide +kernel
theorem dX8_refuses_33 : decode cX8_refuses 33 = .ok (.if_icmp .ne 7, 3) := by decide +kernel
theorem dX8_refuses_36 : decode cX8_refuses 36 = .ok (.iconst 1, 1) := by decide +kernel
theorem dX8_refuses_37 : decode cX8_refuses 37 = .ok (.goto 4, 3) := by decide +kernel
theorem dX8_refuses_40 : decode cX8_refuses 40 = .ok (.iconst 0, 1) := by decide +kernel
theorem dX8_refuses_41 : decode cX8_refuses 41 = .ok (.ireturn, 1) := by decide +kernel
theorem dX8_refuses_42 : decode cX8_refuses 42 = .ok (.iload 4, 2) := by decide +kernel
theorem dX8_refuses_44 : decode cX8_refuses 44 = .ok (.iconst 1, 1) := by decide +kernel
theorem dX8_refuses_45 : decode cX8_refuses 45 = .ok (.if_icmp .ne 28, 3) := by decide +kernel
theorem dX8_refuses_48 : decode cX8_refuses 48 = .ok (.iload_n 2, 1) := by decide +kernel
theorem dX8_refuses_49 : decode cX8_refuses 49 = .ok (.bipush 50, 2) := by decide +kernel
theorem dX8_refuses_51 : decode cX8_refuses 51 = .ok (.if_icmp .ge 20, 3) := by decide +kernel
theorem dX8_refuses_54 : decode cX8_refuses 54 = .ok (.iload_n 2, 1) := by decide +kernel
theorem dX8_refuses_55 : decode cX8_refuses 55 = .ok (.bipush 10, 2) := by decide +kernel
theorem dX8_refuses_57 : decode cX8_refuses 57 = .ok (.aload_n 0, 1) := by decide +kernel
theorem dX8_refuses_58 : decode cX8_refuses 58 = .ok (.getfield 41, 3) := by decide +kernel
theorem dX8_refuses_61 : decode cX8_refuses 61 = .ok (.iload_n 1, 1) := by decide +kernel
theorem dX8_refuses_62 : decode cX8_refuses 62 = .ok (.iaload, 1) := by decide +kernel
theorem dX8_refuses_63 : decode cX8_refuses 63 = .ok (.imul, 1) := by decide +kernel
theorem dX8_refuses_64 : decode cX8_refuses 64 = .ok (.if_icmp .ge 7, 3) := by decide +kernel
theorem dX8_refuses_67 : decode cX8_refuses 67 = .ok (.iconst 1, 1) := by decide +kernel
theorem dX8_refuses_68 : decode cX8_refuses 68 = .ok (.goto 4, 3) := by decide +kernel
theorem dX8_refuses_71 : decode cX8_refuses 71 = .ok (.iconst 0, 1) := by decide +kernel
theorem dX8_refuses_72 : decode cX8_refuses 72 = .ok (.ireturn, 1) := by decide +kernel
theorem dX8_refuses_73 : decode cX8_refuses 73 = .ok (.iload_n 2, 1) := by decide +kernel
theorem dX8_refuses_74 : decode cX8_refuses 74 = .ok (.bipush 50, 2) := by decide +kernel
theorem dX8_refuses_76 : decode cX8_refuses 76 = .ok (.if_icmp .lt 32, 3) := by decide +kernel
theorem dX8_refuses_79 : decode cX8_refuses 79 = .ok (.iload 4, 2) := by decide +kernel
theorem dX8_refuses_81 : decode cX8_refuses 81 = .ok (.iconst 2, 1) := by decide +kernel
theorem dX8_refuses_82 : decode cX8_refuses 82 = .ok (.if_icmp .eq 9, 3) := by decide +kernel
theorem dX8_refuses_85 : decode cX8_refuses 85 = .ok (.iload 4, 2) := by decide +kernel
theorem dX8_refuses_87 : decode cX8_refuses 87 = .ok (.iconst 3, 1) := by decide +kernel
theorem dX8_refuses_88 : decode cX8_refuses 88 = .ok (.if_icmp .ne 8, 3) := by decide +kernel
theorem dX8_refuses_91 : decode cX8_refuses 91 = .ok (.iload_n 3, 1) := by decide +kernel
theorem dX8_refuses_92 : decode cX8_refuses 92 = .ok (.iconst 2, 1) := by decide +kernel
theorem dX8_refuses_93 : decode cX8_refuses 93 = .ok (.if_icmp .gt 15, 3) := by decide +kernel
theorem dX8_refuses_96 : decode cX8_refuses 96 = .ok (.iload 4, 2) := by decide +kernel
theorem dX8_refuses_98 : decode cX8_refuses 98 = .ok (.iconst 3, 1) := by decide +kernel
theorem dX8_refuses_99 : decode cX8_refuses 99 = .ok (.if_icmp .ne 13, 3) := by decide +kernel
theorem dX8_refuses_102 : decode cX8_refuses 102 = .ok (.iload_n 2, 1) := by decide +kernel
theorem dX8_refuses_103 : decode cX8_refuses 103 = .ok (.bipush 70, 2) := by decide +kernel
theorem dX8_refuses_105 : decode cX8_refuses 105 = .ok (.if_icmp .ge 7, 3) := by decide +kernel
theorem dX8_refuses_108 : decode cX8_refuses 108 = .ok (.iconst 1, 1) := by decide +kernel
theorem dX8_refuses_109 : decode cX8_refuses 109 = .ok (.goto 4, 3) := by decide +kernel
theorem dX8_refuses_112 : decode cX8_refuses 112 = .ok (.iconst 0, 1) := by decide +kernel
theorem dX8_refuses_113 : decode cX8_refuses 113 = .ok (.ireturn, 1) := by decide +kernel
theorem dX8_price_0 : decode cX8_price 0 = .ok (.aload_n 0, 1) := by decide +kernel
theorem dX8_price_1 : decode cX8_price 1 = .ok (.getfield 38, 3) := by decide +kernel
theorem dX8_price_4 : decode cX8_price 4 = .ok (.iload_n 1, 1) := by decide +kernel
theorem dX8_price_5 : decode cX8_price 5 = .ok (.iaload, 1) := by decide +kernel
theorem dX8_price_6 : decode cX8_price 6 = .ok (.istore_n 2, 1) := by decide +kernel
theorem dX8_price_7 : decode cX8_price 7 = .ok (.iload_n 2, 1) := by decide +kernel
theorem dX8_price_8 : decode cX8_price 8 = .ok (.iconst 4, 1) := by decide +kernel
theorem dX8_price_9 : decode cX8_price 9 = .ok (.if_icmp .ne 5, 3) := by decide +kernel
theorem dX8_price_12 : decode cX8_price 12 = .ok (.iconst 0, 1) := by decide +kernel
theorem dX8_price_13 : decode cX8_price 13 = .ok (.ireturn, 1) := by decide +kernel
theorem dX8_price_14 : decode cX8_price 14 = .ok (.iload_n 2, 1) := by decide +kernel
theorem dX8_price_15 : decode cX8_price 15 = .ok (.iconst 2, 1) := by decide +kernel
theorem dX8_price_16 : decode cX8_price 16 = .ok (.if_icmp .eq 8, 3) := by decide +kernel
theorem dX8_price_19 : decode cX8_price 19 = .ok (.iload_n 2, 1) := by decide +kernel
theorem dX8_price_20 : decode cX8_price 20 = .ok (.iconst 3, 1) := by decide +kernel
theorem dX8_price_21 : decode cX8_price 21 = .ok (.if_icmp .ne 33, 3) := by decide +kernel
theorem dX8_price_24 : decode cX8_price 24 = .ok (.iconst 2, 1) := by decide +kernel
theorem dX8_price_25 : decode cX8_price 25 = .ok (.aload_n 0, 1) := by decide +kernel
theorem dX8_price_26 : decode cX8_price 26 = .ok (.getfield 41, 3) := by decide +kernel
theorem dX8_price_29 : decode cX8_price 29 = .ok (.iload_n 1, 1) := by decide +kernel
theorem dX8_price_30 : decode cX8_price 30 = .ok (.iaload, 1) := by decide +kernel
theorem dX8_price_31 : decode cX8_price 31 = .ok (.imul, 1) := by decide +kernel
theorem dX8_price_32 : decode cX8_price 32 = .ok (.iload_n 2, 1) := by decide +kernel
theorem dX8_price_33 : decode cX8_price 33 = .ok (.iconst 3, 1) := by decide +kernel
theorem dX8_price_34 : decode cX8_price 34 = .ok (.if_icmp .ne 7, 3) := by decide +kernel
theorem dX8_price_37 : decode cX8_price 37 = .ok (.iconst 3, 1) := by decide +kernel
theorem dX8_price_38 : decode cX8_price 38 = .ok (.goto 4, 3) := by decide +kernel
theorem dX8_price_41 : decode cX8_price 41 = .ok (.iconst 0, 1) := by decide +kernel
theorem dX8_price_42 : decode cX8_price 42 = .ok (.isub, 1) := by decide +kernel
theorem dX8_price_43 : decode cX8_price 43 = .ok (.istore_n 3, 1) := by decide +kernel
theorem dX8_price_44 : decode cX8_price 44 = .ok (.iload_n 3, 1) := by decide +kernel
theorem dX8_price_45 : decode cX8_price 45 = .ok (.ifCond .ge 7, 3) := by decide +kernel
theorem dX8_price_48 : decode cX8_price 48 = .ok (.iconst 0, 1) := by decide +kernel
theorem dX8_price_49 : decode cX8_price 49 = .ok (.goto 4, 3) := by decide +kernel
theorem dX8_price_52 : decode cX8_price 52 = .ok (.iload_n 3, 1) := by decide +kernel
theorem dX8_price_53 : decode cX8_price 53 = .ok (.ireturn, 1) := by decide +kernel
theorem dX8_price_54 : decode cX8_price 54 = .ok (.aload_n 0, 1) := by decide +kernel
theorem dX8_price_55 : decode cX8_price 55 = .ok (.getfield 41, 3) := by decide +kernel
theorem dX8_price_58 : decode cX8_price 58 = .ok (.iload_n 1, 1) := by decide +kernel
theorem dX8_price_59 : decode cX8_price 59 = .ok (.iaload, 1) := by decide +kernel
theorem dX8_price_60 : decode cX8_price 60 = .ok (.iload_n 2, 1) := by decide +kernel
theorem dX8_price_61 : decode cX8_price 61 = .ok (.iconst 1, 1) := by decide +kernel
theorem dX8_price_62 : decode cX8_price 62 = .ok (.if_icmp .ne 7, 3) := by decide +kernel
theorem dX8_price_65 : decode cX8_price 65 = .ok (.iconst 5, 1) := by decide +kernel
theorem dX8_price_66 : decode cX8_price 66 = .ok (.goto 13, 3) := by decide +kernel
theorem dX8_price_69 : decode cX8_price 69 = .ok (.iload_n 2, 1) := by decide +kernel
theorem dX8_price_70 : decode cX8_price 70 = .ok (.iconst 5, 1) := by decide +kernel
theorem dX8_price_71 : decode cX8_price 71 = .ok (.if_icmp .ne 7, 3) := by decide +kernel
theorem dX8_price_74 : decode cX8_price 74 = .ok (.iconst 1, 1) := by decide +kernel
theorem dX8_price_75 : decode cX8_price 75 = .ok (.goto 4, 3) := by decide +kernel
theorem dX8_price_78 : decode cX8_price 78 = .ok (.iconst 0, 1) := by decide +kernel
theorem dX8_price_79 : decode cX8_price 79 = .ok (.iadd, 1) := by decide +kernel
theorem dX8_price_80 : decode cX8_price 80 = .ok (.ireturn, 1) := by decide +kernel
theorem dX8_of_0 : decode cX8_of 0 = .ok (.iload_n 2, 1) := by decide +kernel
theorem dX8_of_1 : decode cX8_of 1 = .ok (.i2l, 1) := by decide +kernel
theorem dX8_of_2 : decode cX8_of 2 = .ok (.lconst 0, 1) := by decide +kernel
theorem dX8_of_3 : decode cX8_of 3 = .ok (.ldc2_w 134, 3) := by decide +kernel
theorem dX8_of_6 : decode cX8_of 6 = .ok (.invokestatic 109, 3) := by decide +kernel
theorem dX8_of_9 : decode cX8_of 9 = .ok (.ifCond .eq 29, 3) := by decide +kernel
theorem dX8_of_12 : decode cX8_of 12 = .ok (.iload_n 2, 1) := by decide +kernel
theorem dX8_of_13 : decode cX8_of 13 = .ok (.iconst 5, 1) := by decide +kernel
theorem dX8_of_14 : decode cX8_of 14 = .ok (.if_icmp .ge 11, 3) := by decide +kernel
theorem dX8_of_17 : decode cX8_of 17 = .ok (.aload_n 0, 1) := by decide +kernel
theorem dX8_of_18 : decode cX8_of 18 = .ok (.iload_n 1, 1) := by decide +kernel
theorem dX8_of_19 : decode cX8_of 19 = .ok (.invokevirtual 124, 3) := by decide +kernel
theorem dX8_of_22 : decode cX8_of 22 = .ok (.ifCond .eq 16, 3) := by decide +kernel
theorem dX8_of_25 : decode cX8_of 25 = .ok (.iload_n 2, 1) := by decide +kernel
theorem dX8_of_26 : decode cX8_of 26 = .ok (.iconst 5, 1) := by decide +kernel
theorem dX8_of_27 : decode cX8_of 27 = .ok (.if_icmp .lt 14, 3) := by decide +kernel
theorem dX8_of_30 : decode cX8_of 30 = .ok (.aload_n 0, 1) := by decide +kernel
theorem dX8_of_31 : decode cX8_of 31 = .ok (.iload_n 1, 1) := by decide +kernel
theorem dX8_of_32 : decode cX8_of 32 = .ok (.invokevirtual 120, 3) := by decide +kernel
theorem dX8_of_35 : decode cX8_of 35 = .ok (.ifCond .ne 6, 3) := by decide +kernel
theorem dX8_of_38 : decode cX8_of 38 = .ok (.bipush (-2), 2) := by decide +kernel
theorem dX8_of_40 : decode cX8_of 40 = .ok (.ireturn, 1) := by decide +kernel
theorem dX8_of_41 : decode cX8_of 41 = .ok (.iload_n 2, 1) := by decide +kernel
theorem dX8_of_42 : decode cX8_of 42 = .ok (.iconst 4, 1) := by decide +kernel
theorem dX8_of_43 : decode cX8_of 43 = .ok (.if_icmp .ge 49, 3) := by decide +kernel
theorem dX8_of_46 : decode cX8_of 46 = .ok (.iload_n 2, 1) := by decide +kernel
theorem dX8_of_47 : decode cX8_of 47 = .ok (.ifCond .ne 12, 3) := by decide +kernel
theorem dX8_of_50 : decode cX8_of 50 = .ok (.aload_n 0, 1) := by decide +kernel
theorem dX8_of_51 : decode cX8_of 51 = .ok (.getfield 38, 3) := by decide +kernel
theorem dX8_of_54 : decode cX8_of 54 = .ok (.iload_n 1, 1) := by decide +kernel
theorem dX8_of_55 : decode cX8_of 55 = .ok (.iaload, 1) := by decide +kernel
theorem dX8_of_56 : decode cX8_of 56 = .ok (.goto 35, 3) := by decide +kernel
theorem dX8_of_59 : decode cX8_of 59 = .ok (.iload_n 2, 1) := by decide +kernel
theorem dX8_of_60 : decode cX8_of 60 = .ok (.iconst 1, 1) := by decide +kernel
theorem dX8_of_61 : decode cX8_of 61 = .ok (.if_icmp .ne 12, 3) := by decide +kernel
theorem dX8_of_64 : decode cX8_of 64 = .ok (.aload_n 0, 1) := by decide +kernel
theorem dX8_of_65 : decode cX8_of 65 = .ok (.getfield 41, 3) := by decide +kernel
theorem dX8_of_68 : decode cX8_of 68 = .ok (.iload_n 1, 1) := by decide +kernel
theorem dX8_of_69 : decode cX8_of 69 = .ok (.iaload, 1) := by decide +kernel
theorem dX8_of_70 : decode cX8_of 70 = .ok (.goto 21, 3) := by decide +kernel
theorem dX8_of_73 : decode cX8_of 73 = .ok (.iload_n 2, 1) := by decide +kernel
theorem dX8_of_74 : decode cX8_of 74 = .ok (.iconst 2, 1) := by decide +kernel
theorem dX8_of_75 : decode cX8_of 75 = .ok (.if_icmp .ne 11, 3) := by decide +kernel
theorem dX8_of_78 : decode cX8_of 78 = .ok (.aload_n 0, 1) := by decide +kernel
theorem dX8_of_79 : decode cX8_of 79 = .ok (.iload_n 1, 1) := by decide +kernel
theorem dX8_of_80 : decode cX8_of 80 = .ok (.invokevirtual 136, 3) := by decide +kernel
theorem dX8_of_83 : decode cX8_of 83 = .ok (.goto 8, 3) := by decide +kernel
theorem dX8_of_86 : decode cX8_of 86 = .ok (.aload_n 0, 1) := by decide +kernel
theorem dX8_of_87 : decode cX8_of 87 = .ok (.iload_n 1, 1) := by decide +kernel
theorem dX8_of_88 : decode cX8_of 88 = .ok (.invokevirtual 140, 3) := by decide +kernel
theorem dX8_of_91 : decode cX8_of 91 = .ok (.ireturn, 1) := by decide +kernel
theorem dX8_of_92 : decode cX8_of 92 = .ok (.iload_n 2, 1) := by decide +kernel
theorem dX8_of_93 : decode cX8_of 93 = .ok (.iconst 4, 1) := by decide +kernel
theorem dX8_of_94 : decode cX8_of 94 = .ok (.if_icmp .ne 12, 3) := by decide +kernel
theorem dX8_of_97 : decode cX8_of 97 = .ok (.aload_n 0, 1) := by decide +kernel
theorem dX8_of_98 : decode cX8_of 98 = .ok (.getfield 35, 3) := by decide +kernel
theorem dX8_of_101 : decode cX8_of 101 = .ok (.iload_n 1, 1) := by decide +kernel
theorem dX8_of_102 : decode cX8_of 102 = .ok (.iaload, 1) := by decide +kernel
theorem dX8_of_103 : decode cX8_of 103 = .ok (.goto 23, 3) := by decide +kernel
theorem dX8_of_106 : decode cX8_of 106 = .ok (.iload_n 2, 1) := by decide +kernel
theorem dX8_of_107 : decode cX8_of 107 = .ok (.iconst 5, 1) := by decide +kernel
theorem dX8_of_108 : decode cX8_of 108 = .ok (.if_icmp .ne 12, 3) := by decide +kernel
theorem dX8_of_111 : decode cX8_of 111 = .ok (.aload_n 0, 1) := by decide +kernel
theorem dX8_of_112 : decode cX8_of 112 = .ok (.getfield 29, 3) := by decide +kernel
theorem dX8_of_115 : decode cX8_of 115 = .ok (.iload_n 1, 1) := by decide +kernel
theorem dX8_of_116 : decode cX8_of 116 = .ok (.iaload, 1) := by decide +kernel
theorem dX8_of_117 : decode cX8_of 117 = .ok (.goto 9, 3) := by decide +kernel
theorem dX8_of_120 : decode cX8_of 120 = .ok (.aload_n 0, 1) := by decide +kernel
theorem dX8_of_121 : decode cX8_of 121 = .ok (.getfield 32, 3) := by decide +kernel
theorem dX8_of_124 : decode cX8_of 124 = .ok (.iload_n 1, 1) := by decide +kernel
theorem dX8_of_125 : decode cX8_of 125 = .ok (.iaload, 1) := by decide +kernel
theorem dX8_of_126 : decode cX8_of 126 = .ok (.ireturn, 1) := by decide +kernel
theorem dX8_feed_0 : decode cX8_feed 0 = .ok (.iload_n 1, 1) := by decide +kernel
theorem dX8_feed_1 : decode cX8_feed 1 = .ok (.i2l, 1) := by decide +kernel
theorem dX8_feed_2 : decode cX8_feed 2 = .ok (.lconst 0, 1) := by decide +kernel
theorem dX8_feed_3 : decode cX8_feed 3 = .ok (.ldc2_w 143, 3) := by decide +kernel
theorem dX8_feed_6 : decode cX8_feed 6 = .ok (.invokestatic 109, 3) := by decide +kernel
theorem dX8_feed_9 : decode cX8_feed 9 = .ok (.ifCond .ne 6, 3) := by decide +kernel
theorem dX8_feed_12 : decode cX8_feed 12 = .ok (.bipush (-2), 2) := by decide +kernel
theorem dX8_feed_14 : decode cX8_feed 14 = .ok (.ireturn, 1) := by decide +kernel
theorem dX8_feed_15 : decode cX8_feed 15 = .ok (.aload_n 0, 1) := by decide +kernel
theorem dX8_feed_16 : decode cX8_feed 16 = .ok (.getfield 145, 3) := by decide +kernel
theorem dX8_feed_19 : decode cX8_feed 19 = .ok (.sipush 160, 3) := by decide +kernel
theorem dX8_feed_22 : decode cX8_feed 22 = .ok (.if_icmp .ne 6, 3) := by decide +kernel
theorem dX8_feed_25 : decode cX8_feed 25 = .ok (.bipush (-4), 2) := by decide +kernel
theorem dX8_feed_27 : decode cX8_feed 27 = .ok (.ireturn, 1) := by decide +kernel
theorem dX8_feed_28 : decode cX8_feed 28 = .ok (.aload_n 0, 1) := by decide +kernel
theorem dX8_feed_29 : decode cX8_feed 29 = .ok (.getfield 20, 3) := by decide +kernel
theorem dX8_feed_32 : decode cX8_feed 32 = .ok (.aload_n 0, 1) := by decide +kernel
theorem dX8_feed_33 : decode cX8_feed 33 = .ok (.getfield 145, 3) := by decide +kernel
theorem dX8_feed_36 : decode cX8_feed 36 = .ok (.iload_n 1, 1) := by decide +kernel
theorem dX8_feed_37 : decode cX8_feed 37 = .ok (.iastore, 1) := by decide +kernel
theorem dX8_feed_38 : decode cX8_feed 38 = .ok (.aload_n 0, 1) := by decide +kernel
theorem dX8_feed_39 : decode cX8_feed 39 = .ok (.dup, 1) := by decide +kernel
theorem dX8_feed_40 : decode cX8_feed 40 = .ok (.getfield 145, 3) := by decide +kernel
theorem dX8_feed_43 : decode cX8_feed 43 = .ok (.iconst 1, 1) := by decide +kernel
theorem dX8_feed_44 : decode cX8_feed 44 = .ok (.iadd, 1) := by decide +kernel
theorem dX8_feed_45 : decode cX8_feed 45 = .ok (.putfield 145, 3) := by decide +kernel
theorem dX8_feed_48 : decode cX8_feed 48 = .ok (.aload_n 0, 1) := by decide +kernel
theorem dX8_feed_49 : decode cX8_feed 49 = .ok (.getfield 145, 3) := by decide +kernel
theorem dX8_feed_52 : decode cX8_feed 52 = .ok (.ireturn, 1) := by decide +kernel
theorem dX8_byteAt_0 : decode cX8_byteAt 0 = .ok (.iload_n 1, 1) := by decide +kernel
theorem dX8_byteAt_1 : decode cX8_byteAt 1 = .ok (.aload_n 0, 1) := by decide +kernel
theorem dX8_byteAt_2 : decode cX8_byteAt 2 = .ok (.getfield 148, 3) := by decide +kernel
theorem dX8_byteAt_5 : decode cX8_byteAt 5 = .ok (.if_icmp .ge 17, 3) := by decide +kernel
theorem dX8_byteAt_8 : decode cX8_byteAt 8 = .ok (.aload_n 0, 1) := by decide +kernel
theorem dX8_byteAt_9 : decode cX8_byteAt 9 = .ok (.getfield 13, 3) := by decide +kernel
theorem dX8_byteAt_12 : decode cX8_byteAt 12 = .ok (.aload_n 0, 1) := by decide +kernel
theorem dX8_byteAt_13 : decode cX8_byteAt 13 = .ok (.getfield 151, 3) := by decide +kernel
theorem dX8_byteAt_16 : decode cX8_byteAt 16 = .ok (.iload_n 1, 1) := by decide +kernel
theorem dX8_byteAt_17 : decode cX8_byteAt 17 = .ok (.iadd, 1) := by decide +kernel
theorem dX8_byteAt_18 : decode cX8_byteAt 18 = .ok (.iaload, 1) := by decide +kernel
theorem dX8_byteAt_19 : decode cX8_byteAt 19 = .ok (.goto 4, 3) := by decide +kernel
theorem dX8_byteAt_22 : decode cX8_byteAt 22 = .ok (.iconst (-1), 1) := by decide +kernel
theorem dX8_byteAt_23 : decode cX8_byteAt 23 = .ok (.ireturn, 1) := by decide +kernel
theorem dX8_next_0 : decode cX8_next 0 = .ok (.aload_n 0, 1) := by decide +kernel
theorem dX8_next_1 : decode cX8_next 1 = .ok (.aload_n 0, 1) := by decide +kernel
theorem dX8_next_2 : decode cX8_next 2 = .ok (.getfield 154, 3) := by decide +kernel
theorem dX8_next_5 : decode cX8_next 5 = .ok (.invokevirtual 157, 3) := by decide +kernel
theorem dX8_next_8 : decode cX8_next 8 = .ok (.bipush 32, 2) := by decide +kernel
theorem dX8_next_10 : decode cX8_next 10 = .ok (.if_icmp .eq 16, 3) := by decide +kernel
theorem dX8_next_13 : decode cX8_next 13 = .ok (.aload_n 0, 1) := by decide +kernel
theorem dX8_next_14 : decode cX8_next 14 = .ok (.aload_n 0, 1) := by decide +kernel
theorem dX8_next_15 : decode cX8_next 15 = .ok (.getfield 154, 3) := by decide +kernel
theorem dX8_next_18 : decode cX8_next 18 = .ok (.invokevirtual 157, 3) := by decide +kernel
theorem dX8_next_21 : decode cX8_next 21 = .ok (.bipush 10, 2) := by decide +kernel
theorem dX8_next_23 : decode cX8_next 23 = .ok (.if_icmp .ne 16, 3) := by decide +kernel
theorem dX8_next_26 : decode cX8_next 26 = .ok (.aload_n 0, 1) := by decide +kernel
theorem dX8_next_27 : decode cX8_next 27 = .ok (.dup, 1) := by decide +kernel
theorem dX8_next_28 : decode cX8_next 28 = .ok (.getfield 154, 3) := by decide +kernel
theorem dX8_next_31 : decode cX8_next 31 = .ok (.iconst 1, 1) := by decide +kernel
theorem dX8_next_32 : decode cX8_next 32 = .ok (.iadd, 1) := by decide +kernel
theorem dX8_next_33 : decode cX8_next 33 = .ok (.putfield 154, 3) := by decide +kernel
theorem dX8_next_36 : decode cX8_next 36 = .ok (.goto (-36), 3) := by decide +kernel
theorem dX8_next_39 : decode cX8_next 39 = .ok (.aload_n 0, 1) := by decide +kernel
theorem dX8_next_40 : decode cX8_next 40 = .ok (.aload_n 0, 1) := by decide +kernel
theorem dX8_next_41 : decode cX8_next 41 = .ok (.getfield 154, 3) := by decide +kernel
theorem dX8_next_44 : decode cX8_next 44 = .ok (.putfield 160, 3) := by decide +kernel
theorem dX8_next_47 : decode cX8_next 47 = .ok (.aload_n 0, 1) := by decide +kernel
theorem dX8_next_48 : decode cX8_next 48 = .ok (.aload_n 0, 1) := by decide +kernel
theorem dX8_next_49 : decode cX8_next 49 = .ok (.getfield 154, 3) := by decide +kernel
theorem dX8_next_52 : decode cX8_next 52 = .ok (.invokevirtual 157, 3) := by decide +kernel
theorem dX8_next_55 : decode cX8_next 55 = .ok (.istore_n 1, 1) := by decide +kernel
theorem dX8_next_56 : decode cX8_next 56 = .ok (.aload_n 0, 1) := by decide +kernel
theorem dX8_next_57 : decode cX8_next 57 = .ok (.iconst 4, 1) := by decide +kernel
theorem dX8_next_58 : decode cX8_next 58 = .ok (.putfield 163, 3) := by decide +kernel
theorem dX8_next_61 : decode cX8_next 61 = .ok (.iload_n 1, 1) := by decide +kernel
theorem dX8_next_62 : decode cX8_next 62 = .ok (.ifCond .ge 19, 3) := by decide +kernel
theorem dX8_next_65 : decode cX8_next 65 = .ok (.aload_n 0, 1) := by decide +kernel
theorem dX8_next_66 : decode cX8_next 66 = .ok (.iconst 0, 1) := by decide +kernel
theorem dX8_next_67 : decode cX8_next 67 = .ok (.putfield 163, 3) := by decide +kernel
theorem dX8_next_70 : decode cX8_next 70 = .ok (.aload_n 0, 1) := by decide +kernel
theorem dX8_next_71 : decode cX8_next 71 = .ok (.aload_n 0, 1) := by decide +kernel
theorem dX8_next_72 : decode cX8_next 72 = .ok (.getfield 148, 3) := by decide +kernel
theorem dX8_next_75 : decode cX8_next 75 = .ok (.putfield 160, 3) := by decide +kernel
theorem dX8_next_78 : decode cX8_next 78 = .ok (.goto 243, 3) := by decide +kernel
theorem dX8_next_81 : decode cX8_next 81 = .ok (.iload_n 1, 1) := by decide +kernel
theorem dX8_next_82 : decode cX8_next 82 = .ok (.i2l, 1) := by decide +kernel
theorem dX8_next_83 : decode cX8_next 83 = .ok (.ldc2_w 166, 3) := by decide +kernel
theorem dX8_next_86 : decode cX8_next 86 = .ok (.ldc2_w 168, 3) := by decide +kernel
theorem dX8_next_89 : decode cX8_next 89 = .ok (.invokestatic 109, 3) := by decide +kernel
theorem dX8_next_92 : decode cX8_next 92 = .ok (.ifCond .eq 42, 3) := by decide +kernel
theorem dX8_next_95 : decode cX8_next 95 = .ok (.aload_n 0, 1) := by decide +kernel
theorem dX8_next_96 : decode cX8_next 96 = .ok (.iconst 1, 1) := by decide +kernel
theorem dX8_next_97 : decode cX8_next 97 = .ok (.putfield 163, 3) := by decide +kernel
theorem dX8_next_100 : decode cX8_next 100 = .ok (.aload_n 0, 1) := by decide +kernel
theorem dX8_next_101 : decode cX8_next 101 = .ok (.aload_n 0, 1) := by decide +kernel
theorem dX8_next_102 : decode cX8_next 102 = .ok (.getfield 154, 3) := by decide +kernel
theorem dX8_next_105 : decode cX8_next 105 = .ok (.invokevirtual 157, 3) := by decide +kernel
theorem dX8_next_108 : decode cX8_next 108 = .ok (.i2l, 1) := by decide +kernel
theorem dX8_next_109 : decode cX8_next 109 = .ok (.ldc2_w 166, 3) := by decide +kernel
theorem dX8_next_112 : decode cX8_next 112 = .ok (.ldc2_w 168, 3) := by decide +kernel
theorem dX8_next_115 : decode cX8_next 115 = .ok (.invokestatic 109, 3) := by decide +kernel
theorem dX8_next_118 : decode cX8_next 118 = .ok (.ifCond .eq 203, 3) := by decide +kernel
theorem dX8_next_121 : decode cX8_next 121 = .ok (.aload_n 0, 1) := by decide +kernel
theorem dX8_next_122 : decode cX8_next 122 = .ok (.dup, 1) := by decide +kernel
theorem dX8_next_123 : decode cX8_next 123 = .ok (.getfield 154, 3) := by decide +kernel
theorem dX8_next_126 : decode cX8_next 126 = .ok (.iconst 1, 1) := by decide +kernel
theorem dX8_next_127 : decode cX8_next 127 = .ok (.iadd, 1) := by decide +kernel
theorem dX8_next_128 : decode cX8_next 128 = .ok (.putfield 154, 3) := by decide +kernel
theorem dX8_next_131 : decode cX8_next 131 = .ok (.goto (-31), 3) := by decide +kernel
theorem dX8_next_134 : decode cX8_next 134 = .ok (.iload_n 1, 1) := by decide +kernel
theorem dX8_next_135 : decode cX8_next 135 = .ok (.i2l, 1) := by decide +kernel
theorem dX8_next_136 : decode cX8_next 136 = .ok (.ldc2_w 170, 3) := by decide +kernel
theorem dX8_next_139 : decode cX8_next 139 = .ok (.ldc2_w 172, 3) := by decide +kernel
theorem dX8_next_142 : decode cX8_next 142 = .ok (.invokestatic 109, 3) := by decide +kernel
theorem dX8_next_145 : decode cX8_next 145 = .ok (.ifCond .eq 107, 3) := by decide +kernel
theorem dX8_next_148 : decode cX8_next 148 = .ok (.aload_n 0, 1) := by decide +kernel
theorem dX8_next_149 : decode cX8_next 149 = .ok (.iconst 2, 1) := by decide +kernel
theorem dX8_next_150 : decode cX8_next 150 = .ok (.putfield 163, 3) := by decide +kernel
theorem dX8_next_153 : decode cX8_next 153 = .ok (.aload_n 0, 1) := by decide +kernel
theorem dX8_next_154 : decode cX8_next 154 = .ok (.lconst 0, 1) := by decide +kernel
theorem dX8_next_155 : decode cX8_next 155 = .ok (.putfield 174, 3) := by decide +kernel
theorem dX8_next_158 : decode cX8_next 158 = .ok (.iconst 0, 1) := by decide +kernel
theorem dX8_next_159 : decode cX8_next 159 = .ok (.istore_n 2, 1) := by decide +kernel
theorem dX8_next_160 : decode cX8_next 160 = .ok (.aload_n 0, 1) := by decide +kernel
theorem dX8_next_161 : decode cX8_next 161 = .ok (.aload_n 0, 1) := by decide +kernel
theorem dX8_next_162 : decode cX8_next 162 = .ok (.getfield 154, 3) := by decide +kernel
theorem dX8_next_165 : decode cX8_next 165 = .ok (.invokevirtual 157, 3) := by decide +kernel
theorem dX8_next_168 : decode cX8_next 168 = .ok (.i2l, 1) := by decide +kernel
theorem dX8_next_169 : decode cX8_next 169 = .ok (.ldc2_w 170, 3) := by decide +kernel
theorem dX8_next_172 : decode cX8_next 172 = .ok (.ldc2_w 172, 3) := by decide +kernel
theorem dX8_next_175 : decode cX8_next 175 = .ok (.invokestatic 109, 3) := by decide +kernel
theorem dX8_next_178 : decode cX8_next 178 = .ok (.ifCond .eq 57, 3) := by decide +kernel
theorem dX8_next_181 : decode cX8_next 181 = .ok (.aload_n 0, 1) := by decide +kernel
theorem dX8_next_182 : decode cX8_next 182 = .ok (.iload_n 2, 1) := by decide +kernel
theorem dX8_next_183 : decode cX8_next 183 = .ok (.iconst 4, 1) := by decide +kernel
theorem dX8_next_184 : decode cX8_next 184 = .ok (.if_icmp .ge 28, 3) := by decide +kernel
theorem dX8_next_187 : decode cX8_next 187 = .ok (.ldc2_w 178, 3) := by decide +kernel
theorem dX8_next_190 : decode cX8_next 190 = .ok (.aload_n 0, 1) := by decide +kernel
theorem dX8_next_191 : decode cX8_next 191 = .ok (.getfield 174, 3) := by decide +kernel
theorem dX8_next_194 : decode cX8_next 194 = .ok (.lmul, 1) := by decide +kernel
theorem dX8_next_195 : decode cX8_next 195 = .ok (.aload_n 0, 1) := by decide +kernel
theorem dX8_next_196 : decode cX8_next 196 = .ok (.aload_n 0, 1) := by decide +kernel
theorem dX8_next_197 : decode cX8_next 197 = .ok (.getfield 154, 3) := by decide +kernel
theorem dX8_next_200 : decode cX8_next 200 = .ok (.invokevirtual 157, 3) := by decide +kernel
theorem dX8_next_203 : decode cX8_next 203 = .ok (.i2l, 1) := by decide +kernel
theorem dX8_next_204 : decode cX8_next 204 = .ok (.ladd, 1) := by decide +kernel
theorem dX8_next_205 : decode cX8_next 205 = .ok (.ldc2_w 170, 3) := by decide +kernel
theorem dX8_next_208 : decode cX8_next 208 = .ok (.lsub, 1) := by decide +kernel
theorem dX8_next_209 : decode cX8_next 209 = .ok (.goto 7, 3) := by decide +kernel
theorem dX8_next_212 : decode cX8_next 212 = .ok (.aload_n 0, 1) := by decide +kernel
theorem dX8_next_213 : decode cX8_next 213 = .ok (.getfield 174, 3) := by decide +kernel
theorem dX8_next_216 : decode cX8_next 216 = .ok (.putfield 174, 3) := by decide +kernel
theorem dX8_next_219 : decode cX8_next 219 = .ok (.iinc 2 1, 3) := by decide +kernel
theorem dX8_next_222 : decode cX8_next 222 = .ok (.aload_n 0, 1) := by decide +kernel
theorem dX8_next_223 : decode cX8_next 223 = .ok (.dup, 1) := by decide +kernel
theorem dX8_next_224 : decode cX8_next 224 = .ok (.getfield 154, 3) := by decide +kernel
theorem dX8_next_227 : decode cX8_next 227 = .ok (.iconst 1, 1) := by decide +kernel
theorem dX8_next_228 : decode cX8_next 228 = .ok (.iadd, 1) := by decide +kernel
theorem dX8_next_229 : decode cX8_next 229 = .ok (.putfield 154, 3) := by decide +kernel
theorem dX8_next_232 : decode cX8_next 232 = .ok (.goto (-72), 3) := by decide +kernel
theorem dX8_next_235 : decode cX8_next 235 = .ok (.aload_n 0, 1) := by decide +kernel
theorem dX8_next_236 : decode cX8_next 236 = .ok (.iload_n 2, 1) := by decide +kernel
theorem dX8_next_237 : decode cX8_next 237 = .ok (.iconst 4, 1) := by decide +kernel
theorem dX8_next_238 : decode cX8_next 238 = .ok (.if_icmp .le 7, 3) := by decide +kernel
theorem dX8_next_241 : decode cX8_next 241 = .ok (.iconst 4, 1) := by decide +kernel
theorem dX8_next_242 : decode cX8_next 242 = .ok (.goto 4, 3) := by decide +kernel
theorem dX8_next_245 : decode cX8_next 245 = .ok (.iconst 2, 1) := by decide +kernel
theorem dX8_next_246 : decode cX8_next 246 = .ok (.putfield 163, 3) := by decide +kernel
theorem dX8_next_249 : decode cX8_next 249 = .ok (.goto 72, 3) := by decide +kernel
theorem dX8_next_252 : decode cX8_next 252 = .ok (.iload_n 1, 1) := by decide +kernel
theorem dX8_next_253 : decode cX8_next 253 = .ok (.bipush 40, 2) := by decide +kernel
theorem dX8_next_255 : decode cX8_next 255 = .ok (.if_icmp .eq 45, 3) := by decide +kernel
theorem dX8_next_258 : decode cX8_next 258 = .ok (.iload_n 1, 1) := by decide +kernel
theorem dX8_next_259 : decode cX8_next 259 = .ok (.bipush 41, 2) := by decide +kernel
theorem dX8_next_261 : decode cX8_next 261 = .ok (.if_icmp .eq 39, 3) := by decide +kernel
theorem dX8_next_264 : decode cX8_next 264 = .ok (.iload_n 1, 1) := by decide +kernel
theorem dX8_next_265 : decode cX8_next 265 = .ok (.bipush 59, 2) := by decide +kernel
theorem dX8_next_267 : decode cX8_next 267 = .ok (.if_icmp .eq 33, 3) := by decide +kernel
theorem dX8_next_270 : decode cX8_next 270 = .ok (.iload_n 1, 1) := by decide +kernel
theorem dX8_next_271 : decode cX8_next 271 = .ok (.bipush 43, 2) := by decide +kernel
theorem dX8_next_273 : decode cX8_next 273 = .ok (.if_icmp .eq 27, 3) := by decide +kernel
theorem dX8_next_276 : decode cX8_next 276 = .ok (.iload_n 1, 1) := by decide +kernel
theorem dX8_next_277 : decode cX8_next 277 = .ok (.bipush 45, 2) := by decide +kernel
theorem dX8_next_279 : decode cX8_next 279 = .ok (.if_icmp .eq 21, 3) := by decide +kernel
theorem dX8_next_282 : decode cX8_next 282 = .ok (.iload_n 1, 1) := by decide +kernel
theorem dX8_next_283 : decode cX8_next 283 = .ok (.bipush 42, 2) := by decide +kernel
theorem dX8_next_285 : decode cX8_next 285 = .ok (.if_icmp .eq 15, 3) := by decide +kernel
theorem dX8_next_288 : decode cX8_next 288 = .ok (.iload_n 1, 1) := by decide +kernel
theorem dX8_next_289 : decode cX8_next 289 = .ok (.bipush 60, 2) := by decide +kernel
theorem dX8_next_291 : decode cX8_next 291 = .ok (.if_icmp .eq 9, 3) := by decide +kernel
theorem dX8_next_294 : decode cX8_next 294 = .ok (.iload_n 1, 1) := by decide +kernel
theorem dX8_next_295 : decode cX8_next 295 = .ok (.bipush 61, 2) := by decide +kernel
theorem dX8_next_297 : decode cX8_next 297 = .ok (.if_icmp .ne 24, 3) := by decide +kernel
theorem dX8_next_300 : decode cX8_next 300 = .ok (.aload_n 0, 1) := by decide +kernel
theorem dX8_next_301 : decode cX8_next 301 = .ok (.iconst 3, 1) := by decide +kernel
theorem dX8_next_302 : decode cX8_next 302 = .ok (.putfield 163, 3) := by decide +kernel
theorem dX8_next_305 : decode cX8_next 305 = .ok (.aload_n 0, 1) := by decide +kernel
theorem dX8_next_306 : decode cX8_next 306 = .ok (.iload_n 1, 1) := by decide +kernel
theorem dX8_next_307 : decode cX8_next 307 = .ok (.i2l, 1) := by decide +kernel
theorem dX8_next_308 : decode cX8_next 308 = .ok (.putfield 174, 3) := by decide +kernel
theorem dX8_next_311 : decode cX8_next 311 = .ok (.aload_n 0, 1) := by decide +kernel
theorem dX8_next_312 : decode cX8_next 312 = .ok (.dup, 1) := by decide +kernel
theorem dX8_next_313 : decode cX8_next 313 = .ok (.getfield 154, 3) := by decide +kernel
theorem dX8_next_316 : decode cX8_next 316 = .ok (.iconst 1, 1) := by decide +kernel
theorem dX8_next_317 : decode cX8_next 317 = .ok (.iadd, 1) := by decide +kernel
theorem dX8_next_318 : decode cX8_next 318 = .ok (.putfield 154, 3) := by decide +kernel
theorem dX8_next_321 : decode cX8_next 321 = .ok (.return_, 1) := by decide +kernel
theorem dX8_fail_0 : decode cX8_fail 0 = .ok (.aload_n 0, 1) := by decide +kernel
theorem dX8_fail_1 : decode cX8_fail 1 = .ok (.getfield 180, 3) := by decide +kernel
theorem dX8_fail_4 : decode cX8_fail 4 = .ok (.ifCond .ne 16, 3) := by decide +kernel
theorem dX8_fail_7 : decode cX8_fail 7 = .ok (.aload_n 0, 1) := by decide +kernel
theorem dX8_fail_8 : decode cX8_fail 8 = .ok (.iconst 1, 1) := by decide +kernel
theorem dX8_fail_9 : decode cX8_fail 9 = .ok (.putfield 180, 3) := by decide +kernel
theorem dX8_fail_12 : decode cX8_fail 12 = .ok (.aload_n 0, 1) := by decide +kernel
theorem dX8_fail_13 : decode cX8_fail 13 = .ok (.aload_n 0, 1) := by decide +kernel
theorem dX8_fail_14 : decode cX8_fail 14 = .ok (.getfield 160, 3) := by decide +kernel
theorem dX8_fail_17 : decode cX8_fail 17 = .ok (.putfield 184, 3) := by decide +kernel
theorem dX8_fail_20 : decode cX8_fail 20 = .ok (.return_, 1) := by decide +kernel
theorem dX8_isLetter_0 : decode cX8_isLetter 0 = .ok (.aload_n 0, 1) := by decide +kernel
theorem dX8_isLetter_1 : decode cX8_isLetter 1 = .ok (.getfield 160, 3) := by decide +kernel
theorem dX8_isLetter_4 : decode cX8_isLetter 4 = .ok (.iload_n 1, 1) := by decide +kernel
theorem dX8_isLetter_5 : decode cX8_isLetter 5 = .ok (.iadd, 1) := by decide +kernel
theorem dX8_isLetter_6 : decode cX8_isLetter 6 = .ok (.aload_n 0, 1) := by decide +kernel
theorem dX8_isLetter_7 : decode cX8_isLetter 7 = .ok (.getfield 154, 3) := by decide +kernel
theorem dX8_isLetter_10 : decode cX8_isLetter 10 = .ok (.if_icmp .ge 25, 3) := by decide +kernel
theorem dX8_isLetter_13 : decode cX8_isLetter 13 = .ok (.aload_n 0, 1) := by decide +kernel
theorem dX8_isLetter_14 : decode cX8_isLetter 14 = .ok (.aload_n 0, 1) := by decide +kernel
theorem dX8_isLetter_15 : decode cX8_isLetter 15 = .ok (.getfield 160, 3) := by decide +kernel
theorem dX8_isLetter_18 : decode cX8_isLetter 18 = .ok (.iload_n 1, 1) := by decide +kernel
theorem dX8_isLetter_19 : decode cX8_isLetter 19 = .ok (.iadd, 1) := by decide +kernel
theorem dX8_isLetter_20 : decode cX8_isLetter 20 = .ok (.invokevirtual 157, 3) := by decide +kernel
theorem dX8_isLetter_23 : decode cX8_isLetter 23 = .ok (.iload_n 2, 1) := by decide +kernel
theorem dX8_isLetter_24 : decode cX8_isLetter 24 = .ok (.if_icmp .ne 7, 3) := by decide +kernel
theorem dX8_isLetter_27 : decode cX8_isLetter 27 = .ok (.iconst 1, 1) := by decide +kernel
theorem dX8_isLetter_28 : decode cX8_isLetter 28 = .ok (.goto 16, 3) := by decide +kernel
theorem dX8_isLetter_31 : decode cX8_isLetter 31 = .ok (.iconst 0, 1) := by decide +kernel
theorem dX8_isLetter_32 : decode cX8_isLetter 32 = .ok (.goto 12, 3) := by decide +kernel
theorem dX8_isLetter_35 : decode cX8_isLetter 35 = .ok (.iload_n 2, 1) := by decide +kernel
theorem dX8_isLetter_36 : decode cX8_isLetter 36 = .ok (.ifCond .ne 7, 3) := by decide +kernel
theorem dX8_isLetter_39 : decode cX8_isLetter 39 = .ok (.iconst 1, 1) := by decide +kernel
theorem dX8_isLetter_40 : decode cX8_isLetter 40 = .ok (.goto 4, 3) := by decide +kernel
theorem dX8_isLetter_43 : decode cX8_isLetter 43 = .ok (.iconst 0, 1) := by decide +kernel
theorem dX8_isLetter_44 : decode cX8_isLetter 44 = .ok (.ireturn, 1) := by decide +kernel
theorem dX8_isWord_0 : decode cX8_isWord 0 = .ok (.aload_n 0, 1) := by decide +kernel
theorem dX8_isWord_1 : decode cX8_isWord 1 = .ok (.getfield 180, 3) := by decide +kernel
theorem dX8_isWord_4 : decode cX8_isWord 4 = .ok (.ifCond .ne 108, 3) := by decide +kernel
theorem dX8_isWord_7 : decode cX8_isWord 7 = .ok (.aload_n 0, 1) := by decide +kernel
theorem dX8_isWord_8 : decode cX8_isWord 8 = .ok (.getfield 163, 3) := by decide +kernel
theorem dX8_isWord_11 : decode cX8_isWord 11 = .ok (.iconst 1, 1) := by decide +kernel
theorem dX8_isWord_12 : decode cX8_isWord 12 = .ok (.if_icmp .ne 100, 3) := by decide +kernel
theorem dX8_isWord_15 : decode cX8_isWord 15 = .ok (.aload_n 0, 1) := by decide +kernel
theorem dX8_isWord_16 : decode cX8_isWord 16 = .ok (.getfield 154, 3) := by decide +kernel
theorem dX8_isWord_19 : decode cX8_isWord 19 = .ok (.aload_n 0, 1) := by decide +kernel
theorem dX8_isWord_20 : decode cX8_isWord 20 = .ok (.getfield 160, 3) := by decide +kernel
theorem dX8_isWord_23 : decode cX8_isWord 23 = .ok (.bipush 8, 2) := by decide +kernel
theorem dX8_isWord_25 : decode cX8_isWord 25 = .ok (.iadd, 1) := by decide +kernel
theorem dX8_isWord_26 : decode cX8_isWord 26 = .ok (.if_icmp .gt 86, 3) := by decide +kernel
theorem dX8_isWord_29 : decode cX8_isWord 29 = .ok (.aload_n 0, 1) := by decide +kernel
theorem dX8_isWord_30 : decode cX8_isWord 30 = .ok (.iconst 0, 1) := by decide +kernel
theorem dX8_isWord_31 : decode cX8_isWord 31 = .ok (.iload_n 1, 1) := by decide +kernel
theorem dX8_isWord_32 : decode cX8_isWord 32 = .ok (.invokevirtual 187, 3) := by decide +kernel
theorem dX8_isWord_35 : decode cX8_isWord 35 = .ok (.ifCond .eq 77, 3) := by decide +kernel
theorem dX8_isWord_38 : decode cX8_isWord 38 = .ok (.aload_n 0, 1) := by decide +kernel
theorem dX8_isWord_39 : decode cX8_isWord 39 = .ok (.iconst 1, 1) := by decide +kernel
theorem dX8_isWord_40 : decode cX8_isWord 40 = .ok (.iload_n 2, 1) := by decide +kernel
theorem dX8_isWord_41 : decode cX8_isWord 41 = .ok (.invokevirtual 187, 3) := by decide +kernel
theorem dX8_isWord_44 : decode cX8_isWord 44 = .ok (.ifCond .eq 68, 3) := by decide +kernel
theorem dX8_isWord_47 : decode cX8_isWord 47 = .ok (.aload_n 0, 1) := by decide +kernel
theorem dX8_isWord_48 : decode cX8_isWord 48 = .ok (.iconst 2, 1) := by decide +kernel
theorem dX8_isWord_49 : decode cX8_isWord 49 = .ok (.iload_n 3, 1) := by decide +kernel
theorem dX8_isWord_50 : decode cX8_isWord 50 = .ok (.invokevirtual 187, 3) := by decide +kernel
theorem dX8_isWord_53 : decode cX8_isWord 53 = .ok (.ifCond .eq 59, 3) := by decide +kernel
theorem dX8_isWord_56 : decode cX8_isWord 56 = .ok (.aload_n 0, 1) := by decide +kernel
theorem dX8_isWord_57 : decode cX8_isWord 57 = .ok (.iconst 3, 1) := by decide +kernel
theorem dX8_isWord_58 : decode cX8_isWord 58 = .ok (.iload 4, 2) := by decide +kernel
theorem dX8_isWord_60 : decode cX8_isWord 60 = .ok (.invokevirtual 187, 3) := by decide +kernel
theorem dX8_isWord_63 : decode cX8_isWord 63 = .ok (.ifCond .eq 49, 3) := by decide +kernel
theorem dX8_isWord_66 : decode cX8_isWord 66 = .ok (.aload_n 0, 1) := by decide +kernel
theorem dX8_isWord_67 : decode cX8_isWord 67 = .ok (.iconst 4, 1) := by decide +kernel
theorem dX8_isWord_68 : decode cX8_isWord 68 = .ok (.iload 5, 2) := by decide +kernel
theorem dX8_isWord_70 : decode cX8_isWord 70 = .ok (.invokevirtual 187, 3) := by decide +kernel
theorem dX8_isWord_73 : decode cX8_isWord 73 = .ok (.ifCond .eq 39, 3) := by decide +kernel
theorem dX8_isWord_76 : decode cX8_isWord 76 = .ok (.aload_n 0, 1) := by decide +kernel
theorem dX8_isWord_77 : decode cX8_isWord 77 = .ok (.iconst 5, 1) := by decide +kernel
theorem dX8_isWord_78 : decode cX8_isWord 78 = .ok (.iload 6, 2) := by decide +kernel
theorem dX8_isWord_80 : decode cX8_isWord 80 = .ok (.invokevirtual 187, 3) := by decide +kernel
theorem dX8_isWord_83 : decode cX8_isWord 83 = .ok (.ifCond .eq 29, 3) := by decide +kernel
theorem dX8_isWord_86 : decode cX8_isWord 86 = .ok (.aload_n 0, 1) := by decide +kernel
theorem dX8_isWord_87 : decode cX8_isWord 87 = .ok (.bipush 6, 2) := by decide +kernel
theorem dX8_isWord_89 : decode cX8_isWord 89 = .ok (.iload 7, 2) := by decide +kernel
theorem dX8_isWord_91 : decode cX8_isWord 91 = .ok (.invokevirtual 187, 3) := by decide +kernel
theorem dX8_isWord_94 : decode cX8_isWord 94 = .ok (.ifCond .eq 18, 3) := by decide +kernel
theorem dX8_isWord_97 : decode cX8_isWord 97 = .ok (.aload_n 0, 1) := by decide +kernel
theorem dX8_isWord_98 : decode cX8_isWord 98 = .ok (.bipush 7, 2) := by decide +kernel
theorem dX8_isWord_100 : decode cX8_isWord 100 = .ok (.iload 8, 2) := by decide +kernel
theorem dX8_isWord_102 : decode cX8_isWord 102 = .ok (.invokevirtual 187, 3) := by decide +kernel
theorem dX8_isWord_105 : decode cX8_isWord 105 = .ok (.ifCond .eq 7, 3) := by decide +kernel
theorem dX8_isWord_108 : decode cX8_isWord 108 = .ok (.iconst 1, 1) := by decide +kernel
theorem dX8_isWord_109 : decode cX8_isWord 109 = .ok (.goto 4, 3) := by decide +kernel
theorem dX8_isWord_112 : decode cX8_isWord 112 = .ok (.iconst 0, 1) := by decide +kernel
theorem dX8_isWord_113 : decode cX8_isWord 113 = .ok (.ireturn, 1) := by decide +kernel
theorem dX8_isSign_0 : decode cX8_isSign 0 = .ok (.aload_n 0, 1) := by decide +kernel
theorem dX8_isSign_1 : decode cX8_isSign 1 = .ok (.getfield 180, 3) := by decide +kernel
theorem dX8_isSign_4 : decode cX8_isSign 4 = .ok (.ifCond .ne 25, 3) := by decide +kernel
theorem dX8_isSign_7 : decode cX8_isSign 7 = .ok (.aload_n 0, 1) := by decide +kernel
theorem dX8_isSign_8 : decode cX8_isSign 8 = .ok (.getfield 163, 3) := by decide +kernel
theorem dX8_isSign_11 : decode cX8_isSign 11 = .ok (.iconst 3, 1) := by decide +kernel
theorem dX8_isSign_12 : decode cX8_isSign 12 = .ok (.if_icmp .ne 17, 3) := by decide +kernel
theorem dX8_isSign_15 : decode cX8_isSign 15 = .ok (.aload_n 0, 1) := by decide +kernel
theorem dX8_isSign_16 : decode cX8_isSign 16 = .ok (.getfield 174, 3) := by decide +kernel
theorem dX8_isSign_19 : decode cX8_isSign 19 = .ok (.iload_n 1, 1) := by decide +kernel
theorem dX8_isSign_20 : decode cX8_isSign 20 = .ok (.i2l, 1) := by decide +kernel
theorem dX8_isSign_21 : decode cX8_isSign 21 = .ok (.lcmp, 1) := by decide +kernel
theorem dX8_isSign_22 : decode cX8_isSign 22 = .ok (.ifCond .ne 7, 3) := by decide +kernel
theorem dX8_isSign_25 : decode cX8_isSign 25 = .ok (.iconst 1, 1) := by decide +kernel
theorem dX8_isSign_26 : decode cX8_isSign 26 = .ok (.goto 4, 3) := by decide +kernel
theorem dX8_isSign_29 : decode cX8_isSign 29 = .ok (.iconst 0, 1) := by decide +kernel
theorem dX8_isSign_30 : decode cX8_isSign 30 = .ok (.ireturn, 1) := by decide +kernel
theorem dX8_opens_0 : decode cX8_opens 0 = .ok (.aload_n 0, 1) := by decide +kernel
theorem dX8_opens_1 : decode cX8_opens 1 = .ok (.getfield 191, 3) := by decide +kernel
theorem dX8_opens_4 : decode cX8_opens 4 = .ok (.iconst 5, 1) := by decide +kernel
theorem dX8_opens_5 : decode cX8_opens 5 = .ok (.if_icmp .ne 9, 3) := by decide +kernel
theorem dX8_opens_8 : decode cX8_opens 8 = .ok (.aload_n 0, 1) := by decide +kernel
theorem dX8_opens_9 : decode cX8_opens 9 = .ok (.invokevirtual 194, 3) := by decide +kernel
theorem dX8_opens_12 : decode cX8_opens 12 = .ok (.iconst 0, 1) := by decide +kernel
theorem dX8_opens_13 : decode cX8_opens 13 = .ok (.ireturn, 1) := by decide +kernel
theorem dX8_opens_14 : decode cX8_opens 14 = .ok (.aload_n 0, 1) := by decide +kernel
theorem dX8_opens_15 : decode cX8_opens 15 = .ok (.dup, 1) := by decide +kernel
theorem dX8_opens_16 : decode cX8_opens 16 = .ok (.getfield 191, 3) := by decide +kernel
theorem dX8_opens_19 : decode cX8_opens 19 = .ok (.iconst 1, 1) := by decide +kernel
theorem dX8_opens_20 : decode cX8_opens 20 = .ok (.iadd, 1) := by decide +kernel
theorem dX8_opens_21 : decode cX8_opens 21 = .ok (.putfield 191, 3) := by decide +kernel
theorem dX8_opens_24 : decode cX8_opens 24 = .ok (.aload_n 0, 1) := by decide +kernel
theorem dX8_opens_25 : decode cX8_opens 25 = .ok (.invokevirtual 197, 3) := by decide +kernel
theorem dX8_opens_28 : decode cX8_opens 28 = .ok (.iconst 1, 1) := by decide +kernel
theorem dX8_opens_29 : decode cX8_opens 29 = .ok (.ireturn, 1) := by decide +kernel
theorem dX8_name_0 : decode cX8_name 0 = .ok (.aload_n 0, 1) := by decide +kernel
theorem dX8_name_1 : decode cX8_name 1 = .ok (.bipush 108, 2) := by decide +kernel
theorem dX8_name_3 : decode cX8_name 3 = .ok (.bipush 105, 2) := by decide +kernel
theorem dX8_name_5 : decode cX8_name 5 = .ok (.bipush 107, 2) := by decide +kernel
theorem dX8_name_7 : decode cX8_name 7 = .ok (.bipush 101, 2) := by decide +kernel
theorem dX8_name_9 : decode cX8_name 9 = .ok (.iconst 0, 1) := by decide +kernel
theorem dX8_name_10 : decode cX8_name 10 = .ok (.iconst 0, 1) := by decide +kernel
theorem dX8_name_11 : decode cX8_name 11 = .ok (.iconst 0, 1) := by decide +kernel
theorem dX8_name_12 : decode cX8_name 12 = .ok (.iconst 0, 1) := by decide +kernel
theorem dX8_name_13 : decode cX8_name 13 = .ok (.invokevirtual 200, 3) := by decide +kernel
theorem dX8_name_16 : decode cX8_name 16 = .ok (.ifCond .eq 8, 3) := by decide +kernel
theorem dX8_name_19 : decode cX8_name 19 = .ok (.aload_n 0, 1) := by decide +kernel
theorem dX8_name_20 : decode cX8_name 20 = .ok (.getfield 204, 3) := by decide +kernel
theorem dX8_name_23 : decode cX8_name 23 = .ok (.ireturn, 1) := by decide +kernel
theorem dX8_name_24 : decode cX8_name 24 = .ok (.aload_n 0, 1) := by decide +kernel
theorem dX8_name_25 : decode cX8_name 25 = .ok (.bipush 104, 2) := by decide +kernel
theorem dX8_name_27 : decode cX8_name 27 = .ok (.bipush 101, 2) := by decide +kernel
theorem dX8_name_29 : decode cX8_name 29 = .ok (.bipush 114, 2) := by decide +kernel
theorem dX8_name_31 : decode cX8_name 31 = .ok (.bipush 115, 2) := by decide +kernel
theorem dX8_name_33 : decode cX8_name 33 = .ok (.iconst 0, 1) := by decide +kernel
theorem dX8_name_34 : decode cX8_name 34 = .ok (.iconst 0, 1) := by decide +kernel
theorem dX8_name_35 : decode cX8_name 35 = .ok (.iconst 0, 1) := by decide +kernel
theorem dX8_name_36 : decode cX8_name 36 = .ok (.iconst 0, 1) := by decide +kernel
theorem dX8_name_37 : decode cX8_name 37 = .ok (.invokevirtual 200, 3) := by decide +kernel
theorem dX8_name_40 : decode cX8_name 40 = .ok (.ifCond .eq 8, 3) := by decide +kernel
theorem dX8_name_43 : decode cX8_name 43 = .ok (.aload_n 0, 1) := by decide +kernel
theorem dX8_name_44 : decode cX8_name 44 = .ok (.getfield 207, 3) := by decide +kernel
theorem dX8_name_47 : decode cX8_name 47 = .ok (.ireturn, 1) := by decide +kernel
theorem dX8_name_48 : decode cX8_name 48 = .ok (.aload_n 0, 1) := by decide +kernel
theorem dX8_name_49 : decode cX8_name 49 = .ok (.bipush 110, 2) := by decide +kernel
theorem dX8_name_51 : decode cX8_name 51 = .ok (.bipush 111, 2) := by decide +kernel
theorem dX8_name_53 : decode cX8_name 53 = .ok (.bipush 101, 2) := by decide +kernel
theorem dX8_name_55 : decode cX8_name 55 = .ok (.bipush 115, 2) := by decide +kernel
theorem dX8_name_57 : decode cX8_name 57 = .ok (.iconst 0, 1) := by decide +kernel
theorem dX8_name_58 : decode cX8_name 58 = .ok (.iconst 0, 1) := by decide +kernel
theorem dX8_name_59 : decode cX8_name 59 = .ok (.iconst 0, 1) := by decide +kernel
theorem dX8_name_60 : decode cX8_name 60 = .ok (.iconst 0, 1) := by decide +kernel
theorem dX8_name_61 : decode cX8_name 61 = .ok (.invokevirtual 200, 3) := by decide +kernel
theorem dX8_name_64 : decode cX8_name 64 = .ok (.ifCond .eq 8, 3) := by decide +kernel
theorem dX8_name_67 : decode cX8_name 67 = .ok (.aload_n 0, 1) := by decide +kernel
theorem dX8_name_68 : decode cX8_name 68 = .ok (.getfield 210, 3) := by decide +kernel
theorem dX8_name_71 : decode cX8_name 71 = .ok (.ireturn, 1) := by decide +kernel
theorem dX8_name_72 : decode cX8_name 72 = .ok (.aload_n 0, 1) := by decide +kernel
theorem dX8_name_73 : decode cX8_name 73 = .ok (.bipush 109, 2) := by decide +kernel
theorem dX8_name_75 : decode cX8_name 75 = .ok (.bipush 111, 2) := by decide +kernel
theorem dX8_name_77 : decode cX8_name 77 = .ok (.bipush 110, 2) := by decide +kernel
theorem dX8_name_79 : decode cX8_name 79 = .ok (.bipush 116, 2) := by decide +kernel
theorem dX8_name_81 : decode cX8_name 81 = .ok (.bipush 104, 2) := by decide +kernel
theorem dX8_name_83 : decode cX8_name 83 = .ok (.iconst 0, 1) := by decide +kernel
theorem dX8_name_84 : decode cX8_name 84 = .ok (.iconst 0, 1) := by decide +kernel
theorem dX8_name_85 : decode cX8_name 85 = .ok (.iconst 0, 1) := by decide +kernel
theorem dX8_name_86 : decode cX8_name 86 = .ok (.invokevirtual 200, 3) := by decide +kernel
theorem dX8_name_89 : decode cX8_name 89 = .ok (.ifCond .eq 8, 3) := by decide +kernel
theorem dX8_name_92 : decode cX8_name 92 = .ok (.aload_n 0, 1) := by decide +kernel
theorem dX8_name_93 : decode cX8_name 93 = .ok (.getfield 213, 3) := by decide +kernel
theorem dX8_name_96 : decode cX8_name 96 = .ok (.ireturn, 1) := by decide +kernel
theorem dX8_name_97 : decode cX8_name 97 = .ok (.aload_n 0, 1) := by decide +kernel
theorem dX8_name_98 : decode cX8_name 98 = .ok (.bipush 109, 2) := by decide +kernel
theorem dX8_name_100 : decode cX8_name 100 = .ok (.bipush 97, 2) := by decide +kernel
theorem dX8_name_102 : decode cX8_name 102 = .ok (.bipush 110, 2) := by decide +kernel
theorem dX8_name_104 : decode cX8_name 104 = .ok (.iconst 0, 1) := by decide +kernel
theorem dX8_name_105 : decode cX8_name 105 = .ok (.iconst 0, 1) := by decide +kernel
theorem dX8_name_106 : decode cX8_name 106 = .ok (.iconst 0, 1) := by decide +kernel
theorem dX8_name_107 : decode cX8_name 107 = .ok (.iconst 0, 1) := by decide +kernel
theorem dX8_name_108 : decode cX8_name 108 = .ok (.iconst 0, 1) := by decide +kernel
theorem dX8_name_109 : decode cX8_name 109 = .ok (.invokevirtual 200, 3) := by decide +kernel
theorem dX8_name_112 : decode cX8_name 112 = .ok (.ifCond .eq 8, 3) := by decide +kernel
theorem dX8_name_115 : decode cX8_name 115 = .ok (.aload_n 0, 1) := by decide +kernel
theorem dX8_name_116 : decode cX8_name 116 = .ok (.getfield 216, 3) := by decide +kernel
theorem dX8_name_119 : decode cX8_name 119 = .ok (.ireturn, 1) := by decide +kernel
theorem dX8_name_120 : decode cX8_name 120 = .ok (.aload_n 0, 1) := by decide +kernel
theorem dX8_name_121 : decode cX8_name 121 = .ok (.bipush 109, 2) := by decide +kernel
theorem dX8_name_123 : decode cX8_name 123 = .ok (.bipush 97, 2) := by decide +kernel
theorem dX8_name_125 : decode cX8_name 125 = .ok (.bipush 105, 2) := by decide +kernel
theorem dX8_name_127 : decode cX8_name 127 = .ok (.bipush 100, 2) := by decide +kernel
theorem dX8_name_129 : decode cX8_name 129 = .ok (.iconst 0, 1) := by decide +kernel
theorem dX8_name_130 : decode cX8_name 130 = .ok (.iconst 0, 1) := by decide +kernel
theorem dX8_name_131 : decode cX8_name 131 = .ok (.iconst 0, 1) := by decide +kernel
theorem dX8_name_132 : decode cX8_name 132 = .ok (.iconst 0, 1) := by decide +kernel
theorem dX8_name_133 : decode cX8_name 133 = .ok (.invokevirtual 200, 3) := by decide +kernel
theorem dX8_name_136 : decode cX8_name 136 = .ok (.ifCond .eq 8, 3) := by decide +kernel
theorem dX8_name_139 : decode cX8_name 139 = .ok (.aload_n 0, 1) := by decide +kernel
theorem dX8_name_140 : decode cX8_name 140 = .ok (.getfield 219, 3) := by decide +kernel
theorem dX8_name_143 : decode cX8_name 143 = .ok (.ireturn, 1) := by decide +kernel
theorem dX8_name_144 : decode cX8_name 144 = .ok (.aload_n 0, 1) := by decide +kernel
theorem dX8_name_145 : decode cX8_name 145 = .ok (.invokevirtual 194, 3) := by decide +kernel
theorem dX8_name_148 : decode cX8_name 148 = .ok (.iconst 0, 1) := by decide +kernel
theorem dX8_name_149 : decode cX8_name 149 = .ok (.ireturn, 1) := by decide +kernel
theorem dX8_atom_0 : decode cX8_atom 0 = .ok (.iconst 0, 1) := by decide +kernel
theorem dX8_atom_1 : decode cX8_atom 1 = .ok (.istore_n 1, 1) := by decide +kernel
theorem dX8_atom_2 : decode cX8_atom 2 = .ok (.aload_n 0, 1) := by decide +kernel
theorem dX8_atom_3 : decode cX8_atom 3 = .ok (.bipush 45, 2) := by decide +kernel
theorem dX8_atom_5 : decode cX8_atom 5 = .ok (.invokevirtual 222, 3) := by decide +kernel
theorem dX8_atom_8 : decode cX8_atom 8 = .ok (.ifCond .eq 29, 3) := by decide +kernel
theorem dX8_atom_11 : decode cX8_atom 11 = .ok (.aload_n 0, 1) := by decide +kernel
theorem dX8_atom_12 : decode cX8_atom 12 = .ok (.invokevirtual 225, 3) := by decide +kernel
theorem dX8_atom_15 : decode cX8_atom 15 = .ok (.ifCond .eq 146, 3) := by decide +kernel
theorem dX8_atom_18 : decode cX8_atom 18 = .ok (.aload_n 0, 1) := by decide +kernel
theorem dX8_atom_19 : decode cX8_atom 19 = .ok (.invokevirtual 229, 3) := by decide +kernel
theorem dX8_atom_22 : decode cX8_atom 22 = .ok (.ineg, 1) := by decide +kernel
theorem dX8_atom_23 : decode cX8_atom 23 = .ok (.istore_n 1, 1) := by decide +kernel
theorem dX8_atom_24 : decode cX8_atom 24 = .ok (.aload_n 0, 1) := by decide +kernel
theorem dX8_atom_25 : decode cX8_atom 25 = .ok (.dup, 1) := by decide +kernel
theorem dX8_atom_26 : decode cX8_atom 26 = .ok (.getfield 191, 3) := by decide +kernel
theorem dX8_atom_29 : decode cX8_atom 29 = .ok (.iconst 1, 1) := by decide +kernel
theorem dX8_atom_30 : decode cX8_atom 30 = .ok (.isub, 1) := by decide +kernel
theorem dX8_atom_31 : decode cX8_atom 31 = .ok (.putfield 191, 3) := by decide +kernel
theorem dX8_atom_34 : decode cX8_atom 34 = .ok (.goto 127, 3) := by decide +kernel
theorem dX8_atom_37 : decode cX8_atom 37 = .ok (.aload_n 0, 1) := by decide +kernel
theorem dX8_atom_38 : decode cX8_atom 38 = .ok (.bipush 40, 2) := by decide +kernel
theorem dX8_atom_40 : decode cX8_atom 40 = .ok (.invokevirtual 222, 3) := by decide +kernel
theorem dX8_atom_43 : decode cX8_atom 43 = .ok (.ifCond .eq 52, 3) := by decide +kernel
theorem dX8_atom_46 : decode cX8_atom 46 = .ok (.aload_n 0, 1) := by decide +kernel
theorem dX8_atom_47 : decode cX8_atom 47 = .ok (.invokevirtual 225, 3) := by decide +kernel
theorem dX8_atom_50 : decode cX8_atom 50 = .ok (.ifCond .eq 111, 3) := by decide +kernel
theorem dX8_atom_53 : decode cX8_atom 53 = .ok (.aload_n 0, 1) := by decide +kernel
theorem dX8_atom_54 : decode cX8_atom 54 = .ok (.invokevirtual 233, 3) := by decide +kernel
theorem dX8_atom_57 : decode cX8_atom 57 = .ok (.istore_n 1, 1) := by decide +kernel
theorem dX8_atom_58 : decode cX8_atom 58 = .ok (.aload_n 0, 1) := by decide +kernel
theorem dX8_atom_59 : decode cX8_atom 59 = .ok (.bipush 41, 2) := by decide +kernel
theorem dX8_atom_61 : decode cX8_atom 61 = .ok (.invokevirtual 222, 3) := by decide +kernel
theorem dX8_atom_64 : decode cX8_atom 64 = .ok (.ifCond .ne 7, 3) := by decide +kernel
theorem dX8_atom_67 : decode cX8_atom 67 = .ok (.aload_n 0, 1) := by decide +kernel
theorem dX8_atom_68 : decode cX8_atom 68 = .ok (.invokevirtual 194, 3) := by decide +kernel
theorem dX8_atom_71 : decode cX8_atom 71 = .ok (.aload_n 0, 1) := by decide +kernel
theorem dX8_atom_72 : decode cX8_atom 72 = .ok (.dup, 1) := by decide +kernel
theorem dX8_atom_73 : decode cX8_atom 73 = .ok (.getfield 191, 3) := by decide +kernel
theorem dX8_atom_76 : decode cX8_atom 76 = .ok (.iconst 1, 1) := by decide +kernel
theorem dX8_atom_77 : decode cX8_atom 77 = .ok (.isub, 1) := by decide +kernel
theorem dX8_atom_78 : decode cX8_atom 78 = .ok (.putfield 191, 3) := by decide +kernel
theorem dX8_atom_81 : decode cX8_atom 81 = .ok (.aload_n 0, 1) := by decide +kernel
theorem dX8_atom_82 : decode cX8_atom 82 = .ok (.getfield 180, 3) := by decide +kernel
theorem dX8_atom_85 : decode cX8_atom 85 = .ok (.ifCond .ne 76, 3) := by decide +kernel
theorem dX8_atom_88 : decode cX8_atom 88 = .ok (.aload_n 0, 1) := by decide +kernel
theorem dX8_atom_89 : decode cX8_atom 89 = .ok (.invokevirtual 197, 3) := by decide +kernel
theorem dX8_atom_92 : decode cX8_atom 92 = .ok (.goto 69, 3) := by decide +kernel
theorem dX8_atom_95 : decode cX8_atom 95 = .ok (.aload_n 0, 1) := by decide +kernel
theorem dX8_atom_96 : decode cX8_atom 96 = .ok (.getfield 180, 3) := by decide +kernel
theorem dX8_atom_99 : decode cX8_atom 99 = .ok (.ifCond .ne 24, 3) := by decide +kernel
theorem dX8_atom_102 : decode cX8_atom 102 = .ok (.aload_n 0, 1) := by decide +kernel
theorem dX8_atom_103 : decode cX8_atom 103 = .ok (.getfield 163, 3) := by decide +kernel
theorem dX8_atom_106 : decode cX8_atom 106 = .ok (.iconst 2, 1) := by decide +kernel
theorem dX8_atom_107 : decode cX8_atom 107 = .ok (.if_icmp .ne 16, 3) := by decide +kernel
theorem dX8_atom_110 : decode cX8_atom 110 = .ok (.aload_n 0, 1) := by decide +kernel
theorem dX8_atom_111 : decode cX8_atom 111 = .ok (.getfield 174, 3) := by decide +kernel
theorem dX8_atom_114 : decode cX8_atom 114 = .ok (.l2i, 1) := by decide +kernel
theorem dX8_atom_115 : decode cX8_atom 115 = .ok (.istore_n 1, 1) := by decide +kernel
theorem dX8_atom_116 : decode cX8_atom 116 = .ok (.aload_n 0, 1) := by decide +kernel
theorem dX8_atom_117 : decode cX8_atom 117 = .ok (.invokevirtual 197, 3) := by decide +kernel
theorem dX8_atom_120 : decode cX8_atom 120 = .ok (.goto 41, 3) := by decide +kernel
theorem dX8_atom_123 : decode cX8_atom 123 = .ok (.aload_n 0, 1) := by decide +kernel
theorem dX8_atom_124 : decode cX8_atom 124 = .ok (.getfield 180, 3) := by decide +kernel
theorem dX8_atom_127 : decode cX8_atom 127 = .ok (.ifCond .ne 30, 3) := by decide +kernel
theorem dX8_atom_130 : decode cX8_atom 130 = .ok (.aload_n 0, 1) := by decide +kernel
theorem dX8_atom_131 : decode cX8_atom 131 = .ok (.getfield 163, 3) := by decide +kernel
theorem dX8_atom_134 : decode cX8_atom 134 = .ok (.iconst 1, 1) := by decide +kernel
theorem dX8_atom_135 : decode cX8_atom 135 = .ok (.if_icmp .ne 22, 3) := by decide +kernel
theorem dX8_atom_138 : decode cX8_atom 138 = .ok (.aload_n 0, 1) := by decide +kernel
theorem dX8_atom_139 : decode cX8_atom 139 = .ok (.invokevirtual 236, 3) := by decide +kernel
theorem dX8_atom_142 : decode cX8_atom 142 = .ok (.istore_n 1, 1) := by decide +kernel
theorem dX8_atom_143 : decode cX8_atom 143 = .ok (.aload_n 0, 1) := by decide +kernel
theorem dX8_atom_144 : decode cX8_atom 144 = .ok (.getfield 180, 3) := by decide +kernel
theorem dX8_atom_147 : decode cX8_atom 147 = .ok (.ifCond .ne 14, 3) := by decide +kernel
theorem dX8_atom_150 : decode cX8_atom 150 = .ok (.aload_n 0, 1) := by decide +kernel
theorem dX8_atom_151 : decode cX8_atom 151 = .ok (.invokevirtual 197, 3) := by decide +kernel
theorem dX8_atom_154 : decode cX8_atom 154 = .ok (.goto 7, 3) := by decide +kernel
theorem dX8_atom_157 : decode cX8_atom 157 = .ok (.aload_n 0, 1) := by decide +kernel
theorem dX8_atom_158 : decode cX8_atom 158 = .ok (.invokevirtual 194, 3) := by decide +kernel
theorem dX8_atom_161 : decode cX8_atom 161 = .ok (.iload_n 1, 1) := by decide +kernel
theorem dX8_atom_162 : decode cX8_atom 162 = .ok (.ireturn, 1) := by decide +kernel
theorem dX8_term_0 : decode cX8_term 0 = .ok (.aload_n 0, 1) := by decide +kernel
theorem dX8_term_1 : decode cX8_term 1 = .ok (.invokevirtual 229, 3) := by decide +kernel
theorem dX8_term_4 : decode cX8_term 4 = .ok (.istore_n 1, 1) := by decide +kernel
theorem dX8_term_5 : decode cX8_term 5 = .ok (.aload_n 0, 1) := by decide +kernel
theorem dX8_term_6 : decode cX8_term 6 = .ok (.bipush 42, 2) := by decide +kernel
theorem dX8_term_8 : decode cX8_term 8 = .ok (.invokevirtual 222, 3) := by decide +kernel
theorem dX8_term_11 : decode cX8_term 11 = .ok (.ifCond .eq 17, 3) := by decide +kernel
theorem dX8_term_14 : decode cX8_term 14 = .ok (.aload_n 0, 1) := by decide +kernel
theorem dX8_term_15 : decode cX8_term 15 = .ok (.invokevirtual 197, 3) := by decide +kernel
theorem dX8_term_18 : decode cX8_term 18 = .ok (.iload_n 1, 1) := by decide +kernel
theorem dX8_term_19 : decode cX8_term 19 = .ok (.aload_n 0, 1) := by decide +kernel
theorem dX8_term_20 : decode cX8_term 20 = .ok (.invokevirtual 229, 3) := by decide +kernel
theorem dX8_term_23 : decode cX8_term 23 = .ok (.imul, 1) := by decide +kernel
theorem dX8_term_24 : decode cX8_term 24 = .ok (.istore_n 1, 1) := by decide +kernel
theorem dX8_term_25 : decode cX8_term 25 = .ok (.goto (-20), 3) := by decide +kernel
theorem dX8_term_28 : decode cX8_term 28 = .ok (.iload_n 1, 1) := by decide +kernel
theorem dX8_term_29 : decode cX8_term 29 = .ok (.ireturn, 1) := by decide +kernel
theorem dX8_added_0 : decode cX8_added 0 = .ok (.aload_n 0, 1) := by decide +kernel
theorem dX8_added_1 : decode cX8_added 1 = .ok (.invokevirtual 239, 3) := by decide +kernel
theorem dX8_added_4 : decode cX8_added 4 = .ok (.istore_n 1, 1) := by decide +kernel
theorem dX8_added_5 : decode cX8_added 5 = .ok (.aload_n 0, 1) := by decide +kernel
theorem dX8_added_6 : decode cX8_added 6 = .ok (.bipush 43, 2) := by decide +kernel
theorem dX8_added_8 : decode cX8_added 8 = .ok (.invokevirtual 222, 3) := by decide +kernel
theorem dX8_added_11 : decode cX8_added 11 = .ok (.ifCond .ne 12, 3) := by decide +kernel
theorem dX8_added_14 : decode cX8_added 14 = .ok (.aload_n 0, 1) := by decide +kernel
theorem dX8_added_15 : decode cX8_added 15 = .ok (.bipush 45, 2) := by decide +kernel
theorem dX8_added_17 : decode cX8_added 17 = .ok (.invokevirtual 222, 3) := by decide +kernel
theorem dX8_added_20 : decode cX8_added 20 = .ok (.ifCond .eq 46, 3) := by decide +kernel
theorem dX8_added_23 : decode cX8_added 23 = .ok (.aload_n 0, 1) := by decide +kernel
theorem dX8_added_24 : decode cX8_added 24 = .ok (.getfield 174, 3) := by decide +kernel
theorem dX8_added_27 : decode cX8_added 27 = .ok (.ldc2_w 242, 3) := by decide +kernel
theorem dX8_added_30 : decode cX8_added 30 = .ok (.lcmp, 1) := by decide +kernel
theorem dX8_added_31 : decode cX8_added 31 = .ok (.ifCond .ne 7, 3) := by decide +kernel
theorem dX8_added_34 : decode cX8_added 34 = .ok (.iconst 1, 1) := by decide +kernel
theorem dX8_added_35 : decode cX8_added 35 = .ok (.goto 4, 3) := by decide +kernel
theorem dX8_added_38 : decode cX8_added 38 = .ok (.iconst 0, 1) := by decide +kernel
theorem dX8_added_39 : decode cX8_added 39 = .ok (.istore_n 2, 1) := by decide +kernel
theorem dX8_added_40 : decode cX8_added 40 = .ok (.aload_n 0, 1) := by decide +kernel
theorem dX8_added_41 : decode cX8_added 41 = .ok (.invokevirtual 197, 3) := by decide +kernel
theorem dX8_added_44 : decode cX8_added 44 = .ok (.aload_n 0, 1) := by decide +kernel
theorem dX8_added_45 : decode cX8_added 45 = .ok (.invokevirtual 239, 3) := by decide +kernel
theorem dX8_added_48 : decode cX8_added 48 = .ok (.istore_n 3, 1) := by decide +kernel
theorem dX8_added_49 : decode cX8_added 49 = .ok (.iload_n 2, 1) := by decide +kernel
theorem dX8_added_50 : decode cX8_added 50 = .ok (.ifCond .eq 9, 3) := by decide +kernel
theorem dX8_added_53 : decode cX8_added 53 = .ok (.iload_n 1, 1) := by decide +kernel
theorem dX8_added_54 : decode cX8_added 54 = .ok (.iload_n 3, 1) := by decide +kernel
theorem dX8_added_55 : decode cX8_added 55 = .ok (.iadd, 1) := by decide +kernel
theorem dX8_added_56 : decode cX8_added 56 = .ok (.goto 6, 3) := by decide +kernel
theorem dX8_added_59 : decode cX8_added 59 = .ok (.iload_n 1, 1) := by decide +kernel
theorem dX8_added_60 : decode cX8_added 60 = .ok (.iload_n 3, 1) := by decide +kernel
theorem dX8_added_61 : decode cX8_added 61 = .ok (.isub, 1) := by decide +kernel
theorem dX8_added_62 : decode cX8_added 62 = .ok (.istore_n 1, 1) := by decide +kernel
theorem dX8_added_63 : decode cX8_added 63 = .ok (.goto (-58), 3) := by decide +kernel
theorem dX8_added_66 : decode cX8_added 66 = .ok (.iload_n 1, 1) := by decide +kernel
theorem dX8_added_67 : decode cX8_added 67 = .ok (.ireturn, 1) := by decide +kernel
theorem dX8_not_0 : decode cX8_not 0 = .ok (.aload_n 0, 1) := by decide +kernel
theorem dX8_not_1 : decode cX8_not 1 = .ok (.bipush 110, 2) := by decide +kernel
theorem dX8_not_3 : decode cX8_not 3 = .ok (.bipush 111, 2) := by decide +kernel
theorem dX8_not_5 : decode cX8_not 5 = .ok (.bipush 116, 2) := by decide +kernel
theorem dX8_not_7 : decode cX8_not 7 = .ok (.iconst 0, 1) := by decide +kernel
theorem dX8_not_8 : decode cX8_not 8 = .ok (.iconst 0, 1) := by decide +kernel
theorem dX8_not_9 : decode cX8_not 9 = .ok (.iconst 0, 1) := by decide +kernel
theorem dX8_not_10 : decode cX8_not 10 = .ok (.iconst 0, 1) := by decide +kernel
theorem dX8_not_11 : decode cX8_not 11 = .ok (.iconst 0, 1) := by decide +kernel
theorem dX8_not_12 : decode cX8_not 12 = .ok (.invokevirtual 200, 3) := by decide +kernel
theorem dX8_not_15 : decode cX8_not 15 = .ok (.ifCond .eq 37, 3) := by decide +kernel
theorem dX8_not_18 : decode cX8_not 18 = .ok (.aload_n 0, 1) := by decide +kernel
theorem dX8_not_19 : decode cX8_not 19 = .ok (.invokevirtual 225, 3) := by decide +kernel
theorem dX8_not_22 : decode cX8_not 22 = .ok (.ifCond .ne 5, 3) := by decide +kernel
theorem dX8_not_25 : decode cX8_not 25 = .ok (.iconst 0, 1) := by decide +kernel
theorem dX8_not_26 : decode cX8_not 26 = .ok (.ireturn, 1) := by decide +kernel
theorem dX8_not_27 : decode cX8_not 27 = .ok (.aload_n 0, 1) := by decide +kernel
theorem dX8_not_28 : decode cX8_not 28 = .ok (.invokevirtual 244, 3) := by decide +kernel
theorem dX8_not_31 : decode cX8_not 31 = .ok (.istore_n 1, 1) := by decide +kernel
theorem dX8_not_32 : decode cX8_not 32 = .ok (.aload_n 0, 1) := by decide +kernel
theorem dX8_not_33 : decode cX8_not 33 = .ok (.dup, 1) := by decide +kernel
theorem dX8_not_34 : decode cX8_not 34 = .ok (.getfield 191, 3) := by decide +kernel
theorem dX8_not_37 : decode cX8_not 37 = .ok (.iconst 1, 1) := by decide +kernel
theorem dX8_not_38 : decode cX8_not 38 = .ok (.isub, 1) := by decide +kernel
theorem dX8_not_39 : decode cX8_not 39 = .ok (.putfield 191, 3) := by decide +kernel
theorem dX8_not_42 : decode cX8_not 42 = .ok (.iload_n 1, 1) := by decide +kernel
theorem dX8_not_43 : decode cX8_not 43 = .ok (.ifCond .ne 7, 3) := by decide +kernel
theorem dX8_not_46 : decode cX8_not 46 = .ok (.iconst 1, 1) := by decide +kernel
theorem dX8_not_47 : decode cX8_not 47 = .ok (.goto 4, 3) := by decide +kernel
theorem dX8_not_50 : decode cX8_not 50 = .ok (.iconst 0, 1) := by decide +kernel
theorem dX8_not_51 : decode cX8_not 51 = .ok (.ireturn, 1) := by decide +kernel
theorem dX8_not_52 : decode cX8_not 52 = .ok (.aload_n 0, 1) := by decide +kernel
theorem dX8_not_53 : decode cX8_not 53 = .ok (.invokevirtual 247, 3) := by decide +kernel
theorem dX8_not_56 : decode cX8_not 56 = .ok (.istore_n 1, 1) := by decide +kernel
theorem dX8_not_57 : decode cX8_not 57 = .ok (.aload_n 0, 1) := by decide +kernel
theorem dX8_not_58 : decode cX8_not 58 = .ok (.bipush 60, 2) := by decide +kernel
theorem dX8_not_60 : decode cX8_not 60 = .ok (.invokevirtual 222, 3) := by decide +kernel
theorem dX8_not_63 : decode cX8_not 63 = .ok (.ifCond .ne 14, 3) := by decide +kernel
theorem dX8_not_66 : decode cX8_not 66 = .ok (.aload_n 0, 1) := by decide +kernel
theorem dX8_not_67 : decode cX8_not 67 = .ok (.bipush 61, 2) := by decide +kernel
theorem dX8_not_69 : decode cX8_not 69 = .ok (.invokevirtual 222, 3) := by decide +kernel
theorem dX8_not_72 : decode cX8_not 72 = .ok (.ifCond .ne 5, 3) := by decide +kernel
theorem dX8_not_75 : decode cX8_not 75 = .ok (.iload_n 1, 1) := by decide +kernel
theorem dX8_not_76 : decode cX8_not 76 = .ok (.ireturn, 1) := by decide +kernel
theorem dX8_not_77 : decode cX8_not 77 = .ok (.aload_n 0, 1) := by decide +kernel
theorem dX8_not_78 : decode cX8_not 78 = .ok (.getfield 174, 3) := by decide +kernel
theorem dX8_not_81 : decode cX8_not 81 = .ok (.ldc2_w 250, 3) := by decide +kernel
theorem dX8_not_84 : decode cX8_not 84 = .ok (.lcmp, 1) := by decide +kernel
theorem dX8_not_85 : decode cX8_not 85 = .ok (.ifCond .ne 7, 3) := by decide +kernel
theorem dX8_not_88 : decode cX8_not 88 = .ok (.iconst 1, 1) := by decide +kernel
theorem dX8_not_89 : decode cX8_not 89 = .ok (.goto 4, 3) := by decide +kernel
theorem dX8_not_92 : decode cX8_not 92 = .ok (.iconst 0, 1) := by decide +kernel
theorem dX8_not_93 : decode cX8_not 93 = .ok (.istore_n 2, 1) := by decide +kernel
theorem dX8_not_94 : decode cX8_not 94 = .ok (.aload_n 0, 1) := by decide +kernel
theorem dX8_not_95 : decode cX8_not 95 = .ok (.invokevirtual 197, 3) := by decide +kernel
theorem dX8_not_98 : decode cX8_not 98 = .ok (.aload_n 0, 1) := by decide +kernel
theorem dX8_not_99 : decode cX8_not 99 = .ok (.invokevirtual 247, 3) := by decide +kernel
theorem dX8_not_102 : decode cX8_not 102 = .ok (.istore_n 3, 1) := by decide +kernel
theorem dX8_not_103 : decode cX8_not 103 = .ok (.iload_n 2, 1) := by decide +kernel
theorem dX8_not_104 : decode cX8_not 104 = .ok (.ifCond .eq 11, 3) := by decide +kernel
theorem dX8_not_107 : decode cX8_not 107 = .ok (.iload_n 1, 1) := by decide +kernel
theorem dX8_not_108 : decode cX8_not 108 = .ok (.iload_n 3, 1) := by decide +kernel
theorem dX8_not_109 : decode cX8_not 109 = .ok (.if_icmp .ge 15, 3) := by decide +kernel
theorem dX8_not_112 : decode cX8_not 112 = .ok (.goto 8, 3) := by decide +kernel
theorem dX8_not_115 : decode cX8_not 115 = .ok (.iload_n 1, 1) := by decide +kernel
theorem dX8_not_116 : decode cX8_not 116 = .ok (.iload_n 3, 1) := by decide +kernel
theorem dX8_not_117 : decode cX8_not 117 = .ok (.if_icmp .ne 7, 3) := by decide +kernel
theorem dX8_not_120 : decode cX8_not 120 = .ok (.iconst 1, 1) := by decide +kernel
theorem dX8_not_121 : decode cX8_not 121 = .ok (.goto 4, 3) := by decide +kernel
theorem dX8_not_124 : decode cX8_not 124 = .ok (.iconst 0, 1) := by decide +kernel
theorem dX8_not_125 : decode cX8_not 125 = .ok (.ireturn, 1) := by decide +kernel
theorem dX8_both_0 : decode cX8_both 0 = .ok (.aload_n 0, 1) := by decide +kernel
theorem dX8_both_1 : decode cX8_both 1 = .ok (.invokevirtual 244, 3) := by decide +kernel
theorem dX8_both_4 : decode cX8_both 4 = .ok (.istore_n 1, 1) := by decide +kernel
theorem dX8_both_5 : decode cX8_both 5 = .ok (.aload_n 0, 1) := by decide +kernel
theorem dX8_both_6 : decode cX8_both 6 = .ok (.bipush 97, 2) := by decide +kernel
theorem dX8_both_8 : decode cX8_both 8 = .ok (.bipush 110, 2) := by decide +kernel
theorem dX8_both_10 : decode cX8_both 10 = .ok (.bipush 100, 2) := by decide +kernel
theorem dX8_both_12 : decode cX8_both 12 = .ok (.iconst 0, 1) := by decide +kernel
theorem dX8_both_13 : decode cX8_both 13 = .ok (.iconst 0, 1) := by decide +kernel
theorem dX8_both_14 : decode cX8_both 14 = .ok (.iconst 0, 1) := by decide +kernel
theorem dX8_both_15 : decode cX8_both 15 = .ok (.iconst 0, 1) := by decide +kernel
theorem dX8_both_16 : decode cX8_both 16 = .ok (.iconst 0, 1) := by decide +kernel
theorem dX8_both_17 : decode cX8_both 17 = .ok (.invokevirtual 200, 3) := by decide +kernel
theorem dX8_both_20 : decode cX8_both 20 = .ok (.ifCond .eq 29, 3) := by decide +kernel
theorem dX8_both_23 : decode cX8_both 23 = .ok (.aload_n 0, 1) := by decide +kernel
theorem dX8_both_24 : decode cX8_both 24 = .ok (.invokevirtual 197, 3) := by decide +kernel
theorem dX8_both_27 : decode cX8_both 27 = .ok (.aload_n 0, 1) := by decide +kernel
theorem dX8_both_28 : decode cX8_both 28 = .ok (.invokevirtual 244, 3) := by decide +kernel
theorem dX8_both_31 : decode cX8_both 31 = .ok (.istore_n 2, 1) := by decide +kernel
theorem dX8_both_32 : decode cX8_both 32 = .ok (.iload_n 1, 1) := by decide +kernel
theorem dX8_both_33 : decode cX8_both 33 = .ok (.ifCond .eq 11, 3) := by decide +kernel
theorem dX8_both_36 : decode cX8_both 36 = .ok (.iload_n 2, 1) := by decide +kernel
theorem dX8_both_37 : decode cX8_both 37 = .ok (.ifCond .eq 7, 3) := by decide +kernel
theorem dX8_both_40 : decode cX8_both 40 = .ok (.iconst 1, 1) := by decide +kernel
theorem dX8_both_41 : decode cX8_both 41 = .ok (.goto 4, 3) := by decide +kernel
theorem dX8_both_44 : decode cX8_both 44 = .ok (.iconst 0, 1) := by decide +kernel
theorem dX8_both_45 : decode cX8_both 45 = .ok (.istore_n 1, 1) := by decide +kernel
theorem dX8_both_46 : decode cX8_both 46 = .ok (.goto (-41), 3) := by decide +kernel
theorem dX8_both_49 : decode cX8_both 49 = .ok (.iload_n 1, 1) := by decide +kernel
theorem dX8_both_50 : decode cX8_both 50 = .ok (.ireturn, 1) := by decide +kernel
theorem dX8_either_0 : decode cX8_either 0 = .ok (.aload_n 0, 1) := by decide +kernel
theorem dX8_either_1 : decode cX8_either 1 = .ok (.invokevirtual 252, 3) := by decide +kernel
theorem dX8_either_4 : decode cX8_either 4 = .ok (.istore_n 1, 1) := by decide +kernel
theorem dX8_either_5 : decode cX8_either 5 = .ok (.aload_n 0, 1) := by decide +kernel
theorem dX8_either_6 : decode cX8_either 6 = .ok (.bipush 111, 2) := by decide +kernel
theorem dX8_either_8 : decode cX8_either 8 = .ok (.bipush 114, 2) := by decide +kernel
theorem dX8_either_10 : decode cX8_either 10 = .ok (.iconst 0, 1) := by decide +kernel
theorem dX8_either_11 : decode cX8_either 11 = .ok (.iconst 0, 1) := by decide +kernel
theorem dX8_either_12 : decode cX8_either 12 = .ok (.iconst 0, 1) := by decide +kernel
theorem dX8_either_13 : decode cX8_either 13 = .ok (.iconst 0, 1) := by decide +kernel
theorem dX8_either_14 : decode cX8_either 14 = .ok (.iconst 0, 1) := by decide +kernel
theorem dX8_either_15 : decode cX8_either 15 = .ok (.iconst 0, 1) := by decide +kernel
theorem dX8_either_16 : decode cX8_either 16 = .ok (.invokevirtual 200, 3) := by decide +kernel
theorem dX8_either_19 : decode cX8_either 19 = .ok (.ifCond .eq 29, 3) := by decide +kernel
theorem dX8_either_22 : decode cX8_either 22 = .ok (.aload_n 0, 1) := by decide +kernel
theorem dX8_either_23 : decode cX8_either 23 = .ok (.invokevirtual 197, 3) := by decide +kernel
theorem dX8_either_26 : decode cX8_either 26 = .ok (.aload_n 0, 1) := by decide +kernel
theorem dX8_either_27 : decode cX8_either 27 = .ok (.invokevirtual 252, 3) := by decide +kernel
theorem dX8_either_30 : decode cX8_either 30 = .ok (.istore_n 2, 1) := by decide +kernel
theorem dX8_either_31 : decode cX8_either 31 = .ok (.iload_n 1, 1) := by decide +kernel
theorem dX8_either_32 : decode cX8_either 32 = .ok (.ifCond .ne 7, 3) := by decide +kernel
theorem dX8_either_35 : decode cX8_either 35 = .ok (.iload_n 2, 1) := by decide +kernel
theorem dX8_either_36 : decode cX8_either 36 = .ok (.ifCond .eq 7, 3) := by decide +kernel
theorem dX8_either_39 : decode cX8_either 39 = .ok (.iconst 1, 1) := by decide +kernel
theorem dX8_either_40 : decode cX8_either 40 = .ok (.goto 4, 3) := by decide +kernel
theorem dX8_either_43 : decode cX8_either 43 = .ok (.iconst 0, 1) := by decide +kernel
theorem dX8_either_44 : decode cX8_either 44 = .ok (.istore_n 1, 1) := by decide +kernel
theorem dX8_either_45 : decode cX8_either 45 = .ok (.goto (-40), 3) := by decide +kernel
theorem dX8_either_48 : decode cX8_either 48 = .ok (.iload_n 1, 1) := by decide +kernel
theorem dX8_either_49 : decode cX8_either 49 = .ok (.ireturn, 1) := by decide +kernel
theorem dX8_part_0 : decode cX8_part 0 = .ok (.iload_n 1, 1) := by decide +kernel
theorem dX8_part_1 : decode cX8_part 1 = .ok (.ifCond .ne 7, 3) := by decide +kernel
theorem dX8_part_4 : decode cX8_part 4 = .ok (.aload_n 0, 1) := by decide +kernel
theorem dX8_part_5 : decode cX8_part 5 = .ok (.invokevirtual 194, 3) := by decide +kernel
theorem dX8_part_8 : decode cX8_part 8 = .ok (.aload_n 0, 1) := by decide +kernel
theorem dX8_part_9 : decode cX8_part 9 = .ok (.getfield 180, 3) := by decide +kernel
theorem dX8_part_12 : decode cX8_part 12 = .ok (.ifCond .ne 7, 3) := by decide +kernel
theorem dX8_part_15 : decode cX8_part 15 = .ok (.aload_n 0, 1) := by decide +kernel
theorem dX8_part_16 : decode cX8_part 16 = .ok (.invokevirtual 197, 3) := by decide +kernel
theorem dX8_part_19 : decode cX8_part 19 = .ok (.aload_n 0, 1) := by decide +kernel
theorem dX8_part_20 : decode cX8_part 20 = .ok (.getfield 180, 3) := by decide +kernel
theorem dX8_part_23 : decode cX8_part 23 = .ok (.ifCond .eq 7, 3) := by decide +kernel
theorem dX8_part_26 : decode cX8_part 26 = .ok (.iconst 0, 1) := by decide +kernel
theorem dX8_part_27 : decode cX8_part 27 = .ok (.goto 7, 3) := by decide +kernel
theorem dX8_part_30 : decode cX8_part 30 = .ok (.aload_n 0, 1) := by decide +kernel
theorem dX8_part_31 : decode cX8_part 31 = .ok (.invokevirtual 233, 3) := by decide +kernel
theorem dX8_part_34 : decode cX8_part 34 = .ok (.istore_n 2, 1) := by decide +kernel
theorem dX8_part_35 : decode cX8_part 35 = .ok (.aload_n 0, 1) := by decide +kernel
theorem dX8_part_36 : decode cX8_part 36 = .ok (.bipush 59, 2) := by decide +kernel
theorem dX8_part_38 : decode cX8_part 38 = .ok (.invokevirtual 222, 3) := by decide +kernel
theorem dX8_part_41 : decode cX8_part 41 = .ok (.ifCond .ne 7, 3) := by decide +kernel
theorem dX8_part_44 : decode cX8_part 44 = .ok (.aload_n 0, 1) := by decide +kernel
theorem dX8_part_45 : decode cX8_part 45 = .ok (.invokevirtual 194, 3) := by decide +kernel
theorem dX8_part_48 : decode cX8_part 48 = .ok (.aload_n 0, 1) := by decide +kernel
theorem dX8_part_49 : decode cX8_part 49 = .ok (.getfield 180, 3) := by decide +kernel
theorem dX8_part_52 : decode cX8_part 52 = .ok (.ifCond .ne 7, 3) := by decide +kernel
theorem dX8_part_55 : decode cX8_part 55 = .ok (.aload_n 0, 1) := by decide +kernel
theorem dX8_part_56 : decode cX8_part 56 = .ok (.invokevirtual 197, 3) := by decide +kernel
theorem dX8_part_59 : decode cX8_part 59 = .ok (.iload_n 2, 1) := by decide +kernel
theorem dX8_part_60 : decode cX8_part 60 = .ok (.ireturn, 1) := by decide +kernel
theorem dX8_read_0 : decode cX8_read 0 = .ok (.aload_n 0, 1) := by decide +kernel
theorem dX8_read_1 : decode cX8_read 1 = .ok (.sipush 160, 3) := by decide +kernel
theorem dX8_read_4 : decode cX8_read 4 = .ok (.iload_n 1, 1) := by decide +kernel
theorem dX8_read_5 : decode cX8_read 5 = .ok (.imul, 1) := by decide +kernel
theorem dX8_read_6 : decode cX8_read 6 = .ok (.putfield 151, 3) := by decide +kernel
theorem dX8_read_9 : decode cX8_read 9 = .ok (.aload_n 0, 1) := by decide +kernel
theorem dX8_read_10 : decode cX8_read 10 = .ok (.aload_n 0, 1) := by decide +kernel
theorem dX8_read_11 : decode cX8_read 11 = .ok (.getfield 17, 3) := by decide +kernel
theorem dX8_read_14 : decode cX8_read 14 = .ok (.iload_n 1, 1) := by decide +kernel
theorem dX8_read_15 : decode cX8_read 15 = .ok (.iaload, 1) := by decide +kernel
theorem dX8_read_16 : decode cX8_read 16 = .ok (.putfield 148, 3) := by decide +kernel
theorem dX8_read_19 : decode cX8_read 19 = .ok (.aload_n 0, 1) := by decide +kernel
theorem dX8_read_20 : decode cX8_read 20 = .ok (.iconst 0, 1) := by decide +kernel
theorem dX8_read_21 : decode cX8_read 21 = .ok (.putfield 154, 3) := by decide +kernel
theorem dX8_read_24 : decode cX8_read 24 = .ok (.aload_n 0, 1) := by decide +kernel
theorem dX8_read_25 : decode cX8_read 25 = .ok (.iconst 0, 1) := by decide +kernel
theorem dX8_read_26 : decode cX8_read 26 = .ok (.putfield 191, 3) := by decide +kernel
theorem dX8_read_29 : decode cX8_read 29 = .ok (.aload_n 0, 1) := by decide +kernel
theorem dX8_read_30 : decode cX8_read 30 = .ok (.iconst 0, 1) := by decide +kernel
theorem dX8_read_31 : decode cX8_read 31 = .ok (.putfield 180, 3) := by decide +kernel
theorem dX8_read_34 : decode cX8_read 34 = .ok (.aload_n 0, 1) := by decide +kernel
theorem dX8_read_35 : decode cX8_read 35 = .ok (.invokevirtual 197, 3) := by decide +kernel
theorem dX8_read_38 : decode cX8_read 38 = .ok (.aload_n 0, 1) := by decide +kernel
theorem dX8_read_39 : decode cX8_read 39 = .ok (.aload_n 0, 1) := by decide +kernel
theorem dX8_read_40 : decode cX8_read 40 = .ok (.bipush 116, 2) := by decide +kernel
theorem dX8_read_42 : decode cX8_read 42 = .ok (.bipush 97, 2) := by decide +kernel
theorem dX8_read_44 : decode cX8_read 44 = .ok (.bipush 107, 2) := by decide +kernel
theorem dX8_read_46 : decode cX8_read 46 = .ok (.bipush 101, 2) := by decide +kernel
theorem dX8_read_48 : decode cX8_read 48 = .ok (.bipush 115, 2) := by decide +kernel
theorem dX8_read_50 : decode cX8_read 50 = .ok (.iconst 0, 1) := by decide +kernel
theorem dX8_read_51 : decode cX8_read 51 = .ok (.iconst 0, 1) := by decide +kernel
theorem dX8_read_52 : decode cX8_read 52 = .ok (.iconst 0, 1) := by decide +kernel
theorem dX8_read_53 : decode cX8_read 53 = .ok (.invokevirtual 200, 3) := by decide +kernel
theorem dX8_read_56 : decode cX8_read 56 = .ok (.invokevirtual 255, 3) := by decide +kernel
theorem dX8_read_59 : decode cX8_read 59 = .ok (.istore_n 3, 1) := by decide +kernel
theorem dX8_read_60 : decode cX8_read 60 = .ok (.aload_n 0, 1) := by decide +kernel
theorem dX8_read_61 : decode cX8_read 61 = .ok (.getfield 180, 3) := by decide +kernel
theorem dX8_read_64 : decode cX8_read 64 = .ok (.ifCond .eq 7, 3) := by decide +kernel
theorem dX8_read_67 : decode cX8_read 67 = .ok (.iconst 0, 1) := by decide +kernel
theorem dX8_read_68 : decode cX8_read 68 = .ok (.goto 24, 3) := by decide +kernel
theorem dX8_read_71 : decode cX8_read 71 = .ok (.aload_n 0, 1) := by decide +kernel
theorem dX8_read_72 : decode cX8_read 72 = .ok (.aload_n 0, 1) := by decide +kernel
theorem dX8_read_73 : decode cX8_read 73 = .ok (.bipush 119, 2) := by decide +kernel
theorem dX8_read_75 : decode cX8_read 75 = .ok (.bipush 111, 2) := by decide +kernel
theorem dX8_read_77 : decode cX8_read 77 = .ok (.bipush 114, 2) := by decide +kernel
theorem dX8_read_79 : decode cX8_read 79 = .ok (.bipush 116, 2) := by decide +kernel
theorem dX8_read_81 : decode cX8_read 81 = .ok (.bipush 104, 2) := by decide +kernel
theorem dX8_read_83 : decode cX8_read 83 = .ok (.iconst 0, 1) := by decide +kernel
theorem dX8_read_84 : decode cX8_read 84 = .ok (.iconst 0, 1) := by decide +kernel
theorem dX8_read_85 : decode cX8_read 85 = .ok (.iconst 0, 1) := by decide +kernel
theorem dX8_read_86 : decode cX8_read 86 = .ok (.invokevirtual 200, 3) := by decide +kernel
theorem dX8_read_89 : decode cX8_read 89 = .ok (.invokevirtual 255, 3) := by decide +kernel
theorem dX8_read_92 : decode cX8_read 92 = .ok (.istore 4, 2) := by decide +kernel
theorem dX8_read_94 : decode cX8_read 94 = .ok (.aload_n 0, 1) := by decide +kernel
theorem dX8_read_95 : decode cX8_read 95 = .ok (.getfield 180, 3) := by decide +kernel
theorem dX8_read_98 : decode cX8_read 98 = .ok (.ifCond .eq 7, 3) := by decide +kernel
theorem dX8_read_101 : decode cX8_read 101 = .ok (.iconst 0, 1) := by decide +kernel
theorem dX8_read_102 : decode cX8_read 102 = .ok (.goto 24, 3) := by decide +kernel
theorem dX8_read_105 : decode cX8_read 105 = .ok (.aload_n 0, 1) := by decide +kernel
theorem dX8_read_106 : decode cX8_read 106 = .ok (.aload_n 0, 1) := by decide +kernel
theorem dX8_read_107 : decode cX8_read 107 = .ok (.bipush 119, 2) := by decide +kernel
theorem dX8_read_109 : decode cX8_read 109 = .ok (.bipush 97, 2) := by decide +kernel
theorem dX8_read_111 : decode cX8_read 111 = .ok (.bipush 110, 2) := by decide +kernel
theorem dX8_read_113 : decode cX8_read 113 = .ok (.bipush 116, 2) := by decide +kernel
theorem dX8_read_115 : decode cX8_read 115 = .ok (.bipush 115, 2) := by decide +kernel
theorem dX8_read_117 : decode cX8_read 117 = .ok (.iconst 0, 1) := by decide +kernel
theorem dX8_read_118 : decode cX8_read 118 = .ok (.iconst 0, 1) := by decide +kernel
theorem dX8_read_119 : decode cX8_read 119 = .ok (.iconst 0, 1) := by decide +kernel
theorem dX8_read_120 : decode cX8_read 120 = .ok (.invokevirtual 200, 3) := by decide +kernel
theorem dX8_read_123 : decode cX8_read 123 = .ok (.invokevirtual 255, 3) := by decide +kernel
theorem dX8_read_126 : decode cX8_read 126 = .ok (.istore 5, 2) := by decide +kernel
theorem dX8_read_128 : decode cX8_read 128 = .ok (.aload_n 0, 1) := by decide +kernel
theorem dX8_read_129 : decode cX8_read 129 = .ok (.getfield 180, 3) := by decide +kernel
theorem dX8_read_132 : decode cX8_read 132 = .ok (.ifCond .ne 14, 3) := by decide +kernel
theorem dX8_read_135 : decode cX8_read 135 = .ok (.aload_n 0, 1) := by decide +kernel
theorem dX8_read_136 : decode cX8_read 136 = .ok (.getfield 163, 3) := by decide +kernel
theorem dX8_read_139 : decode cX8_read 139 = .ok (.ifCond .eq 7, 3) := by decide +kernel
theorem dX8_read_142 : decode cX8_read 142 = .ok (.aload_n 0, 1) := by decide +kernel
theorem dX8_read_143 : decode cX8_read 143 = .ok (.invokevirtual 194, 3) := by decide +kernel
theorem dX8_read_146 : decode cX8_read 146 = .ok (.iload_n 2, 1) := by decide +kernel
theorem dX8_read_147 : decode cX8_read 147 = .ok (.ifCond .ne 7, 3) := by decide +kernel
theorem dX8_read_150 : decode cX8_read 150 = .ok (.iload_n 3, 1) := by decide +kernel
theorem dX8_read_151 : decode cX8_read 151 = .ok (.goto 15, 3) := by decide +kernel
theorem dX8_read_154 : decode cX8_read 154 = .ok (.iload_n 2, 1) := by decide +kernel
theorem dX8_read_155 : decode cX8_read 155 = .ok (.iconst 1, 1) := by decide +kernel
theorem dX8_read_156 : decode cX8_read 156 = .ok (.if_icmp .ne 8, 3) := by decide +kernel
theorem dX8_read_159 : decode cX8_read 159 = .ok (.iload 4, 2) := by decide +kernel
theorem dX8_read_161 : decode cX8_read 161 = .ok (.goto 5, 3) := by decide +kernel
theorem dX8_read_164 : decode cX8_read 164 = .ok (.iload 5, 2) := by decide +kernel
theorem dX8_read_166 : decode cX8_read 166 = .ok (.ireturn, 1) := by decide +kernel
theorem dX8_text_0 : decode cX8_text 0 = .ok (.aload_n 0, 1) := by decide +kernel
theorem dX8_text_1 : decode cX8_text 1 = .ok (.getfield 103, 3) := by decide +kernel
theorem dX8_text_4 : decode cX8_text 4 = .ok (.bipush 6, 2) := by decide +kernel
theorem dX8_text_6 : decode cX8_text 6 = .ok (.if_icmp .ne 6, 3) := by decide +kernel
theorem dX8_text_9 : decode cX8_text 9 = .ok (.bipush (-4), 2) := by decide +kernel
theorem dX8_text_11 : decode cX8_text 11 = .ok (.ireturn, 1) := by decide +kernel
theorem dX8_text_12 : decode cX8_text 12 = .ok (.iconst 0, 1) := by decide +kernel
theorem dX8_text_13 : decode cX8_text 13 = .ok (.istore_n 1, 1) := by decide +kernel
theorem dX8_text_14 : decode cX8_text 14 = .ok (.iload_n 1, 1) := by decide +kernel
theorem dX8_text_15 : decode cX8_text 15 = .ok (.aload_n 0, 1) := by decide +kernel
theorem dX8_text_16 : decode cX8_text 16 = .ok (.getfield 145, 3) := by decide +kernel
theorem dX8_text_19 : decode cX8_text 19 = .ok (.if_icmp .ge 30, 3) := by decide +kernel
theorem dX8_text_22 : decode cX8_text 22 = .ok (.aload_n 0, 1) := by decide +kernel
theorem dX8_text_23 : decode cX8_text 23 = .ok (.getfield 13, 3) := by decide +kernel
theorem dX8_text_26 : decode cX8_text 26 = .ok (.sipush 160, 3) := by decide +kernel
theorem dX8_text_29 : decode cX8_text 29 = .ok (.aload_n 0, 1) := by decide +kernel
theorem dX8_text_30 : decode cX8_text 30 = .ok (.getfield 103, 3) := by decide +kernel
theorem dX8_text_33 : decode cX8_text 33 = .ok (.imul, 1) := by decide +kernel
theorem dX8_text_34 : decode cX8_text 34 = .ok (.iload_n 1, 1) := by decide +kernel
theorem dX8_text_35 : decode cX8_text 35 = .ok (.iadd, 1) := by decide +kernel
theorem dX8_text_36 : decode cX8_text 36 = .ok (.aload_n 0, 1) := by decide +kernel
theorem dX8_text_37 : decode cX8_text 37 = .ok (.getfield 20, 3) := by decide +kernel
theorem dX8_text_40 : decode cX8_text 40 = .ok (.iload_n 1, 1) := by decide +kernel
theorem dX8_text_41 : decode cX8_text 41 = .ok (.iaload, 1) := by decide +kernel
theorem dX8_text_42 : decode cX8_text 42 = .ok (.iastore, 1) := by decide +kernel
theorem dX8_text_43 : decode cX8_text 43 = .ok (.iinc 1 1, 3) := by decide +kernel
theorem dX8_text_46 : decode cX8_text 46 = .ok (.goto (-32), 3) := by decide +kernel
theorem dX8_text_49 : decode cX8_text 49 = .ok (.aload_n 0, 1) := by decide +kernel
theorem dX8_text_50 : decode cX8_text 50 = .ok (.getfield 17, 3) := by decide +kernel
theorem dX8_text_53 : decode cX8_text 53 = .ok (.aload_n 0, 1) := by decide +kernel
theorem dX8_text_54 : decode cX8_text 54 = .ok (.getfield 103, 3) := by decide +kernel
theorem dX8_text_57 : decode cX8_text 57 = .ok (.aload_n 0, 1) := by decide +kernel
theorem dX8_text_58 : decode cX8_text 58 = .ok (.getfield 145, 3) := by decide +kernel
theorem dX8_text_61 : decode cX8_text 61 = .ok (.iastore, 1) := by decide +kernel
theorem dX8_text_62 : decode cX8_text 62 = .ok (.aload_n 0, 1) := by decide +kernel
theorem dX8_text_63 : decode cX8_text 63 = .ok (.iconst 0, 1) := by decide +kernel
theorem dX8_text_64 : decode cX8_text 64 = .ok (.putfield 145, 3) := by decide +kernel
theorem dX8_text_67 : decode cX8_text 67 = .ok (.aload_n 0, 1) := by decide +kernel
theorem dX8_text_68 : decode cX8_text 68 = .ok (.aload_n 0, 1) := by decide +kernel
theorem dX8_text_69 : decode cX8_text 69 = .ok (.getfield 103, 3) := by decide +kernel
theorem dX8_text_72 : decode cX8_text 72 = .ok (.iconst 0, 1) := by decide +kernel
theorem dX8_text_73 : decode cX8_text 73 = .ok (.invokevirtual 259, 3) := by decide +kernel
theorem dX8_text_76 : decode cX8_text 76 = .ok (.istore_n 1, 1) := by decide +kernel
theorem dX8_text_77 : decode cX8_text 77 = .ok (.aload_n 0, 1) := by decide +kernel
theorem dX8_text_78 : decode cX8_text 78 = .ok (.getfield 180, 3) := by decide +kernel
theorem dX8_text_81 : decode cX8_text 81 = .ok (.ifCond .eq 11, 3) := by decide +kernel
theorem dX8_text_84 : decode cX8_text 84 = .ok (.bipush (-100), 2) := by decide +kernel
theorem dX8_text_86 : decode cX8_text 86 = .ok (.aload_n 0, 1) := by decide +kernel
theorem dX8_text_87 : decode cX8_text 87 = .ok (.getfield 184, 3) := by decide +kernel
theorem dX8_text_90 : decode cX8_text 90 = .ok (.isub, 1) := by decide +kernel
theorem dX8_text_91 : decode cX8_text 91 = .ok (.ireturn, 1) := by decide +kernel
theorem dX8_text_92 : decode cX8_text 92 = .ok (.aload_n 0, 1) := by decide +kernel
theorem dX8_text_93 : decode cX8_text 93 = .ok (.dup, 1) := by decide +kernel
theorem dX8_text_94 : decode cX8_text 94 = .ok (.getfield 103, 3) := by decide +kernel
theorem dX8_text_97 : decode cX8_text 97 = .ok (.iconst 1, 1) := by decide +kernel
theorem dX8_text_98 : decode cX8_text 98 = .ok (.iadd, 1) := by decide +kernel
theorem dX8_text_99 : decode cX8_text 99 = .ok (.putfield 103, 3) := by decide +kernel
theorem dX8_text_102 : decode cX8_text 102 = .ok (.aload_n 0, 1) := by decide +kernel
theorem dX8_text_103 : decode cX8_text 103 = .ok (.getfield 103, 3) := by decide +kernel
theorem dX8_text_106 : decode cX8_text 106 = .ok (.iconst 1, 1) := by decide +kernel
theorem dX8_text_107 : decode cX8_text 107 = .ok (.isub, 1) := by decide +kernel
theorem dX8_text_108 : decode cX8_text 108 = .ok (.ireturn, 1) := by decide +kernel
theorem dX8_force_0 : decode cX8_force 0 = .ok (.iload_n 1, 1) := by decide +kernel
theorem dX8_force_1 : decode cX8_force 1 = .ok (.i2l, 1) := by decide +kernel
theorem dX8_force_2 : decode cX8_force 2 = .ok (.lconst 0, 1) := by decide +kernel
theorem dX8_force_3 : decode cX8_force 3 = .ok (.aload_n 0, 1) := by decide +kernel
theorem dX8_force_4 : decode cX8_force 4 = .ok (.getfield 103, 3) := by decide +kernel
theorem dX8_force_7 : decode cX8_force 7 = .ok (.iconst 1, 1) := by decide +kernel
theorem dX8_force_8 : decode cX8_force 8 = .ok (.isub, 1) := by decide +kernel
theorem dX8_force_9 : decode cX8_force 9 = .ok (.i2l, 1) := by decide +kernel
theorem dX8_force_10 : decode cX8_force 10 = .ok (.invokestatic 109, 3) := by decide +kernel
theorem dX8_force_13 : decode cX8_force 13 = .ok (.ifCond .ne 6, 3) := by decide +kernel
theorem dX8_force_16 : decode cX8_force 16 = .ok (.bipush (-2), 2) := by decide +kernel
theorem dX8_force_18 : decode cX8_force 18 = .ok (.ireturn, 1) := by decide +kernel
theorem dX8_force_19 : decode cX8_force 19 = .ok (.aload_n 0, 1) := by decide +kernel
theorem dX8_force_20 : decode cX8_force 20 = .ok (.getfield 263, 3) := by decide +kernel
theorem dX8_force_23 : decode cX8_force 23 = .ok (.istore_n 2, 1) := by decide +kernel
theorem dX8_force_24 : decode cX8_force 24 = .ok (.aload_n 0, 1) := by decide +kernel
theorem dX8_force_25 : decode cX8_force 25 = .ok (.iload_n 1, 1) := by decide +kernel
theorem dX8_force_26 : decode cX8_force 26 = .ok (.putfield 263, 3) := by decide +kernel
theorem dX8_force_29 : decode cX8_force 29 = .ok (.iload_n 2, 1) := by decide +kernel
theorem dX8_force_30 : decode cX8_force 30 = .ok (.ireturn, 1) := by decide +kernel
theorem dX8_says_0 : decode cX8_says 0 = .ok (.aload_n 0, 1) := by decide +kernel
theorem dX8_says_1 : decode cX8_says 1 = .ok (.aload_n 0, 1) := by decide +kernel
theorem dX8_says_2 : decode cX8_says 2 = .ok (.getfield 23, 3) := by decide +kernel
theorem dX8_says_5 : decode cX8_says 5 = .ok (.iconst 4, 1) := by decide +kernel
theorem dX8_says_6 : decode cX8_says 6 = .ok (.iload_n 2, 1) := by decide +kernel
theorem dX8_says_7 : decode cX8_says 7 = .ok (.imul, 1) := by decide +kernel
theorem dX8_says_8 : decode cX8_says 8 = .ok (.iload_n 3, 1) := by decide +kernel
theorem dX8_says_9 : decode cX8_says 9 = .ok (.iadd, 1) := by decide +kernel
theorem dX8_says_10 : decode cX8_says 10 = .ok (.iaload, 1) := by decide +kernel
theorem dX8_says_11 : decode cX8_says 11 = .ok (.putfield 204, 3) := by decide +kernel
theorem dX8_says_14 : decode cX8_says 14 = .ok (.aload_n 0, 1) := by decide +kernel
theorem dX8_says_15 : decode cX8_says 15 = .ok (.aload_n 0, 1) := by decide +kernel
theorem dX8_says_16 : decode cX8_says 16 = .ok (.getfield 26, 3) := by decide +kernel
theorem dX8_says_19 : decode cX8_says 19 = .ok (.iconst 4, 1) := by decide +kernel
theorem dX8_says_20 : decode cX8_says 20 = .ok (.iload_n 2, 1) := by decide +kernel
theorem dX8_says_21 : decode cX8_says 21 = .ok (.imul, 1) := by decide +kernel
theorem dX8_says_22 : decode cX8_says 22 = .ok (.iload_n 3, 1) := by decide +kernel
theorem dX8_says_23 : decode cX8_says 23 = .ok (.iadd, 1) := by decide +kernel
theorem dX8_says_24 : decode cX8_says 24 = .ok (.iaload, 1) := by decide +kernel
theorem dX8_says_25 : decode cX8_says 25 = .ok (.putfield 207, 3) := by decide +kernel
theorem dX8_says_28 : decode cX8_says 28 = .ok (.aload_n 0, 1) := by decide +kernel
theorem dX8_says_29 : decode cX8_says 29 = .ok (.iload 4, 2) := by decide +kernel
theorem dX8_says_31 : decode cX8_says 31 = .ok (.putfield 210, 3) := by decide +kernel
theorem dX8_says_34 : decode cX8_says 34 = .ok (.aload_n 0, 1) := by decide +kernel
theorem dX8_says_35 : decode cX8_says 35 = .ok (.aload_n 0, 1) := by decide +kernel
theorem dX8_says_36 : decode cX8_says 36 = .ok (.getfield 131, 3) := by decide +kernel
theorem dX8_says_39 : decode cX8_says 39 = .ok (.putfield 213, 3) := by decide +kernel
theorem dX8_says_42 : decode cX8_says 42 = .ok (.aload_n 0, 1) := by decide +kernel
theorem dX8_says_43 : decode cX8_says 43 = .ok (.iload_n 2, 1) := by decide +kernel
theorem dX8_says_44 : decode cX8_says 44 = .ok (.putfield 216, 3) := by decide +kernel
theorem dX8_says_47 : decode cX8_says 47 = .ok (.aload_n 0, 1) := by decide +kernel
theorem dX8_says_48 : decode cX8_says 48 = .ok (.iload_n 3, 1) := by decide +kernel
theorem dX8_says_49 : decode cX8_says 49 = .ok (.putfield 219, 3) := by decide +kernel
theorem dX8_says_52 : decode cX8_says 52 = .ok (.aload_n 0, 1) := by decide +kernel
theorem dX8_says_53 : decode cX8_says 53 = .ok (.aload_n 0, 1) := by decide +kernel
theorem dX8_says_54 : decode cX8_says 54 = .ok (.getfield 263, 3) := by decide +kernel
theorem dX8_says_57 : decode cX8_says 57 = .ok (.iload_n 1, 1) := by decide +kernel
theorem dX8_says_58 : decode cX8_says 58 = .ok (.invokevirtual 259, 3) := by decide +kernel
theorem dX8_says_61 : decode cX8_says 61 = .ok (.ireturn, 1) := by decide +kernel
theorem dX8_saysNo_0 : decode cX8_saysNo 0 = .ok (.aload_n 0, 1) := by decide +kernel
theorem dX8_saysNo_1 : decode cX8_saysNo 1 = .ok (.iload_n 2, 1) := by decide +kernel
theorem dX8_saysNo_2 : decode cX8_saysNo 2 = .ok (.aload_n 0, 1) := by decide +kernel
theorem dX8_saysNo_3 : decode cX8_saysNo 3 = .ok (.getfield 26, 3) := by decide +kernel
theorem dX8_saysNo_6 : decode cX8_saysNo 6 = .ok (.iconst 4, 1) := by decide +kernel
theorem dX8_saysNo_7 : decode cX8_saysNo 7 = .ok (.iload_n 1, 1) := by decide +kernel
theorem dX8_saysNo_8 : decode cX8_saysNo 8 = .ok (.imul, 1) := by decide +kernel
theorem dX8_saysNo_9 : decode cX8_saysNo 9 = .ok (.iload_n 2, 1) := by decide +kernel
theorem dX8_saysNo_10 : decode cX8_saysNo 10 = .ok (.iadd, 1) := by decide +kernel
theorem dX8_saysNo_11 : decode cX8_saysNo 11 = .ok (.iaload, 1) := by decide +kernel
theorem dX8_saysNo_12 : decode cX8_saysNo 12 = .ok (.iload_n 3, 1) := by decide +kernel
theorem dX8_saysNo_13 : decode cX8_saysNo 13 = .ok (.invokevirtual 266, 3) := by decide +kernel
theorem dX8_saysNo_16 : decode cX8_saysNo 16 = .ok (.ifCond .ne 14, 3) := by decide +kernel
theorem dX8_saysNo_19 : decode cX8_saysNo 19 = .ok (.aload_n 0, 1) := by decide +kernel
theorem dX8_saysNo_20 : decode cX8_saysNo 20 = .ok (.iconst 0, 1) := by decide +kernel
theorem dX8_saysNo_21 : decode cX8_saysNo 21 = .ok (.iload_n 1, 1) := by decide +kernel
theorem dX8_saysNo_22 : decode cX8_saysNo 22 = .ok (.iload_n 2, 1) := by decide +kernel
theorem dX8_saysNo_23 : decode cX8_saysNo 23 = .ok (.iload_n 3, 1) := by decide +kernel
theorem dX8_saysNo_24 : decode cX8_saysNo 24 = .ok (.invokevirtual 270, 3) := by decide +kernel
theorem dX8_saysNo_27 : decode cX8_saysNo 27 = .ok (.ifCond .ne 7, 3) := by decide +kernel
theorem dX8_saysNo_30 : decode cX8_saysNo 30 = .ok (.iconst 1, 1) := by decide +kernel
theorem dX8_saysNo_31 : decode cX8_saysNo 31 = .ok (.goto 4, 3) := by decide +kernel
theorem dX8_saysNo_34 : decode cX8_saysNo 34 = .ok (.iconst 0, 1) := by decide +kernel
theorem dX8_saysNo_35 : decode cX8_saysNo 35 = .ok (.ireturn, 1) := by decide +kernel
theorem dX8_mayAsk_0 : decode cX8_mayAsk 0 = .ok (.aload_n 0, 1) := by decide +kernel
theorem dX8_mayAsk_1 : decode cX8_mayAsk 1 = .ok (.getfield 32, 3) := by decide +kernel
theorem dX8_mayAsk_4 : decode cX8_mayAsk 4 = .ok (.iload_n 1, 1) := by decide +kernel
theorem dX8_mayAsk_5 : decode cX8_mayAsk 5 = .ok (.iaload, 1) := by decide +kernel
theorem dX8_mayAsk_6 : decode cX8_mayAsk 6 = .ok (.iconst (-1), 1) := by decide +kernel
theorem dX8_mayAsk_7 : decode cX8_mayAsk 7 = .ok (.if_icmp .ne 31, 3) := by decide +kernel
theorem dX8_mayAsk_10 : decode cX8_mayAsk 10 = .ok (.aload_n 0, 1) := by decide +kernel
theorem dX8_mayAsk_11 : decode cX8_mayAsk 11 = .ok (.getfield 35, 3) := by decide +kernel
theorem dX8_mayAsk_14 : decode cX8_mayAsk 14 = .ok (.iload_n 2, 1) := by decide +kernel
theorem dX8_mayAsk_15 : decode cX8_mayAsk 15 = .ok (.iaload, 1) := by decide +kernel
theorem dX8_mayAsk_16 : decode cX8_mayAsk 16 = .ok (.iconst (-1), 1) := by decide +kernel
theorem dX8_mayAsk_17 : decode cX8_mayAsk 17 = .ok (.if_icmp .ne 21, 3) := by decide +kernel
theorem dX8_mayAsk_20 : decode cX8_mayAsk 20 = .ok (.aload_n 0, 1) := by decide +kernel
theorem dX8_mayAsk_21 : decode cX8_mayAsk 21 = .ok (.getfield 29, 3) := by decide +kernel
theorem dX8_mayAsk_24 : decode cX8_mayAsk 24 = .ok (.iload_n 1, 1) := by decide +kernel
theorem dX8_mayAsk_25 : decode cX8_mayAsk 25 = .ok (.iaload, 1) := by decide +kernel
theorem dX8_mayAsk_26 : decode cX8_mayAsk 26 = .ok (.aload_n 0, 1) := by decide +kernel
theorem dX8_mayAsk_27 : decode cX8_mayAsk 27 = .ok (.iload_n 2, 1) := by decide +kernel
theorem dX8_mayAsk_28 : decode cX8_mayAsk 28 = .ok (.invokevirtual 136, 3) := by decide +kernel
theorem dX8_mayAsk_31 : decode cX8_mayAsk 31 = .ok (.if_icmp .lt 7, 3) := by decide +kernel
theorem dX8_mayAsk_34 : decode cX8_mayAsk 34 = .ok (.iconst 1, 1) := by decide +kernel
theorem dX8_mayAsk_35 : decode cX8_mayAsk 35 = .ok (.goto 4, 3) := by decide +kernel
theorem dX8_mayAsk_38 : decode cX8_mayAsk 38 = .ok (.iconst 0, 1) := by decide +kernel
theorem dX8_mayAsk_39 : decode cX8_mayAsk 39 = .ok (.ireturn, 1) := by decide +kernel
theorem dX8_worth_0 : decode cX8_worth 0 = .ok (.aload_n 0, 1) := by decide +kernel
theorem dX8_worth_1 : decode cX8_worth 1 = .ok (.iconst 1, 1) := by decide +kernel
theorem dX8_worth_2 : decode cX8_worth 2 = .ok (.iload_n 1, 1) := by decide +kernel
theorem dX8_worth_3 : decode cX8_worth 3 = .ok (.iload_n 2, 1) := by decide +kernel
theorem dX8_worth_4 : decode cX8_worth 4 = .ok (.aload_n 0, 1) := by decide +kernel
theorem dX8_worth_5 : decode cX8_worth 5 = .ok (.getfield 29, 3) := by decide +kernel
theorem dX8_worth_8 : decode cX8_worth 8 = .ok (.iload_n 1, 1) := by decide +kernel
theorem dX8_worth_9 : decode cX8_worth 9 = .ok (.iaload, 1) := by decide +kernel
theorem dX8_worth_10 : decode cX8_worth 10 = .ok (.invokevirtual 270, 3) := by decide +kernel
theorem dX8_worth_13 : decode cX8_worth 13 = .ok (.iconst 0, 1) := by decide +kernel
theorem dX8_worth_14 : decode cX8_worth 14 = .ok (.bipush 99, 2) := by decide +kernel
theorem dX8_worth_16 : decode cX8_worth 16 = .ok (.invokestatic 274, 3) := by decide +kernel
theorem dX8_worth_19 : decode cX8_worth 19 = .ok (.ireturn, 1) := by decide +kernel
theorem dX8_wants_0 : decode cX8_wants 0 = .ok (.aload_n 0, 1) := by decide +kernel
theorem dX8_wants_1 : decode cX8_wants 1 = .ok (.iconst 2, 1) := by decide +kernel
theorem dX8_wants_2 : decode cX8_wants 2 = .ok (.iload_n 1, 1) := by decide +kernel
theorem dX8_wants_3 : decode cX8_wants 3 = .ok (.iload_n 2, 1) := by decide +kernel
theorem dX8_wants_4 : decode cX8_wants 4 = .ok (.aload_n 0, 1) := by decide +kernel
theorem dX8_wants_5 : decode cX8_wants 5 = .ok (.getfield 29, 3) := by decide +kernel
theorem dX8_wants_8 : decode cX8_wants 8 = .ok (.iload_n 1, 1) := by decide +kernel
theorem dX8_wants_9 : decode cX8_wants 9 = .ok (.iaload, 1) := by decide +kernel
theorem dX8_wants_10 : decode cX8_wants 10 = .ok (.invokevirtual 270, 3) := by decide +kernel
theorem dX8_wants_13 : decode cX8_wants 13 = .ok (.ifCond .eq 7, 3) := by decide +kernel
theorem dX8_wants_16 : decode cX8_wants 16 = .ok (.iconst 1, 1) := by decide +kernel
theorem dX8_wants_17 : decode cX8_wants 17 = .ok (.goto 4, 3) := by decide +kernel
theorem dX8_wants_20 : decode cX8_wants 20 = .ok (.iconst 0, 1) := by decide +kernel
theorem dX8_wants_21 : decode cX8_wants 21 = .ok (.ireturn, 1) := by decide +kernel
theorem dX8_told_0 : decode cX8_told 0 = .ok (.aload_n 0, 1) := by decide +kernel
theorem dX8_told_1 : decode cX8_told 1 = .ok (.iload_n 1, 1) := by decide +kernel
theorem dX8_told_2 : decode cX8_told 2 = .ok (.invokevirtual 120, 3) := by decide +kernel
theorem dX8_told_5 : decode cX8_told 5 = .ok (.ifCond .eq 23, 3) := by decide +kernel
theorem dX8_told_8 : decode cX8_told 8 = .ok (.aload_n 0, 1) := by decide +kernel
theorem dX8_told_9 : decode cX8_told 9 = .ok (.iload_n 2, 1) := by decide +kernel
theorem dX8_told_10 : decode cX8_told 10 = .ok (.invokevirtual 124, 3) := by decide +kernel
theorem dX8_told_13 : decode cX8_told 13 = .ok (.ifCond .eq 15, 3) := by decide +kernel
theorem dX8_told_16 : decode cX8_told 16 = .ok (.iload_n 3, 1) := by decide +kernel
theorem dX8_told_17 : decode cX8_told 17 = .ok (.i2l, 1) := by decide +kernel
theorem dX8_told_18 : decode cX8_told 18 = .ok (.lconst 0, 1) := by decide +kernel
theorem dX8_told_19 : decode cX8_told 19 = .ok (.ldc2_w 118, 3) := by decide +kernel
theorem dX8_told_22 : decode cX8_told 22 = .ok (.invokestatic 109, 3) := by decide +kernel
theorem dX8_told_25 : decode cX8_told 25 = .ok (.ifCond .ne 6, 3) := by decide +kernel
theorem dX8_told_28 : decode cX8_told 28 = .ok (.bipush (-2), 2) := by decide +kernel
theorem dX8_told_30 : decode cX8_told 30 = .ok (.ireturn, 1) := by decide +kernel
theorem dX8_told_31 : decode cX8_told 31 = .ok (.iload_n 3, 1) := by decide +kernel
theorem dX8_told_32 : decode cX8_told 32 = .ok (.iconst 2, 1) := by decide +kernel
theorem dX8_told_33 : decode cX8_told 33 = .ok (.if_icmp .ge 31, 3) := by decide +kernel
theorem dX8_told_36 : decode cX8_told 36 = .ok (.iload_n 3, 1) := by decide +kernel
theorem dX8_told_37 : decode cX8_told 37 = .ok (.ifCond .ne 16, 3) := by decide +kernel
theorem dX8_told_40 : decode cX8_told 40 = .ok (.aload_n 0, 1) := by decide +kernel
theorem dX8_told_41 : decode cX8_told 41 = .ok (.getfield 23, 3) := by decide +kernel
theorem dX8_told_44 : decode cX8_told 44 = .ok (.iconst 4, 1) := by decide +kernel
theorem dX8_told_45 : decode cX8_told 45 = .ok (.iload_n 1, 1) := by decide +kernel
theorem dX8_told_46 : decode cX8_told 46 = .ok (.imul, 1) := by decide +kernel
theorem dX8_told_47 : decode cX8_told 47 = .ok (.iload_n 2, 1) := by decide +kernel
theorem dX8_told_48 : decode cX8_told 48 = .ok (.iadd, 1) := by decide +kernel
theorem dX8_told_49 : decode cX8_told 49 = .ok (.iaload, 1) := by decide +kernel
theorem dX8_told_50 : decode cX8_told 50 = .ok (.goto 13, 3) := by decide +kernel
theorem dX8_told_53 : decode cX8_told 53 = .ok (.aload_n 0, 1) := by decide +kernel
theorem dX8_told_54 : decode cX8_told 54 = .ok (.getfield 26, 3) := by decide +kernel
theorem dX8_told_57 : decode cX8_told 57 = .ok (.iconst 4, 1) := by decide +kernel
theorem dX8_told_58 : decode cX8_told 58 = .ok (.iload_n 1, 1) := by decide +kernel
theorem dX8_told_59 : decode cX8_told 59 = .ok (.imul, 1) := by decide +kernel
theorem dX8_told_60 : decode cX8_told 60 = .ok (.iload_n 2, 1) := by decide +kernel
theorem dX8_told_61 : decode cX8_told 61 = .ok (.iadd, 1) := by decide +kernel
theorem dX8_told_62 : decode cX8_told 62 = .ok (.iaload, 1) := by decide +kernel
theorem dX8_told_63 : decode cX8_told 63 = .ok (.ireturn, 1) := by decide +kernel
theorem dX8_told_64 : decode cX8_told 64 = .ok (.iload_n 3, 1) := by decide +kernel
theorem dX8_told_65 : decode cX8_told 65 = .ok (.iconst 4, 1) := by decide +kernel
theorem dX8_told_66 : decode cX8_told 66 = .ok (.if_icmp .ne 10, 3) := by decide +kernel
theorem dX8_told_69 : decode cX8_told 69 = .ok (.aload_n 0, 1) := by decide +kernel
theorem dX8_told_70 : decode cX8_told 70 = .ok (.iload_n 1, 1) := by decide +kernel
theorem dX8_told_71 : decode cX8_told 71 = .ok (.iload_n 2, 1) := by decide +kernel
theorem dX8_told_72 : decode cX8_told 72 = .ok (.invokevirtual 278, 3) := by decide +kernel
theorem dX8_told_75 : decode cX8_told 75 = .ok (.ireturn, 1) := by decide +kernel
theorem dX8_told_76 : decode cX8_told 76 = .ok (.iload_n 3, 1) := by decide +kernel
theorem dX8_told_77 : decode cX8_told 77 = .ok (.iconst 2, 1) := by decide +kernel
theorem dX8_told_78 : decode cX8_told 78 = .ok (.if_icmp .ne 12, 3) := by decide +kernel
theorem dX8_told_81 : decode cX8_told 81 = .ok (.aload_n 0, 1) := by decide +kernel
theorem dX8_told_82 : decode cX8_told 82 = .ok (.iload_n 1, 1) := by decide +kernel
theorem dX8_told_83 : decode cX8_told 83 = .ok (.iload_n 2, 1) := by decide +kernel
theorem dX8_told_84 : decode cX8_told 84 = .ok (.invokevirtual 281, 3) := by decide +kernel
theorem dX8_told_87 : decode cX8_told 87 = .ok (.goto 29, 3) := by decide +kernel
theorem dX8_told_90 : decode cX8_told 90 = .ok (.iload_n 3, 1) := by decide +kernel
theorem dX8_told_91 : decode cX8_told 91 = .ok (.iconst 3, 1) := by decide +kernel
theorem dX8_told_92 : decode cX8_told 92 = .ok (.if_icmp .ne 18, 3) := by decide +kernel
theorem dX8_told_95 : decode cX8_told 95 = .ok (.aload_n 0, 1) := by decide +kernel
theorem dX8_told_96 : decode cX8_told 96 = .ok (.iload_n 1, 1) := by decide +kernel
theorem dX8_told_97 : decode cX8_told 97 = .ok (.iload_n 2, 1) := by decide +kernel
theorem dX8_told_98 : decode cX8_told 98 = .ok (.aload_n 0, 1) := by decide +kernel
theorem dX8_told_99 : decode cX8_told 99 = .ok (.getfield 29, 3) := by decide +kernel
theorem dX8_told_102 : decode cX8_told 102 = .ok (.iload_n 1, 1) := by decide +kernel
theorem dX8_told_103 : decode cX8_told 103 = .ok (.iaload, 1) := by decide +kernel
theorem dX8_told_104 : decode cX8_told 104 = .ok (.invokevirtual 284, 3) := by decide +kernel
theorem dX8_told_107 : decode cX8_told 107 = .ok (.goto 9, 3) := by decide +kernel
theorem dX8_told_110 : decode cX8_told 110 = .ok (.aload_n 0, 1) := by decide +kernel
theorem dX8_told_111 : decode cX8_told 111 = .ok (.iload_n 1, 1) := by decide +kernel
theorem dX8_told_112 : decode cX8_told 112 = .ok (.iload_n 2, 1) := by decide +kernel
theorem dX8_told_113 : decode cX8_told 113 = .ok (.invokevirtual 287, 3) := by decide +kernel
theorem dX8_told_116 : decode cX8_told 116 = .ok (.istore 4, 2) := by decide +kernel
theorem dX8_told_118 : decode cX8_told 118 = .ok (.iload 4, 2) := by decide +kernel
theorem dX8_told_120 : decode cX8_told 120 = .ok (.ifCond .eq 7, 3) := by decide +kernel
theorem dX8_told_123 : decode cX8_told 123 = .ok (.iconst 1, 1) := by decide +kernel
theorem dX8_told_124 : decode cX8_told 124 = .ok (.goto 4, 3) := by decide +kernel
theorem dX8_told_127 : decode cX8_told 127 = .ok (.iconst 0, 1) := by decide +kernel
theorem dX8_told_128 : decode cX8_told 128 = .ok (.ireturn, 1) := by decide +kernel
theorem dX8_answers_0 : decode cX8_answers 0 = .ok (.aload_n 0, 1) := by decide +kernel
theorem dX8_answers_1 : decode cX8_answers 1 = .ok (.aload_n 0, 1) := by decide +kernel
theorem dX8_answers_2 : decode cX8_answers 2 = .ok (.getfield 131, 3) := by decide +kernel
theorem dX8_answers_5 : decode cX8_answers 5 = .ok (.bipush 99, 2) := by decide +kernel
theorem dX8_answers_7 : decode cX8_answers 7 = .ok (.if_icmp .ge 12, 3) := by decide +kernel
theorem dX8_answers_10 : decode cX8_answers 10 = .ok (.aload_n 0, 1) := by decide +kernel
theorem dX8_answers_11 : decode cX8_answers 11 = .ok (.getfield 131, 3) := by decide +kernel
theorem dX8_answers_14 : decode cX8_answers 14 = .ok (.iconst 1, 1) := by decide +kernel
theorem dX8_answers_15 : decode cX8_answers 15 = .ok (.iadd, 1) := by decide +kernel
theorem dX8_answers_16 : decode cX8_answers 16 = .ok (.goto 5, 3) := by decide +kernel
theorem dX8_answers_19 : decode cX8_answers 19 = .ok (.bipush 99, 2) := by decide +kernel
theorem dX8_answers_21 : decode cX8_answers 21 = .ok (.putfield 131, 3) := by decide +kernel
theorem dX8_answers_24 : decode cX8_answers 24 = .ok (.iload_n 3, 1) := by decide +kernel
theorem dX8_answers_25 : decode cX8_answers 25 = .ok (.ifCond .eq 36, 3) := by decide +kernel
theorem dX8_answers_28 : decode cX8_answers 28 = .ok (.aload_n 0, 1) := by decide +kernel
theorem dX8_answers_29 : decode cX8_answers 29 = .ok (.getfield 29, 3) := by decide +kernel
theorem dX8_answers_32 : decode cX8_answers 32 = .ok (.iload_n 1, 1) := by decide +kernel
theorem dX8_answers_33 : decode cX8_answers 33 = .ok (.aload_n 0, 1) := by decide +kernel
theorem dX8_answers_34 : decode cX8_answers 34 = .ok (.getfield 29, 3) := by decide +kernel
theorem dX8_answers_37 : decode cX8_answers 37 = .ok (.iload_n 1, 1) := by decide +kernel
theorem dX8_answers_38 : decode cX8_answers 38 = .ok (.iaload, 1) := by decide +kernel
theorem dX8_answers_39 : decode cX8_answers 39 = .ok (.bipush 9, 2) := by decide +kernel
theorem dX8_answers_41 : decode cX8_answers 41 = .ok (.if_icmp .ge 14, 3) := by decide +kernel
theorem dX8_answers_44 : decode cX8_answers 44 = .ok (.aload_n 0, 1) := by decide +kernel
theorem dX8_answers_45 : decode cX8_answers 45 = .ok (.getfield 29, 3) := by decide +kernel
theorem dX8_answers_48 : decode cX8_answers 48 = .ok (.iload_n 1, 1) := by decide +kernel
theorem dX8_answers_49 : decode cX8_answers 49 = .ok (.iaload, 1) := by decide +kernel
theorem dX8_answers_50 : decode cX8_answers 50 = .ok (.iconst 1, 1) := by decide +kernel
theorem dX8_answers_51 : decode cX8_answers 51 = .ok (.iadd, 1) := by decide +kernel
theorem dX8_answers_52 : decode cX8_answers 52 = .ok (.goto 5, 3) := by decide +kernel
theorem dX8_answers_55 : decode cX8_answers 55 = .ok (.bipush 9, 2) := by decide +kernel
theorem dX8_answers_57 : decode cX8_answers 57 = .ok (.iastore, 1) := by decide +kernel
theorem dX8_answers_58 : decode cX8_answers 58 = .ok (.goto 17, 3) := by decide +kernel
theorem dX8_answers_61 : decode cX8_answers 61 = .ok (.aload_n 0, 1) := by decide +kernel
theorem dX8_answers_62 : decode cX8_answers 62 = .ok (.getfield 32, 3) := by decide +kernel
theorem dX8_answers_65 : decode cX8_answers 65 = .ok (.iload_n 1, 1) := by decide +kernel
theorem dX8_answers_66 : decode cX8_answers 66 = .ok (.iload_n 2, 1) := by decide +kernel
theorem dX8_answers_67 : decode cX8_answers 67 = .ok (.iastore, 1) := by decide +kernel
theorem dX8_answers_68 : decode cX8_answers 68 = .ok (.aload_n 0, 1) := by decide +kernel
theorem dX8_answers_69 : decode cX8_answers 69 = .ok (.getfield 35, 3) := by decide +kernel
theorem dX8_answers_72 : decode cX8_answers 72 = .ok (.iload_n 2, 1) := by decide +kernel
theorem dX8_answers_73 : decode cX8_answers 73 = .ok (.iload_n 1, 1) := by decide +kernel
theorem dX8_answers_74 : decode cX8_answers 74 = .ok (.iastore, 1) := by decide +kernel
theorem dX8_answers_75 : decode cX8_answers 75 = .ok (.return_, 1) := by decide +kernel
theorem dX8_ask_0 : decode cX8_ask 0 = .ok (.aload_n 0, 1) := by decide +kernel
theorem dX8_ask_1 : decode cX8_ask 1 = .ok (.iload_n 1, 1) := by decide +kernel
theorem dX8_ask_2 : decode cX8_ask 2 = .ok (.invokevirtual 120, 3) := by decide +kernel
theorem dX8_ask_5 : decode cX8_ask 5 = .ok (.ifCond .eq 11, 3) := by decide +kernel
theorem dX8_ask_8 : decode cX8_ask 8 = .ok (.aload_n 0, 1) := by decide +kernel
theorem dX8_ask_9 : decode cX8_ask 9 = .ok (.iload_n 2, 1) := by decide +kernel
theorem dX8_ask_10 : decode cX8_ask 10 = .ok (.invokevirtual 124, 3) := by decide +kernel
theorem dX8_ask_13 : decode cX8_ask 13 = .ok (.ifCond .ne 6, 3) := by decide +kernel
theorem dX8_ask_16 : decode cX8_ask 16 = .ok (.bipush (-2), 2) := by decide +kernel
theorem dX8_ask_18 : decode cX8_ask 18 = .ok (.ireturn, 1) := by decide +kernel
theorem dX8_ask_19 : decode cX8_ask 19 = .ok (.aload_n 0, 1) := by decide +kernel
theorem dX8_ask_20 : decode cX8_ask 20 = .ok (.iload_n 1, 1) := by decide +kernel
theorem dX8_ask_21 : decode cX8_ask 21 = .ok (.iload_n 2, 1) := by decide +kernel
theorem dX8_ask_22 : decode cX8_ask 22 = .ok (.invokevirtual 281, 3) := by decide +kernel
theorem dX8_ask_25 : decode cX8_ask 25 = .ok (.ifCond .ne 6, 3) := by decide +kernel
theorem dX8_ask_28 : decode cX8_ask 28 = .ok (.bipush (-3), 2) := by decide +kernel
theorem dX8_ask_30 : decode cX8_ask 30 = .ok (.ireturn, 1) := by decide +kernel
theorem dX8_ask_31 : decode cX8_ask 31 = .ok (.aload_n 0, 1) := by decide +kernel
theorem dX8_ask_32 : decode cX8_ask 32 = .ok (.iload_n 1, 1) := by decide +kernel
theorem dX8_ask_33 : decode cX8_ask 33 = .ok (.iload_n 2, 1) := by decide +kernel
end
section
theorem dX8_ask_34 : decode cX8_ask 34 = .ok (.aload_n 0, 1) := by decide +kernel
theorem dX8_ask_35 : decode cX8_ask 35 = .ok (.getfield 29, 3) := by decide +kernel
theorem dX8_ask_38 : decode cX8_ask 38 = .ok (.iload_n 1, 1) := by decide +kernel
theorem dX8_ask_39 : decode cX8_ask 39 = .ok (.iaload, 1) := by decide +kernel
theorem dX8_ask_40 : decode cX8_ask 40 = .ok (.invokevirtual 284, 3) := by decide +kernel
theorem dX8_ask_43 : decode cX8_ask 43 = .ok (.istore_n 3, 1) := by decide +kernel
theorem dX8_ask_44 : decode cX8_ask 44 = .ok (.aload_n 0, 1) := by decide +kernel
theorem dX8_ask_45 : decode cX8_ask 45 = .ok (.iload_n 1, 1) := by decide +kernel
theorem dX8_ask_46 : decode cX8_ask 46 = .ok (.iload_n 2, 1) := by decide +kernel
theorem dX8_ask_47 : decode cX8_ask 47 = .ok (.iload_n 3, 1) := by decide +kernel
theorem dX8_ask_48 : decode cX8_ask 48 = .ok (.invokevirtual 290, 3) := by decide +kernel
theorem dX8_ask_51 : decode cX8_ask 51 = .ok (.iload_n 3, 1) := by decide +kernel
theorem dX8_ask_52 : decode cX8_ask 52 = .ok (.ifCond .eq 7, 3) := by decide +kernel
theorem dX8_ask_55 : decode cX8_ask 55 = .ok (.iconst 0, 1) := by decide +kernel
theorem dX8_ask_56 : decode cX8_ask 56 = .ok (.goto 4, 3) := by decide +kernel
theorem dX8_ask_59 : decode cX8_ask 59 = .ok (.iconst 1, 1) := by decide +kernel
theorem dX8_ask_60 : decode cX8_ask 60 = .ok (.ireturn, 1) := by decide +kernel
theorem dX8_part__0 : decode cX8_part_ 0 = .ok (.aload_n 0, 1) := by decide +kernel
theorem dX8_part__1 : decode cX8_part_ 1 = .ok (.iload_n 1, 1) := by decide +kernel
theorem dX8_part__2 : decode cX8_part_ 2 = .ok (.invokevirtual 120, 3) := by decide +kernel
theorem dX8_part__5 : decode cX8_part_ 5 = .ok (.ifCond .ne 6, 3) := by decide +kernel
theorem dX8_part__8 : decode cX8_part_ 8 = .ok (.bipush (-2), 2) := by decide +kernel
theorem dX8_part__10 : decode cX8_part_ 10 = .ok (.ireturn, 1) := by decide +kernel
theorem dX8_part__11 : decode cX8_part_ 11 = .ok (.aload_n 0, 1) := by decide +kernel
theorem dX8_part__12 : decode cX8_part_ 12 = .ok (.getfield 32, 3) := by decide +kernel
theorem dX8_part__15 : decode cX8_part_ 15 = .ok (.iload_n 1, 1) := by decide +kernel
theorem dX8_part__16 : decode cX8_part_ 16 = .ok (.iaload, 1) := by decide +kernel
theorem dX8_part__17 : decode cX8_part_ 17 = .ok (.iconst (-1), 1) := by decide +kernel
theorem dX8_part__18 : decode cX8_part_ 18 = .ok (.if_icmp .ne 6, 3) := by decide +kernel
theorem dX8_part__21 : decode cX8_part_ 21 = .ok (.bipush (-3), 2) := by decide +kernel
theorem dX8_part__23 : decode cX8_part_ 23 = .ok (.ireturn, 1) := by decide +kernel
theorem dX8_part__24 : decode cX8_part_ 24 = .ok (.aload_n 0, 1) := by decide +kernel
theorem dX8_part__25 : decode cX8_part_ 25 = .ok (.getfield 32, 3) := by decide +kernel
theorem dX8_part__28 : decode cX8_part_ 28 = .ok (.iload_n 1, 1) := by decide +kernel
theorem dX8_part__29 : decode cX8_part_ 29 = .ok (.iaload, 1) := by decide +kernel
theorem dX8_part__30 : decode cX8_part_ 30 = .ok (.istore_n 2, 1) := by decide +kernel
theorem dX8_part__31 : decode cX8_part_ 31 = .ok (.aload_n 0, 1) := by decide +kernel
theorem dX8_part__32 : decode cX8_part_ 32 = .ok (.getfield 32, 3) := by decide +kernel
theorem dX8_part__35 : decode cX8_part_ 35 = .ok (.iload_n 1, 1) := by decide +kernel
theorem dX8_part__36 : decode cX8_part_ 36 = .ok (.iconst (-1), 1) := by decide +kernel
theorem dX8_part__37 : decode cX8_part_ 37 = .ok (.iastore, 1) := by decide +kernel
theorem dX8_part__38 : decode cX8_part_ 38 = .ok (.aload_n 0, 1) := by decide +kernel
theorem dX8_part__39 : decode cX8_part_ 39 = .ok (.getfield 35, 3) := by decide +kernel
theorem dX8_part__42 : decode cX8_part_ 42 = .ok (.iload_n 2, 1) := by decide +kernel
theorem dX8_part__43 : decode cX8_part_ 43 = .ok (.iconst (-1), 1) := by decide +kernel
theorem dX8_part__44 : decode cX8_part_ 44 = .ok (.iastore, 1) := by decide +kernel
theorem dX8_part__45 : decode cX8_part_ 45 = .ok (.iload_n 2, 1) := by decide +kernel
theorem dX8_part__46 : decode cX8_part_ 46 = .ok (.ireturn, 1) := by decide +kernel
theorem dX8_laysAside_0 : decode cX8_laysAside 0 = .ok (.iconst 0, 1) := by decide +kernel
theorem dX8_laysAside_1 : decode cX8_laysAside 1 = .ok (.istore_n 1, 1) := by decide +kernel
theorem dX8_laysAside_2 : decode cX8_laysAside 2 = .ok (.iload_n 1, 1) := by decide +kernel
theorem dX8_laysAside_3 : decode cX8_laysAside 3 = .ok (.iconst 4, 1) := by decide +kernel
theorem dX8_laysAside_4 : decode cX8_laysAside 4 = .ok (.if_icmp .ge 45, 3) := by decide +kernel
theorem dX8_laysAside_7 : decode cX8_laysAside 7 = .ok (.aload_n 0, 1) := by decide +kernel
theorem dX8_laysAside_8 : decode cX8_laysAside 8 = .ok (.getfield 44, 3) := by decide +kernel
theorem dX8_laysAside_11 : decode cX8_laysAside 11 = .ok (.iload_n 1, 1) := by decide +kernel
theorem dX8_laysAside_12 : decode cX8_laysAside 12 = .ok (.aload_n 0, 1) := by decide +kernel
theorem dX8_laysAside_13 : decode cX8_laysAside 13 = .ok (.getfield 29, 3) := by decide +kernel
theorem dX8_laysAside_16 : decode cX8_laysAside 16 = .ok (.iload_n 1, 1) := by decide +kernel
theorem dX8_laysAside_17 : decode cX8_laysAside 17 = .ok (.iaload, 1) := by decide +kernel
theorem dX8_laysAside_18 : decode cX8_laysAside 18 = .ok (.iastore, 1) := by decide +kernel
theorem dX8_laysAside_19 : decode cX8_laysAside 19 = .ok (.aload_n 0, 1) := by decide +kernel
theorem dX8_laysAside_20 : decode cX8_laysAside 20 = .ok (.getfield 47, 3) := by decide +kernel
theorem dX8_laysAside_23 : decode cX8_laysAside 23 = .ok (.iload_n 1, 1) := by decide +kernel
theorem dX8_laysAside_24 : decode cX8_laysAside 24 = .ok (.aload_n 0, 1) := by decide +kernel
theorem dX8_laysAside_25 : decode cX8_laysAside 25 = .ok (.getfield 32, 3) := by decide +kernel
theorem dX8_laysAside_28 : decode cX8_laysAside 28 = .ok (.iload_n 1, 1) := by decide +kernel
theorem dX8_laysAside_29 : decode cX8_laysAside 29 = .ok (.iaload, 1) := by decide +kernel
theorem dX8_laysAside_30 : decode cX8_laysAside 30 = .ok (.iastore, 1) := by decide +kernel
theorem dX8_laysAside_31 : decode cX8_laysAside 31 = .ok (.aload_n 0, 1) := by decide +kernel
theorem dX8_laysAside_32 : decode cX8_laysAside 32 = .ok (.getfield 50, 3) := by decide +kernel
theorem dX8_laysAside_35 : decode cX8_laysAside 35 = .ok (.iload_n 1, 1) := by decide +kernel
theorem dX8_laysAside_36 : decode cX8_laysAside 36 = .ok (.aload_n 0, 1) := by decide +kernel
theorem dX8_laysAside_37 : decode cX8_laysAside 37 = .ok (.getfield 35, 3) := by decide +kernel
theorem dX8_laysAside_40 : decode cX8_laysAside 40 = .ok (.iload_n 1, 1) := by decide +kernel
theorem dX8_laysAside_41 : decode cX8_laysAside 41 = .ok (.iaload, 1) := by decide +kernel
theorem dX8_laysAside_42 : decode cX8_laysAside 42 = .ok (.iastore, 1) := by decide +kernel
theorem dX8_laysAside_43 : decode cX8_laysAside 43 = .ok (.iinc 1 1, 3) := by decide +kernel
theorem dX8_laysAside_46 : decode cX8_laysAside 46 = .ok (.goto (-44), 3) := by decide +kernel
theorem dX8_laysAside_49 : decode cX8_laysAside 49 = .ok (.aload_n 0, 1) := by decide +kernel
theorem dX8_laysAside_50 : decode cX8_laysAside 50 = .ok (.aload_n 0, 1) := by decide +kernel
theorem dX8_laysAside_51 : decode cX8_laysAside 51 = .ok (.getfield 131, 3) := by decide +kernel
theorem dX8_laysAside_54 : decode cX8_laysAside 54 = .ok (.putfield 294, 3) := by decide +kernel
theorem dX8_laysAside_57 : decode cX8_laysAside 57 = .ok (.return_, 1) := by decide +kernel
theorem dX8_laysBack_0 : decode cX8_laysBack 0 = .ok (.iconst 0, 1) := by decide +kernel
theorem dX8_laysBack_1 : decode cX8_laysBack 1 = .ok (.istore_n 1, 1) := by decide +kernel
theorem dX8_laysBack_2 : decode cX8_laysBack 2 = .ok (.iload_n 1, 1) := by decide +kernel
theorem dX8_laysBack_3 : decode cX8_laysBack 3 = .ok (.iconst 4, 1) := by decide +kernel
theorem dX8_laysBack_4 : decode cX8_laysBack 4 = .ok (.if_icmp .ge 45, 3) := by decide +kernel
theorem dX8_laysBack_7 : decode cX8_laysBack 7 = .ok (.aload_n 0, 1) := by decide +kernel
theorem dX8_laysBack_8 : decode cX8_laysBack 8 = .ok (.getfield 29, 3) := by decide +kernel
theorem dX8_laysBack_11 : decode cX8_laysBack 11 = .ok (.iload_n 1, 1) := by decide +kernel
theorem dX8_laysBack_12 : decode cX8_laysBack 12 = .ok (.aload_n 0, 1) := by decide +kernel
theorem dX8_laysBack_13 : decode cX8_laysBack 13 = .ok (.getfield 44, 3) := by decide +kernel
theorem dX8_laysBack_16 : decode cX8_laysBack 16 = .ok (.iload_n 1, 1) := by decide +kernel
theorem dX8_laysBack_17 : decode cX8_laysBack 17 = .ok (.iaload, 1) := by decide +kernel
theorem dX8_laysBack_18 : decode cX8_laysBack 18 = .ok (.iastore, 1) := by decide +kernel
theorem dX8_laysBack_19 : decode cX8_laysBack 19 = .ok (.aload_n 0, 1) := by decide +kernel
theorem dX8_laysBack_20 : decode cX8_laysBack 20 = .ok (.getfield 32, 3) := by decide +kernel
theorem dX8_laysBack_23 : decode cX8_laysBack 23 = .ok (.iload_n 1, 1) := by decide +kernel
theorem dX8_laysBack_24 : decode cX8_laysBack 24 = .ok (.aload_n 0, 1) := by decide +kernel
theorem dX8_laysBack_25 : decode cX8_laysBack 25 = .ok (.getfield 47, 3) := by decide +kernel
theorem dX8_laysBack_28 : decode cX8_laysBack 28 = .ok (.iload_n 1, 1) := by decide +kernel
theorem dX8_laysBack_29 : decode cX8_laysBack 29 = .ok (.iaload, 1) := by decide +kernel
theorem dX8_laysBack_30 : decode cX8_laysBack 30 = .ok (.iastore, 1) := by decide +kernel
theorem dX8_laysBack_31 : decode cX8_laysBack 31 = .ok (.aload_n 0, 1) := by decide +kernel
theorem dX8_laysBack_32 : decode cX8_laysBack 32 = .ok (.getfield 35, 3) := by decide +kernel
theorem dX8_laysBack_35 : decode cX8_laysBack 35 = .ok (.iload_n 1, 1) := by decide +kernel
theorem dX8_laysBack_36 : decode cX8_laysBack 36 = .ok (.aload_n 0, 1) := by decide +kernel
theorem dX8_laysBack_37 : decode cX8_laysBack 37 = .ok (.getfield 50, 3) := by decide +kernel
theorem dX8_laysBack_40 : decode cX8_laysBack 40 = .ok (.iload_n 1, 1) := by decide +kernel
theorem dX8_laysBack_41 : decode cX8_laysBack 41 = .ok (.iaload, 1) := by decide +kernel
theorem dX8_laysBack_42 : decode cX8_laysBack 42 = .ok (.iastore, 1) := by decide +kernel
theorem dX8_laysBack_43 : decode cX8_laysBack 43 = .ok (.iinc 1 1, 3) := by decide +kernel
theorem dX8_laysBack_46 : decode cX8_laysBack 46 = .ok (.goto (-44), 3) := by decide +kernel
theorem dX8_laysBack_49 : decode cX8_laysBack 49 = .ok (.aload_n 0, 1) := by decide +kernel
theorem dX8_laysBack_50 : decode cX8_laysBack 50 = .ok (.aload_n 0, 1) := by decide +kernel
theorem dX8_laysBack_51 : decode cX8_laysBack 51 = .ok (.getfield 294, 3) := by decide +kernel
theorem dX8_laysBack_54 : decode cX8_laysBack 54 = .ok (.putfield 131, 3) := by decide +kernel
theorem dX8_laysBack_57 : decode cX8_laysBack 57 = .ok (.return_, 1) := by decide +kernel
theorem dX8_lets_0 : decode cX8_lets 0 = .ok (.aload_n 0, 1) := by decide +kernel
theorem dX8_lets_1 : decode cX8_lets 1 = .ok (.iload_n 1, 1) := by decide +kernel
theorem dX8_lets_2 : decode cX8_lets 2 = .ok (.iload_n 2, 1) := by decide +kernel
theorem dX8_lets_3 : decode cX8_lets 3 = .ok (.invokevirtual 281, 3) := by decide +kernel
theorem dX8_lets_6 : decode cX8_lets 6 = .ok (.ifCond .eq 78, 3) := by decide +kernel
theorem dX8_lets_9 : decode cX8_lets 9 = .ok (.aload_n 0, 1) := by decide +kernel
theorem dX8_lets_10 : decode cX8_lets 10 = .ok (.getfield 297, 3) := by decide +kernel
theorem dX8_lets_13 : decode cX8_lets 13 = .ok (.iconst (-1), 1) := by decide +kernel
theorem dX8_lets_14 : decode cX8_lets 14 = .ok (.if_icmp .eq 28, 3) := by decide +kernel
theorem dX8_lets_17 : decode cX8_lets 17 = .ok (.iload_n 3, 1) := by decide +kernel
theorem dX8_lets_18 : decode cX8_lets 18 = .ok (.ifCond .ne 15, 3) := by decide +kernel
theorem dX8_lets_21 : decode cX8_lets 21 = .ok (.iload 4, 2) := by decide +kernel
theorem dX8_lets_23 : decode cX8_lets 23 = .ok (.aload_n 0, 1) := by decide +kernel
theorem dX8_lets_24 : decode cX8_lets 24 = .ok (.getfield 297, 3) := by decide +kernel
theorem dX8_lets_27 : decode cX8_lets 27 = .ok (.if_icmp .ge 57, 3) := by decide +kernel
theorem dX8_lets_30 : decode cX8_lets 30 = .ok (.goto 12, 3) := by decide +kernel
theorem dX8_lets_33 : decode cX8_lets 33 = .ok (.iload 5, 2) := by decide +kernel
theorem dX8_lets_35 : decode cX8_lets 35 = .ok (.aload_n 0, 1) := by decide +kernel
theorem dX8_lets_36 : decode cX8_lets 36 = .ok (.getfield 300, 3) := by decide +kernel
theorem dX8_lets_39 : decode cX8_lets 39 = .ok (.if_icmp .ge 45, 3) := by decide +kernel
theorem dX8_lets_42 : decode cX8_lets 42 = .ok (.aload_n 0, 1) := by decide +kernel
theorem dX8_lets_43 : decode cX8_lets 43 = .ok (.iload 4, 2) := by decide +kernel
theorem dX8_lets_45 : decode cX8_lets 45 = .ok (.putfield 297, 3) := by decide +kernel
theorem dX8_lets_48 : decode cX8_lets 48 = .ok (.aload_n 0, 1) := by decide +kernel
theorem dX8_lets_49 : decode cX8_lets 49 = .ok (.iload 5, 2) := by decide +kernel
theorem dX8_lets_51 : decode cX8_lets 51 = .ok (.putfield 300, 3) := by decide +kernel
theorem dX8_lets_54 : decode cX8_lets 54 = .ok (.iconst 0, 1) := by decide +kernel
theorem dX8_lets_55 : decode cX8_lets 55 = .ok (.istore 7, 2) := by decide +kernel
theorem dX8_lets_57 : decode cX8_lets 57 = .ok (.iload 7, 2) := by decide +kernel
theorem dX8_lets_59 : decode cX8_lets 59 = .ok (.iload 4, 2) := by decide +kernel
theorem dX8_lets_61 : decode cX8_lets 61 = .ok (.if_icmp .ge 23, 3) := by decide +kernel
theorem dX8_lets_64 : decode cX8_lets 64 = .ok (.aload_n 0, 1) := by decide +kernel
theorem dX8_lets_65 : decode cX8_lets 65 = .ok (.getfield 56, 3) := by decide +kernel
theorem dX8_lets_68 : decode cX8_lets 68 = .ok (.iload 7, 2) := by decide +kernel
theorem dX8_lets_70 : decode cX8_lets 70 = .ok (.aload_n 0, 1) := by decide +kernel
theorem dX8_lets_71 : decode cX8_lets 71 = .ok (.getfield 53, 3) := by decide +kernel
theorem dX8_lets_74 : decode cX8_lets 74 = .ok (.iload 7, 2) := by decide +kernel
theorem dX8_lets_76 : decode cX8_lets 76 = .ok (.iaload, 1) := by decide +kernel
theorem dX8_lets_77 : decode cX8_lets 77 = .ok (.iastore, 1) := by decide +kernel
theorem dX8_lets_78 : decode cX8_lets 78 = .ok (.iinc 7 1, 3) := by decide +kernel
theorem dX8_lets_81 : decode cX8_lets 81 = .ok (.goto (-24), 3) := by decide +kernel
theorem dX8_lets_84 : decode cX8_lets 84 = .ok (.iconst 0, 1) := by decide +kernel
theorem dX8_lets_85 : decode cX8_lets 85 = .ok (.istore 7, 2) := by decide +kernel
theorem dX8_lets_87 : decode cX8_lets 87 = .ok (.iload 7, 2) := by decide +kernel
theorem dX8_lets_89 : decode cX8_lets 89 = .ok (.aload_n 0, 1) := by decide +kernel
theorem dX8_lets_90 : decode cX8_lets 90 = .ok (.getfield 113, 3) := by decide +kernel
theorem dX8_lets_93 : decode cX8_lets 93 = .ok (.if_icmp .ge 123, 3) := by decide +kernel
theorem dX8_lets_96 : decode cX8_lets 96 = .ok (.iload 7, 2) := by decide +kernel
theorem dX8_lets_98 : decode cX8_lets 98 = .ok (.iload_n 2, 1) := by decide +kernel
theorem dX8_lets_99 : decode cX8_lets 99 = .ok (.if_icmp .eq 111, 3) := by decide +kernel
theorem dX8_lets_102 : decode cX8_lets 102 = .ok (.iload 6, 2) := by decide +kernel
theorem dX8_lets_104 : decode cX8_lets 104 = .ok (.iload 7, 2) := by decide +kernel
theorem dX8_lets_106 : decode cX8_lets 106 = .ok (.ishr, 1) := by decide +kernel
theorem dX8_lets_107 : decode cX8_lets 107 = .ok (.iconst 1, 1) := by decide +kernel
theorem dX8_lets_108 : decode cX8_lets 108 = .ok (.iand, 1) := by decide +kernel
theorem dX8_lets_109 : decode cX8_lets 109 = .ok (.ifCond .ne 101, 3) := by decide +kernel
theorem dX8_lets_112 : decode cX8_lets 112 = .ok (.aload_n 0, 1) := by decide +kernel
theorem dX8_lets_113 : decode cX8_lets 113 = .ok (.iload_n 1, 1) := by decide +kernel
theorem dX8_lets_114 : decode cX8_lets 114 = .ok (.iload 7, 2) := by decide +kernel
theorem dX8_lets_116 : decode cX8_lets 116 = .ok (.invokevirtual 281, 3) := by decide +kernel
theorem dX8_lets_119 : decode cX8_lets 119 = .ok (.ifCond .eq 91, 3) := by decide +kernel
theorem dX8_lets_122 : decode cX8_lets 122 = .ok (.aload_n 0, 1) := by decide +kernel
theorem dX8_lets_123 : decode cX8_lets 123 = .ok (.iload_n 1, 1) := by decide +kernel
theorem dX8_lets_124 : decode cX8_lets 124 = .ok (.iload 7, 2) := by decide +kernel
theorem dX8_lets_126 : decode cX8_lets 126 = .ok (.aload_n 0, 1) := by decide +kernel
theorem dX8_lets_127 : decode cX8_lets 127 = .ok (.getfield 29, 3) := by decide +kernel
theorem dX8_lets_130 : decode cX8_lets 130 = .ok (.iload_n 1, 1) := by decide +kernel
theorem dX8_lets_131 : decode cX8_lets 131 = .ok (.iaload, 1) := by decide +kernel
theorem dX8_lets_132 : decode cX8_lets 132 = .ok (.invokevirtual 284, 3) := by decide +kernel
theorem dX8_lets_135 : decode cX8_lets 135 = .ok (.ifCond .eq 75, 3) := by decide +kernel
theorem dX8_lets_138 : decode cX8_lets 138 = .ok (.aload_n 0, 1) := by decide +kernel
theorem dX8_lets_139 : decode cX8_lets 139 = .ok (.getfield 29, 3) := by decide +kernel
theorem dX8_lets_142 : decode cX8_lets 142 = .ok (.iload_n 1, 1) := by decide +kernel
theorem dX8_lets_143 : decode cX8_lets 143 = .ok (.iaload, 1) := by decide +kernel
theorem dX8_lets_144 : decode cX8_lets 144 = .ok (.istore 8, 2) := by decide +kernel
theorem dX8_lets_146 : decode cX8_lets 146 = .ok (.aload_n 0, 1) := by decide +kernel
theorem dX8_lets_147 : decode cX8_lets 147 = .ok (.getfield 131, 3) := by decide +kernel
theorem dX8_lets_150 : decode cX8_lets 150 = .ok (.istore 9, 2) := by decide +kernel
theorem dX8_lets_152 : decode cX8_lets 152 = .ok (.aload_n 0, 1) := by decide +kernel
theorem dX8_lets_153 : decode cX8_lets 153 = .ok (.iload_n 1, 1) := by decide +kernel
theorem dX8_lets_154 : decode cX8_lets 154 = .ok (.iload 7, 2) := by decide +kernel
theorem dX8_lets_156 : decode cX8_lets 156 = .ok (.iconst 1, 1) := by decide +kernel
theorem dX8_lets_157 : decode cX8_lets 157 = .ok (.invokevirtual 290, 3) := by decide +kernel
theorem dX8_lets_160 : decode cX8_lets 160 = .ok (.aload_n 0, 1) := by decide +kernel
theorem dX8_lets_161 : decode cX8_lets 161 = .ok (.getfield 53, 3) := by decide +kernel
theorem dX8_lets_164 : decode cX8_lets 164 = .ok (.iload 4, 2) := by decide +kernel
theorem dX8_lets_166 : decode cX8_lets 166 = .ok (.iload 7, 2) := by decide +kernel
theorem dX8_lets_168 : decode cX8_lets 168 = .ok (.iastore, 1) := by decide +kernel
theorem dX8_lets_169 : decode cX8_lets 169 = .ok (.aload_n 0, 1) := by decide +kernel
theorem dX8_lets_170 : decode cX8_lets 170 = .ok (.iload_n 1, 1) := by decide +kernel
theorem dX8_lets_171 : decode cX8_lets 171 = .ok (.iload_n 2, 1) := by decide +kernel
theorem dX8_lets_172 : decode cX8_lets 172 = .ok (.iload_n 3, 1) := by decide +kernel
theorem dX8_lets_173 : decode cX8_lets 173 = .ok (.iload 4, 2) := by decide +kernel
theorem dX8_lets_175 : decode cX8_lets 175 = .ok (.iconst 1, 1) := by decide +kernel
theorem dX8_lets_176 : decode cX8_lets 176 = .ok (.iadd, 1) := by decide +kernel
theorem dX8_lets_177 : decode cX8_lets 177 = .ok (.iload 5, 2) := by decide +kernel
theorem dX8_lets_179 : decode cX8_lets 179 = .ok (.aload_n 0, 1) := by decide +kernel
theorem dX8_lets_180 : decode cX8_lets 180 = .ok (.iload 7, 2) := by decide +kernel
theorem dX8_lets_182 : decode cX8_lets 182 = .ok (.invokevirtual 140, 3) := by decide +kernel
theorem dX8_lets_185 : decode cX8_lets 185 = .ok (.iadd, 1) := by decide +kernel
theorem dX8_lets_186 : decode cX8_lets 186 = .ok (.iload 6, 2) := by decide +kernel
theorem dX8_lets_188 : decode cX8_lets 188 = .ok (.iconst 1, 1) := by decide +kernel
theorem dX8_lets_189 : decode cX8_lets 189 = .ok (.iload 7, 2) := by decide +kernel
theorem dX8_lets_191 : decode cX8_lets 191 = .ok (.ishl, 1) := by decide +kernel
theorem dX8_lets_192 : decode cX8_lets 192 = .ok (.ior, 1) := by decide +kernel
theorem dX8_lets_193 : decode cX8_lets 193 = .ok (.invokevirtual 303, 3) := by decide +kernel
theorem dX8_lets_196 : decode cX8_lets 196 = .ok (.aload_n 0, 1) := by decide +kernel
theorem dX8_lets_197 : decode cX8_lets 197 = .ok (.getfield 29, 3) := by decide +kernel
theorem dX8_lets_200 : decode cX8_lets 200 = .ok (.iload_n 1, 1) := by decide +kernel
theorem dX8_lets_201 : decode cX8_lets 201 = .ok (.iload 8, 2) := by decide +kernel
theorem dX8_lets_203 : decode cX8_lets 203 = .ok (.iastore, 1) := by decide +kernel
theorem dX8_lets_204 : decode cX8_lets 204 = .ok (.aload_n 0, 1) := by decide +kernel
theorem dX8_lets_205 : decode cX8_lets 205 = .ok (.iload 9, 2) := by decide +kernel
theorem dX8_lets_207 : decode cX8_lets 207 = .ok (.putfield 131, 3) := by decide +kernel
theorem dX8_lets_210 : decode cX8_lets 210 = .ok (.iinc 7 1, 3) := by decide +kernel
theorem dX8_lets_213 : decode cX8_lets 213 = .ok (.goto (-126), 3) := by decide +kernel
theorem dX8_lets_216 : decode cX8_lets 216 = .ok (.return_, 1) := by decide +kernel
theorem dX8_way_0 : decode cX8_way 0 = .ok (.aload_n 0, 1) := by decide +kernel
theorem dX8_way_1 : decode cX8_way 1 = .ok (.iload_n 1, 1) := by decide +kernel
theorem dX8_way_2 : decode cX8_way 2 = .ok (.invokevirtual 120, 3) := by decide +kernel
theorem dX8_way_5 : decode cX8_way 5 = .ok (.ifCond .eq 34, 3) := by decide +kernel
theorem dX8_way_8 : decode cX8_way 8 = .ok (.aload_n 0, 1) := by decide +kernel
theorem dX8_way_9 : decode cX8_way 9 = .ok (.iload_n 2, 1) := by decide +kernel
theorem dX8_way_10 : decode cX8_way 10 = .ok (.invokevirtual 124, 3) := by decide +kernel
theorem dX8_way_13 : decode cX8_way 13 = .ok (.ifCond .eq 26, 3) := by decide +kernel
theorem dX8_way_16 : decode cX8_way 16 = .ok (.iload_n 3, 1) := by decide +kernel
theorem dX8_way_17 : decode cX8_way 17 = .ok (.i2l, 1) := by decide +kernel
theorem dX8_way_18 : decode cX8_way 18 = .ok (.lconst 0, 1) := by decide +kernel
theorem dX8_way_19 : decode cX8_way 19 = .ok (.lconst 1, 1) := by decide +kernel
theorem dX8_way_20 : decode cX8_way 20 = .ok (.invokestatic 109, 3) := by decide +kernel
theorem dX8_way_23 : decode cX8_way 23 = .ok (.ifCond .eq 16, 3) := by decide +kernel
theorem dX8_way_26 : decode cX8_way 26 = .ok (.iload 4, 2) := by decide +kernel
theorem dX8_way_28 : decode cX8_way 28 = .ok (.i2l, 1) := by decide +kernel
theorem dX8_way_29 : decode cX8_way 29 = .ok (.lconst 0, 1) := by decide +kernel
theorem dX8_way_30 : decode cX8_way 30 = .ok (.ldc2_w 118, 3) := by decide +kernel
theorem dX8_way_33 : decode cX8_way 33 = .ok (.invokestatic 109, 3) := by decide +kernel
theorem dX8_way_36 : decode cX8_way 36 = .ok (.ifCond .ne 6, 3) := by decide +kernel
theorem dX8_way_39 : decode cX8_way 39 = .ok (.bipush (-2), 2) := by decide +kernel
theorem dX8_way_41 : decode cX8_way 41 = .ok (.ireturn, 1) := by decide +kernel
theorem dX8_way_42 : decode cX8_way 42 = .ok (.aload_n 0, 1) := by decide +kernel
theorem dX8_way_43 : decode cX8_way 43 = .ok (.iconst (-1), 1) := by decide +kernel
theorem dX8_way_44 : decode cX8_way 44 = .ok (.putfield 297, 3) := by decide +kernel
theorem dX8_way_47 : decode cX8_way 47 = .ok (.aload_n 0, 1) := by decide +kernel
theorem dX8_way_48 : decode cX8_way 48 = .ok (.getfield 32, 3) := by decide +kernel
theorem dX8_way_51 : decode cX8_way 51 = .ok (.iload_n 1, 1) := by decide +kernel
theorem dX8_way_52 : decode cX8_way 52 = .ok (.iaload, 1) := by decide +kernel
theorem dX8_way_53 : decode cX8_way 53 = .ok (.iconst (-1), 1) := by decide +kernel
theorem dX8_way_54 : decode cX8_way 54 = .ok (.if_icmp .ne 23, 3) := by decide +kernel
theorem dX8_way_57 : decode cX8_way 57 = .ok (.aload_n 0, 1) := by decide +kernel
theorem dX8_way_58 : decode cX8_way 58 = .ok (.getfield 35, 3) := by decide +kernel
theorem dX8_way_61 : decode cX8_way 61 = .ok (.iload_n 2, 1) := by decide +kernel
theorem dX8_way_62 : decode cX8_way 62 = .ok (.iaload, 1) := by decide +kernel
theorem dX8_way_63 : decode cX8_way 63 = .ok (.iconst (-1), 1) := by decide +kernel
theorem dX8_way_64 : decode cX8_way 64 = .ok (.if_icmp .ne 13, 3) := by decide +kernel
theorem dX8_way_67 : decode cX8_way 67 = .ok (.aload_n 0, 1) := by decide +kernel
theorem dX8_way_68 : decode cX8_way 68 = .ok (.iload_n 1, 1) := by decide +kernel
theorem dX8_way_69 : decode cX8_way 69 = .ok (.iload_n 2, 1) := by decide +kernel
theorem dX8_way_70 : decode cX8_way 70 = .ok (.iload_n 3, 1) := by decide +kernel
theorem dX8_way_71 : decode cX8_way 71 = .ok (.iconst 0, 1) := by decide +kernel
theorem dX8_way_72 : decode cX8_way 72 = .ok (.iconst 0, 1) := by decide +kernel
theorem dX8_way_73 : decode cX8_way 73 = .ok (.iconst 0, 1) := by decide +kernel
theorem dX8_way_74 : decode cX8_way 74 = .ok (.invokevirtual 303, 3) := by decide +kernel
theorem dX8_way_77 : decode cX8_way 77 = .ok (.aload_n 0, 1) := by decide +kernel
theorem dX8_way_78 : decode cX8_way 78 = .ok (.getfield 297, 3) := by decide +kernel
theorem dX8_way_81 : decode cX8_way 81 = .ok (.iconst (-1), 1) := by decide +kernel
theorem dX8_way_82 : decode cX8_way 82 = .ok (.if_icmp .eq 8, 3) := by decide +kernel
theorem dX8_way_85 : decode cX8_way 85 = .ok (.iload 4, 2) := by decide +kernel
theorem dX8_way_87 : decode cX8_way 87 = .ok (.ifCond .ne 8, 3) := by decide +kernel
theorem dX8_way_90 : decode cX8_way 90 = .ok (.aload_n 0, 1) := by decide +kernel
theorem dX8_way_91 : decode cX8_way 91 = .ok (.getfield 297, 3) := by decide +kernel
theorem dX8_way_94 : decode cX8_way 94 = .ok (.ireturn, 1) := by decide +kernel
theorem dX8_way_95 : decode cX8_way 95 = .ok (.iload 4, 2) := by decide +kernel
theorem dX8_way_97 : decode cX8_way 97 = .ok (.iconst 1, 1) := by decide +kernel
theorem dX8_way_98 : decode cX8_way 98 = .ok (.if_icmp .ne 8, 3) := by decide +kernel
theorem dX8_way_101 : decode cX8_way 101 = .ok (.aload_n 0, 1) := by decide +kernel
theorem dX8_way_102 : decode cX8_way 102 = .ok (.getfield 300, 3) := by decide +kernel
theorem dX8_way_105 : decode cX8_way 105 = .ok (.ireturn, 1) := by decide +kernel
theorem dX8_way_106 : decode cX8_way 106 = .ok (.iload 4, 2) := by decide +kernel
theorem dX8_way_108 : decode cX8_way 108 = .ok (.iconst 2, 1) := by decide +kernel
theorem dX8_way_109 : decode cX8_way 109 = .ok (.isub, 1) := by decide +kernel
theorem dX8_way_110 : decode cX8_way 110 = .ok (.aload_n 0, 1) := by decide +kernel
theorem dX8_way_111 : decode cX8_way 111 = .ok (.getfield 297, 3) := by decide +kernel
theorem dX8_way_114 : decode cX8_way 114 = .ok (.if_icmp .ge 15, 3) := by decide +kernel
theorem dX8_way_117 : decode cX8_way 117 = .ok (.aload_n 0, 1) := by decide +kernel
theorem dX8_way_118 : decode cX8_way 118 = .ok (.getfield 56, 3) := by decide +kernel
theorem dX8_way_121 : decode cX8_way 121 = .ok (.iload 4, 2) := by decide +kernel
theorem dX8_way_123 : decode cX8_way 123 = .ok (.iconst 2, 1) := by decide +kernel
theorem dX8_way_124 : decode cX8_way 124 = .ok (.isub, 1) := by decide +kernel
theorem dX8_way_125 : decode cX8_way 125 = .ok (.iaload, 1) := by decide +kernel
theorem dX8_way_126 : decode cX8_way 126 = .ok (.goto 4, 3) := by decide +kernel
theorem dX8_way_129 : decode cX8_way 129 = .ok (.iconst (-1), 1) := by decide +kernel
theorem dX8_way_130 : decode cX8_way 130 = .ok (.ireturn, 1) := by decide +kernel
theorem dX8_mistake_0 : decode cX8_mistake 0 = .ok (.aload_n 0, 1) := by decide +kernel
theorem dX8_mistake_1 : decode cX8_mistake 1 = .ok (.iload_n 1, 1) := by decide +kernel
theorem dX8_mistake_2 : decode cX8_mistake 2 = .ok (.invokevirtual 120, 3) := by decide +kernel
theorem dX8_mistake_5 : decode cX8_mistake 5 = .ok (.ifCond .ne 6, 3) := by decide +kernel
theorem dX8_mistake_8 : decode cX8_mistake 8 = .ok (.bipush (-2), 2) := by decide +kernel
theorem dX8_mistake_10 : decode cX8_mistake 10 = .ok (.ireturn, 1) := by decide +kernel
theorem dX8_mistake_11 : decode cX8_mistake 11 = .ok (.iconst (-1), 1) := by decide +kernel
theorem dX8_mistake_12 : decode cX8_mistake 12 = .ok (.istore_n 2, 1) := by decide +kernel
theorem dX8_mistake_13 : decode cX8_mistake 13 = .ok (.iconst 0, 1) := by decide +kernel
theorem dX8_mistake_14 : decode cX8_mistake 14 = .ok (.istore_n 3, 1) := by decide +kernel
theorem dX8_mistake_15 : decode cX8_mistake 15 = .ok (.iload_n 3, 1) := by decide +kernel
theorem dX8_mistake_16 : decode cX8_mistake 16 = .ok (.aload_n 0, 1) := by decide +kernel
theorem dX8_mistake_17 : decode cX8_mistake 17 = .ok (.getfield 113, 3) := by decide +kernel
theorem dX8_mistake_20 : decode cX8_mistake 20 = .ok (.if_icmp .ge 75, 3) := by decide +kernel
theorem dX8_mistake_23 : decode cX8_mistake 23 = .ok (.aload_n 0, 1) := by decide +kernel
theorem dX8_mistake_24 : decode cX8_mistake 24 = .ok (.iload_n 1, 1) := by decide +kernel
theorem dX8_mistake_25 : decode cX8_mistake 25 = .ok (.iload_n 3, 1) := by decide +kernel
theorem dX8_mistake_26 : decode cX8_mistake 26 = .ok (.invokevirtual 281, 3) := by decide +kernel
theorem dX8_mistake_29 : decode cX8_mistake 29 = .ok (.ifCond .eq 22, 3) := by decide +kernel
theorem dX8_mistake_32 : decode cX8_mistake 32 = .ok (.aload_n 0, 1) := by decide +kernel
theorem dX8_mistake_33 : decode cX8_mistake 33 = .ok (.iload_n 1, 1) := by decide +kernel
theorem dX8_mistake_34 : decode cX8_mistake 34 = .ok (.iload_n 3, 1) := by decide +kernel
theorem dX8_mistake_35 : decode cX8_mistake 35 = .ok (.aload_n 0, 1) := by decide +kernel
theorem dX8_mistake_36 : decode cX8_mistake 36 = .ok (.getfield 29, 3) := by decide +kernel
theorem dX8_mistake_39 : decode cX8_mistake 39 = .ok (.iload_n 1, 1) := by decide +kernel
theorem dX8_mistake_40 : decode cX8_mistake 40 = .ok (.iaload, 1) := by decide +kernel
theorem dX8_mistake_41 : decode cX8_mistake 41 = .ok (.invokevirtual 284, 3) := by decide +kernel
theorem dX8_mistake_44 : decode cX8_mistake 44 = .ok (.ifCond .ne 7, 3) := by decide +kernel
theorem dX8_mistake_47 : decode cX8_mistake 47 = .ok (.iconst 1, 1) := by decide +kernel
theorem dX8_mistake_48 : decode cX8_mistake 48 = .ok (.goto 4, 3) := by decide +kernel
theorem dX8_mistake_51 : decode cX8_mistake 51 = .ok (.iconst 0, 1) := by decide +kernel
theorem dX8_mistake_52 : decode cX8_mistake 52 = .ok (.istore 4, 2) := by decide +kernel
theorem dX8_mistake_54 : decode cX8_mistake 54 = .ok (.iload 4, 2) := by decide +kernel
theorem dX8_mistake_56 : decode cX8_mistake 56 = .ok (.ifCond .eq 33, 3) := by decide +kernel
theorem dX8_mistake_59 : decode cX8_mistake 59 = .ok (.iload_n 2, 1) := by decide +kernel
theorem dX8_mistake_60 : decode cX8_mistake 60 = .ok (.iconst (-1), 1) := by decide +kernel
theorem dX8_mistake_61 : decode cX8_mistake 61 = .ok (.if_icmp .eq 26, 3) := by decide +kernel
theorem dX8_mistake_64 : decode cX8_mistake 64 = .ok (.aload_n 0, 1) := by decide +kernel
theorem dX8_mistake_65 : decode cX8_mistake 65 = .ok (.getfield 23, 3) := by decide +kernel
theorem dX8_mistake_68 : decode cX8_mistake 68 = .ok (.iconst 4, 1) := by decide +kernel
theorem dX8_mistake_69 : decode cX8_mistake 69 = .ok (.iload_n 1, 1) := by decide +kernel
theorem dX8_mistake_70 : decode cX8_mistake 70 = .ok (.imul, 1) := by decide +kernel
theorem dX8_mistake_71 : decode cX8_mistake 71 = .ok (.iload_n 3, 1) := by decide +kernel
theorem dX8_mistake_72 : decode cX8_mistake 72 = .ok (.iadd, 1) := by decide +kernel
theorem dX8_mistake_73 : decode cX8_mistake 73 = .ok (.iaload, 1) := by decide +kernel
theorem dX8_mistake_74 : decode cX8_mistake 74 = .ok (.aload_n 0, 1) := by decide +kernel
theorem dX8_mistake_75 : decode cX8_mistake 75 = .ok (.getfield 23, 3) := by decide +kernel
theorem dX8_mistake_78 : decode cX8_mistake 78 = .ok (.iconst 4, 1) := by decide +kernel
theorem dX8_mistake_79 : decode cX8_mistake 79 = .ok (.iload_n 1, 1) := by decide +kernel
theorem dX8_mistake_80 : decode cX8_mistake 80 = .ok (.imul, 1) := by decide +kernel
theorem dX8_mistake_81 : decode cX8_mistake 81 = .ok (.iload_n 2, 1) := by decide +kernel
theorem dX8_mistake_82 : decode cX8_mistake 82 = .ok (.iadd, 1) := by decide +kernel
theorem dX8_mistake_83 : decode cX8_mistake 83 = .ok (.iaload, 1) := by decide +kernel
theorem dX8_mistake_84 : decode cX8_mistake 84 = .ok (.if_icmp .ge 5, 3) := by decide +kernel
theorem dX8_mistake_87 : decode cX8_mistake 87 = .ok (.iload_n 3, 1) := by decide +kernel
theorem dX8_mistake_88 : decode cX8_mistake 88 = .ok (.istore_n 2, 1) := by decide +kernel
theorem dX8_mistake_89 : decode cX8_mistake 89 = .ok (.iinc 3 1, 3) := by decide +kernel
theorem dX8_mistake_92 : decode cX8_mistake 92 = .ok (.goto (-77), 3) := by decide +kernel
theorem dX8_mistake_95 : decode cX8_mistake 95 = .ok (.iload_n 2, 1) := by decide +kernel
theorem dX8_mistake_96 : decode cX8_mistake 96 = .ok (.ireturn, 1) := by decide +kernel
theorem dX8_sure_0 : decode cX8_sure 0 = .ok (.aload_n 0, 1) := by decide +kernel
theorem dX8_sure_1 : decode cX8_sure 1 = .ok (.iload_n 1, 1) := by decide +kernel
theorem dX8_sure_2 : decode cX8_sure 2 = .ok (.invokevirtual 120, 3) := by decide +kernel
theorem dX8_sure_5 : decode cX8_sure 5 = .ok (.ifCond .ne 6, 3) := by decide +kernel
theorem dX8_sure_8 : decode cX8_sure 8 = .ok (.bipush (-2), 2) := by decide +kernel
theorem dX8_sure_10 : decode cX8_sure 10 = .ok (.ireturn, 1) := by decide +kernel
theorem dX8_sure_11 : decode cX8_sure 11 = .ok (.iconst 0, 1) := by decide +kernel
theorem dX8_sure_12 : decode cX8_sure 12 = .ok (.istore_n 2, 1) := by decide +kernel
theorem dX8_sure_13 : decode cX8_sure 13 = .ok (.iconst 0, 1) := by decide +kernel
theorem dX8_sure_14 : decode cX8_sure 14 = .ok (.istore_n 3, 1) := by decide +kernel
theorem dX8_sure_15 : decode cX8_sure 15 = .ok (.iload_n 3, 1) := by decide +kernel
theorem dX8_sure_16 : decode cX8_sure 16 = .ok (.aload_n 0, 1) := by decide +kernel
theorem dX8_sure_17 : decode cX8_sure 17 = .ok (.getfield 113, 3) := by decide +kernel
theorem dX8_sure_20 : decode cX8_sure 20 = .ok (.if_icmp .ge 68, 3) := by decide +kernel
theorem dX8_sure_23 : decode cX8_sure 23 = .ok (.aload_n 0, 1) := by decide +kernel
theorem dX8_sure_24 : decode cX8_sure 24 = .ok (.iload_n 1, 1) := by decide +kernel
theorem dX8_sure_25 : decode cX8_sure 25 = .ok (.iload_n 3, 1) := by decide +kernel
theorem dX8_sure_26 : decode cX8_sure 26 = .ok (.invokevirtual 281, 3) := by decide +kernel
theorem dX8_sure_29 : decode cX8_sure 29 = .ok (.istore 4, 2) := by decide +kernel
theorem dX8_sure_31 : decode cX8_sure 31 = .ok (.aload_n 0, 1) := by decide +kernel
theorem dX8_sure_32 : decode cX8_sure 32 = .ok (.getfield 29, 3) := by decide +kernel
theorem dX8_sure_35 : decode cX8_sure 35 = .ok (.iload_n 1, 1) := by decide +kernel
theorem dX8_sure_36 : decode cX8_sure 36 = .ok (.iaload, 1) := by decide +kernel
theorem dX8_sure_37 : decode cX8_sure 37 = .ok (.istore 5, 2) := by decide +kernel
theorem dX8_sure_39 : decode cX8_sure 39 = .ok (.iload 5, 2) := by decide +kernel
theorem dX8_sure_41 : decode cX8_sure 41 = .ok (.bipush 9, 2) := by decide +kernel
theorem dX8_sure_43 : decode cX8_sure 43 = .ok (.if_icmp .gt 24, 3) := by decide +kernel
theorem dX8_sure_46 : decode cX8_sure 46 = .ok (.iload 4, 2) := by decide +kernel
theorem dX8_sure_48 : decode cX8_sure 48 = .ok (.ifCond .eq 19, 3) := by decide +kernel
theorem dX8_sure_51 : decode cX8_sure 51 = .ok (.aload_n 0, 1) := by decide +kernel
theorem dX8_sure_52 : decode cX8_sure 52 = .ok (.iload_n 1, 1) := by decide +kernel
theorem dX8_sure_53 : decode cX8_sure 53 = .ok (.iload_n 3, 1) := by decide +kernel
theorem dX8_sure_54 : decode cX8_sure 54 = .ok (.iload 5, 2) := by decide +kernel
theorem dX8_sure_56 : decode cX8_sure 56 = .ok (.invokevirtual 284, 3) := by decide +kernel
theorem dX8_sure_59 : decode cX8_sure 59 = .ok (.istore 4, 2) := by decide +kernel
theorem dX8_sure_61 : decode cX8_sure 61 = .ok (.iinc 5 1, 3) := by decide +kernel
theorem dX8_sure_64 : decode cX8_sure 64 = .ok (.goto (-25), 3) := by decide +kernel
theorem dX8_sure_67 : decode cX8_sure 67 = .ok (.iload_n 2, 1) := by decide +kernel
theorem dX8_sure_68 : decode cX8_sure 68 = .ok (.iload 4, 2) := by decide +kernel
theorem dX8_sure_70 : decode cX8_sure 70 = .ok (.ifCond .eq 7, 3) := by decide +kernel
theorem dX8_sure_73 : decode cX8_sure 73 = .ok (.iconst 1, 1) := by decide +kernel
theorem dX8_sure_74 : decode cX8_sure 74 = .ok (.goto 4, 3) := by decide +kernel
theorem dX8_sure_77 : decode cX8_sure 77 = .ok (.iconst 0, 1) := by decide +kernel
theorem dX8_sure_78 : decode cX8_sure 78 = .ok (.iload_n 3, 1) := by decide +kernel
theorem dX8_sure_79 : decode cX8_sure 79 = .ok (.ishl, 1) := by decide +kernel
theorem dX8_sure_80 : decode cX8_sure 80 = .ok (.ior, 1) := by decide +kernel
theorem dX8_sure_81 : decode cX8_sure 81 = .ok (.istore_n 2, 1) := by decide +kernel
theorem dX8_sure_82 : decode cX8_sure 82 = .ok (.iinc 3 1, 3) := by decide +kernel
theorem dX8_sure_85 : decode cX8_sure 85 = .ok (.goto (-70), 3) := by decide +kernel
theorem dX8_sure_88 : decode cX8_sure 88 = .ok (.iload_n 2, 1) := by decide +kernel
theorem dX8_sure_89 : decode cX8_sure 89 = .ok (.ireturn, 1) := by decide +kernel
theorem dX8_gathers_0 : decode cX8_gathers 0 = .ok (.iconst 0, 1) := by decide +kernel
theorem dX8_gathers_1 : decode cX8_gathers 1 = .ok (.istore_n 1, 1) := by decide +kernel
theorem dX8_gathers_2 : decode cX8_gathers 2 = .ok (.iload_n 1, 1) := by decide +kernel
theorem dX8_gathers_3 : decode cX8_gathers 3 = .ok (.aload_n 0, 1) := by decide +kernel
theorem dX8_gathers_4 : decode cX8_gathers 4 = .ok (.getfield 106, 3) := by decide +kernel
theorem dX8_gathers_7 : decode cX8_gathers 7 = .ok (.if_icmp .ge 63, 3) := by decide +kernel
theorem dX8_gathers_10 : decode cX8_gathers 10 = .ok (.iconst 0, 1) := by decide +kernel
theorem dX8_gathers_11 : decode cX8_gathers 11 = .ok (.istore_n 2, 1) := by decide +kernel
theorem dX8_gathers_12 : decode cX8_gathers 12 = .ok (.iload_n 2, 1) := by decide +kernel
theorem dX8_gathers_13 : decode cX8_gathers 13 = .ok (.aload_n 0, 1) := by decide +kernel
theorem dX8_gathers_14 : decode cX8_gathers 14 = .ok (.getfield 113, 3) := by decide +kernel
theorem dX8_gathers_17 : decode cX8_gathers 17 = .ok (.if_icmp .ge 47, 3) := by decide +kernel
theorem dX8_gathers_20 : decode cX8_gathers 20 = .ok (.aload_n 0, 1) := by decide +kernel
theorem dX8_gathers_21 : decode cX8_gathers 21 = .ok (.getfield 65, 3) := by decide +kernel
theorem dX8_gathers_24 : decode cX8_gathers 24 = .ok (.iconst 4, 1) := by decide +kernel
theorem dX8_gathers_25 : decode cX8_gathers 25 = .ok (.iload_n 1, 1) := by decide +kernel
theorem dX8_gathers_26 : decode cX8_gathers 26 = .ok (.imul, 1) := by decide +kernel
theorem dX8_gathers_27 : decode cX8_gathers 27 = .ok (.iload_n 2, 1) := by decide +kernel
theorem dX8_gathers_28 : decode cX8_gathers 28 = .ok (.iadd, 1) := by decide +kernel
theorem dX8_gathers_29 : decode cX8_gathers 29 = .ok (.aload_n 0, 1) := by decide +kernel
theorem dX8_gathers_30 : decode cX8_gathers 30 = .ok (.iload_n 1, 1) := by decide +kernel
theorem dX8_gathers_31 : decode cX8_gathers 31 = .ok (.iload_n 2, 1) := by decide +kernel
theorem dX8_gathers_32 : decode cX8_gathers 32 = .ok (.aload_n 0, 1) := by decide +kernel
theorem dX8_gathers_33 : decode cX8_gathers 33 = .ok (.getfield 29, 3) := by decide +kernel
theorem dX8_gathers_36 : decode cX8_gathers 36 = .ok (.iload_n 1, 1) := by decide +kernel
theorem dX8_gathers_37 : decode cX8_gathers 37 = .ok (.iaload, 1) := by decide +kernel
theorem dX8_gathers_38 : decode cX8_gathers 38 = .ok (.invokevirtual 284, 3) := by decide +kernel
theorem dX8_gathers_41 : decode cX8_gathers 41 = .ok (.bastore, 1) := by decide +kernel
theorem dX8_gathers_42 : decode cX8_gathers 42 = .ok (.aload_n 0, 1) := by decide +kernel
theorem dX8_gathers_43 : decode cX8_gathers 43 = .ok (.getfield 69, 3) := by decide +kernel
theorem dX8_gathers_46 : decode cX8_gathers 46 = .ok (.iconst 4, 1) := by decide +kernel
theorem dX8_gathers_47 : decode cX8_gathers 47 = .ok (.iload_n 1, 1) := by decide +kernel
theorem dX8_gathers_48 : decode cX8_gathers 48 = .ok (.imul, 1) := by decide +kernel
theorem dX8_gathers_49 : decode cX8_gathers 49 = .ok (.iload_n 2, 1) := by decide +kernel
theorem dX8_gathers_50 : decode cX8_gathers 50 = .ok (.iadd, 1) := by decide +kernel
theorem dX8_gathers_51 : decode cX8_gathers 51 = .ok (.aload_n 0, 1) := by decide +kernel
theorem dX8_gathers_52 : decode cX8_gathers 52 = .ok (.iload_n 1, 1) := by decide +kernel
theorem dX8_gathers_53 : decode cX8_gathers 53 = .ok (.iload_n 2, 1) := by decide +kernel
theorem dX8_gathers_54 : decode cX8_gathers 54 = .ok (.invokevirtual 278, 3) := by decide +kernel
theorem dX8_gathers_57 : decode cX8_gathers 57 = .ok (.iastore, 1) := by decide +kernel
theorem dX8_gathers_58 : decode cX8_gathers 58 = .ok (.iinc 2 1, 3) := by decide +kernel
theorem dX8_gathers_61 : decode cX8_gathers 61 = .ok (.goto (-49), 3) := by decide +kernel
theorem dX8_gathers_64 : decode cX8_gathers 64 = .ok (.iinc 1 1, 3) := by decide +kernel
theorem dX8_gathers_67 : decode cX8_gathers 67 = .ok (.goto (-65), 3) := by decide +kernel
theorem dX8_gathers_70 : decode cX8_gathers 70 = .ok (.return_, 1) := by decide +kernel
theorem dX8_isLawful_0 : decode cX8_isLawful 0 = .ok (.iconst 0, 1) := by decide +kernel
theorem dX8_isLawful_1 : decode cX8_isLawful 1 = .ok (.istore_n 1, 1) := by decide +kernel
theorem dX8_isLawful_2 : decode cX8_isLawful 2 = .ok (.iload_n 1, 1) := by decide +kernel
theorem dX8_isLawful_3 : decode cX8_isLawful 3 = .ok (.aload_n 0, 1) := by decide +kernel
theorem dX8_isLawful_4 : decode cX8_isLawful 4 = .ok (.getfield 106, 3) := by decide +kernel
theorem dX8_isLawful_7 : decode cX8_isLawful 7 = .ok (.if_icmp .ge 39, 3) := by decide +kernel
theorem dX8_isLawful_10 : decode cX8_isLawful 10 = .ok (.aload_n 0, 1) := by decide +kernel
theorem dX8_isLawful_11 : decode cX8_isLawful 11 = .ok (.getfield 59, 3) := by decide +kernel
theorem dX8_isLawful_14 : decode cX8_isLawful 14 = .ok (.iload_n 1, 1) := by decide +kernel
theorem dX8_isLawful_15 : decode cX8_isLawful 15 = .ok (.iaload, 1) := by decide +kernel
theorem dX8_isLawful_16 : decode cX8_isLawful 16 = .ok (.iconst (-1), 1) := by decide +kernel
theorem dX8_isLawful_17 : decode cX8_isLawful 17 = .ok (.if_icmp .eq 23, 3) := by decide +kernel
theorem dX8_isLawful_20 : decode cX8_isLawful 20 = .ok (.aload_n 0, 1) := by decide +kernel
theorem dX8_isLawful_21 : decode cX8_isLawful 21 = .ok (.getfield 65, 3) := by decide +kernel
theorem dX8_isLawful_24 : decode cX8_isLawful 24 = .ok (.iconst 4, 1) := by decide +kernel
theorem dX8_isLawful_25 : decode cX8_isLawful 25 = .ok (.iload_n 1, 1) := by decide +kernel
theorem dX8_isLawful_26 : decode cX8_isLawful 26 = .ok (.imul, 1) := by decide +kernel
theorem dX8_isLawful_27 : decode cX8_isLawful 27 = .ok (.aload_n 0, 1) := by decide +kernel
theorem dX8_isLawful_28 : decode cX8_isLawful 28 = .ok (.getfield 59, 3) := by decide +kernel
theorem dX8_isLawful_31 : decode cX8_isLawful 31 = .ok (.iload_n 1, 1) := by decide +kernel
theorem dX8_isLawful_32 : decode cX8_isLawful 32 = .ok (.iaload, 1) := by decide +kernel
theorem dX8_isLawful_33 : decode cX8_isLawful 33 = .ok (.iadd, 1) := by decide +kernel
theorem dX8_isLawful_34 : decode cX8_isLawful 34 = .ok (.baload, 1) := by decide +kernel
theorem dX8_isLawful_35 : decode cX8_isLawful 35 = .ok (.ifCond .eq 5, 3) := by decide +kernel
theorem dX8_isLawful_38 : decode cX8_isLawful 38 = .ok (.iconst 0, 1) := by decide +kernel
theorem dX8_isLawful_39 : decode cX8_isLawful 39 = .ok (.ireturn, 1) := by decide +kernel
theorem dX8_isLawful_40 : decode cX8_isLawful 40 = .ok (.iinc 1 1, 3) := by decide +kernel
theorem dX8_isLawful_43 : decode cX8_isLawful 43 = .ok (.goto (-41), 3) := by decide +kernel
theorem dX8_isLawful_46 : decode cX8_isLawful 46 = .ok (.iconst 1, 1) := by decide +kernel
theorem dX8_isLawful_47 : decode cX8_isLawful 47 = .ok (.ireturn, 1) := by decide +kernel
theorem dX8_manOf_0 : decode cX8_manOf 0 = .ok (.iconst 0, 1) := by decide +kernel
theorem dX8_manOf_1 : decode cX8_manOf 1 = .ok (.istore_n 2, 1) := by decide +kernel
theorem dX8_manOf_2 : decode cX8_manOf 2 = .ok (.iload_n 2, 1) := by decide +kernel
theorem dX8_manOf_3 : decode cX8_manOf 3 = .ok (.aload_n 0, 1) := by decide +kernel
theorem dX8_manOf_4 : decode cX8_manOf 4 = .ok (.getfield 106, 3) := by decide +kernel
theorem dX8_manOf_7 : decode cX8_manOf 7 = .ok (.if_icmp .ge 21, 3) := by decide +kernel
theorem dX8_manOf_10 : decode cX8_manOf 10 = .ok (.aload_n 0, 1) := by decide +kernel
theorem dX8_manOf_11 : decode cX8_manOf 11 = .ok (.getfield 59, 3) := by decide +kernel
theorem dX8_manOf_14 : decode cX8_manOf 14 = .ok (.iload_n 2, 1) := by decide +kernel
theorem dX8_manOf_15 : decode cX8_manOf 15 = .ok (.iaload, 1) := by decide +kernel
theorem dX8_manOf_16 : decode cX8_manOf 16 = .ok (.iload_n 1, 1) := by decide +kernel
theorem dX8_manOf_17 : decode cX8_manOf 17 = .ok (.if_icmp .ne 5, 3) := by decide +kernel
theorem dX8_manOf_20 : decode cX8_manOf 20 = .ok (.iload_n 2, 1) := by decide +kernel
theorem dX8_manOf_21 : decode cX8_manOf 21 = .ok (.ireturn, 1) := by decide +kernel
theorem dX8_manOf_22 : decode cX8_manOf 22 = .ok (.iinc 2 1, 3) := by decide +kernel
theorem dX8_manOf_25 : decode cX8_manOf 25 = .ok (.goto (-23), 3) := by decide +kernel
theorem dX8_manOf_28 : decode cX8_manOf 28 = .ok (.iconst (-1), 1) := by decide +kernel
theorem dX8_manOf_29 : decode cX8_manOf 29 = .ok (.ireturn, 1) := by decide +kernel
theorem dX8_isSteady_0 : decode cX8_isSteady 0 = .ok (.aload_n 0, 1) := by decide +kernel
theorem dX8_isSteady_1 : decode cX8_isSteady 1 = .ok (.invokevirtual 307, 3) := by decide +kernel
theorem dX8_isSteady_4 : decode cX8_isSteady 4 = .ok (.ifCond .ne 5, 3) := by decide +kernel
theorem dX8_isSteady_7 : decode cX8_isSteady 7 = .ok (.iconst 0, 1) := by decide +kernel
theorem dX8_isSteady_8 : decode cX8_isSteady 8 = .ok (.ireturn, 1) := by decide +kernel
theorem dX8_isSteady_9 : decode cX8_isSteady 9 = .ok (.iconst 0, 1) := by decide +kernel
theorem dX8_isSteady_10 : decode cX8_isSteady 10 = .ok (.istore_n 1, 1) := by decide +kernel
theorem dX8_isSteady_11 : decode cX8_isSteady 11 = .ok (.iload_n 1, 1) := by decide +kernel
theorem dX8_isSteady_12 : decode cX8_isSteady 12 = .ok (.aload_n 0, 1) := by decide +kernel
theorem dX8_isSteady_13 : decode cX8_isSteady 13 = .ok (.getfield 106, 3) := by decide +kernel
theorem dX8_isSteady_16 : decode cX8_isSteady 16 = .ok (.if_icmp .ge 139, 3) := by decide +kernel
theorem dX8_isSteady_19 : decode cX8_isSteady 19 = .ok (.iconst 0, 1) := by decide +kernel
theorem dX8_isSteady_20 : decode cX8_isSteady 20 = .ok (.istore_n 2, 1) := by decide +kernel
theorem dX8_isSteady_21 : decode cX8_isSteady 21 = .ok (.iload_n 2, 1) := by decide +kernel
theorem dX8_isSteady_22 : decode cX8_isSteady 22 = .ok (.aload_n 0, 1) := by decide +kernel
theorem dX8_isSteady_23 : decode cX8_isSteady 23 = .ok (.getfield 113, 3) := by decide +kernel
theorem dX8_isSteady_26 : decode cX8_isSteady 26 = .ok (.if_icmp .ge 123, 3) := by decide +kernel
theorem dX8_isSteady_29 : decode cX8_isSteady 29 = .ok (.aload_n 0, 1) := by decide +kernel
theorem dX8_isSteady_30 : decode cX8_isSteady 30 = .ok (.getfield 59, 3) := by decide +kernel
theorem dX8_isSteady_33 : decode cX8_isSteady 33 = .ok (.iload_n 1, 1) := by decide +kernel
theorem dX8_isSteady_34 : decode cX8_isSteady 34 = .ok (.iaload, 1) := by decide +kernel
theorem dX8_isSteady_35 : decode cX8_isSteady 35 = .ok (.iconst (-1), 1) := by decide +kernel
theorem dX8_isSteady_36 : decode cX8_isSteady 36 = .ok (.if_icmp .ne 7, 3) := by decide +kernel
theorem dX8_isSteady_39 : decode cX8_isSteady 39 = .ok (.iconst (-1), 1) := by decide +kernel
theorem dX8_isSteady_40 : decode cX8_isSteady 40 = .ok (.goto 18, 3) := by decide +kernel
theorem dX8_isSteady_43 : decode cX8_isSteady 43 = .ok (.aload_n 0, 1) := by decide +kernel
theorem dX8_isSteady_44 : decode cX8_isSteady 44 = .ok (.getfield 23, 3) := by decide +kernel
theorem dX8_isSteady_47 : decode cX8_isSteady 47 = .ok (.iconst 4, 1) := by decide +kernel
theorem dX8_isSteady_48 : decode cX8_isSteady 48 = .ok (.iload_n 1, 1) := by decide +kernel
theorem dX8_isSteady_49 : decode cX8_isSteady 49 = .ok (.imul, 1) := by decide +kernel
theorem dX8_isSteady_50 : decode cX8_isSteady 50 = .ok (.aload_n 0, 1) := by decide +kernel
theorem dX8_isSteady_51 : decode cX8_isSteady 51 = .ok (.getfield 59, 3) := by decide +kernel
theorem dX8_isSteady_54 : decode cX8_isSteady 54 = .ok (.iload_n 1, 1) := by decide +kernel
theorem dX8_isSteady_55 : decode cX8_isSteady 55 = .ok (.iaload, 1) := by decide +kernel
theorem dX8_isSteady_56 : decode cX8_isSteady 56 = .ok (.iadd, 1) := by decide +kernel
theorem dX8_isSteady_57 : decode cX8_isSteady 57 = .ok (.iaload, 1) := by decide +kernel
theorem dX8_isSteady_58 : decode cX8_isSteady 58 = .ok (.istore_n 3, 1) := by decide +kernel
theorem dX8_isSteady_59 : decode cX8_isSteady 59 = .ok (.aload_n 0, 1) := by decide +kernel
theorem dX8_isSteady_60 : decode cX8_isSteady 60 = .ok (.iload_n 2, 1) := by decide +kernel
theorem dX8_isSteady_61 : decode cX8_isSteady 61 = .ok (.invokevirtual 310, 3) := by decide +kernel
theorem dX8_isSteady_64 : decode cX8_isSteady 64 = .ok (.istore 4, 2) := by decide +kernel
theorem dX8_isSteady_66 : decode cX8_isSteady 66 = .ok (.iload 4, 2) := by decide +kernel
theorem dX8_isSteady_68 : decode cX8_isSteady 68 = .ok (.iconst (-1), 1) := by decide +kernel
theorem dX8_isSteady_69 : decode cX8_isSteady 69 = .ok (.if_icmp .ne 7, 3) := by decide +kernel
theorem dX8_isSteady_72 : decode cX8_isSteady 72 = .ok (.iconst (-1), 1) := by decide +kernel
theorem dX8_isSteady_73 : decode cX8_isSteady 73 = .ok (.goto 14, 3) := by decide +kernel
theorem dX8_isSteady_76 : decode cX8_isSteady 76 = .ok (.aload_n 0, 1) := by decide +kernel
theorem dX8_isSteady_77 : decode cX8_isSteady 77 = .ok (.getfield 26, 3) := by decide +kernel
theorem dX8_isSteady_80 : decode cX8_isSteady 80 = .ok (.iconst 4, 1) := by decide +kernel
theorem dX8_isSteady_81 : decode cX8_isSteady 81 = .ok (.iload 4, 2) := by decide +kernel
theorem dX8_isSteady_83 : decode cX8_isSteady 83 = .ok (.imul, 1) := by decide +kernel
theorem dX8_isSteady_84 : decode cX8_isSteady 84 = .ok (.iload_n 2, 1) := by decide +kernel
theorem dX8_isSteady_85 : decode cX8_isSteady 85 = .ok (.iadd, 1) := by decide +kernel
theorem dX8_isSteady_86 : decode cX8_isSteady 86 = .ok (.iaload, 1) := by decide +kernel
theorem dX8_isSteady_87 : decode cX8_isSteady 87 = .ok (.istore 5, 2) := by decide +kernel
theorem dX8_isSteady_89 : decode cX8_isSteady 89 = .ok (.aload_n 0, 1) := by decide +kernel
theorem dX8_isSteady_90 : decode cX8_isSteady 90 = .ok (.getfield 59, 3) := by decide +kernel
theorem dX8_isSteady_93 : decode cX8_isSteady 93 = .ok (.iload_n 1, 1) := by decide +kernel
theorem dX8_isSteady_94 : decode cX8_isSteady 94 = .ok (.iaload, 1) := by decide +kernel
theorem dX8_isSteady_95 : decode cX8_isSteady 95 = .ok (.iload_n 2, 1) := by decide +kernel
theorem dX8_isSteady_96 : decode cX8_isSteady 96 = .ok (.if_icmp .eq 47, 3) := by decide +kernel
theorem dX8_isSteady_99 : decode cX8_isSteady 99 = .ok (.aload_n 0, 1) := by decide +kernel
theorem dX8_isSteady_100 : decode cX8_isSteady 100 = .ok (.getfield 65, 3) := by decide +kernel
theorem dX8_isSteady_103 : decode cX8_isSteady 103 = .ok (.iconst 4, 1) := by decide +kernel
theorem dX8_isSteady_104 : decode cX8_isSteady 104 = .ok (.iload_n 1, 1) := by decide +kernel
theorem dX8_isSteady_105 : decode cX8_isSteady 105 = .ok (.imul, 1) := by decide +kernel
theorem dX8_isSteady_106 : decode cX8_isSteady 106 = .ok (.iload_n 2, 1) := by decide +kernel
theorem dX8_isSteady_107 : decode cX8_isSteady 107 = .ok (.iadd, 1) := by decide +kernel
theorem dX8_isSteady_108 : decode cX8_isSteady 108 = .ok (.baload, 1) := by decide +kernel
theorem dX8_isSteady_109 : decode cX8_isSteady 109 = .ok (.ifCond .ne 34, 3) := by decide +kernel
theorem dX8_isSteady_112 : decode cX8_isSteady 112 = .ok (.aload_n 0, 1) := by decide +kernel
theorem dX8_isSteady_113 : decode cX8_isSteady 113 = .ok (.getfield 23, 3) := by decide +kernel
theorem dX8_isSteady_116 : decode cX8_isSteady 116 = .ok (.iconst 4, 1) := by decide +kernel
theorem dX8_isSteady_117 : decode cX8_isSteady 117 = .ok (.iload_n 1, 1) := by decide +kernel
theorem dX8_isSteady_118 : decode cX8_isSteady 118 = .ok (.imul, 1) := by decide +kernel
theorem dX8_isSteady_119 : decode cX8_isSteady 119 = .ok (.iload_n 2, 1) := by decide +kernel
theorem dX8_isSteady_120 : decode cX8_isSteady 120 = .ok (.iadd, 1) := by decide +kernel
theorem dX8_isSteady_121 : decode cX8_isSteady 121 = .ok (.iaload, 1) := by decide +kernel
theorem dX8_isSteady_122 : decode cX8_isSteady 122 = .ok (.iload_n 3, 1) := by decide +kernel
theorem dX8_isSteady_123 : decode cX8_isSteady 123 = .ok (.if_icmp .le 20, 3) := by decide +kernel
theorem dX8_isSteady_126 : decode cX8_isSteady 126 = .ok (.aload_n 0, 1) := by decide +kernel
theorem dX8_isSteady_127 : decode cX8_isSteady 127 = .ok (.getfield 26, 3) := by decide +kernel
theorem dX8_isSteady_130 : decode cX8_isSteady 130 = .ok (.iconst 4, 1) := by decide +kernel
theorem dX8_isSteady_131 : decode cX8_isSteady 131 = .ok (.iload_n 1, 1) := by decide +kernel
theorem dX8_isSteady_132 : decode cX8_isSteady 132 = .ok (.imul, 1) := by decide +kernel
theorem dX8_isSteady_133 : decode cX8_isSteady 133 = .ok (.iload_n 2, 1) := by decide +kernel
theorem dX8_isSteady_134 : decode cX8_isSteady 134 = .ok (.iadd, 1) := by decide +kernel
theorem dX8_isSteady_135 : decode cX8_isSteady 135 = .ok (.iaload, 1) := by decide +kernel
theorem dX8_isSteady_136 : decode cX8_isSteady 136 = .ok (.iload 5, 2) := by decide +kernel
theorem dX8_isSteady_138 : decode cX8_isSteady 138 = .ok (.if_icmp .le 5, 3) := by decide +kernel
theorem dX8_isSteady_141 : decode cX8_isSteady 141 = .ok (.iconst 0, 1) := by decide +kernel
theorem dX8_isSteady_142 : decode cX8_isSteady 142 = .ok (.ireturn, 1) := by decide +kernel
theorem dX8_isSteady_143 : decode cX8_isSteady 143 = .ok (.iinc 2 1, 3) := by decide +kernel
theorem dX8_isSteady_146 : decode cX8_isSteady 146 = .ok (.goto (-125), 3) := by decide +kernel
theorem dX8_isSteady_149 : decode cX8_isSteady 149 = .ok (.iinc 1 1, 3) := by decide +kernel
theorem dX8_isSteady_152 : decode cX8_isSteady 152 = .ok (.goto (-141), 3) := by decide +kernel
theorem dX8_isSteady_155 : decode cX8_isSteady 155 = .ok (.iconst 1, 1) := by decide +kernel
theorem dX8_isSteady_156 : decode cX8_isSteady 156 = .ok (.ireturn, 1) := by decide +kernel
theorem dX8_pairs_0 : decode cX8_pairs 0 = .ok (.iload_n 1, 1) := by decide +kernel
theorem dX8_pairs_1 : decode cX8_pairs 1 = .ok (.aload_n 0, 1) := by decide +kernel
theorem dX8_pairs_2 : decode cX8_pairs 2 = .ok (.getfield 106, 3) := by decide +kernel
theorem dX8_pairs_5 : decode cX8_pairs 5 = .ok (.if_icmp .ne 149, 3) := by decide +kernel
theorem dX8_pairs_8 : decode cX8_pairs 8 = .ok (.iload_n 2, 1) := by decide +kernel
theorem dX8_pairs_9 : decode cX8_pairs 9 = .ok (.ifCond .ne 13, 3) := by decide +kernel
theorem dX8_pairs_12 : decode cX8_pairs 12 = .ok (.aload_n 0, 1) := by decide +kernel
theorem dX8_pairs_13 : decode cX8_pairs 13 = .ok (.invokevirtual 307, 3) := by decide +kernel
theorem dX8_pairs_16 : decode cX8_pairs 16 = .ok (.ifCond .ne 14, 3) := by decide +kernel
theorem dX8_pairs_19 : decode cX8_pairs 19 = .ok (.goto 10, 3) := by decide +kernel
theorem dX8_pairs_22 : decode cX8_pairs 22 = .ok (.aload_n 0, 1) := by decide +kernel
theorem dX8_pairs_23 : decode cX8_pairs 23 = .ok (.invokevirtual 313, 3) := by decide +kernel
theorem dX8_pairs_26 : decode cX8_pairs 26 = .ok (.ifCond .ne 4, 3) := by decide +kernel
theorem dX8_pairs_29 : decode cX8_pairs 29 = .ok (.return_, 1) := by decide +kernel
theorem dX8_pairs_30 : decode cX8_pairs 30 = .ok (.iconst 0, 1) := by decide +kernel
theorem dX8_pairs_31 : decode cX8_pairs 31 = .ok (.istore 4, 2) := by decide +kernel
theorem dX8_pairs_33 : decode cX8_pairs 33 = .ok (.iconst 0, 1) := by decide +kernel
theorem dX8_pairs_34 : decode cX8_pairs 34 = .ok (.istore 5, 2) := by decide +kernel
theorem dX8_pairs_36 : decode cX8_pairs 36 = .ok (.iload 5, 2) := by decide +kernel
theorem dX8_pairs_38 : decode cX8_pairs 38 = .ok (.aload_n 0, 1) := by decide +kernel
theorem dX8_pairs_39 : decode cX8_pairs 39 = .ok (.getfield 106, 3) := by decide +kernel
theorem dX8_pairs_42 : decode cX8_pairs 42 = .ok (.if_icmp .ge 46, 3) := by decide +kernel
theorem dX8_pairs_45 : decode cX8_pairs 45 = .ok (.iload 4, 2) := by decide +kernel
theorem dX8_pairs_47 : decode cX8_pairs 47 = .ok (.aload_n 0, 1) := by decide +kernel
theorem dX8_pairs_48 : decode cX8_pairs 48 = .ok (.getfield 59, 3) := by decide +kernel
theorem dX8_pairs_51 : decode cX8_pairs 51 = .ok (.iload 5, 2) := by decide +kernel
theorem dX8_pairs_53 : decode cX8_pairs 53 = .ok (.iaload, 1) := by decide +kernel
theorem dX8_pairs_54 : decode cX8_pairs 54 = .ok (.iconst (-1), 1) := by decide +kernel
theorem dX8_pairs_55 : decode cX8_pairs 55 = .ok (.if_icmp .ne 7, 3) := by decide +kernel
theorem dX8_pairs_58 : decode cX8_pairs 58 = .ok (.iconst 0, 1) := by decide +kernel
theorem dX8_pairs_59 : decode cX8_pairs 59 = .ok (.goto 20, 3) := by decide +kernel
theorem dX8_pairs_62 : decode cX8_pairs 62 = .ok (.aload_n 0, 1) := by decide +kernel
theorem dX8_pairs_63 : decode cX8_pairs 63 = .ok (.getfield 69, 3) := by decide +kernel
theorem dX8_pairs_66 : decode cX8_pairs 66 = .ok (.iconst 4, 1) := by decide +kernel
theorem dX8_pairs_67 : decode cX8_pairs 67 = .ok (.iload 5, 2) := by decide +kernel
theorem dX8_pairs_69 : decode cX8_pairs 69 = .ok (.imul, 1) := by decide +kernel
theorem dX8_pairs_70 : decode cX8_pairs 70 = .ok (.aload_n 0, 1) := by decide +kernel
theorem dX8_pairs_71 : decode cX8_pairs 71 = .ok (.getfield 59, 3) := by decide +kernel
theorem dX8_pairs_74 : decode cX8_pairs 74 = .ok (.iload 5, 2) := by decide +kernel
theorem dX8_pairs_76 : decode cX8_pairs 76 = .ok (.iaload, 1) := by decide +kernel
theorem dX8_pairs_77 : decode cX8_pairs 77 = .ok (.iadd, 1) := by decide +kernel
theorem dX8_pairs_78 : decode cX8_pairs 78 = .ok (.iaload, 1) := by decide +kernel
theorem dX8_pairs_79 : decode cX8_pairs 79 = .ok (.iadd, 1) := by decide +kernel
theorem dX8_pairs_80 : decode cX8_pairs 80 = .ok (.istore 4, 2) := by decide +kernel
theorem dX8_pairs_82 : decode cX8_pairs 82 = .ok (.iinc 5 1, 3) := by decide +kernel
theorem dX8_pairs_85 : decode cX8_pairs 85 = .ok (.goto (-49), 3) := by decide +kernel
theorem dX8_pairs_88 : decode cX8_pairs 88 = .ok (.aload_n 0, 1) := by decide +kernel
theorem dX8_pairs_89 : decode cX8_pairs 89 = .ok (.dup, 1) := by decide +kernel
theorem dX8_pairs_90 : decode cX8_pairs 90 = .ok (.getfield 316, 3) := by decide +kernel
theorem dX8_pairs_93 : decode cX8_pairs 93 = .ok (.iconst 1, 1) := by decide +kernel
theorem dX8_pairs_94 : decode cX8_pairs 94 = .ok (.iadd, 1) := by decide +kernel
theorem dX8_pairs_95 : decode cX8_pairs 95 = .ok (.putfield 316, 3) := by decide +kernel
theorem dX8_pairs_98 : decode cX8_pairs 98 = .ok (.aload_n 0, 1) := by decide +kernel
theorem dX8_pairs_99 : decode cX8_pairs 99 = .ok (.getfield 316, 3) := by decide +kernel
theorem dX8_pairs_102 : decode cX8_pairs 102 = .ok (.iconst 1, 1) := by decide +kernel
theorem dX8_pairs_103 : decode cX8_pairs 103 = .ok (.if_icmp .eq 12, 3) := by decide +kernel
theorem dX8_pairs_106 : decode cX8_pairs 106 = .ok (.iload 4, 2) := by decide +kernel
theorem dX8_pairs_108 : decode cX8_pairs 108 = .ok (.aload_n 0, 1) := by decide +kernel
theorem dX8_pairs_109 : decode cX8_pairs 109 = .ok (.getfield 319, 3) := by decide +kernel
theorem dX8_pairs_112 : decode cX8_pairs 112 = .ok (.if_icmp .le 41, 3) := by decide +kernel
theorem dX8_pairs_115 : decode cX8_pairs 115 = .ok (.aload_n 0, 1) := by decide +kernel
theorem dX8_pairs_116 : decode cX8_pairs 116 = .ok (.iload 4, 2) := by decide +kernel
theorem dX8_pairs_118 : decode cX8_pairs 118 = .ok (.putfield 319, 3) := by decide +kernel
theorem dX8_pairs_121 : decode cX8_pairs 121 = .ok (.iconst 0, 1) := by decide +kernel
theorem dX8_pairs_122 : decode cX8_pairs 122 = .ok (.istore 5, 2) := by decide +kernel
theorem dX8_pairs_124 : decode cX8_pairs 124 = .ok (.iload 5, 2) := by decide +kernel
theorem dX8_pairs_126 : decode cX8_pairs 126 = .ok (.aload_n 0, 1) := by decide +kernel
theorem dX8_pairs_127 : decode cX8_pairs 127 = .ok (.getfield 106, 3) := by decide +kernel
theorem dX8_pairs_130 : decode cX8_pairs 130 = .ok (.if_icmp .ge 23, 3) := by decide +kernel
theorem dX8_pairs_133 : decode cX8_pairs 133 = .ok (.aload_n 0, 1) := by decide +kernel
theorem dX8_pairs_134 : decode cX8_pairs 134 = .ok (.getfield 62, 3) := by decide +kernel
theorem dX8_pairs_137 : decode cX8_pairs 137 = .ok (.iload 5, 2) := by decide +kernel
theorem dX8_pairs_139 : decode cX8_pairs 139 = .ok (.aload_n 0, 1) := by decide +kernel
theorem dX8_pairs_140 : decode cX8_pairs 140 = .ok (.getfield 59, 3) := by decide +kernel
theorem dX8_pairs_143 : decode cX8_pairs 143 = .ok (.iload 5, 2) := by decide +kernel
theorem dX8_pairs_145 : decode cX8_pairs 145 = .ok (.iaload, 1) := by decide +kernel
theorem dX8_pairs_146 : decode cX8_pairs 146 = .ok (.iastore, 1) := by decide +kernel
theorem dX8_pairs_147 : decode cX8_pairs 147 = .ok (.iinc 5 1, 3) := by decide +kernel
theorem dX8_pairs_150 : decode cX8_pairs 150 = .ok (.goto (-26), 3) := by decide +kernel
theorem dX8_pairs_153 : decode cX8_pairs 153 = .ok (.return_, 1) := by decide +kernel
theorem dX8_pairs_154 : decode cX8_pairs 154 = .ok (.iconst (-1), 1) := by decide +kernel
theorem dX8_pairs_155 : decode cX8_pairs 155 = .ok (.istore 4, 2) := by decide +kernel
theorem dX8_pairs_157 : decode cX8_pairs 157 = .ok (.iload 4, 2) := by decide +kernel
theorem dX8_pairs_159 : decode cX8_pairs 159 = .ok (.aload_n 0, 1) := by decide +kernel
theorem dX8_pairs_160 : decode cX8_pairs 160 = .ok (.getfield 113, 3) := by decide +kernel
theorem dX8_pairs_163 : decode cX8_pairs 163 = .ok (.if_icmp .ge 56, 3) := by decide +kernel
theorem dX8_pairs_166 : decode cX8_pairs 166 = .ok (.iload 4, 2) := by decide +kernel
theorem dX8_pairs_168 : decode cX8_pairs 168 = .ok (.iconst (-1), 1) := by decide +kernel
theorem dX8_pairs_169 : decode cX8_pairs 169 = .ok (.if_icmp .eq 12, 3) := by decide +kernel
theorem dX8_pairs_172 : decode cX8_pairs 172 = .ok (.iload_n 3, 1) := by decide +kernel
theorem dX8_pairs_173 : decode cX8_pairs 173 = .ok (.iload 4, 2) := by decide +kernel
theorem dX8_pairs_175 : decode cX8_pairs 175 = .ok (.ishr, 1) := by decide +kernel
theorem dX8_pairs_176 : decode cX8_pairs 176 = .ok (.iconst 1, 1) := by decide +kernel
theorem dX8_pairs_177 : decode cX8_pairs 177 = .ok (.iand, 1) := by decide +kernel
theorem dX8_pairs_178 : decode cX8_pairs 178 = .ok (.ifCond .ne 35, 3) := by decide +kernel
theorem dX8_pairs_181 : decode cX8_pairs 181 = .ok (.aload_n 0, 1) := by decide +kernel
theorem dX8_pairs_182 : decode cX8_pairs 182 = .ok (.getfield 59, 3) := by decide +kernel
theorem dX8_pairs_185 : decode cX8_pairs 185 = .ok (.iload_n 1, 1) := by decide +kernel
theorem dX8_pairs_186 : decode cX8_pairs 186 = .ok (.iload 4, 2) := by decide +kernel
theorem dX8_pairs_188 : decode cX8_pairs 188 = .ok (.iastore, 1) := by decide +kernel
theorem dX8_pairs_189 : decode cX8_pairs 189 = .ok (.aload_n 0, 1) := by decide +kernel
theorem dX8_pairs_190 : decode cX8_pairs 190 = .ok (.iload_n 1, 1) := by decide +kernel
theorem dX8_pairs_191 : decode cX8_pairs 191 = .ok (.iconst 1, 1) := by decide +kernel
theorem dX8_pairs_192 : decode cX8_pairs 192 = .ok (.iadd, 1) := by decide +kernel
theorem dX8_pairs_193 : decode cX8_pairs 193 = .ok (.iload_n 2, 1) := by decide +kernel
theorem dX8_pairs_194 : decode cX8_pairs 194 = .ok (.iload 4, 2) := by decide +kernel
theorem dX8_pairs_196 : decode cX8_pairs 196 = .ok (.iconst (-1), 1) := by decide +kernel
theorem dX8_pairs_197 : decode cX8_pairs 197 = .ok (.if_icmp .ne 7, 3) := by decide +kernel
theorem dX8_pairs_200 : decode cX8_pairs 200 = .ok (.iload_n 3, 1) := by decide +kernel
theorem dX8_pairs_201 : decode cX8_pairs 201 = .ok (.goto 9, 3) := by decide +kernel
theorem dX8_pairs_204 : decode cX8_pairs 204 = .ok (.iload_n 3, 1) := by decide +kernel
theorem dX8_pairs_205 : decode cX8_pairs 205 = .ok (.iconst 1, 1) := by decide +kernel
theorem dX8_pairs_206 : decode cX8_pairs 206 = .ok (.iload 4, 2) := by decide +kernel
theorem dX8_pairs_208 : decode cX8_pairs 208 = .ok (.ishl, 1) := by decide +kernel
theorem dX8_pairs_209 : decode cX8_pairs 209 = .ok (.ior, 1) := by decide +kernel
theorem dX8_pairs_210 : decode cX8_pairs 210 = .ok (.invokevirtual 322, 3) := by decide +kernel
theorem dX8_pairs_213 : decode cX8_pairs 213 = .ok (.iinc 4 1, 3) := by decide +kernel
theorem dX8_pairs_216 : decode cX8_pairs 216 = .ok (.goto (-59), 3) := by decide +kernel
theorem dX8_pairs_219 : decode cX8_pairs 219 = .ok (.return_, 1) := by decide +kernel
theorem dX8_goes_0 : decode cX8_goes 0 = .ok (.aload_n 0, 1) := by decide +kernel
theorem dX8_goes_1 : decode cX8_goes 1 = .ok (.invokevirtual 326, 3) := by decide +kernel
theorem dX8_goes_4 : decode cX8_goes 4 = .ok (.aload_n 0, 1) := by decide +kernel
theorem dX8_goes_5 : decode cX8_goes 5 = .ok (.iconst 0, 1) := by decide +kernel
theorem dX8_goes_6 : decode cX8_goes 6 = .ok (.putfield 316, 3) := by decide +kernel
theorem dX8_goes_9 : decode cX8_goes 9 = .ok (.aload_n 0, 1) := by decide +kernel
theorem dX8_goes_10 : decode cX8_goes 10 = .ok (.iconst 0, 1) := by decide +kernel
theorem dX8_goes_11 : decode cX8_goes 11 = .ok (.putfield 319, 3) := by decide +kernel
theorem dX8_goes_14 : decode cX8_goes 14 = .ok (.aload_n 0, 1) := by decide +kernel
theorem dX8_goes_15 : decode cX8_goes 15 = .ok (.iconst 0, 1) := by decide +kernel
theorem dX8_goes_16 : decode cX8_goes 16 = .ok (.iload_n 1, 1) := by decide +kernel
theorem dX8_goes_17 : decode cX8_goes 17 = .ok (.iconst 0, 1) := by decide +kernel
theorem dX8_goes_18 : decode cX8_goes 18 = .ok (.invokevirtual 322, 3) := by decide +kernel
theorem dX8_goes_21 : decode cX8_goes 21 = .ok (.aload_n 0, 1) := by decide +kernel
theorem dX8_goes_22 : decode cX8_goes 22 = .ok (.getfield 316, 3) := by decide +kernel
theorem dX8_goes_25 : decode cX8_goes 25 = .ok (.ireturn, 1) := by decide +kernel
theorem dX8_pairings_0 : decode cX8_pairings 0 = .ok (.iload_n 1, 1) := by decide +kernel
theorem dX8_pairings_1 : decode cX8_pairings 1 = .ok (.i2l, 1) := by decide +kernel
theorem dX8_pairings_2 : decode cX8_pairings 2 = .ok (.lconst 0, 1) := by decide +kernel
theorem dX8_pairings_3 : decode cX8_pairings 3 = .ok (.lconst 1, 1) := by decide +kernel
theorem dX8_pairings_4 : decode cX8_pairings 4 = .ok (.invokestatic 109, 3) := by decide +kernel
theorem dX8_pairings_7 : decode cX8_pairings 7 = .ok (.ifCond .eq 11, 3) := by decide +kernel
theorem dX8_pairings_10 : decode cX8_pairings 10 = .ok (.aload_n 0, 1) := by decide +kernel
theorem dX8_pairings_11 : decode cX8_pairings 11 = .ok (.iload_n 1, 1) := by decide +kernel
theorem dX8_pairings_12 : decode cX8_pairings 12 = .ok (.invokevirtual 329, 3) := by decide +kernel
theorem dX8_pairings_15 : decode cX8_pairings 15 = .ok (.goto 5, 3) := by decide +kernel
theorem dX8_pairings_18 : decode cX8_pairings 18 = .ok (.bipush (-2), 2) := by decide +kernel
theorem dX8_pairings_20 : decode cX8_pairings 20 = .ok (.ireturn, 1) := by decide +kernel
theorem dX8_best_0 : decode cX8_best 0 = .ok (.iload_n 1, 1) := by decide +kernel
theorem dX8_best_1 : decode cX8_best 1 = .ok (.i2l, 1) := by decide +kernel
theorem dX8_best_2 : decode cX8_best 2 = .ok (.lconst 0, 1) := by decide +kernel
theorem dX8_best_3 : decode cX8_best 3 = .ok (.lconst 1, 1) := by decide +kernel
theorem dX8_best_4 : decode cX8_best 4 = .ok (.invokestatic 109, 3) := by decide +kernel
theorem dX8_best_7 : decode cX8_best 7 = .ok (.ifCond .eq 16, 3) := by decide +kernel
theorem dX8_best_10 : decode cX8_best 10 = .ok (.iload_n 2, 1) := by decide +kernel
theorem dX8_best_11 : decode cX8_best 11 = .ok (.iconst (-1), 1) := by decide +kernel
theorem dX8_best_12 : decode cX8_best 12 = .ok (.if_icmp .eq 14, 3) := by decide +kernel
theorem dX8_best_15 : decode cX8_best 15 = .ok (.aload_n 0, 1) := by decide +kernel
theorem dX8_best_16 : decode cX8_best 16 = .ok (.iload_n 2, 1) := by decide +kernel
theorem dX8_best_17 : decode cX8_best 17 = .ok (.invokevirtual 120, 3) := by decide +kernel
theorem dX8_best_20 : decode cX8_best 20 = .ok (.ifCond .ne 6, 3) := by decide +kernel
theorem dX8_best_23 : decode cX8_best 23 = .ok (.bipush (-2), 2) := by decide +kernel
theorem dX8_best_25 : decode cX8_best 25 = .ok (.ireturn, 1) := by decide +kernel
theorem dX8_best_26 : decode cX8_best 26 = .ok (.aload_n 0, 1) := by decide +kernel
theorem dX8_best_27 : decode cX8_best 27 = .ok (.iload_n 1, 1) := by decide +kernel
theorem dX8_best_28 : decode cX8_best 28 = .ok (.invokevirtual 329, 3) := by decide +kernel
theorem dX8_best_31 : decode cX8_best 31 = .ok (.ifCond .ne 6, 3) := by decide +kernel
theorem dX8_best_34 : decode cX8_best 34 = .ok (.bipush (-3), 2) := by decide +kernel
theorem dX8_best_36 : decode cX8_best 36 = .ok (.ireturn, 1) := by decide +kernel
theorem dX8_best_37 : decode cX8_best 37 = .ok (.iload_n 2, 1) := by decide +kernel
theorem dX8_best_38 : decode cX8_best 38 = .ok (.iconst (-1), 1) := by decide +kernel
theorem dX8_best_39 : decode cX8_best 39 = .ok (.if_icmp .ne 10, 3) := by decide +kernel
theorem dX8_best_42 : decode cX8_best 42 = .ok (.aload_n 0, 1) := by decide +kernel
theorem dX8_best_43 : decode cX8_best 43 = .ok (.getfield 319, 3) := by decide +kernel
theorem dX8_best_46 : decode cX8_best 46 = .ok (.goto 9, 3) := by decide +kernel
theorem dX8_best_49 : decode cX8_best 49 = .ok (.aload_n 0, 1) := by decide +kernel
theorem dX8_best_50 : decode cX8_best 50 = .ok (.getfield 62, 3) := by decide +kernel
theorem dX8_best_53 : decode cX8_best 53 = .ok (.iload_n 2, 1) := by decide +kernel
theorem dX8_best_54 : decode cX8_best 54 = .ok (.iaload, 1) := by decide +kernel
theorem dX8_best_55 : decode cX8_best 55 = .ok (.ireturn, 1) := by decide +kernel
theorem dX8_row_0 : decode cX8_row 0 = .ok (.iload_n 1, 1) := by decide +kernel
theorem dX8_row_1 : decode cX8_row 1 = .ok (.invokestatic 332, 3) := by decide +kernel
theorem dX8_row_4 : decode cX8_row 4 = .ok (.ifCond .ne 6, 3) := by decide +kernel
theorem dX8_row_7 : decode cX8_row 7 = .ok (.bipush (-2), 2) := by decide +kernel
theorem dX8_row_9 : decode cX8_row 9 = .ok (.ireturn, 1) := by decide +kernel
theorem dX8_row_10 : decode cX8_row 10 = .ok (.aload_n 0, 1) := by decide +kernel
theorem dX8_row_11 : decode cX8_row 11 = .ok (.getfield 87, 3) := by decide +kernel
theorem dX8_row_14 : decode cX8_row 14 = .ok (.iload_n 1, 1) := by decide +kernel
theorem dX8_row_15 : decode cX8_row 15 = .ok (.baload, 1) := by decide +kernel
theorem dX8_row_16 : decode cX8_row 16 = .ok (.ifCond .ne 6, 3) := by decide +kernel
theorem dX8_row_19 : decode cX8_row 19 = .ok (.bipush (-11), 2) := by decide +kernel
theorem dX8_row_21 : decode cX8_row 21 = .ok (.ireturn, 1) := by decide +kernel
theorem dX8_row_22 : decode cX8_row 22 = .ok (.aload_n 0, 1) := by decide +kernel
theorem dX8_row_23 : decode cX8_row 23 = .ok (.getfield 93, 3) := by decide +kernel
theorem dX8_row_26 : decode cX8_row 26 = .ok (.iload_n 1, 1) := by decide +kernel
theorem dX8_row_27 : decode cX8_row 27 = .ok (.iaload, 1) := by decide +kernel
theorem dX8_row_28 : decode cX8_row 28 = .ok (.aload_n 0, 1) := by decide +kernel
theorem dX8_row_29 : decode cX8_row 29 = .ok (.getfield 106, 3) := by decide +kernel
theorem dX8_row_32 : decode cX8_row 32 = .ok (.if_icmp .eq 6, 3) := by decide +kernel
theorem dX8_row_35 : decode cX8_row 35 = .ok (.bipush (-2), 2) := by decide +kernel
theorem dX8_row_37 : decode cX8_row 37 = .ok (.ireturn, 1) := by decide +kernel
theorem dX8_row_38 : decode cX8_row 38 = .ok (.iconst 0, 1) := by decide +kernel
theorem dX8_row_39 : decode cX8_row 39 = .ok (.istore_n 2, 1) := by decide +kernel
theorem dX8_row_40 : decode cX8_row 40 = .ok (.iconst 0, 1) := by decide +kernel
theorem dX8_row_41 : decode cX8_row 41 = .ok (.istore_n 3, 1) := by decide +kernel
theorem dX8_row_42 : decode cX8_row 42 = .ok (.iload_n 3, 1) := by decide +kernel
theorem dX8_row_43 : decode cX8_row 43 = .ok (.aload_n 0, 1) := by decide +kernel
theorem dX8_row_44 : decode cX8_row 44 = .ok (.getfield 106, 3) := by decide +kernel
theorem dX8_row_47 : decode cX8_row 47 = .ok (.if_icmp .ge 70, 3) := by decide +kernel
theorem dX8_row_50 : decode cX8_row 50 = .ok (.aload_n 0, 1) := by decide +kernel
theorem dX8_row_51 : decode cX8_row 51 = .ok (.getfield 96, 3) := by decide +kernel
theorem dX8_row_54 : decode cX8_row 54 = .ok (.bipush 40, 2) := by decide +kernel
theorem dX8_row_56 : decode cX8_row 56 = .ok (.iload_n 1, 1) := by decide +kernel
theorem dX8_row_57 : decode cX8_row 57 = .ok (.imul, 1) := by decide +kernel
theorem dX8_row_58 : decode cX8_row 58 = .ok (.iload_n 3, 1) := by decide +kernel
theorem dX8_row_59 : decode cX8_row 59 = .ok (.iadd, 1) := by decide +kernel
theorem dX8_row_60 : decode cX8_row 60 = .ok (.iaload, 1) := by decide +kernel
theorem dX8_row_61 : decode cX8_row 61 = .ok (.istore 4, 2) := by decide +kernel
theorem dX8_row_63 : decode cX8_row 63 = .ok (.iload 4, 2) := by decide +kernel
theorem dX8_row_65 : decode cX8_row 65 = .ok (.iconst (-1), 1) := by decide +kernel
theorem dX8_row_66 : decode cX8_row 66 = .ok (.if_icmp .eq 24, 3) := by decide +kernel
theorem dX8_row_69 : decode cX8_row 69 = .ok (.aload_n 0, 1) := by decide +kernel
theorem dX8_row_70 : decode cX8_row 70 = .ok (.iload 4, 2) := by decide +kernel
theorem dX8_row_72 : decode cX8_row 72 = .ok (.invokevirtual 124, 3) := by decide +kernel
theorem dX8_row_75 : decode cX8_row 75 = .ok (.ifCond .eq 13, 3) := by decide +kernel
theorem dX8_row_78 : decode cX8_row 78 = .ok (.iload_n 2, 1) := by decide +kernel
theorem dX8_row_79 : decode cX8_row 79 = .ok (.iload 4, 2) := by decide +kernel
theorem dX8_row_81 : decode cX8_row 81 = .ok (.ishr, 1) := by decide +kernel
theorem dX8_row_82 : decode cX8_row 82 = .ok (.iconst 1, 1) := by decide +kernel
theorem dX8_row_83 : decode cX8_row 83 = .ok (.iand, 1) := by decide +kernel
theorem dX8_row_84 : decode cX8_row 84 = .ok (.iconst 1, 1) := by decide +kernel
theorem dX8_row_85 : decode cX8_row 85 = .ok (.if_icmp .ne 5, 3) := by decide +kernel
theorem dX8_row_88 : decode cX8_row 88 = .ok (.iconst 0, 1) := by decide +kernel
theorem dX8_row_89 : decode cX8_row 89 = .ok (.ireturn, 1) := by decide +kernel
theorem dX8_row_90 : decode cX8_row 90 = .ok (.iload 4, 2) := by decide +kernel
theorem dX8_row_92 : decode cX8_row 92 = .ok (.iconst (-1), 1) := by decide +kernel
theorem dX8_row_93 : decode cX8_row 93 = .ok (.if_icmp .eq 10, 3) := by decide +kernel
theorem dX8_row_96 : decode cX8_row 96 = .ok (.iload_n 2, 1) := by decide +kernel
theorem dX8_row_97 : decode cX8_row 97 = .ok (.iconst 1, 1) := by decide +kernel
theorem dX8_row_98 : decode cX8_row 98 = .ok (.iload 4, 2) := by decide +kernel
theorem dX8_row_100 : decode cX8_row 100 = .ok (.ishl, 1) := by decide +kernel
theorem dX8_row_101 : decode cX8_row 101 = .ok (.ior, 1) := by decide +kernel
theorem dX8_row_102 : decode cX8_row 102 = .ok (.istore_n 2, 1) := by decide +kernel
theorem dX8_row_103 : decode cX8_row 103 = .ok (.aload_n 0, 1) := by decide +kernel
theorem dX8_row_104 : decode cX8_row 104 = .ok (.getfield 59, 3) := by decide +kernel
theorem dX8_row_107 : decode cX8_row 107 = .ok (.iload_n 3, 1) := by decide +kernel
theorem dX8_row_108 : decode cX8_row 108 = .ok (.iload 4, 2) := by decide +kernel
theorem dX8_row_110 : decode cX8_row 110 = .ok (.iastore, 1) := by decide +kernel
theorem dX8_row_111 : decode cX8_row 111 = .ok (.iinc 3 1, 3) := by decide +kernel
theorem dX8_row_114 : decode cX8_row 114 = .ok (.goto (-72), 3) := by decide +kernel
theorem dX8_row_117 : decode cX8_row 117 = .ok (.aload_n 0, 1) := by decide +kernel
theorem dX8_row_118 : decode cX8_row 118 = .ok (.invokevirtual 326, 3) := by decide +kernel
theorem dX8_row_121 : decode cX8_row 121 = .ok (.aload_n 0, 1) := by decide +kernel
theorem dX8_row_122 : decode cX8_row 122 = .ok (.invokevirtual 313, 3) := by decide +kernel
theorem dX8_row_125 : decode cX8_row 125 = .ok (.ifCond .eq 7, 3) := by decide +kernel
theorem dX8_row_128 : decode cX8_row 128 = .ok (.iconst 3, 1) := by decide +kernel
theorem dX8_row_129 : decode cX8_row 129 = .ok (.goto 15, 3) := by decide +kernel
theorem dX8_row_132 : decode cX8_row 132 = .ok (.aload_n 0, 1) := by decide +kernel
theorem dX8_row_133 : decode cX8_row 133 = .ok (.invokevirtual 307, 3) := by decide +kernel
theorem dX8_row_136 : decode cX8_row 136 = .ok (.ifCond .eq 7, 3) := by decide +kernel
theorem dX8_row_139 : decode cX8_row 139 = .ok (.iconst 2, 1) := by decide +kernel
theorem dX8_row_140 : decode cX8_row 140 = .ok (.goto 4, 3) := by decide +kernel
theorem dX8_row_143 : decode cX8_row 143 = .ok (.iconst 1, 1) := by decide +kernel
theorem dX8_row_144 : decode cX8_row 144 = .ok (.ireturn, 1) := by decide +kernel
theorem dX8_year_0 : decode cX8_year 0 = .ok (.iload_n 1, 1) := by decide +kernel
theorem dX8_year_1 : decode cX8_year 1 = .ok (.i2l, 1) := by decide +kernel
theorem dX8_year_2 : decode cX8_year 2 = .ok (.lconst 0, 1) := by decide +kernel
theorem dX8_year_3 : decode cX8_year 3 = .ok (.ldc2_w 335, 3) := by decide +kernel
theorem dX8_year_6 : decode cX8_year 6 = .ok (.invokestatic 109, 3) := by decide +kernel
theorem dX8_year_9 : decode cX8_year 9 = .ok (.ifCond .eq 15, 3) := by decide +kernel
theorem dX8_year_12 : decode cX8_year 12 = .ok (.iload_n 2, 1) := by decide +kernel
theorem dX8_year_13 : decode cX8_year 13 = .ok (.i2l, 1) := by decide +kernel
theorem dX8_year_14 : decode cX8_year 14 = .ok (.lconst 0, 1) := by decide +kernel
theorem dX8_year_15 : decode cX8_year 15 = .ok (.ldc2_w 134, 3) := by decide +kernel
theorem dX8_year_18 : decode cX8_year 18 = .ok (.invokestatic 109, 3) := by decide +kernel
theorem dX8_year_21 : decode cX8_year 21 = .ok (.ifCond .ne 6, 3) := by decide +kernel
theorem dX8_year_24 : decode cX8_year 24 = .ok (.bipush (-2), 2) := by decide +kernel
theorem dX8_year_26 : decode cX8_year 26 = .ok (.ireturn, 1) := by decide +kernel
theorem dX8_year_27 : decode cX8_year 27 = .ok (.aload_n 0, 1) := by decide +kernel
theorem dX8_year_28 : decode cX8_year 28 = .ok (.invokevirtual 337, 3) := by decide +kernel
theorem dX8_year_31 : decode cX8_year 31 = .ok (.iconst 0, 1) := by decide +kernel
theorem dX8_year_32 : decode cX8_year 32 = .ok (.istore_n 3, 1) := by decide +kernel
theorem dX8_year_33 : decode cX8_year 33 = .ok (.iconst 0, 1) := by decide +kernel
theorem dX8_year_34 : decode cX8_year 34 = .ok (.istore 4, 2) := by decide +kernel
theorem dX8_year_36 : decode cX8_year 36 = .ok (.iconst 0, 1) := by decide +kernel
theorem dX8_year_37 : decode cX8_year 37 = .ok (.istore 5, 2) := by decide +kernel
theorem dX8_year_39 : decode cX8_year 39 = .ok (.iload 5, 2) := by decide +kernel
theorem dX8_year_41 : decode cX8_year 41 = .ok (.iload_n 1, 1) := by decide +kernel
theorem dX8_year_42 : decode cX8_year 42 = .ok (.if_icmp .ge 175, 3) := by decide +kernel
theorem dX8_year_45 : decode cX8_year 45 = .ok (.iconst 0, 1) := by decide +kernel
theorem dX8_year_46 : decode cX8_year 46 = .ok (.istore 6, 2) := by decide +kernel
theorem dX8_year_48 : decode cX8_year 48 = .ok (.iload 6, 2) := by decide +kernel
theorem dX8_year_50 : decode cX8_year 50 = .ok (.aload_n 0, 1) := by decide +kernel
theorem dX8_year_51 : decode cX8_year 51 = .ok (.getfield 106, 3) := by decide +kernel
theorem dX8_year_54 : decode cX8_year 54 = .ok (.if_icmp .ge 157, 3) := by decide +kernel
theorem dX8_year_57 : decode cX8_year 57 = .ok (.iconst (-1), 1) := by decide +kernel
theorem dX8_year_58 : decode cX8_year 58 = .ok (.istore 7, 2) := by decide +kernel
theorem dX8_year_60 : decode cX8_year 60 = .ok (.iconst 0, 1) := by decide +kernel
theorem dX8_year_61 : decode cX8_year 61 = .ok (.istore 8, 2) := by decide +kernel
theorem dX8_year_63 : decode cX8_year 63 = .ok (.iload 8, 2) := by decide +kernel
theorem dX8_year_65 : decode cX8_year 65 = .ok (.aload_n 0, 1) := by decide +kernel
theorem dX8_year_66 : decode cX8_year 66 = .ok (.getfield 113, 3) := by decide +kernel
theorem dX8_year_69 : decode cX8_year 69 = .ok (.if_icmp .ge 80, 3) := by decide +kernel
theorem dX8_year_72 : decode cX8_year 72 = .ok (.aload_n 0, 1) := by decide +kernel
theorem dX8_year_73 : decode cX8_year 73 = .ok (.iload 6, 2) := by decide +kernel
theorem dX8_year_75 : decode cX8_year 75 = .ok (.iload 8, 2) := by decide +kernel
theorem dX8_year_77 : decode cX8_year 77 = .ok (.invokevirtual 281, 3) := by decide +kernel
theorem dX8_year_80 : decode cX8_year 80 = .ok (.ifCond .eq 18, 3) := by decide +kernel
theorem dX8_year_83 : decode cX8_year 83 = .ok (.aload_n 0, 1) := by decide +kernel
theorem dX8_year_84 : decode cX8_year 84 = .ok (.iload 6, 2) := by decide +kernel
theorem dX8_year_86 : decode cX8_year 86 = .ok (.iload 8, 2) := by decide +kernel
theorem dX8_year_88 : decode cX8_year 88 = .ok (.invokevirtual 287, 3) := by decide +kernel
theorem dX8_year_91 : decode cX8_year 91 = .ok (.ifCond .eq 7, 3) := by decide +kernel
theorem dX8_year_94 : decode cX8_year 94 = .ok (.iconst 1, 1) := by decide +kernel
theorem dX8_year_95 : decode cX8_year 95 = .ok (.goto 4, 3) := by decide +kernel
theorem dX8_year_98 : decode cX8_year 98 = .ok (.iconst 0, 1) := by decide +kernel
theorem dX8_year_99 : decode cX8_year 99 = .ok (.istore 9, 2) := by decide +kernel
theorem dX8_year_101 : decode cX8_year 101 = .ok (.iload 9, 2) := by decide +kernel
theorem dX8_year_103 : decode cX8_year 103 = .ok (.ifCond .eq 40, 3) := by decide +kernel
theorem dX8_year_106 : decode cX8_year 106 = .ok (.iload 7, 2) := by decide +kernel
theorem dX8_year_108 : decode cX8_year 108 = .ok (.iconst (-1), 1) := by decide +kernel
theorem dX8_year_109 : decode cX8_year 109 = .ok (.if_icmp .eq 30, 3) := by decide +kernel
theorem dX8_year_112 : decode cX8_year 112 = .ok (.aload_n 0, 1) := by decide +kernel
theorem dX8_year_113 : decode cX8_year 113 = .ok (.getfield 23, 3) := by decide +kernel
theorem dX8_year_116 : decode cX8_year 116 = .ok (.iconst 4, 1) := by decide +kernel
theorem dX8_year_117 : decode cX8_year 117 = .ok (.iload 6, 2) := by decide +kernel
theorem dX8_year_119 : decode cX8_year 119 = .ok (.imul, 1) := by decide +kernel
theorem dX8_year_120 : decode cX8_year 120 = .ok (.iload 8, 2) := by decide +kernel
theorem dX8_year_122 : decode cX8_year 122 = .ok (.iadd, 1) := by decide +kernel
theorem dX8_year_123 : decode cX8_year 123 = .ok (.iaload, 1) := by decide +kernel
theorem dX8_year_124 : decode cX8_year 124 = .ok (.aload_n 0, 1) := by decide +kernel
theorem dX8_year_125 : decode cX8_year 125 = .ok (.getfield 23, 3) := by decide +kernel
theorem dX8_year_128 : decode cX8_year 128 = .ok (.iconst 4, 1) := by decide +kernel
theorem dX8_year_129 : decode cX8_year 129 = .ok (.iload 6, 2) := by decide +kernel
theorem dX8_year_131 : decode cX8_year 131 = .ok (.imul, 1) := by decide +kernel
theorem dX8_year_132 : decode cX8_year 132 = .ok (.iload 7, 2) := by decide +kernel
theorem dX8_year_134 : decode cX8_year 134 = .ok (.iadd, 1) := by decide +kernel
theorem dX8_year_135 : decode cX8_year 135 = .ok (.iaload, 1) := by decide +kernel
theorem dX8_year_136 : decode cX8_year 136 = .ok (.if_icmp .le 7, 3) := by decide +kernel
theorem dX8_year_139 : decode cX8_year 139 = .ok (.iload 8, 2) := by decide +kernel
theorem dX8_year_141 : decode cX8_year 141 = .ok (.istore 7, 2) := by decide +kernel
theorem dX8_year_143 : decode cX8_year 143 = .ok (.iinc 8 1, 3) := by decide +kernel
theorem dX8_year_146 : decode cX8_year 146 = .ok (.goto (-83), 3) := by decide +kernel
theorem dX8_year_149 : decode cX8_year 149 = .ok (.iload 7, 2) := by decide +kernel
theorem dX8_year_151 : decode cX8_year 151 = .ok (.iconst (-1), 1) := by decide +kernel
theorem dX8_year_152 : decode cX8_year 152 = .ok (.if_icmp .eq 53, 3) := by decide +kernel
theorem dX8_year_155 : decode cX8_year 155 = .ok (.aload_n 0, 1) := by decide +kernel
theorem dX8_year_156 : decode cX8_year 156 = .ok (.iload 6, 2) := by decide +kernel
theorem dX8_year_158 : decode cX8_year 158 = .ok (.iload 7, 2) := by decide +kernel
theorem dX8_year_160 : decode cX8_year 160 = .ok (.aload_n 0, 1) := by decide +kernel
theorem dX8_year_161 : decode cX8_year 161 = .ok (.getfield 29, 3) := by decide +kernel
theorem dX8_year_164 : decode cX8_year 164 = .ok (.iload 6, 2) := by decide +kernel
theorem dX8_year_166 : decode cX8_year 166 = .ok (.iaload, 1) := by decide +kernel
theorem dX8_year_167 : decode cX8_year 167 = .ok (.invokevirtual 284, 3) := by decide +kernel
theorem dX8_year_170 : decode cX8_year 170 = .ok (.istore 8, 2) := by decide +kernel
theorem dX8_year_172 : decode cX8_year 172 = .ok (.iinc 3 1, 3) := by decide +kernel
theorem dX8_year_175 : decode cX8_year 175 = .ok (.iload 4, 2) := by decide +kernel
theorem dX8_year_177 : decode cX8_year 177 = .ok (.iload 8, 2) := by decide +kernel
theorem dX8_year_179 : decode cX8_year 179 = .ok (.ifCond .eq 12, 3) := by decide +kernel
theorem dX8_year_182 : decode cX8_year 182 = .ok (.aload_n 0, 1) := by decide +kernel
theorem dX8_year_183 : decode cX8_year 183 = .ok (.iload 7, 2) := by decide +kernel
theorem dX8_year_185 : decode cX8_year 185 = .ok (.invokevirtual 140, 3) := by decide +kernel
theorem dX8_year_188 : decode cX8_year 188 = .ok (.goto 4, 3) := by decide +kernel
theorem dX8_year_191 : decode cX8_year 191 = .ok (.iconst 0, 1) := by decide +kernel
theorem dX8_year_192 : decode cX8_year 192 = .ok (.iadd, 1) := by decide +kernel
theorem dX8_year_193 : decode cX8_year 193 = .ok (.istore 4, 2) := by decide +kernel
theorem dX8_year_195 : decode cX8_year 195 = .ok (.aload_n 0, 1) := by decide +kernel
theorem dX8_year_196 : decode cX8_year 196 = .ok (.iload 6, 2) := by decide +kernel
theorem dX8_year_198 : decode cX8_year 198 = .ok (.iload 7, 2) := by decide +kernel
theorem dX8_year_200 : decode cX8_year 200 = .ok (.iload 8, 2) := by decide +kernel
theorem dX8_year_202 : decode cX8_year 202 = .ok (.invokevirtual 290, 3) := by decide +kernel
theorem dX8_year_205 : decode cX8_year 205 = .ok (.iinc 6 1, 3) := by decide +kernel
theorem dX8_year_208 : decode cX8_year 208 = .ok (.goto (-160), 3) := by decide +kernel
theorem dX8_year_211 : decode cX8_year 211 = .ok (.iinc 5 1, 3) := by decide +kernel
theorem dX8_year_214 : decode cX8_year 214 = .ok (.goto (-175), 3) := by decide +kernel
theorem dX8_year_217 : decode cX8_year 217 = .ok (.iconst 0, 1) := by decide +kernel
theorem dX8_year_218 : decode cX8_year 218 = .ok (.istore 5, 2) := by decide +kernel
theorem dX8_year_220 : decode cX8_year 220 = .ok (.iconst 0, 1) := by decide +kernel
theorem dX8_year_221 : decode cX8_year 221 = .ok (.istore 6, 2) := by decide +kernel
theorem dX8_year_223 : decode cX8_year 223 = .ok (.iload 6, 2) := by decide +kernel
theorem dX8_year_225 : decode cX8_year 225 = .ok (.aload_n 0, 1) := by decide +kernel
theorem dX8_year_226 : decode cX8_year 226 = .ok (.getfield 106, 3) := by decide +kernel
theorem dX8_year_229 : decode cX8_year 229 = .ok (.if_icmp .ge 30, 3) := by decide +kernel
theorem dX8_year_232 : decode cX8_year 232 = .ok (.iload 5, 2) := by decide +kernel
theorem dX8_year_234 : decode cX8_year 234 = .ok (.aload_n 0, 1) := by decide +kernel
theorem dX8_year_235 : decode cX8_year 235 = .ok (.getfield 32, 3) := by decide +kernel
theorem dX8_year_238 : decode cX8_year 238 = .ok (.iload 6, 2) := by decide +kernel
theorem dX8_year_240 : decode cX8_year 240 = .ok (.iaload, 1) := by decide +kernel
theorem dX8_year_241 : decode cX8_year 241 = .ok (.iconst (-1), 1) := by decide +kernel
theorem dX8_year_242 : decode cX8_year 242 = .ok (.if_icmp .ne 7, 3) := by decide +kernel
theorem dX8_year_245 : decode cX8_year 245 = .ok (.iconst 0, 1) := by decide +kernel
theorem dX8_year_246 : decode cX8_year 246 = .ok (.goto 4, 3) := by decide +kernel
theorem dX8_year_249 : decode cX8_year 249 = .ok (.iconst 1, 1) := by decide +kernel
theorem dX8_year_250 : decode cX8_year 250 = .ok (.iadd, 1) := by decide +kernel
theorem dX8_year_251 : decode cX8_year 251 = .ok (.istore 5, 2) := by decide +kernel
theorem dX8_year_253 : decode cX8_year 253 = .ok (.iinc 6 1, 3) := by decide +kernel
theorem dX8_year_256 : decode cX8_year 256 = .ok (.goto (-33), 3) := by decide +kernel
theorem dX8_year_259 : decode cX8_year 259 = .ok (.iload_n 2, 1) := by decide +kernel
theorem dX8_year_260 : decode cX8_year 260 = .ok (.ifCond .ne 8, 3) := by decide +kernel
theorem dX8_year_263 : decode cX8_year 263 = .ok (.iload 5, 2) := by decide +kernel
theorem dX8_year_265 : decode cX8_year 265 = .ok (.goto 44, 3) := by decide +kernel
theorem dX8_year_268 : decode cX8_year 268 = .ok (.iload_n 2, 1) := by decide +kernel
theorem dX8_year_269 : decode cX8_year 269 = .ok (.iconst 1, 1) := by decide +kernel
theorem dX8_year_270 : decode cX8_year 270 = .ok (.if_icmp .ne 7, 3) := by decide +kernel
theorem dX8_year_273 : decode cX8_year 273 = .ok (.iload_n 3, 1) := by decide +kernel
theorem dX8_year_274 : decode cX8_year 274 = .ok (.goto 35, 3) := by decide +kernel
theorem dX8_year_277 : decode cX8_year 277 = .ok (.iload_n 2, 1) := by decide +kernel
theorem dX8_year_278 : decode cX8_year 278 = .ok (.iconst 2, 1) := by decide +kernel
theorem dX8_year_279 : decode cX8_year 279 = .ok (.if_icmp .ne 8, 3) := by decide +kernel
theorem dX8_year_282 : decode cX8_year 282 = .ok (.iload 4, 2) := by decide +kernel
theorem dX8_year_284 : decode cX8_year 284 = .ok (.goto 25, 3) := by decide +kernel
theorem dX8_year_287 : decode cX8_year 287 = .ok (.aload_n 0, 1) := by decide +kernel
theorem dX8_year_288 : decode cX8_year 288 = .ok (.iload_n 2, 1) := by decide +kernel
theorem dX8_year_289 : decode cX8_year 289 = .ok (.iconst 3, 1) := by decide +kernel
theorem dX8_year_290 : decode cX8_year 290 = .ok (.isub, 1) := by decide +kernel
theorem dX8_year_291 : decode cX8_year 291 = .ok (.invokevirtual 120, 3) := by decide +kernel
theorem dX8_year_294 : decode cX8_year 294 = .ok (.ifCond .eq 14, 3) := by decide +kernel
theorem dX8_year_297 : decode cX8_year 297 = .ok (.aload_n 0, 1) := by decide +kernel
theorem dX8_year_298 : decode cX8_year 298 = .ok (.getfield 32, 3) := by decide +kernel
theorem dX8_year_301 : decode cX8_year 301 = .ok (.iload_n 2, 1) := by decide +kernel
theorem dX8_year_302 : decode cX8_year 302 = .ok (.iconst 3, 1) := by decide +kernel
theorem dX8_year_303 : decode cX8_year 303 = .ok (.isub, 1) := by decide +kernel
theorem dX8_year_304 : decode cX8_year 304 = .ok (.iaload, 1) := by decide +kernel
theorem dX8_year_305 : decode cX8_year 305 = .ok (.goto 4, 3) := by decide +kernel
theorem dX8_year_308 : decode cX8_year 308 = .ok (.iconst (-1), 1) := by decide +kernel
theorem dX8_year_309 : decode cX8_year 309 = .ok (.istore 6, 2) := by decide +kernel
theorem dX8_year_311 : decode cX8_year 311 = .ok (.aload_n 0, 1) := by decide +kernel
theorem dX8_year_312 : decode cX8_year 312 = .ok (.invokevirtual 340, 3) := by decide +kernel
theorem dX8_year_315 : decode cX8_year 315 = .ok (.iload 6, 2) := by decide +kernel
theorem dX8_year_317 : decode cX8_year 317 = .ok (.ireturn, 1) := by decide +kernel
theorem dX8_judge_0 : decode cX8_judge 0 = .ok (.iload_n 1, 1) := by decide +kernel
theorem dX8_judge_1 : decode cX8_judge 1 = .ok (.invokestatic 332, 3) := by decide +kernel
theorem dX8_judge_4 : decode cX8_judge 4 = .ok (.ifCond .eq 13, 3) := by decide +kernel
theorem dX8_judge_7 : decode cX8_judge 7 = .ok (.iload_n 2, 1) := by decide +kernel
theorem dX8_judge_8 : decode cX8_judge 8 = .ok (.i2l, 1) := by decide +kernel
theorem dX8_judge_9 : decode cX8_judge 9 = .ok (.lconst 0, 1) := by decide +kernel
theorem dX8_judge_10 : decode cX8_judge 10 = .ok (.lconst 1, 1) := by decide +kernel
theorem dX8_judge_11 : decode cX8_judge 11 = .ok (.invokestatic 109, 3) := by decide +kernel
theorem dX8_judge_14 : decode cX8_judge 14 = .ok (.ifCond .ne 6, 3) := by decide +kernel
theorem dX8_judge_17 : decode cX8_judge 17 = .ok (.bipush (-2), 2) := by decide +kernel
theorem dX8_judge_19 : decode cX8_judge 19 = .ok (.ireturn, 1) := by decide +kernel
theorem dX8_judge_20 : decode cX8_judge 20 = .ok (.aload_n 0, 1) := by decide +kernel
theorem dX8_judge_21 : decode cX8_judge 21 = .ok (.getfield 87, 3) := by decide +kernel
theorem dX8_judge_24 : decode cX8_judge 24 = .ok (.iload_n 1, 1) := by decide +kernel
theorem dX8_judge_25 : decode cX8_judge 25 = .ok (.baload, 1) := by decide +kernel
theorem dX8_judge_26 : decode cX8_judge 26 = .ok (.ifCond .ne 6, 3) := by decide +kernel
theorem dX8_judge_29 : decode cX8_judge 29 = .ok (.bipush (-11), 2) := by decide +kernel
theorem dX8_judge_31 : decode cX8_judge 31 = .ok (.ireturn, 1) := by decide +kernel
theorem dX8_judge_32 : decode cX8_judge 32 = .ok (.aload_n 0, 1) := by decide +kernel
theorem dX8_judge_33 : decode cX8_judge 33 = .ok (.getfield 93, 3) := by decide +kernel
theorem dX8_judge_36 : decode cX8_judge 36 = .ok (.iload_n 1, 1) := by decide +kernel
theorem dX8_judge_37 : decode cX8_judge 37 = .ok (.iaload, 1) := by decide +kernel
theorem dX8_judge_38 : decode cX8_judge 38 = .ok (.iconst 3, 1) := by decide +kernel
theorem dX8_judge_39 : decode cX8_judge 39 = .ok (.irem, 1) := by decide +kernel
theorem dX8_judge_40 : decode cX8_judge 40 = .ok (.ifCond .eq 6, 3) := by decide +kernel
theorem dX8_judge_43 : decode cX8_judge 43 = .ok (.bipush (-2), 2) := by decide +kernel
theorem dX8_judge_45 : decode cX8_judge 45 = .ok (.ireturn, 1) := by decide +kernel
theorem dX8_judge_46 : decode cX8_judge 46 = .ok (.aload_n 0, 1) := by decide +kernel
theorem dX8_judge_47 : decode cX8_judge 47 = .ok (.invokevirtual 337, 3) := by decide +kernel
theorem dX8_judge_50 : decode cX8_judge 50 = .ok (.iconst (-1), 1) := by decide +kernel
theorem dX8_judge_51 : decode cX8_judge 51 = .ok (.istore_n 3, 1) := by decide +kernel
theorem dX8_judge_52 : decode cX8_judge 52 = .ok (.iconst 0, 1) := by decide +kernel
theorem dX8_judge_53 : decode cX8_judge 53 = .ok (.istore 4, 2) := by decide +kernel
theorem dX8_judge_55 : decode cX8_judge 55 = .ok (.iconst 0, 1) := by decide +kernel
theorem dX8_judge_56 : decode cX8_judge 56 = .ok (.istore 5, 2) := by decide +kernel
theorem dX8_judge_58 : decode cX8_judge 58 = .ok (.iload 5, 2) := by decide +kernel
theorem dX8_judge_60 : decode cX8_judge 60 = .ok (.aload_n 0, 1) := by decide +kernel
theorem dX8_judge_61 : decode cX8_judge 61 = .ok (.getfield 93, 3) := by decide +kernel
theorem dX8_judge_64 : decode cX8_judge 64 = .ok (.iload_n 1, 1) := by decide +kernel
theorem dX8_judge_65 : decode cX8_judge 65 = .ok (.iaload, 1) := by decide +kernel
theorem dX8_judge_66 : decode cX8_judge 66 = .ok (.iconst 3, 1) := by decide +kernel
theorem dX8_judge_67 : decode cX8_judge 67 = .ok (.idiv, 1) := by decide +kernel
theorem dX8_judge_68 : decode cX8_judge 68 = .ok (.if_icmp .ge 169, 3) := by decide +kernel
theorem dX8_judge_71 : decode cX8_judge 71 = .ok (.iload_n 3, 1) := by decide +kernel
theorem dX8_judge_72 : decode cX8_judge 72 = .ok (.iconst (-1), 1) := by decide +kernel
theorem dX8_judge_73 : decode cX8_judge 73 = .ok (.if_icmp .ne 164, 3) := by decide +kernel
theorem dX8_judge_76 : decode cX8_judge 76 = .ok (.aload_n 0, 1) := by decide +kernel
theorem dX8_judge_77 : decode cX8_judge 77 = .ok (.getfield 96, 3) := by decide +kernel
theorem dX8_judge_80 : decode cX8_judge 80 = .ok (.bipush 40, 2) := by decide +kernel
theorem dX8_judge_82 : decode cX8_judge 82 = .ok (.iload_n 1, 1) := by decide +kernel
theorem dX8_judge_83 : decode cX8_judge 83 = .ok (.imul, 1) := by decide +kernel
theorem dX8_judge_84 : decode cX8_judge 84 = .ok (.iconst 3, 1) := by decide +kernel
theorem dX8_judge_85 : decode cX8_judge 85 = .ok (.iload 5, 2) := by decide +kernel
theorem dX8_judge_87 : decode cX8_judge 87 = .ok (.imul, 1) := by decide +kernel
theorem dX8_judge_88 : decode cX8_judge 88 = .ok (.iadd, 1) := by decide +kernel
theorem dX8_judge_89 : decode cX8_judge 89 = .ok (.iaload, 1) := by decide +kernel
theorem dX8_judge_90 : decode cX8_judge 90 = .ok (.istore 6, 2) := by decide +kernel
theorem dX8_judge_92 : decode cX8_judge 92 = .ok (.aload_n 0, 1) := by decide +kernel
theorem dX8_judge_93 : decode cX8_judge 93 = .ok (.getfield 96, 3) := by decide +kernel
theorem dX8_judge_96 : decode cX8_judge 96 = .ok (.bipush 40, 2) := by decide +kernel
theorem dX8_judge_98 : decode cX8_judge 98 = .ok (.iload_n 1, 1) := by decide +kernel
theorem dX8_judge_99 : decode cX8_judge 99 = .ok (.imul, 1) := by decide +kernel
theorem dX8_judge_100 : decode cX8_judge 100 = .ok (.iconst 3, 1) := by decide +kernel
theorem dX8_judge_101 : decode cX8_judge 101 = .ok (.iload 5, 2) := by decide +kernel
theorem dX8_judge_103 : decode cX8_judge 103 = .ok (.imul, 1) := by decide +kernel
theorem dX8_judge_104 : decode cX8_judge 104 = .ok (.iadd, 1) := by decide +kernel
theorem dX8_judge_105 : decode cX8_judge 105 = .ok (.iconst 1, 1) := by decide +kernel
theorem dX8_judge_106 : decode cX8_judge 106 = .ok (.iadd, 1) := by decide +kernel
theorem dX8_judge_107 : decode cX8_judge 107 = .ok (.iaload, 1) := by decide +kernel
theorem dX8_judge_108 : decode cX8_judge 108 = .ok (.istore 7, 2) := by decide +kernel
theorem dX8_judge_110 : decode cX8_judge 110 = .ok (.aload_n 0, 1) := by decide +kernel
theorem dX8_judge_111 : decode cX8_judge 111 = .ok (.getfield 96, 3) := by decide +kernel
theorem dX8_judge_114 : decode cX8_judge 114 = .ok (.bipush 40, 2) := by decide +kernel
theorem dX8_judge_116 : decode cX8_judge 116 = .ok (.iload_n 1, 1) := by decide +kernel
theorem dX8_judge_117 : decode cX8_judge 117 = .ok (.imul, 1) := by decide +kernel
theorem dX8_judge_118 : decode cX8_judge 118 = .ok (.iconst 3, 1) := by decide +kernel
theorem dX8_judge_119 : decode cX8_judge 119 = .ok (.iload 5, 2) := by decide +kernel
theorem dX8_judge_121 : decode cX8_judge 121 = .ok (.imul, 1) := by decide +kernel
theorem dX8_judge_122 : decode cX8_judge 122 = .ok (.iadd, 1) := by decide +kernel
theorem dX8_judge_123 : decode cX8_judge 123 = .ok (.iconst 2, 1) := by decide +kernel
theorem dX8_judge_124 : decode cX8_judge 124 = .ok (.iadd, 1) := by decide +kernel
theorem dX8_judge_125 : decode cX8_judge 125 = .ok (.iaload, 1) := by decide +kernel
theorem dX8_judge_126 : decode cX8_judge 126 = .ok (.istore 8, 2) := by decide +kernel
theorem dX8_judge_128 : decode cX8_judge 128 = .ok (.aload_n 0, 1) := by decide +kernel
theorem dX8_judge_129 : decode cX8_judge 129 = .ok (.iload 6, 2) := by decide +kernel
theorem dX8_judge_131 : decode cX8_judge 131 = .ok (.invokevirtual 120, 3) := by decide +kernel
theorem dX8_judge_134 : decode cX8_judge 134 = .ok (.ifCond .eq 94, 3) := by decide +kernel
theorem dX8_judge_137 : decode cX8_judge 137 = .ok (.aload_n 0, 1) := by decide +kernel
theorem dX8_judge_138 : decode cX8_judge 138 = .ok (.iload 7, 2) := by decide +kernel
theorem dX8_judge_140 : decode cX8_judge 140 = .ok (.invokevirtual 124, 3) := by decide +kernel
theorem dX8_judge_143 : decode cX8_judge 143 = .ok (.ifCond .eq 85, 3) := by decide +kernel
theorem dX8_judge_146 : decode cX8_judge 146 = .ok (.iload 8, 2) := by decide +kernel
theorem dX8_judge_148 : decode cX8_judge 148 = .ok (.i2l, 1) := by decide +kernel
theorem dX8_judge_149 : decode cX8_judge 149 = .ok (.lconst 0, 1) := by decide +kernel
theorem dX8_judge_150 : decode cX8_judge 150 = .ok (.lconst 1, 1) := by decide +kernel
theorem dX8_judge_151 : decode cX8_judge 151 = .ok (.invokestatic 109, 3) := by decide +kernel
theorem dX8_judge_154 : decode cX8_judge 154 = .ok (.ifCond .eq 74, 3) := by decide +kernel
theorem dX8_judge_157 : decode cX8_judge 157 = .ok (.aload_n 0, 1) := by decide +kernel
theorem dX8_judge_158 : decode cX8_judge 158 = .ok (.iload 6, 2) := by decide +kernel
theorem dX8_judge_160 : decode cX8_judge 160 = .ok (.iload 7, 2) := by decide +kernel
theorem dX8_judge_162 : decode cX8_judge 162 = .ok (.invokevirtual 281, 3) := by decide +kernel
theorem dX8_judge_165 : decode cX8_judge 165 = .ok (.ifCond .eq 63, 3) := by decide +kernel
theorem dX8_judge_168 : decode cX8_judge 168 = .ok (.iload 4, 2) := by decide +kernel
theorem dX8_judge_170 : decode cX8_judge 170 = .ok (.aload_n 0, 1) := by decide +kernel
theorem dX8_judge_171 : decode cX8_judge 171 = .ok (.iload 6, 2) := by decide +kernel
theorem dX8_judge_173 : decode cX8_judge 173 = .ok (.iload 7, 2) := by decide +kernel
theorem dX8_judge_175 : decode cX8_judge 175 = .ok (.aload_n 0, 1) := by decide +kernel
theorem dX8_judge_176 : decode cX8_judge 176 = .ok (.getfield 29, 3) := by decide +kernel
theorem dX8_judge_179 : decode cX8_judge 179 = .ok (.iload 6, 2) := by decide +kernel
theorem dX8_judge_181 : decode cX8_judge 181 = .ok (.iaload, 1) := by decide +kernel
theorem dX8_judge_182 : decode cX8_judge 182 = .ok (.invokevirtual 284, 3) := by decide +kernel
theorem dX8_judge_185 : decode cX8_judge 185 = .ok (.iload 8, 2) := by decide +kernel
theorem dX8_judge_187 : decode cX8_judge 187 = .ok (.iconst 1, 1) := by decide +kernel
theorem dX8_judge_188 : decode cX8_judge 188 = .ok (.if_icmp .ne 7, 3) := by decide +kernel
theorem dX8_judge_191 : decode cX8_judge 191 = .ok (.iconst 1, 1) := by decide +kernel
theorem dX8_judge_192 : decode cX8_judge 192 = .ok (.goto 4, 3) := by decide +kernel
theorem dX8_judge_195 : decode cX8_judge 195 = .ok (.iconst 0, 1) := by decide +kernel
theorem dX8_judge_196 : decode cX8_judge 196 = .ok (.if_icmp .ne 7, 3) := by decide +kernel
theorem dX8_judge_199 : decode cX8_judge 199 = .ok (.iconst 1, 1) := by decide +kernel
theorem dX8_judge_200 : decode cX8_judge 200 = .ok (.goto 4, 3) := by decide +kernel
theorem dX8_judge_203 : decode cX8_judge 203 = .ok (.iconst 0, 1) := by decide +kernel
theorem dX8_judge_204 : decode cX8_judge 204 = .ok (.iadd, 1) := by decide +kernel
theorem dX8_judge_205 : decode cX8_judge 205 = .ok (.istore 4, 2) := by decide +kernel
theorem dX8_judge_207 : decode cX8_judge 207 = .ok (.aload_n 0, 1) := by decide +kernel
theorem dX8_judge_208 : decode cX8_judge 208 = .ok (.iload 6, 2) := by decide +kernel
theorem dX8_judge_210 : decode cX8_judge 210 = .ok (.iload 7, 2) := by decide +kernel
theorem dX8_judge_212 : decode cX8_judge 212 = .ok (.iload 8, 2) := by decide +kernel
theorem dX8_judge_214 : decode cX8_judge 214 = .ok (.ifCond .ne 7, 3) := by decide +kernel
theorem dX8_judge_217 : decode cX8_judge 217 = .ok (.iconst 1, 1) := by decide +kernel
theorem dX8_judge_218 : decode cX8_judge 218 = .ok (.goto 4, 3) := by decide +kernel
theorem dX8_judge_221 : decode cX8_judge 221 = .ok (.iconst 0, 1) := by decide +kernel
theorem dX8_judge_222 : decode cX8_judge 222 = .ok (.invokevirtual 290, 3) := by decide +kernel
theorem dX8_judge_225 : decode cX8_judge 225 = .ok (.goto 6, 3) := by decide +kernel
theorem dX8_judge_228 : decode cX8_judge 228 = .ok (.iload 5, 2) := by decide +kernel
theorem dX8_judge_230 : decode cX8_judge 230 = .ok (.istore_n 3, 1) := by decide +kernel
theorem dX8_judge_231 : decode cX8_judge 231 = .ok (.iinc 5 1, 3) := by decide +kernel
theorem dX8_judge_234 : decode cX8_judge 234 = .ok (.goto (-176), 3) := by decide +kernel
theorem dX8_judge_237 : decode cX8_judge 237 = .ok (.aload_n 0, 1) := by decide +kernel
theorem dX8_judge_238 : decode cX8_judge 238 = .ok (.invokevirtual 340, 3) := by decide +kernel
theorem dX8_judge_241 : decode cX8_judge 241 = .ok (.iload_n 2, 1) := by decide +kernel
theorem dX8_judge_242 : decode cX8_judge 242 = .ok (.ifCond .ne 7, 3) := by decide +kernel
theorem dX8_judge_245 : decode cX8_judge 245 = .ok (.iload_n 3, 1) := by decide +kernel
theorem dX8_judge_246 : decode cX8_judge 246 = .ok (.goto 5, 3) := by decide +kernel
theorem dX8_judge_249 : decode cX8_judge 249 = .ok (.iload 4, 2) := by decide +kernel
theorem dX8_judge_251 : decode cX8_judge 251 = .ok (.ireturn, 1) := by decide +kernel
theorem dX8_drawn_0 : decode cX8_drawn 0 = .ok (.iconst 0, 1) := by decide +kernel
theorem dX8_drawn_1 : decode cX8_drawn 1 = .ok (.istore_n 2, 1) := by decide +kernel
theorem dX8_drawn_2 : decode cX8_drawn 2 = .ok (.iload_n 2, 1) := by decide +kernel
theorem dX8_drawn_3 : decode cX8_drawn 3 = .ok (.bipush 16, 2) := by decide +kernel
theorem dX8_drawn_5 : decode cX8_drawn 5 = .ok (.if_icmp .ge 21, 3) := by decide +kernel
theorem dX8_drawn_8 : decode cX8_drawn 8 = .ok (.aload_n 0, 1) := by decide +kernel
theorem dX8_drawn_9 : decode cX8_drawn 9 = .ok (.getfield 72, 3) := by decide +kernel
theorem dX8_drawn_12 : decode cX8_drawn 12 = .ok (.iload_n 2, 1) := by decide +kernel
theorem dX8_drawn_13 : decode cX8_drawn 13 = .ok (.aload_n 0, 1) := by decide +kernel
theorem dX8_drawn_14 : decode cX8_drawn 14 = .ok (.getfield 26, 3) := by decide +kernel
theorem dX8_drawn_17 : decode cX8_drawn 17 = .ok (.iload_n 2, 1) := by decide +kernel
theorem dX8_drawn_18 : decode cX8_drawn 18 = .ok (.iaload, 1) := by decide +kernel
theorem dX8_drawn_19 : decode cX8_drawn 19 = .ok (.iastore, 1) := by decide +kernel
theorem dX8_drawn_20 : decode cX8_drawn 20 = .ok (.iinc 2 1, 3) := by decide +kernel
theorem dX8_drawn_23 : decode cX8_drawn 23 = .ok (.goto (-21), 3) := by decide +kernel
theorem dX8_drawn_26 : decode cX8_drawn 26 = .ok (.iload_n 1, 1) := by decide +kernel
theorem dX8_drawn_27 : decode cX8_drawn 27 = .ok (.istore_n 2, 1) := by decide +kernel
theorem dX8_drawn_28 : decode cX8_drawn 28 = .ok (.iconst 0, 1) := by decide +kernel
theorem dX8_drawn_29 : decode cX8_drawn 29 = .ok (.istore_n 3, 1) := by decide +kernel
theorem dX8_drawn_30 : decode cX8_drawn 30 = .ok (.iload_n 3, 1) := by decide +kernel
theorem dX8_drawn_31 : decode cX8_drawn 31 = .ok (.aload_n 0, 1) := by decide +kernel
theorem dX8_drawn_32 : decode cX8_drawn 32 = .ok (.getfield 106, 3) := by decide +kernel
theorem dX8_drawn_35 : decode cX8_drawn 35 = .ok (.if_icmp .ge 55, 3) := by decide +kernel
theorem dX8_drawn_38 : decode cX8_drawn 38 = .ok (.iconst 0, 1) := by decide +kernel
theorem dX8_drawn_39 : decode cX8_drawn 39 = .ok (.istore 4, 2) := by decide +kernel
theorem dX8_drawn_41 : decode cX8_drawn 41 = .ok (.iload 4, 2) := by decide +kernel
theorem dX8_drawn_43 : decode cX8_drawn 43 = .ok (.aload_n 0, 1) := by decide +kernel
theorem dX8_drawn_44 : decode cX8_drawn 44 = .ok (.getfield 113, 3) := by decide +kernel
theorem dX8_drawn_47 : decode cX8_drawn 47 = .ok (.if_icmp .ge 37, 3) := by decide +kernel
theorem dX8_drawn_50 : decode cX8_drawn 50 = .ok (.iload_n 2, 1) := by decide +kernel
theorem dX8_drawn_51 : decode cX8_drawn 51 = .ok (.ldc_w 343, 3) := by decide +kernel
theorem dX8_drawn_54 : decode cX8_drawn 54 = .ok (.imul, 1) := by decide +kernel
theorem dX8_drawn_55 : decode cX8_drawn 55 = .ok (.sipush 12345, 3) := by decide +kernel
theorem dX8_drawn_58 : decode cX8_drawn 58 = .ok (.iadd, 1) := by decide +kernel
theorem dX8_drawn_59 : decode cX8_drawn 59 = .ok (.istore_n 2, 1) := by decide +kernel
theorem dX8_drawn_60 : decode cX8_drawn 60 = .ok (.aload_n 0, 1) := by decide +kernel
theorem dX8_drawn_61 : decode cX8_drawn 61 = .ok (.getfield 26, 3) := by decide +kernel
theorem dX8_drawn_64 : decode cX8_drawn 64 = .ok (.iconst 4, 1) := by decide +kernel
theorem dX8_drawn_65 : decode cX8_drawn 65 = .ok (.iload_n 3, 1) := by decide +kernel
theorem dX8_drawn_66 : decode cX8_drawn 66 = .ok (.imul, 1) := by decide +kernel
theorem dX8_drawn_67 : decode cX8_drawn 67 = .ok (.iload 4, 2) := by decide +kernel
theorem dX8_drawn_69 : decode cX8_drawn 69 = .ok (.iadd, 1) := by decide +kernel
theorem dX8_drawn_70 : decode cX8_drawn 70 = .ok (.iload_n 2, 1) := by decide +kernel
theorem dX8_drawn_71 : decode cX8_drawn 71 = .ok (.bipush 9, 2) := by decide +kernel
theorem dX8_drawn_73 : decode cX8_drawn 73 = .ok (.iushr, 1) := by decide +kernel
theorem dX8_drawn_74 : decode cX8_drawn 74 = .ok (.bipush 100, 2) := by decide +kernel
theorem dX8_drawn_76 : decode cX8_drawn 76 = .ok (.irem, 1) := by decide +kernel
theorem dX8_drawn_77 : decode cX8_drawn 77 = .ok (.iastore, 1) := by decide +kernel
theorem dX8_drawn_78 : decode cX8_drawn 78 = .ok (.iinc 4 1, 3) := by decide +kernel
theorem dX8_drawn_81 : decode cX8_drawn 81 = .ok (.goto (-40), 3) := by decide +kernel
theorem dX8_drawn_84 : decode cX8_drawn 84 = .ok (.iinc 3 1, 3) := by decide +kernel
theorem dX8_drawn_87 : decode cX8_drawn 87 = .ok (.goto (-57), 3) := by decide +kernel
theorem dX8_drawn_90 : decode cX8_drawn 90 = .ok (.aload_n 0, 1) := by decide +kernel
theorem dX8_drawn_91 : decode cX8_drawn 91 = .ok (.iconst 1, 1) := by decide +kernel
theorem dX8_drawn_92 : decode cX8_drawn 92 = .ok (.invokevirtual 329, 3) := by decide +kernel
theorem dX8_drawn_95 : decode cX8_drawn 95 = .ok (.istore_n 3, 1) := by decide +kernel
theorem dX8_drawn_96 : decode cX8_drawn 96 = .ok (.iconst 0, 1) := by decide +kernel
theorem dX8_drawn_97 : decode cX8_drawn 97 = .ok (.istore 4, 2) := by decide +kernel
theorem dX8_drawn_99 : decode cX8_drawn 99 = .ok (.iload 4, 2) := by decide +kernel
theorem dX8_drawn_101 : decode cX8_drawn 101 = .ok (.bipush 16, 2) := by decide +kernel
theorem dX8_drawn_103 : decode cX8_drawn 103 = .ok (.if_icmp .ge 23, 3) := by decide +kernel
theorem dX8_drawn_106 : decode cX8_drawn 106 = .ok (.aload_n 0, 1) := by decide +kernel
theorem dX8_drawn_107 : decode cX8_drawn 107 = .ok (.getfield 26, 3) := by decide +kernel
theorem dX8_drawn_110 : decode cX8_drawn 110 = .ok (.iload 4, 2) := by decide +kernel
theorem dX8_drawn_112 : decode cX8_drawn 112 = .ok (.aload_n 0, 1) := by decide +kernel
theorem dX8_drawn_113 : decode cX8_drawn 113 = .ok (.getfield 72, 3) := by decide +kernel
theorem dX8_drawn_116 : decode cX8_drawn 116 = .ok (.iload 4, 2) := by decide +kernel
theorem dX8_drawn_118 : decode cX8_drawn 118 = .ok (.iaload, 1) := by decide +kernel
theorem dX8_drawn_119 : decode cX8_drawn 119 = .ok (.iastore, 1) := by decide +kernel
theorem dX8_drawn_120 : decode cX8_drawn 120 = .ok (.iinc 4 1, 3) := by decide +kernel
theorem dX8_drawn_123 : decode cX8_drawn 123 = .ok (.goto (-24), 3) := by decide +kernel
theorem dX8_drawn_126 : decode cX8_drawn 126 = .ok (.iload_n 3, 1) := by decide +kernel
theorem dX8_drawn_127 : decode cX8_drawn 127 = .ok (.ireturn, 1) := by decide +kernel
theorem dX8_chance_0 : decode cX8_chance 0 = .ok (.iload_n 2, 1) := by decide +kernel
theorem dX8_chance_1 : decode cX8_chance 1 = .ok (.i2l, 1) := by decide +kernel
theorem dX8_chance_2 : decode cX8_chance 2 = .ok (.lconst 1, 1) := by decide +kernel
theorem dX8_chance_3 : decode cX8_chance 3 = .ok (.ldc2_w 344, 3) := by decide +kernel
theorem dX8_chance_6 : decode cX8_chance 6 = .ok (.invokestatic 109, 3) := by decide +kernel
theorem dX8_chance_9 : decode cX8_chance 9 = .ok (.ifCond .eq 13, 3) := by decide +kernel
theorem dX8_chance_12 : decode cX8_chance 12 = .ok (.iload_n 3, 1) := by decide +kernel
theorem dX8_chance_13 : decode cX8_chance 13 = .ok (.i2l, 1) := by decide +kernel
theorem dX8_chance_14 : decode cX8_chance 14 = .ok (.lconst 0, 1) := by decide +kernel
theorem dX8_chance_15 : decode cX8_chance 15 = .ok (.lconst 1, 1) := by decide +kernel
theorem dX8_chance_16 : decode cX8_chance 16 = .ok (.invokestatic 109, 3) := by decide +kernel
theorem dX8_chance_19 : decode cX8_chance 19 = .ok (.ifCond .ne 7, 3) := by decide +kernel
theorem dX8_chance_22 : decode cX8_chance 22 = .ok (.ldc2_w 346, 3) := by decide +kernel
theorem dX8_chance_25 : decode cX8_chance 25 = .ok (.lreturn, 1) := by decide +kernel
theorem dX8_chance_26 : decode cX8_chance 26 = .ok (.lconst 0, 1) := by decide +kernel
theorem dX8_chance_27 : decode cX8_chance 27 = .ok (.lstore 4, 2) := by decide +kernel
theorem dX8_chance_29 : decode cX8_chance 29 = .ok (.iconst 0, 1) := by decide +kernel
theorem dX8_chance_30 : decode cX8_chance 30 = .ok (.istore 6, 2) := by decide +kernel
theorem dX8_chance_32 : decode cX8_chance 32 = .ok (.iload 6, 2) := by decide +kernel
theorem dX8_chance_34 : decode cX8_chance 34 = .ok (.iload_n 2, 1) := by decide +kernel
theorem dX8_chance_35 : decode cX8_chance 35 = .ok (.if_icmp .ge 30, 3) := by decide +kernel
theorem dX8_chance_38 : decode cX8_chance 38 = .ok (.lload 4, 2) := by decide +kernel
theorem dX8_chance_40 : decode cX8_chance 40 = .ok (.aload_n 0, 1) := by decide +kernel
theorem dX8_chance_41 : decode cX8_chance 41 = .ok (.iload_n 1, 1) := by decide +kernel
theorem dX8_chance_42 : decode cX8_chance 42 = .ok (.iload 6, 2) := by decide +kernel
theorem dX8_chance_44 : decode cX8_chance 44 = .ok (.iadd, 1) := by decide +kernel
theorem dX8_chance_45 : decode cX8_chance 45 = .ok (.invokevirtual 348, 3) := by decide +kernel
theorem dX8_chance_48 : decode cX8_chance 48 = .ok (.ifCond .le 7, 3) := by decide +kernel
theorem dX8_chance_51 : decode cX8_chance 51 = .ok (.lconst 1, 1) := by decide +kernel
theorem dX8_chance_52 : decode cX8_chance 52 = .ok (.goto 4, 3) := by decide +kernel
theorem dX8_chance_55 : decode cX8_chance 55 = .ok (.lconst 0, 1) := by decide +kernel
theorem dX8_chance_56 : decode cX8_chance 56 = .ok (.ladd, 1) := by decide +kernel
theorem dX8_chance_57 : decode cX8_chance 57 = .ok (.lstore 4, 2) := by decide +kernel
theorem dX8_chance_59 : decode cX8_chance 59 = .ok (.iinc 6 1, 3) := by decide +kernel
theorem dX8_chance_62 : decode cX8_chance 62 = .ok (.goto (-30), 3) := by decide +kernel
theorem dX8_chance_65 : decode cX8_chance 65 = .ok (.lload 4, 2) := by decide +kernel
theorem dX8_chance_67 : decode cX8_chance 67 = .ok (.lstore 6, 2) := by decide +kernel
theorem dX8_chance_69 : decode cX8_chance 69 = .ok (.iload_n 2, 1) := by decide +kernel
theorem dX8_chance_70 : decode cX8_chance 70 = .ok (.i2l, 1) := by decide +kernel
theorem dX8_chance_71 : decode cX8_chance 71 = .ok (.lstore 8, 2) := by decide +kernel
theorem dX8_chance_73 : decode cX8_chance 73 = .ok (.lload 8, 2) := by decide +kernel
theorem dX8_chance_75 : decode cX8_chance 75 = .ok (.lconst 0, 1) := by decide +kernel
theorem dX8_chance_76 : decode cX8_chance 76 = .ok (.lcmp, 1) := by decide +kernel
theorem dX8_chance_77 : decode cX8_chance 77 = .ok (.ifCond .eq 21, 3) := by decide +kernel
theorem dX8_chance_80 : decode cX8_chance 80 = .ok (.lload 6, 2) := by decide +kernel
theorem dX8_chance_82 : decode cX8_chance 82 = .ok (.lload 8, 2) := by decide +kernel
theorem dX8_chance_84 : decode cX8_chance 84 = .ok (.lrem, 1) := by decide +kernel
theorem dX8_chance_85 : decode cX8_chance 85 = .ok (.lstore 10, 2) := by decide +kernel
theorem dX8_chance_87 : decode cX8_chance 87 = .ok (.lload 8, 2) := by decide +kernel
theorem dX8_chance_89 : decode cX8_chance 89 = .ok (.lstore 6, 2) := by decide +kernel
theorem dX8_chance_91 : decode cX8_chance 91 = .ok (.lload 10, 2) := by decide +kernel
theorem dX8_chance_93 : decode cX8_chance 93 = .ok (.lstore 8, 2) := by decide +kernel
theorem dX8_chance_95 : decode cX8_chance 95 = .ok (.goto (-22), 3) := by decide +kernel
theorem dX8_chance_98 : decode cX8_chance 98 = .ok (.iload_n 3, 1) := by decide +kernel
theorem dX8_chance_99 : decode cX8_chance 99 = .ok (.ifCond .ne 11, 3) := by decide +kernel
theorem dX8_chance_102 : decode cX8_chance 102 = .ok (.lload 4, 2) := by decide +kernel
theorem dX8_chance_104 : decode cX8_chance 104 = .ok (.lload 6, 2) := by decide +kernel
theorem dX8_chance_106 : decode cX8_chance 106 = .ok (.ldiv, 1) := by decide +kernel
theorem dX8_chance_107 : decode cX8_chance 107 = .ok (.goto 8, 3) := by decide +kernel
theorem dX8_chance_110 : decode cX8_chance 110 = .ok (.iload_n 2, 1) := by decide +kernel
theorem dX8_chance_111 : decode cX8_chance 111 = .ok (.i2l, 1) := by decide +kernel
theorem dX8_chance_112 : decode cX8_chance 112 = .ok (.lload 6, 2) := by decide +kernel
theorem dX8_chance_114 : decode cX8_chance 114 = .ok (.ldiv, 1) := by decide +kernel
theorem dX8_chance_115 : decode cX8_chance 115 = .ok (.lreturn, 1) := by decide +kernel
theorem dX8_image_0 : decode cX8_image 0 = .ok (.iconst 0, 1) := by decide +kernel
theorem dX8_image_1 : decode cX8_image 1 = .ok (.istore_n 1, 1) := by decide +kernel
theorem dX8_image_2 : decode cX8_image 2 = .ok (.iload_n 1, 1) := by decide +kernel
theorem dX8_image_3 : decode cX8_image 3 = .ok (.bipush 16, 2) := by decide +kernel
theorem dX8_image_5 : decode cX8_image 5 = .ok (.if_icmp .ge 33, 3) := by decide +kernel
theorem dX8_image_8 : decode cX8_image 8 = .ok (.aload_n 0, 1) := by decide +kernel
theorem dX8_image_9 : decode cX8_image 9 = .ok (.getfield 75, 3) := by decide +kernel
theorem dX8_image_12 : decode cX8_image 12 = .ok (.iload_n 1, 1) := by decide +kernel
theorem dX8_image_13 : decode cX8_image 13 = .ok (.aload_n 0, 1) := by decide +kernel
theorem dX8_image_14 : decode cX8_image 14 = .ok (.getfield 23, 3) := by decide +kernel
theorem dX8_image_17 : decode cX8_image 17 = .ok (.iload_n 1, 1) := by decide +kernel
theorem dX8_image_18 : decode cX8_image 18 = .ok (.iaload, 1) := by decide +kernel
theorem dX8_image_19 : decode cX8_image 19 = .ok (.iastore, 1) := by decide +kernel
theorem dX8_image_20 : decode cX8_image 20 = .ok (.aload_n 0, 1) := by decide +kernel
theorem dX8_image_21 : decode cX8_image 21 = .ok (.getfield 78, 3) := by decide +kernel
theorem dX8_image_24 : decode cX8_image 24 = .ok (.iload_n 1, 1) := by decide +kernel
theorem dX8_image_25 : decode cX8_image 25 = .ok (.aload_n 0, 1) := by decide +kernel
theorem dX8_image_26 : decode cX8_image 26 = .ok (.getfield 26, 3) := by decide +kernel
theorem dX8_image_29 : decode cX8_image 29 = .ok (.iload_n 1, 1) := by decide +kernel
theorem dX8_image_30 : decode cX8_image 30 = .ok (.iaload, 1) := by decide +kernel
theorem dX8_image_31 : decode cX8_image 31 = .ok (.iastore, 1) := by decide +kernel
theorem dX8_image_32 : decode cX8_image 32 = .ok (.iinc 1 1, 3) := by decide +kernel
theorem dX8_image_35 : decode cX8_image 35 = .ok (.goto (-33), 3) := by decide +kernel
theorem dX8_image_38 : decode cX8_image 38 = .ok (.iconst 0, 1) := by decide +kernel
theorem dX8_image_39 : decode cX8_image 39 = .ok (.istore_n 1, 1) := by decide +kernel
theorem dX8_image_40 : decode cX8_image 40 = .ok (.iload_n 1, 1) := by decide +kernel
theorem dX8_image_41 : decode cX8_image 41 = .ok (.iconst 4, 1) := by decide +kernel
theorem dX8_image_42 : decode cX8_image 42 = .ok (.if_icmp .ge 65, 3) := by decide +kernel
theorem dX8_image_45 : decode cX8_image 45 = .ok (.aload_n 0, 1) := by decide +kernel
theorem dX8_image_46 : decode cX8_image 46 = .ok (.getfield 81, 3) := by decide +kernel
theorem dX8_image_49 : decode cX8_image 49 = .ok (.iload_n 1, 1) := by decide +kernel
theorem dX8_image_50 : decode cX8_image 50 = .ok (.aload_n 0, 1) := by decide +kernel
theorem dX8_image_51 : decode cX8_image 51 = .ok (.getfield 29, 3) := by decide +kernel
theorem dX8_image_54 : decode cX8_image 54 = .ok (.iload_n 1, 1) := by decide +kernel
theorem dX8_image_55 : decode cX8_image 55 = .ok (.iaload, 1) := by decide +kernel
theorem dX8_image_56 : decode cX8_image 56 = .ok (.iastore, 1) := by decide +kernel
theorem dX8_image_57 : decode cX8_image 57 = .ok (.aload_n 0, 1) := by decide +kernel
theorem dX8_image_58 : decode cX8_image 58 = .ok (.getfield 81, 3) := by decide +kernel
theorem dX8_image_61 : decode cX8_image 61 = .ok (.iconst 4, 1) := by decide +kernel
theorem dX8_image_62 : decode cX8_image 62 = .ok (.iload_n 1, 1) := by decide +kernel
theorem dX8_image_63 : decode cX8_image 63 = .ok (.iadd, 1) := by decide +kernel
theorem dX8_image_64 : decode cX8_image 64 = .ok (.aload_n 0, 1) := by decide +kernel
theorem dX8_image_65 : decode cX8_image 65 = .ok (.getfield 32, 3) := by decide +kernel
theorem dX8_image_68 : decode cX8_image 68 = .ok (.iload_n 1, 1) := by decide +kernel
theorem dX8_image_69 : decode cX8_image 69 = .ok (.iaload, 1) := by decide +kernel
theorem dX8_image_70 : decode cX8_image 70 = .ok (.iastore, 1) := by decide +kernel
theorem dX8_image_71 : decode cX8_image 71 = .ok (.aload_n 0, 1) := by decide +kernel
theorem dX8_image_72 : decode cX8_image 72 = .ok (.getfield 81, 3) := by decide +kernel
theorem dX8_image_75 : decode cX8_image 75 = .ok (.bipush 8, 2) := by decide +kernel
theorem dX8_image_77 : decode cX8_image 77 = .ok (.iload_n 1, 1) := by decide +kernel
theorem dX8_image_78 : decode cX8_image 78 = .ok (.iadd, 1) := by decide +kernel
theorem dX8_image_79 : decode cX8_image 79 = .ok (.aload_n 0, 1) := by decide +kernel
theorem dX8_image_80 : decode cX8_image 80 = .ok (.getfield 35, 3) := by decide +kernel
theorem dX8_image_83 : decode cX8_image 83 = .ok (.iload_n 1, 1) := by decide +kernel
theorem dX8_image_84 : decode cX8_image 84 = .ok (.iaload, 1) := by decide +kernel
theorem dX8_image_85 : decode cX8_image 85 = .ok (.iastore, 1) := by decide +kernel
theorem dX8_image_86 : decode cX8_image 86 = .ok (.aload_n 0, 1) := by decide +kernel
theorem dX8_image_87 : decode cX8_image 87 = .ok (.getfield 81, 3) := by decide +kernel
theorem dX8_image_90 : decode cX8_image 90 = .ok (.bipush 12, 2) := by decide +kernel
theorem dX8_image_92 : decode cX8_image 92 = .ok (.iload_n 1, 1) := by decide +kernel
theorem dX8_image_93 : decode cX8_image 93 = .ok (.iadd, 1) := by decide +kernel
theorem dX8_image_94 : decode cX8_image 94 = .ok (.aload_n 0, 1) := by decide +kernel
theorem dX8_image_95 : decode cX8_image 95 = .ok (.getfield 41, 3) := by decide +kernel
theorem dX8_image_98 : decode cX8_image 98 = .ok (.iload_n 1, 1) := by decide +kernel
theorem dX8_image_99 : decode cX8_image 99 = .ok (.iaload, 1) := by decide +kernel
theorem dX8_image_100 : decode cX8_image 100 = .ok (.iastore, 1) := by decide +kernel
theorem dX8_image_101 : decode cX8_image 101 = .ok (.iinc 1 1, 3) := by decide +kernel
theorem dX8_image_104 : decode cX8_image 104 = .ok (.goto (-64), 3) := by decide +kernel
theorem dX8_image_107 : decode cX8_image 107 = .ok (.aload_n 0, 1) := by decide +kernel
theorem dX8_image_108 : decode cX8_image 108 = .ok (.aload_n 0, 1) := by decide +kernel
theorem dX8_image_109 : decode cX8_image 109 = .ok (.getfield 106, 3) := by decide +kernel
theorem dX8_image_112 : decode cX8_image 112 = .ok (.putfield 84, 3) := by decide +kernel
theorem dX8_image_115 : decode cX8_image 115 = .ok (.aload_n 0, 1) := by decide +kernel
theorem dX8_image_116 : decode cX8_image 116 = .ok (.aload_n 0, 1) := by decide +kernel
theorem dX8_image_117 : decode cX8_image 117 = .ok (.getfield 113, 3) := by decide +kernel
theorem dX8_image_120 : decode cX8_image 120 = .ok (.putfield 351, 3) := by decide +kernel
theorem dX8_image_123 : decode cX8_image 123 = .ok (.aload_n 0, 1) := by decide +kernel
theorem dX8_image_124 : decode cX8_image 124 = .ok (.aload_n 0, 1) := by decide +kernel
theorem dX8_image_125 : decode cX8_image 125 = .ok (.getfield 131, 3) := by decide +kernel
theorem dX8_image_128 : decode cX8_image 128 = .ok (.putfield 354, 3) := by decide +kernel
theorem dX8_image_131 : decode cX8_image 131 = .ok (.aload_n 0, 1) := by decide +kernel
theorem dX8_image_132 : decode cX8_image 132 = .ok (.aload_n 0, 1) := by decide +kernel
theorem dX8_image_133 : decode cX8_image 133 = .ok (.getfield 263, 3) := by decide +kernel
theorem dX8_image_136 : decode cX8_image 136 = .ok (.putfield 357, 3) := by decide +kernel
theorem dX8_image_139 : decode cX8_image 139 = .ok (.aload_n 0, 1) := by decide +kernel
theorem dX8_image_140 : decode cX8_image 140 = .ok (.getfield 106, 3) := by decide +kernel
theorem dX8_image_143 : decode cX8_image 143 = .ok (.ireturn, 1) := by decide +kernel
theorem dX8_back_0 : decode cX8_back 0 = .ok (.aload_n 0, 1) := by decide +kernel
theorem dX8_back_1 : decode cX8_back 1 = .ok (.getfield 84, 3) := by decide +kernel
theorem dX8_back_4 : decode cX8_back 4 = .ok (.iconst (-1), 1) := by decide +kernel
theorem dX8_back_5 : decode cX8_back 5 = .ok (.if_icmp .ne 6, 3) := by decide +kernel
theorem dX8_back_8 : decode cX8_back 8 = .ok (.bipush (-3), 2) := by decide +kernel
theorem dX8_back_10 : decode cX8_back 10 = .ok (.ireturn, 1) := by decide +kernel
theorem dX8_back_11 : decode cX8_back 11 = .ok (.iconst 0, 1) := by decide +kernel
theorem dX8_back_12 : decode cX8_back 12 = .ok (.istore_n 1, 1) := by decide +kernel
theorem dX8_back_13 : decode cX8_back 13 = .ok (.iload_n 1, 1) := by decide +kernel
theorem dX8_back_14 : decode cX8_back 14 = .ok (.bipush 16, 2) := by decide +kernel
theorem dX8_back_16 : decode cX8_back 16 = .ok (.if_icmp .ge 33, 3) := by decide +kernel
theorem dX8_back_19 : decode cX8_back 19 = .ok (.aload_n 0, 1) := by decide +kernel
theorem dX8_back_20 : decode cX8_back 20 = .ok (.getfield 23, 3) := by decide +kernel
theorem dX8_back_23 : decode cX8_back 23 = .ok (.iload_n 1, 1) := by decide +kernel
theorem dX8_back_24 : decode cX8_back 24 = .ok (.aload_n 0, 1) := by decide +kernel
theorem dX8_back_25 : decode cX8_back 25 = .ok (.getfield 75, 3) := by decide +kernel
theorem dX8_back_28 : decode cX8_back 28 = .ok (.iload_n 1, 1) := by decide +kernel
theorem dX8_back_29 : decode cX8_back 29 = .ok (.iaload, 1) := by decide +kernel
theorem dX8_back_30 : decode cX8_back 30 = .ok (.iastore, 1) := by decide +kernel
theorem dX8_back_31 : decode cX8_back 31 = .ok (.aload_n 0, 1) := by decide +kernel
theorem dX8_back_32 : decode cX8_back 32 = .ok (.getfield 26, 3) := by decide +kernel
theorem dX8_back_35 : decode cX8_back 35 = .ok (.iload_n 1, 1) := by decide +kernel
theorem dX8_back_36 : decode cX8_back 36 = .ok (.aload_n 0, 1) := by decide +kernel
theorem dX8_back_37 : decode cX8_back 37 = .ok (.getfield 78, 3) := by decide +kernel
theorem dX8_back_40 : decode cX8_back 40 = .ok (.iload_n 1, 1) := by decide +kernel
theorem dX8_back_41 : decode cX8_back 41 = .ok (.iaload, 1) := by decide +kernel
theorem dX8_back_42 : decode cX8_back 42 = .ok (.iastore, 1) := by decide +kernel
theorem dX8_back_43 : decode cX8_back 43 = .ok (.iinc 1 1, 3) := by decide +kernel
theorem dX8_back_46 : decode cX8_back 46 = .ok (.goto (-33), 3) := by decide +kernel
theorem dX8_back_49 : decode cX8_back 49 = .ok (.iconst 0, 1) := by decide +kernel
theorem dX8_back_50 : decode cX8_back 50 = .ok (.istore_n 1, 1) := by decide +kernel
theorem dX8_back_51 : decode cX8_back 51 = .ok (.iload_n 1, 1) := by decide +kernel
theorem dX8_back_52 : decode cX8_back 52 = .ok (.iconst 4, 1) := by decide +kernel
theorem dX8_back_53 : decode cX8_back 53 = .ok (.if_icmp .ge 65, 3) := by decide +kernel
theorem dX8_back_56 : decode cX8_back 56 = .ok (.aload_n 0, 1) := by decide +kernel
theorem dX8_back_57 : decode cX8_back 57 = .ok (.getfield 29, 3) := by decide +kernel
theorem dX8_back_60 : decode cX8_back 60 = .ok (.iload_n 1, 1) := by decide +kernel
theorem dX8_back_61 : decode cX8_back 61 = .ok (.aload_n 0, 1) := by decide +kernel
theorem dX8_back_62 : decode cX8_back 62 = .ok (.getfield 81, 3) := by decide +kernel
theorem dX8_back_65 : decode cX8_back 65 = .ok (.iload_n 1, 1) := by decide +kernel
theorem dX8_back_66 : decode cX8_back 66 = .ok (.iaload, 1) := by decide +kernel
theorem dX8_back_67 : decode cX8_back 67 = .ok (.iastore, 1) := by decide +kernel
theorem dX8_back_68 : decode cX8_back 68 = .ok (.aload_n 0, 1) := by decide +kernel
theorem dX8_back_69 : decode cX8_back 69 = .ok (.getfield 32, 3) := by decide +kernel
theorem dX8_back_72 : decode cX8_back 72 = .ok (.iload_n 1, 1) := by decide +kernel
theorem dX8_back_73 : decode cX8_back 73 = .ok (.aload_n 0, 1) := by decide +kernel
theorem dX8_back_74 : decode cX8_back 74 = .ok (.getfield 81, 3) := by decide +kernel
theorem dX8_back_77 : decode cX8_back 77 = .ok (.iconst 4, 1) := by decide +kernel
theorem dX8_back_78 : decode cX8_back 78 = .ok (.iload_n 1, 1) := by decide +kernel
theorem dX8_back_79 : decode cX8_back 79 = .ok (.iadd, 1) := by decide +kernel
theorem dX8_back_80 : decode cX8_back 80 = .ok (.iaload, 1) := by decide +kernel
theorem dX8_back_81 : decode cX8_back 81 = .ok (.iastore, 1) := by decide +kernel
theorem dX8_back_82 : decode cX8_back 82 = .ok (.aload_n 0, 1) := by decide +kernel
theorem dX8_back_83 : decode cX8_back 83 = .ok (.getfield 35, 3) := by decide +kernel
theorem dX8_back_86 : decode cX8_back 86 = .ok (.iload_n 1, 1) := by decide +kernel
theorem dX8_back_87 : decode cX8_back 87 = .ok (.aload_n 0, 1) := by decide +kernel
theorem dX8_back_88 : decode cX8_back 88 = .ok (.getfield 81, 3) := by decide +kernel
theorem dX8_back_91 : decode cX8_back 91 = .ok (.bipush 8, 2) := by decide +kernel
theorem dX8_back_93 : decode cX8_back 93 = .ok (.iload_n 1, 1) := by decide +kernel
theorem dX8_back_94 : decode cX8_back 94 = .ok (.iadd, 1) := by decide +kernel
theorem dX8_back_95 : decode cX8_back 95 = .ok (.iaload, 1) := by decide +kernel
theorem dX8_back_96 : decode cX8_back 96 = .ok (.iastore, 1) := by decide +kernel
theorem dX8_back_97 : decode cX8_back 97 = .ok (.aload_n 0, 1) := by decide +kernel
theorem dX8_back_98 : decode cX8_back 98 = .ok (.getfield 41, 3) := by decide +kernel
theorem dX8_back_101 : decode cX8_back 101 = .ok (.iload_n 1, 1) := by decide +kernel
theorem dX8_back_102 : decode cX8_back 102 = .ok (.aload_n 0, 1) := by decide +kernel
theorem dX8_back_103 : decode cX8_back 103 = .ok (.getfield 81, 3) := by decide +kernel
theorem dX8_back_106 : decode cX8_back 106 = .ok (.bipush 12, 2) := by decide +kernel
theorem dX8_back_108 : decode cX8_back 108 = .ok (.iload_n 1, 1) := by decide +kernel
theorem dX8_back_109 : decode cX8_back 109 = .ok (.iadd, 1) := by decide +kernel
theorem dX8_back_110 : decode cX8_back 110 = .ok (.iaload, 1) := by decide +kernel
theorem dX8_back_111 : decode cX8_back 111 = .ok (.iastore, 1) := by decide +kernel
theorem dX8_back_112 : decode cX8_back 112 = .ok (.iinc 1 1, 3) := by decide +kernel
theorem dX8_back_115 : decode cX8_back 115 = .ok (.goto (-64), 3) := by decide +kernel
theorem dX8_back_118 : decode cX8_back 118 = .ok (.aload_n 0, 1) := by decide +kernel
theorem dX8_back_119 : decode cX8_back 119 = .ok (.aload_n 0, 1) := by decide +kernel
theorem dX8_back_120 : decode cX8_back 120 = .ok (.getfield 84, 3) := by decide +kernel
theorem dX8_back_123 : decode cX8_back 123 = .ok (.putfield 106, 3) := by decide +kernel
theorem dX8_back_126 : decode cX8_back 126 = .ok (.aload_n 0, 1) := by decide +kernel
theorem dX8_back_127 : decode cX8_back 127 = .ok (.aload_n 0, 1) := by decide +kernel
theorem dX8_back_128 : decode cX8_back 128 = .ok (.getfield 351, 3) := by decide +kernel
theorem dX8_back_131 : decode cX8_back 131 = .ok (.putfield 113, 3) := by decide +kernel
theorem dX8_back_134 : decode cX8_back 134 = .ok (.aload_n 0, 1) := by decide +kernel
theorem dX8_back_135 : decode cX8_back 135 = .ok (.aload_n 0, 1) := by decide +kernel
theorem dX8_back_136 : decode cX8_back 136 = .ok (.getfield 354, 3) := by decide +kernel
theorem dX8_back_139 : decode cX8_back 139 = .ok (.putfield 131, 3) := by decide +kernel
theorem dX8_back_142 : decode cX8_back 142 = .ok (.aload_n 0, 1) := by decide +kernel
theorem dX8_back_143 : decode cX8_back 143 = .ok (.aload_n 0, 1) := by decide +kernel
theorem dX8_back_144 : decode cX8_back 144 = .ok (.getfield 357, 3) := by decide +kernel
theorem dX8_back_147 : decode cX8_back 147 = .ok (.putfield 263, 3) := by decide +kernel
theorem dX8_back_150 : decode cX8_back 150 = .ok (.aload_n 0, 1) := by decide +kernel
theorem dX8_back_151 : decode cX8_back 151 = .ok (.getfield 106, 3) := by decide +kernel
theorem dX8_back_154 : decode cX8_back 154 = .ok (.ireturn, 1) := by decide +kernel
theorem dX8_count_0 : decode cX8_count 0 = .ok (.iload_n 1, 1) := by decide +kernel
theorem dX8_count_1 : decode cX8_count 1 = .ok (.i2l, 1) := by decide +kernel
theorem dX8_count_2 : decode cX8_count 2 = .ok (.lconst 0, 1) := by decide +kernel
theorem dX8_count_3 : decode cX8_count 3 = .ok (.ldc2_w 134, 3) := by decide +kernel
theorem dX8_count_6 : decode cX8_count 6 = .ok (.invokestatic 109, 3) := by decide +kernel
theorem dX8_count_9 : decode cX8_count 9 = .ok (.ifCond .ne 6, 3) := by decide +kernel
theorem dX8_count_12 : decode cX8_count 12 = .ok (.bipush (-2), 2) := by decide +kernel
theorem dX8_count_14 : decode cX8_count 14 = .ok (.ireturn, 1) := by decide +kernel
theorem dX8_count_15 : decode cX8_count 15 = .ok (.iload_n 1, 1) := by decide +kernel
theorem dX8_count_16 : decode cX8_count 16 = .ok (.iconst 2, 1) := by decide +kernel
theorem dX8_count_17 : decode cX8_count 17 = .ok (.if_icmp .ne 41, 3) := by decide +kernel
theorem dX8_count_20 : decode cX8_count 20 = .ok (.iconst 0, 1) := by decide +kernel
theorem dX8_count_21 : decode cX8_count 21 = .ok (.istore_n 2, 1) := by decide +kernel
theorem dX8_count_22 : decode cX8_count 22 = .ok (.iconst 0, 1) := by decide +kernel
theorem dX8_count_23 : decode cX8_count 23 = .ok (.istore_n 3, 1) := by decide +kernel
theorem dX8_count_24 : decode cX8_count 24 = .ok (.iload_n 3, 1) := by decide +kernel
theorem dX8_count_25 : decode cX8_count 25 = .ok (.aload_n 0, 1) := by decide +kernel
theorem dX8_count_26 : decode cX8_count 26 = .ok (.getfield 106, 3) := by decide +kernel
theorem dX8_count_29 : decode cX8_count 29 = .ok (.if_icmp .ge 27, 3) := by decide +kernel
theorem dX8_count_32 : decode cX8_count 32 = .ok (.iload_n 2, 1) := by decide +kernel
theorem dX8_count_33 : decode cX8_count 33 = .ok (.aload_n 0, 1) := by decide +kernel
theorem dX8_count_34 : decode cX8_count 34 = .ok (.getfield 32, 3) := by decide +kernel
theorem dX8_count_37 : decode cX8_count 37 = .ok (.iload_n 3, 1) := by decide +kernel
theorem dX8_count_38 : decode cX8_count 38 = .ok (.iaload, 1) := by decide +kernel
theorem dX8_count_39 : decode cX8_count 39 = .ok (.iconst (-1), 1) := by decide +kernel
theorem dX8_count_40 : decode cX8_count 40 = .ok (.if_icmp .ne 7, 3) := by decide +kernel
theorem dX8_count_43 : decode cX8_count 43 = .ok (.iconst 0, 1) := by decide +kernel
theorem dX8_count_44 : decode cX8_count 44 = .ok (.goto 4, 3) := by decide +kernel
theorem dX8_count_47 : decode cX8_count 47 = .ok (.iconst 1, 1) := by decide +kernel
theorem dX8_count_48 : decode cX8_count 48 = .ok (.iadd, 1) := by decide +kernel
theorem dX8_count_49 : decode cX8_count 49 = .ok (.istore_n 2, 1) := by decide +kernel
theorem dX8_count_50 : decode cX8_count 50 = .ok (.iinc 3 1, 3) := by decide +kernel
theorem dX8_count_53 : decode cX8_count 53 = .ok (.goto (-29), 3) := by decide +kernel
theorem dX8_count_56 : decode cX8_count 56 = .ok (.iload_n 2, 1) := by decide +kernel
theorem dX8_count_57 : decode cX8_count 57 = .ok (.ireturn, 1) := by decide +kernel
theorem dX8_count_58 : decode cX8_count 58 = .ok (.iload_n 1, 1) := by decide +kernel
theorem dX8_count_59 : decode cX8_count 59 = .ok (.ifCond .ne 10, 3) := by decide +kernel
theorem dX8_count_62 : decode cX8_count 62 = .ok (.aload_n 0, 1) := by decide +kernel
theorem dX8_count_63 : decode cX8_count 63 = .ok (.getfield 106, 3) := by decide +kernel
theorem dX8_count_66 : decode cX8_count 66 = .ok (.goto 55, 3) := by decide +kernel
theorem dX8_count_69 : decode cX8_count 69 = .ok (.iload_n 1, 1) := by decide +kernel
theorem dX8_count_70 : decode cX8_count 70 = .ok (.iconst 1, 1) := by decide +kernel
theorem dX8_count_71 : decode cX8_count 71 = .ok (.if_icmp .ne 10, 3) := by decide +kernel
theorem dX8_count_74 : decode cX8_count 74 = .ok (.aload_n 0, 1) := by decide +kernel
theorem dX8_count_75 : decode cX8_count 75 = .ok (.getfield 113, 3) := by decide +kernel
theorem dX8_count_78 : decode cX8_count 78 = .ok (.goto 43, 3) := by decide +kernel
theorem dX8_count_81 : decode cX8_count 81 = .ok (.iload_n 1, 1) := by decide +kernel
theorem dX8_count_82 : decode cX8_count 82 = .ok (.iconst 3, 1) := by decide +kernel
theorem dX8_count_83 : decode cX8_count 83 = .ok (.if_icmp .ne 10, 3) := by decide +kernel
theorem dX8_count_86 : decode cX8_count 86 = .ok (.aload_n 0, 1) := by decide +kernel
theorem dX8_count_87 : decode cX8_count 87 = .ok (.getfield 131, 3) := by decide +kernel
theorem dX8_count_90 : decode cX8_count 90 = .ok (.goto 31, 3) := by decide +kernel
theorem dX8_count_93 : decode cX8_count 93 = .ok (.iload_n 1, 1) := by decide +kernel
theorem dX8_count_94 : decode cX8_count 94 = .ok (.iconst 4, 1) := by decide +kernel
theorem dX8_count_95 : decode cX8_count 95 = .ok (.if_icmp .ne 10, 3) := by decide +kernel
theorem dX8_count_98 : decode cX8_count 98 = .ok (.aload_n 0, 1) := by decide +kernel
theorem dX8_count_99 : decode cX8_count 99 = .ok (.getfield 103, 3) := by decide +kernel
theorem dX8_count_102 : decode cX8_count 102 = .ok (.goto 19, 3) := by decide +kernel
theorem dX8_count_105 : decode cX8_count 105 = .ok (.iload_n 1, 1) := by decide +kernel
theorem dX8_count_106 : decode cX8_count 106 = .ok (.iconst 5, 1) := by decide +kernel
theorem dX8_count_107 : decode cX8_count 107 = .ok (.if_icmp .ne 10, 3) := by decide +kernel
theorem dX8_count_110 : decode cX8_count 110 = .ok (.aload_n 0, 1) := by decide +kernel
theorem dX8_count_111 : decode cX8_count 111 = .ok (.getfield 145, 3) := by decide +kernel
theorem dX8_count_114 : decode cX8_count 114 = .ok (.goto 7, 3) := by decide +kernel
theorem dX8_count_117 : decode cX8_count 117 = .ok (.aload_n 0, 1) := by decide +kernel
theorem dX8_count_118 : decode cX8_count 118 = .ok (.getfield 263, 3) := by decide +kernel
theorem dX8_count_121 : decode cX8_count 121 = .ok (.ireturn, 1) := by decide +kernel
theorem dX8_isSheet_0 : decode cX8_isSheet 0 = .ok (.iload_n 0, 1) := by decide +kernel
theorem dX8_isSheet_1 : decode cX8_isSheet 1 = .ok (.i2l, 1) := by decide +kernel
theorem dX8_isSheet_2 : decode cX8_isSheet 2 = .ok (.lconst 0, 1) := by decide +kernel
theorem dX8_isSheet_3 : decode cX8_isSheet 3 = .ok (.ldc2_w 360, 3) := by decide +kernel
theorem dX8_isSheet_6 : decode cX8_isSheet 6 = .ok (.invokestatic 109, 3) := by decide +kernel
theorem dX8_isSheet_9 : decode cX8_isSheet 9 = .ok (.ireturn, 1) := by decide +kernel
theorem dX8_sheet_0 : decode cX8_sheet 0 = .ok (.iload_n 1, 1) := by decide +kernel
theorem dX8_sheet_1 : decode cX8_sheet 1 = .ok (.invokestatic 332, 3) := by decide +kernel
theorem dX8_sheet_4 : decode cX8_sheet 4 = .ok (.ifCond .eq 27, 3) := by decide +kernel
theorem dX8_sheet_7 : decode cX8_sheet 7 = .ok (.iload_n 2, 1) := by decide +kernel
theorem dX8_sheet_8 : decode cX8_sheet 8 = .ok (.i2l, 1) := by decide +kernel
theorem dX8_sheet_9 : decode cX8_sheet 9 = .ok (.ldc2_w 362, 3) := by decide +kernel
theorem dX8_sheet_12 : decode cX8_sheet 12 = .ok (.ldc2_w 129, 3) := by decide +kernel
theorem dX8_sheet_15 : decode cX8_sheet 15 = .ok (.invokestatic 109, 3) := by decide +kernel
theorem dX8_sheet_18 : decode cX8_sheet 18 = .ok (.ifCond .eq 13, 3) := by decide +kernel
theorem dX8_sheet_21 : decode cX8_sheet 21 = .ok (.iload_n 2, 1) := by decide +kernel
theorem dX8_sheet_22 : decode cX8_sheet 22 = .ok (.ifCond .lt 12, 3) := by decide +kernel
theorem dX8_sheet_25 : decode cX8_sheet 25 = .ok (.iload_n 3, 1) := by decide +kernel
theorem dX8_sheet_26 : decode cX8_sheet 26 = .ok (.bipush 40, 2) := by decide +kernel
theorem dX8_sheet_28 : decode cX8_sheet 28 = .ok (.if_icmp .le 6, 3) := by decide +kernel
theorem dX8_sheet_31 : decode cX8_sheet 31 = .ok (.bipush (-2), 2) := by decide +kernel
theorem dX8_sheet_33 : decode cX8_sheet 33 = .ok (.ireturn, 1) := by decide +kernel
theorem dX8_sheet_34 : decode cX8_sheet 34 = .ok (.iload_n 2, 1) := by decide +kernel
theorem dX8_sheet_35 : decode cX8_sheet 35 = .ok (.ifCond .lt 10, 3) := by decide +kernel
theorem dX8_sheet_38 : decode cX8_sheet 38 = .ok (.iload_n 3, 1) := by decide +kernel
theorem dX8_sheet_39 : decode cX8_sheet 39 = .ok (.ifCond .ge 6, 3) := by decide +kernel
theorem dX8_sheet_42 : decode cX8_sheet 42 = .ok (.bipush (-14), 2) := by decide +kernel
theorem dX8_sheet_44 : decode cX8_sheet 44 = .ok (.ireturn, 1) := by decide +kernel
theorem dX8_sheet_45 : decode cX8_sheet 45 = .ok (.aload_n 0, 1) := by decide +kernel
theorem dX8_sheet_46 : decode cX8_sheet 46 = .ok (.getfield 87, 3) := by decide +kernel
theorem dX8_sheet_49 : decode cX8_sheet 49 = .ok (.iload_n 1, 1) := by decide +kernel
theorem dX8_sheet_50 : decode cX8_sheet 50 = .ok (.iload_n 2, 1) := by decide +kernel
theorem dX8_sheet_51 : decode cX8_sheet 51 = .ok (.ifCond .lt 7, 3) := by decide +kernel
theorem dX8_sheet_54 : decode cX8_sheet 54 = .ok (.iconst 1, 1) := by decide +kernel
theorem dX8_sheet_55 : decode cX8_sheet 55 = .ok (.goto 4, 3) := by decide +kernel
theorem dX8_sheet_58 : decode cX8_sheet 58 = .ok (.iconst 0, 1) := by decide +kernel
theorem dX8_sheet_59 : decode cX8_sheet 59 = .ok (.bastore, 1) := by decide +kernel
theorem dX8_sheet_60 : decode cX8_sheet 60 = .ok (.aload_n 0, 1) := by decide +kernel
theorem dX8_sheet_61 : decode cX8_sheet 61 = .ok (.getfield 90, 3) := by decide +kernel
theorem dX8_sheet_64 : decode cX8_sheet 64 = .ok (.iload_n 1, 1) := by decide +kernel
theorem dX8_sheet_65 : decode cX8_sheet 65 = .ok (.iload_n 2, 1) := by decide +kernel
theorem dX8_sheet_66 : decode cX8_sheet 66 = .ok (.iastore, 1) := by decide +kernel
theorem dX8_sheet_67 : decode cX8_sheet 67 = .ok (.aload_n 0, 1) := by decide +kernel
theorem dX8_sheet_68 : decode cX8_sheet 68 = .ok (.getfield 93, 3) := by decide +kernel
theorem dX8_sheet_71 : decode cX8_sheet 71 = .ok (.iload_n 1, 1) := by decide +kernel
theorem dX8_sheet_72 : decode cX8_sheet 72 = .ok (.iload_n 3, 1) := by decide +kernel
theorem dX8_sheet_73 : decode cX8_sheet 73 = .ok (.iastore, 1) := by decide +kernel
theorem dX8_sheet_74 : decode cX8_sheet 74 = .ok (.iconst 0, 1) := by decide +kernel
theorem dX8_sheet_75 : decode cX8_sheet 75 = .ok (.istore 4, 2) := by decide +kernel
theorem dX8_sheet_77 : decode cX8_sheet 77 = .ok (.iload 4, 2) := by decide +kernel
theorem dX8_sheet_79 : decode cX8_sheet 79 = .ok (.iload_n 3, 1) := by decide +kernel
theorem dX8_sheet_80 : decode cX8_sheet 80 = .ok (.if_icmp .ge 26, 3) := by decide +kernel
theorem dX8_sheet_83 : decode cX8_sheet 83 = .ok (.iload_n 2, 1) := by decide +kernel
theorem dX8_sheet_84 : decode cX8_sheet 84 = .ok (.ifCond .lt 22, 3) := by decide +kernel
theorem dX8_sheet_87 : decode cX8_sheet 87 = .ok (.aload_n 0, 1) := by decide +kernel
theorem dX8_sheet_88 : decode cX8_sheet 88 = .ok (.getfield 96, 3) := by decide +kernel
theorem dX8_sheet_91 : decode cX8_sheet 91 = .ok (.bipush 40, 2) := by decide +kernel
theorem dX8_sheet_93 : decode cX8_sheet 93 = .ok (.iload_n 1, 1) := by decide +kernel
theorem dX8_sheet_94 : decode cX8_sheet 94 = .ok (.imul, 1) := by decide +kernel
theorem dX8_sheet_95 : decode cX8_sheet 95 = .ok (.iload 4, 2) := by decide +kernel
theorem dX8_sheet_97 : decode cX8_sheet 97 = .ok (.iadd, 1) := by decide +kernel
theorem dX8_sheet_98 : decode cX8_sheet 98 = .ok (.iconst 0, 1) := by decide +kernel
theorem dX8_sheet_99 : decode cX8_sheet 99 = .ok (.iastore, 1) := by decide +kernel
theorem dX8_sheet_100 : decode cX8_sheet 100 = .ok (.iinc 4 1, 3) := by decide +kernel
theorem dX8_sheet_103 : decode cX8_sheet 103 = .ok (.goto (-26), 3) := by decide +kernel
theorem dX8_sheet_106 : decode cX8_sheet 106 = .ok (.iconst 1, 1) := by decide +kernel
theorem dX8_sheet_107 : decode cX8_sheet 107 = .ok (.ireturn, 1) := by decide +kernel
theorem dX8_cell_0 : decode cX8_cell 0 = .ok (.iload_n 1, 1) := by decide +kernel
theorem dX8_cell_1 : decode cX8_cell 1 = .ok (.invokestatic 332, 3) := by decide +kernel
theorem dX8_cell_4 : decode cX8_cell 4 = .ok (.ifCond .ne 6, 3) := by decide +kernel
theorem dX8_cell_7 : decode cX8_cell 7 = .ok (.bipush (-2), 2) := by decide +kernel
theorem dX8_cell_9 : decode cX8_cell 9 = .ok (.ireturn, 1) := by decide +kernel
theorem dX8_cell_10 : decode cX8_cell 10 = .ok (.aload_n 0, 1) := by decide +kernel
theorem dX8_cell_11 : decode cX8_cell 11 = .ok (.getfield 87, 3) := by decide +kernel
theorem dX8_cell_14 : decode cX8_cell 14 = .ok (.iload_n 1, 1) := by decide +kernel
theorem dX8_cell_15 : decode cX8_cell 15 = .ok (.baload, 1) := by decide +kernel
theorem dX8_cell_16 : decode cX8_cell 16 = .ok (.ifCond .ne 6, 3) := by decide +kernel
theorem dX8_cell_19 : decode cX8_cell 19 = .ok (.bipush (-11), 2) := by decide +kernel
theorem dX8_cell_21 : decode cX8_cell 21 = .ok (.ireturn, 1) := by decide +kernel
theorem dX8_cell_22 : decode cX8_cell 22 = .ok (.iload_n 2, 1) := by decide +kernel
theorem dX8_cell_23 : decode cX8_cell 23 = .ok (.i2l, 1) := by decide +kernel
theorem dX8_cell_24 : decode cX8_cell 24 = .ok (.lconst 0, 1) := by decide +kernel
theorem dX8_cell_25 : decode cX8_cell 25 = .ok (.aload_n 0, 1) := by decide +kernel
theorem dX8_cell_26 : decode cX8_cell 26 = .ok (.getfield 93, 3) := by decide +kernel
theorem dX8_cell_29 : decode cX8_cell 29 = .ok (.iload_n 1, 1) := by decide +kernel
theorem dX8_cell_30 : decode cX8_cell 30 = .ok (.iaload, 1) := by decide +kernel
theorem dX8_cell_31 : decode cX8_cell 31 = .ok (.iconst 1, 1) := by decide +kernel
theorem dX8_cell_32 : decode cX8_cell 32 = .ok (.isub, 1) := by decide +kernel
theorem dX8_cell_33 : decode cX8_cell 33 = .ok (.i2l, 1) := by decide +kernel
theorem dX8_cell_34 : decode cX8_cell 34 = .ok (.invokestatic 109, 3) := by decide +kernel
theorem dX8_cell_37 : decode cX8_cell 37 = .ok (.ifCond .ne 6, 3) := by decide +kernel
theorem dX8_cell_40 : decode cX8_cell 40 = .ok (.bipush (-12), 2) := by decide +kernel
theorem dX8_cell_42 : decode cX8_cell 42 = .ok (.ireturn, 1) := by decide +kernel
theorem dX8_cell_43 : decode cX8_cell 43 = .ok (.aload_n 0, 1) := by decide +kernel
theorem dX8_cell_44 : decode cX8_cell 44 = .ok (.getfield 96, 3) := by decide +kernel
theorem dX8_cell_47 : decode cX8_cell 47 = .ok (.bipush 40, 2) := by decide +kernel
theorem dX8_cell_49 : decode cX8_cell 49 = .ok (.iload_n 1, 1) := by decide +kernel
theorem dX8_cell_50 : decode cX8_cell 50 = .ok (.imul, 1) := by decide +kernel
theorem dX8_cell_51 : decode cX8_cell 51 = .ok (.iload_n 2, 1) := by decide +kernel
theorem dX8_cell_52 : decode cX8_cell 52 = .ok (.iadd, 1) := by decide +kernel
theorem dX8_cell_53 : decode cX8_cell 53 = .ok (.aload_n 0, 1) := by decide +kernel
theorem dX8_cell_54 : decode cX8_cell 54 = .ok (.getfield 90, 3) := by decide +kernel
theorem dX8_cell_57 : decode cX8_cell 57 = .ok (.iload_n 1, 1) := by decide +kernel
theorem dX8_cell_58 : decode cX8_cell 58 = .ok (.iaload, 1) := by decide +kernel
theorem dX8_cell_59 : decode cX8_cell 59 = .ok (.ifCond .ne 8, 3) := by decide +kernel
theorem dX8_cell_62 : decode cX8_cell 62 = .ok (.iload_n 3, 1) := by decide +kernel
theorem dX8_cell_63 : decode cX8_cell 63 = .ok (.i2b, 1) := by decide +kernel
theorem dX8_cell_64 : decode cX8_cell 64 = .ok (.goto 19, 3) := by decide +kernel
theorem dX8_cell_67 : decode cX8_cell 67 = .ok (.aload_n 0, 1) := by decide +kernel
theorem dX8_cell_68 : decode cX8_cell 68 = .ok (.getfield 90, 3) := by decide +kernel
theorem dX8_cell_71 : decode cX8_cell 71 = .ok (.iload_n 1, 1) := by decide +kernel
theorem dX8_cell_72 : decode cX8_cell 72 = .ok (.iaload, 1) := by decide +kernel
theorem dX8_cell_73 : decode cX8_cell 73 = .ok (.iconst 1, 1) := by decide +kernel
theorem dX8_cell_74 : decode cX8_cell 74 = .ok (.if_icmp .ne 8, 3) := by decide +kernel
theorem dX8_cell_77 : decode cX8_cell 77 = .ok (.iload_n 3, 1) := by decide +kernel
theorem dX8_cell_78 : decode cX8_cell 78 = .ok (.i2s, 1) := by decide +kernel
theorem dX8_cell_79 : decode cX8_cell 79 = .ok (.goto 4, 3) := by decide +kernel
theorem dX8_cell_82 : decode cX8_cell 82 = .ok (.iload_n 3, 1) := by decide +kernel
theorem dX8_cell_83 : decode cX8_cell 83 = .ok (.iastore, 1) := by decide +kernel
theorem dX8_cell_84 : decode cX8_cell 84 = .ok (.iconst 1, 1) := by decide +kernel
theorem dX8_cell_85 : decode cX8_cell 85 = .ok (.ireturn, 1) := by decide +kernel
theorem dX8_copy_0 : decode cX8_copy 0 = .ok (.iload_n 1, 1) := by decide +kernel
theorem dX8_copy_1 : decode cX8_copy 1 = .ok (.invokestatic 332, 3) := by decide +kernel
theorem dX8_copy_4 : decode cX8_copy 4 = .ok (.ifCond .eq 10, 3) := by decide +kernel
theorem dX8_copy_7 : decode cX8_copy 7 = .ok (.iload_n 3, 1) := by decide +kernel
theorem dX8_copy_8 : decode cX8_copy 8 = .ok (.invokestatic 332, 3) := by decide +kernel
theorem dX8_copy_11 : decode cX8_copy 11 = .ok (.ifCond .ne 6, 3) := by decide +kernel
theorem dX8_copy_14 : decode cX8_copy 14 = .ok (.bipush (-2), 2) := by decide +kernel
theorem dX8_copy_16 : decode cX8_copy 16 = .ok (.ireturn, 1) := by decide +kernel
theorem dX8_copy_17 : decode cX8_copy 17 = .ok (.aload_n 0, 1) := by decide +kernel
theorem dX8_copy_18 : decode cX8_copy 18 = .ok (.getfield 87, 3) := by decide +kernel
theorem dX8_copy_21 : decode cX8_copy 21 = .ok (.iload_n 1, 1) := by decide +kernel
theorem dX8_copy_22 : decode cX8_copy 22 = .ok (.baload, 1) := by decide +kernel
theorem dX8_copy_23 : decode cX8_copy 23 = .ok (.ifCond .eq 12, 3) := by decide +kernel
theorem dX8_copy_26 : decode cX8_copy 26 = .ok (.aload_n 0, 1) := by decide +kernel
theorem dX8_copy_27 : decode cX8_copy 27 = .ok (.getfield 87, 3) := by decide +kernel
theorem dX8_copy_30 : decode cX8_copy 30 = .ok (.iload_n 3, 1) := by decide +kernel
theorem dX8_copy_31 : decode cX8_copy 31 = .ok (.baload, 1) := by decide +kernel
theorem dX8_copy_32 : decode cX8_copy 32 = .ok (.ifCond .ne 6, 3) := by decide +kernel
theorem dX8_copy_35 : decode cX8_copy 35 = .ok (.bipush (-11), 2) := by decide +kernel
theorem dX8_copy_37 : decode cX8_copy 37 = .ok (.ireturn, 1) := by decide +kernel
theorem dX8_copy_38 : decode cX8_copy 38 = .ok (.aload_n 0, 1) := by decide +kernel
theorem dX8_copy_39 : decode cX8_copy 39 = .ok (.getfield 90, 3) := by decide +kernel
theorem dX8_copy_42 : decode cX8_copy 42 = .ok (.iload_n 1, 1) := by decide +kernel
theorem dX8_copy_43 : decode cX8_copy 43 = .ok (.iaload, 1) := by decide +kernel
theorem dX8_copy_44 : decode cX8_copy 44 = .ok (.aload_n 0, 1) := by decide +kernel
theorem dX8_copy_45 : decode cX8_copy 45 = .ok (.getfield 90, 3) := by decide +kernel
theorem dX8_copy_48 : decode cX8_copy 48 = .ok (.iload_n 3, 1) := by decide +kernel
theorem dX8_copy_49 : decode cX8_copy 49 = .ok (.iaload, 1) := by decide +kernel
theorem dX8_copy_50 : decode cX8_copy 50 = .ok (.if_icmp .eq 6, 3) := by decide +kernel
theorem dX8_copy_53 : decode cX8_copy 53 = .ok (.bipush (-13), 2) := by decide +kernel
theorem dX8_copy_55 : decode cX8_copy 55 = .ok (.ireturn, 1) := by decide +kernel
theorem dX8_copy_56 : decode cX8_copy 56 = .ok (.iload 5, 2) := by decide +kernel
theorem dX8_copy_58 : decode cX8_copy 58 = .ok (.ifCond .lt 39, 3) := by decide +kernel
theorem dX8_copy_61 : decode cX8_copy 61 = .ok (.iload_n 2, 1) := by decide +kernel
theorem dX8_copy_62 : decode cX8_copy 62 = .ok (.ifCond .lt 35, 3) := by decide +kernel
theorem dX8_copy_65 : decode cX8_copy 65 = .ok (.iload 4, 2) := by decide +kernel
theorem dX8_copy_67 : decode cX8_copy 67 = .ok (.ifCond .lt 30, 3) := by decide +kernel
theorem dX8_copy_70 : decode cX8_copy 70 = .ok (.iload_n 2, 1) := by decide +kernel
theorem dX8_copy_71 : decode cX8_copy 71 = .ok (.aload_n 0, 1) := by decide +kernel
theorem dX8_copy_72 : decode cX8_copy 72 = .ok (.getfield 93, 3) := by decide +kernel
theorem dX8_copy_75 : decode cX8_copy 75 = .ok (.iload_n 1, 1) := by decide +kernel
theorem dX8_copy_76 : decode cX8_copy 76 = .ok (.iaload, 1) := by decide +kernel
theorem dX8_copy_77 : decode cX8_copy 77 = .ok (.iload 5, 2) := by decide +kernel
theorem dX8_copy_79 : decode cX8_copy 79 = .ok (.isub, 1) := by decide +kernel
theorem dX8_copy_80 : decode cX8_copy 80 = .ok (.if_icmp .gt 17, 3) := by decide +kernel
theorem dX8_copy_83 : decode cX8_copy 83 = .ok (.iload 4, 2) := by decide +kernel
theorem dX8_copy_85 : decode cX8_copy 85 = .ok (.aload_n 0, 1) := by decide +kernel
theorem dX8_copy_86 : decode cX8_copy 86 = .ok (.getfield 93, 3) := by decide +kernel
theorem dX8_copy_89 : decode cX8_copy 89 = .ok (.iload_n 3, 1) := by decide +kernel
theorem dX8_copy_90 : decode cX8_copy 90 = .ok (.iaload, 1) := by decide +kernel
theorem dX8_copy_91 : decode cX8_copy 91 = .ok (.iload 5, 2) := by decide +kernel
theorem dX8_copy_93 : decode cX8_copy 93 = .ok (.isub, 1) := by decide +kernel
theorem dX8_copy_94 : decode cX8_copy 94 = .ok (.if_icmp .le 6, 3) := by decide +kernel
theorem dX8_copy_97 : decode cX8_copy 97 = .ok (.bipush (-12), 2) := by decide +kernel
theorem dX8_copy_99 : decode cX8_copy 99 = .ok (.ireturn, 1) := by decide +kernel
theorem dX8_copy_100 : decode cX8_copy 100 = .ok (.iload_n 1, 1) := by decide +kernel
theorem dX8_copy_101 : decode cX8_copy 101 = .ok (.iload_n 3, 1) := by decide +kernel
theorem dX8_copy_102 : decode cX8_copy 102 = .ok (.if_icmp .ne 13, 3) := by decide +kernel
theorem dX8_copy_105 : decode cX8_copy 105 = .ok (.iload_n 2, 1) := by decide +kernel
theorem dX8_copy_106 : decode cX8_copy 106 = .ok (.iload 4, 2) := by decide +kernel
theorem dX8_copy_108 : decode cX8_copy 108 = .ok (.if_icmp .ge 7, 3) := by decide +kernel
theorem dX8_copy_111 : decode cX8_copy 111 = .ok (.iconst 1, 1) := by decide +kernel
theorem dX8_copy_112 : decode cX8_copy 112 = .ok (.goto 4, 3) := by decide +kernel
theorem dX8_copy_115 : decode cX8_copy 115 = .ok (.iconst 0, 1) := by decide +kernel
theorem dX8_copy_116 : decode cX8_copy 116 = .ok (.istore 6, 2) := by decide +kernel
theorem dX8_copy_118 : decode cX8_copy 118 = .ok (.iconst 0, 1) := by decide +kernel
theorem dX8_copy_119 : decode cX8_copy 119 = .ok (.istore 7, 2) := by decide +kernel
theorem dX8_copy_121 : decode cX8_copy 121 = .ok (.iload 7, 2) := by decide +kernel
theorem dX8_copy_123 : decode cX8_copy 123 = .ok (.iload 5, 2) := by decide +kernel
theorem dX8_copy_125 : decode cX8_copy 125 = .ok (.if_icmp .ge 57, 3) := by decide +kernel
theorem dX8_copy_128 : decode cX8_copy 128 = .ok (.iload 6, 2) := by decide +kernel
theorem dX8_copy_130 : decode cX8_copy 130 = .ok (.ifCond .eq 13, 3) := by decide +kernel
theorem dX8_copy_133 : decode cX8_copy 133 = .ok (.iload 5, 2) := by decide +kernel
theorem dX8_copy_135 : decode cX8_copy 135 = .ok (.iconst 1, 1) := by decide +kernel
theorem dX8_copy_136 : decode cX8_copy 136 = .ok (.isub, 1) := by decide +kernel
theorem dX8_copy_137 : decode cX8_copy 137 = .ok (.iload 7, 2) := by decide +kernel
theorem dX8_copy_139 : decode cX8_copy 139 = .ok (.isub, 1) := by decide +kernel
theorem dX8_copy_140 : decode cX8_copy 140 = .ok (.goto 5, 3) := by decide +kernel
theorem dX8_copy_143 : decode cX8_copy 143 = .ok (.iload 7, 2) := by decide +kernel
theorem dX8_copy_145 : decode cX8_copy 145 = .ok (.istore 8, 2) := by decide +kernel
theorem dX8_copy_147 : decode cX8_copy 147 = .ok (.aload_n 0, 1) := by decide +kernel
theorem dX8_copy_148 : decode cX8_copy 148 = .ok (.getfield 96, 3) := by decide +kernel
theorem dX8_copy_151 : decode cX8_copy 151 = .ok (.bipush 40, 2) := by decide +kernel
theorem dX8_copy_153 : decode cX8_copy 153 = .ok (.iload_n 3, 1) := by decide +kernel
theorem dX8_copy_154 : decode cX8_copy 154 = .ok (.imul, 1) := by decide +kernel
theorem dX8_copy_155 : decode cX8_copy 155 = .ok (.iload 4, 2) := by decide +kernel
theorem dX8_copy_157 : decode cX8_copy 157 = .ok (.iadd, 1) := by decide +kernel
theorem dX8_copy_158 : decode cX8_copy 158 = .ok (.iload 8, 2) := by decide +kernel
theorem dX8_copy_160 : decode cX8_copy 160 = .ok (.iadd, 1) := by decide +kernel
theorem dX8_copy_161 : decode cX8_copy 161 = .ok (.aload_n 0, 1) := by decide +kernel
theorem dX8_copy_162 : decode cX8_copy 162 = .ok (.getfield 96, 3) := by decide +kernel
theorem dX8_copy_165 : decode cX8_copy 165 = .ok (.bipush 40, 2) := by decide +kernel
theorem dX8_copy_167 : decode cX8_copy 167 = .ok (.iload_n 1, 1) := by decide +kernel
theorem dX8_copy_168 : decode cX8_copy 168 = .ok (.imul, 1) := by decide +kernel
theorem dX8_copy_169 : decode cX8_copy 169 = .ok (.iload_n 2, 1) := by decide +kernel
theorem dX8_copy_170 : decode cX8_copy 170 = .ok (.iadd, 1) := by decide +kernel
theorem dX8_copy_171 : decode cX8_copy 171 = .ok (.iload 8, 2) := by decide +kernel
theorem dX8_copy_173 : decode cX8_copy 173 = .ok (.iadd, 1) := by decide +kernel
theorem dX8_copy_174 : decode cX8_copy 174 = .ok (.iaload, 1) := by decide +kernel
theorem dX8_copy_175 : decode cX8_copy 175 = .ok (.iastore, 1) := by decide +kernel
theorem dX8_copy_176 : decode cX8_copy 176 = .ok (.iinc 7 1, 3) := by decide +kernel
theorem dX8_copy_179 : decode cX8_copy 179 = .ok (.goto (-58), 3) := by decide +kernel
theorem dX8_copy_182 : decode cX8_copy 182 = .ok (.iload 5, 2) := by decide +kernel
theorem dX8_copy_184 : decode cX8_copy 184 = .ok (.ireturn, 1) := by decide +kernel
theorem dX8_likings_0 : decode cX8_likings 0 = .ok (.iload_n 1, 1) := by decide +kernel
theorem dX8_likings_1 : decode cX8_likings 1 = .ok (.invokestatic 332, 3) := by decide +kernel
theorem dX8_likings_4 : decode cX8_likings 4 = .ok (.ifCond .eq 28, 3) := by decide +kernel
theorem dX8_likings_7 : decode cX8_likings 7 = .ok (.iload_n 2, 1) := by decide +kernel
theorem dX8_likings_8 : decode cX8_likings 8 = .ok (.i2l, 1) := by decide +kernel
theorem dX8_likings_9 : decode cX8_likings 9 = .ok (.lconst 0, 1) := by decide +kernel
theorem dX8_likings_10 : decode cX8_likings 10 = .ok (.ldc2_w 129, 3) := by decide +kernel
theorem dX8_likings_13 : decode cX8_likings 13 = .ok (.invokestatic 109, 3) := by decide +kernel
theorem dX8_likings_16 : decode cX8_likings 16 = .ok (.ifCond .eq 16, 3) := by decide +kernel
theorem dX8_likings_19 : decode cX8_likings 19 = .ok (.iload 4, 2) := by decide +kernel
theorem dX8_likings_21 : decode cX8_likings 21 = .ok (.i2l, 1) := by decide +kernel
theorem dX8_likings_22 : decode cX8_likings 22 = .ok (.lconst 0, 1) := by decide +kernel
theorem dX8_likings_23 : decode cX8_likings 23 = .ok (.ldc2_w 178, 3) := by decide +kernel
theorem dX8_likings_26 : decode cX8_likings 26 = .ok (.invokestatic 109, 3) := by decide +kernel
theorem dX8_likings_29 : decode cX8_likings 29 = .ok (.ifCond .ne 6, 3) := by decide +kernel
theorem dX8_likings_32 : decode cX8_likings 32 = .ok (.bipush (-2), 2) := by decide +kernel
theorem dX8_likings_34 : decode cX8_likings 34 = .ok (.ireturn, 1) := by decide +kernel
theorem dX8_likings_35 : decode cX8_likings 35 = .ok (.aload_n 0, 1) := by decide +kernel
theorem dX8_likings_36 : decode cX8_likings 36 = .ok (.getfield 87, 3) := by decide +kernel
theorem dX8_likings_39 : decode cX8_likings 39 = .ok (.iload_n 1, 1) := by decide +kernel
theorem dX8_likings_40 : decode cX8_likings 40 = .ok (.baload, 1) := by decide +kernel
theorem dX8_likings_41 : decode cX8_likings 41 = .ok (.ifCond .eq 16, 3) := by decide +kernel
theorem dX8_likings_44 : decode cX8_likings 44 = .ok (.aload_n 0, 1) := by decide +kernel
theorem dX8_likings_45 : decode cX8_likings 45 = .ok (.getfield 90, 3) := by decide +kernel
theorem dX8_likings_48 : decode cX8_likings 48 = .ok (.iload_n 1, 1) := by decide +kernel
theorem dX8_likings_49 : decode cX8_likings 49 = .ok (.iaload, 1) := by decide +kernel
theorem dX8_likings_50 : decode cX8_likings 50 = .ok (.iload_n 2, 1) := by decide +kernel
theorem dX8_likings_51 : decode cX8_likings 51 = .ok (.if_icmp .eq 6, 3) := by decide +kernel
theorem dX8_likings_54 : decode cX8_likings 54 = .ok (.bipush (-13), 2) := by decide +kernel
theorem dX8_likings_56 : decode cX8_likings 56 = .ok (.ireturn, 1) := by decide +kernel
theorem dX8_likings_57 : decode cX8_likings 57 = .ok (.aload_n 0, 1) := by decide +kernel
theorem dX8_likings_58 : decode cX8_likings 58 = .ok (.getfield 87, 3) := by decide +kernel
theorem dX8_likings_61 : decode cX8_likings 61 = .ok (.iload_n 1, 1) := by decide +kernel
theorem dX8_likings_62 : decode cX8_likings 62 = .ok (.baload, 1) := by decide +kernel
theorem dX8_likings_63 : decode cX8_likings 63 = .ok (.ifCond .ne 6, 3) := by decide +kernel
theorem dX8_likings_66 : decode cX8_likings 66 = .ok (.bipush (-11), 2) := by decide +kernel
theorem dX8_likings_68 : decode cX8_likings 68 = .ok (.ireturn, 1) := by decide +kernel
theorem dX8_likings_69 : decode cX8_likings 69 = .ok (.iconst 0, 1) := by decide +kernel
theorem dX8_likings_70 : decode cX8_likings 70 = .ok (.istore 5, 2) := by decide +kernel
theorem dX8_likings_72 : decode cX8_likings 72 = .ok (.iconst 0, 1) := by decide +kernel
theorem dX8_likings_73 : decode cX8_likings 73 = .ok (.istore 6, 2) := by decide +kernel
theorem dX8_likings_75 : decode cX8_likings 75 = .ok (.iload 6, 2) := by decide +kernel
theorem dX8_likings_77 : decode cX8_likings 77 = .ok (.iload 4, 2) := by decide +kernel
theorem dX8_likings_79 : decode cX8_likings 79 = .ok (.if_icmp .ge 97, 3) := by decide +kernel
theorem dX8_likings_82 : decode cX8_likings 82 = .ok (.iload_n 3, 1) := by decide +kernel
theorem dX8_likings_83 : decode cX8_likings 83 = .ok (.ifCond .lt 20, 3) := by decide +kernel
theorem dX8_likings_86 : decode cX8_likings 86 = .ok (.iload_n 3, 1) := by decide +kernel
theorem dX8_likings_87 : decode cX8_likings 87 = .ok (.aload_n 0, 1) := by decide +kernel
theorem dX8_likings_88 : decode cX8_likings 88 = .ok (.getfield 93, 3) := by decide +kernel
theorem dX8_likings_91 : decode cX8_likings 91 = .ok (.iload_n 1, 1) := by decide +kernel
theorem dX8_likings_92 : decode cX8_likings 92 = .ok (.iaload, 1) := by decide +kernel
theorem dX8_likings_93 : decode cX8_likings 93 = .ok (.iconst 4, 1) := by decide +kernel
theorem dX8_likings_94 : decode cX8_likings 94 = .ok (.iload 6, 2) := by decide +kernel
theorem dX8_likings_96 : decode cX8_likings 96 = .ok (.imul, 1) := by decide +kernel
theorem dX8_likings_97 : decode cX8_likings 97 = .ok (.isub, 1) := by decide +kernel
theorem dX8_likings_98 : decode cX8_likings 98 = .ok (.iconst 4, 1) := by decide +kernel
theorem dX8_likings_99 : decode cX8_likings 99 = .ok (.isub, 1) := by decide +kernel
theorem dX8_likings_100 : decode cX8_likings 100 = .ok (.if_icmp .le 6, 3) := by decide +kernel
theorem dX8_likings_103 : decode cX8_likings 103 = .ok (.bipush (-12), 2) := by decide +kernel
theorem dX8_likings_105 : decode cX8_likings 105 = .ok (.ireturn, 1) := by decide +kernel
theorem dX8_likings_106 : decode cX8_likings 106 = .ok (.bipush 40, 2) := by decide +kernel
theorem dX8_likings_108 : decode cX8_likings 108 = .ok (.iload_n 1, 1) := by decide +kernel
theorem dX8_likings_109 : decode cX8_likings 109 = .ok (.imul, 1) := by decide +kernel
theorem dX8_likings_110 : decode cX8_likings 110 = .ok (.iload_n 3, 1) := by decide +kernel
theorem dX8_likings_111 : decode cX8_likings 111 = .ok (.iadd, 1) := by decide +kernel
theorem dX8_likings_112 : decode cX8_likings 112 = .ok (.iconst 4, 1) := by decide +kernel
theorem dX8_likings_113 : decode cX8_likings 113 = .ok (.iload 6, 2) := by decide +kernel
theorem dX8_likings_115 : decode cX8_likings 115 = .ok (.imul, 1) := by decide +kernel
theorem dX8_likings_116 : decode cX8_likings 116 = .ok (.iadd, 1) := by decide +kernel
theorem dX8_likings_117 : decode cX8_likings 117 = .ok (.istore 7, 2) := by decide +kernel
theorem dX8_likings_119 : decode cX8_likings 119 = .ok (.iload 5, 2) := by decide +kernel
theorem dX8_likings_121 : decode cX8_likings 121 = .ok (.aload_n 0, 1) := by decide +kernel
theorem dX8_likings_122 : decode cX8_likings 122 = .ok (.aload_n 0, 1) := by decide +kernel
theorem dX8_likings_123 : decode cX8_likings 123 = .ok (.getfield 96, 3) := by decide +kernel
theorem dX8_likings_126 : decode cX8_likings 126 = .ok (.iload 7, 2) := by decide +kernel
theorem dX8_likings_128 : decode cX8_likings 128 = .ok (.iaload, 1) := by decide +kernel
theorem dX8_likings_129 : decode cX8_likings 129 = .ok (.aload_n 0, 1) := by decide +kernel
theorem dX8_likings_130 : decode cX8_likings 130 = .ok (.getfield 96, 3) := by decide +kernel
theorem dX8_likings_133 : decode cX8_likings 133 = .ok (.iload 7, 2) := by decide +kernel
theorem dX8_likings_135 : decode cX8_likings 135 = .ok (.iconst 1, 1) := by decide +kernel
theorem dX8_likings_136 : decode cX8_likings 136 = .ok (.iadd, 1) := by decide +kernel
theorem dX8_likings_137 : decode cX8_likings 137 = .ok (.iaload, 1) := by decide +kernel
theorem dX8_likings_138 : decode cX8_likings 138 = .ok (.aload_n 0, 1) := by decide +kernel
theorem dX8_likings_139 : decode cX8_likings 139 = .ok (.getfield 96, 3) := by decide +kernel
theorem dX8_likings_142 : decode cX8_likings 142 = .ok (.iload 7, 2) := by decide +kernel
theorem dX8_likings_144 : decode cX8_likings 144 = .ok (.iconst 2, 1) := by decide +kernel
theorem dX8_likings_145 : decode cX8_likings 145 = .ok (.iadd, 1) := by decide +kernel
theorem dX8_likings_146 : decode cX8_likings 146 = .ok (.iaload, 1) := by decide +kernel
theorem dX8_likings_147 : decode cX8_likings 147 = .ok (.aload_n 0, 1) := by decide +kernel
theorem dX8_likings_148 : decode cX8_likings 148 = .ok (.getfield 96, 3) := by decide +kernel
theorem dX8_likings_151 : decode cX8_likings 151 = .ok (.iload 7, 2) := by decide +kernel
theorem dX8_likings_153 : decode cX8_likings 153 = .ok (.iconst 3, 1) := by decide +kernel
theorem dX8_likings_154 : decode cX8_likings 154 = .ok (.iadd, 1) := by decide +kernel
theorem dX8_likings_155 : decode cX8_likings 155 = .ok (.iaload, 1) := by decide +kernel
theorem dX8_likings_156 : decode cX8_likings 156 = .ok (.invokevirtual 364, 3) := by decide +kernel
theorem dX8_likings_159 : decode cX8_likings 159 = .ok (.ifCond .lt 7, 3) := by decide +kernel
theorem dX8_likings_162 : decode cX8_likings 162 = .ok (.iconst 1, 1) := by decide +kernel
theorem dX8_likings_163 : decode cX8_likings 163 = .ok (.goto 4, 3) := by decide +kernel
theorem dX8_likings_166 : decode cX8_likings 166 = .ok (.iconst 0, 1) := by decide +kernel
theorem dX8_likings_167 : decode cX8_likings 167 = .ok (.iadd, 1) := by decide +kernel
theorem dX8_likings_168 : decode cX8_likings 168 = .ok (.istore 5, 2) := by decide +kernel
theorem dX8_likings_170 : decode cX8_likings 170 = .ok (.iinc 6 1, 3) := by decide +kernel
theorem dX8_likings_173 : decode cX8_likings 173 = .ok (.goto (-98), 3) := by decide +kernel
theorem dX8_likings_176 : decode cX8_likings 176 = .ok (.iload 5, 2) := by decide +kernel
theorem dX8_likings_178 : decode cX8_likings 178 = .ok (.ireturn, 1) := by decide +kernel
theorem dX8_over_0 : decode cX8_over 0 = .ok (.iload_n 0, 1) := by decide +kernel
theorem dX8_over_1 : decode cX8_over 1 = .ok (.ifCond .ne 7, 3) := by decide +kernel
theorem dX8_over_4 : decode cX8_over 4 = .ok (.iconst (-1), 1) := by decide +kernel
theorem dX8_over_5 : decode cX8_over 5 = .ok (.goto 22, 3) := by decide +kernel
theorem dX8_over_8 : decode cX8_over 8 = .ok (.iload_n 0, 1) := by decide +kernel
theorem dX8_over_9 : decode cX8_over 9 = .ok (.iconst 3, 1) := by decide +kernel
theorem dX8_over_10 : decode cX8_over 10 = .ok (.if_icmp .ne 7, 3) := by decide +kernel
theorem dX8_over_13 : decode cX8_over 13 = .ok (.iconst 2, 1) := by decide +kernel
theorem dX8_over_14 : decode cX8_over 14 = .ok (.goto 13, 3) := by decide +kernel
theorem dX8_over_17 : decode cX8_over 17 = .ok (.iload_n 0, 1) := by decide +kernel
theorem dX8_over_18 : decode cX8_over 18 = .ok (.iconst 4, 1) := by decide +kernel
theorem dX8_over_19 : decode cX8_over 19 = .ok (.if_icmp .ne 7, 3) := by decide +kernel
theorem dX8_over_22 : decode cX8_over 22 = .ok (.iconst 1, 1) := by decide +kernel
theorem dX8_over_23 : decode cX8_over 23 = .ok (.goto 4, 3) := by decide +kernel
theorem dX8_over_26 : decode cX8_over 26 = .ok (.iconst 0, 1) := by decide +kernel
theorem dX8_over_27 : decode cX8_over 27 = .ok (.ireturn, 1) := by decide +kernel
theorem dX8_taken_0 : decode cX8_taken 0 = .ok (.iload_n 2, 1) := by decide +kernel
theorem dX8_taken_1 : decode cX8_taken 1 = .ok (.i2l, 1) := by decide +kernel
theorem dX8_taken_2 : decode cX8_taken 2 = .ok (.lconst 0, 1) := by decide +kernel
theorem dX8_taken_3 : decode cX8_taken 3 = .ok (.ldc2_w 118, 3) := by decide +kernel
theorem dX8_taken_6 : decode cX8_taken 6 = .ok (.invokestatic 109, 3) := by decide +kernel
theorem dX8_taken_9 : decode cX8_taken 9 = .ok (.ifCond .ne 6, 3) := by decide +kernel
theorem dX8_taken_12 : decode cX8_taken 12 = .ok (.bipush (-2), 2) := by decide +kernel
theorem dX8_taken_14 : decode cX8_taken 14 = .ok (.ireturn, 1) := by decide +kernel
theorem dX8_taken_15 : decode cX8_taken 15 = .ok (.aload_n 0, 1) := by decide +kernel
theorem dX8_taken_16 : decode cX8_taken 16 = .ok (.iload_n 1, 1) := by decide +kernel
theorem dX8_taken_17 : decode cX8_taken 17 = .ok (.invokevirtual 124, 3) := by decide +kernel
theorem dX8_taken_20 : decode cX8_taken 20 = .ok (.ifCond .ne 6, 3) := by decide +kernel
theorem dX8_taken_23 : decode cX8_taken 23 = .ok (.bipush (-11), 2) := by decide +kernel
theorem dX8_taken_25 : decode cX8_taken 25 = .ok (.ireturn, 1) := by decide +kernel
theorem dX8_taken_26 : decode cX8_taken 26 = .ok (.aload_n 0, 1) := by decide +kernel
theorem dX8_taken_27 : decode cX8_taken 27 = .ok (.getfield 38, 3) := by decide +kernel
theorem dX8_taken_30 : decode cX8_taken 30 = .ok (.iload_n 1, 1) := by decide +kernel
theorem dX8_taken_31 : decode cX8_taken 31 = .ok (.iaload, 1) := by decide +kernel
theorem dX8_taken_32 : decode cX8_taken 32 = .ok (.istore_n 3, 1) := by decide +kernel
theorem dX8_taken_33 : decode cX8_taken 33 = .ok (.iload_n 3, 1) := by decide +kernel
theorem dX8_taken_34 : decode cX8_taken 34 = .ok (.iconst (-1), 1) := by decide +kernel
theorem dX8_taken_35 : decode cX8_taken 35 = .ok (.if_icmp .eq 16, 3) := by decide +kernel
theorem dX8_taken_38 : decode cX8_taken 38 = .ok (.iload_n 3, 1) := by decide +kernel
theorem dX8_taken_39 : decode cX8_taken 39 = .ok (.iload_n 2, 1) := by decide +kernel
theorem dX8_taken_40 : decode cX8_taken 40 = .ok (.if_icmp .eq 11, 3) := by decide +kernel
theorem dX8_taken_43 : decode cX8_taken 43 = .ok (.iload_n 3, 1) := by decide +kernel
theorem dX8_taken_44 : decode cX8_taken 44 = .ok (.invokestatic 367, 3) := by decide +kernel
theorem dX8_taken_47 : decode cX8_taken 47 = .ok (.istore_n 3, 1) := by decide +kernel
theorem dX8_taken_48 : decode cX8_taken 48 = .ok (.goto (-15), 3) := by decide +kernel
theorem dX8_taken_51 : decode cX8_taken 51 = .ok (.iload_n 3, 1) := by decide +kernel
theorem dX8_taken_52 : decode cX8_taken 52 = .ok (.iload_n 2, 1) := by decide +kernel
theorem dX8_taken_53 : decode cX8_taken 53 = .ok (.if_icmp .ne 12, 3) := by decide +kernel
theorem dX8_taken_56 : decode cX8_taken 56 = .ok (.aload_n 0, 1) := by decide +kernel
theorem dX8_taken_57 : decode cX8_taken 57 = .ok (.getfield 41, 3) := by decide +kernel
theorem dX8_taken_60 : decode cX8_taken 60 = .ok (.iload_n 1, 1) := by decide +kernel
theorem dX8_taken_61 : decode cX8_taken 61 = .ok (.iaload, 1) := by decide +kernel
theorem dX8_taken_62 : decode cX8_taken 62 = .ok (.goto 5, 3) := by decide +kernel
theorem dX8_taken_65 : decode cX8_taken 65 = .ok (.bipush (-13), 2) := by decide +kernel
theorem dX8_taken_67 : decode cX8_taken 67 = .ok (.ireturn, 1) := by decide +kernel
end
section
/-! the good words of the tables (those that a callee may ask of its caller), each by its place -/
def tG : List Cond := lw_tbl.filter goodWord
theorem tG_in {w : Cond} (h : w ∈ lw_tbl) (hg : goodWord w = true) : w ∈ tG := List.mem_filter.mpr ⟨h, hg⟩
theorem tG_t {w : Cond} (i : Nat) (h : tables_1[i]? = some w) (hg : goodWord w = true) : w ∈ tG := tG_in (List.mem_append_right _ (List.mem_of_getElem? h)) hg
theorem tG_s {w : Cond} (i : Nat) (h : (k2_sels lw_privs)[i]? = some w) (hg : goodWord w = true) : w ∈ tG := tG_in (List.mem_append_left _ (List.mem_of_getElem? h)) hg
abbrev wsO (y : MethodName) (b : ByteArray) (n : Nat) (r : Option FieldType) : List Cond := Cond.code y b n r :: tG
theorem gO {Ts : List Cond} {y : MethodName} {b : ByteArray} {n : Nat} {r : Option FieldType} (hT : ∀ w ∈ tG, w ∈ Ts) (h : Cond.code y b n r ∈ tG) : GoodIn Ts (wsO y b n r) := by
  have key : ∀ w ∈ tG, w ∈ Ts ∧ ((w.onTables && w.keeps) = true ∨ ∃ ty, w = .arrayClass ty) := fun w hw => ⟨hT w hw, good_of_word (List.mem_filter.mp hw).2⟩
  intro w hw
  rcases List.mem_cons.mp hw with e | hw
  · rw [e]; exact key _ h
  · exact key w hw
theorem tb0 : Cond.initialized "RefusedMayAskLaw" ∈ tG := tG_t 0 (by decide +kernel) (by decide +kernel)
theorem tb1 : Cond.initialized RX7 ∈ tG := tG_t 1 (by decide +kernel) (by decide +kernel)
theorem tb2 : Cond.initialized RX2 ∈ tG := tG_t 2 (by decide +kernel) (by decide +kernel)
theorem tb3 : Cond.initialized RX1 ∈ tG := tG_t 3 (by decide +kernel) (by decide +kernel)
theorem tb4 : Cond.initialized RX6 ∈ tG := tG_t 4 (by decide +kernel) (by decide +kernel)
theorem tb5 : Cond.initialized RX3 ∈ tG := tG_t 5 (by decide +kernel) (by decide +kernel)
theorem tb6 : Cond.initialized RX4 ∈ tG := tG_t 6 (by decide +kernel) (by decide +kernel)
theorem tb7 : Cond.initialized RJ0 ∈ tG := tG_t 7 (by decide +kernel) (by decide +kernel)
theorem tb8 : Cond.initialized RJ1 ∈ tG := tG_t 8 (by decide +kernel) (by decide +kernel)
theorem tb9 : Cond.initialized RJ3 ∈ tG := tG_t 9 (by decide +kernel) (by decide +kernel)
theorem tb10 : Cond.initialized RJ2 ∈ tG := tG_t 10 (by decide +kernel) (by decide +kernel)
theorem tb11 : Cond.initialized RJ9 ∈ tG := tG_t 11 (by decide +kernel) (by decide +kernel)
theorem tb12 : Cond.initialized "java/lang/System" ∈ tG := tG_t 12 (by decide +kernel) (by decide +kernel)
theorem tb13 : Cond.initialized RX5 ∈ tG := tG_t 13 (by decide +kernel) (by decide +kernel)
theorem tb14 : Cond.initialized RJ7 ∈ tG := tG_t 14 (by decide +kernel) (by decide +kernel)
theorem tb15 : Cond.initialized RX8 ∈ tG := tG_t 15 (by decide +kernel) (by decide +kernel)
theorem tb16 : Cond.initialized RX0 ∈ tG := tG_t 16 (by decide +kernel) (by decide +kernel)
theorem tb17 : Cond.classLink "RefusedMayAskLaw" 7 RX7 ∈ tG := tG_t 17 (by decide +kernel) (by decide +kernel)
theorem tb18 : Cond.instantiable RX7 10 ∈ tG := tG_t 18 (by decide +kernel) (by decide +kernel)
theorem tb19 : Cond.methodLink "RefusedMayAskLaw" 9 yX7_init ∈ tG := tG_t 19 (by decide +kernel) (by decide +kernel)
theorem tb20 : Cond.instanceMethod yX7_init ∈ tG := tG_t 20 (by decide +kernel) (by decide +kernel)
theorem tb21 : Cond.code yX7_init cX7_init 2 none ∈ tG := tG_t 21 (by decide +kernel) (by decide +kernel)
theorem tb22 : Cond.methodLink RX7 1 objectInit ∈ tG := tG_t 22 (by decide +kernel) (by decide +kernel)
theorem tb23 : Cond.instanceMethod objectInit ∈ tG := tG_t 23 (by decide +kernel) (by decide +kernel)
theorem tb24 : Cond.code objectInit object_method_1_code 1 none ∈ tG := tG_t 24 (by decide +kernel) (by decide +kernel)
theorem tb25 : Cond.classLink RX7 7 RX2 ∈ tG := tG_t 25 (by decide +kernel) (by decide +kernel)
theorem tb26 : Cond.instantiable RX2 10 ∈ tG := tG_t 26 (by decide +kernel) (by decide +kernel)
theorem tb28 : Cond.instanceMethod yX2_init ∈ tG := tG_t 28 (by decide +kernel) (by decide +kernel)
theorem tb29 : Cond.code yX2_init cX2_init 1 none ∈ tG := tG_t 29 (by decide +kernel) (by decide +kernel)
theorem tb30 : Cond.methodLink RX2 3 objectInit ∈ tG := tG_t 30 (by decide +kernel) (by decide +kernel)
theorem tb31 : Cond.fieldLink RX2 11 "RefusedMayAsk$Reader" "codes" "[I" ∈ tG := tG_t 31 (by decide +kernel) (by decide +kernel)
theorem tb32 : Cond.fieldLink RX7 73 "RefusedMayAsk$Reader" "codes" "[I" ∈ tG := tG_t 32 (by decide +kernel) (by decide +kernel)
theorem tb33 : Cond.fieldLink RX2 17 "RefusedMayAsk$Reader" "ends" "[I" ∈ tG := tG_t 33 (by decide +kernel) (by decide +kernel)
theorem tb34 : Cond.fieldLink RX7 77 "RefusedMayAsk$Reader" "ends" "[I" ∈ tG := tG_t 34 (by decide +kernel) (by decide +kernel)
theorem tb35 : Cond.fieldLink RX2 20 "RefusedMayAsk$Reader" "size" "I" ∈ tG := tG_t 35 (by decide +kernel) (by decide +kernel)
theorem tb36 : Cond.fieldLink RX7 84 "RefusedMayAsk$Reader" "size" "I" ∈ tG := tG_t 36 (by decide +kernel) (by decide +kernel)
theorem tb37 : Cond.fieldLink RX2 24 "RefusedMayAsk$Reader" "tape" "[I" ∈ tG := tG_t 37 (by decide +kernel) (by decide +kernel)
theorem tb38 : Cond.fieldLink RX2 27 "RefusedMayAsk$Reader" "length" "I" ∈ tG := tG_t 38 (by decide +kernel) (by decide +kernel)
theorem tb39 : Cond.fieldLink RX2 30 "RefusedMayAsk$Reader" "place" "I" ∈ tG := tG_t 39 (by decide +kernel) (by decide +kernel)
theorem tb40 : Cond.fieldLink RX2 33 "RefusedMayAsk$Reader" "start" "I" ∈ tG := tG_t 40 (by decide +kernel) (by decide +kernel)
theorem tb41 : Cond.fieldLink RX2 36 "RefusedMayAsk$Reader" "token" "I" ∈ tG := tG_t 41 (by decide +kernel) (by decide +kernel)
theorem tb42 : Cond.fieldLink RX2 39 "RefusedMayAsk$Reader" "value" "I" ∈ tG := tG_t 42 (by decide +kernel) (by decide +kernel)
theorem tb43 : Cond.fieldLink RX2 42 "RefusedMayAsk$Reader" "fault" "I" ∈ tG := tG_t 43 (by decide +kernel) (by decide +kernel)
theorem tb65 : Cond.arrayClass .int ∈ tG := tG_t 65 (by decide +kernel) (by decide +kernel)
theorem tb66 : Cond.classLink RX7 16 RX3 ∈ tG := tG_t 66 (by decide +kernel) (by decide +kernel)
theorem tb68 : Cond.classLink RX7 30 RX1 ∈ tG := tG_t 68 (by decide +kernel) (by decide +kernel)
theorem tb69 : Cond.instantiable RX1 7 ∈ tG := tG_t 69 (by decide +kernel) (by decide +kernel)
theorem tb71 : Cond.instanceMethod yX1_init ∈ tG := tG_t 71 (by decide +kernel) (by decide +kernel)
theorem tb72 : Cond.code yX1_init cX1_init 1 none ∈ tG := tG_t 72 (by decide +kernel) (by decide +kernel)
theorem tb73 : Cond.methodLink RX1 3 objectInit ∈ tG := tG_t 73 (by decide +kernel) (by decide +kernel)
theorem tb74 : Cond.fieldLink RX1 11 "RefusedMayAsk$Pairings" "rows" "[I" ∈ tG := tG_t 74 (by decide +kernel) (by decide +kernel)
theorem tb75 : Cond.fieldLink RX7 215 "RefusedMayAsk$Pairings" "rows" "[I" ∈ tG := tG_t 75 (by decide +kernel) (by decide +kernel)
theorem tb76 : Cond.fieldLink RX1 15 "RefusedMayAsk$Pairings" "content" "[I" ∈ tG := tG_t 76 (by decide +kernel) (by decide +kernel)
theorem tb77 : Cond.fieldLink RX7 218 "RefusedMayAsk$Pairings" "content" "[I" ∈ tG := tG_t 77 (by decide +kernel) (by decide +kernel)
theorem tb78 : Cond.fieldLink RX1 18 "RefusedMayAsk$Pairings" "best" "[I" ∈ tG := tG_t 78 (by decide +kernel) (by decide +kernel)
theorem tb79 : Cond.fieldLink RX1 21 "RefusedMayAsk$Pairings" "allowed" "[Z" ∈ tG := tG_t 79 (by decide +kernel) (by decide +kernel)
theorem tb80 : Cond.fieldLink RX1 25 "RefusedMayAsk$Pairings" "worth" "[I" ∈ tG := tG_t 80 (by decide +kernel) (by decide +kernel)
theorem tb81 : Cond.fieldLink RX1 28 "RefusedMayAsk$Pairings" "wife" "[I" ∈ tG := tG_t 81 (by decide +kernel) (by decide +kernel)
theorem tb82 : Cond.fieldLink RX1 31 "RefusedMayAsk$Pairings" "likesOwn" "[I" ∈ tG := tG_t 82 (by decide +kernel) (by decide +kernel)
theorem tb98 : Cond.arrayClass .boolean ∈ tG := tG_t 98 (by decide +kernel) (by decide +kernel)
theorem tb99 : Cond.classLink RX7 37 RX6 ∈ tG := tG_t 99 (by decide +kernel) (by decide +kernel)
theorem tb100 : Cond.instantiable RX6 5 ∈ tG := tG_t 100 (by decide +kernel) (by decide +kernel)
theorem tb102 : Cond.instanceMethod yX6_init ∈ tG := tG_t 102 (by decide +kernel) (by decide +kernel)
theorem tb103 : Cond.code yX6_init cX6_init 1 none ∈ tG := tG_t 103 (by decide +kernel) (by decide +kernel)
theorem tb104 : Cond.methodLink RX6 3 objectInit ∈ tG := tG_t 104 (by decide +kernel) (by decide +kernel)
theorem tb105 : Cond.fieldLink RX6 9 "RefusedMayAsk$Ways" "asked" "[I" ∈ tG := tG_t 105 (by decide +kernel) (by decide +kernel)
theorem tb106 : Cond.fieldLink RX7 206 "RefusedMayAsk$Ways" "asked" "[I" ∈ tG := tG_t 106 (by decide +kernel) (by decide +kernel)
theorem tb107 : Cond.fieldLink RX6 15 "RefusedMayAsk$Ways" "found" "Z" ∈ tG := tG_t 107 (by decide +kernel) (by decide +kernel)
theorem tb108 : Cond.fieldLink RX7 198 "RefusedMayAsk$Ways" "found" "Z" ∈ tG := tG_t 108 (by decide +kernel) (by decide +kernel)
theorem tb109 : Cond.fieldLink RX6 19 "RefusedMayAsk$Ways" "length" "I" ∈ tG := tG_t 109 (by decide +kernel) (by decide +kernel)
theorem tb110 : Cond.fieldLink RX7 201 "RefusedMayAsk$Ways" "length" "I" ∈ tG := tG_t 110 (by decide +kernel) (by decide +kernel)
theorem tb111 : Cond.fieldLink RX6 23 "RefusedMayAsk$Ways" "prices" "I" ∈ tG := tG_t 111 (by decide +kernel) (by decide +kernel)
theorem tb112 : Cond.fieldLink RX7 203 "RefusedMayAsk$Ways" "prices" "I" ∈ tG := tG_t 112 (by decide +kernel) (by decide +kernel)
theorem tb113 : Cond.fieldLink RX6 26 "RefusedMayAsk$Ways" "path" "[I" ∈ tG := tG_t 113 (by decide +kernel) (by decide +kernel)
theorem tb125 : Cond.classLink RX7 44 RX4 ∈ tG := tG_t 125 (by decide +kernel) (by decide +kernel)
theorem tb127 : Cond.instantiable RX3 4 ∈ tG := tG_t 127 (by decide +kernel) (by decide +kernel)
theorem tb128 : Cond.methodLink RX7 50 yX3_init ∈ tG := tG_t 128 (by decide +kernel) (by decide +kernel)
theorem tb129 : Cond.instanceMethod yX3_init ∈ tG := tG_t 129 (by decide +kernel) (by decide +kernel)
theorem tb130 : Cond.code yX3_init cX3_init 2 none ∈ tG := tG_t 130 (by decide +kernel) (by decide +kernel)
theorem tb131 : Cond.methodLink RX3 1 objectInit ∈ tG := tG_t 131 (by decide +kernel) (by decide +kernel)
theorem tb132 : Cond.fieldLink RX3 21 "RefusedMayAsk$Rule" "number" "I" ∈ tG := tG_t 132 (by decide +kernel) (by decide +kernel)
theorem tb133 : Cond.fieldLink RX7 185 "RefusedMayAsk$Rule" "number" "I" ∈ tG := tG_t 133 (by decide +kernel) (by decide +kernel)
theorem tb134 : Cond.fieldLink RX3 9 "RefusedMayAsk$Rule" "codes" "[I" ∈ tG := tG_t 134 (by decide +kernel) (by decide +kernel)
theorem tb135 : Cond.fieldLink RX3 15 "RefusedMayAsk$Rule" "ends" "[I" ∈ tG := tG_t 135 (by decide +kernel) (by decide +kernel)
theorem tb136 : Cond.fieldLink RX3 18 "RefusedMayAsk$Rule" "stack" "[I" ∈ tG := tG_t 136 (by decide +kernel) (by decide +kernel)
theorem tb146 : Cond.instantiable RX4 3 ∈ tG := tG_t 146 (by decide +kernel) (by decide +kernel)
theorem tb148 : Cond.instanceMethod yX4_init ∈ tG := tG_t 148 (by decide +kernel) (by decide +kernel)
theorem tb149 : Cond.code yX4_init cX4_init 1 none ∈ tG := tG_t 149 (by decide +kernel) (by decide +kernel)
theorem tb150 : Cond.methodLink RX4 3 objectInit ∈ tG := tG_t 150 (by decide +kernel) (by decide +kernel)
theorem tb151 : Cond.fieldLink RX4 11 "RefusedMayAsk$Sheet" "sort" "I" ∈ tG := tG_t 151 (by decide +kernel) (by decide +kernel)
theorem tb152 : Cond.fieldLink RX7 280 "RefusedMayAsk$Sheet" "sort" "I" ∈ tG := tG_t 152 (by decide +kernel) (by decide +kernel)
theorem tb153 : Cond.fieldLink RX4 15 "RefusedMayAsk$Sheet" "size" "I" ∈ tG := tG_t 153 (by decide +kernel) (by decide +kernel)
theorem tb154 : Cond.fieldLink RX7 231 "RefusedMayAsk$Sheet" "size" "I" ∈ tG := tG_t 154 (by decide +kernel) (by decide +kernel)
theorem tb155 : Cond.fieldLink RX4 18 "RefusedMayAsk$Sheet" "items" "[I" ∈ tG := tG_t 155 (by decide +kernel) (by decide +kernel)
theorem tb156 : Cond.fieldLink RX7 232 "RefusedMayAsk$Sheet" "items" "[I" ∈ tG := tG_t 156 (by decide +kernel) (by decide +kernel)
theorem tb165 : Cond.methodLink RX7 56 yJ0_length_8abf5 ∈ tG := tG_t 165 (by decide +kernel) (by decide +kernel)
theorem tb166 : Cond.instanceMethod yJ0_length_8abf5 ∈ tG := tG_t 166 (by decide +kernel) (by decide +kernel)
theorem tb167 : Cond.selects RJ0 yJ0_length_8abf5 yJ0_length_8abf5 ∈ tG := tG_t 167 (by decide +kernel) (by decide +kernel)
theorem tb168 : Cond.code yJ0_length_8abf5 cJ0_length_8abf5 1 (some .int) ∈ tG := tG_t 168 (by decide +kernel) (by decide +kernel)
theorem tb169 : Cond.methodLink RJ0 335 yJ0_coder_7d493 ∈ tG := tG_t 169 (by decide +kernel) (by decide +kernel)
theorem tb170 : Cond.instanceMethod yJ0_coder_7d493 ∈ tG := tG_t 170 (by decide +kernel) (by decide +kernel)
theorem tb171 : Cond.selects RJ0 yJ0_coder_7d493 yJ0_coder_7d493 ∈ tG := tG_t 171 (by decide +kernel) (by decide +kernel)
theorem tb172 : Cond.code yJ0_coder_7d493 cJ0_coder_7d493 1 (some .byte) ∈ tG := tG_t 172 (by decide +kernel) (by decide +kernel)
theorem tb173 : Cond.fieldLink RJ0 38 "java/lang/String" "COMPACT_STRINGS" "Z" ∈ tG := tG_t 173 (by decide +kernel) (by decide +kernel)
theorem tb175 : Cond.methodLink RX7 62 yJ0_charAt_5068e ∈ tG := tG_t 175 (by decide +kernel) (by decide +kernel)
theorem tb176 : Cond.instanceMethod yJ0_charAt_5068e ∈ tG := tG_t 176 (by decide +kernel) (by decide +kernel)
theorem tb177 : Cond.selects RJ0 yJ0_charAt_5068e yJ0_charAt_5068e ∈ tG := tG_t 177 (by decide +kernel) (by decide +kernel)
theorem tb178 : Cond.code yJ0_charAt_5068e cJ0_charAt_5068e 2 (some .char) ∈ tG := tG_t 178 (by decide +kernel) (by decide +kernel)
theorem tb179 : Cond.methodLink RJ0 492 yJ0_isLatin1_aae02 ∈ tG := tG_t 179 (by decide +kernel) (by decide +kernel)
theorem tb180 : Cond.instanceMethod yJ0_isLatin1_aae02 ∈ tG := tG_t 180 (by decide +kernel) (by decide +kernel)
theorem tb181 : Cond.selects RJ0 yJ0_isLatin1_aae02 yJ0_isLatin1_aae02 ∈ tG := tG_t 181 (by decide +kernel) (by decide +kernel)
theorem tb182 : Cond.code yJ0_isLatin1_aae02 cJ0_isLatin1_aae02 1 (some .boolean) ∈ tG := tG_t 182 (by decide +kernel) (by decide +kernel)
theorem tb183 : Cond.methodLink RJ0 495 yJ1_charAt_3b067 ∈ tG := tG_t 183 (by decide +kernel) (by decide +kernel)
theorem tb184 : Cond.static yJ1_charAt_3b067 ∈ tG := tG_t 184 (by decide +kernel) (by decide +kernel)
theorem tb185 : Cond.code yJ1_charAt_3b067 cJ1_charAt_3b067 2 (some .char) ∈ tG := tG_t 185 (by decide +kernel) (by decide +kernel)
theorem tb186 : Cond.methodLink RJ1 9 yJ0_checkIndex_df160 ∈ tG := tG_t 186 (by decide +kernel) (by decide +kernel)
theorem tb187 : Cond.static yJ0_checkIndex_df160 ∈ tG := tG_t 187 (by decide +kernel) (by decide +kernel)
theorem tb188 : Cond.code yJ0_checkIndex_df160 cJ0_checkIndex_df160 2 none ∈ tG := tG_t 188 (by decide +kernel) (by decide +kernel)
theorem tb189 : Cond.fieldLink RJ0 1053 "jdk/internal/util/Preconditions" "SIOOBE_FORMATTER" "Ljava/util/function/BiFunction;" ∈ tG := tG_t 189 (by decide +kernel) (by decide +kernel)
theorem tb191 : Cond.methodLink RJ0 1059 yJ3_checkIndex_8e157 ∈ tG := tG_t 191 (by decide +kernel) (by decide +kernel)
theorem tb192 : Cond.static yJ3_checkIndex_8e157 ∈ tG := tG_t 192 (by decide +kernel) (by decide +kernel)
theorem tb193 : Cond.code yJ3_checkIndex_8e157 cJ3_checkIndex_8e157 3 (some .int) ∈ tG := tG_t 193 (by decide +kernel) (by decide +kernel)
theorem tb194 : Cond.methodLink RJ0 498 yJ2_charAt_3b067 ∈ tG := tG_t 194 (by decide +kernel) (by decide +kernel)
theorem tb195 : Cond.static yJ2_charAt_3b067 ∈ tG := tG_t 195 (by decide +kernel) (by decide +kernel)
theorem tb196 : Cond.code yJ2_charAt_3b067 cJ2_charAt_3b067 2 (some .char) ∈ tG := tG_t 196 (by decide +kernel) (by decide +kernel)
theorem tb197 : Cond.methodLink RJ2 67 yJ2_checkIndex_2214a ∈ tG := tG_t 197 (by decide +kernel) (by decide +kernel)
theorem tb198 : Cond.static yJ2_checkIndex_2214a ∈ tG := tG_t 198 (by decide +kernel) (by decide +kernel)
theorem tb199 : Cond.code yJ2_checkIndex_2214a cJ2_checkIndex_2214a 2 none ∈ tG := tG_t 199 (by decide +kernel) (by decide +kernel)
theorem tb200 : Cond.methodLink RJ2 48 yJ2_length_9d52b ∈ tG := tG_t 200 (by decide +kernel) (by decide +kernel)
theorem tb201 : Cond.static yJ2_length_9d52b ∈ tG := tG_t 201 (by decide +kernel) (by decide +kernel)
theorem tb202 : Cond.code yJ2_length_9d52b cJ2_length_9d52b 1 (some .int) ∈ tG := tG_t 202 (by decide +kernel) (by decide +kernel)
theorem tb203 : Cond.methodLink RJ2 414 yJ0_checkIndex_df160 ∈ tG := tG_t 203 (by decide +kernel) (by decide +kernel)
theorem tb204 : Cond.methodLink RJ2 71 yJ2_getChar_3b067 ∈ tG := tG_t 204 (by decide +kernel) (by decide +kernel)
theorem tb205 : Cond.static yJ2_getChar_3b067 ∈ tG := tG_t 205 (by decide +kernel) (by decide +kernel)
theorem tb206 : Cond.code yJ2_getChar_3b067 cJ2_getChar_3b067 2 (some .char) ∈ tG := tG_t 206 (by decide +kernel) (by decide +kernel)
theorem tb207 : Cond.fieldLink RJ2 44 "java/lang/StringUTF16" "$assertionsDisabled" "Z" ∈ tG := tG_t 207 (by decide +kernel) (by decide +kernel)
theorem tb209 : Cond.fieldLink RJ2 59 "java/lang/StringUTF16" "HI_BYTE_SHIFT" "I" ∈ tG := tG_t 209 (by decide +kernel) (by decide +kernel)
theorem tb211 : Cond.fieldLink RJ2 63 "java/lang/StringUTF16" "LO_BYTE_SHIFT" "I" ∈ tG := tG_t 211 (by decide +kernel) (by decide +kernel)
theorem tb213 : Cond.methodLink RX7 66 yX2_append ∈ tG := tG_t 213 (by decide +kernel) (by decide +kernel)
theorem tb214 : Cond.instanceMethod yX2_append ∈ tG := tG_t 214 (by decide +kernel) (by decide +kernel)
theorem tb215 : Cond.selects RX2 yX2_append yX2_append ∈ tG := tG_t 215 (by decide +kernel) (by decide +kernel)
theorem tb216 : Cond.code yX2_append cX2_append 2 (some .boolean) ∈ tG := tG_t 216 (by decide +kernel) (by decide +kernel)
theorem tb217 : Cond.methodLink RX7 70 yX2_read ∈ tG := tG_t 217 (by decide +kernel) (by decide +kernel)
theorem tb218 : Cond.instanceMethod yX2_read ∈ tG := tG_t 218 (by decide +kernel) (by decide +kernel)
theorem tb219 : Cond.selects RX2 yX2_read yX2_read ∈ tG := tG_t 219 (by decide +kernel) (by decide +kernel)
theorem tb220 : Cond.code yX2_read cX2_read 2 (some .int) ∈ tG := tG_t 220 (by decide +kernel) (by decide +kernel)
theorem tb221 : Cond.methodLink RX2 45 yX2_advance ∈ tG := tG_t 221 (by decide +kernel) (by decide +kernel)
theorem tb223 : Cond.instanceMethod yX2_advance ∈ tG := tG_t 223 (by decide +kernel) (by decide +kernel)
theorem tb224 : Cond.code yX2_advance cX2_advance 1 none ∈ tG := tG_t 224 (by decide +kernel) (by decide +kernel)
theorem tb225 : Cond.methodLink RX2 73 yX2_isLetter ∈ tG := tG_t 225 (by decide +kernel) (by decide +kernel)
theorem tb226 : Cond.static yX2_isLetter ∈ tG := tG_t 226 (by decide +kernel) (by decide +kernel)
theorem tb227 : Cond.code yX2_isLetter cX2_isLetter 1 (some .boolean) ∈ tG := tG_t 227 (by decide +kernel) (by decide +kernel)
theorem tb228 : Cond.methodLink RX2 76 yX2_takeWord ∈ tG := tG_t 228 (by decide +kernel) (by decide +kernel)
theorem tb230 : Cond.instanceMethod yX2_takeWord ∈ tG := tG_t 230 (by decide +kernel) (by decide +kernel)
theorem tb231 : Cond.code yX2_takeWord cX2_takeWord 2 none ∈ tG := tG_t 231 (by decide +kernel) (by decide +kernel)
theorem tb232 : Cond.methodLink RX2 88 yX2_spelling ∈ tG := tG_t 232 (by decide +kernel) (by decide +kernel)
theorem tb233 : Cond.static yX2_spelling ∈ tG := tG_t 233 (by decide +kernel) (by decide +kernel)
theorem tb234 : Cond.code yX2_spelling cX2_spelling 1 (some (.object "java/lang/String")) ∈ tG := tG_t 234 (by decide +kernel) (by decide +kernel)
theorem tb247 : Cond.methodLink RX2 92 yX2_spells ∈ tG := tG_t 247 (by decide +kernel) (by decide +kernel)
theorem tb249 : Cond.instanceMethod yX2_spells ∈ tG := tG_t 249 (by decide +kernel) (by decide +kernel)
theorem tb250 : Cond.code yX2_spells cX2_spells 3 (some .boolean) ∈ tG := tG_t 250 (by decide +kernel) (by decide +kernel)
theorem tb251 : Cond.methodLink RX2 96 yJ0_length_8abf5 ∈ tG := tG_t 251 (by decide +kernel) (by decide +kernel)
theorem tb252 : Cond.methodLink RX2 101 yJ0_charAt_5068e ∈ tG := tG_t 252 (by decide +kernel) (by decide +kernel)
theorem tb253 : Cond.methodLink RX2 79 yX2_isDigit ∈ tG := tG_t 253 (by decide +kernel) (by decide +kernel)
theorem tb254 : Cond.static yX2_isDigit ∈ tG := tG_t 254 (by decide +kernel) (by decide +kernel)
theorem tb255 : Cond.code yX2_isDigit cX2_isDigit 1 (some .boolean) ∈ tG := tG_t 255 (by decide +kernel) (by decide +kernel)
theorem tb256 : Cond.methodLink RX2 82 yX2_takeNumber ∈ tG := tG_t 256 (by decide +kernel) (by decide +kernel)
theorem tb258 : Cond.instanceMethod yX2_takeNumber ∈ tG := tG_t 258 (by decide +kernel) (by decide +kernel)
theorem tb259 : Cond.code yX2_takeNumber cX2_takeNumber 1 none ∈ tG := tG_t 259 (by decide +kernel) (by decide +kernel)
theorem tb260 : Cond.methodLink RX2 85 yX2_isSign ∈ tG := tG_t 260 (by decide +kernel) (by decide +kernel)
theorem tb261 : Cond.static yX2_isSign ∈ tG := tG_t 261 (by decide +kernel) (by decide +kernel)
theorem tb262 : Cond.code yX2_isSign cX2_isSign 1 (some .boolean) ∈ tG := tG_t 262 (by decide +kernel) (by decide +kernel)
theorem tb263 : Cond.methodLink RX2 48 yX2_expect ∈ tG := tG_t 263 (by decide +kernel) (by decide +kernel)
theorem tb265 : Cond.instanceMethod yX2_expect ∈ tG := tG_t 265 (by decide +kernel) (by decide +kernel)
theorem tb266 : Cond.code yX2_expect cX2_expect 2 none ∈ tG := tG_t 266 (by decide +kernel) (by decide +kernel)
theorem tb267 : Cond.methodLink RX2 70 yX2_fail ∈ tG := tG_t 267 (by decide +kernel) (by decide +kernel)
theorem tb269 : Cond.instanceMethod yX2_fail ∈ tG := tG_t 269 (by decide +kernel) (by decide +kernel)
theorem tb270 : Cond.code yX2_fail cX2_fail 1 none ∈ tG := tG_t 270 (by decide +kernel) (by decide +kernel)
theorem tb271 : Cond.methodLink RX2 52 yX2_readLevel ∈ tG := tG_t 271 (by decide +kernel) (by decide +kernel)
theorem tb273 : Cond.instanceMethod yX2_readLevel ∈ tG := tG_t 273 (by decide +kernel) (by decide +kernel)
theorem tb274 : Cond.code yX2_readLevel cX2_readLevel 6 none ∈ tG := tG_t 274 (by decide +kernel) (by decide +kernel)
theorem tb275 : Cond.methodLink RX2 56 yX2_readOne ∈ tG := tG_t 275 (by decide +kernel) (by decide +kernel)
theorem tb277 : Cond.instanceMethod yX2_readOne ∈ tG := tG_t 277 (by decide +kernel) (by decide +kernel)
theorem tb278 : Cond.code yX2_readOne cX2_readOne 2 none ∈ tG := tG_t 278 (by decide +kernel) (by decide +kernel)
theorem tb279 : Cond.methodLink RX2 63 yX2_emit ∈ tG := tG_t 279 (by decide +kernel) (by decide +kernel)
theorem tb281 : Cond.instanceMethod yX2_emit ∈ tG := tG_t 281 (by decide +kernel) (by decide +kernel)
theorem tb282 : Cond.code yX2_emit cX2_emit 2 none ∈ tG := tG_t 282 (by decide +kernel) (by decide +kernel)
theorem tb283 : Cond.methodLink RX2 59 yX2_enter ∈ tG := tG_t 283 (by decide +kernel) (by decide +kernel)
theorem tb285 : Cond.instanceMethod yX2_enter ∈ tG := tG_t 285 (by decide +kernel) (by decide +kernel)
theorem tb286 : Cond.code yX2_enter cX2_enter 2 (some .boolean) ∈ tG := tG_t 286 (by decide +kernel) (by decide +kernel)
theorem tb287 : Cond.methodLink RX2 66 yX2_levelOf ∈ tG := tG_t 287 (by decide +kernel) (by decide +kernel)
theorem tb288 : Cond.static yX2_levelOf ∈ tG := tG_t 288 (by decide +kernel) (by decide +kernel)
theorem tb289 : Cond.code yX2_levelOf cX2_levelOf 1 (some .int) ∈ tG := tG_t 289 (by decide +kernel) (by decide +kernel)
theorem tb290 : Cond.methodLink RX7 80 yX3_adopt ∈ tG := tG_t 290 (by decide +kernel) (by decide +kernel)
theorem tb291 : Cond.instanceMethod yX3_adopt ∈ tG := tG_t 291 (by decide +kernel) (by decide +kernel)
theorem tb292 : Cond.selects RX3 yX3_adopt yX3_adopt ∈ tG := tG_t 292 (by decide +kernel) (by decide +kernel)
theorem tb293 : Cond.code yX3_adopt cX3_adopt 3 none ∈ tG := tG_t 293 (by decide +kernel) (by decide +kernel)
theorem tb294 : Cond.methodLink RX3 25 Lib.Math.min.name ∈ tG := tG_t 294 (by decide +kernel) (by decide +kernel)
theorem tb295 : Cond.static Lib.Math.min.name ∈ tG := tG_t 295 (by decide +kernel) (by decide +kernel)
theorem tb296 : Cond.code Lib.Math.min.name Lib.Math.min.code 2 (some .int) ∈ tG := tG_t 296 (by decide +kernel) (by decide +kernel)
theorem tb297 : Cond.methodLink RX3 31 arraycopyName ∈ tG := tG_t 297 (by decide +kernel) (by decide +kernel)
theorem tb298 : Cond.static arraycopyName ∈ tG := tG_t 298 (by decide +kernel) (by decide +kernel)
theorem tb299 : Cond.native arraycopyName ∈ tG := tG_t 299 (by decide +kernel) (by decide +kernel)
theorem tb300 : Cond.classLink RX7 87 RX5 ∈ tG := tG_t 300 (by decide +kernel) (by decide +kernel)
theorem tb301 : Cond.instantiable RX5 13 ∈ tG := tG_t 301 (by decide +kernel) (by decide +kernel)
theorem tb302 : Cond.methodLink RX7 89 yX5_init ∈ tG := tG_t 302 (by decide +kernel) (by decide +kernel)
theorem tb303 : Cond.instanceMethod yX5_init ∈ tG := tG_t 303 (by decide +kernel) (by decide +kernel)
theorem tb304 : Cond.code yX5_init cX5_init 2 none ∈ tG := tG_t 304 (by decide +kernel) (by decide +kernel)
theorem tb305 : Cond.methodLink RX5 3 objectInit ∈ tG := tG_t 305 (by decide +kernel) (by decide +kernel)
theorem tb306 : Cond.methodLink RX5 55 yJ7_fill_53178 ∈ tG := tG_t 306 (by decide +kernel) (by decide +kernel)
theorem tb307 : Cond.static yJ7_fill_53178 ∈ tG := tG_t 307 (by decide +kernel) (by decide +kernel)
theorem tb308 : Cond.code yJ7_fill_53178 cJ7_fill_53178 4 none ∈ tG := tG_t 308 (by decide +kernel) (by decide +kernel)
theorem tb309 : Cond.fieldLink RX5 9 "RefusedMayAsk$Town" "men" "I" ∈ tG := tG_t 309 (by decide +kernel) (by decide +kernel)
theorem tb310 : Cond.fieldLink RX7 106 "RefusedMayAsk$Town" "men" "I" ∈ tG := tG_t 310 (by decide +kernel) (by decide +kernel)
theorem tb311 : Cond.fieldLink RX1 48 "RefusedMayAsk$Town" "men" "I" ∈ tG := tG_t 311 (by decide +kernel) (by decide +kernel)
theorem tb312 : Cond.fieldLink RX5 15 "RefusedMayAsk$Town" "maids" "I" ∈ tG := tG_t 312 (by decide +kernel) (by decide +kernel)
theorem tb313 : Cond.fieldLink RX7 114 "RefusedMayAsk$Town" "maids" "I" ∈ tG := tG_t 313 (by decide +kernel) (by decide +kernel)
theorem tb314 : Cond.fieldLink RX6 54 "RefusedMayAsk$Town" "maids" "I" ∈ tG := tG_t 314 (by decide +kernel) (by decide +kernel)
theorem tb315 : Cond.fieldLink RX1 54 "RefusedMayAsk$Town" "maids" "I" ∈ tG := tG_t 315 (by decide +kernel) (by decide +kernel)
theorem tb316 : Cond.fieldLink RX5 18 "RefusedMayAsk$Town" "month" "I" ∈ tG := tG_t 316 (by decide +kernel) (by decide +kernel)
theorem tb317 : Cond.fieldLink RX6 51 "RefusedMayAsk$Town" "month" "I" ∈ tG := tG_t 317 (by decide +kernel) (by decide +kernel)
theorem tb318 : Cond.fieldLink RX7 267 "RefusedMayAsk$Town" "month" "I" ∈ tG := tG_t 318 (by decide +kernel) (by decide +kernel)
theorem tb319 : Cond.fieldLink RX5 51 "RefusedMayAsk$Town" "rule" "LRefusedMayAsk$Rule;" ∈ tG := tG_t 319 (by decide +kernel) (by decide +kernel)
theorem tb320 : Cond.fieldLink RX7 181 "RefusedMayAsk$Town" "rule" "LRefusedMayAsk$Rule;" ∈ tG := tG_t 320 (by decide +kernel) (by decide +kernel)
theorem tb321 : Cond.fieldLink RX5 21 "RefusedMayAsk$Town" "askings" "I" ∈ tG := tG_t 321 (by decide +kernel) (by decide +kernel)
theorem tb322 : Cond.fieldLink RX7 245 "RefusedMayAsk$Town" "askings" "I" ∈ tG := tG_t 322 (by decide +kernel) (by decide +kernel)
theorem tb323 : Cond.fieldLink RX5 24 "RefusedMayAsk$Town" "prices" "I" ∈ tG := tG_t 323 (by decide +kernel) (by decide +kernel)
theorem tb324 : Cond.fieldLink RX6 39 "RefusedMayAsk$Town" "prices" "I" ∈ tG := tG_t 324 (by decide +kernel) (by decide +kernel)
theorem tb325 : Cond.fieldLink RX7 248 "RefusedMayAsk$Town" "prices" "I" ∈ tG := tG_t 325 (by decide +kernel) (by decide +kernel)
theorem tb326 : Cond.fieldLink RX5 27 "RefusedMayAsk$Town" "noes" "[I" ∈ tG := tG_t 326 (by decide +kernel) (by decide +kernel)
theorem tb327 : Cond.fieldLink RX7 109 "RefusedMayAsk$Town" "noes" "[I" ∈ tG := tG_t 327 (by decide +kernel) (by decide +kernel)
theorem tb328 : Cond.fieldLink RX6 48 "RefusedMayAsk$Town" "noes" "[I" ∈ tG := tG_t 328 (by decide +kernel) (by decide +kernel)
theorem tb329 : Cond.fieldLink RX5 31 "RefusedMayAsk$Town" "wife" "[I" ∈ tG := tG_t 329 (by decide +kernel) (by decide +kernel)
theorem tb330 : Cond.fieldLink RX7 178 "RefusedMayAsk$Town" "wife" "[I" ∈ tG := tG_t 330 (by decide +kernel) (by decide +kernel)
theorem tb331 : Cond.fieldLink RX5 34 "RefusedMayAsk$Town" "kind" "[I" ∈ tG := tG_t 331 (by decide +kernel) (by decide +kernel)
theorem tb332 : Cond.fieldLink RX7 117 "RefusedMayAsk$Town" "kind" "[I" ∈ tG := tG_t 332 (by decide +kernel) (by decide +kernel)
theorem tb333 : Cond.fieldLink RX5 37 "RefusedMayAsk$Town" "number" "[I" ∈ tG := tG_t 333 (by decide +kernel) (by decide +kernel)
theorem tb334 : Cond.fieldLink RX7 120 "RefusedMayAsk$Town" "number" "[I" ∈ tG := tG_t 334 (by decide +kernel) (by decide +kernel)
theorem tb335 : Cond.fieldLink RX5 40 "RefusedMayAsk$Town" "his" "[I" ∈ tG := tG_t 335 (by decide +kernel) (by decide +kernel)
theorem tb336 : Cond.fieldLink RX7 127 "RefusedMayAsk$Town" "his" "[I" ∈ tG := tG_t 336 (by decide +kernel) (by decide +kernel)
theorem tb337 : Cond.fieldLink RX1 84 "RefusedMayAsk$Town" "his" "[I" ∈ tG := tG_t 337 (by decide +kernel) (by decide +kernel)
theorem tb338 : Cond.fieldLink RX5 43 "RefusedMayAsk$Town" "hers" "[I" ∈ tG := tG_t 338 (by decide +kernel) (by decide +kernel)
theorem tb339 : Cond.fieldLink RX7 130 "RefusedMayAsk$Town" "hers" "[I" ∈ tG := tG_t 339 (by decide +kernel) (by decide +kernel)
theorem tb340 : Cond.fieldLink RX1 81 "RefusedMayAsk$Town" "hers" "[I" ∈ tG := tG_t 340 (by decide +kernel) (by decide +kernel)
theorem tb341 : Cond.fieldLink RX5 48 "RefusedMayAsk$Town" "names" "[I" ∈ tG := tG_t 341 (by decide +kernel) (by decide +kernel)
theorem tb369 : Cond.arrayClass .byte ∈ tG := tG_t 369 (by decide +kernel) (by decide +kernel)
theorem tb370 : Cond.fieldLink RX7 10 "RefusedMayAsk" "reader" "LRefusedMayAsk$Reader;" ∈ tG := tG_t 370 (by decide +kernel) (by decide +kernel)
theorem tb371 : Cond.fieldLink RX7 18 "RefusedMayAsk" "rules" "[LRefusedMayAsk$Rule;" ∈ tG := tG_t 371 (by decide +kernel) (by decide +kernel)
theorem tb372 : Cond.fieldLink RX7 22 "RefusedMayAsk" "texts" "I" ∈ tG := tG_t 372 (by decide +kernel) (by decide +kernel)
theorem tb373 : Cond.fieldLink RX7 92 "RefusedMayAsk" "town" "LRefusedMayAsk$Town;" ∈ tG := tG_t 373 (by decide +kernel) (by decide +kernel)
theorem tb374 : Cond.fieldLink RX7 96 "RefusedMayAsk" "thought" "LRefusedMayAsk$Town;" ∈ tG := tG_t 374 (by decide +kernel) (by decide +kernel)
theorem tb375 : Cond.fieldLink RX7 99 "RefusedMayAsk" "kept" "LRefusedMayAsk$Town;" ∈ tG := tG_t 375 (by decide +kernel) (by decide +kernel)
theorem tb376 : Cond.fieldLink RX7 26 "RefusedMayAsk" "hasImage" "Z" ∈ tG := tG_t 376 (by decide +kernel) (by decide +kernel)
theorem tb377 : Cond.fieldLink RX7 33 "RefusedMayAsk" "pairs" "LRefusedMayAsk$Pairings;" ∈ tG := tG_t 377 (by decide +kernel) (by decide +kernel)
theorem tb378 : Cond.fieldLink RX7 40 "RefusedMayAsk" "ways" "LRefusedMayAsk$Ways;" ∈ tG := tG_t 378 (by decide +kernel) (by decide +kernel)
theorem tb379 : Cond.fieldLink RX7 46 "RefusedMayAsk" "sheets" "[LRefusedMayAsk$Sheet;" ∈ tG := tG_t 379 (by decide +kernel) (by decide +kernel)
theorem tb401 : Cond.methodLink "RefusedMayAskLaw" 13 yX7_man ∈ tG := tG_t 401 (by decide +kernel) (by decide +kernel)
theorem tb402 : Cond.instanceMethod yX7_man ∈ tG := tG_t 402 (by decide +kernel) (by decide +kernel)
theorem tb403 : Cond.selects RX7 yX7_man yX7_man ∈ tG := tG_t 403 (by decide +kernel) (by decide +kernel)
theorem tb404 : Cond.code yX7_man cX7_man 2 (some .int) ∈ tG := tG_t 404 (by decide +kernel) (by decide +kernel)
theorem tb405 : Cond.methodLink RX7 102 yX7_within ∈ tG := tG_t 405 (by decide +kernel) (by decide +kernel)
theorem tb406 : Cond.static yX7_within ∈ tG := tG_t 406 (by decide +kernel) (by decide +kernel)
theorem tb407 : Cond.code yX7_within cX7_within 3 (some .boolean) ∈ tG := tG_t 407 (by decide +kernel) (by decide +kernel)
theorem tb408 : Cond.methodLink "RefusedMayAskLaw" 18 yX7_maid ∈ tG := tG_t 408 (by decide +kernel) (by decide +kernel)
theorem tb409 : Cond.instanceMethod yX7_maid ∈ tG := tG_t 409 (by decide +kernel) (by decide +kernel)
theorem tb410 : Cond.selects RX7 yX7_maid yX7_maid ∈ tG := tG_t 410 (by decide +kernel) (by decide +kernel)
theorem tb411 : Cond.code yX7_maid cX7_maid 3 (some .int) ∈ tG := tG_t 411 (by decide +kernel) (by decide +kernel)
theorem tb412 : Cond.methodLink "RefusedMayAskLaw" 23 yX7_likes ∈ tG := tG_t 412 (by decide +kernel) (by decide +kernel)
theorem tb413 : Cond.instanceMethod yX7_likes ∈ tG := tG_t 413 (by decide +kernel) (by decide +kernel)
theorem tb414 : Cond.selects RX7 yX7_likes yX7_likes ∈ tG := tG_t 414 (by decide +kernel) (by decide +kernel)
theorem tb415 : Cond.code yX7_likes cX7_likes 5 (some .int) ∈ tG := tG_t 415 (by decide +kernel) (by decide +kernel)
theorem tb416 : Cond.methodLink RX7 123 yX7_arePair ∈ tG := tG_t 416 (by decide +kernel) (by decide +kernel)
theorem tb418 : Cond.instanceMethod yX7_arePair ∈ tG := tG_t 418 (by decide +kernel) (by decide +kernel)
theorem tb419 : Cond.code yX7_arePair cX7_arePair 3 (some .boolean) ∈ tG := tG_t 419 (by decide +kernel) (by decide +kernel)
theorem tb420 : Cond.methodLink RX7 141 yX7_isMan ∈ tG := tG_t 420 (by decide +kernel) (by decide +kernel)
theorem tb422 : Cond.instanceMethod yX7_isMan ∈ tG := tG_t 422 (by decide +kernel) (by decide +kernel)
theorem tb423 : Cond.code yX7_isMan cX7_isMan 2 (some .boolean) ∈ tG := tG_t 423 (by decide +kernel) (by decide +kernel)
theorem tb424 : Cond.methodLink RX7 144 yX7_isMaid ∈ tG := tG_t 424 (by decide +kernel) (by decide +kernel)
theorem tb426 : Cond.instanceMethod yX7_isMaid ∈ tG := tG_t 426 (by decide +kernel) (by decide +kernel)
theorem tb427 : Cond.code yX7_isMaid cX7_isMaid 2 (some .boolean) ∈ tG := tG_t 427 (by decide +kernel) (by decide +kernel)
theorem tb428 : Cond.methodLink RX7 133 yX5_at ∈ tG := tG_t 428 (by decide +kernel) (by decide +kernel)
theorem tb429 : Cond.static yX5_at ∈ tG := tG_t 429 (by decide +kernel) (by decide +kernel)
theorem tb430 : Cond.code yX5_at cX5_at 2 (some .int) ∈ tG := tG_t 430 (by decide +kernel) (by decide +kernel)
theorem tb431 : Cond.methodLink RX7 137 yX7_replace ∈ tG := tG_t 431 (by decide +kernel) (by decide +kernel)
theorem tb432 : Cond.static yX7_replace ∈ tG := tG_t 432 (by decide +kernel) (by decide +kernel)
theorem tb433 : Cond.code yX7_replace cX7_replace 4 (some .int) ∈ tG := tG_t 433 (by decide +kernel) (by decide +kernel)
theorem tb434 : Cond.methodLink "RefusedMayAskLaw" 28 yX7_set ∈ tG := tG_t 434 (by decide +kernel) (by decide +kernel)
theorem tb435 : Cond.instanceMethod yX7_set ∈ tG := tG_t 435 (by decide +kernel) (by decide +kernel)
theorem tb436 : Cond.selects RX7 yX7_set yX7_set ∈ tG := tG_t 436 (by decide +kernel) (by decide +kernel)
theorem tb437 : Cond.code yX7_set cX7_set 4 (some .int) ∈ tG := tG_t 437 (by decide +kernel) (by decide +kernel)
theorem tb438 : Cond.methodLink RX7 147 yX7_replaceMonth ∈ tG := tG_t 438 (by decide +kernel) (by decide +kernel)
theorem tb440 : Cond.instanceMethod yX7_replaceMonth ∈ tG := tG_t 440 (by decide +kernel) (by decide +kernel)
theorem tb441 : Cond.code yX7_replaceMonth cX7_replaceMonth 3 (some .int) ∈ tG := tG_t 441 (by decide +kernel) (by decide +kernel)
theorem tb442 : Cond.methodLink "RefusedMayAskLaw" 33 yX7_told ∈ tG := tG_t 442 (by decide +kernel) (by decide +kernel)
theorem tb443 : Cond.instanceMethod yX7_told ∈ tG := tG_t 443 (by decide +kernel) (by decide +kernel)
theorem tb444 : Cond.selects RX7 yX7_told yX7_told ∈ tG := tG_t 444 (by decide +kernel) (by decide +kernel)
theorem tb445 : Cond.code yX7_told cX7_told 4 (some .int) ∈ tG := tG_t 445 (by decide +kernel) (by decide +kernel)
theorem tb446 : Cond.methodLink RX7 151 yX5_mayAsk ∈ tG := tG_t 446 (by decide +kernel) (by decide +kernel)
theorem tb447 : Cond.instanceMethod yX5_mayAsk ∈ tG := tG_t 447 (by decide +kernel) (by decide +kernel)
theorem tb448 : Cond.selects RX5 yX5_mayAsk yX5_mayAsk ∈ tG := tG_t 448 (by decide +kernel) (by decide +kernel)
theorem tb449 : Cond.code yX5_mayAsk cX5_mayAsk 3 (some .boolean) ∈ tG := tG_t 449 (by decide +kernel) (by decide +kernel)
theorem tb450 : Cond.methodLink RX5 67 yX5_husband ∈ tG := tG_t 450 (by decide +kernel) (by decide +kernel)
theorem tb451 : Cond.instanceMethod yX5_husband ∈ tG := tG_t 451 (by decide +kernel) (by decide +kernel)
theorem tb452 : Cond.selects RX5 yX5_husband yX5_husband ∈ tG := tG_t 452 (by decide +kernel) (by decide +kernel)
theorem tb453 : Cond.code yX5_husband cX5_husband 3 (some .int) ∈ tG := tG_t 453 (by decide +kernel) (by decide +kernel)
theorem tb454 : Cond.methodLink RX5 71 yX0_needs ∈ tG := tG_t 454 (by decide +kernel) (by decide +kernel)
theorem tb455 : Cond.static yX0_needs ∈ tG := tG_t 455 (by decide +kernel) (by decide +kernel)
theorem tb456 : Cond.code yX0_needs cX0_needs 2 (some .int) ∈ tG := tG_t 456 (by decide +kernel) (by decide +kernel)
theorem tb457 : Cond.methodLink RX7 154 yX5_saysNo ∈ tG := tG_t 457 (by decide +kernel) (by decide +kernel)
theorem tb458 : Cond.instanceMethod yX5_saysNo ∈ tG := tG_t 458 (by decide +kernel) (by decide +kernel)
theorem tb459 : Cond.selects RX5 yX5_saysNo yX5_saysNo ∈ tG := tG_t 459 (by decide +kernel) (by decide +kernel)
theorem tb460 : Cond.code yX5_saysNo cX5_saysNo 3 (some .boolean) ∈ tG := tG_t 460 (by decide +kernel) (by decide +kernel)
theorem tb461 : Cond.methodLink RX5 77 yX5_at ∈ tG := tG_t 461 (by decide +kernel) (by decide +kernel)
theorem tb462 : Cond.methodLink RX5 80 yX0_refuses ∈ tG := tG_t 462 (by decide +kernel) (by decide +kernel)
theorem tb463 : Cond.static yX0_refuses ∈ tG := tG_t 463 (by decide +kernel) (by decide +kernel)
theorem tb464 : Cond.code yX0_refuses cX0_refuses 5 (some .boolean) ∈ tG := tG_t 464 (by decide +kernel) (by decide +kernel)
theorem tb465 : Cond.methodLink RX5 84 yX5_ruled ∈ tG := tG_t 465 (by decide +kernel) (by decide +kernel)
theorem tb467 : Cond.instanceMethod yX5_ruled ∈ tG := tG_t 467 (by decide +kernel) (by decide +kernel)
theorem tb468 : Cond.code yX5_ruled cX5_ruled 4 (some .int) ∈ tG := tG_t 468 (by decide +kernel) (by decide +kernel)
theorem tb469 : Cond.methodLink RX5 96 yX3_value ∈ tG := tG_t 469 (by decide +kernel) (by decide +kernel)
theorem tb470 : Cond.instanceMethod yX3_value ∈ tG := tG_t 470 (by decide +kernel) (by decide +kernel)
theorem tb471 : Cond.selects RX3 yX3_value yX3_value ∈ tG := tG_t 471 (by decide +kernel) (by decide +kernel)
theorem tb472 : Cond.code yX3_value cX3_value 6 (some .int) ∈ tG := tG_t 472 (by decide +kernel) (by decide +kernel)
theorem tb473 : Cond.methodLink RX3 37 yX3_turned ∈ tG := tG_t 473 (by decide +kernel) (by decide +kernel)
theorem tb474 : Cond.static yX3_turned ∈ tG := tG_t 474 (by decide +kernel) (by decide +kernel)
theorem tb475 : Cond.code yX3_turned cX3_turned 2 (some .int) ∈ tG := tG_t 475 (by decide +kernel) (by decide +kernel)
theorem tb476 : Cond.methodLink RX3 40 yX3_joined ∈ tG := tG_t 476 (by decide +kernel) (by decide +kernel)
theorem tb477 : Cond.static yX3_joined ∈ tG := tG_t 477 (by decide +kernel) (by decide +kernel)
theorem tb478 : Cond.code yX3_joined cX3_joined 3 (some .int) ∈ tG := tG_t 478 (by decide +kernel) (by decide +kernel)
theorem tb479 : Cond.methodLink RX7 157 yX5_worth ∈ tG := tG_t 479 (by decide +kernel) (by decide +kernel)
theorem tb480 : Cond.instanceMethod yX5_worth ∈ tG := tG_t 480 (by decide +kernel) (by decide +kernel)
theorem tb481 : Cond.selects RX5 yX5_worth yX5_worth ∈ tG := tG_t 481 (by decide +kernel) (by decide +kernel)
theorem tb482 : Cond.code yX5_worth cX5_worth 3 (some .int) ∈ tG := tG_t 482 (by decide +kernel) (by decide +kernel)
theorem tb483 : Cond.methodLink RX5 88 Lib.Math.min.name ∈ tG := tG_t 483 (by decide +kernel) (by decide +kernel)
theorem tb484 : Cond.methodLink RX5 93 Lib.Math.max.name ∈ tG := tG_t 484 (by decide +kernel) (by decide +kernel)
theorem tb485 : Cond.static Lib.Math.max.name ∈ tG := tG_t 485 (by decide +kernel) (by decide +kernel)
theorem tb486 : Cond.code Lib.Math.max.name Lib.Math.max.code 2 (some .int) ∈ tG := tG_t 486 (by decide +kernel) (by decide +kernel)
theorem tb487 : Cond.methodLink RX7 160 yX5_wants ∈ tG := tG_t 487 (by decide +kernel) (by decide +kernel)
theorem tb488 : Cond.instanceMethod yX5_wants ∈ tG := tG_t 488 (by decide +kernel) (by decide +kernel)
theorem tb489 : Cond.selects RX5 yX5_wants yX5_wants ∈ tG := tG_t 489 (by decide +kernel) (by decide +kernel)
theorem tb490 : Cond.code yX5_wants cX5_wants 3 (some .boolean) ∈ tG := tG_t 490 (by decide +kernel) (by decide +kernel)
theorem tb491 : Cond.methodLink "RefusedMayAskLaw" 37 yX7_of ∈ tG := tG_t 491 (by decide +kernel) (by decide +kernel)
theorem tb492 : Cond.instanceMethod yX7_of ∈ tG := tG_t 492 (by decide +kernel) (by decide +kernel)
theorem tb493 : Cond.selects RX7 yX7_of yX7_of ∈ tG := tG_t 493 (by decide +kernel) (by decide +kernel)
theorem tb494 : Cond.code yX7_of cX7_of 3 (some .int) ∈ tG := tG_t 494 (by decide +kernel) (by decide +kernel)
theorem tb495 : Cond.methodLink RX7 163 yX7_ofMaid ∈ tG := tG_t 495 (by decide +kernel) (by decide +kernel)
theorem tb497 : Cond.instanceMethod yX7_ofMaid ∈ tG := tG_t 497 (by decide +kernel) (by decide +kernel)
theorem tb498 : Cond.code yX7_ofMaid cX7_ofMaid 3 (some .int) ∈ tG := tG_t 498 (by decide +kernel) (by decide +kernel)
theorem tb499 : Cond.methodLink RX7 169 yX0_needs ∈ tG := tG_t 499 (by decide +kernel) (by decide +kernel)
theorem tb500 : Cond.methodLink RX7 172 yX0_price ∈ tG := tG_t 500 (by decide +kernel) (by decide +kernel)
theorem tb501 : Cond.static yX0_price ∈ tG := tG_t 501 (by decide +kernel) (by decide +kernel)
theorem tb502 : Cond.code yX0_price cX0_price 2 (some .int) ∈ tG := tG_t 502 (by decide +kernel) (by decide +kernel)
theorem tb503 : Cond.methodLink RX0 11 Lib.Math.max.name ∈ tG := tG_t 503 (by decide +kernel) (by decide +kernel)
theorem tb504 : Cond.methodLink RX7 175 yX5_husband ∈ tG := tG_t 504 (by decide +kernel) (by decide +kernel)
theorem tb505 : Cond.methodLink RX7 166 yX7_ofMan ∈ tG := tG_t 505 (by decide +kernel) (by decide +kernel)
theorem tb507 : Cond.instanceMethod yX7_ofMan ∈ tG := tG_t 507 (by decide +kernel) (by decide +kernel)
theorem tb508 : Cond.code yX7_ofMan cX7_ofMan 3 (some .int) ∈ tG := tG_t 508 (by decide +kernel) (by decide +kernel)
theorem tb509 : Cond.methodLink "RefusedMayAskLaw" 41 yX7_feed ∈ tG := tG_t 509 (by decide +kernel) (by decide +kernel)
theorem tb510 : Cond.instanceMethod yX7_feed ∈ tG := tG_t 510 (by decide +kernel) (by decide +kernel)
theorem tb511 : Cond.selects RX7 yX7_feed yX7_feed ∈ tG := tG_t 511 (by decide +kernel) (by decide +kernel)
theorem tb512 : Cond.code yX7_feed cX7_feed 2 (some .int) ∈ tG := tG_t 512 (by decide +kernel) (by decide +kernel)
theorem tb513 : Cond.methodLink "RefusedMayAskLaw" 45 yX7_text ∈ tG := tG_t 513 (by decide +kernel) (by decide +kernel)
theorem tb514 : Cond.instanceMethod yX7_text ∈ tG := tG_t 514 (by decide +kernel) (by decide +kernel)
theorem tb515 : Cond.selects RX7 yX7_text yX7_text ∈ tG := tG_t 515 (by decide +kernel) (by decide +kernel)
theorem tb516 : Cond.code yX7_text cX7_text 2 (some .int) ∈ tG := tG_t 516 (by decide +kernel) (by decide +kernel)
theorem tb517 : Cond.methodLink "RefusedMayAskLaw" 50 yX7_force ∈ tG := tG_t 517 (by decide +kernel) (by decide +kernel)
theorem tb518 : Cond.instanceMethod yX7_force ∈ tG := tG_t 518 (by decide +kernel) (by decide +kernel)
theorem tb519 : Cond.selects RX7 yX7_force yX7_force ∈ tG := tG_t 519 (by decide +kernel) (by decide +kernel)
theorem tb520 : Cond.code yX7_force cX7_force 3 (some .int) ∈ tG := tG_t 520 (by decide +kernel) (by decide +kernel)
theorem tb521 : Cond.methodLink "RefusedMayAskLaw" 54 yX7_ask ∈ tG := tG_t 521 (by decide +kernel) (by decide +kernel)
theorem tb522 : Cond.instanceMethod yX7_ask ∈ tG := tG_t 522 (by decide +kernel) (by decide +kernel)
theorem tb523 : Cond.selects RX7 yX7_ask yX7_ask ∈ tG := tG_t 523 (by decide +kernel) (by decide +kernel)
theorem tb524 : Cond.code yX7_ask cX7_ask 3 (some .int) ∈ tG := tG_t 524 (by decide +kernel) (by decide +kernel)
theorem tb525 : Cond.methodLink RX7 187 yX5_asking ∈ tG := tG_t 525 (by decide +kernel) (by decide +kernel)
theorem tb526 : Cond.instanceMethod yX5_asking ∈ tG := tG_t 526 (by decide +kernel) (by decide +kernel)
theorem tb527 : Cond.selects RX5 yX5_asking yX5_asking ∈ tG := tG_t 527 (by decide +kernel) (by decide +kernel)
theorem tb528 : Cond.code yX5_asking cX5_asking 4 (some .boolean) ∈ tG := tG_t 528 (by decide +kernel) (by decide +kernel)
theorem tb529 : Cond.methodLink RX5 100 yX5_saysNo ∈ tG := tG_t 529 (by decide +kernel) (by decide +kernel)
theorem tb530 : Cond.methodLink RX5 104 yX5_endAsking ∈ tG := tG_t 530 (by decide +kernel) (by decide +kernel)
theorem tb531 : Cond.instanceMethod yX5_endAsking ∈ tG := tG_t 531 (by decide +kernel) (by decide +kernel)
theorem tb532 : Cond.selects RX5 yX5_endAsking yX5_endAsking ∈ tG := tG_t 532 (by decide +kernel) (by decide +kernel)
theorem tb533 : Cond.code yX5_endAsking cX5_endAsking 4 none ∈ tG := tG_t 533 (by decide +kernel) (by decide +kernel)
theorem tb534 : Cond.methodLink RX5 108 yX0_price ∈ tG := tG_t 534 (by decide +kernel) (by decide +kernel)
theorem tb535 : Cond.methodLink "RefusedMayAskLaw" 58 yX7_part ∈ tG := tG_t 535 (by decide +kernel) (by decide +kernel)
theorem tb536 : Cond.instanceMethod yX7_part ∈ tG := tG_t 536 (by decide +kernel) (by decide +kernel)
theorem tb537 : Cond.selects RX7 yX7_part yX7_part ∈ tG := tG_t 537 (by decide +kernel) (by decide +kernel)
theorem tb538 : Cond.code yX7_part cX7_part 2 (some .int) ∈ tG := tG_t 538 (by decide +kernel) (by decide +kernel)
theorem tb539 : Cond.methodLink "RefusedMayAskLaw" 62 yX7_way ∈ tG := tG_t 539 (by decide +kernel) (by decide +kernel)
theorem tb540 : Cond.instanceMethod yX7_way ∈ tG := tG_t 540 (by decide +kernel) (by decide +kernel)
theorem tb541 : Cond.selects RX7 yX7_way yX7_way ∈ tG := tG_t 541 (by decide +kernel) (by decide +kernel)
theorem tb542 : Cond.code yX7_way cX7_way 5 (some .int) ∈ tG := tG_t 542 (by decide +kernel) (by decide +kernel)
theorem tb543 : Cond.methodLink RX7 190 yX5_resemble ∈ tG := tG_t 543 (by decide +kernel) (by decide +kernel)
theorem tb544 : Cond.instanceMethod yX5_resemble ∈ tG := tG_t 544 (by decide +kernel) (by decide +kernel)
theorem tb545 : Cond.selects RX5 yX5_resemble yX5_resemble ∈ tG := tG_t 545 (by decide +kernel) (by decide +kernel)
theorem tb546 : Cond.code yX5_resemble cX5_resemble 2 none ∈ tG := tG_t 546 (by decide +kernel) (by decide +kernel)
theorem tb547 : Cond.methodLink RX5 61 arraycopyName ∈ tG := tG_t 547 (by decide +kernel) (by decide +kernel)
theorem tb548 : Cond.methodLink RX7 194 yX6_seek ∈ tG := tG_t 548 (by decide +kernel) (by decide +kernel)
theorem tb549 : Cond.instanceMethod yX6_seek ∈ tG := tG_t 549 (by decide +kernel) (by decide +kernel)
theorem tb550 : Cond.selects RX6 yX6_seek yX6_seek ∈ tG := tG_t 550 (by decide +kernel) (by decide +kernel)
theorem tb551 : Cond.code yX6_seek cX6_seek 5 none ∈ tG := tG_t 551 (by decide +kernel) (by decide +kernel)
theorem tb552 : Cond.methodLink RX6 29 yX6_goOn ∈ tG := tG_t 552 (by decide +kernel) (by decide +kernel)
theorem tb554 : Cond.instanceMethod yX6_goOn ∈ tG := tG_t 554 (by decide +kernel) (by decide +kernel)
theorem tb555 : Cond.code yX6_goOn cX6_goOn 11 none ∈ tG := tG_t 555 (by decide +kernel) (by decide +kernel)
theorem tb556 : Cond.methodLink RX6 33 yX5_mayAsk ∈ tG := tG_t 556 (by decide +kernel) (by decide +kernel)
theorem tb557 : Cond.methodLink RX6 40 yX6_isBetter ∈ tG := tG_t 557 (by decide +kernel) (by decide +kernel)
theorem tb559 : Cond.instanceMethod yX6_isBetter ∈ tG := tG_t 559 (by decide +kernel) (by decide +kernel)
theorem tb560 : Cond.code yX6_isBetter cX6_isBetter 4 (some .boolean) ∈ tG := tG_t 560 (by decide +kernel) (by decide +kernel)
theorem tb561 : Cond.methodLink RX6 44 yX6_keep ∈ tG := tG_t 561 (by decide +kernel) (by decide +kernel)
theorem tb563 : Cond.instanceMethod yX6_keep ∈ tG := tG_t 563 (by decide +kernel) (by decide +kernel)
theorem tb564 : Cond.code yX6_keep cX6_keep 3 none ∈ tG := tG_t 564 (by decide +kernel) (by decide +kernel)
theorem tb565 : Cond.methodLink RX6 64 arraycopyName ∈ tG := tG_t 565 (by decide +kernel) (by decide +kernel)
theorem tb566 : Cond.methodLink RX6 57 yX5_saysNo ∈ tG := tG_t 566 (by decide +kernel) (by decide +kernel)
theorem tb567 : Cond.methodLink RX6 60 yX5_endAsking ∈ tG := tG_t 567 (by decide +kernel) (by decide +kernel)
theorem tb568 : Cond.methodLink "RefusedMayAskLaw" 66 yX7_mistake ∈ tG := tG_t 568 (by decide +kernel) (by decide +kernel)
theorem tb569 : Cond.instanceMethod yX7_mistake ∈ tG := tG_t 569 (by decide +kernel) (by decide +kernel)
theorem tb570 : Cond.selects RX7 yX7_mistake yX7_mistake ∈ tG := tG_t 570 (by decide +kernel) (by decide +kernel)
theorem tb571 : Cond.code yX7_mistake cX7_mistake 4 (some .int) ∈ tG := tG_t 571 (by decide +kernel) (by decide +kernel)
theorem tb572 : Cond.methodLink "RefusedMayAskLaw" 70 yX7_sure ∈ tG := tG_t 572 (by decide +kernel) (by decide +kernel)
theorem tb573 : Cond.instanceMethod yX7_sure ∈ tG := tG_t 573 (by decide +kernel) (by decide +kernel)
theorem tb574 : Cond.selects RX7 yX7_sure yX7_sure ∈ tG := tG_t 574 (by decide +kernel) (by decide +kernel)
theorem tb575 : Cond.code yX7_sure cX7_sure 4 (some .int) ∈ tG := tG_t 575 (by decide +kernel) (by decide +kernel)
theorem tb576 : Cond.methodLink RX7 209 yX7_refusesFromNowOn ∈ tG := tG_t 576 (by decide +kernel) (by decide +kernel)
theorem tb578 : Cond.instanceMethod yX7_refusesFromNowOn ∈ tG := tG_t 578 (by decide +kernel) (by decide +kernel)
theorem tb579 : Cond.code yX7_refusesFromNowOn cX7_refusesFromNowOn 4 (some .boolean) ∈ tG := tG_t 579 (by decide +kernel) (by decide +kernel)
theorem tb580 : Cond.methodLink "RefusedMayAskLaw" 74 yX7_pairings ∈ tG := tG_t 580 (by decide +kernel) (by decide +kernel)
theorem tb581 : Cond.instanceMethod yX7_pairings ∈ tG := tG_t 581 (by decide +kernel) (by decide +kernel)
theorem tb582 : Cond.selects RX7 yX7_pairings yX7_pairings ∈ tG := tG_t 582 (by decide +kernel) (by decide +kernel)
theorem tb583 : Cond.code yX7_pairings cX7_pairings 2 (some .int) ∈ tG := tG_t 583 (by decide +kernel) (by decide +kernel)
theorem tb584 : Cond.methodLink RX7 212 yX1_tryAll ∈ tG := tG_t 584 (by decide +kernel) (by decide +kernel)
theorem tb585 : Cond.instanceMethod yX1_tryAll ∈ tG := tG_t 585 (by decide +kernel) (by decide +kernel)
theorem tb586 : Cond.selects RX1 yX1_tryAll yX1_tryAll ∈ tG := tG_t 586 (by decide +kernel) (by decide +kernel)
theorem tb587 : Cond.code yX1_tryAll cX1_tryAll 2 none ∈ tG := tG_t 587 (by decide +kernel) (by decide +kernel)
theorem tb588 : Cond.methodLink RX1 34 yX1_weigh ∈ tG := tG_t 588 (by decide +kernel) (by decide +kernel)
theorem tb590 : Cond.instanceMethod yX1_weigh ∈ tG := tG_t 590 (by decide +kernel) (by decide +kernel)
theorem tb591 : Cond.code yX1_weigh cX1_weigh 4 none ∈ tG := tG_t 591 (by decide +kernel) (by decide +kernel)
theorem tb592 : Cond.methodLink RX1 57 yX5_at ∈ tG := tG_t 592 (by decide +kernel) (by decide +kernel)
theorem tb593 : Cond.methodLink RX1 65 yX5_saysNo ∈ tG := tG_t 593 (by decide +kernel) (by decide +kernel)
theorem tb594 : Cond.methodLink RX1 69 yX5_worth ∈ tG := tG_t 594 (by decide +kernel) (by decide +kernel)
theorem tb595 : Cond.methodLink RX1 38 yJ7_fill_53178 ∈ tG := tG_t 595 (by decide +kernel) (by decide +kernel)
theorem tb596 : Cond.methodLink RX1 44 yX1_pairFrom ∈ tG := tG_t 596 (by decide +kernel) (by decide +kernel)
theorem tb598 : Cond.instanceMethod yX1_pairFrom ∈ tG := tG_t 598 (by decide +kernel) (by decide +kernel)
theorem tb599 : Cond.code yX1_pairFrom cX1_pairFrom 6 none ∈ tG := tG_t 599 (by decide +kernel) (by decide +kernel)
theorem tb600 : Cond.methodLink RX1 71 yX1_enter ∈ tG := tG_t 600 (by decide +kernel) (by decide +kernel)
theorem tb602 : Cond.instanceMethod yX1_enter ∈ tG := tG_t 602 (by decide +kernel) (by decide +kernel)
theorem tb603 : Cond.code yX1_enter cX1_enter 3 none ∈ tG := tG_t 603 (by decide +kernel) (by decide +kernel)
theorem tb604 : Cond.methodLink RX1 75 arraycopyName ∈ tG := tG_t 604 (by decide +kernel) (by decide +kernel)
theorem tb605 : Cond.methodLink RX1 61 yX1_isSteady ∈ tG := tG_t 605 (by decide +kernel) (by decide +kernel)
theorem tb607 : Cond.instanceMethod yX1_isSteady ∈ tG := tG_t 607 (by decide +kernel) (by decide +kernel)
theorem tb608 : Cond.code yX1_isSteady cX1_isSteady 6 (some .boolean) ∈ tG := tG_t 608 (by decide +kernel) (by decide +kernel)
theorem tb609 : Cond.methodLink "RefusedMayAskLaw" 78 yX7_best ∈ tG := tG_t 609 (by decide +kernel) (by decide +kernel)
theorem tb610 : Cond.instanceMethod yX7_best ∈ tG := tG_t 610 (by decide +kernel) (by decide +kernel)
theorem tb611 : Cond.selects RX7 yX7_best yX7_best ∈ tG := tG_t 611 (by decide +kernel) (by decide +kernel)
theorem tb612 : Cond.code yX7_best cX7_best 3 (some .int) ∈ tG := tG_t 612 (by decide +kernel) (by decide +kernel)
theorem tb613 : Cond.methodLink RX7 221 yX1_bestMaid ∈ tG := tG_t 613 (by decide +kernel) (by decide +kernel)
theorem tb614 : Cond.instanceMethod yX1_bestMaid ∈ tG := tG_t 614 (by decide +kernel) (by decide +kernel)
theorem tb615 : Cond.selects RX1 yX1_bestMaid yX1_bestMaid ∈ tG := tG_t 615 (by decide +kernel) (by decide +kernel)
theorem tb616 : Cond.code yX1_bestMaid cX1_bestMaid 3 (some .int) ∈ tG := tG_t 616 (by decide +kernel) (by decide +kernel)
theorem tb617 : Cond.methodLink "RefusedMayAskLaw" 82 yX7_row ∈ tG := tG_t 617 (by decide +kernel) (by decide +kernel)
theorem tb618 : Cond.instanceMethod yX7_row ∈ tG := tG_t 618 (by decide +kernel) (by decide +kernel)
theorem tb619 : Cond.selects RX7 yX7_row yX7_row ∈ tG := tG_t 619 (by decide +kernel) (by decide +kernel)
theorem tb620 : Cond.code yX7_row cX7_row 3 (some .int) ∈ tG := tG_t 620 (by decide +kernel) (by decide +kernel)
theorem tb621 : Cond.methodLink RX7 224 yX7_isSheet ∈ tG := tG_t 621 (by decide +kernel) (by decide +kernel)
theorem tb622 : Cond.static yX7_isSheet ∈ tG := tG_t 622 (by decide +kernel) (by decide +kernel)
theorem tb623 : Cond.code yX7_isSheet cX7_isSheet 1 (some .boolean) ∈ tG := tG_t 623 (by decide +kernel) (by decide +kernel)
theorem tb624 : Cond.methodLink RX7 227 yX4_isMissing ∈ tG := tG_t 624 (by decide +kernel) (by decide +kernel)
theorem tb625 : Cond.instanceMethod yX4_isMissing ∈ tG := tG_t 625 (by decide +kernel) (by decide +kernel)
theorem tb626 : Cond.selects RX4 yX4_isMissing yX4_isMissing ∈ tG := tG_t 626 (by decide +kernel) (by decide +kernel)
theorem tb627 : Cond.code yX4_isMissing cX4_isMissing 1 (some .boolean) ∈ tG := tG_t 627 (by decide +kernel) (by decide +kernel)
theorem tb628 : Cond.methodLink RX7 235 yX1_rank ∈ tG := tG_t 628 (by decide +kernel) (by decide +kernel)
theorem tb629 : Cond.instanceMethod yX1_rank ∈ tG := tG_t 629 (by decide +kernel) (by decide +kernel)
theorem tb630 : Cond.selects RX1 yX1_rank yX1_rank ∈ tG := tG_t 630 (by decide +kernel) (by decide +kernel)
theorem tb631 : Cond.code yX1_rank cX1_rank 7 (some .int) ∈ tG := tG_t 631 (by decide +kernel) (by decide +kernel)
theorem tb632 : Cond.methodLink "RefusedMayAskLaw" 86 yX7_year ∈ tG := tG_t 632 (by decide +kernel) (by decide +kernel)
theorem tb633 : Cond.instanceMethod yX7_year ∈ tG := tG_t 633 (by decide +kernel) (by decide +kernel)
theorem tb634 : Cond.selects RX7 yX7_year yX7_year ∈ tG := tG_t 634 (by decide +kernel) (by decide +kernel)
theorem tb635 : Cond.code yX7_year cX7_year 4 (some .int) ∈ tG := tG_t 635 (by decide +kernel) (by decide +kernel)
theorem tb636 : Cond.methodLink RX7 239 yX7_passRound ∈ tG := tG_t 636 (by decide +kernel) (by decide +kernel)
theorem tb638 : Cond.instanceMethod yX7_passRound ∈ tG := tG_t 638 (by decide +kernel) (by decide +kernel)
theorem tb639 : Cond.code yX7_passRound cX7_passRound 3 none ∈ tG := tG_t 639 (by decide +kernel) (by decide +kernel)
theorem tb640 : Cond.methodLink RX7 249 yX5_choice ∈ tG := tG_t 640 (by decide +kernel) (by decide +kernel)
theorem tb641 : Cond.instanceMethod yX5_choice ∈ tG := tG_t 641 (by decide +kernel) (by decide +kernel)
theorem tb642 : Cond.selects RX5 yX5_choice yX5_choice ∈ tG := tG_t 642 (by decide +kernel) (by decide +kernel)
theorem tb643 : Cond.code yX5_choice cX5_choice 4 (some .int) ∈ tG := tG_t 643 (by decide +kernel) (by decide +kernel)
theorem tb644 : Cond.methodLink RX5 111 yX5_mayAsk ∈ tG := tG_t 644 (by decide +kernel) (by decide +kernel)
theorem tb645 : Cond.methodLink RX5 114 yX5_wants ∈ tG := tG_t 645 (by decide +kernel) (by decide +kernel)
theorem tb646 : Cond.methodLink RX7 242 yX5_marriedMen ∈ tG := tG_t 646 (by decide +kernel) (by decide +kernel)
theorem tb647 : Cond.instanceMethod yX5_marriedMen ∈ tG := tG_t 647 (by decide +kernel) (by decide +kernel)
theorem tb648 : Cond.selects RX5 yX5_marriedMen yX5_marriedMen ∈ tG := tG_t 648 (by decide +kernel) (by decide +kernel)
theorem tb649 : Cond.code yX5_marriedMen cX5_marriedMen 3 (some .int) ∈ tG := tG_t 649 (by decide +kernel) (by decide +kernel)
theorem tb650 : Cond.methodLink "RefusedMayAskLaw" 90 yX7_judge ∈ tG := tG_t 650 (by decide +kernel) (by decide +kernel)
theorem tb651 : Cond.instanceMethod yX7_judge ∈ tG := tG_t 651 (by decide +kernel) (by decide +kernel)
theorem tb652 : Cond.selects RX7 yX7_judge yX7_judge ∈ tG := tG_t 652 (by decide +kernel) (by decide +kernel)
theorem tb653 : Cond.code yX7_judge cX7_judge 9 (some .int) ∈ tG := tG_t 653 (by decide +kernel) (by decide +kernel)
theorem tb654 : Cond.methodLink RX7 252 yX5_endAsking ∈ tG := tG_t 654 (by decide +kernel) (by decide +kernel)
theorem tb655 : Cond.methodLink "RefusedMayAskLaw" 94 yX7_drawn ∈ tG := tG_t 655 (by decide +kernel) (by decide +kernel)
theorem tb656 : Cond.instanceMethod yX7_drawn ∈ tG := tG_t 656 (by decide +kernel) (by decide +kernel)
theorem tb657 : Cond.selects RX7 yX7_drawn yX7_drawn ∈ tG := tG_t 657 (by decide +kernel) (by decide +kernel)
theorem tb658 : Cond.code yX7_drawn cX7_drawn 2 (some .int) ∈ tG := tG_t 658 (by decide +kernel) (by decide +kernel)
theorem tb659 : Cond.methodLink RX7 256 yX5_drawHers ∈ tG := tG_t 659 (by decide +kernel) (by decide +kernel)
theorem tb660 : Cond.instanceMethod yX5_drawHers ∈ tG := tG_t 660 (by decide +kernel) (by decide +kernel)
theorem tb661 : Cond.selects RX5 yX5_drawHers yX5_drawHers ∈ tG := tG_t 661 (by decide +kernel) (by decide +kernel)
theorem tb662 : Cond.code yX5_drawHers cX5_drawHers 5 none ∈ tG := tG_t 662 (by decide +kernel) (by decide +kernel)
theorem tb663 : Cond.constant RX5 117 1103515245 ∈ tG := tG_t 663 (by decide +kernel) (by decide +kernel)
theorem tb664 : Cond.methodLink "RefusedMayAskLaw" 98 yX7_chance ∈ tG := tG_t 664 (by decide +kernel) (by decide +kernel)
theorem tb665 : Cond.instanceMethod yX7_chance ∈ tG := tG_t 665 (by decide +kernel) (by decide +kernel)
theorem tb666 : Cond.selects RX7 yX7_chance yX7_chance ∈ tG := tG_t 666 (by decide +kernel) (by decide +kernel)
theorem tb667 : Cond.code yX7_chance cX7_chance 6 (some .long) ∈ tG := tG_t 667 (by decide +kernel) (by decide +kernel)
theorem tb668 : Cond.constantLong RX7 259 (-4611686018427387904) ∈ tG := tG_t 668 (by decide +kernel) (by decide +kernel)
theorem tb669 : Cond.methodLink RX7 261 yX7_drawn ∈ tG := tG_t 669 (by decide +kernel) (by decide +kernel)
theorem tb670 : Cond.methodLink RX7 264 yX7_commonDivisor ∈ tG := tG_t 670 (by decide +kernel) (by decide +kernel)
theorem tb671 : Cond.static yX7_commonDivisor ∈ tG := tG_t 671 (by decide +kernel) (by decide +kernel)
theorem tb672 : Cond.code yX7_commonDivisor cX7_commonDivisor 3 (some .int) ∈ tG := tG_t 672 (by decide +kernel) (by decide +kernel)
theorem tb673 : Cond.methodLink "RefusedMayAskLaw" 103 yX7_image ∈ tG := tG_t 673 (by decide +kernel) (by decide +kernel)
theorem tb674 : Cond.instanceMethod yX7_image ∈ tG := tG_t 674 (by decide +kernel) (by decide +kernel)
theorem tb675 : Cond.selects RX7 yX7_image yX7_image ∈ tG := tG_t 675 (by decide +kernel) (by decide +kernel)
theorem tb676 : Cond.code yX7_image cX7_image 1 (some .int) ∈ tG := tG_t 676 (by decide +kernel) (by decide +kernel)
theorem tb677 : Cond.methodLink "RefusedMayAskLaw" 107 yX7_back ∈ tG := tG_t 677 (by decide +kernel) (by decide +kernel)
theorem tb678 : Cond.instanceMethod yX7_back ∈ tG := tG_t 678 (by decide +kernel) (by decide +kernel)
theorem tb679 : Cond.selects RX7 yX7_back yX7_back ∈ tG := tG_t 679 (by decide +kernel) (by decide +kernel)
theorem tb680 : Cond.code yX7_back cX7_back 1 (some .int) ∈ tG := tG_t 680 (by decide +kernel) (by decide +kernel)
theorem tb681 : Cond.methodLink "RefusedMayAskLaw" 111 yX7_count ∈ tG := tG_t 681 (by decide +kernel) (by decide +kernel)
theorem tb682 : Cond.instanceMethod yX7_count ∈ tG := tG_t 682 (by decide +kernel) (by decide +kernel)
theorem tb683 : Cond.selects RX7 yX7_count yX7_count ∈ tG := tG_t 683 (by decide +kernel) (by decide +kernel)
theorem tb684 : Cond.code yX7_count cX7_count 2 (some .int) ∈ tG := tG_t 684 (by decide +kernel) (by decide +kernel)
theorem tb685 : Cond.methodLink "RefusedMayAskLaw" 115 yX7_sheet ∈ tG := tG_t 685 (by decide +kernel) (by decide +kernel)
theorem tb686 : Cond.instanceMethod yX7_sheet ∈ tG := tG_t 686 (by decide +kernel) (by decide +kernel)
theorem tb687 : Cond.selects RX7 yX7_sheet yX7_sheet ∈ tG := tG_t 687 (by decide +kernel) (by decide +kernel)
theorem tb688 : Cond.code yX7_sheet cX7_sheet 4 (some .int) ∈ tG := tG_t 688 (by decide +kernel) (by decide +kernel)
theorem tb689 : Cond.methodLink RX7 270 yX4_lay ∈ tG := tG_t 689 (by decide +kernel) (by decide +kernel)
theorem tb690 : Cond.instanceMethod yX4_lay ∈ tG := tG_t 690 (by decide +kernel) (by decide +kernel)
theorem tb691 : Cond.selects RX4 yX4_lay yX4_lay ∈ tG := tG_t 691 (by decide +kernel) (by decide +kernel)
theorem tb692 : Cond.code yX4_lay cX4_lay 3 none ∈ tG := tG_t 692 (by decide +kernel) (by decide +kernel)
theorem tb693 : Cond.methodLink RX4 22 yJ7_fill_53178 ∈ tG := tG_t 693 (by decide +kernel) (by decide +kernel)
theorem tb694 : Cond.methodLink "RefusedMayAskLaw" 119 yX7_cell ∈ tG := tG_t 694 (by decide +kernel) (by decide +kernel)
theorem tb695 : Cond.instanceMethod yX7_cell ∈ tG := tG_t 695 (by decide +kernel) (by decide +kernel)
theorem tb696 : Cond.selects RX7 yX7_cell yX7_cell ∈ tG := tG_t 696 (by decide +kernel) (by decide +kernel)
theorem tb697 : Cond.code yX7_cell cX7_cell 5 (some .int) ∈ tG := tG_t 697 (by decide +kernel) (by decide +kernel)
theorem tb698 : Cond.methodLink RX7 274 yX4_holds ∈ tG := tG_t 698 (by decide +kernel) (by decide +kernel)
theorem tb699 : Cond.instanceMethod yX4_holds ∈ tG := tG_t 699 (by decide +kernel) (by decide +kernel)
theorem tb700 : Cond.selects RX4 yX4_holds yX4_holds ∈ tG := tG_t 700 (by decide +kernel) (by decide +kernel)
theorem tb701 : Cond.code yX4_holds cX4_holds 3 (some .boolean) ∈ tG := tG_t 701 (by decide +kernel) (by decide +kernel)
theorem tb702 : Cond.methodLink RX7 277 yX4_put ∈ tG := tG_t 702 (by decide +kernel) (by decide +kernel)
theorem tb703 : Cond.instanceMethod yX4_put ∈ tG := tG_t 703 (by decide +kernel) (by decide +kernel)
theorem tb704 : Cond.selects RX4 yX4_put yX4_put ∈ tG := tG_t 704 (by decide +kernel) (by decide +kernel)
theorem tb705 : Cond.code yX4_put cX4_put 3 none ∈ tG := tG_t 705 (by decide +kernel) (by decide +kernel)
theorem tb706 : Cond.methodLink "RefusedMayAskLaw" 123 yX7_copy ∈ tG := tG_t 706 (by decide +kernel) (by decide +kernel)
theorem tb707 : Cond.instanceMethod yX7_copy ∈ tG := tG_t 707 (by decide +kernel) (by decide +kernel)
theorem tb708 : Cond.selects RX7 yX7_copy yX7_copy ∈ tG := tG_t 708 (by decide +kernel) (by decide +kernel)
theorem tb709 : Cond.code yX7_copy cX7_copy 8 (some .int) ∈ tG := tG_t 709 (by decide +kernel) (by decide +kernel)
theorem tb710 : Cond.methodLink RX7 283 arraycopyName ∈ tG := tG_t 710 (by decide +kernel) (by decide +kernel)
theorem tb711 : Cond.methodLink "RefusedMayAskLaw" 128 yX7_likings ∈ tG := tG_t 711 (by decide +kernel) (by decide +kernel)
theorem tb712 : Cond.instanceMethod yX7_likings ∈ tG := tG_t 712 (by decide +kernel) (by decide +kernel)
theorem tb713 : Cond.selects RX7 yX7_likings yX7_likings ∈ tG := tG_t 713 (by decide +kernel) (by decide +kernel)
theorem tb714 : Cond.code yX7_likings cX7_likings 10 (some .int) ∈ tG := tG_t 714 (by decide +kernel) (by decide +kernel)
theorem tb715 : Cond.methodLink RX7 289 yX7_likes ∈ tG := tG_t 715 (by decide +kernel) (by decide +kernel)
theorem tb716 : Cond.methodLink "RefusedMayAskLaw" 132 yX7_taken ∈ tG := tG_t 716 (by decide +kernel) (by decide +kernel)
theorem tb717 : Cond.instanceMethod yX7_taken ∈ tG := tG_t 717 (by decide +kernel) (by decide +kernel)
theorem tb718 : Cond.selects RX7 yX7_taken yX7_taken ∈ tG := tG_t 718 (by decide +kernel) (by decide +kernel)
theorem tb719 : Cond.code yX7_taken cX7_taken 3 (some .int) ∈ tG := tG_t 719 (by decide +kernel) (by decide +kernel)
theorem tb720 : Cond.methodLink RX7 293 yX0_isUnder ∈ tG := tG_t 720 (by decide +kernel) (by decide +kernel)
theorem tb721 : Cond.static yX0_isUnder ∈ tG := tG_t 721 (by decide +kernel) (by decide +kernel)
theorem tb722 : Cond.code yX0_isUnder cX0_isUnder 4 (some .boolean) ∈ tG := tG_t 722 (by decide +kernel) (by decide +kernel)
theorem tb723 : Cond.fieldLink RX0 17 "RefusedMayAsk$Kind" "UNDER" "[I" ∈ tG := tG_t 723 (by decide +kernel) (by decide +kernel)
theorem tb725 : Cond.classLink "RefusedMayAskLaw" 10 RX8 ∈ tG := tG_t 725 (by decide +kernel) (by decide +kernel)
theorem tb726 : Cond.instantiable RX8 58 ∈ tG := tG_t 726 (by decide +kernel) (by decide +kernel)
theorem tb727 : Cond.methodLink "RefusedMayAskLaw" 12 yX8_init ∈ tG := tG_t 727 (by decide +kernel) (by decide +kernel)
theorem tb728 : Cond.instanceMethod yX8_init ∈ tG := tG_t 728 (by decide +kernel) (by decide +kernel)
theorem tb729 : Cond.code yX8_init cX8_init 1 none ∈ tG := tG_t 729 (by decide +kernel) (by decide +kernel)
theorem tb730 : Cond.methodLink RX8 7 objectInit ∈ tG := tG_t 730 (by decide +kernel) (by decide +kernel)
theorem tb731 : Cond.methodLink RX8 99 yX8_spell ∈ tG := tG_t 731 (by decide +kernel) (by decide +kernel)
theorem tb733 : Cond.instanceMethod yX8_spell ∈ tG := tG_t 733 (by decide +kernel) (by decide +kernel)
theorem tb734 : Cond.code yX8_spell cX8_spell 10 none ∈ tG := tG_t 734 (by decide +kernel) (by decide +kernel)
theorem tb735 : Cond.fieldLink RX8 13 "RefusedMayAskModel" "texts" "[I" ∈ tG := tG_t 735 (by decide +kernel) (by decide +kernel)
theorem tb736 : Cond.fieldLink RX8 17 "RefusedMayAskModel" "textSize" "[I" ∈ tG := tG_t 736 (by decide +kernel) (by decide +kernel)
theorem tb737 : Cond.fieldLink RX8 103 "RefusedMayAskModel" "textCount" "I" ∈ tG := tG_t 737 (by decide +kernel) (by decide +kernel)
theorem tb738 : Cond.fieldLink RX8 263 "RefusedMayAskModel" "rule" "I" ∈ tG := tG_t 738 (by decide +kernel) (by decide +kernel)
theorem tb739 : Cond.fieldLink RX8 20 "RefusedMayAskModel" "tape" "[I" ∈ tG := tG_t 739 (by decide +kernel) (by decide +kernel)
theorem tb740 : Cond.fieldLink RX8 145 "RefusedMayAskModel" "taped" "I" ∈ tG := tG_t 740 (by decide +kernel) (by decide +kernel)
theorem tb741 : Cond.fieldLink RX8 106 "RefusedMayAskModel" "men" "I" ∈ tG := tG_t 741 (by decide +kernel) (by decide +kernel)
theorem tb742 : Cond.fieldLink RX8 113 "RefusedMayAskModel" "maids" "I" ∈ tG := tG_t 742 (by decide +kernel) (by decide +kernel)
theorem tb743 : Cond.fieldLink RX8 23 "RefusedMayAskModel" "like" "[I" ∈ tG := tG_t 743 (by decide +kernel) (by decide +kernel)
theorem tb744 : Cond.fieldLink RX8 26 "RefusedMayAskModel" "hers" "[I" ∈ tG := tG_t 744 (by decide +kernel) (by decide +kernel)
theorem tb745 : Cond.fieldLink RX8 29 "RefusedMayAskModel" "noes" "[I" ∈ tG := tG_t 745 (by decide +kernel) (by decide +kernel)
theorem tb746 : Cond.fieldLink RX8 32 "RefusedMayAskModel" "wife" "[I" ∈ tG := tG_t 746 (by decide +kernel) (by decide +kernel)
theorem tb747 : Cond.fieldLink RX8 35 "RefusedMayAskModel" "husband" "[I" ∈ tG := tG_t 747 (by decide +kernel) (by decide +kernel)
theorem tb748 : Cond.fieldLink RX8 38 "RefusedMayAskModel" "kinds" "[I" ∈ tG := tG_t 748 (by decide +kernel) (by decide +kernel)
theorem tb749 : Cond.fieldLink RX8 41 "RefusedMayAskModel" "numbers" "[I" ∈ tG := tG_t 749 (by decide +kernel) (by decide +kernel)
theorem tb750 : Cond.fieldLink RX8 131 "RefusedMayAskModel" "month" "I" ∈ tG := tG_t 750 (by decide +kernel) (by decide +kernel)
theorem tb751 : Cond.fieldLink RX8 204 "RefusedMayAskModel" "ofLike" "I" ∈ tG := tG_t 751 (by decide +kernel) (by decide +kernel)
theorem tb752 : Cond.fieldLink RX8 207 "RefusedMayAskModel" "ofHers" "I" ∈ tG := tG_t 752 (by decide +kernel) (by decide +kernel)
theorem tb753 : Cond.fieldLink RX8 210 "RefusedMayAskModel" "ofNoes" "I" ∈ tG := tG_t 753 (by decide +kernel) (by decide +kernel)
theorem tb754 : Cond.fieldLink RX8 213 "RefusedMayAskModel" "ofMonth" "I" ∈ tG := tG_t 754 (by decide +kernel) (by decide +kernel)
theorem tb755 : Cond.fieldLink RX8 216 "RefusedMayAskModel" "ofMan" "I" ∈ tG := tG_t 755 (by decide +kernel) (by decide +kernel)
theorem tb756 : Cond.fieldLink RX8 219 "RefusedMayAskModel" "ofMaid" "I" ∈ tG := tG_t 756 (by decide +kernel) (by decide +kernel)
theorem tb757 : Cond.fieldLink RX8 151 "RefusedMayAskModel" "from" "I" ∈ tG := tG_t 757 (by decide +kernel) (by decide +kernel)
theorem tb758 : Cond.fieldLink RX8 148 "RefusedMayAskModel" "size" "I" ∈ tG := tG_t 758 (by decide +kernel) (by decide +kernel)
theorem tb759 : Cond.fieldLink RX8 154 "RefusedMayAskModel" "here" "I" ∈ tG := tG_t 759 (by decide +kernel) (by decide +kernel)
theorem tb760 : Cond.fieldLink RX8 163 "RefusedMayAskModel" "token" "I" ∈ tG := tG_t 760 (by decide +kernel) (by decide +kernel)
theorem tb761 : Cond.fieldLink RX8 160 "RefusedMayAskModel" "tokenAt" "I" ∈ tG := tG_t 761 (by decide +kernel) (by decide +kernel)
theorem tb762 : Cond.fieldLink RX8 174 "RefusedMayAskModel" "tokenWorth" "J" ∈ tG := tG_t 762 (by decide +kernel) (by decide +kernel)
theorem tb763 : Cond.fieldLink RX8 191 "RefusedMayAskModel" "open" "I" ∈ tG := tG_t 763 (by decide +kernel) (by decide +kernel)
theorem tb764 : Cond.fieldLink RX8 180 "RefusedMayAskModel" "bad" "Z" ∈ tG := tG_t 764 (by decide +kernel) (by decide +kernel)
theorem tb765 : Cond.fieldLink RX8 184 "RefusedMayAskModel" "fault" "I" ∈ tG := tG_t 765 (by decide +kernel) (by decide +kernel)
theorem tb766 : Cond.fieldLink RX8 44 "RefusedMayAskModel" "noesWas" "[I" ∈ tG := tG_t 766 (by decide +kernel) (by decide +kernel)
theorem tb767 : Cond.fieldLink RX8 47 "RefusedMayAskModel" "wifeWas" "[I" ∈ tG := tG_t 767 (by decide +kernel) (by decide +kernel)
theorem tb768 : Cond.fieldLink RX8 50 "RefusedMayAskModel" "husbandWas" "[I" ∈ tG := tG_t 768 (by decide +kernel) (by decide +kernel)
theorem tb769 : Cond.fieldLink RX8 294 "RefusedMayAskModel" "monthWas" "I" ∈ tG := tG_t 769 (by decide +kernel) (by decide +kernel)
theorem tb770 : Cond.fieldLink RX8 53 "RefusedMayAskModel" "row" "[I" ∈ tG := tG_t 770 (by decide +kernel) (by decide +kernel)
theorem tb771 : Cond.fieldLink RX8 56 "RefusedMayAskModel" "bestRow" "[I" ∈ tG := tG_t 771 (by decide +kernel) (by decide +kernel)
theorem tb772 : Cond.fieldLink RX8 297 "RefusedMayAskModel" "bestMany" "I" ∈ tG := tG_t 772 (by decide +kernel) (by decide +kernel)
theorem tb773 : Cond.fieldLink RX8 300 "RefusedMayAskModel" "bestPrice" "I" ∈ tG := tG_t 773 (by decide +kernel) (by decide +kernel)
theorem tb774 : Cond.fieldLink RX8 59 "RefusedMayAskModel" "pair" "[I" ∈ tG := tG_t 774 (by decide +kernel) (by decide +kernel)
theorem tb775 : Cond.fieldLink RX8 62 "RefusedMayAskModel" "bestPair" "[I" ∈ tG := tG_t 775 (by decide +kernel) (by decide +kernel)
theorem tb776 : Cond.fieldLink RX8 316 "RefusedMayAskModel" "rows" "I" ∈ tG := tG_t 776 (by decide +kernel) (by decide +kernel)
theorem tb777 : Cond.fieldLink RX8 319 "RefusedMayAskModel" "bestContent" "I" ∈ tG := tG_t 777 (by decide +kernel) (by decide +kernel)
theorem tb778 : Cond.fieldLink RX8 65 "RefusedMayAskModel" "nos" "[Z" ∈ tG := tG_t 778 (by decide +kernel) (by decide +kernel)
theorem tb779 : Cond.fieldLink RX8 69 "RefusedMayAskModel" "worths" "[I" ∈ tG := tG_t 779 (by decide +kernel) (by decide +kernel)
theorem tb780 : Cond.fieldLink RX8 72 "RefusedMayAskModel" "hersWas" "[I" ∈ tG := tG_t 780 (by decide +kernel) (by decide +kernel)
theorem tb781 : Cond.fieldLink RX8 75 "RefusedMayAskModel" "likeKept" "[I" ∈ tG := tG_t 781 (by decide +kernel) (by decide +kernel)
theorem tb782 : Cond.fieldLink RX8 78 "RefusedMayAskModel" "hersKept" "[I" ∈ tG := tG_t 782 (by decide +kernel) (by decide +kernel)
theorem tb783 : Cond.fieldLink RX8 81 "RefusedMayAskModel" "peopleKept" "[I" ∈ tG := tG_t 783 (by decide +kernel) (by decide +kernel)
theorem tb784 : Cond.fieldLink RX8 84 "RefusedMayAskModel" "menKept" "I" ∈ tG := tG_t 784 (by decide +kernel) (by decide +kernel)
theorem tb785 : Cond.fieldLink RX8 351 "RefusedMayAskModel" "maidsKept" "I" ∈ tG := tG_t 785 (by decide +kernel) (by decide +kernel)
theorem tb786 : Cond.fieldLink RX8 354 "RefusedMayAskModel" "monthKept" "I" ∈ tG := tG_t 786 (by decide +kernel) (by decide +kernel)
theorem tb787 : Cond.fieldLink RX8 357 "RefusedMayAskModel" "ruleKept" "I" ∈ tG := tG_t 787 (by decide +kernel) (by decide +kernel)
theorem tb788 : Cond.fieldLink RX8 87 "RefusedMayAskModel" "isThere" "[Z" ∈ tG := tG_t 788 (by decide +kernel) (by decide +kernel)
theorem tb789 : Cond.fieldLink RX8 90 "RefusedMayAskModel" "sorts" "[I" ∈ tG := tG_t 789 (by decide +kernel) (by decide +kernel)
theorem tb790 : Cond.fieldLink RX8 93 "RefusedMayAskModel" "sheetSize" "[I" ∈ tG := tG_t 790 (by decide +kernel) (by decide +kernel)
theorem tb791 : Cond.fieldLink RX8 96 "RefusedMayAskModel" "items" "[I" ∈ tG := tG_t 791 (by decide +kernel) (by decide +kernel)
theorem tb909 : Cond.methodLink "RefusedMayAskLaw" 17 yX8_man ∈ tG := tG_t 909 (by decide +kernel) (by decide +kernel)
theorem tb910 : Cond.instanceMethod yX8_man ∈ tG := tG_t 910 (by decide +kernel) (by decide +kernel)
theorem tb911 : Cond.selects RX8 yX8_man yX8_man ∈ tG := tG_t 911 (by decide +kernel) (by decide +kernel)
theorem tb912 : Cond.code yX8_man cX8_man 3 (some .int) ∈ tG := tG_t 912 (by decide +kernel) (by decide +kernel)
theorem tb913 : Cond.constantLong RX8 116 9 ∈ tG := tG_t 913 (by decide +kernel) (by decide +kernel)
theorem tb914 : Cond.methodLink RX8 109 yX8_in ∈ tG := tG_t 914 (by decide +kernel) (by decide +kernel)
theorem tb915 : Cond.static yX8_in ∈ tG := tG_t 915 (by decide +kernel) (by decide +kernel)
theorem tb916 : Cond.code yX8_in cX8_in 6 (some .boolean) ∈ tG := tG_t 916 (by decide +kernel) (by decide +kernel)
theorem tb917 : Cond.methodLink "RefusedMayAskLaw" 22 yX8_maid ∈ tG := tG_t 917 (by decide +kernel) (by decide +kernel)
theorem tb918 : Cond.instanceMethod yX8_maid ∈ tG := tG_t 918 (by decide +kernel) (by decide +kernel)
theorem tb919 : Cond.selects RX8 yX8_maid yX8_maid ∈ tG := tG_t 919 (by decide +kernel) (by decide +kernel)
theorem tb920 : Cond.code yX8_maid cX8_maid 4 (some .int) ∈ tG := tG_t 920 (by decide +kernel) (by decide +kernel)
theorem tb921 : Cond.constantLong RX8 118 5 ∈ tG := tG_t 921 (by decide +kernel) (by decide +kernel)
theorem tb922 : Cond.methodLink "RefusedMayAskLaw" 27 yX8_likes ∈ tG := tG_t 922 (by decide +kernel) (by decide +kernel)
theorem tb923 : Cond.instanceMethod yX8_likes ∈ tG := tG_t 923 (by decide +kernel) (by decide +kernel)
theorem tb924 : Cond.selects RX8 yX8_likes yX8_likes ∈ tG := tG_t 924 (by decide +kernel) (by decide +kernel)
theorem tb925 : Cond.code yX8_likes cX8_likes 7 (some .int) ∈ tG := tG_t 925 (by decide +kernel) (by decide +kernel)
theorem tb926 : Cond.methodLink RX8 120 yX8_isMan ∈ tG := tG_t 926 (by decide +kernel) (by decide +kernel)
theorem tb928 : Cond.instanceMethod yX8_isMan ∈ tG := tG_t 928 (by decide +kernel) (by decide +kernel)
theorem tb929 : Cond.code yX8_isMan cX8_isMan 2 (some .boolean) ∈ tG := tG_t 929 (by decide +kernel) (by decide +kernel)
theorem tb930 : Cond.methodLink RX8 124 yX8_isMaid ∈ tG := tG_t 930 (by decide +kernel) (by decide +kernel)
theorem tb932 : Cond.instanceMethod yX8_isMaid ∈ tG := tG_t 932 (by decide +kernel) (by decide +kernel)
theorem tb933 : Cond.code yX8_isMaid cX8_isMaid 2 (some .boolean) ∈ tG := tG_t 933 (by decide +kernel) (by decide +kernel)
theorem tb934 : Cond.constantLong RX8 127 99 ∈ tG := tG_t 934 (by decide +kernel) (by decide +kernel)
theorem tb935 : Cond.methodLink "RefusedMayAskLaw" 32 yX8_set ∈ tG := tG_t 935 (by decide +kernel) (by decide +kernel)
theorem tb936 : Cond.instanceMethod yX8_set ∈ tG := tG_t 936 (by decide +kernel) (by decide +kernel)
theorem tb937 : Cond.selects RX8 yX8_set yX8_set ∈ tG := tG_t 937 (by decide +kernel) (by decide +kernel)
theorem tb938 : Cond.code yX8_set cX8_set 5 (some .int) ∈ tG := tG_t 938 (by decide +kernel) (by decide +kernel)
theorem tb939 : Cond.constantLong RX8 129 2 ∈ tG := tG_t 939 (by decide +kernel) (by decide +kernel)
theorem tb940 : Cond.methodLink "RefusedMayAskLaw" 40 yX8_of ∈ tG := tG_t 940 (by decide +kernel) (by decide +kernel)
theorem tb941 : Cond.instanceMethod yX8_of ∈ tG := tG_t 941 (by decide +kernel) (by decide +kernel)
theorem tb942 : Cond.selects RX8 yX8_of yX8_of ∈ tG := tG_t 942 (by decide +kernel) (by decide +kernel)
theorem tb943 : Cond.code yX8_of cX8_of 3 (some .int) ∈ tG := tG_t 943 (by decide +kernel) (by decide +kernel)
theorem tb944 : Cond.constantLong RX8 134 6 ∈ tG := tG_t 944 (by decide +kernel) (by decide +kernel)
theorem tb945 : Cond.methodLink RX8 136 yX8_needs ∈ tG := tG_t 945 (by decide +kernel) (by decide +kernel)
theorem tb947 : Cond.instanceMethod yX8_needs ∈ tG := tG_t 947 (by decide +kernel) (by decide +kernel)
theorem tb948 : Cond.code yX8_needs cX8_needs 3 (some .int) ∈ tG := tG_t 948 (by decide +kernel) (by decide +kernel)
theorem tb949 : Cond.methodLink RX8 140 yX8_price ∈ tG := tG_t 949 (by decide +kernel) (by decide +kernel)
theorem tb951 : Cond.instanceMethod yX8_price ∈ tG := tG_t 951 (by decide +kernel) (by decide +kernel)
theorem tb952 : Cond.code yX8_price cX8_price 4 (some .int) ∈ tG := tG_t 952 (by decide +kernel) (by decide +kernel)
theorem tb953 : Cond.methodLink "RefusedMayAskLaw" 44 yX8_feed ∈ tG := tG_t 953 (by decide +kernel) (by decide +kernel)
theorem tb954 : Cond.instanceMethod yX8_feed ∈ tG := tG_t 954 (by decide +kernel) (by decide +kernel)
theorem tb955 : Cond.selects RX8 yX8_feed yX8_feed ∈ tG := tG_t 955 (by decide +kernel) (by decide +kernel)
theorem tb956 : Cond.code yX8_feed cX8_feed 2 (some .int) ∈ tG := tG_t 956 (by decide +kernel) (by decide +kernel)
theorem tb957 : Cond.constantLong RX8 143 255 ∈ tG := tG_t 957 (by decide +kernel) (by decide +kernel)
theorem tb958 : Cond.methodLink "RefusedMayAskLaw" 49 yX8_text ∈ tG := tG_t 958 (by decide +kernel) (by decide +kernel)
theorem tb959 : Cond.instanceMethod yX8_text ∈ tG := tG_t 959 (by decide +kernel) (by decide +kernel)
theorem tb960 : Cond.selects RX8 yX8_text yX8_text ∈ tG := tG_t 960 (by decide +kernel) (by decide +kernel)
theorem tb961 : Cond.code yX8_text cX8_text 2 (some .int) ∈ tG := tG_t 961 (by decide +kernel) (by decide +kernel)
theorem tb962 : Cond.methodLink RX8 259 yX8_read ∈ tG := tG_t 962 (by decide +kernel) (by decide +kernel)
theorem tb964 : Cond.instanceMethod yX8_read ∈ tG := tG_t 964 (by decide +kernel) (by decide +kernel)
theorem tb965 : Cond.code yX8_read cX8_read 6 (some .int) ∈ tG := tG_t 965 (by decide +kernel) (by decide +kernel)
theorem tb966 : Cond.methodLink RX8 197 yX8_next ∈ tG := tG_t 966 (by decide +kernel) (by decide +kernel)
theorem tb968 : Cond.instanceMethod yX8_next ∈ tG := tG_t 968 (by decide +kernel) (by decide +kernel)
theorem tb969 : Cond.code yX8_next cX8_next 3 none ∈ tG := tG_t 969 (by decide +kernel) (by decide +kernel)
theorem tb970 : Cond.methodLink RX8 157 yX8_byteAt ∈ tG := tG_t 970 (by decide +kernel) (by decide +kernel)
theorem tb972 : Cond.instanceMethod yX8_byteAt ∈ tG := tG_t 972 (by decide +kernel) (by decide +kernel)
theorem tb973 : Cond.code yX8_byteAt cX8_byteAt 2 (some .int) ∈ tG := tG_t 973 (by decide +kernel) (by decide +kernel)
theorem tb974 : Cond.constantLong RX8 166 97 ∈ tG := tG_t 974 (by decide +kernel) (by decide +kernel)
theorem tb975 : Cond.constantLong RX8 168 122 ∈ tG := tG_t 975 (by decide +kernel) (by decide +kernel)
theorem tb976 : Cond.constantLong RX8 170 48 ∈ tG := tG_t 976 (by decide +kernel) (by decide +kernel)
theorem tb977 : Cond.constantLong RX8 172 57 ∈ tG := tG_t 977 (by decide +kernel) (by decide +kernel)
theorem tb978 : Cond.constantLong RX8 178 10 ∈ tG := tG_t 978 (by decide +kernel) (by decide +kernel)
theorem tb979 : Cond.methodLink RX8 200 yX8_isWord ∈ tG := tG_t 979 (by decide +kernel) (by decide +kernel)
theorem tb981 : Cond.instanceMethod yX8_isWord ∈ tG := tG_t 981 (by decide +kernel) (by decide +kernel)
theorem tb982 : Cond.code yX8_isWord cX8_isWord 9 (some .boolean) ∈ tG := tG_t 982 (by decide +kernel) (by decide +kernel)
theorem tb983 : Cond.methodLink RX8 187 yX8_isLetter ∈ tG := tG_t 983 (by decide +kernel) (by decide +kernel)
theorem tb985 : Cond.instanceMethod yX8_isLetter ∈ tG := tG_t 985 (by decide +kernel) (by decide +kernel)
theorem tb986 : Cond.code yX8_isLetter cX8_isLetter 3 (some .boolean) ∈ tG := tG_t 986 (by decide +kernel) (by decide +kernel)
theorem tb987 : Cond.methodLink RX8 255 yX8_part ∈ tG := tG_t 987 (by decide +kernel) (by decide +kernel)
theorem tb989 : Cond.instanceMethod yX8_part ∈ tG := tG_t 989 (by decide +kernel) (by decide +kernel)
theorem tb990 : Cond.code yX8_part cX8_part 3 (some .int) ∈ tG := tG_t 990 (by decide +kernel) (by decide +kernel)
theorem tb991 : Cond.methodLink RX8 194 yX8_fail ∈ tG := tG_t 991 (by decide +kernel) (by decide +kernel)
theorem tb993 : Cond.instanceMethod yX8_fail ∈ tG := tG_t 993 (by decide +kernel) (by decide +kernel)
theorem tb994 : Cond.code yX8_fail cX8_fail 1 none ∈ tG := tG_t 994 (by decide +kernel) (by decide +kernel)
theorem tb995 : Cond.methodLink RX8 233 yX8_either ∈ tG := tG_t 995 (by decide +kernel) (by decide +kernel)
theorem tb997 : Cond.instanceMethod yX8_either ∈ tG := tG_t 997 (by decide +kernel) (by decide +kernel)
theorem tb998 : Cond.code yX8_either cX8_either 3 (some .int) ∈ tG := tG_t 998 (by decide +kernel) (by decide +kernel)
theorem tb999 : Cond.methodLink RX8 252 yX8_both ∈ tG := tG_t 999 (by decide +kernel) (by decide +kernel)
theorem tb1001 : Cond.instanceMethod yX8_both ∈ tG := tG_t 1001 (by decide +kernel) (by decide +kernel)
theorem tb1002 : Cond.code yX8_both cX8_both 3 (some .int) ∈ tG := tG_t 1002 (by decide +kernel) (by decide +kernel)
theorem tb1003 : Cond.methodLink RX8 244 yX8_not ∈ tG := tG_t 1003 (by decide +kernel) (by decide +kernel)
theorem tb1005 : Cond.instanceMethod yX8_not ∈ tG := tG_t 1005 (by decide +kernel) (by decide +kernel)
theorem tb1006 : Cond.code yX8_not cX8_not 4 (some .int) ∈ tG := tG_t 1006 (by decide +kernel) (by decide +kernel)
theorem tb1007 : Cond.methodLink RX8 225 yX8_opens ∈ tG := tG_t 1007 (by decide +kernel) (by decide +kernel)
theorem tb1009 : Cond.instanceMethod yX8_opens ∈ tG := tG_t 1009 (by decide +kernel) (by decide +kernel)
theorem tb1010 : Cond.code yX8_opens cX8_opens 1 (some .boolean) ∈ tG := tG_t 1010 (by decide +kernel) (by decide +kernel)
theorem tb1011 : Cond.methodLink RX8 247 yX8_added ∈ tG := tG_t 1011 (by decide +kernel) (by decide +kernel)
theorem tb1013 : Cond.instanceMethod yX8_added ∈ tG := tG_t 1013 (by decide +kernel) (by decide +kernel)
theorem tb1014 : Cond.code yX8_added cX8_added 4 (some .int) ∈ tG := tG_t 1014 (by decide +kernel) (by decide +kernel)
theorem tb1015 : Cond.methodLink RX8 239 yX8_term ∈ tG := tG_t 1015 (by decide +kernel) (by decide +kernel)
theorem tb1017 : Cond.instanceMethod yX8_term ∈ tG := tG_t 1017 (by decide +kernel) (by decide +kernel)
theorem tb1018 : Cond.code yX8_term cX8_term 2 (some .int) ∈ tG := tG_t 1018 (by decide +kernel) (by decide +kernel)
theorem tb1019 : Cond.methodLink RX8 229 yX8_atom ∈ tG := tG_t 1019 (by decide +kernel) (by decide +kernel)
theorem tb1021 : Cond.instanceMethod yX8_atom ∈ tG := tG_t 1021 (by decide +kernel) (by decide +kernel)
theorem tb1022 : Cond.code yX8_atom cX8_atom 2 (some .int) ∈ tG := tG_t 1022 (by decide +kernel) (by decide +kernel)
theorem tb1023 : Cond.methodLink RX8 222 yX8_isSign ∈ tG := tG_t 1023 (by decide +kernel) (by decide +kernel)
theorem tb1025 : Cond.instanceMethod yX8_isSign ∈ tG := tG_t 1025 (by decide +kernel) (by decide +kernel)
theorem tb1026 : Cond.code yX8_isSign cX8_isSign 2 (some .boolean) ∈ tG := tG_t 1026 (by decide +kernel) (by decide +kernel)
theorem tb1027 : Cond.methodLink RX8 236 yX8_name ∈ tG := tG_t 1027 (by decide +kernel) (by decide +kernel)
theorem tb1029 : Cond.instanceMethod yX8_name ∈ tG := tG_t 1029 (by decide +kernel) (by decide +kernel)
theorem tb1030 : Cond.code yX8_name cX8_name 1 (some .int) ∈ tG := tG_t 1030 (by decide +kernel) (by decide +kernel)
theorem tb1031 : Cond.constantLong RX8 242 43 ∈ tG := tG_t 1031 (by decide +kernel) (by decide +kernel)
theorem tb1032 : Cond.constantLong RX8 250 60 ∈ tG := tG_t 1032 (by decide +kernel) (by decide +kernel)
theorem tb1033 : Cond.methodLink "RefusedMayAskLaw" 53 yX8_force ∈ tG := tG_t 1033 (by decide +kernel) (by decide +kernel)
theorem tb1034 : Cond.instanceMethod yX8_force ∈ tG := tG_t 1034 (by decide +kernel) (by decide +kernel)
theorem tb1035 : Cond.selects RX8 yX8_force yX8_force ∈ tG := tG_t 1035 (by decide +kernel) (by decide +kernel)
theorem tb1036 : Cond.code yX8_force cX8_force 3 (some .int) ∈ tG := tG_t 1036 (by decide +kernel) (by decide +kernel)
theorem tb1037 : Cond.methodLink "RefusedMayAskLaw" 36 yX8_told ∈ tG := tG_t 1037 (by decide +kernel) (by decide +kernel)
theorem tb1038 : Cond.instanceMethod yX8_told ∈ tG := tG_t 1038 (by decide +kernel) (by decide +kernel)
theorem tb1039 : Cond.selects RX8 yX8_told yX8_told ∈ tG := tG_t 1039 (by decide +kernel) (by decide +kernel)
theorem tb1040 : Cond.code yX8_told cX8_told 5 (some .int) ∈ tG := tG_t 1040 (by decide +kernel) (by decide +kernel)
theorem tb1041 : Cond.methodLink RX8 278 yX8_worth ∈ tG := tG_t 1041 (by decide +kernel) (by decide +kernel)
theorem tb1043 : Cond.instanceMethod yX8_worth ∈ tG := tG_t 1043 (by decide +kernel) (by decide +kernel)
theorem tb1044 : Cond.code yX8_worth cX8_worth 3 (some .int) ∈ tG := tG_t 1044 (by decide +kernel) (by decide +kernel)
theorem tb1045 : Cond.methodLink RX8 270 yX8_says ∈ tG := tG_t 1045 (by decide +kernel) (by decide +kernel)
theorem tb1047 : Cond.instanceMethod yX8_says ∈ tG := tG_t 1047 (by decide +kernel) (by decide +kernel)
theorem tb1048 : Cond.code yX8_says cX8_says 5 (some .int) ∈ tG := tG_t 1048 (by decide +kernel) (by decide +kernel)
theorem tb1049 : Cond.methodLink RX8 274 yX8_within ∈ tG := tG_t 1049 (by decide +kernel) (by decide +kernel)
theorem tb1050 : Cond.static yX8_within ∈ tG := tG_t 1050 (by decide +kernel) (by decide +kernel)
theorem tb1051 : Cond.code yX8_within cX8_within 3 (some .int) ∈ tG := tG_t 1051 (by decide +kernel) (by decide +kernel)
theorem tb1052 : Cond.methodLink RX8 281 yX8_mayAsk ∈ tG := tG_t 1052 (by decide +kernel) (by decide +kernel)
theorem tb1054 : Cond.instanceMethod yX8_mayAsk ∈ tG := tG_t 1054 (by decide +kernel) (by decide +kernel)
theorem tb1055 : Cond.code yX8_mayAsk cX8_mayAsk 3 (some .boolean) ∈ tG := tG_t 1055 (by decide +kernel) (by decide +kernel)
theorem tb1056 : Cond.methodLink RX8 284 yX8_saysNo ∈ tG := tG_t 1056 (by decide +kernel) (by decide +kernel)
theorem tb1058 : Cond.instanceMethod yX8_saysNo ∈ tG := tG_t 1058 (by decide +kernel) (by decide +kernel)
theorem tb1059 : Cond.code yX8_saysNo cX8_saysNo 4 (some .boolean) ∈ tG := tG_t 1059 (by decide +kernel) (by decide +kernel)
theorem tb1060 : Cond.methodLink RX8 266 yX8_refuses ∈ tG := tG_t 1060 (by decide +kernel) (by decide +kernel)
theorem tb1062 : Cond.instanceMethod yX8_refuses ∈ tG := tG_t 1062 (by decide +kernel) (by decide +kernel)
theorem tb1063 : Cond.code yX8_refuses cX8_refuses 5 (some .boolean) ∈ tG := tG_t 1063 (by decide +kernel) (by decide +kernel)
theorem tb1064 : Cond.methodLink RX8 287 yX8_wants ∈ tG := tG_t 1064 (by decide +kernel) (by decide +kernel)
theorem tb1066 : Cond.instanceMethod yX8_wants ∈ tG := tG_t 1066 (by decide +kernel) (by decide +kernel)
theorem tb1067 : Cond.code yX8_wants cX8_wants 3 (some .boolean) ∈ tG := tG_t 1067 (by decide +kernel) (by decide +kernel)
theorem tb1068 : Cond.methodLink "RefusedMayAskLaw" 57 yX8_ask ∈ tG := tG_t 1068 (by decide +kernel) (by decide +kernel)
theorem tb1069 : Cond.instanceMethod yX8_ask ∈ tG := tG_t 1069 (by decide +kernel) (by decide +kernel)
theorem tb1070 : Cond.selects RX8 yX8_ask yX8_ask ∈ tG := tG_t 1070 (by decide +kernel) (by decide +kernel)
theorem tb1071 : Cond.code yX8_ask cX8_ask 4 (some .int) ∈ tG := tG_t 1071 (by decide +kernel) (by decide +kernel)
theorem tb1072 : Cond.methodLink RX8 290 yX8_answers ∈ tG := tG_t 1072 (by decide +kernel) (by decide +kernel)
theorem tb1074 : Cond.instanceMethod yX8_answers ∈ tG := tG_t 1074 (by decide +kernel) (by decide +kernel)
theorem tb1075 : Cond.code yX8_answers cX8_answers 4 none ∈ tG := tG_t 1075 (by decide +kernel) (by decide +kernel)
theorem tb1076 : Cond.methodLink "RefusedMayAskLaw" 61 yX8_part_ ∈ tG := tG_t 1076 (by decide +kernel) (by decide +kernel)
theorem tb1077 : Cond.instanceMethod yX8_part_ ∈ tG := tG_t 1077 (by decide +kernel) (by decide +kernel)
theorem tb1078 : Cond.selects RX8 yX8_part_ yX8_part_ ∈ tG := tG_t 1078 (by decide +kernel) (by decide +kernel)
theorem tb1079 : Cond.code yX8_part_ cX8_part_ 3 (some .int) ∈ tG := tG_t 1079 (by decide +kernel) (by decide +kernel)
theorem tb1080 : Cond.methodLink "RefusedMayAskLaw" 65 yX8_way ∈ tG := tG_t 1080 (by decide +kernel) (by decide +kernel)
theorem tb1081 : Cond.instanceMethod yX8_way ∈ tG := tG_t 1081 (by decide +kernel) (by decide +kernel)
theorem tb1082 : Cond.selects RX8 yX8_way yX8_way ∈ tG := tG_t 1082 (by decide +kernel) (by decide +kernel)
theorem tb1083 : Cond.code yX8_way cX8_way 5 (some .int) ∈ tG := tG_t 1083 (by decide +kernel) (by decide +kernel)
theorem tb1084 : Cond.methodLink RX8 303 yX8_lets ∈ tG := tG_t 1084 (by decide +kernel) (by decide +kernel)
theorem tb1086 : Cond.instanceMethod yX8_lets ∈ tG := tG_t 1086 (by decide +kernel) (by decide +kernel)
theorem tb1087 : Cond.code yX8_lets cX8_lets 10 none ∈ tG := tG_t 1087 (by decide +kernel) (by decide +kernel)
theorem tb1088 : Cond.methodLink "RefusedMayAskLaw" 69 yX8_mistake ∈ tG := tG_t 1088 (by decide +kernel) (by decide +kernel)
theorem tb1089 : Cond.instanceMethod yX8_mistake ∈ tG := tG_t 1089 (by decide +kernel) (by decide +kernel)
theorem tb1090 : Cond.selects RX8 yX8_mistake yX8_mistake ∈ tG := tG_t 1090 (by decide +kernel) (by decide +kernel)
theorem tb1091 : Cond.code yX8_mistake cX8_mistake 5 (some .int) ∈ tG := tG_t 1091 (by decide +kernel) (by decide +kernel)
theorem tb1092 : Cond.methodLink "RefusedMayAskLaw" 73 yX8_sure ∈ tG := tG_t 1092 (by decide +kernel) (by decide +kernel)
theorem tb1093 : Cond.instanceMethod yX8_sure ∈ tG := tG_t 1093 (by decide +kernel) (by decide +kernel)
theorem tb1094 : Cond.selects RX8 yX8_sure yX8_sure ∈ tG := tG_t 1094 (by decide +kernel) (by decide +kernel)
theorem tb1095 : Cond.code yX8_sure cX8_sure 6 (some .int) ∈ tG := tG_t 1095 (by decide +kernel) (by decide +kernel)
theorem tb1096 : Cond.methodLink "RefusedMayAskLaw" 77 yX8_pairings ∈ tG := tG_t 1096 (by decide +kernel) (by decide +kernel)
theorem tb1097 : Cond.instanceMethod yX8_pairings ∈ tG := tG_t 1097 (by decide +kernel) (by decide +kernel)
theorem tb1098 : Cond.selects RX8 yX8_pairings yX8_pairings ∈ tG := tG_t 1098 (by decide +kernel) (by decide +kernel)
theorem tb1099 : Cond.code yX8_pairings cX8_pairings 2 (some .int) ∈ tG := tG_t 1099 (by decide +kernel) (by decide +kernel)
theorem tb1100 : Cond.methodLink RX8 329 yX8_goes ∈ tG := tG_t 1100 (by decide +kernel) (by decide +kernel)
theorem tb1102 : Cond.instanceMethod yX8_goes ∈ tG := tG_t 1102 (by decide +kernel) (by decide +kernel)
theorem tb1103 : Cond.code yX8_goes cX8_goes 2 (some .int) ∈ tG := tG_t 1103 (by decide +kernel) (by decide +kernel)
theorem tb1104 : Cond.methodLink RX8 326 yX8_gathers ∈ tG := tG_t 1104 (by decide +kernel) (by decide +kernel)
theorem tb1106 : Cond.instanceMethod yX8_gathers ∈ tG := tG_t 1106 (by decide +kernel) (by decide +kernel)
theorem tb1107 : Cond.code yX8_gathers cX8_gathers 3 none ∈ tG := tG_t 1107 (by decide +kernel) (by decide +kernel)
theorem tb1108 : Cond.methodLink RX8 322 yX8_pairs ∈ tG := tG_t 1108 (by decide +kernel) (by decide +kernel)
theorem tb1110 : Cond.instanceMethod yX8_pairs ∈ tG := tG_t 1110 (by decide +kernel) (by decide +kernel)
theorem tb1111 : Cond.code yX8_pairs cX8_pairs 6 none ∈ tG := tG_t 1111 (by decide +kernel) (by decide +kernel)
theorem tb1112 : Cond.methodLink RX8 307 yX8_isLawful ∈ tG := tG_t 1112 (by decide +kernel) (by decide +kernel)
theorem tb1114 : Cond.instanceMethod yX8_isLawful ∈ tG := tG_t 1114 (by decide +kernel) (by decide +kernel)
theorem tb1115 : Cond.code yX8_isLawful cX8_isLawful 2 (some .boolean) ∈ tG := tG_t 1115 (by decide +kernel) (by decide +kernel)
theorem tb1116 : Cond.methodLink RX8 313 yX8_isSteady ∈ tG := tG_t 1116 (by decide +kernel) (by decide +kernel)
theorem tb1118 : Cond.instanceMethod yX8_isSteady ∈ tG := tG_t 1118 (by decide +kernel) (by decide +kernel)
theorem tb1119 : Cond.code yX8_isSteady cX8_isSteady 6 (some .boolean) ∈ tG := tG_t 1119 (by decide +kernel) (by decide +kernel)
theorem tb1120 : Cond.methodLink RX8 310 yX8_manOf ∈ tG := tG_t 1120 (by decide +kernel) (by decide +kernel)
theorem tb1122 : Cond.instanceMethod yX8_manOf ∈ tG := tG_t 1122 (by decide +kernel) (by decide +kernel)
theorem tb1123 : Cond.code yX8_manOf cX8_manOf 3 (some .int) ∈ tG := tG_t 1123 (by decide +kernel) (by decide +kernel)
theorem tb1124 : Cond.methodLink "RefusedMayAskLaw" 81 yX8_best ∈ tG := tG_t 1124 (by decide +kernel) (by decide +kernel)
theorem tb1125 : Cond.instanceMethod yX8_best ∈ tG := tG_t 1125 (by decide +kernel) (by decide +kernel)
theorem tb1126 : Cond.selects RX8 yX8_best yX8_best ∈ tG := tG_t 1126 (by decide +kernel) (by decide +kernel)
theorem tb1127 : Cond.code yX8_best cX8_best 3 (some .int) ∈ tG := tG_t 1127 (by decide +kernel) (by decide +kernel)
theorem tb1128 : Cond.methodLink "RefusedMayAskLaw" 85 yX8_row ∈ tG := tG_t 1128 (by decide +kernel) (by decide +kernel)
theorem tb1129 : Cond.instanceMethod yX8_row ∈ tG := tG_t 1129 (by decide +kernel) (by decide +kernel)
theorem tb1130 : Cond.selects RX8 yX8_row yX8_row ∈ tG := tG_t 1130 (by decide +kernel) (by decide +kernel)
theorem tb1131 : Cond.code yX8_row cX8_row 5 (some .int) ∈ tG := tG_t 1131 (by decide +kernel) (by decide +kernel)
theorem tb1132 : Cond.methodLink RX8 332 yX8_isSheet ∈ tG := tG_t 1132 (by decide +kernel) (by decide +kernel)
theorem tb1133 : Cond.static yX8_isSheet ∈ tG := tG_t 1133 (by decide +kernel) (by decide +kernel)
theorem tb1134 : Cond.code yX8_isSheet cX8_isSheet 1 (some .boolean) ∈ tG := tG_t 1134 (by decide +kernel) (by decide +kernel)
theorem tb1135 : Cond.constantLong RX8 360 3 ∈ tG := tG_t 1135 (by decide +kernel) (by decide +kernel)
theorem tb1136 : Cond.methodLink "RefusedMayAskLaw" 89 yX8_year ∈ tG := tG_t 1136 (by decide +kernel) (by decide +kernel)
theorem tb1137 : Cond.instanceMethod yX8_year ∈ tG := tG_t 1137 (by decide +kernel) (by decide +kernel)
theorem tb1138 : Cond.selects RX8 yX8_year yX8_year ∈ tG := tG_t 1138 (by decide +kernel) (by decide +kernel)
theorem tb1139 : Cond.code yX8_year cX8_year 10 (some .int) ∈ tG := tG_t 1139 (by decide +kernel) (by decide +kernel)
theorem tb1140 : Cond.constantLong RX8 335 12 ∈ tG := tG_t 1140 (by decide +kernel) (by decide +kernel)
theorem tb1141 : Cond.methodLink RX8 337 yX8_laysAside ∈ tG := tG_t 1141 (by decide +kernel) (by decide +kernel)
theorem tb1143 : Cond.instanceMethod yX8_laysAside ∈ tG := tG_t 1143 (by decide +kernel) (by decide +kernel)
theorem tb1144 : Cond.code yX8_laysAside cX8_laysAside 2 none ∈ tG := tG_t 1144 (by decide +kernel) (by decide +kernel)
theorem tb1145 : Cond.methodLink RX8 340 yX8_laysBack ∈ tG := tG_t 1145 (by decide +kernel) (by decide +kernel)
theorem tb1147 : Cond.instanceMethod yX8_laysBack ∈ tG := tG_t 1147 (by decide +kernel) (by decide +kernel)
theorem tb1148 : Cond.code yX8_laysBack cX8_laysBack 2 none ∈ tG := tG_t 1148 (by decide +kernel) (by decide +kernel)
theorem tb1149 : Cond.methodLink "RefusedMayAskLaw" 93 yX8_judge ∈ tG := tG_t 1149 (by decide +kernel) (by decide +kernel)
theorem tb1150 : Cond.instanceMethod yX8_judge ∈ tG := tG_t 1150 (by decide +kernel) (by decide +kernel)
theorem tb1151 : Cond.selects RX8 yX8_judge yX8_judge ∈ tG := tG_t 1151 (by decide +kernel) (by decide +kernel)
theorem tb1152 : Cond.code yX8_judge cX8_judge 9 (some .int) ∈ tG := tG_t 1152 (by decide +kernel) (by decide +kernel)
theorem tb1153 : Cond.methodLink "RefusedMayAskLaw" 97 yX8_drawn ∈ tG := tG_t 1153 (by decide +kernel) (by decide +kernel)
theorem tb1154 : Cond.instanceMethod yX8_drawn ∈ tG := tG_t 1154 (by decide +kernel) (by decide +kernel)
theorem tb1155 : Cond.selects RX8 yX8_drawn yX8_drawn ∈ tG := tG_t 1155 (by decide +kernel) (by decide +kernel)
theorem tb1156 : Cond.code yX8_drawn cX8_drawn 5 (some .int) ∈ tG := tG_t 1156 (by decide +kernel) (by decide +kernel)
theorem tb1157 : Cond.constant RX8 343 1103515245 ∈ tG := tG_t 1157 (by decide +kernel) (by decide +kernel)
theorem tb1158 : Cond.methodLink "RefusedMayAskLaw" 102 yX8_chance ∈ tG := tG_t 1158 (by decide +kernel) (by decide +kernel)
theorem tb1159 : Cond.instanceMethod yX8_chance ∈ tG := tG_t 1159 (by decide +kernel) (by decide +kernel)
theorem tb1160 : Cond.selects RX8 yX8_chance yX8_chance ∈ tG := tG_t 1160 (by decide +kernel) (by decide +kernel)
theorem tb1161 : Cond.code yX8_chance cX8_chance 12 (some .long) ∈ tG := tG_t 1161 (by decide +kernel) (by decide +kernel)
theorem tb1162 : Cond.constantLong RX8 344 20 ∈ tG := tG_t 1162 (by decide +kernel) (by decide +kernel)
theorem tb1163 : Cond.constantLong RX8 346 (-4611686018427387904) ∈ tG := tG_t 1163 (by decide +kernel) (by decide +kernel)
theorem tb1164 : Cond.methodLink RX8 348 yX8_drawn ∈ tG := tG_t 1164 (by decide +kernel) (by decide +kernel)
theorem tb1165 : Cond.methodLink "RefusedMayAskLaw" 106 yX8_image ∈ tG := tG_t 1165 (by decide +kernel) (by decide +kernel)
theorem tb1166 : Cond.instanceMethod yX8_image ∈ tG := tG_t 1166 (by decide +kernel) (by decide +kernel)
theorem tb1167 : Cond.selects RX8 yX8_image yX8_image ∈ tG := tG_t 1167 (by decide +kernel) (by decide +kernel)
theorem tb1168 : Cond.code yX8_image cX8_image 2 (some .int) ∈ tG := tG_t 1168 (by decide +kernel) (by decide +kernel)
theorem tb1169 : Cond.methodLink "RefusedMayAskLaw" 110 yX8_back ∈ tG := tG_t 1169 (by decide +kernel) (by decide +kernel)
theorem tb1170 : Cond.instanceMethod yX8_back ∈ tG := tG_t 1170 (by decide +kernel) (by decide +kernel)
theorem tb1171 : Cond.selects RX8 yX8_back yX8_back ∈ tG := tG_t 1171 (by decide +kernel) (by decide +kernel)
theorem tb1172 : Cond.code yX8_back cX8_back 2 (some .int) ∈ tG := tG_t 1172 (by decide +kernel) (by decide +kernel)
theorem tb1173 : Cond.methodLink "RefusedMayAskLaw" 114 yX8_count ∈ tG := tG_t 1173 (by decide +kernel) (by decide +kernel)
theorem tb1174 : Cond.instanceMethod yX8_count ∈ tG := tG_t 1174 (by decide +kernel) (by decide +kernel)
theorem tb1175 : Cond.selects RX8 yX8_count yX8_count ∈ tG := tG_t 1175 (by decide +kernel) (by decide +kernel)
theorem tb1176 : Cond.code yX8_count cX8_count 4 (some .int) ∈ tG := tG_t 1176 (by decide +kernel) (by decide +kernel)
theorem tb1177 : Cond.methodLink "RefusedMayAskLaw" 118 yX8_sheet ∈ tG := tG_t 1177 (by decide +kernel) (by decide +kernel)
theorem tb1178 : Cond.instanceMethod yX8_sheet ∈ tG := tG_t 1178 (by decide +kernel) (by decide +kernel)
theorem tb1179 : Cond.selects RX8 yX8_sheet yX8_sheet ∈ tG := tG_t 1179 (by decide +kernel) (by decide +kernel)
theorem tb1180 : Cond.code yX8_sheet cX8_sheet 5 (some .int) ∈ tG := tG_t 1180 (by decide +kernel) (by decide +kernel)
theorem tb1181 : Cond.constantLong RX8 362 (-1) ∈ tG := tG_t 1181 (by decide +kernel) (by decide +kernel)
theorem tb1182 : Cond.methodLink "RefusedMayAskLaw" 122 yX8_cell ∈ tG := tG_t 1182 (by decide +kernel) (by decide +kernel)
theorem tb1183 : Cond.instanceMethod yX8_cell ∈ tG := tG_t 1183 (by decide +kernel) (by decide +kernel)
theorem tb1184 : Cond.selects RX8 yX8_cell yX8_cell ∈ tG := tG_t 1184 (by decide +kernel) (by decide +kernel)
theorem tb1185 : Cond.code yX8_cell cX8_cell 4 (some .int) ∈ tG := tG_t 1185 (by decide +kernel) (by decide +kernel)
theorem tb1186 : Cond.methodLink "RefusedMayAskLaw" 127 yX8_copy ∈ tG := tG_t 1186 (by decide +kernel) (by decide +kernel)
theorem tb1187 : Cond.instanceMethod yX8_copy ∈ tG := tG_t 1187 (by decide +kernel) (by decide +kernel)
theorem tb1188 : Cond.selects RX8 yX8_copy yX8_copy ∈ tG := tG_t 1188 (by decide +kernel) (by decide +kernel)
theorem tb1189 : Cond.code yX8_copy cX8_copy 9 (some .int) ∈ tG := tG_t 1189 (by decide +kernel) (by decide +kernel)
theorem tb1190 : Cond.methodLink "RefusedMayAskLaw" 131 yX8_likings ∈ tG := tG_t 1190 (by decide +kernel) (by decide +kernel)
theorem tb1191 : Cond.instanceMethod yX8_likings ∈ tG := tG_t 1191 (by decide +kernel) (by decide +kernel)
theorem tb1192 : Cond.selects RX8 yX8_likings yX8_likings ∈ tG := tG_t 1192 (by decide +kernel) (by decide +kernel)
theorem tb1193 : Cond.code yX8_likings cX8_likings 8 (some .int) ∈ tG := tG_t 1193 (by decide +kernel) (by decide +kernel)
theorem tb1194 : Cond.methodLink RX8 364 yX8_likes ∈ tG := tG_t 1194 (by decide +kernel) (by decide +kernel)
theorem tb1195 : Cond.methodLink "RefusedMayAskLaw" 135 yX8_taken ∈ tG := tG_t 1195 (by decide +kernel) (by decide +kernel)
theorem tb1196 : Cond.instanceMethod yX8_taken ∈ tG := tG_t 1196 (by decide +kernel) (by decide +kernel)
theorem tb1197 : Cond.selects RX8 yX8_taken yX8_taken ∈ tG := tG_t 1197 (by decide +kernel) (by decide +kernel)
theorem tb1198 : Cond.code yX8_taken cX8_taken 4 (some .int) ∈ tG := tG_t 1198 (by decide +kernel) (by decide +kernel)
theorem tb1199 : Cond.methodLink RX8 367 yX8_over ∈ tG := tG_t 1199 (by decide +kernel) (by decide +kernel)
theorem tb1200 : Cond.static yX8_over ∈ tG := tG_t 1200 (by decide +kernel) (by decide +kernel)
theorem tb1201 : Cond.code yX8_over cX8_over 1 (some .int) ∈ tG := tG_t 1201 (by decide +kernel) (by decide +kernel)
theorem tb1202 : Cond.fieldLink RJ0 9 "java/lang/String" "value" "[B" ∈ tG := tG_t 1202 (by decide +kernel) (by decide +kernel)
theorem tb1203 : Cond.fieldLink RJ0 15 "java/lang/String" "coder" "B" ∈ tG := tG_t 1203 (by decide +kernel) (by decide +kernel)
theorem ts0 : Cond.selects RX2 yX2_advance yX2_advance ∈ tG := tG_s 0 (by decide +kernel) (by decide +kernel)
theorem ts1 : Cond.selects RX2 yX2_takeWord yX2_takeWord ∈ tG := tG_s 1 (by decide +kernel) (by decide +kernel)
theorem ts2 : Cond.selects RX2 yX2_spells yX2_spells ∈ tG := tG_s 2 (by decide +kernel) (by decide +kernel)
theorem ts3 : Cond.selects RX2 yX2_takeNumber yX2_takeNumber ∈ tG := tG_s 3 (by decide +kernel) (by decide +kernel)
theorem ts4 : Cond.selects RX2 yX2_expect yX2_expect ∈ tG := tG_s 4 (by decide +kernel) (by decide +kernel)
theorem ts5 : Cond.selects RX2 yX2_fail yX2_fail ∈ tG := tG_s 5 (by decide +kernel) (by decide +kernel)
theorem ts6 : Cond.selects RX2 yX2_readLevel yX2_readLevel ∈ tG := tG_s 6 (by decide +kernel) (by decide +kernel)
theorem ts7 : Cond.selects RX2 yX2_readOne yX2_readOne ∈ tG := tG_s 7 (by decide +kernel) (by decide +kernel)
theorem ts8 : Cond.selects RX2 yX2_emit yX2_emit ∈ tG := tG_s 8 (by decide +kernel) (by decide +kernel)
theorem ts9 : Cond.selects RX2 yX2_enter yX2_enter ∈ tG := tG_s 9 (by decide +kernel) (by decide +kernel)
theorem ts10 : Cond.selects RX7 yX7_arePair yX7_arePair ∈ tG := tG_s 10 (by decide +kernel) (by decide +kernel)
theorem ts11 : Cond.selects RX7 yX7_isMan yX7_isMan ∈ tG := tG_s 11 (by decide +kernel) (by decide +kernel)
theorem ts12 : Cond.selects RX7 yX7_isMaid yX7_isMaid ∈ tG := tG_s 12 (by decide +kernel) (by decide +kernel)
theorem ts13 : Cond.selects RX7 yX7_replaceMonth yX7_replaceMonth ∈ tG := tG_s 13 (by decide +kernel) (by decide +kernel)
theorem ts14 : Cond.selects RX5 yX5_ruled yX5_ruled ∈ tG := tG_s 14 (by decide +kernel) (by decide +kernel)
theorem ts15 : Cond.selects RX7 yX7_ofMaid yX7_ofMaid ∈ tG := tG_s 15 (by decide +kernel) (by decide +kernel)
theorem ts16 : Cond.selects RX7 yX7_ofMan yX7_ofMan ∈ tG := tG_s 16 (by decide +kernel) (by decide +kernel)
theorem ts17 : Cond.selects RX6 yX6_goOn yX6_goOn ∈ tG := tG_s 17 (by decide +kernel) (by decide +kernel)
theorem ts18 : Cond.selects RX6 yX6_isBetter yX6_isBetter ∈ tG := tG_s 18 (by decide +kernel) (by decide +kernel)
theorem ts19 : Cond.selects RX6 yX6_keep yX6_keep ∈ tG := tG_s 19 (by decide +kernel) (by decide +kernel)
theorem ts20 : Cond.selects RX7 yX7_refusesFromNowOn yX7_refusesFromNowOn ∈ tG := tG_s 20 (by decide +kernel) (by decide +kernel)
theorem ts21 : Cond.selects RX1 yX1_weigh yX1_weigh ∈ tG := tG_s 21 (by decide +kernel) (by decide +kernel)
theorem ts22 : Cond.selects RX1 yX1_pairFrom yX1_pairFrom ∈ tG := tG_s 22 (by decide +kernel) (by decide +kernel)
theorem ts23 : Cond.selects RX1 yX1_enter yX1_enter ∈ tG := tG_s 23 (by decide +kernel) (by decide +kernel)
theorem ts24 : Cond.selects RX1 yX1_isSteady yX1_isSteady ∈ tG := tG_s 24 (by decide +kernel) (by decide +kernel)
theorem ts25 : Cond.selects RX7 yX7_passRound yX7_passRound ∈ tG := tG_s 25 (by decide +kernel) (by decide +kernel)
theorem ts26 : Cond.selects RX8 yX8_spell yX8_spell ∈ tG := tG_s 26 (by decide +kernel) (by decide +kernel)
theorem ts27 : Cond.selects RX8 yX8_isMan yX8_isMan ∈ tG := tG_s 27 (by decide +kernel) (by decide +kernel)
theorem ts28 : Cond.selects RX8 yX8_isMaid yX8_isMaid ∈ tG := tG_s 28 (by decide +kernel) (by decide +kernel)
theorem ts29 : Cond.selects RX8 yX8_needs yX8_needs ∈ tG := tG_s 29 (by decide +kernel) (by decide +kernel)
theorem ts30 : Cond.selects RX8 yX8_price yX8_price ∈ tG := tG_s 30 (by decide +kernel) (by decide +kernel)
theorem ts31 : Cond.selects RX8 yX8_read yX8_read ∈ tG := tG_s 31 (by decide +kernel) (by decide +kernel)
theorem ts32 : Cond.selects RX8 yX8_next yX8_next ∈ tG := tG_s 32 (by decide +kernel) (by decide +kernel)
theorem ts33 : Cond.selects RX8 yX8_byteAt yX8_byteAt ∈ tG := tG_s 33 (by decide +kernel) (by decide +kernel)
theorem ts34 : Cond.selects RX8 yX8_isWord yX8_isWord ∈ tG := tG_s 34 (by decide +kernel) (by decide +kernel)
theorem ts35 : Cond.selects RX8 yX8_isLetter yX8_isLetter ∈ tG := tG_s 35 (by decide +kernel) (by decide +kernel)
theorem ts36 : Cond.selects RX8 yX8_part yX8_part ∈ tG := tG_s 36 (by decide +kernel) (by decide +kernel)
theorem ts37 : Cond.selects RX8 yX8_fail yX8_fail ∈ tG := tG_s 37 (by decide +kernel) (by decide +kernel)
theorem ts38 : Cond.selects RX8 yX8_either yX8_either ∈ tG := tG_s 38 (by decide +kernel) (by decide +kernel)
theorem ts39 : Cond.selects RX8 yX8_both yX8_both ∈ tG := tG_s 39 (by decide +kernel) (by decide +kernel)
theorem ts40 : Cond.selects RX8 yX8_not yX8_not ∈ tG := tG_s 40 (by decide +kernel) (by decide +kernel)
theorem ts41 : Cond.selects RX8 yX8_opens yX8_opens ∈ tG := tG_s 41 (by decide +kernel) (by decide +kernel)
theorem ts42 : Cond.selects RX8 yX8_added yX8_added ∈ tG := tG_s 42 (by decide +kernel) (by decide +kernel)
theorem ts43 : Cond.selects RX8 yX8_term yX8_term ∈ tG := tG_s 43 (by decide +kernel) (by decide +kernel)
theorem ts44 : Cond.selects RX8 yX8_atom yX8_atom ∈ tG := tG_s 44 (by decide +kernel) (by decide +kernel)
theorem ts45 : Cond.selects RX8 yX8_isSign yX8_isSign ∈ tG := tG_s 45 (by decide +kernel) (by decide +kernel)
theorem ts46 : Cond.selects RX8 yX8_name yX8_name ∈ tG := tG_s 46 (by decide +kernel) (by decide +kernel)
theorem ts47 : Cond.selects RX8 yX8_worth yX8_worth ∈ tG := tG_s 47 (by decide +kernel) (by decide +kernel)
theorem ts48 : Cond.selects RX8 yX8_says yX8_says ∈ tG := tG_s 48 (by decide +kernel) (by decide +kernel)
theorem ts49 : Cond.selects RX8 yX8_mayAsk yX8_mayAsk ∈ tG := tG_s 49 (by decide +kernel) (by decide +kernel)
theorem ts50 : Cond.selects RX8 yX8_saysNo yX8_saysNo ∈ tG := tG_s 50 (by decide +kernel) (by decide +kernel)
theorem ts51 : Cond.selects RX8 yX8_refuses yX8_refuses ∈ tG := tG_s 51 (by decide +kernel) (by decide +kernel)
theorem ts52 : Cond.selects RX8 yX8_wants yX8_wants ∈ tG := tG_s 52 (by decide +kernel) (by decide +kernel)
theorem ts53 : Cond.selects RX8 yX8_answers yX8_answers ∈ tG := tG_s 53 (by decide +kernel) (by decide +kernel)
theorem ts54 : Cond.selects RX8 yX8_lets yX8_lets ∈ tG := tG_s 54 (by decide +kernel) (by decide +kernel)
theorem ts55 : Cond.selects RX8 yX8_goes yX8_goes ∈ tG := tG_s 55 (by decide +kernel) (by decide +kernel)
theorem ts56 : Cond.selects RX8 yX8_gathers yX8_gathers ∈ tG := tG_s 56 (by decide +kernel) (by decide +kernel)
theorem ts57 : Cond.selects RX8 yX8_pairs yX8_pairs ∈ tG := tG_s 57 (by decide +kernel) (by decide +kernel)
theorem ts58 : Cond.selects RX8 yX8_isLawful yX8_isLawful ∈ tG := tG_s 58 (by decide +kernel) (by decide +kernel)
theorem ts59 : Cond.selects RX8 yX8_isSteady yX8_isSteady ∈ tG := tG_s 59 (by decide +kernel) (by decide +kernel)
theorem ts60 : Cond.selects RX8 yX8_manOf yX8_manOf ∈ tG := tG_s 60 (by decide +kernel) (by decide +kernel)
theorem ts61 : Cond.selects RX8 yX8_laysAside yX8_laysAside ∈ tG := tG_s 61 (by decide +kernel) (by decide +kernel)
theorem ts62 : Cond.selects RX8 yX8_laysBack yX8_laysBack ∈ tG := tG_s 62 (by decide +kernel) (by decide +kernel)
end
section
/-! THE WORLDS of the class and of the reference, by one layout: a cell is (kind, number); its content is a row of ints (an object's int fields by their places, or an array's items); references never change but Town.rule, which is kept by the rule's number. -/
abbrev St : Type := (Nat → Nat → Nat → Int32) × Int64
def sa (S : St) (kd i : Nat) (f : Nat → Int32) : St := (fun a b => if a = kd ∧ b = i then f else S.1 a b, S.2)
abbrev su (S : St) (kd i j : Nat) (v : Int32) : St := sa S kd i (upd (S.1 kd i) j v)
def sl (S : St) (v : Int64) : St := (S.1, v)
theorem sa_eq (S : St) (kd i : Nat) (f : Nat → Int32) : (sa S kd i f).1 kd i = f := by simp [sa]
theorem sa_ne {S : St} {kd i kd2 i2 : Nat} {f : Nat → Int32} (h : ¬ (kd2 = kd ∧ i2 = i)) : (sa S kd i f).1 kd2 i2 = S.1 kd2 i2 := by simp [sa, h]
theorem sa_2 (S : St) (kd i : Nat) (f : Nat → Int32) : (sa S kd i f).2 = S.2 := rfl
def sw (S : St) (kd i : Nat) : Int64 := if kd = 40 ∧ i = 0 then S.2 else 0
def clX : List vw_C := [(RX1, TX1, 7), (RX2, TX2, 10), (RX3, TX3, 4), (RX4, TX4, 3), (RX5, TX5, 13), (RX6, TX6, 5), (RX7, TX7, 10), (RX8, TX8, 58)]
def tyX (cs : Nat → ClassId) : List (ClassId × FieldType) := [(cs 0, .int), (cs 1, .boolean), (cs 2, .object RX3), (cs 3, .object RX4)]
def lay (ad : Nat → Nat → Nat) (cs : Nat → ClassId) (kd i : Nat) (c : Nat → Int32) (w : Int64) : va_E := match kd with
  | 0 => .inr (6, [.ref (ad 1 0), .ref (ad 5 0), .int (c 2), .ref (ad 10 0), .ref (ad 10 1), .ref (ad 10 2), .int (c 6), .ref (ad 18 0), .ref (ad 26 0), .ref (ad 29 0)])
  | 1 => .inr (1, [.ref (ad 2 i), .ref (ad 3 i), .int (c 2), .ref (ad 4 i), .int (c 4), .int (c 5), .int (c 6), .int (c 7), .int (c 8), .int (c 9)])
  | 2 => .inl (cs 0, 160, .inl c)
  | 3 => .inl (cs 0, 3, .inl c)
  | 4 => .inl (cs 0, 160, .inl c)
  | 5 => .inl (cs 2, 6, .inr (.inr (.inr (.inr (fun j => some (ad 6 j))))))
  | 6 => .inr (2, [.int (nI i), .ref (ad 7 i), .ref (ad 8 i), .ref (ad 9 i)])
  | 7 => .inl (cs 0, 160, .inl c)
  | 8 => .inl (cs 0, 3, .inl c)
  | 9 => .inl (cs 0, 160, .inl c)
  | 10 => .inr (4, [.int (c 0), .int (c 1), .int (c 2), .ref (ad 6 (c 3).toNatClampNeg), .int (c 4), .int (c 5), .ref (ad 11 i), .ref (ad 12 i), .ref (ad 13 i), .ref (ad 14 i), .ref (ad 15 i), .ref (ad 16 i), .ref (ad 17 i)])
  | 11 => .inl (cs 0, 4, .inl c)
  | 12 => .inl (cs 0, 4, .inl c)
  | 13 => .inl (cs 0, 4, .inl c)
  | 14 => .inl (cs 0, 4, .inl c)
  | 15 => .inl (cs 0, 16, .inl c)
  | 16 => .inl (cs 0, 16, .inl c)
  | 17 => .inl (cs 0, 7, .inl c)
  | 18 => .inr (0, [.ref (ad 19 i), .ref (ad 20 i), .ref (ad 21 i), .ref (ad 22 i), .ref (ad 23 i), .ref (ad 24 i), .ref (ad 25 i)])
  | 19 => .inl (cs 0, 2, .inl c)
  | 20 => .inl (cs 0, 2, .inl c)
  | 21 => .inl (cs 0, 8, .inl c)
  | 22 => .inl (cs 1, 16, .inl c)
  | 23 => .inl (cs 0, 16, .inl c)
  | 24 => .inl (cs 0, 4, .inl c)
  | 25 => .inl (cs 0, 4, .inl c)
  | 26 => .inr (5, [.ref (ad 27 i), .int (c 1), .int (c 2), .int (c 3), .ref (ad 28 i)])
  | 27 => .inl (cs 0, 4, .inl c)
  | 28 => .inl (cs 0, 4, .inl c)
  | 29 => .inl (cs 3, 4, .inr (.inr (.inr (.inr (fun j => some (ad 30 j))))))
  | 30 => .inr (3, [.int (c 0), .int (c 1), .ref (ad 31 i)])
  | 31 => .inl (cs 0, 40, .inl c)
  | 40 => .inr (7, [.int (c 0), .ref (ad 41 i), .ref (ad 42 i), .int (c 3), .int (c 4), .ref (ad 43 i), .int (c 6), .int (c 7), .int (c 8), .ref (ad 44 i), .ref (ad 45 i), .ref (ad 46 i), .ref (ad 47 i), .ref (ad 48 i), .ref (ad 49 i), .ref (ad 50 i), .int (c 16), .int (c 17), .int (c 18), .int (c 19), .int (c 20), .int (c 21), .int (c 22), .int (c 23), .int (c 24), .int (c 25), .int (c 26), .int (c 27), .long w, .int (c 29), .int (c 30), .int (c 31), .ref (ad 51 i), .ref (ad 52 i), .ref (ad 53 i), .int (c 35), .ref (ad 54 i), .ref (ad 55 i), .int (c 38), .int (c 39), .ref (ad 56 i), .ref (ad 57 i), .int (c 42), .int (c 43), .ref (ad 58 i), .ref (ad 59 i), .ref (ad 60 i), .ref (ad 61 i), .ref (ad 62 i), .ref (ad 63 i), .int (c 50), .int (c 51), .int (c 52), .int (c 53), .ref (ad 64 i), .ref (ad 65 i), .ref (ad 66 i), .ref (ad 67 i)])
  | 41 => .inl (cs 0, 960, .inl c)
  | 42 => .inl (cs 0, 6, .inl c)
  | 43 => .inl (cs 0, 160, .inl c)
  | 44 => .inl (cs 0, 16, .inl c)
  | 45 => .inl (cs 0, 16, .inl c)
  | 46 => .inl (cs 0, 4, .inl c)
  | 47 => .inl (cs 0, 4, .inl c)
  | 48 => .inl (cs 0, 4, .inl c)
  | 49 => .inl (cs 0, 4, .inl c)
  | 50 => .inl (cs 0, 4, .inl c)
  | 51 => .inl (cs 0, 4, .inl c)
  | 52 => .inl (cs 0, 4, .inl c)
  | 53 => .inl (cs 0, 4, .inl c)
  | 54 => .inl (cs 0, 4, .inl c)
  | 55 => .inl (cs 0, 4, .inl c)
  | 56 => .inl (cs 0, 4, .inl c)
  | 57 => .inl (cs 0, 4, .inl c)
  | 58 => .inl (cs 1, 16, .inl c)
  | 59 => .inl (cs 0, 16, .inl c)
  | 60 => .inl (cs 0, 16, .inl c)
  | 61 => .inl (cs 0, 16, .inl c)
  | 62 => .inl (cs 0, 16, .inl c)
  | 63 => .inl (cs 0, 16, .inl c)
  | 64 => .inl (cs 1, 4, .inl c)
  | 65 => .inl (cs 0, 4, .inl c)
  | 66 => .inl (cs 0, 4, .inl c)
  | 67 => .inl (cs 0, 160, .inl c)
  | _ => .inl (cs 0, 0, .inl c)
def cnA (kd : Nat) : Nat := match kd with
  | 0 => 1
  | 1 => 1
  | 2 => 1
  | 3 => 1
  | 4 => 1
  | 5 => 1
  | 6 => 6
  | 7 => 6
  | 8 => 6
  | 9 => 6
  | 10 => 3
  | 11 => 3
  | 12 => 3
  | 13 => 3
  | 14 => 3
  | 15 => 3
  | 16 => 3
  | 17 => 3
  | 18 => 1
  | 19 => 1
  | 20 => 1
  | 21 => 1
  | 22 => 1
  | 23 => 1
  | 24 => 1
  | 25 => 1
  | 26 => 1
  | 27 => 1
  | 28 => 1
  | 29 => 1
  | 30 => 4
  | 31 => 4
  | _ => 0
def cnB (kd : Nat) : Nat := match kd with
  | 1 => 1
  | 2 => 1
  | 3 => 1
  | 4 => 1
  | 6 => 6
  | 7 => 6
  | 8 => 6
  | 9 => 6
  | _ => 0
def cnM (kd : Nat) : Nat := if 40 ≤ kd ∧ kd ≤ 67 then 1 else 0
def cn0 (_ : Nat) : Nat := 0
theorem cnBA (kd : Nat) : cnB kd ≤ cnA kd := by
  by_cases h : kd < 32
  · revert h; revert kd; decide
  · have h2 : cnB kd = 0 := by unfold cnB; split <;> first | rfl | omega
    omega
theorem ly_2 {ad : Nat → Nat → Nat} {cs : Nat → ClassId} {i : Nat} (c : Nat → Int32) (w : Int64) : lay ad cs 2 i c w = .inl (cs 0, 160, .inl c) := rfl
theorem ly_3 {ad : Nat → Nat → Nat} {cs : Nat → ClassId} {i : Nat} (c : Nat → Int32) (w : Int64) : lay ad cs 3 i c w = .inl (cs 0, 3, .inl c) := rfl
theorem ly_4 {ad : Nat → Nat → Nat} {cs : Nat → ClassId} {i : Nat} (c : Nat → Int32) (w : Int64) : lay ad cs 4 i c w = .inl (cs 0, 160, .inl c) := rfl
theorem ly_7 {ad : Nat → Nat → Nat} {cs : Nat → ClassId} {i : Nat} (c : Nat → Int32) (w : Int64) : lay ad cs 7 i c w = .inl (cs 0, 160, .inl c) := rfl
theorem ly_8 {ad : Nat → Nat → Nat} {cs : Nat → ClassId} {i : Nat} (c : Nat → Int32) (w : Int64) : lay ad cs 8 i c w = .inl (cs 0, 3, .inl c) := rfl
theorem ly_9 {ad : Nat → Nat → Nat} {cs : Nat → ClassId} {i : Nat} (c : Nat → Int32) (w : Int64) : lay ad cs 9 i c w = .inl (cs 0, 160, .inl c) := rfl
theorem ly_11 {ad : Nat → Nat → Nat} {cs : Nat → ClassId} {i : Nat} (c : Nat → Int32) (w : Int64) : lay ad cs 11 i c w = .inl (cs 0, 4, .inl c) := rfl
theorem ly_12 {ad : Nat → Nat → Nat} {cs : Nat → ClassId} {i : Nat} (c : Nat → Int32) (w : Int64) : lay ad cs 12 i c w = .inl (cs 0, 4, .inl c) := rfl
theorem ly_13 {ad : Nat → Nat → Nat} {cs : Nat → ClassId} {i : Nat} (c : Nat → Int32) (w : Int64) : lay ad cs 13 i c w = .inl (cs 0, 4, .inl c) := rfl
theorem ly_14 {ad : Nat → Nat → Nat} {cs : Nat → ClassId} {i : Nat} (c : Nat → Int32) (w : Int64) : lay ad cs 14 i c w = .inl (cs 0, 4, .inl c) := rfl
theorem ly_15 {ad : Nat → Nat → Nat} {cs : Nat → ClassId} {i : Nat} (c : Nat → Int32) (w : Int64) : lay ad cs 15 i c w = .inl (cs 0, 16, .inl c) := rfl
theorem ly_16 {ad : Nat → Nat → Nat} {cs : Nat → ClassId} {i : Nat} (c : Nat → Int32) (w : Int64) : lay ad cs 16 i c w = .inl (cs 0, 16, .inl c) := rfl
theorem ly_17 {ad : Nat → Nat → Nat} {cs : Nat → ClassId} {i : Nat} (c : Nat → Int32) (w : Int64) : lay ad cs 17 i c w = .inl (cs 0, 7, .inl c) := rfl
theorem ly_19 {ad : Nat → Nat → Nat} {cs : Nat → ClassId} {i : Nat} (c : Nat → Int32) (w : Int64) : lay ad cs 19 i c w = .inl (cs 0, 2, .inl c) := rfl
theorem ly_20 {ad : Nat → Nat → Nat} {cs : Nat → ClassId} {i : Nat} (c : Nat → Int32) (w : Int64) : lay ad cs 20 i c w = .inl (cs 0, 2, .inl c) := rfl
theorem ly_21 {ad : Nat → Nat → Nat} {cs : Nat → ClassId} {i : Nat} (c : Nat → Int32) (w : Int64) : lay ad cs 21 i c w = .inl (cs 0, 8, .inl c) := rfl
theorem ly_22 {ad : Nat → Nat → Nat} {cs : Nat → ClassId} {i : Nat} (c : Nat → Int32) (w : Int64) : lay ad cs 22 i c w = .inl (cs 1, 16, .inl c) := rfl
theorem ly_23 {ad : Nat → Nat → Nat} {cs : Nat → ClassId} {i : Nat} (c : Nat → Int32) (w : Int64) : lay ad cs 23 i c w = .inl (cs 0, 16, .inl c) := rfl
theorem ly_24 {ad : Nat → Nat → Nat} {cs : Nat → ClassId} {i : Nat} (c : Nat → Int32) (w : Int64) : lay ad cs 24 i c w = .inl (cs 0, 4, .inl c) := rfl
theorem ly_25 {ad : Nat → Nat → Nat} {cs : Nat → ClassId} {i : Nat} (c : Nat → Int32) (w : Int64) : lay ad cs 25 i c w = .inl (cs 0, 4, .inl c) := rfl
theorem ly_27 {ad : Nat → Nat → Nat} {cs : Nat → ClassId} {i : Nat} (c : Nat → Int32) (w : Int64) : lay ad cs 27 i c w = .inl (cs 0, 4, .inl c) := rfl
theorem ly_28 {ad : Nat → Nat → Nat} {cs : Nat → ClassId} {i : Nat} (c : Nat → Int32) (w : Int64) : lay ad cs 28 i c w = .inl (cs 0, 4, .inl c) := rfl
theorem ly_31 {ad : Nat → Nat → Nat} {cs : Nat → ClassId} {i : Nat} (c : Nat → Int32) (w : Int64) : lay ad cs 31 i c w = .inl (cs 0, 40, .inl c) := rfl
theorem ly_41 {ad : Nat → Nat → Nat} {cs : Nat → ClassId} {i : Nat} (c : Nat → Int32) (w : Int64) : lay ad cs 41 i c w = .inl (cs 0, 960, .inl c) := rfl
theorem ly_42 {ad : Nat → Nat → Nat} {cs : Nat → ClassId} {i : Nat} (c : Nat → Int32) (w : Int64) : lay ad cs 42 i c w = .inl (cs 0, 6, .inl c) := rfl
theorem ly_43 {ad : Nat → Nat → Nat} {cs : Nat → ClassId} {i : Nat} (c : Nat → Int32) (w : Int64) : lay ad cs 43 i c w = .inl (cs 0, 160, .inl c) := rfl
theorem ly_44 {ad : Nat → Nat → Nat} {cs : Nat → ClassId} {i : Nat} (c : Nat → Int32) (w : Int64) : lay ad cs 44 i c w = .inl (cs 0, 16, .inl c) := rfl
theorem ly_45 {ad : Nat → Nat → Nat} {cs : Nat → ClassId} {i : Nat} (c : Nat → Int32) (w : Int64) : lay ad cs 45 i c w = .inl (cs 0, 16, .inl c) := rfl
theorem ly_46 {ad : Nat → Nat → Nat} {cs : Nat → ClassId} {i : Nat} (c : Nat → Int32) (w : Int64) : lay ad cs 46 i c w = .inl (cs 0, 4, .inl c) := rfl
theorem ly_47 {ad : Nat → Nat → Nat} {cs : Nat → ClassId} {i : Nat} (c : Nat → Int32) (w : Int64) : lay ad cs 47 i c w = .inl (cs 0, 4, .inl c) := rfl
theorem ly_48 {ad : Nat → Nat → Nat} {cs : Nat → ClassId} {i : Nat} (c : Nat → Int32) (w : Int64) : lay ad cs 48 i c w = .inl (cs 0, 4, .inl c) := rfl
theorem ly_49 {ad : Nat → Nat → Nat} {cs : Nat → ClassId} {i : Nat} (c : Nat → Int32) (w : Int64) : lay ad cs 49 i c w = .inl (cs 0, 4, .inl c) := rfl
theorem ly_50 {ad : Nat → Nat → Nat} {cs : Nat → ClassId} {i : Nat} (c : Nat → Int32) (w : Int64) : lay ad cs 50 i c w = .inl (cs 0, 4, .inl c) := rfl
theorem ly_51 {ad : Nat → Nat → Nat} {cs : Nat → ClassId} {i : Nat} (c : Nat → Int32) (w : Int64) : lay ad cs 51 i c w = .inl (cs 0, 4, .inl c) := rfl
theorem ly_52 {ad : Nat → Nat → Nat} {cs : Nat → ClassId} {i : Nat} (c : Nat → Int32) (w : Int64) : lay ad cs 52 i c w = .inl (cs 0, 4, .inl c) := rfl
theorem ly_53 {ad : Nat → Nat → Nat} {cs : Nat → ClassId} {i : Nat} (c : Nat → Int32) (w : Int64) : lay ad cs 53 i c w = .inl (cs 0, 4, .inl c) := rfl
theorem ly_54 {ad : Nat → Nat → Nat} {cs : Nat → ClassId} {i : Nat} (c : Nat → Int32) (w : Int64) : lay ad cs 54 i c w = .inl (cs 0, 4, .inl c) := rfl
theorem ly_55 {ad : Nat → Nat → Nat} {cs : Nat → ClassId} {i : Nat} (c : Nat → Int32) (w : Int64) : lay ad cs 55 i c w = .inl (cs 0, 4, .inl c) := rfl
theorem ly_56 {ad : Nat → Nat → Nat} {cs : Nat → ClassId} {i : Nat} (c : Nat → Int32) (w : Int64) : lay ad cs 56 i c w = .inl (cs 0, 4, .inl c) := rfl
theorem ly_57 {ad : Nat → Nat → Nat} {cs : Nat → ClassId} {i : Nat} (c : Nat → Int32) (w : Int64) : lay ad cs 57 i c w = .inl (cs 0, 4, .inl c) := rfl
theorem ly_58 {ad : Nat → Nat → Nat} {cs : Nat → ClassId} {i : Nat} (c : Nat → Int32) (w : Int64) : lay ad cs 58 i c w = .inl (cs 1, 16, .inl c) := rfl
theorem ly_59 {ad : Nat → Nat → Nat} {cs : Nat → ClassId} {i : Nat} (c : Nat → Int32) (w : Int64) : lay ad cs 59 i c w = .inl (cs 0, 16, .inl c) := rfl
theorem ly_60 {ad : Nat → Nat → Nat} {cs : Nat → ClassId} {i : Nat} (c : Nat → Int32) (w : Int64) : lay ad cs 60 i c w = .inl (cs 0, 16, .inl c) := rfl
theorem ly_61 {ad : Nat → Nat → Nat} {cs : Nat → ClassId} {i : Nat} (c : Nat → Int32) (w : Int64) : lay ad cs 61 i c w = .inl (cs 0, 16, .inl c) := rfl
theorem ly_62 {ad : Nat → Nat → Nat} {cs : Nat → ClassId} {i : Nat} (c : Nat → Int32) (w : Int64) : lay ad cs 62 i c w = .inl (cs 0, 16, .inl c) := rfl
theorem ly_63 {ad : Nat → Nat → Nat} {cs : Nat → ClassId} {i : Nat} (c : Nat → Int32) (w : Int64) : lay ad cs 63 i c w = .inl (cs 0, 16, .inl c) := rfl
theorem ly_64 {ad : Nat → Nat → Nat} {cs : Nat → ClassId} {i : Nat} (c : Nat → Int32) (w : Int64) : lay ad cs 64 i c w = .inl (cs 1, 4, .inl c) := rfl
theorem ly_65 {ad : Nat → Nat → Nat} {cs : Nat → ClassId} {i : Nat} (c : Nat → Int32) (w : Int64) : lay ad cs 65 i c w = .inl (cs 0, 4, .inl c) := rfl
theorem ly_66 {ad : Nat → Nat → Nat} {cs : Nat → ClassId} {i : Nat} (c : Nat → Int32) (w : Int64) : lay ad cs 66 i c w = .inl (cs 0, 4, .inl c) := rfl
theorem ly_67 {ad : Nat → Nat → Nat} {cs : Nat → ClassId} {i : Nat} (c : Nat → Int32) (w : Int64) : lay ad cs 67 i c w = .inl (cs 0, 160, .inl c) := rfl
theorem inX1 : ∀ w ∈ u_ws RX1 TX1 7, w ∈ tG := by decide +kernel
theorem inX2 : ∀ w ∈ u_ws RX2 TX2 10, w ∈ tG := by decide +kernel
theorem inX3 : ∀ w ∈ u_ws RX3 TX3 4, w ∈ tG := by decide +kernel
theorem inX4 : ∀ w ∈ u_ws RX4 TX4 3, w ∈ tG := by decide +kernel
theorem inX5 : ∀ w ∈ u_ws RX5 TX5 13, w ∈ tG := by decide +kernel
theorem inX6 : ∀ w ∈ u_ws RX6 TX6 5, w ∈ tG := by decide +kernel
theorem inX7 : ∀ w ∈ u_ws RX7 TX7 10, w ∈ tG := by decide +kernel
theorem inX8 : ∀ w ∈ u_ws RX8 TX8 58, w ∈ tG := by decide +kernel
end
