-- ===== PART A: goes FIRST, ahead of the names: the tables' words, and 'selects' of the private methods out of them =====
/-- a private method of a class that the tables say can be made, by its rows of tables_1 -/
def lw_okq (q : MethodName × Nat) : Prop := (q.1.cls ≠ "java/lang/invoke/MethodHandle" ∧ q.1.cls ≠ "java/lang/invoke/VarHandle") ∧ Cond.instantiable q.1.cls q.2 ∈ tables_1 ∧ Cond.privateMethod q.1 ∈ tables_1 ∧ Cond.instanceMethod q.1 ∈ tables_1
theorem lw_p0 : lw_okq (⟨"HandedSlips", "refuse", "(I)I"⟩, 11) := ⟨⟨by decide +kernel, by decide +kernel⟩, List.mem_of_getElem? (i := 23) (by decide +kernel), List.mem_of_getElem? (i := 289) (by decide +kernel), List.mem_of_getElem? (i := 290) (by decide +kernel)⟩
theorem lw_p1 : lw_okq (⟨"HandedSlips$Reader", "nextToken", "()V"⟩, 7) := ⟨⟨by decide +kernel, by decide +kernel⟩, List.mem_of_getElem? (i := 140) (by decide +kernel), List.mem_of_getElem? (i := 339) (by decide +kernel), List.mem_of_getElem? (i := 340) (by decide +kernel)⟩
theorem lw_p2 : lw_okq (⟨"HandedSlips$Reader", "skip", "(III)I"⟩, 7) := ⟨⟨by decide +kernel, by decide +kernel⟩, List.mem_of_getElem? (i := 140) (by decide +kernel), List.mem_of_getElem? (i := 343) (by decide +kernel), List.mem_of_getElem? (i := 344) (by decide +kernel)⟩
theorem lw_p3 : lw_okq (⟨"HandedSlips$Reader", "itemSpelled", "()I"⟩, 7) := ⟨⟨by decide +kernel, by decide +kernel⟩, List.mem_of_getElem? (i := 140) (by decide +kernel), List.mem_of_getElem? (i := 352) (by decide +kernel), List.mem_of_getElem? (i := 353) (by decide +kernel)⟩
theorem lw_p4 : lw_okq (⟨"HandedSlips$Reader", "numberSpelled", "()I"⟩, 7) := ⟨⟨by decide +kernel, by decide +kernel⟩, List.mem_of_getElem? (i := 140) (by decide +kernel), List.mem_of_getElem? (i := 417) (by decide +kernel), List.mem_of_getElem? (i := 418) (by decide +kernel)⟩
theorem lw_p5 : lw_okq (⟨"HandedSlips$Reader", "readItem", "(Z)Z"⟩, 7) := ⟨⟨by decide +kernel, by decide +kernel⟩, List.mem_of_getElem? (i := 140) (by decide +kernel), List.mem_of_getElem? (i := 421) (by decide +kernel), List.mem_of_getElem? (i := 422) (by decide +kernel)⟩
theorem lw_p6 : lw_okq (⟨"HandedSlips$Reader", "standsAt", "(II)Z"⟩, 7) := ⟨⟨by decide +kernel, by decide +kernel⟩, List.mem_of_getElem? (i := 140) (by decide +kernel), List.mem_of_getElem? (i := 428) (by decide +kernel), List.mem_of_getElem? (i := 429) (by decide +kernel)⟩
theorem lw_p7 : lw_okq (⟨"HandedSlips$Reader", "apply", "(I)V"⟩, 7) := ⟨⟨by decide +kernel, by decide +kernel⟩, List.mem_of_getElem? (i := 140) (by decide +kernel), List.mem_of_getElem? (i := 435) (by decide +kernel), List.mem_of_getElem? (i := 436) (by decide +kernel)⟩
theorem lw_p8 : lw_okq (⟨"HandedSlips$Ropes", "setCell", "(III)V"⟩, 1) := ⟨⟨by decide +kernel, by decide +kernel⟩, List.mem_of_getElem? (i := 37) (by decide +kernel), List.mem_of_getElem? (i := 446) (by decide +kernel), List.mem_of_getElem? (i := 447) (by decide +kernel)⟩
theorem lw_p9 : lw_okq (⟨"HandedSlips", "isRope", "(I)Z"⟩, 11) := ⟨⟨by decide +kernel, by decide +kernel⟩, List.mem_of_getElem? (i := 23) (by decide +kernel), List.mem_of_getElem? (i := 493) (by decide +kernel), List.mem_of_getElem? (i := 494) (by decide +kernel)⟩
theorem lw_p10 : lw_okq (⟨"HandedSlips$Ropes", "cell", "(II)I"⟩, 1) := ⟨⟨by decide +kernel, by decide +kernel⟩, List.mem_of_getElem? (i := 37) (by decide +kernel), List.mem_of_getElem? (i := 502) (by decide +kernel), List.mem_of_getElem? (i := 503) (by decide +kernel)⟩
theorem lw_p11 : lw_okq (⟨"HandedSlips$History", "dropOldest", "()V"⟩, 2) := ⟨⟨by decide +kernel, by decide +kernel⟩, List.mem_of_getElem? (i := 53) (by decide +kernel), List.mem_of_getElem? (i := 510) (by decide +kernel), List.mem_of_getElem? (i := 511) (by decide +kernel)⟩
theorem lw_p12 : lw_okq (⟨"HandedSlips", "ringNow", "()LHandedSlips$Peal;"⟩, 11) := ⟨⟨by decide +kernel, by decide +kernel⟩, List.mem_of_getElem? (i := 23) (by decide +kernel), List.mem_of_getElem? (i := 542) (by decide +kernel), List.mem_of_getElem? (i := 543) (by decide +kernel)⟩
theorem lw_p13 : lw_okq (⟨"HandedSlips$Peal", "numberOf", "([I)I"⟩, 6) := ⟨⟨by decide +kernel, by decide +kernel⟩, List.mem_of_getElem? (i := 179) (by decide +kernel), List.mem_of_getElem? (i := 551) (by decide +kernel), List.mem_of_getElem? (i := 552) (by decide +kernel)⟩
theorem lw_p14 : lw_okq (⟨"HandedSlips$Peal", "swapPairs", "([II)V"⟩, 6) := ⟨⟨by decide +kernel, by decide +kernel⟩, List.mem_of_getElem? (i := 179) (by decide +kernel), List.mem_of_getElem? (i := 556) (by decide +kernel), List.mem_of_getElem? (i := 557) (by decide +kernel)⟩
theorem lw_p15 : lw_okq (⟨"HandedSlips$Peal", "makeSlip", "([III)V"⟩, 6) := ⟨⟨by decide +kernel, by decide +kernel⟩, List.mem_of_getElem? (i := 179) (by decide +kernel), List.mem_of_getElem? (i := 586) (by decide +kernel), List.mem_of_getElem? (i := 587) (by decide +kernel)⟩
def lw_privs_1 : List (MethodName × Nat) := [(⟨"HandedSlips", "refuse", "(I)I"⟩, 11), (⟨"HandedSlips$Reader", "nextToken", "()V"⟩, 7), (⟨"HandedSlips$Reader", "skip", "(III)I"⟩, 7), (⟨"HandedSlips$Reader", "itemSpelled", "()I"⟩, 7), (⟨"HandedSlips$Reader", "numberSpelled", "()I"⟩, 7), (⟨"HandedSlips$Reader", "readItem", "(Z)Z"⟩, 7), (⟨"HandedSlips$Reader", "standsAt", "(II)Z"⟩, 7), (⟨"HandedSlips$Reader", "apply", "(I)V"⟩, 7), (⟨"HandedSlips$Ropes", "setCell", "(III)V"⟩, 1), (⟨"HandedSlips", "isRope", "(I)Z"⟩, 11), (⟨"HandedSlips$Ropes", "cell", "(II)I"⟩, 1), (⟨"HandedSlips$History", "dropOldest", "()V"⟩, 2), (⟨"HandedSlips", "ringNow", "()LHandedSlips$Peal;"⟩, 11), (⟨"HandedSlips$Peal", "numberOf", "([I)I"⟩, 6), (⟨"HandedSlips$Peal", "swapPairs", "([II)V"⟩, 6), (⟨"HandedSlips$Peal", "makeSlip", "([III)V"⟩, 6)]
theorem lw_r1 : ∀ q ∈ lw_privs_1, lw_okq q := List.forall_mem_cons.mpr ⟨lw_p0, List.forall_mem_cons.mpr ⟨lw_p1, List.forall_mem_cons.mpr ⟨lw_p2, List.forall_mem_cons.mpr ⟨lw_p3, List.forall_mem_cons.mpr ⟨lw_p4, List.forall_mem_cons.mpr ⟨lw_p5, List.forall_mem_cons.mpr ⟨lw_p6, List.forall_mem_cons.mpr ⟨lw_p7, List.forall_mem_cons.mpr ⟨lw_p8, List.forall_mem_cons.mpr ⟨lw_p9, List.forall_mem_cons.mpr ⟨lw_p10, List.forall_mem_cons.mpr ⟨lw_p11, List.forall_mem_cons.mpr ⟨lw_p12, List.forall_mem_cons.mpr ⟨lw_p13, List.forall_mem_cons.mpr ⟨lw_p14, List.forall_mem_cons.mpr ⟨lw_p15, fun _ h => absurd h List.not_mem_nil⟩⟩⟩⟩⟩⟩⟩⟩⟩⟩⟩⟩⟩⟩⟩⟩
theorem lw_p16 : lw_okq (⟨"HandedSlips$Peal", "placeOf", "([II)I"⟩, 6) := ⟨⟨by decide +kernel, by decide +kernel⟩, List.mem_of_getElem? (i := 179) (by decide +kernel), List.mem_of_getElem? (i := 590) (by decide +kernel), List.mem_of_getElem? (i := 591) (by decide +kernel)⟩
theorem lw_p17 : lw_okq (⟨"HandedSlips", "ropeFact", "(II)I"⟩, 11) := ⟨⟨by decide +kernel, by decide +kernel⟩, List.mem_of_getElem? (i := 23) (by decide +kernel), List.mem_of_getElem? (i := 627) (by decide +kernel), List.mem_of_getElem? (i := 628) (by decide +kernel)⟩
theorem lw_p18 : lw_okq (⟨"HandedSlips$Ringing", "trialNumber", "()I"⟩, 5) := ⟨⟨by decide +kernel, by decide +kernel⟩, List.mem_of_getElem? (i := 173) (by decide +kernel), List.mem_of_getElem? (i := 686) (by decide +kernel), List.mem_of_getElem? (i := 687) (by decide +kernel)⟩
theorem lw_p19 : lw_okq (⟨"HandedSlips$Ringing", "advanceTrial", "(I)Z"⟩, 5) := ⟨⟨by decide +kernel, by decide +kernel⟩, List.mem_of_getElem? (i := 173) (by decide +kernel), List.mem_of_getElem? (i := 691) (by decide +kernel), List.mem_of_getElem? (i := 692) (by decide +kernel)⟩
theorem lw_p20 : lw_okq (⟨"HandedSlips", "isRow", "(I)Z"⟩, 11) := ⟨⟨by decide +kernel, by decide +kernel⟩, List.mem_of_getElem? (i := 23) (by decide +kernel), List.mem_of_getElem? (i := 713) (by decide +kernel), List.mem_of_getElem? (i := 714) (by decide +kernel)⟩
theorem lw_p21 : lw_okq (⟨"HandedSlips$Evidence", "addSet", "(ILHandedSlips$Peal;)V"⟩, 4) := ⟨⟨by decide +kernel, by decide +kernel⟩, List.mem_of_getElem? (i := 227) (by decide +kernel), List.mem_of_getElem? (i := 745) (by decide +kernel), List.mem_of_getElem? (i := 746) (by decide +kernel)⟩
theorem lw_p22 : lw_okq (⟨"HandedSlips$Evidence", "mostAlike", "(I)I"⟩, 4) := ⟨⟨by decide +kernel, by decide +kernel⟩, List.mem_of_getElem? (i := 227) (by decide +kernel), List.mem_of_getElem? (i := 766) (by decide +kernel), List.mem_of_getElem? (i := 767) (by decide +kernel)⟩
theorem lw_p23 : lw_okq (⟨"HandedSlips$Evidence", "mostComingAlike", "(II)I"⟩, 4) := ⟨⟨by decide +kernel, by decide +kernel⟩, List.mem_of_getElem? (i := 227) (by decide +kernel), List.mem_of_getElem? (i := 800) (by decide +kernel), List.mem_of_getElem? (i := 801) (by decide +kernel)⟩
theorem lw_p24 : lw_okq (⟨"HandedSlips", "imageAt", "(I)LHandedSlips$Tower;"⟩, 11) := ⟨⟨by decide +kernel, by decide +kernel⟩, List.mem_of_getElem? (i := 23) (by decide +kernel), List.mem_of_getElem? (i := 884) (by decide +kernel), List.mem_of_getElem? (i := 885) (by decide +kernel)⟩
theorem lw_p25 : lw_okq (⟨"HandedSlips", "howMany", "(I)I"⟩, 11) := ⟨⟨by decide +kernel, by decide +kernel⟩, List.mem_of_getElem? (i := 23) (by decide +kernel), List.mem_of_getElem? (i := 900) (by decide +kernel), List.mem_of_getElem? (i := 901) (by decide +kernel)⟩
theorem lw_p26 : lw_okq (⟨"HandedSlipsModel", "begin", "(I)V"⟩, 31) := ⟨⟨by decide +kernel, by decide +kernel⟩, List.mem_of_getElem? (i := 918) (by decide +kernel), List.mem_of_getElem? (i := 924) (by decide +kernel), List.mem_of_getElem? (i := 925) (by decide +kernel)⟩
theorem lw_p27 : lw_okq (⟨"HandedSlipsModel", "bad", "()I"⟩, 31) := ⟨⟨by decide +kernel, by decide +kernel⟩, List.mem_of_getElem? (i := 918) (by decide +kernel), List.mem_of_getElem? (i := 1029) (by decide +kernel), List.mem_of_getElem? (i := 1030) (by decide +kernel)⟩
theorem lw_p28 : lw_okq (⟨"HandedSlipsModel", "full", "()I"⟩, 31) := ⟨⟨by decide +kernel, by decide +kernel⟩, List.mem_of_getElem? (i := 918) (by decide +kernel), List.mem_of_getElem? (i := 1041) (by decide +kernel), List.mem_of_getElem? (i := 1042) (by decide +kernel)⟩
theorem lw_p29 : lw_okq (⟨"HandedSlipsModel", "layAll", "([II)V"⟩, 31) := ⟨⟨by decide +kernel, by decide +kernel⟩, List.mem_of_getElem? (i := 918) (by decide +kernel), List.mem_of_getElem? (i := 1053) (by decide +kernel), List.mem_of_getElem? (i := 1054) (by decide +kernel)⟩
theorem lw_p30 : lw_okq (⟨"HandedSlipsModel", "lays", "([II)V"⟩, 31) := ⟨⟨by decide +kernel, by decide +kernel⟩, List.mem_of_getElem? (i := 918) (by decide +kernel), List.mem_of_getElem? (i := 1057) (by decide +kernel), List.mem_of_getElem? (i := 1058) (by decide +kernel)⟩
theorem lw_p31 : lw_okq (⟨"HandedSlipsModel", "readsTower", "()I"⟩, 31) := ⟨⟨by decide +kernel, by decide +kernel⟩, List.mem_of_getElem? (i := 918) (by decide +kernel), List.mem_of_getElem? (i := 1061) (by decide +kernel), List.mem_of_getElem? (i := 1062) (by decide +kernel)⟩
def lw_privs_2 : List (MethodName × Nat) := [(⟨"HandedSlips$Peal", "placeOf", "([II)I"⟩, 6), (⟨"HandedSlips", "ropeFact", "(II)I"⟩, 11), (⟨"HandedSlips$Ringing", "trialNumber", "()I"⟩, 5), (⟨"HandedSlips$Ringing", "advanceTrial", "(I)Z"⟩, 5), (⟨"HandedSlips", "isRow", "(I)Z"⟩, 11), (⟨"HandedSlips$Evidence", "addSet", "(ILHandedSlips$Peal;)V"⟩, 4), (⟨"HandedSlips$Evidence", "mostAlike", "(I)I"⟩, 4), (⟨"HandedSlips$Evidence", "mostComingAlike", "(II)I"⟩, 4), (⟨"HandedSlips", "imageAt", "(I)LHandedSlips$Tower;"⟩, 11), (⟨"HandedSlips", "howMany", "(I)I"⟩, 11), (⟨"HandedSlipsModel", "begin", "(I)V"⟩, 31), (⟨"HandedSlipsModel", "bad", "()I"⟩, 31), (⟨"HandedSlipsModel", "full", "()I"⟩, 31), (⟨"HandedSlipsModel", "layAll", "([II)V"⟩, 31), (⟨"HandedSlipsModel", "lays", "([II)V"⟩, 31), (⟨"HandedSlipsModel", "readsTower", "()I"⟩, 31)]
theorem lw_r2 : ∀ q ∈ lw_privs_2, lw_okq q := List.forall_mem_cons.mpr ⟨lw_p16, List.forall_mem_cons.mpr ⟨lw_p17, List.forall_mem_cons.mpr ⟨lw_p18, List.forall_mem_cons.mpr ⟨lw_p19, List.forall_mem_cons.mpr ⟨lw_p20, List.forall_mem_cons.mpr ⟨lw_p21, List.forall_mem_cons.mpr ⟨lw_p22, List.forall_mem_cons.mpr ⟨lw_p23, List.forall_mem_cons.mpr ⟨lw_p24, List.forall_mem_cons.mpr ⟨lw_p25, List.forall_mem_cons.mpr ⟨lw_p26, List.forall_mem_cons.mpr ⟨lw_p27, List.forall_mem_cons.mpr ⟨lw_p28, List.forall_mem_cons.mpr ⟨lw_p29, List.forall_mem_cons.mpr ⟨lw_p30, List.forall_mem_cons.mpr ⟨lw_p31, fun _ h => absurd h List.not_mem_nil⟩⟩⟩⟩⟩⟩⟩⟩⟩⟩⟩⟩⟩⟩⟩⟩
theorem lw_p32 : lw_okq (⟨"HandedSlipsModel", "readsFirst", "()Z"⟩, 31) := ⟨⟨by decide +kernel, by decide +kernel⟩, List.mem_of_getElem? (i := 918) (by decide +kernel), List.mem_of_getElem? (i := 1065) (by decide +kernel), List.mem_of_getElem? (i := 1066) (by decide +kernel)⟩
theorem lw_p33 : lw_okq (⟨"HandedSlipsModel", "skip", "()V"⟩, 31) := ⟨⟨by decide +kernel, by decide +kernel⟩, List.mem_of_getElem? (i := 918) (by decide +kernel), List.mem_of_getElem? (i := 1069) (by decide +kernel), List.mem_of_getElem? (i := 1070) (by decide +kernel)⟩
theorem lw_p34 : lw_okq (⟨"HandedSlipsModel", "here", "()I"⟩, 31) := ⟨⟨by decide +kernel, by decide +kernel⟩, List.mem_of_getElem? (i := 918) (by decide +kernel), List.mem_of_getElem? (i := 1073) (by decide +kernel), List.mem_of_getElem? (i := 1074) (by decide +kernel)⟩
theorem lw_p35 : lw_okq (⟨"HandedSlipsModel", "wordHere", "()I"⟩, 31) := ⟨⟨by decide +kernel, by decide +kernel⟩, List.mem_of_getElem? (i := 918) (by decide +kernel), List.mem_of_getElem? (i := 1077) (by decide +kernel), List.mem_of_getElem? (i := 1078) (by decide +kernel)⟩
theorem lw_p36 : lw_okq (⟨"HandedSlipsModel", "wordSize", "()I"⟩, 31) := ⟨⟨by decide +kernel, by decide +kernel⟩, List.mem_of_getElem? (i := 918) (by decide +kernel), List.mem_of_getElem? (i := 1081) (by decide +kernel), List.mem_of_getElem? (i := 1082) (by decide +kernel)⟩
theorem lw_p37 : lw_okq (⟨"HandedSlipsModel", "letter", "(I)I"⟩, 31) := ⟨⟨by decide +kernel, by decide +kernel⟩, List.mem_of_getElem? (i := 918) (by decide +kernel), List.mem_of_getElem? (i := 1088) (by decide +kernel), List.mem_of_getElem? (i := 1089) (by decide +kernel)⟩
theorem lw_p38 : lw_okq (⟨"HandedSlipsModel", "number", "(II)Z"⟩, 31) := ⟨⟨by decide +kernel, by decide +kernel⟩, List.mem_of_getElem? (i := 918) (by decide +kernel), List.mem_of_getElem? (i := 1092) (by decide +kernel), List.mem_of_getElem? (i := 1093) (by decide +kernel)⟩
theorem lw_p39 : lw_okq (⟨"HandedSlipsModel", "ends", "()Z"⟩, 31) := ⟨⟨by decide +kernel, by decide +kernel⟩, List.mem_of_getElem? (i := 918) (by decide +kernel), List.mem_of_getElem? (i := 1099) (by decide +kernel), List.mem_of_getElem? (i := 1100) (by decide +kernel)⟩
theorem lw_p40 : lw_okq (⟨"HandedSlipsModel", "readsItem", "()Z"⟩, 31) := ⟨⟨by decide +kernel, by decide +kernel⟩, List.mem_of_getElem? (i := 918) (by decide +kernel), List.mem_of_getElem? (i := 1103) (by decide +kernel), List.mem_of_getElem? (i := 1104) (by decide +kernel)⟩
theorem lw_p41 : lw_okq (⟨"HandedSlipsModel", "readsMethod", "()Z"⟩, 31) := ⟨⟨by decide +kernel, by decide +kernel⟩, List.mem_of_getElem? (i := 918) (by decide +kernel), List.mem_of_getElem? (i := 1107) (by decide +kernel), List.mem_of_getElem? (i := 1108) (by decide +kernel)⟩
theorem lw_p42 : lw_okq (⟨"HandedSlipsModel", "readsSlip", "()Z"⟩, 31) := ⟨⟨by decide +kernel, by decide +kernel⟩, List.mem_of_getElem? (i := 918) (by decide +kernel), List.mem_of_getElem? (i := 1111) (by decide +kernel), List.mem_of_getElem? (i := 1112) (by decide +kernel)⟩
theorem lw_p43 : lw_okq (⟨"HandedSlipsModel", "readsRinger", "()Z"⟩, 31) := ⟨⟨by decide +kernel, by decide +kernel⟩, List.mem_of_getElem? (i := 918) (by decide +kernel), List.mem_of_getElem? (i := 1115) (by decide +kernel), List.mem_of_getElem? (i := 1116) (by decide +kernel)⟩
theorem lw_p44 : lw_okq (⟨"HandedSlipsModel", "readsYears", "()Z"⟩, 31) := ⟨⟨by decide +kernel, by decide +kernel⟩, List.mem_of_getElem? (i := 918) (by decide +kernel), List.mem_of_getElem? (i := 1119) (by decide +kernel), List.mem_of_getElem? (i := 1120) (by decide +kernel)⟩
theorem lw_p45 : lw_okq (⟨"HandedSlipsModel", "passes", "()V"⟩, 31) := ⟨⟨by decide +kernel, by decide +kernel⟩, List.mem_of_getElem? (i := 918) (by decide +kernel), List.mem_of_getElem? (i := 1123) (by decide +kernel), List.mem_of_getElem? (i := 1124) (by decide +kernel)⟩
theorem lw_p46 : lw_okq (⟨"HandedSlipsModel", "takeAll", "([II)V"⟩, 31) := ⟨⟨by decide +kernel, by decide +kernel⟩, List.mem_of_getElem? (i := 918) (by decide +kernel), List.mem_of_getElem? (i := 1130) (by decide +kernel), List.mem_of_getElem? (i := 1131) (by decide +kernel)⟩
theorem lw_p47 : lw_okq (⟨"HandedSlipsModel", "takes", "([II)V"⟩, 31) := ⟨⟨by decide +kernel, by decide +kernel⟩, List.mem_of_getElem? (i := 918) (by decide +kernel), List.mem_of_getElem? (i := 1134) (by decide +kernel), List.mem_of_getElem? (i := 1135) (by decide +kernel)⟩
def lw_privs_3 : List (MethodName × Nat) := [(⟨"HandedSlipsModel", "readsFirst", "()Z"⟩, 31), (⟨"HandedSlipsModel", "skip", "()V"⟩, 31), (⟨"HandedSlipsModel", "here", "()I"⟩, 31), (⟨"HandedSlipsModel", "wordHere", "()I"⟩, 31), (⟨"HandedSlipsModel", "wordSize", "()I"⟩, 31), (⟨"HandedSlipsModel", "letter", "(I)I"⟩, 31), (⟨"HandedSlipsModel", "number", "(II)Z"⟩, 31), (⟨"HandedSlipsModel", "ends", "()Z"⟩, 31), (⟨"HandedSlipsModel", "readsItem", "()Z"⟩, 31), (⟨"HandedSlipsModel", "readsMethod", "()Z"⟩, 31), (⟨"HandedSlipsModel", "readsSlip", "()Z"⟩, 31), (⟨"HandedSlipsModel", "readsRinger", "()Z"⟩, 31), (⟨"HandedSlipsModel", "readsYears", "()Z"⟩, 31), (⟨"HandedSlipsModel", "passes", "()V"⟩, 31), (⟨"HandedSlipsModel", "takeAll", "([II)V"⟩, 31), (⟨"HandedSlipsModel", "takes", "([II)V"⟩, 31)]
theorem lw_r3 : ∀ q ∈ lw_privs_3, lw_okq q := List.forall_mem_cons.mpr ⟨lw_p32, List.forall_mem_cons.mpr ⟨lw_p33, List.forall_mem_cons.mpr ⟨lw_p34, List.forall_mem_cons.mpr ⟨lw_p35, List.forall_mem_cons.mpr ⟨lw_p36, List.forall_mem_cons.mpr ⟨lw_p37, List.forall_mem_cons.mpr ⟨lw_p38, List.forall_mem_cons.mpr ⟨lw_p39, List.forall_mem_cons.mpr ⟨lw_p40, List.forall_mem_cons.mpr ⟨lw_p41, List.forall_mem_cons.mpr ⟨lw_p42, List.forall_mem_cons.mpr ⟨lw_p43, List.forall_mem_cons.mpr ⟨lw_p44, List.forall_mem_cons.mpr ⟨lw_p45, List.forall_mem_cons.mpr ⟨lw_p46, List.forall_mem_cons.mpr ⟨lw_p47, fun _ h => absurd h List.not_mem_nil⟩⟩⟩⟩⟩⟩⟩⟩⟩⟩⟩⟩⟩⟩⟩⟩
theorem lw_p48 : lw_okq (⟨"HandedSlipsModel", "isRope", "(I)Z"⟩, 31) := ⟨⟨by decide +kernel, by decide +kernel⟩, List.mem_of_getElem? (i := 918) (by decide +kernel), List.mem_of_getElem? (i := 1142) (by decide +kernel), List.mem_of_getElem? (i := 1143) (by decide +kernel)⟩
theorem lw_p49 : lw_okq (⟨"HandedSlipsModel", "notes", "()V"⟩, 31) := ⟨⟨by decide +kernel, by decide +kernel⟩, List.mem_of_getElem? (i := 918) (by decide +kernel), List.mem_of_getElem? (i := 1146) (by decide +kernel), List.mem_of_getElem? (i := 1147) (by decide +kernel)⟩
theorem lw_p50 : lw_okq (⟨"HandedSlipsModel", "no", "()I"⟩, 31) := ⟨⟨by decide +kernel, by decide +kernel⟩, List.mem_of_getElem? (i := 918) (by decide +kernel), List.mem_of_getElem? (i := 1154) (by decide +kernel), List.mem_of_getElem? (i := 1155) (by decide +kernel)⟩
theorem lw_p51 : lw_okq (⟨"HandedSlipsModel", "made", "()I"⟩, 31) := ⟨⟨by decide +kernel, by decide +kernel⟩, List.mem_of_getElem? (i := 918) (by decide +kernel), List.mem_of_getElem? (i := 1166) (by decide +kernel), List.mem_of_getElem? (i := 1167) (by decide +kernel)⟩
theorem lw_p52 : lw_okq (⟨"HandedSlipsModel", "isTrue", "(I)Z"⟩, 31) := ⟨⟨by decide +kernel, by decide +kernel⟩, List.mem_of_getElem? (i := 918) (by decide +kernel), List.mem_of_getElem? (i := 1173) (by decide +kernel), List.mem_of_getElem? (i := 1174) (by decide +kernel)⟩
theorem lw_p53 : lw_okq (⟨"HandedSlipsModel", "setRungs", "(I)V"⟩, 31) := ⟨⟨by decide +kernel, by decide +kernel⟩, List.mem_of_getElem? (i := 918) (by decide +kernel), List.mem_of_getElem? (i := 1177) (by decide +kernel), List.mem_of_getElem? (i := 1178) (by decide +kernel)⟩
theorem lw_p54 : lw_okq (⟨"HandedSlipsModel", "rung", "(II)I"⟩, 31) := ⟨⟨by decide +kernel, by decide +kernel⟩, List.mem_of_getElem? (i := 918) (by decide +kernel), List.mem_of_getElem? (i := 1181) (by decide +kernel), List.mem_of_getElem? (i := 1182) (by decide +kernel)⟩
theorem lw_p55 : lw_okq (⟨"HandedSlipsModel", "setRung", "(II)V"⟩, 31) := ⟨⟨by decide +kernel, by decide +kernel⟩, List.mem_of_getElem? (i := 918) (by decide +kernel), List.mem_of_getElem? (i := 1185) (by decide +kernel), List.mem_of_getElem? (i := 1186) (by decide +kernel)⟩
theorem lw_p56 : lw_okq (⟨"HandedSlipsModel", "setMeant", "(I)V"⟩, 31) := ⟨⟨by decide +kernel, by decide +kernel⟩, List.mem_of_getElem? (i := 918) (by decide +kernel), List.mem_of_getElem? (i := 1189) (by decide +kernel), List.mem_of_getElem? (i := 1190) (by decide +kernel)⟩
theorem lw_p57 : lw_okq (⟨"HandedSlipsModel", "swaps", "(I)V"⟩, 31) := ⟨⟨by decide +kernel, by decide +kernel⟩, List.mem_of_getElem? (i := 918) (by decide +kernel), List.mem_of_getElem? (i := 1193) (by decide +kernel), List.mem_of_getElem? (i := 1194) (by decide +kernel)⟩
theorem lw_p58 : lw_okq (⟨"HandedSlipsModel", "slides", "(II)V"⟩, 31) := ⟨⟨by decide +kernel, by decide +kernel⟩, List.mem_of_getElem? (i := 918) (by decide +kernel), List.mem_of_getElem? (i := 1200) (by decide +kernel), List.mem_of_getElem? (i := 1201) (by decide +kernel)⟩
theorem lw_p59 : lw_okq (⟨"HandedSlipsModel", "told", "()I"⟩, 31) := ⟨⟨by decide +kernel, by decide +kernel⟩, List.mem_of_getElem? (i := 918) (by decide +kernel), List.mem_of_getElem? (i := 1210) (by decide +kernel), List.mem_of_getElem? (i := 1211) (by decide +kernel)⟩
theorem lw_p60 : lw_okq (⟨"HandedSlipsModel", "earlier", "(I)I"⟩, 31) := ⟨⟨by decide +kernel, by decide +kernel⟩, List.mem_of_getElem? (i := 918) (by decide +kernel), List.mem_of_getElem? (i := 1214) (by decide +kernel), List.mem_of_getElem? (i := 1215) (by decide +kernel)⟩
theorem lw_p61 : lw_okq (⟨"HandedSlipsModel", "ropeTells", "(II)I"⟩, 31) := ⟨⟨by decide +kernel, by decide +kernel⟩, List.mem_of_getElem? (i := 918) (by decide +kernel), List.mem_of_getElem? (i := 1226) (by decide +kernel), List.mem_of_getElem? (i := 1227) (by decide +kernel)⟩
theorem lw_p62 : lw_okq (⟨"HandedSlipsModel", "meant", "(I)I"⟩, 31) := ⟨⟨by decide +kernel, by decide +kernel⟩, List.mem_of_getElem? (i := 918) (by decide +kernel), List.mem_of_getElem? (i := 1234) (by decide +kernel), List.mem_of_getElem? (i := 1235) (by decide +kernel)⟩
theorem lw_p63 : lw_okq (⟨"HandedSlipsModel", "areBells", "(I)Z"⟩, 31) := ⟨⟨by decide +kernel, by decide +kernel⟩, List.mem_of_getElem? (i := 918) (by decide +kernel), List.mem_of_getElem? (i := 1270) (by decide +kernel), List.mem_of_getElem? (i := 1271) (by decide +kernel)⟩
def lw_privs_4 : List (MethodName × Nat) := [(⟨"HandedSlipsModel", "isRope", "(I)Z"⟩, 31), (⟨"HandedSlipsModel", "notes", "()V"⟩, 31), (⟨"HandedSlipsModel", "no", "()I"⟩, 31), (⟨"HandedSlipsModel", "made", "()I"⟩, 31), (⟨"HandedSlipsModel", "isTrue", "(I)Z"⟩, 31), (⟨"HandedSlipsModel", "setRungs", "(I)V"⟩, 31), (⟨"HandedSlipsModel", "rung", "(II)I"⟩, 31), (⟨"HandedSlipsModel", "setRung", "(II)V"⟩, 31), (⟨"HandedSlipsModel", "setMeant", "(I)V"⟩, 31), (⟨"HandedSlipsModel", "swaps", "(I)V"⟩, 31), (⟨"HandedSlipsModel", "slides", "(II)V"⟩, 31), (⟨"HandedSlipsModel", "told", "()I"⟩, 31), (⟨"HandedSlipsModel", "earlier", "(I)I"⟩, 31), (⟨"HandedSlipsModel", "ropeTells", "(II)I"⟩, 31), (⟨"HandedSlipsModel", "meant", "(I)I"⟩, 31), (⟨"HandedSlipsModel", "areBells", "(I)Z"⟩, 31)]
theorem lw_r4 : ∀ q ∈ lw_privs_4, lw_okq q := List.forall_mem_cons.mpr ⟨lw_p48, List.forall_mem_cons.mpr ⟨lw_p49, List.forall_mem_cons.mpr ⟨lw_p50, List.forall_mem_cons.mpr ⟨lw_p51, List.forall_mem_cons.mpr ⟨lw_p52, List.forall_mem_cons.mpr ⟨lw_p53, List.forall_mem_cons.mpr ⟨lw_p54, List.forall_mem_cons.mpr ⟨lw_p55, List.forall_mem_cons.mpr ⟨lw_p56, List.forall_mem_cons.mpr ⟨lw_p57, List.forall_mem_cons.mpr ⟨lw_p58, List.forall_mem_cons.mpr ⟨lw_p59, List.forall_mem_cons.mpr ⟨lw_p60, List.forall_mem_cons.mpr ⟨lw_p61, List.forall_mem_cons.mpr ⟨lw_p62, List.forall_mem_cons.mpr ⟨lw_p63, fun _ h => absurd h List.not_mem_nil⟩⟩⟩⟩⟩⟩⟩⟩⟩⟩⟩⟩⟩⟩⟩⟩
theorem lw_p64 : lw_okq (⟨"HandedSlipsModel", "slipped", "()I"⟩, 31) := ⟨⟨by decide +kernel, by decide +kernel⟩, List.mem_of_getElem? (i := 918) (by decide +kernel), List.mem_of_getElem? (i := 1278) (by decide +kernel), List.mem_of_getElem? (i := 1279) (by decide +kernel)⟩
theorem lw_p65 : lw_okq (⟨"HandedSlipsModel", "isHeard", "(I)Z"⟩, 31) := ⟨⟨by decide +kernel, by decide +kernel⟩, List.mem_of_getElem? (i := 918) (by decide +kernel), List.mem_of_getElem? (i := 1282) (by decide +kernel), List.mem_of_getElem? (i := 1283) (by decide +kernel)⟩
theorem lw_p66 : lw_okq (⟨"HandedSlipsModel", "alikeIn", "(I)I"⟩, 31) := ⟨⟨by decide +kernel, by decide +kernel⟩, List.mem_of_getElem? (i := 918) (by decide +kernel), List.mem_of_getElem? (i := 1290) (by decide +kernel), List.mem_of_getElem? (i := 1291) (by decide +kernel)⟩
theorem lw_p67 : lw_okq (⟨"HandedSlipsModel", "slipKinds", "(I)I"⟩, 31) := ⟨⟨by decide +kernel, by decide +kernel⟩, List.mem_of_getElem? (i := 918) (by decide +kernel), List.mem_of_getElem? (i := 1310) (by decide +kernel), List.mem_of_getElem? (i := 1311) (by decide +kernel)⟩
theorem lw_p68 : lw_okq (⟨"HandedSlipsModel", "ringerKinds", "(I)I"⟩, 31) := ⟨⟨by decide +kernel, by decide +kernel⟩, List.mem_of_getElem? (i := 918) (by decide +kernel), List.mem_of_getElem? (i := 1318) (by decide +kernel), List.mem_of_getElem? (i := 1319) (by decide +kernel)⟩
theorem lw_p69 : lw_okq (⟨"HandedSlipsModel", "gets", "(IIII)I"⟩, 31) := ⟨⟨by decide +kernel, by decide +kernel⟩, List.mem_of_getElem? (i := 918) (by decide +kernel), List.mem_of_getElem? (i := 1334) (by decide +kernel), List.mem_of_getElem? (i := 1335) (by decide +kernel)⟩
theorem lw_p70 : lw_okq (⟨"HandedSlipsModel", "placeIn", "(I)I"⟩, 31) := ⟨⟨by decide +kernel, by decide +kernel⟩, List.mem_of_getElem? (i := 918) (by decide +kernel), List.mem_of_getElem? (i := 1338) (by decide +kernel), List.mem_of_getElem? (i := 1339) (by decide +kernel)⟩
theorem lw_p71 : lw_okq (⟨"HandedSlipsModel", "lay", "(JJ)V"⟩, 31) := ⟨⟨by decide +kernel, by decide +kernel⟩, List.mem_of_getElem? (i := 918) (by decide +kernel), List.mem_of_getElem? (i := 1347) (by decide +kernel), List.mem_of_getElem? (i := 1348) (by decide +kernel)⟩
theorem lw_p72 : lw_okq (⟨"HandedSlipsModel", "otherwise", "()I"⟩, 31) := ⟨⟨by decide +kernel, by decide +kernel⟩, List.mem_of_getElem? (i := 918) (by decide +kernel), List.mem_of_getElem? (i := 1362) (by decide +kernel), List.mem_of_getElem? (i := 1363) (by decide +kernel)⟩
theorem lw_p73 : lw_okq (⟨"HandedSlipsModel", "countOf", "(I)I"⟩, 31) := ⟨⟨by decide +kernel, by decide +kernel⟩, List.mem_of_getElem? (i := 918) (by decide +kernel), List.mem_of_getElem? (i := 1386) (by decide +kernel), List.mem_of_getElem? (i := 1387) (by decide +kernel)⟩
theorem lw_p74 : lw_okq (⟨"HandedSlipsModel", "mix", "(J)V"⟩, 31) := ⟨⟨by decide +kernel, by decide +kernel⟩, List.mem_of_getElem? (i := 918) (by decide +kernel), List.mem_of_getElem? (i := 1395) (by decide +kernel), List.mem_of_getElem? (i := 1396) (by decide +kernel)⟩
def lw_privs_5 : List (MethodName × Nat) := [(⟨"HandedSlipsModel", "slipped", "()I"⟩, 31), (⟨"HandedSlipsModel", "isHeard", "(I)Z"⟩, 31), (⟨"HandedSlipsModel", "alikeIn", "(I)I"⟩, 31), (⟨"HandedSlipsModel", "slipKinds", "(I)I"⟩, 31), (⟨"HandedSlipsModel", "ringerKinds", "(I)I"⟩, 31), (⟨"HandedSlipsModel", "gets", "(IIII)I"⟩, 31), (⟨"HandedSlipsModel", "placeIn", "(I)I"⟩, 31), (⟨"HandedSlipsModel", "lay", "(JJ)V"⟩, 31), (⟨"HandedSlipsModel", "otherwise", "()I"⟩, 31), (⟨"HandedSlipsModel", "countOf", "(I)I"⟩, 31), (⟨"HandedSlipsModel", "mix", "(J)V"⟩, 31)]
theorem lw_r5 : ∀ q ∈ lw_privs_5, lw_okq q := List.forall_mem_cons.mpr ⟨lw_p64, List.forall_mem_cons.mpr ⟨lw_p65, List.forall_mem_cons.mpr ⟨lw_p66, List.forall_mem_cons.mpr ⟨lw_p67, List.forall_mem_cons.mpr ⟨lw_p68, List.forall_mem_cons.mpr ⟨lw_p69, List.forall_mem_cons.mpr ⟨lw_p70, List.forall_mem_cons.mpr ⟨lw_p71, List.forall_mem_cons.mpr ⟨lw_p72, List.forall_mem_cons.mpr ⟨lw_p73, List.forall_mem_cons.mpr ⟨lw_p74, fun _ h => absurd h List.not_mem_nil⟩⟩⟩⟩⟩⟩⟩⟩⟩⟩⟩
def lw_privs : List (MethodName × Nat) := lw_privs_1 ++ (lw_privs_2 ++ (lw_privs_3 ++ (lw_privs_4 ++ (lw_privs_5))))
def lw_tbl : List Cond := k2_sels lw_privs ++ tables_1
theorem lw_privs_ok : ∀ q ∈ lw_privs, lw_okq q := by
  show ∀ q ∈ lw_privs_1 ++ (lw_privs_2 ++ (lw_privs_3 ++ (lw_privs_4 ++ (lw_privs_5)))), lw_okq q
  exact List.forall_mem_append.mpr ⟨lw_r1, List.forall_mem_append.mpr ⟨lw_r2, List.forall_mem_append.mpr ⟨lw_r3, List.forall_mem_append.mpr ⟨lw_r4, lw_r5⟩⟩⟩⟩
-- ===== end of PART A; then your names; then what follows =====
/-! ===== BEGIN words of one list among another's, by their places ===== -/
theorem goodIn_r {big : List Cond} (ws : List Cond) (ps : List Nat) (hp : ws = ps.filterMap (fun i => big[i]?)) (h : ws.all goodWord = true) : GoodIn big ws := by
  intro w hw
  have h1 := List.all_eq_true.mp h w hw
  rw [hp] at hw
  obtain ⟨i, -, hi⟩ := List.mem_filterMap.mp hw
  have hm : w ∈ big := by first | exact List.mem_of_getElem? hi | exact List.getElem?_mem hi
  exact ⟨hm, good_of_word h1⟩
theorem goodIn_app {big a b : List Cond} (ha : GoodIn big a) (hb : GoodIn big b) : GoodIn big (a ++ b) := fun w h => (List.mem_append.mp h).elim (ha w) (hb w)
theorem goodIn_ca {big a b : List Cond} {c : Cond} (ha : GoodIn big (c :: a)) (hb : GoodIn big b) : GoodIn big (c :: (a ++ b)) := fun w h => (List.mem_cons.mp h).elim (fun e => ha w (List.mem_cons.mpr (Or.inl e))) (fun h => (List.mem_append.mp h).elim (fun h => ha w (List.mem_cons.mpr (Or.inr h))) (hb w))
theorem goodIn_sub {big ws : List Cond} (hm : ∀ w ∈ ws, w ∈ big) (h : ws.all goodWord = true) : GoodIn big ws := fun w hw => ⟨hm w hw, good_of_word (List.all_eq_true.mp h w hw)⟩
/-! ===== END ===== -/

/-! ===== BEGIN new T[n][m]: the outer array a place, the inner ones among the pooled ===== -/
/-- f, but v at every address of l -/
def vr_up {α : Type} (f : Nat → α) (l : List Nat) (v : α) : Nat → α := fun a => if a ∈ l then v else f a
theorem vr_up_in {α : Type} {f : Nat → α} {l : List Nat} {v : α} {a : Nat} (h : a ∈ l) : vr_up f l v a = v := if_pos h
theorem vr_up_ne {α : Type} {f : Nat → α} {l : List Nat} {v : α} {a : Nat} (h : a ∉ l) : vr_up f l v a = f a := if_neg h
theorem vr_rows {L l : List Nat} {f : Nat → va_E} {e : va_E} (h : ∀ a, a ∈ l → a ∉ L) : va_pl L f ++ l.map (fun a => (a, e)) = va_pl (L ++ l) (vr_up f l e) := by
  unfold va_pl
  rw [List.map_append]
  congr 1
  · apply List.map_congr_left
    intro a ha
    rw [vr_up_ne (fun q => h a q ha)]
  · apply List.map_congr_left
    intro a ha
    rw [vr_up_in ha]
theorem vr_lay {X rows : va_W} {x : Nat × va_E} {pl : va_W} {D : va_G} {cl : List vw_C} {H : Heap} (hP : va_P D cl (((X ++ pl) ++ [x]) ++ rows) H) : va_P D cl ((X ++ [x]) ++ (pl ++ rows)) H := by
  rw [List.append_assoc (X ++ pl)] at hP
  have h := va_P.swap hP
  rw [← List.append_assoc X] at h
  have h2 := va_P.swap h
  rw [List.append_assoc (X ++ [x])] at h2
  exact h2
theorem vr_layD {X rows : va_W} {x : Nat × va_E} {pl : va_W} {A : Nat → Prop} (hD : va_D A (((X ++ pl) ++ [x]) ++ rows)) : va_D A ((X ++ [x]) ++ (pl ++ rows)) := by
  rw [List.append_assoc (X ++ pl)] at hD
  have h := va_D.swap hD
  rw [← List.append_assoc X] at h
  have h2 := va_D.swap h
  rw [List.append_assoc (X ++ [x])] at h2
  exact h2
theorem vr_outer (c : ClassId) (N h0 : Nat) : ∀ i : Nat, Jvm.Free.Multi.outerC c N h0 i = arrV c N (fun j => va_rf (if j < i then some (h0 + 1 + j) else none))
  | 0 => by
    show ({ cls := c, slots := Array.replicate N .null, vm := .none } : Cell) = _
    rw [arrV_new]
    refine congrArg (arrV c N) (funext fun j => ?_)
    simp [va_rf]
  | i + 1 => by
    show (Jvm.Free.Multi.outerC c N h0 i).setSlot i (.ref (h0 + 1 + i)) = _
    rw [vr_outer c N h0 i, arrV_store]
    refine congrArg (arrV c N) (funext fun j => ?_)
    by_cases e : j = i
    · subst e
      simp [updV, va_rf]
    · by_cases h : j < i
      · simp [updV, e, h, Nat.lt_succ_of_lt h]
      · simp [updV, e, h, show ¬ j < i + 1 by omega]
section VGM
variable {p : Program} {l : Launch} {e : Env} {R : Room} {s : State} {m : MethodId} {args : Array Value} {below : List Frame} {meth : Method} {c : Code} {H : Heap} {locs : List Loc} {cells slots : Nat} {Q : State → Prop}
variable {cc : ByteArray} {pc : Nat} {ls : Array Slot} {rest : List Value} {D : va_G} {cl : List vw_C} {A : Nat → Prop} {a : Nat} {tys : List (ClassId × FieldType)} {ws : va_W} {H0 : Heap}
theorem va_mna {X : va_W} {L : List Nat} {f : Nat → va_E} {cc : ByteArray} (hexec : p.tables.exec = Jvm.exec) (hb : c.code = cc) {own : String} {index : Nat} {ty : FieldType} {cy : ClassId} (hown : s.vm.findClass own = some m.cls) (hclink : (Cond.classLink own index ("[" ++ (FieldType.array ty).toString)).before args s = true) (hover : (Cond.arrayOver (.array ty)).before args s = true) (harr : (Cond.arrayClass ty).before args s = true) (hcy : s.vm.findClass (FieldType.array ty).toString = some cy)
    (hK : va_K D cl tys s) (hP : va_P D cl (X ++ va_pl L f) H) (hD : va_D A (X ++ va_pl L f)) (hS : va_S A H0 H locs) (hA : ∀ q, H0.size ≤ q → A q) {n k : Int32} {N' K' : Nat} {z : vp_A} (hn : ¬ n < 0) (hk : ¬ k < 0) (hN : n.toNatClampNeg = N') (hM : k.toNatClampNeg = K')
    (hb1 : N' * 4 ≤ 536870912) (hb2 : K' * componentBytes ty ≤ 536870912) (hb3 : K' ≤ 536870912) (hdf : fits ty (defaultValue ty) = true) (hdd : (defaultValue ty).isDefault = true) (hcells : cells + (1 + N') ≤ R.cells) (hslots : slots + (N' + N' * K') ≤ R.slots) (hz : ∀ c : ClassId, Jvm.Free.Multi.innerC c K' (defaultValue ty) = vp_cell c z) (hdg : decode cc pc = .ok (.multianewarray index 2, 4))
    (kk : ∀ (q : Nat) (r : Nat → Nat) (cA : ClassId) (H1 : Heap), (∀ i j : Nat, i < N' → j < N' → r i = r j → i = j) → (∀ i : Nat, i < N' → r i ∉ L) → va_K D cl (tys ++ [(cA, .array ty)]) s →
      va_P D cl ((X ++ [(q, .inl (cA, N', .inr (.inr (.inr (.inr (fun i => if i < N' then some (r i) else none))))))]) ++ va_pl (L ++ (List.range N').map r) (vr_up f ((List.range N').map r) (.inl (cy, z)))) H1 → va_D A ((X ++ [(q, .inl (cA, N', .inr (.inr (.inr (.inr (fun i => if i < N' then some (r i) else none))))))]) ++ va_pl (L ++ (List.range N').map r) (vr_up f ((List.range N').map r) (.inl (cy, z)))) → va_S A H0 H1 locs →
      W p l e R s m args below meth c H1 locs (cells + 1 + N') (slots + N' + N' * K') Q (F0 m (pc + 4) ls (.ref q :: rest))) : W p l e R s m args below meth c H locs cells slots Q (F0 m pc ls (.int k :: .int n :: rest)) := by
  subst hN
  subst hM
  intro T hT Xs
  obtain ⟨vm₁, cA, comp, -, fA, fC, hO, -, X', step⟩ := Xs.multianewarray2F hexec hown hclink hover harr (g := F0 m pc ls (.int k :: .int n :: rest)) rfl (by rw [hb]; exact hdg) rfl hn hk hb1 hb2 hb3 hdf hdd hcells hslots
  have ec : some cy = some comp := hcy.symm.trans fC
  cases ec
  generalize hF : Jvm.Free.Multi.fill (T.setVm vm₁) cA cy n.toNatClampNeg k.toNatClampNeg (defaultValue ty) n.toNatClampNeg = F at X' step
  have hTh : (T.setVm vm₁).heap = H := hT
  obtain ⟨f1, f2, -, -⟩ := Jvm.Free.Multi.fill_facts (T.setVm vm₁) cA cy n.toNatClampNeg k.toNatClampNeg (defaultValue ty) n.toNatClampNeg
  rw [hF, hTh] at f1 f2
  have hold : ∀ x : Nat, x < H.size → F.heap[x]? = H[x]? := fun x hx => by
    have := Jvm.Free.Multi.fill_old (T.setVm vm₁) cA cy n.toNatClampNeg k.toNatClampNeg (defaultValue ty) (a := x) (by rw [hTh]; exact hx) n.toNatClampNeg
    rw [hF, hTh] at this
    exact this
  have hrow : ∀ j : Nat, j < n.toNatClampNeg → F.heap[H.size + 1 + j]? = some (vp_cell cy z) := fun j hj => by
    have := Jvm.Free.Multi.fill_inner (T.setVm vm₁) cA cy n.toNatClampNeg k.toNatClampNeg (defaultValue ty) n.toNatClampNeg j hj
    rw [hF, hTh, hz] at this
    exact this
  have hout : Jvm.Free.Multi.outerC cA n.toNatClampNeg H.size n.toNatClampNeg = vp_cell cA (n.toNatClampNeg, .inr (.inr (.inr (.inr (fun i => if i < n.toNatClampNeg then some (H.size + 1 + i) else none))))) := by
    rw [vp_cell_q]
    exact vr_outer cA n.toNatClampNeg H.size n.toNatClampNeg
  rw [hout] at f2
  have hlt : ∀ a, a ∈ L → a < H.size := fun a ha => by
    obtain ⟨k9, hk9⟩ := va_pl_get (X := X) (f := f) ha
    exact (hP k9 _ hk9).lt
  have hnl : ∀ i : Nat, i < n.toNatClampNeg → H.size + 1 + i ∉ L := fun i _ h => by
    have := hlt _ h
    omega
  have hnm : ∀ a, a ∈ (List.range n.toNatClampNeg).map (fun i => H.size + 1 + i) → a ∉ L := fun a ha h => by
    obtain ⟨i, -, rfl⟩ := List.mem_map.mp ha
    have := hlt _ h
    omega
  have hP0 : va_P D cl (X ++ va_pl L f) F.heap := hP.kept (fun k9 x hx => hold x.1 ((hP k9 x hx).lt))
  have hP1 : va_P D cl ((X ++ va_pl L f) ++ [(H.size, .inl (cA, n.toNatClampNeg, .inr (.inr (.inr (.inr (fun i => if i < n.toNatClampNeg then some (H.size + 1 + i) else none))))))]) F.heap := hP0.app (fun k9 x hx => by
    have h0 : k9 < 1 := (List.getElem?_eq_some_iff.mp hx).1
    rw [show k9 = 0 by omega] at hx
    cases hx
    exact f2)
  have hP2 : va_P D cl (((X ++ va_pl L f) ++ [(H.size, .inl (cA, n.toNatClampNeg, .inr (.inr (.inr (.inr (fun i => if i < n.toNatClampNeg then some (H.size + 1 + i) else none))))))]) ++ ((List.range n.toNatClampNeg).map (fun i => H.size + 1 + i)).map (fun a => (a, .inl (cy, z)))) F.heap := hP1.app (fun k9 x hx => by
    obtain ⟨a, ha, rfl⟩ := List.mem_map.mp (List.mem_of_getElem? hx)
    obtain ⟨i, hi, rfl⟩ := List.mem_map.mp ha
    exact hrow i (List.mem_range.mp hi))
  have hD2 : va_D A (((X ++ va_pl L f) ++ [(H.size, .inl (cA, n.toNatClampNeg, .inr (.inr (.inr (.inr (fun i => if i < n.toNatClampNeg then some (H.size + 1 + i) else none))))))]) ++ ((List.range n.toNatClampNeg).map (fun i => H.size + 1 + i)).map (fun a => (a, .inl (cy, z)))) := by
    have hD1 := hD.push (e := .inl (cA, n.toNatClampNeg, .inr (.inr (.inr (.inr (fun i => if i < n.toNatClampNeg then some (H.size + 1 + i) else none)))))) hP rfl (hA _ hS.1)
    generalize hW1 : (X ++ va_pl L f) ++ [(H.size, .inl (cA, n.toNatClampNeg, .inr (.inr (.inr (.inr (fun i => if i < n.toNatClampNeg then some (H.size + 1 + i) else none))))))] = W1 at hD1 hP1 ⊢
    have hle : ∀ (k9 : Nat) (x : Nat × va_E), W1[k9]? = some x → x.1 ≤ H.size := fun k9 x hx => by
      rw [← hW1] at hx
      by_cases hl : k9 < (X ++ va_pl L f).length
      · rw [List.getElem?_append_left hl] at hx
        exact Nat.le_of_lt ((hP k9 x hx).lt)
      · rw [List.getElem?_append_right (by omega)] at hx
        have h0 : k9 - (X ++ va_pl L f).length < 1 := (List.getElem?_eq_some_iff.mp hx).1
        rw [show k9 - (X ++ va_pl L f).length = 0 by omega] at hx
        cases hx
        exact Nat.le_refl _
    have hr : ∀ (k9 : Nat) (x : Nat × va_E), (((List.range n.toNatClampNeg).map (fun i => H.size + 1 + i)).map (fun a => ((a, .inl (cy, z)) : Nat × va_E)))[k9]? = some x → x.1 = H.size + 1 + k9 := fun k9 x hx => by
      rw [List.getElem?_map, List.getElem?_map] at hx
      by_cases h9 : k9 < n.toNatClampNeg
      · rw [List.getElem?_range h9] at hx
        cases hx
        rfl
      · have hn0 : (List.range n.toNatClampNeg)[k9]? = none := List.getElem?_eq_none (by rw [List.length_range]; omega)
        rw [hn0] at hx
        cases hx
    refine ⟨fun i j x y hi hj hxy => ?_, fun k9 x hx => ?_⟩
    · by_cases h1 : i < W1.length <;> by_cases h2 : j < W1.length
      · rw [List.getElem?_append_left h1] at hi
        rw [List.getElem?_append_left h2] at hj
        exact hD1.1 i j x y hi hj hxy
      · rw [List.getElem?_append_left h1] at hi
        rw [List.getElem?_append_right (by omega)] at hj
        have := hle _ _ hi
        have := hr _ _ hj
        omega
      · rw [List.getElem?_append_right (by omega)] at hi
        rw [List.getElem?_append_left h2] at hj
        have := hle _ _ hj
        have := hr _ _ hi
        omega
      · rw [List.getElem?_append_right (by omega)] at hi hj
        have := hr _ _ hi
        have := hr _ _ hj
        omega
    · by_cases h1 : k9 < W1.length
      · rw [List.getElem?_append_left h1] at hx
        exact hD1.2 k9 x hx
      · rw [List.getElem?_append_right (by omega)] at hx
        have := hr _ _ hx
        exact hA _ (by have := hS.1; omega)
  have hAr : ArrOfT s cA (.array ty) := fun N9 z9 => by
    obtain ⟨-, k9, hk9, cm9, hkk9⟩ := (hO 0 0 0).1
    exact ⟨(fun q hq => by cases hq), k9, hk9, cm9, hkk9⟩
  have hK2 : va_K D cl (tys ++ [(cA, .array ty)]) s := ⟨hK.1, fun k9 x hx => by
    by_cases hl : k9 < tys.length
    · rw [List.getElem?_append_left hl] at hx
      exact hK.2 k9 x hx
    · rw [List.getElem?_append_right (by omega)] at hx
      have h0 : k9 - tys.length < 1 := (List.getElem?_eq_some_iff.mp hx).1
      rw [show k9 - tys.length = 0 by omega] at hx
      cases hx
      exact ⟨hAr, fA⟩⟩
  obtain ⟨t, a1, b1⟩ := kk H.size (fun i => H.size + 1 + i) cA F.heap (fun i j _ _ h => by have h9 : H.size + 1 + i = H.size + 1 + j := h; omega) hnl hK2 (by rw [← vr_rows hnm]; exact vr_lay hP2) (by rw [← vr_rows hnm]; exact vr_layD hD2) ⟨by rw [f1]; have := hS.1; omega, fun x h1 h2 => (hold x (Nat.lt_of_lt_of_le h1 hS.1)).trans (hS.2.1 x h1 h2), hS.2.2⟩ F rfl X'
  refine ⟨t, step t ?_, b1⟩
  have e : T.heap.size = H.size := by rw [hT]
  rw [e]
  exact a1
end VGM
/-! ===== END ===== -/

def RX0 : String := "HandedSlips$Evidence"
def TX0 : u_T := fun k => match k with
  | 0 => ("HandedSlips$Evidence", "sets", "[I", true)
  | 1 => ("HandedSlips$Evidence", "rowsBySet", "[[I", true)
  | 2 => ("HandedSlips$Evidence", "tally", "[I", true)
  | _ => ("HandedSlips$Evidence", "setCount", "I", false)
def tyX0 : Nat → FieldType := fun k => match k with
  | 0 => .array .int
  | 1 => .array (.array .int)
  | 2 => .array .int
  | _ => .int
abbrev wsX00 : List Cond := u_ws RX0 TX0 4
theorem nmX0 : ∀ a, a < 4 → ∀ b, b < 4 → a ≠ b → (TX0 a).2.1 ≠ (TX0 b).2.1 := by decide +kernel
theorem tyX0_ok : ∀ k, k < 4 → parseFieldDescriptor (TX0 k).2.2.1 = some (tyX0 k) := by decide +kernel
abbrev cX0_init : ByteArray := prog_2_method_1_code
def yX0_init : MethodName := ⟨RX0, "<init>", "()V"⟩
abbrev cX0_findSets : ByteArray := prog_2_method_2_code
def yX0_findSets : MethodName := ⟨RX0, "findSets", "(LHandedSlips$Tower;LHandedSlips$Peal;)V"⟩
abbrev cX0_agrees : ByteArray := prog_2_method_3_code
def yX0_agrees : MethodName := ⟨RX0, "agrees", "(LHandedSlips$Records;LHandedSlips$Peal;)Z"⟩
abbrev cX0_addSet : ByteArray := prog_2_method_4_code
def yX0_addSet : MethodName := ⟨RX0, "addSet", "(ILHandedSlips$Peal;)V"⟩
abbrev cX0_ropesInAll : ByteArray := prog_2_method_5_code
def yX0_ropesInAll : MethodName := ⟨RX0, "ropesInAll", "()I"⟩
abbrev cX0_ropesInSome : ByteArray := prog_2_method_6_code
def yX0_ropesInSome : MethodName := ⟨RX0, "ropesInSome", "()I"⟩
abbrev cX0_tellingRow : ByteArray := prog_2_method_7_code
def yX0_tellingRow : MethodName := ⟨RX0, "tellingRow", "()I"⟩
abbrev cX0_mostAlike : ByteArray := prog_2_method_8_code
def yX0_mostAlike : MethodName := ⟨RX0, "mostAlike", "(I)I"⟩
abbrev cX0_slipKinds : ByteArray := prog_2_method_9_code
def yX0_slipKinds : MethodName := ⟨RX0, "slipKinds", "(LHandedSlips$Records;I)I"⟩
abbrev cX0_lookingPlace : ByteArray := prog_2_method_10_code
def yX0_lookingPlace : MethodName := ⟨RX0, "lookingPlace", "(I)I"⟩
abbrev cX0_mostComingAlike : ByteArray := prog_2_method_11_code
def yX0_mostComingAlike : MethodName := ⟨RX0, "mostComingAlike", "(II)I"⟩
abbrev cX0_ringerKinds : ByteArray := prog_2_method_12_code
def yX0_ringerKinds : MethodName := ⟨RX0, "ringerKinds", "(LHandedSlips$Records;I)I"⟩
abbrev cX0_askingYears : ByteArray := prog_2_method_13_code
def yX0_askingYears : MethodName := ⟨RX0, "askingYears", "(I)I"⟩
abbrev cX0_greaterPart : ByteArray := prog_2_method_14_code
def yX0_greaterPart : MethodName := ⟨RX0, "greaterPart", "(III)I"⟩
def RX1 : String := "HandedSlips$History"
def TX1 : u_T := fun k => match k with
  | 0 => ("HandedSlips$History", "saved", "[[I", true)
  | _ => ("HandedSlips$History", "size", "I", false)
def tyX1 : Nat → FieldType := fun k => match k with
  | 0 => .array (.array .int)
  | _ => .int
abbrev wsX10 : List Cond := u_ws RX1 TX1 2
theorem nmX1 : ∀ a, a < 2 → ∀ b, b < 2 → a ≠ b → (TX1 a).2.1 ≠ (TX1 b).2.1 := by decide +kernel
theorem tyX1_ok : ∀ k, k < 2 → parseFieldDescriptor (TX1 k).2.2.1 = some (tyX1 k) := by decide +kernel
abbrev cX1_init : ByteArray := prog_3_method_1_code
def yX1_init : MethodName := ⟨RX1, "<init>", "()V"⟩
abbrev cX1_letGo : ByteArray := prog_3_method_2_code
def yX1_letGo : MethodName := ⟨RX1, "letGo", "()V"⟩
abbrev cX1_keep : ByteArray := prog_3_method_3_code
def yX1_keep : MethodName := ⟨RX1, "keep", "(LHandedSlips$Ropes;)V"⟩
abbrev cX1_dropOldest : ByteArray := prog_3_method_4_code
def yX1_dropOldest : MethodName := ⟨RX1, "dropOldest", "()V"⟩
abbrev cX1_restore : ByteArray := prog_3_method_5_code
def yX1_restore : MethodName := ⟨RX1, "restore", "(LHandedSlips$Ropes;)V"⟩
abbrev cX1_copyHistory : ByteArray := prog_3_method_6_code
def yX1_copyHistory : MethodName := ⟨RX1, "copyHistory", "(LHandedSlips$History;)V"⟩
def RX2 : String := "HandedSlips$Peal"
def TX2 : u_T := fun k => match k with
  | 0 => ("HandedSlips$Peal", "meant", "[[I", true)
  | 1 => ("HandedSlips$Peal", "rung", "[[I", true)
  | 2 => ("HandedSlips$Peal", "meantNumbers", "[I", true)
  | 3 => ("HandedSlips$Peal", "rungNumbers", "[I", true)
  | 4 => ("HandedSlips$Peal", "makers", "[I", true)
  | _ => ("HandedSlips$Peal", "bells", "I", false)
def tyX2 : Nat → FieldType := fun k => match k with
  | 0 => .array (.array .int)
  | 1 => .array (.array .int)
  | 2 => .array .int
  | 3 => .array .int
  | 4 => .array .int
  | _ => .int
abbrev wsX20 : List Cond := u_ws RX2 TX2 6
theorem nmX2 : ∀ a, a < 6 → ∀ b, b < 6 → a ≠ b → (TX2 a).2.1 ≠ (TX2 b).2.1 := by decide +kernel
theorem tyX2_ok : ∀ k, k < 6 → parseFieldDescriptor (TX2 k).2.2.1 = some (tyX2 k) := by decide +kernel
abbrev cX2_init : ByteArray := prog_4_method_1_code
def yX2_init : MethodName := ⟨RX2, "<init>", "()V"⟩
abbrev cX2_mean : ByteArray := prog_4_method_2_code
def yX2_mean : MethodName := ⟨RX2, "mean", "(I[I)V"⟩
abbrev cX2_swapPairs : ByteArray := prog_4_method_3_code
def yX2_swapPairs : MethodName := ⟨RX2, "swapPairs", "([II)V"⟩
abbrev cX2_lend : ByteArray := prog_4_method_4_code
def yX2_lend : MethodName := ⟨RX2, "lend", "(III)V"⟩
abbrev cX2_ring : ByteArray := prog_4_method_5_code
def yX2_ring : MethodName := ⟨RX2, "ring", "(LHandedSlips$Ropes;I)V"⟩
abbrev cX2_makeSlip : ByteArray := prog_4_method_6_code
def yX2_makeSlip : MethodName := ⟨RX2, "makeSlip", "([III)V"⟩
abbrev cX2_placeOf : ByteArray := prog_4_method_7_code
def yX2_placeOf : MethodName := ⟨RX2, "placeOf", "([II)I"⟩
abbrev cX2_numberOf : ByteArray := prog_4_method_8_code
def yX2_numberOf : MethodName := ⟨RX2, "numberOf", "([I)I"⟩
abbrev cX2_rowLike : ByteArray := prog_4_method_9_code
def yX2_rowLike : MethodName := ⟨RX2, "rowLike", "(I)I"⟩
abbrev cX2_firstRepeat : ByteArray := prog_4_method_10_code
def yX2_firstRepeat : MethodName := ⟨RX2, "firstRepeat", "()I"⟩
abbrev cX2_isTrue : ByteArray := prog_4_method_11_code
def yX2_isTrue : MethodName := ⟨RX2, "isTrue", "()Z"⟩
abbrev cX2_rowsAstray : ByteArray := prog_4_method_12_code
def yX2_rowsAstray : MethodName := ⟨RX2, "rowsAstray", "()I"⟩
abbrev cX2_rowsAstrayOf : ByteArray := prog_4_method_13_code
def yX2_rowsAstrayOf : MethodName := ⟨RX2, "rowsAstrayOf", "(I)I"⟩
def RX3 : String := "HandedSlips$Reader"
def TX3 : u_T := fun k => match k with
  | 0 => ("HandedSlips$Reader", "draft", "LHandedSlips$Tower;", true)
  | 1 => ("HandedSlips$Reader", "told", "[I", true)
  | 2 => ("HandedSlips$Reader", "text", "LHandedSlips$Text;", false)
  | 3 => ("HandedSlips$Reader", "token", "I", false)
  | 4 => ("HandedSlips$Reader", "tokenStart", "I", false)
  | 5 => ("HandedSlips$Reader", "tokenEnd", "I", false)
  | _ => ("HandedSlips$Reader", "tokenValue", "I", false)
def tyX3 : Nat → FieldType := fun k => match k with
  | 0 => .object "HandedSlips$Tower"
  | 1 => .array .int
  | 2 => .object "HandedSlips$Text"
  | 3 => .int
  | 4 => .int
  | 5 => .int
  | _ => .int
abbrev wsX30 : List Cond := u_ws RX3 TX3 7
theorem nmX3 : ∀ a, a < 7 → ∀ b, b < 7 → a ≠ b → (TX3 a).2.1 ≠ (TX3 b).2.1 := by decide +kernel
theorem tyX3_ok : ∀ k, k < 7 → parseFieldDescriptor (TX3 k).2.2.1 = some (tyX3 k) := by decide +kernel
abbrev cX3_init : ByteArray := prog_5_method_1_code
def yX3_init : MethodName := ⟨RX3, "<init>", "()V"⟩
abbrev cX3_parse : ByteArray := prog_5_method_2_code
def yX3_parse : MethodName := ⟨RX3, "parse", "(LHandedSlips$Text;)I"⟩
abbrev cX3_readItem : ByteArray := prog_5_method_3_code
def yX3_readItem : MethodName := ⟨RX3, "readItem", "(Z)Z"⟩
abbrev cX3_numbersOf : ByteArray := prog_5_method_4_code
def yX3_numbersOf : MethodName := ⟨RX3, "numbersOf", "(I)I"⟩
abbrev cX3_standsAt : ByteArray := prog_5_method_5_code
def yX3_standsAt : MethodName := ⟨RX3, "standsAt", "(II)Z"⟩
abbrev cX3_apply : ByteArray := prog_5_method_6_code
def yX3_apply : MethodName := ⟨RX3, "apply", "(I)V"⟩
abbrev cX3_nextToken : ByteArray := prog_5_method_7_code
def yX3_nextToken : MethodName := ⟨RX3, "nextToken", "()V"⟩
abbrev cX3_skip : ByteArray := prog_5_method_8_code
def yX3_skip : MethodName := ⟨RX3, "skip", "(III)I"⟩
abbrev cX3_itemSpelled : ByteArray := prog_5_method_9_code
def yX3_itemSpelled : MethodName := ⟨RX3, "itemSpelled", "()I"⟩
abbrev cX3_wordOf : ByteArray := prog_5_method_10_code
def yX3_wordOf : MethodName := ⟨RX3, "wordOf", "(I)Ljava/lang/String;"⟩
abbrev cX3_numberSpelled : ByteArray := prog_5_method_11_code
def yX3_numberSpelled : MethodName := ⟨RX3, "numberSpelled", "()I"⟩
def RX4 : String := "HandedSlips$Records"
def TX4 : u_T := fun k => match k with
  | 0 => ("HandedSlips$Records", "cells", "[I", true)
  | _ => ("HandedSlips$Records", "size", "I", false)
def tyX4 : Nat → FieldType := fun k => match k with
  | 0 => .array .int
  | _ => .int
abbrev wsX40 : List Cond := u_ws RX4 TX4 2
theorem nmX4 : ∀ a, a < 2 → ∀ b, b < 2 → a ≠ b → (TX4 a).2.1 ≠ (TX4 b).2.1 := by decide +kernel
theorem tyX4_ok : ∀ k, k < 2 → parseFieldDescriptor (TX4 k).2.2.1 = some (tyX4 k) := by decide +kernel
abbrev cX4_init : ByteArray := prog_6_method_1_code
def yX4_init : MethodName := ⟨RX4, "<init>", "()V"⟩
abbrev cX4_append : ByteArray := prog_6_method_2_code
def yX4_append : MethodName := ⟨RX4, "append", "(IIII)I"⟩
abbrev cX4_cell : ByteArray := prog_6_method_3_code
def yX4_cell : MethodName := ⟨RX4, "cell", "(II)I"⟩
abbrev cX4_mixInto : ByteArray := prog_6_method_4_code
def yX4_mixInto : MethodName := ⟨RX4, "mixInto", "(JI)J"⟩
abbrev cX4_forgetAll : ByteArray := prog_6_method_5_code
def yX4_forgetAll : MethodName := ⟨RX4, "forgetAll", "()I"⟩
abbrev cX4_copyRecords : ByteArray := prog_6_method_6_code
def yX4_copyRecords : MethodName := ⟨RX4, "copyRecords", "(LHandedSlips$Records;)V"⟩
def RX5 : String := "HandedSlips$RingerKind"
def TX5 : u_T := fun k => match k with
  | _ => ("", "", "", false)
def tyX5 : Nat → FieldType := fun k => match k with
  | _ => .int
abbrev wsX50 : List Cond := u_ws RX5 TX5 0
theorem nmX5 : ∀ a, a < 0 → ∀ b, b < 0 → a ≠ b → (TX5 a).2.1 ≠ (TX5 b).2.1 := by decide +kernel
theorem tyX5_ok : ∀ k, k < 0 → parseFieldDescriptor (TX5 k).2.2.1 = some (tyX5 k) := by decide +kernel
abbrev cX5_makes : ByteArray := prog_7_method_2_code
def yX5_makes : MethodName := ⟨RX5, "makes", "(III)Z"⟩
def RX6 : String := "HandedSlips$Ringing"
def TX6 : u_T := fun k => match k with
  | 0 => ("HandedSlips$Ringing", "peal", "LHandedSlips$Peal;", true)
  | 1 => ("HandedSlips$Ringing", "trialRopes", "LHandedSlips$Ropes;", true)
  | 2 => ("HandedSlips$Ringing", "trialChanges", "[I", true)
  | 3 => ("HandedSlips$Ringing", "gainsOfA", "[I", true)
  | _ => ("HandedSlips$Ringing", "gainsOfB", "[I", true)
def tyX6 : Nat → FieldType := fun k => match k with
  | 0 => .object "HandedSlips$Peal"
  | 1 => .object "HandedSlips$Ropes"
  | 2 => .array .int
  | 3 => .array .int
  | _ => .array .int
abbrev wsX60 : List Cond := u_ws RX6 TX6 5
theorem nmX6 : ∀ a, a < 5 → ∀ b, b < 5 → a ≠ b → (TX6 a).2.1 ≠ (TX6 b).2.1 := by decide +kernel
theorem tyX6_ok : ∀ k, k < 5 → parseFieldDescriptor (TX6 k).2.2.1 = some (tyX6 k) := by decide +kernel
abbrev cX6_init : ByteArray := prog_8_method_1_code
def yX6_init : MethodName := ⟨RX6, "<init>", "()V"⟩
abbrev cX6_leastMend : ByteArray := prog_8_method_2_code
def yX6_leastMend : MethodName := ⟨RX6, "leastMend", "(LHandedSlips$Tower;)I"⟩
abbrev cX6_leastMethod : ByteArray := prog_8_method_3_code
def yX6_leastMethod : MethodName := ⟨RX6, "leastMethod", "(LHandedSlips$Tower;)I"⟩
abbrev cX6_advanceTrial : ByteArray := prog_8_method_4_code
def yX6_advanceTrial : MethodName := ⟨RX6, "advanceTrial", "(I)Z"⟩
abbrev cX6_trialNumber : ByteArray := prog_8_method_5_code
def yX6_trialNumber : MethodName := ⟨RX6, "trialNumber", "()I"⟩
abbrev cX6_yearsUntilTrue : ByteArray := prog_8_method_6_code
def yX6_yearsUntilTrue : MethodName := ⟨RX6, "yearsUntilTrue", "(LHandedSlips$Tower;)I"⟩
abbrev cX6_trueWeight : ByteArray := prog_8_method_7_code
def yX6_trueWeight : MethodName := ⟨RX6, "trueWeight", "(LHandedSlips$Tower;I)J"⟩
abbrev cX6_restingPairs : ByteArray := prog_8_method_8_code
def yX6_restingPairs : MethodName := ⟨RX6, "restingPairs", "(LHandedSlips$Tower;II)I"⟩
abbrev cX6_weddingRows : ByteArray := prog_8_method_9_code
def yX6_weddingRows : MethodName := ⟨RX6, "weddingRows", "(LHandedSlips$Tower;II)I"⟩
def RX7 : String := "HandedSlips$Ropes"
def TX7 : u_T := fun k => match k with
  | _ => ("HandedSlips$Ropes", "cells", "[I", true)
def tyX7 : Nat → FieldType := fun k => match k with
  | _ => .array .int
abbrev wsX70 : List Cond := u_ws RX7 TX7 1
theorem nmX7 : ∀ a, a < 1 → ∀ b, b < 1 → a ≠ b → (TX7 a).2.1 ≠ (TX7 b).2.1 := by decide +kernel
theorem tyX7_ok : ∀ k, k < 1 → parseFieldDescriptor (TX7 k).2.2.1 = some (tyX7 k) := by decide +kernel
abbrev cX7_init : ByteArray := prog_9_method_1_code
def yX7_init : MethodName := ⟨RX7, "<init>", "()V"⟩
abbrev cX7_untell : ByteArray := prog_9_method_2_code
def yX7_untell : MethodName := ⟨RX7, "untell", "()V"⟩
abbrev cX7_copyRopes : ByteArray := prog_9_method_3_code
def yX7_copyRopes : MethodName := ⟨RX7, "copyRopes", "(LHandedSlips$Ropes;)V"⟩
abbrev cX7_cell : ByteArray := prog_9_method_4_code
def yX7_cell : MethodName := ⟨RX7, "cell", "(II)I"⟩
abbrev cX7_setCell : ByteArray := prog_9_method_5_code
def yX7_setCell : MethodName := ⟨RX7, "setCell", "(III)V"⟩
abbrev cX7_slipKind : ByteArray := prog_9_method_6_code
def yX7_slipKind : MethodName := ⟨RX7, "slipKind", "(I)I"⟩
abbrev cX7_slipRow : ByteArray := prog_9_method_7_code
def yX7_slipRow : MethodName := ⟨RX7, "slipRow", "(I)I"⟩
abbrev cX7_ringerKind : ByteArray := prog_9_method_8_code
def yX7_ringerKind : MethodName := ⟨RX7, "ringerKind", "(I)I"⟩
abbrev cX7_yearsOf : ByteArray := prog_9_method_9_code
def yX7_yearsOf : MethodName := ⟨RX7, "yearsOf", "(I)I"⟩
abbrev cX7_townYear : ByteArray := prog_9_method_10_code
def yX7_townYear : MethodName := ⟨RX7, "townYear", "()I"⟩
abbrev cX7_hasSlip : ByteArray := prog_9_method_11_code
def yX7_hasSlip : MethodName := ⟨RX7, "hasSlip", "(I)Z"⟩
abbrev cX7_putSlip : ByteArray := prog_9_method_12_code
def yX7_putSlip : MethodName := ⟨RX7, "putSlip", "(III)V"⟩
abbrev cX7_takeSlip : ByteArray := prog_9_method_13_code
def yX7_takeSlip : MethodName := ⟨RX7, "takeSlip", "(I)V"⟩
abbrev cX7_seat : ByteArray := prog_9_method_14_code
def yX7_seat : MethodName := ⟨RX7, "seat", "(III)V"⟩
abbrev cX7_passYear : ByteArray := prog_9_method_15_code
def yX7_passYear : MethodName := ⟨RX7, "passYear", "()V"⟩
abbrev cX7_passYears : ByteArray := prog_9_method_16_code
def yX7_passYears : MethodName := ⟨RX7, "passYears", "(I)V"⟩
abbrev cX7_makesSlip : ByteArray := prog_9_method_17_code
def yX7_makesSlip : MethodName := ⟨RX7, "makesSlip", "(I)Z"⟩
abbrev cX7_slipBits : ByteArray := prog_9_method_18_code
def yX7_slipBits : MethodName := ⟨RX7, "slipBits", "()I"⟩
abbrev cX7_madeBits : ByteArray := prog_9_method_19_code
def yX7_madeBits : MethodName := ⟨RX7, "madeBits", "()I"⟩
abbrev cX7_madeInRow : ByteArray := prog_9_method_20_code
def yX7_madeInRow : MethodName := ⟨RX7, "madeInRow", "(I)I"⟩
abbrev cX7_fullestRow : ByteArray := prog_9_method_21_code
def yX7_fullestRow : MethodName := ⟨RX7, "fullestRow", "()I"⟩
def RX8 : String := "HandedSlips$SlipKind"
def TX8 : u_T := fun k => match k with
  | _ => ("", "", "", false)
def tyX8 : Nat → FieldType := fun k => match k with
  | _ => .int
abbrev wsX80 : List Cond := u_ws RX8 TX8 0
theorem nmX8 : ∀ a, a < 0 → ∀ b, b < 0 → a ≠ b → (TX8 a).2.1 ≠ (TX8 b).2.1 := by decide +kernel
theorem tyX8_ok : ∀ k, k < 0 → parseFieldDescriptor (TX8 k).2.2.1 = some (tyX8 k) := by decide +kernel
abbrev cX8_placeTold : ByteArray := prog_10_method_2_code
def yX8_placeTold : MethodName := ⟨RX8, "placeTold", "(III)I"⟩
def RX9 : String := "HandedSlips$Text"
def TX9 : u_T := fun k => match k with
  | 0 => ("HandedSlips$Text", "bytes", "[B", true)
  | _ => ("HandedSlips$Text", "length", "I", false)
def tyX9 : Nat → FieldType := fun k => match k with
  | 0 => .array .byte
  | _ => .int
abbrev wsX90 : List Cond := u_ws RX9 TX9 2
theorem nmX9 : ∀ a, a < 2 → ∀ b, b < 2 → a ≠ b → (TX9 a).2.1 ≠ (TX9 b).2.1 := by decide +kernel
theorem tyX9_ok : ∀ k, k < 2 → parseFieldDescriptor (TX9 k).2.2.1 = some (tyX9 k) := by decide +kernel
abbrev cX9_init : ByteArray := prog_11_method_1_code
def yX9_init : MethodName := ⟨RX9, "<init>", "()V"⟩
abbrev cX9_empty : ByteArray := prog_11_method_2_code
def yX9_empty : MethodName := ⟨RX9, "empty", "()I"⟩
abbrev cX9_append : ByteArray := prog_11_method_3_code
def yX9_append : MethodName := ⟨RX9, "append", "(I)V"⟩
abbrev cX9_byteAt : ByteArray := prog_11_method_4_code
def yX9_byteAt : MethodName := ⟨RX9, "byteAt", "(I)I"⟩
abbrev cX9_spells : ByteArray := prog_11_method_5_code
def yX9_spells : MethodName := ⟨RX9, "spells", "(Ljava/lang/String;II)Z"⟩
def RX10 : String := "HandedSlips$Tower"
def TX10 : u_T := fun k => match k with
  | 0 => ("HandedSlips$Tower", "changes", "[I", true)
  | 1 => ("HandedSlips$Tower", "ropes", "LHandedSlips$Ropes;", true)
  | 2 => ("HandedSlips$Tower", "history", "LHandedSlips$History;", true)
  | 3 => ("HandedSlips$Tower", "heardRows", "LHandedSlips$Records;", true)
  | 4 => ("HandedSlips$Tower", "notes", "LHandedSlips$Records;", true)
  | 5 => ("HandedSlips$Tower", "marks", "LHandedSlips$Records;", true)
  | _ => ("HandedSlips$Tower", "bells", "I", false)
def tyX10 : Nat → FieldType := fun k => match k with
  | 0 => .array .int
  | 1 => .object "HandedSlips$Ropes"
  | 2 => .object "HandedSlips$History"
  | 3 => .object "HandedSlips$Records"
  | 4 => .object "HandedSlips$Records"
  | 5 => .object "HandedSlips$Records"
  | _ => .int
abbrev wsX100 : List Cond := u_ws RX10 TX10 7
theorem nmX10 : ∀ a, a < 7 → ∀ b, b < 7 → a ≠ b → (TX10 a).2.1 ≠ (TX10 b).2.1 := by decide +kernel
theorem tyX10_ok : ∀ k, k < 7 → parseFieldDescriptor (TX10 k).2.2.1 = some (tyX10 k) := by decide +kernel
abbrev cX10_init : ByteArray := prog_12_method_1_code
def yX10_init : MethodName := ⟨RX10, "<init>", "()V"⟩
abbrev cX10_begin : ByteArray := prog_12_method_2_code
def yX10_begin : MethodName := ⟨RX10, "begin", "(I)V"⟩
abbrev cX10_copyTower : ByteArray := prog_12_method_3_code
def yX10_copyTower : MethodName := ⟨RX10, "copyTower", "(LHandedSlips$Tower;)V"⟩
def RX11 : String := "HandedSlips"
def TX11 : u_T := fun k => match k with
  | 0 => ("HandedSlips", "now", "LHandedSlips$Tower;", true)
  | 1 => ("HandedSlips", "firstImage", "LHandedSlips$Tower;", true)
  | 2 => ("HandedSlips", "secondImage", "LHandedSlips$Tower;", true)
  | 3 => ("HandedSlips", "kept", "[Z", true)
  | 4 => ("HandedSlips", "text", "LHandedSlips$Text;", true)
  | 5 => ("HandedSlips", "reader", "LHandedSlips$Reader;", true)
  | 6 => ("HandedSlips", "ringing", "LHandedSlips$Ringing;", true)
  | 7 => ("HandedSlips", "evidence", "LHandedSlips$Evidence;", true)
  | 8 => ("HandedSlips", "refused", "[I", true)
  | 9 => ("HandedSlips", "above", "J", false)
  | _ => ("HandedSlips", "below", "J", false)
def tyX11 : Nat → FieldType := fun k => match k with
  | 0 => .object "HandedSlips$Tower"
  | 1 => .object "HandedSlips$Tower"
  | 2 => .object "HandedSlips$Tower"
  | 3 => .array .boolean
  | 4 => .object "HandedSlips$Text"
  | 5 => .object "HandedSlips$Reader"
  | 6 => .object "HandedSlips$Ringing"
  | 7 => .object "HandedSlips$Evidence"
  | 8 => .array .int
  | 9 => .long
  | _ => .long
abbrev wsX110 : List Cond := u_ws RX11 TX11 11
theorem nmX11 : ∀ a, a < 11 → ∀ b, b < 11 → a ≠ b → (TX11 a).2.1 ≠ (TX11 b).2.1 := by decide +kernel
theorem tyX11_ok : ∀ k, k < 11 → parseFieldDescriptor (TX11 k).2.2.1 = some (tyX11 k) := by decide +kernel
abbrev cX11_init : ByteArray := prog_1_method_1_code
def yX11_init : MethodName := ⟨RX11, "<init>", "()V"⟩
abbrev cX11_tower : ByteArray := prog_1_method_2_code
def yX11_tower : MethodName := ⟨RX11, "tower", "(I)I"⟩
abbrev cX11_method : ByteArray := prog_1_method_3_code
def yX11_method : MethodName := ⟨RX11, "method", "(II)I"⟩
abbrev cX11_type : ByteArray := prog_1_method_4_code
def yX11_type : MethodName := ⟨RX11, "type", "(I)I"⟩
abbrev cX11_clear : ByteArray := prog_1_method_5_code
def yX11_clear : MethodName := ⟨RX11, "clear", "()I"⟩
abbrev cX11_read : ByteArray := prog_1_method_6_code
def yX11_read : MethodName := ⟨RX11, "read", "()I"⟩
abbrev cX11_slips : ByteArray := prog_1_method_7_code
def yX11_slips : MethodName := ⟨RX11, "slips", "(III)I"⟩
abbrev cX11_drops : ByteArray := prog_1_method_8_code
def yX11_drops : MethodName := ⟨RX11, "drops", "(I)I"⟩
abbrev cX11_hands : ByteArray := prog_1_method_9_code
def yX11_hands : MethodName := ⟨RX11, "hands", "(II)I"⟩
abbrev cX11_year : ByteArray := prog_1_method_10_code
def yX11_year : MethodName := ⟨RX11, "year", "(I)I"⟩
abbrev cX11_undo : ByteArray := prog_1_method_11_code
def yX11_undo : MethodName := ⟨RX11, "undo", "()I"⟩
abbrev cX11_of : ByteArray := prog_1_method_12_code
def yX11_of : MethodName := ⟨RX11, "of", "(II)I"⟩
abbrev cX11_row : ByteArray := prog_1_method_13_code
def yX11_row : MethodName := ⟨RX11, "row", "(II)I"⟩
abbrev cX11_repeats : ByteArray := prog_1_method_14_code
def yX11_repeats : MethodName := ⟨RX11, "repeats", "(I)I"⟩
abbrev cX11_clash : ByteArray := prog_1_method_15_code
def yX11_clash : MethodName := ⟨RX11, "clash", "(I)I"⟩
abbrev cX11_mend : ByteArray := prog_1_method_16_code
def yX11_mend : MethodName := ⟨RX11, "mend", "()I"⟩
abbrev cX11_compose : ByteArray := prog_1_method_17_code
def yX11_compose : MethodName := ⟨RX11, "compose", "()I"⟩
abbrev cX11_when : ByteArray := prog_1_method_18_code
def yX11_when : MethodName := ⟨RX11, "when", "()I"⟩
abbrev cX11_clean : ByteArray := prog_1_method_19_code
def yX11_clean : MethodName := ⟨RX11, "clean", "()I"⟩
abbrev cX11_heard : ByteArray := prog_1_method_20_code
def yX11_heard : MethodName := ⟨RX11, "heard", "(II)I"⟩
abbrev cX11_who : ByteArray := prog_1_method_21_code
def yX11_who : MethodName := ⟨RX11, "who", "(I)I"⟩
abbrev cX11_tell : ByteArray := prog_1_method_22_code
def yX11_tell : MethodName := ⟨RX11, "tell", "()I"⟩
abbrev cX11_note : ByteArray := prog_1_method_23_code
def yX11_note : MethodName := ⟨RX11, "note", "(III)I"⟩
abbrev cX11_mark : ByteArray := prog_1_method_24_code
def yX11_mark : MethodName := ⟨RX11, "mark", "(IIII)I"⟩
abbrev cX11_forget : ByteArray := prog_1_method_25_code
def yX11_forget : MethodName := ⟨RX11, "forget", "(I)I"⟩
abbrev cX11_is : ByteArray := prog_1_method_26_code
def yX11_is : MethodName := ⟨RX11, "is", "(I)I"⟩
abbrev cX11_look : ByteArray := prog_1_method_27_code
def yX11_look : MethodName := ⟨RX11, "look", "(I)I"⟩
abbrev cX11_kinds : ByteArray := prog_1_method_28_code
def yX11_kinds : MethodName := ⟨RX11, "kinds", "(I)I"⟩
abbrev cX11_ask : ByteArray := prog_1_method_29_code
def yX11_ask : MethodName := ⟨RX11, "ask", "(I)I"⟩
abbrev cX11_lends : ByteArray := prog_1_method_30_code
def yX11_lends : MethodName := ⟨RX11, "lends", "(II)I"⟩
abbrev cX11_odds : ByteArray := prog_1_method_31_code
def yX11_odds : MethodName := ⟨RX11, "odds", "(I)I"⟩
abbrev cX11_weddings : ByteArray := prog_1_method_32_code
def yX11_weddings : MethodName := ⟨RX11, "weddings", "(II)I"⟩
abbrev cX11_part : ByteArray := prog_1_method_33_code
def yX11_part : MethodName := ⟨RX11, "part", "(I)J"⟩
abbrev cX11_image : ByteArray := prog_1_method_34_code
def yX11_image : MethodName := ⟨RX11, "image", "(I)I"⟩
abbrev cX11_from : ByteArray := prog_1_method_35_code
def yX11_from : MethodName := ⟨RX11, "from", "(I)I"⟩
abbrev cX11_status : ByteArray := prog_1_method_36_code
def yX11_status : MethodName := ⟨RX11, "status", "(I)I"⟩
abbrev cX11_count : ByteArray := prog_1_method_37_code
def yX11_count : MethodName := ⟨RX11, "count", "(I)I"⟩
abbrev cX11_digest : ByteArray := prog_1_method_38_code
def yX11_digest : MethodName := ⟨RX11, "digest", "()J"⟩
abbrev cX11_within : ByteArray := prog_1_method_39_code
def yX11_within : MethodName := ⟨RX11, "within", "(III)Z"⟩
abbrev cX11_isRope : ByteArray := prog_1_method_40_code
def yX11_isRope : MethodName := ⟨RX11, "isRope", "(I)Z"⟩
abbrev cX11_isKind : ByteArray := prog_1_method_41_code
def yX11_isKind : MethodName := ⟨RX11, "isKind", "(I)Z"⟩
abbrev cX11_isRow : ByteArray := prog_1_method_42_code
def yX11_isRow : MethodName := ⟨RX11, "isRow", "(I)Z"⟩
abbrev cX11_refuse : ByteArray := prog_1_method_43_code
def yX11_refuse : MethodName := ⟨RX11, "refuse", "(I)I"⟩
abbrev cX11_imageAt : ByteArray := prog_1_method_44_code
def yX11_imageAt : MethodName := ⟨RX11, "imageAt", "(I)LHandedSlips$Tower;"⟩
abbrev cX11_ringNow : ByteArray := prog_1_method_45_code
def yX11_ringNow : MethodName := ⟨RX11, "ringNow", "()LHandedSlips$Peal;"⟩
abbrev cX11_ropeFact : ByteArray := prog_1_method_46_code
def yX11_ropeFact : MethodName := ⟨RX11, "ropeFact", "(II)I"⟩
abbrev cX11_howMany : ByteArray := prog_1_method_47_code
def yX11_howMany : MethodName := ⟨RX11, "howMany", "(I)I"⟩
abbrev cX11_power : ByteArray := prog_1_method_48_code
def yX11_power : MethodName := ⟨RX11, "power", "(JI)J"⟩
abbrev cX11_commonDivisor : ByteArray := prog_1_method_49_code
def yX11_commonDivisor : MethodName := ⟨RX11, "commonDivisor", "(JJ)J"⟩
def RX12 : String := "HandedSlipsModel"
def TX12 : u_T := fun k => match k with
  | 0 => ("HandedSlipsModel", "refused", "[I", true)
  | 1 => ("HandedSlipsModel", "bells", "I", false)
  | 2 => ("HandedSlipsModel", "town", "I", false)
  | 3 => ("HandedSlipsModel", "heardMany", "I", false)
  | 4 => ("HandedSlipsModel", "noteMany", "I", false)
  | 5 => ("HandedSlipsModel", "markMany", "I", false)
  | 6 => ("HandedSlipsModel", "changes", "[I", true)
  | 7 => ("HandedSlipsModel", "slipKind", "[I", true)
  | 8 => ("HandedSlipsModel", "slipRow", "[I", true)
  | 9 => ("HandedSlipsModel", "ringers", "[I", true)
  | 10 => ("HandedSlipsModel", "years", "[I", true)
  | 11 => ("HandedSlipsModel", "heardOnes", "[I", true)
  | 12 => ("HandedSlipsModel", "noted", "[I", true)
  | 13 => ("HandedSlipsModel", "marked", "[I", true)
  | 14 => ("HandedSlipsModel", "text", "[I", true)
  | 15 => ("HandedSlipsModel", "typed", "I", false)
  | 16 => ("HandedSlipsModel", "readAt", "I", false)
  | 17 => ("HandedSlipsModel", "readNumber", "I", false)
  | 18 => ("HandedSlipsModel", "before", "[I", true)
  | 19 => ("HandedSlipsModel", "line", "[I", true)
  | 20 => ("HandedSlipsModel", "rungs", "[I", true)
  | 21 => ("HandedSlipsModel", "ahead", "[I", true)
  | 22 => ("HandedSlipsModel", "undoMany", "I", false)
  | 23 => ("HandedSlipsModel", "aside", "[I", true)
  | 24 => ("HandedSlipsModel", "kept", "[I", true)
  | 25 => ("HandedSlipsModel", "wouldBe", "[I", true)
  | 26 => ("HandedSlipsModel", "above", "J", false)
  | 27 => ("HandedSlipsModel", "below", "J", false)
  | 28 => ("HandedSlipsModel", "images", "[I", true)
  | 29 => ("HandedSlipsModel", "isKept", "[I", true)
  | _ => ("HandedSlipsModel", "h0", "J", false)
def tyX12 : Nat → FieldType := fun k => match k with
  | 0 => .array .int
  | 1 => .int
  | 2 => .int
  | 3 => .int
  | 4 => .int
  | 5 => .int
  | 6 => .array .int
  | 7 => .array .int
  | 8 => .array .int
  | 9 => .array .int
  | 10 => .array .int
  | 11 => .array .int
  | 12 => .array .int
  | 13 => .array .int
  | 14 => .array .int
  | 15 => .int
  | 16 => .int
  | 17 => .int
  | 18 => .array .int
  | 19 => .array .int
  | 20 => .array .int
  | 21 => .array .int
  | 22 => .int
  | 23 => .array .int
  | 24 => .array .int
  | 25 => .array .int
  | 26 => .long
  | 27 => .long
  | 28 => .array .int
  | 29 => .array .int
  | _ => .long
abbrev wsX120 : List Cond := u_ws RX12 TX12 31
theorem nmX12 : ∀ a, a < 31 → ∀ b, b < 31 → a ≠ b → (TX12 a).2.1 ≠ (TX12 b).2.1 := by decide +kernel
theorem tyX12_ok : ∀ k, k < 31 → parseFieldDescriptor (TX12 k).2.2.1 = some (tyX12 k) := by decide +kernel
abbrev cX12_bad : ByteArray := prog_14_method_1_code
def yX12_bad : MethodName := ⟨RX12, "bad", "()I"⟩
abbrev cX12_no : ByteArray := prog_14_method_3_code
def yX12_no : MethodName := ⟨RX12, "no", "()I"⟩
abbrev cX12_full : ByteArray := prog_14_method_4_code
def yX12_full : MethodName := ⟨RX12, "full", "()I"⟩
abbrev cX12_in : ByteArray := prog_14_method_5_code
def yX12_in : MethodName := ⟨RX12, "in", "(III)Z"⟩
abbrev cX12_has : ByteArray := prog_14_method_6_code
def yX12_has : MethodName := ⟨RX12, "has", "(II)Z"⟩
abbrev cX12_lesser : ByteArray := prog_14_method_7_code
def yX12_lesser : MethodName := ⟨RX12, "lesser", "(II)I"⟩
abbrev cX12_greater : ByteArray := prog_14_method_8_code
def yX12_greater : MethodName := ⟨RX12, "greater", "(II)I"⟩
abbrev cX12_bits : ByteArray := prog_14_method_9_code
def yX12_bits : MethodName := ⟨RX12, "bits", "(I)I"⟩
abbrev cX12_init : ByteArray := prog_14_method_10_code
def yX12_init : MethodName := ⟨RX12, "<init>", "()V"⟩
abbrev cX12_begin : ByteArray := prog_14_method_11_code
def yX12_begin : MethodName := ⟨RX12, "begin", "(I)V"⟩
abbrev cX12_isRope : ByteArray := prog_14_method_12_code
def yX12_isRope : MethodName := ⟨RX12, "isRope", "(I)Z"⟩
abbrev cX12_tower : ByteArray := prog_14_method_13_code
def yX12_tower : MethodName := ⟨RX12, "tower", "(I)I"⟩
abbrev cX12_method : ByteArray := prog_14_method_14_code
def yX12_method : MethodName := ⟨RX12, "method", "(II)I"⟩
abbrev cX12_type : ByteArray := prog_14_method_15_code
def yX12_type : MethodName := ⟨RX12, "type", "(I)I"⟩
abbrev cX12_clear : ByteArray := prog_14_method_16_code
def yX12_clear : MethodName := ⟨RX12, "clear", "()I"⟩
abbrev cX12_here : ByteArray := prog_14_method_17_code
def yX12_here : MethodName := ⟨RX12, "here", "()I"⟩
abbrev cX12_skip : ByteArray := prog_14_method_18_code
def yX12_skip : MethodName := ⟨RX12, "skip", "()V"⟩
abbrev cX12_isLetter : ByteArray := prog_14_method_19_code
def yX12_isLetter : MethodName := ⟨RX12, "isLetter", "(I)Z"⟩
abbrev cX12_isFigure : ByteArray := prog_14_method_20_code
def yX12_isFigure : MethodName := ⟨RX12, "isFigure", "(I)Z"⟩
abbrev cX12_wordSize : ByteArray := prog_14_method_21_code
def yX12_wordSize : MethodName := ⟨RX12, "wordSize", "()I"⟩
abbrev cX12_letter : ByteArray := prog_14_method_22_code
def yX12_letter : MethodName := ⟨RX12, "letter", "(I)I"⟩
abbrev cX12_wordHere : ByteArray := prog_14_method_23_code
def yX12_wordHere : MethodName := ⟨RX12, "wordHere", "()I"⟩
abbrev cX12_number : ByteArray := prog_14_method_24_code
def yX12_number : MethodName := ⟨RX12, "number", "(II)Z"⟩
abbrev cX12_ends : ByteArray := prog_14_method_25_code
def yX12_ends : MethodName := ⟨RX12, "ends", "()Z"⟩
abbrev cX12_readsMethod : ByteArray := prog_14_method_26_code
def yX12_readsMethod : MethodName := ⟨RX12, "readsMethod", "()Z"⟩
abbrev cX12_readsSlip : ByteArray := prog_14_method_27_code
def yX12_readsSlip : MethodName := ⟨RX12, "readsSlip", "()Z"⟩
abbrev cX12_readsRinger : ByteArray := prog_14_method_28_code
def yX12_readsRinger : MethodName := ⟨RX12, "readsRinger", "()Z"⟩
abbrev cX12_readsYears : ByteArray := prog_14_method_29_code
def yX12_readsYears : MethodName := ⟨RX12, "readsYears", "()Z"⟩
abbrev cX12_readsItem : ByteArray := prog_14_method_30_code
def yX12_readsItem : MethodName := ⟨RX12, "readsItem", "()Z"⟩
abbrev cX12_readsFirst : ByteArray := prog_14_method_31_code
def yX12_readsFirst : MethodName := ⟨RX12, "readsFirst", "()Z"⟩
abbrev cX12_readsTower : ByteArray := prog_14_method_32_code
def yX12_readsTower : MethodName := ⟨RX12, "readsTower", "()I"⟩
abbrev cX12_read : ByteArray := prog_14_method_33_code
def yX12_read : MethodName := ⟨RX12, "read", "()I"⟩
abbrev cX12_placeBy : ByteArray := prog_14_method_34_code
def yX12_placeBy : MethodName := ⟨RX12, "placeBy", "(III)I"⟩
abbrev cX12_makesBy : ByteArray := prog_14_method_35_code
def yX12_makesBy : MethodName := ⟨RX12, "makesBy", "(III)Z"⟩
abbrev cX12_slipped : ByteArray := prog_14_method_36_code
def yX12_slipped : MethodName := ⟨RX12, "slipped", "()I"⟩
abbrev cX12_made : ByteArray := prog_14_method_37_code
def yX12_made : MethodName := ⟨RX12, "made", "()I"⟩
abbrev cX12_swaps : ByteArray := prog_14_method_38_code
def yX12_swaps : MethodName := ⟨RX12, "swaps", "(I)V"⟩
abbrev cX12_setMeant : ByteArray := prog_14_method_39_code
def yX12_setMeant : MethodName := ⟨RX12, "setMeant", "(I)V"⟩
abbrev cX12_slides : ByteArray := prog_14_method_40_code
def yX12_slides : MethodName := ⟨RX12, "slides", "(II)V"⟩
abbrev cX12_setRung : ByteArray := prog_14_method_41_code
def yX12_setRung : MethodName := ⟨RX12, "setRung", "(II)V"⟩
abbrev cX12_told : ByteArray := prog_14_method_42_code
def yX12_told : MethodName := ⟨RX12, "told", "()I"⟩
abbrev cX12_meant : ByteArray := prog_14_method_43_code
def yX12_meant : MethodName := ⟨RX12, "meant", "(I)I"⟩
abbrev cX12_rung : ByteArray := prog_14_method_44_code
def yX12_rung : MethodName := ⟨RX12, "rung", "(II)I"⟩
abbrev cX12_setRungs : ByteArray := prog_14_method_45_code
def yX12_setRungs : MethodName := ⟨RX12, "setRungs", "(I)V"⟩
abbrev cX12_earlier : ByteArray := prog_14_method_46_code
def yX12_earlier : MethodName := ⟨RX12, "earlier", "(I)I"⟩
abbrev cX12_isTrue : ByteArray := prog_14_method_47_code
def yX12_isTrue : MethodName := ⟨RX12, "isTrue", "(I)Z"⟩
abbrev cX12_otherwise : ByteArray := prog_14_method_48_code
def yX12_otherwise : MethodName := ⟨RX12, "otherwise", "()I"⟩
abbrev cX12_lays : ByteArray := prog_14_method_49_code
def yX12_lays : MethodName := ⟨RX12, "lays", "([II)V"⟩
abbrev cX12_takes : ByteArray := prog_14_method_50_code
def yX12_takes : MethodName := ⟨RX12, "takes", "([II)V"⟩
abbrev cX12_notes : ByteArray := prog_14_method_51_code
def yX12_notes : MethodName := ⟨RX12, "notes", "()V"⟩
abbrev cX12_passes : ByteArray := prog_14_method_52_code
def yX12_passes : MethodName := ⟨RX12, "passes", "()V"⟩
abbrev cX12_slips : ByteArray := prog_14_method_53_code
def yX12_slips : MethodName := ⟨RX12, "slips", "(III)I"⟩
abbrev cX12_drops : ByteArray := prog_14_method_54_code
def yX12_drops : MethodName := ⟨RX12, "drops", "(I)I"⟩
abbrev cX12_hands : ByteArray := prog_14_method_55_code
def yX12_hands : MethodName := ⟨RX12, "hands", "(II)I"⟩
abbrev cX12_year : ByteArray := prog_14_method_56_code
def yX12_year : MethodName := ⟨RX12, "year", "(I)I"⟩
abbrev cX12_undo : ByteArray := prog_14_method_57_code
def yX12_undo : MethodName := ⟨RX12, "undo", "()I"⟩
abbrev cX12_ropeTells : ByteArray := prog_14_method_58_code
def yX12_ropeTells : MethodName := ⟨RX12, "ropeTells", "(II)I"⟩
abbrev cX12_of : ByteArray := prog_14_method_59_code
def yX12_of : MethodName := ⟨RX12, "of", "(II)I"⟩
abbrev cX12_row : ByteArray := prog_14_method_60_code
def yX12_row : MethodName := ⟨RX12, "row", "(II)I"⟩
abbrev cX12_repeats : ByteArray := prog_14_method_61_code
def yX12_repeats : MethodName := ⟨RX12, "repeats", "(I)I"⟩
abbrev cX12_clash : ByteArray := prog_14_method_62_code
def yX12_clash : MethodName := ⟨RX12, "clash", "(I)I"⟩
abbrev cX12_mend : ByteArray := prog_14_method_63_code
def yX12_mend : MethodName := ⟨RX12, "mend", "()I"⟩
abbrev cX12_compose : ByteArray := prog_14_method_64_code
def yX12_compose : MethodName := ⟨RX12, "compose", "()I"⟩
abbrev cX12_when : ByteArray := prog_14_method_65_code
def yX12_when : MethodName := ⟨RX12, "when", "()I"⟩
abbrev cX12_clean : ByteArray := prog_14_method_66_code
def yX12_clean : MethodName := ⟨RX12, "clean", "()I"⟩
abbrev cX12_areBells : ByteArray := prog_14_method_67_code
def yX12_areBells : MethodName := ⟨RX12, "areBells", "(I)Z"⟩
abbrev cX12_heard : ByteArray := prog_14_method_68_code
def yX12_heard : MethodName := ⟨RX12, "heard", "(II)I"⟩
abbrev cX12_isHeard : ByteArray := prog_14_method_69_code
def yX12_isHeard : MethodName := ⟨RX12, "isHeard", "(I)Z"⟩
abbrev cX12_who : ByteArray := prog_14_method_70_code
def yX12_who : MethodName := ⟨RX12, "who", "(I)I"⟩
abbrev cX12_alikeIn : ByteArray := prog_14_method_71_code
def yX12_alikeIn : MethodName := ⟨RX12, "alikeIn", "(I)I"⟩
abbrev cX12_tell : ByteArray := prog_14_method_72_code
def yX12_tell : MethodName := ⟨RX12, "tell", "()I"⟩
abbrev cX12_note : ByteArray := prog_14_method_73_code
def yX12_note : MethodName := ⟨RX12, "note", "(III)I"⟩
abbrev cX12_mark : ByteArray := prog_14_method_74_code
def yX12_mark : MethodName := ⟨RX12, "mark", "(IIII)I"⟩
abbrev cX12_forget : ByteArray := prog_14_method_75_code
def yX12_forget : MethodName := ⟨RX12, "forget", "(I)I"⟩
abbrev cX12_slipKinds : ByteArray := prog_14_method_76_code
def yX12_slipKinds : MethodName := ⟨RX12, "slipKinds", "(I)I"⟩
abbrev cX12_ringerKinds : ByteArray := prog_14_method_77_code
def yX12_ringerKinds : MethodName := ⟨RX12, "ringerKinds", "(I)I"⟩
abbrev cX12_is : ByteArray := prog_14_method_78_code
def yX12_is : MethodName := ⟨RX12, "is", "(I)I"⟩
abbrev cX12_kinds : ByteArray := prog_14_method_79_code
def yX12_kinds : MethodName := ⟨RX12, "kinds", "(I)I"⟩
abbrev cX12_look : ByteArray := prog_14_method_80_code
def yX12_look : MethodName := ⟨RX12, "look", "(I)I"⟩
abbrev cX12_ask : ByteArray := prog_14_method_81_code
def yX12_ask : MethodName := ⟨RX12, "ask", "(I)I"⟩
abbrev cX12_placeIn : ByteArray := prog_14_method_82_code
def yX12_placeIn : MethodName := ⟨RX12, "placeIn", "(I)I"⟩
abbrev cX12_gets : ByteArray := prog_14_method_83_code
def yX12_gets : MethodName := ⟨RX12, "gets", "(IIII)I"⟩
abbrev cX12_lends : ByteArray := prog_14_method_84_code
def yX12_lends : MethodName := ⟨RX12, "lends", "(II)I"⟩
abbrev cX12_lay : ByteArray := prog_14_method_85_code
def yX12_lay : MethodName := ⟨RX12, "lay", "(JJ)V"⟩
abbrev cX12_odds : ByteArray := prog_14_method_86_code
def yX12_odds : MethodName := ⟨RX12, "odds", "(I)I"⟩
abbrev cX12_weddings : ByteArray := prog_14_method_87_code
def yX12_weddings : MethodName := ⟨RX12, "weddings", "(II)I"⟩
abbrev cX12_part : ByteArray := prog_14_method_88_code
def yX12_part : MethodName := ⟨RX12, "part", "(I)J"⟩
abbrev cX12_layAll : ByteArray := prog_14_method_89_code
def yX12_layAll : MethodName := ⟨RX12, "layAll", "([II)V"⟩
abbrev cX12_takeAll : ByteArray := prog_14_method_90_code
def yX12_takeAll : MethodName := ⟨RX12, "takeAll", "([II)V"⟩
abbrev cX12_image : ByteArray := prog_14_method_91_code
def yX12_image : MethodName := ⟨RX12, "image", "(I)I"⟩
abbrev cX12_from : ByteArray := prog_14_method_92_code
def yX12_from : MethodName := ⟨RX12, "from", "(I)I"⟩
abbrev cX12_status : ByteArray := prog_14_method_93_code
def yX12_status : MethodName := ⟨RX12, "status", "(I)I"⟩
abbrev cX12_countOf : ByteArray := prog_14_method_94_code
def yX12_countOf : MethodName := ⟨RX12, "countOf", "(I)I"⟩
abbrev cX12_count : ByteArray := prog_14_method_95_code
def yX12_count : MethodName := ⟨RX12, "count", "(I)I"⟩
abbrev cX12_mix : ByteArray := prog_14_method_96_code
def yX12_mix : MethodName := ⟨RX12, "mix", "(J)V"⟩
abbrev cX12_digest : ByteArray := prog_14_method_97_code
def yX12_digest : MethodName := ⟨RX12, "digest", "()J"⟩
def RJx145de : String := "java/io/Serializable"
def TJx145de : u_T := fun k => match k with
  | _ => ("", "", "", false)
def tyJx145de : Nat → FieldType := fun k => match k with
  | _ => .int
abbrev wsJx145de0 : List Cond := u_ws RJx145de TJx145de 0
theorem nmJx145de : ∀ a, a < 0 → ∀ b, b < 0 → a ≠ b → (TJx145de a).2.1 ≠ (TJx145de b).2.1 := by decide +kernel
theorem tyJx145de_ok : ∀ k, k < 0 → parseFieldDescriptor (TJx145de k).2.2.1 = some (tyJx145de k) := by decide +kernel
def RJx9f9b0 : String := "java/lang/CharSequence"
def TJx9f9b0 : u_T := fun k => match k with
  | _ => ("", "", "", false)
def tyJx9f9b0 : Nat → FieldType := fun k => match k with
  | _ => .int
abbrev wsJx9f9b00 : List Cond := u_ws RJx9f9b0 TJx9f9b0 0
theorem nmJx9f9b0 : ∀ a, a < 0 → ∀ b, b < 0 → a ≠ b → (TJx9f9b0 a).2.1 ≠ (TJx9f9b0 b).2.1 := by decide +kernel
theorem tyJx9f9b0_ok : ∀ k, k < 0 → parseFieldDescriptor (TJx9f9b0 k).2.2.1 = some (tyJx9f9b0 k) := by decide +kernel
def RJxb160c : String := "java/lang/Comparable"
def TJxb160c : u_T := fun k => match k with
  | _ => ("", "", "", false)
def tyJxb160c : Nat → FieldType := fun k => match k with
  | _ => .int
abbrev wsJxb160c0 : List Cond := u_ws RJxb160c TJxb160c 0
theorem nmJxb160c : ∀ a, a < 0 → ∀ b, b < 0 → a ≠ b → (TJxb160c a).2.1 ≠ (TJxb160c b).2.1 := by decide +kernel
theorem tyJxb160c_ok : ∀ k, k < 0 → parseFieldDescriptor (TJxb160c k).2.2.1 = some (tyJxb160c k) := by decide +kernel
def RJ6 : String := "java/lang/Integer"
def TJ6 : u_T := fun k => match k with
  | _ => ("", "", "", false)
def tyJ6 : Nat → FieldType := fun k => match k with
  | _ => .int
abbrev wsJ60 : List Cond := u_ws RJ6 TJ6 0
theorem nmJ6 : ∀ a, a < 0 → ∀ b, b < 0 → a ≠ b → (TJ6 a).2.1 ≠ (TJ6 b).2.1 := by decide +kernel
theorem tyJ6_ok : ∀ k, k < 0 → parseFieldDescriptor (TJ6 k).2.2.1 = some (tyJ6 k) := by decide +kernel
abbrev cJ6_bitCount_0f7a4 : ByteArray := prog_15_method_49_code
def yJ6_bitCount_0f7a4 : MethodName := ⟨RJ6, "bitCount", "(I)I"⟩
def RJ9 : String := "java/lang/Math"
def TJ9 : u_T := fun k => match k with
  | _ => ("", "", "", false)
def tyJ9 : Nat → FieldType := fun k => match k with
  | _ => .int
abbrev wsJ90 : List Cond := u_ws RJ9 TJ9 0
theorem nmJ9 : ∀ a, a < 0 → ∀ b, b < 0 → a ≠ b → (TJ9 a).2.1 ≠ (TJ9 b).2.1 := by decide +kernel
theorem tyJ9_ok : ∀ k, k < 0 → parseFieldDescriptor (TJ9 k).2.2.1 = some (tyJ9 k) := by decide +kernel
abbrev cJ9_max_7cf53 : ByteArray := prog_16_method_65_code
def yJ9_max_7cf53 : MethodName := ⟨RJ9, "max", "(II)I"⟩
abbrev cJ9_min_7cf53 : ByteArray := prog_16_method_69_code
def yJ9_min_7cf53 : MethodName := ⟨RJ9, "min", "(II)I"⟩
def RJ0 : String := "java/lang/String"
def TJ0 : u_T := fun k => match k with
  | _ => ("", "", "", false)
def tyJ0 : Nat → FieldType := fun k => match k with
  | _ => .int
abbrev wsJ00 : List Cond := u_ws RJ0 TJ0 0
theorem nmJ0 : ∀ a, a < 0 → ∀ b, b < 0 → a ≠ b → (TJ0 a).2.1 ≠ (TJ0 b).2.1 := by decide +kernel
theorem tyJ0_ok : ∀ k, k < 0 → parseFieldDescriptor (TJ0 k).2.2.1 = some (tyJ0 k) := by decide +kernel
abbrev cJ0_length_8abf5 : ByteArray := prog_17_method_54_code
def yJ0_length_8abf5 : MethodName := ⟨RJ0, "length", "()I"⟩
abbrev cJ0_charAt_5068e : ByteArray := prog_17_method_56_code
def yJ0_charAt_5068e : MethodName := ⟨RJ0, "charAt", "(I)C"⟩
abbrev cJ0_coder_7d493 : ByteArray := prog_17_method_152_code
def yJ0_coder_7d493 : MethodName := ⟨RJ0, "coder", "()B"⟩
abbrev cJ0_isLatin1_aae02 : ByteArray := prog_17_method_154_code
def yJ0_isLatin1_aae02 : MethodName := ⟨RJ0, "isLatin1", "()Z"⟩
abbrev cJ0_checkIndex_df160 : ByteArray := prog_17_method_155_code
def yJ0_checkIndex_df160 : MethodName := ⟨RJ0, "checkIndex", "(II)V"⟩
def RJ1 : String := "java/lang/StringLatin1"
def TJ1 : u_T := fun k => match k with
  | _ => ("", "", "", false)
def tyJ1 : Nat → FieldType := fun k => match k with
  | _ => .int
abbrev wsJ10 : List Cond := u_ws RJ1 TJ1 0
theorem nmJ1 : ∀ a, a < 0 → ∀ b, b < 0 → a ≠ b → (TJ1 a).2.1 ≠ (TJ1 b).2.1 := by decide +kernel
theorem tyJ1_ok : ∀ k, k < 0 → parseFieldDescriptor (TJ1 k).2.2.1 = some (tyJ1 k) := by decide +kernel
abbrev cJ1_charAt_3b067 : ByteArray := prog_18_method_2_code
def yJ1_charAt_3b067 : MethodName := ⟨RJ1, "charAt", "([BI)C"⟩
def RJ2 : String := "java/lang/StringUTF16"
def TJ2 : u_T := fun k => match k with
  | _ => ("", "", "", false)
def tyJ2 : Nat → FieldType := fun k => match k with
  | _ => .int
abbrev wsJ20 : List Cond := u_ws RJ2 TJ2 0
theorem nmJ2 : ∀ a, a < 0 → ∀ b, b < 0 → a ≠ b → (TJ2 a).2.1 ≠ (TJ2 b).2.1 := by decide +kernel
theorem tyJ2_ok : ∀ k, k < 0 → parseFieldDescriptor (TJ2 k).2.2.1 = some (tyJ2 k) := by decide +kernel
abbrev cJ2_getChar_3b067 : ByteArray := prog_19_method_5_code
def yJ2_getChar_3b067 : MethodName := ⟨RJ2, "getChar", "([BI)C"⟩
abbrev cJ2_length_9d52b : ByteArray := prog_19_method_6_code
def yJ2_length_9d52b : MethodName := ⟨RJ2, "length", "([B)I"⟩
abbrev cJ2_charAt_3b067 : ByteArray := prog_19_method_83_code
def yJ2_charAt_3b067 : MethodName := ⟨RJ2, "charAt", "([BI)C"⟩
abbrev cJ2_checkIndex_2214a : ByteArray := prog_19_method_91_code
def yJ2_checkIndex_2214a : MethodName := ⟨RJ2, "checkIndex", "(I[B)V"⟩
def RJ10 : String := "java/lang/System"
def TJ10 : u_T := fun k => match k with
  | _ => ("", "", "", false)
def tyJ10 : Nat → FieldType := fun k => match k with
  | _ => .int
abbrev wsJ100 : List Cond := u_ws RJ10 TJ10 0
theorem nmJ10 : ∀ a, a < 0 → ∀ b, b < 0 → a ≠ b → (TJ10 a).2.1 ≠ (TJ10 b).2.1 := by decide +kernel
theorem tyJ10_ok : ∀ k, k < 0 → parseFieldDescriptor (TJ10 k).2.2.1 = some (tyJ10 k) := by decide +kernel
def RJxfd54e : String := "java/lang/constant/Constable"
def TJxfd54e : u_T := fun k => match k with
  | _ => ("", "", "", false)
def tyJxfd54e : Nat → FieldType := fun k => match k with
  | _ => .int
abbrev wsJxfd54e0 : List Cond := u_ws RJxfd54e TJxfd54e 0
theorem nmJxfd54e : ∀ a, a < 0 → ∀ b, b < 0 → a ≠ b → (TJxfd54e a).2.1 ≠ (TJxfd54e b).2.1 := by decide +kernel
theorem tyJxfd54e_ok : ∀ k, k < 0 → parseFieldDescriptor (TJxfd54e k).2.2.1 = some (tyJxfd54e k) := by decide +kernel
def RJx3cf43 : String := "java/lang/constant/ConstantDesc"
def TJx3cf43 : u_T := fun k => match k with
  | _ => ("", "", "", false)
def tyJx3cf43 : Nat → FieldType := fun k => match k with
  | _ => .int
abbrev wsJx3cf430 : List Cond := u_ws RJx3cf43 TJx3cf43 0
theorem nmJx3cf43 : ∀ a, a < 0 → ∀ b, b < 0 → a ≠ b → (TJx3cf43 a).2.1 ≠ (TJx3cf43 b).2.1 := by decide +kernel
theorem tyJx3cf43_ok : ∀ k, k < 0 → parseFieldDescriptor (TJx3cf43 k).2.2.1 = some (tyJx3cf43 k) := by decide +kernel
def RJ7 : String := "java/util/Arrays"
def TJ7 : u_T := fun k => match k with
  | _ => ("", "", "", false)
def tyJ7 : Nat → FieldType := fun k => match k with
  | _ => .int
abbrev wsJ70 : List Cond := u_ws RJ7 TJ7 0
theorem nmJ7 : ∀ a, a < 0 → ∀ b, b < 0 → a ≠ b → (TJ7 a).2.1 ≠ (TJ7 b).2.1 := by decide +kernel
theorem tyJ7_ok : ∀ k, k < 0 → parseFieldDescriptor (TJ7 k).2.2.1 = some (tyJ7 k) := by decide +kernel
abbrev cJ7_fill_53178 : ByteArray := prog_21_method_103_code
def yJ7_fill_53178 : MethodName := ⟨RJ7, "fill", "([II)V"⟩
def RJ3 : String := "jdk/internal/util/Preconditions"
def TJ3 : u_T := fun k => match k with
  | _ => ("", "", "", false)
def tyJ3 : Nat → FieldType := fun k => match k with
  | _ => .int
abbrev wsJ30 : List Cond := u_ws RJ3 TJ3 0
theorem nmJ3 : ∀ a, a < 0 → ∀ b, b < 0 → a ≠ b → (TJ3 a).2.1 ≠ (TJ3 b).2.1 := by decide +kernel
theorem tyJ3_ok : ∀ k, k < 0 → parseFieldDescriptor (TJ3 k).2.2.1 = some (tyJ3 k) := by decide +kernel
abbrev cJ3_checkIndex_8e157 : ByteArray := prog_22_method_11_code
def yJ3_checkIndex_8e157 : MethodName := ⟨RJ3, "checkIndex", "(IILjava/util/function/BiFunction;)I"⟩
def RL : String := "HandedSlipsLaw"
abbrev cL_law : ByteArray := code
def yL_law : MethodName := ⟨RL, "law", "([I)Z"⟩
abbrev vwCl : List vw_C := [(RX0, TX0, 4), (RX1, TX1, 2), (RX2, TX2, 6), (RX3, TX3, 7), (RX4, TX4, 2), (RX6, TX6, 5), (RX7, TX7, 1), (RX9, TX9, 2), (RX10, TX10, 7), (RX11, TX11, 11), (RX12, TX12, 31)]
theorem ip_in_X0 : ∀ w ∈ u_ws RX0 TX0 4, w ∈ lw_tbl := by decide +kernel
theorem ip_in_X1 : ∀ w ∈ u_ws RX1 TX1 2, w ∈ lw_tbl := by decide +kernel
theorem ip_in_X2 : ∀ w ∈ u_ws RX2 TX2 6, w ∈ lw_tbl := by decide +kernel
theorem ip_in_X3 : ∀ w ∈ u_ws RX3 TX3 7, w ∈ lw_tbl := by decide +kernel
theorem ip_in_X4 : ∀ w ∈ u_ws RX4 TX4 2, w ∈ lw_tbl := by decide +kernel
theorem ip_in_X6 : ∀ w ∈ u_ws RX6 TX6 5, w ∈ lw_tbl := by decide +kernel
theorem ip_in_X7 : ∀ w ∈ u_ws RX7 TX7 1, w ∈ lw_tbl := by decide +kernel
theorem ip_in_X9 : ∀ w ∈ u_ws RX9 TX9 2, w ∈ lw_tbl := by decide +kernel
theorem ip_in_X10 : ∀ w ∈ u_ws RX10 TX10 7, w ∈ lw_tbl := by decide +kernel
theorem ip_in_X11 : ∀ w ∈ u_ws RX11 TX11 11, w ∈ lw_tbl := by decide +kernel
theorem ip_in_X12 : ∀ w ∈ u_ws RX12 TX12 31, w ∈ lw_tbl := by decide +kernel
theorem ip_cl_in : ∀ (ci : Nat) (r : vw_C), vwCl[ci]? = some r → ∀ w ∈ u_ws r.1 r.2.1 r.2.2, w ∈ lw_tbl := by
  intro ci r h
  have hm := List.mem_of_getElem? h
  simp only [vwCl, List.mem_cons, List.not_mem_nil, or_false] at hm
  rcases hm with rfl | rfl | rfl | rfl | rfl | rfl | rfl | rfl | rfl | rfl | rfl
  · exact ip_in_X0
  · exact ip_in_X1
  · exact ip_in_X2
  · exact ip_in_X3
  · exact ip_in_X4
  · exact ip_in_X6
  · exact ip_in_X7
  · exact ip_in_X9
  · exact ip_in_X10
  · exact ip_in_X11
  · exact ip_in_X12
def ip_ty : Nat → Nat → FieldType := fun ci => match ci with
  | 0 => tyX0
  | 1 => tyX1
  | 2 => tyX2
  | 3 => tyX3
  | 4 => tyX4
  | 5 => tyX6
  | 6 => tyX7
  | 7 => tyX9
  | 8 => tyX10
  | 9 => tyX11
  | _ => tyX12
theorem ip_cl_ty : ∀ (ci : Nat) (r : vw_C), vwCl[ci]? = some r → (∀ k, k < r.2.2 → parseFieldDescriptor (r.2.1 k).2.2.1 = some (ip_ty ci k)) ∧ (∀ a, a < r.2.2 → ∀ b, b < r.2.2 → a ≠ b → (r.2.1 a).2.1 ≠ (r.2.1 b).2.1) := by
  intro ci r h
  match ci, h with
  | 0, h => cases h; exact ⟨tyX0_ok, nmX0⟩
  | 1, h => cases h; exact ⟨tyX1_ok, nmX1⟩
  | 2, h => cases h; exact ⟨tyX2_ok, nmX2⟩
  | 3, h => cases h; exact ⟨tyX3_ok, nmX3⟩
  | 4, h => cases h; exact ⟨tyX4_ok, nmX4⟩
  | 5, h => cases h; exact ⟨tyX6_ok, nmX6⟩
  | 6, h => cases h; exact ⟨tyX7_ok, nmX7⟩
  | 7, h => cases h; exact ⟨tyX9_ok, nmX9⟩
  | 8, h => cases h; exact ⟨tyX10_ok, nmX10⟩
  | 9, h => cases h; exact ⟨tyX11_ok, nmX11⟩
  | 10, h => cases h; exact ⟨tyX12_ok, nmX12⟩
  | k + 11, h => simp [vwCl] at h
