section
-- ===== PART A: goes FIRST, ahead of the names: the tables' words, and 'selects' of the private methods out of them =====
/-- a private method of a class that the tables say can be made, by its rows of tables_1 -/
def lw_okq (q : MethodName × Nat) : Prop := (q.1.cls ≠ "java/lang/invoke/MethodHandle" ∧ q.1.cls ≠ "java/lang/invoke/VarHandle") ∧ Cond.instantiable q.1.cls q.2 ∈ tables_1 ∧ Cond.privateMethod q.1 ∈ tables_1 ∧ Cond.instanceMethod q.1 ∈ tables_1
theorem lw_p0 : lw_okq (⟨"HandedSlips$Ropes", "setCell", "(III)V"⟩, 1) := ⟨⟨by decide +kernel, by decide +kernel⟩, List.mem_of_getElem? (i := 37) (by decide +kernel), List.mem_of_getElem? (i := 58) (by decide +kernel), List.mem_of_getElem? (i := 59) (by decide +kernel)⟩
theorem lw_p1 : lw_okq (⟨"HandedSlips", "refuse", "(I)I"⟩, 11) := ⟨⟨by decide +kernel, by decide +kernel⟩, List.mem_of_getElem? (i := 23) (by decide +kernel), List.mem_of_getElem? (i := 304) (by decide +kernel), List.mem_of_getElem? (i := 305) (by decide +kernel)⟩
theorem lw_p2 : lw_okq (⟨"HandedSlips$Reader", "nextToken", "()V"⟩, 7) := ⟨⟨by decide +kernel, by decide +kernel⟩, List.mem_of_getElem? (i := 155) (by decide +kernel), List.mem_of_getElem? (i := 352) (by decide +kernel), List.mem_of_getElem? (i := 353) (by decide +kernel)⟩
theorem lw_p3 : lw_okq (⟨"HandedSlips$Reader", "skip", "(III)I"⟩, 7) := ⟨⟨by decide +kernel, by decide +kernel⟩, List.mem_of_getElem? (i := 155) (by decide +kernel), List.mem_of_getElem? (i := 356) (by decide +kernel), List.mem_of_getElem? (i := 357) (by decide +kernel)⟩
theorem lw_p4 : lw_okq (⟨"HandedSlips$Reader", "itemSpelled", "()I"⟩, 7) := ⟨⟨by decide +kernel, by decide +kernel⟩, List.mem_of_getElem? (i := 155) (by decide +kernel), List.mem_of_getElem? (i := 365) (by decide +kernel), List.mem_of_getElem? (i := 366) (by decide +kernel)⟩
theorem lw_p5 : lw_okq (⟨"HandedSlips$Reader", "numberSpelled", "()I"⟩, 7) := ⟨⟨by decide +kernel, by decide +kernel⟩, List.mem_of_getElem? (i := 155) (by decide +kernel), List.mem_of_getElem? (i := 430) (by decide +kernel), List.mem_of_getElem? (i := 431) (by decide +kernel)⟩
theorem lw_p6 : lw_okq (⟨"HandedSlips$Reader", "readItem", "(Z)Z"⟩, 7) := ⟨⟨by decide +kernel, by decide +kernel⟩, List.mem_of_getElem? (i := 155) (by decide +kernel), List.mem_of_getElem? (i := 434) (by decide +kernel), List.mem_of_getElem? (i := 435) (by decide +kernel)⟩
theorem lw_p7 : lw_okq (⟨"HandedSlips$Reader", "standsAt", "(II)Z"⟩, 7) := ⟨⟨by decide +kernel, by decide +kernel⟩, List.mem_of_getElem? (i := 155) (by decide +kernel), List.mem_of_getElem? (i := 441) (by decide +kernel), List.mem_of_getElem? (i := 442) (by decide +kernel)⟩
theorem lw_p8 : lw_okq (⟨"HandedSlips$Reader", "apply", "(I)V"⟩, 7) := ⟨⟨by decide +kernel, by decide +kernel⟩, List.mem_of_getElem? (i := 155) (by decide +kernel), List.mem_of_getElem? (i := 448) (by decide +kernel), List.mem_of_getElem? (i := 449) (by decide +kernel)⟩
theorem lw_p9 : lw_okq (⟨"HandedSlips$Ropes", "cell", "(II)I"⟩, 1) := ⟨⟨by decide +kernel, by decide +kernel⟩, List.mem_of_getElem? (i := 37) (by decide +kernel), List.mem_of_getElem? (i := 476) (by decide +kernel), List.mem_of_getElem? (i := 477) (by decide +kernel)⟩
theorem lw_p10 : lw_okq (⟨"HandedSlips", "isRope", "(I)Z"⟩, 11) := ⟨⟨by decide +kernel, by decide +kernel⟩, List.mem_of_getElem? (i := 23) (by decide +kernel), List.mem_of_getElem? (i := 507) (by decide +kernel), List.mem_of_getElem? (i := 508) (by decide +kernel)⟩
theorem lw_p11 : lw_okq (⟨"HandedSlips$History", "dropOldest", "()V"⟩, 2) := ⟨⟨by decide +kernel, by decide +kernel⟩, List.mem_of_getElem? (i := 68) (by decide +kernel), List.mem_of_getElem? (i := 524) (by decide +kernel), List.mem_of_getElem? (i := 525) (by decide +kernel)⟩
theorem lw_p12 : lw_okq (⟨"HandedSlips", "ringNow", "()LHandedSlips$Peal;"⟩, 11) := ⟨⟨by decide +kernel, by decide +kernel⟩, List.mem_of_getElem? (i := 23) (by decide +kernel), List.mem_of_getElem? (i := 546) (by decide +kernel), List.mem_of_getElem? (i := 547) (by decide +kernel)⟩
theorem lw_p13 : lw_okq (⟨"HandedSlips$Peal", "numberOf", "([I)I"⟩, 6) := ⟨⟨by decide +kernel, by decide +kernel⟩, List.mem_of_getElem? (i := 194) (by decide +kernel), List.mem_of_getElem? (i := 555) (by decide +kernel), List.mem_of_getElem? (i := 556) (by decide +kernel)⟩
theorem lw_p14 : lw_okq (⟨"HandedSlips$Peal", "swapPairs", "([II)V"⟩, 6) := ⟨⟨by decide +kernel, by decide +kernel⟩, List.mem_of_getElem? (i := 194) (by decide +kernel), List.mem_of_getElem? (i := 560) (by decide +kernel), List.mem_of_getElem? (i := 561) (by decide +kernel)⟩
theorem lw_p15 : lw_okq (⟨"HandedSlips$Peal", "makeSlip", "([III)V"⟩, 6) := ⟨⟨by decide +kernel, by decide +kernel⟩, List.mem_of_getElem? (i := 194) (by decide +kernel), List.mem_of_getElem? (i := 589) (by decide +kernel), List.mem_of_getElem? (i := 590) (by decide +kernel)⟩
def lw_privs_1 : List (MethodName × Nat) := [(⟨"HandedSlips$Ropes", "setCell", "(III)V"⟩, 1), (⟨"HandedSlips", "refuse", "(I)I"⟩, 11), (⟨"HandedSlips$Reader", "nextToken", "()V"⟩, 7), (⟨"HandedSlips$Reader", "skip", "(III)I"⟩, 7), (⟨"HandedSlips$Reader", "itemSpelled", "()I"⟩, 7), (⟨"HandedSlips$Reader", "numberSpelled", "()I"⟩, 7), (⟨"HandedSlips$Reader", "readItem", "(Z)Z"⟩, 7), (⟨"HandedSlips$Reader", "standsAt", "(II)Z"⟩, 7), (⟨"HandedSlips$Reader", "apply", "(I)V"⟩, 7), (⟨"HandedSlips$Ropes", "cell", "(II)I"⟩, 1), (⟨"HandedSlips", "isRope", "(I)Z"⟩, 11), (⟨"HandedSlips$History", "dropOldest", "()V"⟩, 2), (⟨"HandedSlips", "ringNow", "()LHandedSlips$Peal;"⟩, 11), (⟨"HandedSlips$Peal", "numberOf", "([I)I"⟩, 6), (⟨"HandedSlips$Peal", "swapPairs", "([II)V"⟩, 6), (⟨"HandedSlips$Peal", "makeSlip", "([III)V"⟩, 6)]
theorem lw_r1 : ∀ q ∈ lw_privs_1, lw_okq q := List.forall_mem_cons.mpr ⟨lw_p0, List.forall_mem_cons.mpr ⟨lw_p1, List.forall_mem_cons.mpr ⟨lw_p2, List.forall_mem_cons.mpr ⟨lw_p3, List.forall_mem_cons.mpr ⟨lw_p4, List.forall_mem_cons.mpr ⟨lw_p5, List.forall_mem_cons.mpr ⟨lw_p6, List.forall_mem_cons.mpr ⟨lw_p7, List.forall_mem_cons.mpr ⟨lw_p8, List.forall_mem_cons.mpr ⟨lw_p9, List.forall_mem_cons.mpr ⟨lw_p10, List.forall_mem_cons.mpr ⟨lw_p11, List.forall_mem_cons.mpr ⟨lw_p12, List.forall_mem_cons.mpr ⟨lw_p13, List.forall_mem_cons.mpr ⟨lw_p14, List.forall_mem_cons.mpr ⟨lw_p15, fun _ h => absurd h List.not_mem_nil⟩⟩⟩⟩⟩⟩⟩⟩⟩⟩⟩⟩⟩⟩⟩⟩
theorem lw_p16 : lw_okq (⟨"HandedSlips$Peal", "placeOf", "([II)I"⟩, 6) := ⟨⟨by decide +kernel, by decide +kernel⟩, List.mem_of_getElem? (i := 194) (by decide +kernel), List.mem_of_getElem? (i := 593) (by decide +kernel), List.mem_of_getElem? (i := 594) (by decide +kernel)⟩
theorem lw_p17 : lw_okq (⟨"HandedSlips", "ropeFact", "(II)I"⟩, 11) := ⟨⟨by decide +kernel, by decide +kernel⟩, List.mem_of_getElem? (i := 23) (by decide +kernel), List.mem_of_getElem? (i := 630) (by decide +kernel), List.mem_of_getElem? (i := 631) (by decide +kernel)⟩
theorem lw_p18 : lw_okq (⟨"HandedSlips$Ringing", "trialNumber", "()I"⟩, 5) := ⟨⟨by decide +kernel, by decide +kernel⟩, List.mem_of_getElem? (i := 188) (by decide +kernel), List.mem_of_getElem? (i := 689) (by decide +kernel), List.mem_of_getElem? (i := 690) (by decide +kernel)⟩
theorem lw_p19 : lw_okq (⟨"HandedSlips$Ringing", "advanceTrial", "(I)Z"⟩, 5) := ⟨⟨by decide +kernel, by decide +kernel⟩, List.mem_of_getElem? (i := 188) (by decide +kernel), List.mem_of_getElem? (i := 694) (by decide +kernel), List.mem_of_getElem? (i := 695) (by decide +kernel)⟩
theorem lw_p20 : lw_okq (⟨"HandedSlips", "isRow", "(I)Z"⟩, 11) := ⟨⟨by decide +kernel, by decide +kernel⟩, List.mem_of_getElem? (i := 23) (by decide +kernel), List.mem_of_getElem? (i := 716) (by decide +kernel), List.mem_of_getElem? (i := 717) (by decide +kernel)⟩
theorem lw_p21 : lw_okq (⟨"HandedSlips$Evidence", "addSet", "(ILHandedSlips$Peal;)V"⟩, 4) := ⟨⟨by decide +kernel, by decide +kernel⟩, List.mem_of_getElem? (i := 242) (by decide +kernel), List.mem_of_getElem? (i := 748) (by decide +kernel), List.mem_of_getElem? (i := 749) (by decide +kernel)⟩
theorem lw_p22 : lw_okq (⟨"HandedSlips$Evidence", "mostAlike", "(I)I"⟩, 4) := ⟨⟨by decide +kernel, by decide +kernel⟩, List.mem_of_getElem? (i := 242) (by decide +kernel), List.mem_of_getElem? (i := 769) (by decide +kernel), List.mem_of_getElem? (i := 770) (by decide +kernel)⟩
theorem lw_p23 : lw_okq (⟨"HandedSlips$Evidence", "mostComingAlike", "(II)I"⟩, 4) := ⟨⟨by decide +kernel, by decide +kernel⟩, List.mem_of_getElem? (i := 242) (by decide +kernel), List.mem_of_getElem? (i := 803) (by decide +kernel), List.mem_of_getElem? (i := 804) (by decide +kernel)⟩
theorem lw_p24 : lw_okq (⟨"HandedSlips", "imageAt", "(I)LHandedSlips$Tower;"⟩, 11) := ⟨⟨by decide +kernel, by decide +kernel⟩, List.mem_of_getElem? (i := 23) (by decide +kernel), List.mem_of_getElem? (i := 887) (by decide +kernel), List.mem_of_getElem? (i := 888) (by decide +kernel)⟩
theorem lw_p25 : lw_okq (⟨"HandedSlips", "howMany", "(I)I"⟩, 11) := ⟨⟨by decide +kernel, by decide +kernel⟩, List.mem_of_getElem? (i := 23) (by decide +kernel), List.mem_of_getElem? (i := 903) (by decide +kernel), List.mem_of_getElem? (i := 904) (by decide +kernel)⟩
theorem lw_p26 : lw_okq (⟨"HandedSlipsModel", "begin", "(I)V"⟩, 31) := ⟨⟨by decide +kernel, by decide +kernel⟩, List.mem_of_getElem? (i := 921) (by decide +kernel), List.mem_of_getElem? (i := 927) (by decide +kernel), List.mem_of_getElem? (i := 928) (by decide +kernel)⟩
theorem lw_p27 : lw_okq (⟨"HandedSlipsModel", "bad", "()I"⟩, 31) := ⟨⟨by decide +kernel, by decide +kernel⟩, List.mem_of_getElem? (i := 921) (by decide +kernel), List.mem_of_getElem? (i := 1032) (by decide +kernel), List.mem_of_getElem? (i := 1033) (by decide +kernel)⟩
theorem lw_p28 : lw_okq (⟨"HandedSlipsModel", "full", "()I"⟩, 31) := ⟨⟨by decide +kernel, by decide +kernel⟩, List.mem_of_getElem? (i := 921) (by decide +kernel), List.mem_of_getElem? (i := 1044) (by decide +kernel), List.mem_of_getElem? (i := 1045) (by decide +kernel)⟩
theorem lw_p29 : lw_okq (⟨"HandedSlipsModel", "layAll", "([II)V"⟩, 31) := ⟨⟨by decide +kernel, by decide +kernel⟩, List.mem_of_getElem? (i := 921) (by decide +kernel), List.mem_of_getElem? (i := 1056) (by decide +kernel), List.mem_of_getElem? (i := 1057) (by decide +kernel)⟩
theorem lw_p30 : lw_okq (⟨"HandedSlipsModel", "lays", "([II)V"⟩, 31) := ⟨⟨by decide +kernel, by decide +kernel⟩, List.mem_of_getElem? (i := 921) (by decide +kernel), List.mem_of_getElem? (i := 1060) (by decide +kernel), List.mem_of_getElem? (i := 1061) (by decide +kernel)⟩
theorem lw_p31 : lw_okq (⟨"HandedSlipsModel", "readsTower", "()I"⟩, 31) := ⟨⟨by decide +kernel, by decide +kernel⟩, List.mem_of_getElem? (i := 921) (by decide +kernel), List.mem_of_getElem? (i := 1064) (by decide +kernel), List.mem_of_getElem? (i := 1065) (by decide +kernel)⟩
def lw_privs_2 : List (MethodName × Nat) := [(⟨"HandedSlips$Peal", "placeOf", "([II)I"⟩, 6), (⟨"HandedSlips", "ropeFact", "(II)I"⟩, 11), (⟨"HandedSlips$Ringing", "trialNumber", "()I"⟩, 5), (⟨"HandedSlips$Ringing", "advanceTrial", "(I)Z"⟩, 5), (⟨"HandedSlips", "isRow", "(I)Z"⟩, 11), (⟨"HandedSlips$Evidence", "addSet", "(ILHandedSlips$Peal;)V"⟩, 4), (⟨"HandedSlips$Evidence", "mostAlike", "(I)I"⟩, 4), (⟨"HandedSlips$Evidence", "mostComingAlike", "(II)I"⟩, 4), (⟨"HandedSlips", "imageAt", "(I)LHandedSlips$Tower;"⟩, 11), (⟨"HandedSlips", "howMany", "(I)I"⟩, 11), (⟨"HandedSlipsModel", "begin", "(I)V"⟩, 31), (⟨"HandedSlipsModel", "bad", "()I"⟩, 31), (⟨"HandedSlipsModel", "full", "()I"⟩, 31), (⟨"HandedSlipsModel", "layAll", "([II)V"⟩, 31), (⟨"HandedSlipsModel", "lays", "([II)V"⟩, 31), (⟨"HandedSlipsModel", "readsTower", "()I"⟩, 31)]
theorem lw_r2 : ∀ q ∈ lw_privs_2, lw_okq q := List.forall_mem_cons.mpr ⟨lw_p16, List.forall_mem_cons.mpr ⟨lw_p17, List.forall_mem_cons.mpr ⟨lw_p18, List.forall_mem_cons.mpr ⟨lw_p19, List.forall_mem_cons.mpr ⟨lw_p20, List.forall_mem_cons.mpr ⟨lw_p21, List.forall_mem_cons.mpr ⟨lw_p22, List.forall_mem_cons.mpr ⟨lw_p23, List.forall_mem_cons.mpr ⟨lw_p24, List.forall_mem_cons.mpr ⟨lw_p25, List.forall_mem_cons.mpr ⟨lw_p26, List.forall_mem_cons.mpr ⟨lw_p27, List.forall_mem_cons.mpr ⟨lw_p28, List.forall_mem_cons.mpr ⟨lw_p29, List.forall_mem_cons.mpr ⟨lw_p30, List.forall_mem_cons.mpr ⟨lw_p31, fun _ h => absurd h List.not_mem_nil⟩⟩⟩⟩⟩⟩⟩⟩⟩⟩⟩⟩⟩⟩⟩⟩
theorem lw_p32 : lw_okq (⟨"HandedSlipsModel", "readsFirst", "()Z"⟩, 31) := ⟨⟨by decide +kernel, by decide +kernel⟩, List.mem_of_getElem? (i := 921) (by decide +kernel), List.mem_of_getElem? (i := 1068) (by decide +kernel), List.mem_of_getElem? (i := 1069) (by decide +kernel)⟩
theorem lw_p33 : lw_okq (⟨"HandedSlipsModel", "skip", "()V"⟩, 31) := ⟨⟨by decide +kernel, by decide +kernel⟩, List.mem_of_getElem? (i := 921) (by decide +kernel), List.mem_of_getElem? (i := 1072) (by decide +kernel), List.mem_of_getElem? (i := 1073) (by decide +kernel)⟩
theorem lw_p34 : lw_okq (⟨"HandedSlipsModel", "here", "()I"⟩, 31) := ⟨⟨by decide +kernel, by decide +kernel⟩, List.mem_of_getElem? (i := 921) (by decide +kernel), List.mem_of_getElem? (i := 1076) (by decide +kernel), List.mem_of_getElem? (i := 1077) (by decide +kernel)⟩
theorem lw_p35 : lw_okq (⟨"HandedSlipsModel", "wordHere", "()I"⟩, 31) := ⟨⟨by decide +kernel, by decide +kernel⟩, List.mem_of_getElem? (i := 921) (by decide +kernel), List.mem_of_getElem? (i := 1080) (by decide +kernel), List.mem_of_getElem? (i := 1081) (by decide +kernel)⟩
theorem lw_p36 : lw_okq (⟨"HandedSlipsModel", "wordSize", "()I"⟩, 31) := ⟨⟨by decide +kernel, by decide +kernel⟩, List.mem_of_getElem? (i := 921) (by decide +kernel), List.mem_of_getElem? (i := 1084) (by decide +kernel), List.mem_of_getElem? (i := 1085) (by decide +kernel)⟩
theorem lw_p37 : lw_okq (⟨"HandedSlipsModel", "letter", "(I)I"⟩, 31) := ⟨⟨by decide +kernel, by decide +kernel⟩, List.mem_of_getElem? (i := 921) (by decide +kernel), List.mem_of_getElem? (i := 1091) (by decide +kernel), List.mem_of_getElem? (i := 1092) (by decide +kernel)⟩
theorem lw_p38 : lw_okq (⟨"HandedSlipsModel", "number", "(II)Z"⟩, 31) := ⟨⟨by decide +kernel, by decide +kernel⟩, List.mem_of_getElem? (i := 921) (by decide +kernel), List.mem_of_getElem? (i := 1095) (by decide +kernel), List.mem_of_getElem? (i := 1096) (by decide +kernel)⟩
theorem lw_p39 : lw_okq (⟨"HandedSlipsModel", "ends", "()Z"⟩, 31) := ⟨⟨by decide +kernel, by decide +kernel⟩, List.mem_of_getElem? (i := 921) (by decide +kernel), List.mem_of_getElem? (i := 1102) (by decide +kernel), List.mem_of_getElem? (i := 1103) (by decide +kernel)⟩
theorem lw_p40 : lw_okq (⟨"HandedSlipsModel", "readsItem", "()Z"⟩, 31) := ⟨⟨by decide +kernel, by decide +kernel⟩, List.mem_of_getElem? (i := 921) (by decide +kernel), List.mem_of_getElem? (i := 1106) (by decide +kernel), List.mem_of_getElem? (i := 1107) (by decide +kernel)⟩
theorem lw_p41 : lw_okq (⟨"HandedSlipsModel", "readsMethod", "()Z"⟩, 31) := ⟨⟨by decide +kernel, by decide +kernel⟩, List.mem_of_getElem? (i := 921) (by decide +kernel), List.mem_of_getElem? (i := 1110) (by decide +kernel), List.mem_of_getElem? (i := 1111) (by decide +kernel)⟩
theorem lw_p42 : lw_okq (⟨"HandedSlipsModel", "readsSlip", "()Z"⟩, 31) := ⟨⟨by decide +kernel, by decide +kernel⟩, List.mem_of_getElem? (i := 921) (by decide +kernel), List.mem_of_getElem? (i := 1114) (by decide +kernel), List.mem_of_getElem? (i := 1115) (by decide +kernel)⟩
theorem lw_p43 : lw_okq (⟨"HandedSlipsModel", "readsRinger", "()Z"⟩, 31) := ⟨⟨by decide +kernel, by decide +kernel⟩, List.mem_of_getElem? (i := 921) (by decide +kernel), List.mem_of_getElem? (i := 1118) (by decide +kernel), List.mem_of_getElem? (i := 1119) (by decide +kernel)⟩
theorem lw_p44 : lw_okq (⟨"HandedSlipsModel", "readsYears", "()Z"⟩, 31) := ⟨⟨by decide +kernel, by decide +kernel⟩, List.mem_of_getElem? (i := 921) (by decide +kernel), List.mem_of_getElem? (i := 1122) (by decide +kernel), List.mem_of_getElem? (i := 1123) (by decide +kernel)⟩
theorem lw_p45 : lw_okq (⟨"HandedSlipsModel", "passes", "()V"⟩, 31) := ⟨⟨by decide +kernel, by decide +kernel⟩, List.mem_of_getElem? (i := 921) (by decide +kernel), List.mem_of_getElem? (i := 1126) (by decide +kernel), List.mem_of_getElem? (i := 1127) (by decide +kernel)⟩
theorem lw_p46 : lw_okq (⟨"HandedSlipsModel", "takeAll", "([II)V"⟩, 31) := ⟨⟨by decide +kernel, by decide +kernel⟩, List.mem_of_getElem? (i := 921) (by decide +kernel), List.mem_of_getElem? (i := 1133) (by decide +kernel), List.mem_of_getElem? (i := 1134) (by decide +kernel)⟩
theorem lw_p47 : lw_okq (⟨"HandedSlipsModel", "takes", "([II)V"⟩, 31) := ⟨⟨by decide +kernel, by decide +kernel⟩, List.mem_of_getElem? (i := 921) (by decide +kernel), List.mem_of_getElem? (i := 1137) (by decide +kernel), List.mem_of_getElem? (i := 1138) (by decide +kernel)⟩
def lw_privs_3 : List (MethodName × Nat) := [(⟨"HandedSlipsModel", "readsFirst", "()Z"⟩, 31), (⟨"HandedSlipsModel", "skip", "()V"⟩, 31), (⟨"HandedSlipsModel", "here", "()I"⟩, 31), (⟨"HandedSlipsModel", "wordHere", "()I"⟩, 31), (⟨"HandedSlipsModel", "wordSize", "()I"⟩, 31), (⟨"HandedSlipsModel", "letter", "(I)I"⟩, 31), (⟨"HandedSlipsModel", "number", "(II)Z"⟩, 31), (⟨"HandedSlipsModel", "ends", "()Z"⟩, 31), (⟨"HandedSlipsModel", "readsItem", "()Z"⟩, 31), (⟨"HandedSlipsModel", "readsMethod", "()Z"⟩, 31), (⟨"HandedSlipsModel", "readsSlip", "()Z"⟩, 31), (⟨"HandedSlipsModel", "readsRinger", "()Z"⟩, 31), (⟨"HandedSlipsModel", "readsYears", "()Z"⟩, 31), (⟨"HandedSlipsModel", "passes", "()V"⟩, 31), (⟨"HandedSlipsModel", "takeAll", "([II)V"⟩, 31), (⟨"HandedSlipsModel", "takes", "([II)V"⟩, 31)]
theorem lw_r3 : ∀ q ∈ lw_privs_3, lw_okq q := List.forall_mem_cons.mpr ⟨lw_p32, List.forall_mem_cons.mpr ⟨lw_p33, List.forall_mem_cons.mpr ⟨lw_p34, List.forall_mem_cons.mpr ⟨lw_p35, List.forall_mem_cons.mpr ⟨lw_p36, List.forall_mem_cons.mpr ⟨lw_p37, List.forall_mem_cons.mpr ⟨lw_p38, List.forall_mem_cons.mpr ⟨lw_p39, List.forall_mem_cons.mpr ⟨lw_p40, List.forall_mem_cons.mpr ⟨lw_p41, List.forall_mem_cons.mpr ⟨lw_p42, List.forall_mem_cons.mpr ⟨lw_p43, List.forall_mem_cons.mpr ⟨lw_p44, List.forall_mem_cons.mpr ⟨lw_p45, List.forall_mem_cons.mpr ⟨lw_p46, List.forall_mem_cons.mpr ⟨lw_p47, fun _ h => absurd h List.not_mem_nil⟩⟩⟩⟩⟩⟩⟩⟩⟩⟩⟩⟩⟩⟩⟩⟩
theorem lw_p48 : lw_okq (⟨"HandedSlipsModel", "isRope", "(I)Z"⟩, 31) := ⟨⟨by decide +kernel, by decide +kernel⟩, List.mem_of_getElem? (i := 921) (by decide +kernel), List.mem_of_getElem? (i := 1145) (by decide +kernel), List.mem_of_getElem? (i := 1146) (by decide +kernel)⟩
theorem lw_p49 : lw_okq (⟨"HandedSlipsModel", "notes", "()V"⟩, 31) := ⟨⟨by decide +kernel, by decide +kernel⟩, List.mem_of_getElem? (i := 921) (by decide +kernel), List.mem_of_getElem? (i := 1149) (by decide +kernel), List.mem_of_getElem? (i := 1150) (by decide +kernel)⟩
theorem lw_p50 : lw_okq (⟨"HandedSlipsModel", "no", "()I"⟩, 31) := ⟨⟨by decide +kernel, by decide +kernel⟩, List.mem_of_getElem? (i := 921) (by decide +kernel), List.mem_of_getElem? (i := 1157) (by decide +kernel), List.mem_of_getElem? (i := 1158) (by decide +kernel)⟩
theorem lw_p51 : lw_okq (⟨"HandedSlipsModel", "made", "()I"⟩, 31) := ⟨⟨by decide +kernel, by decide +kernel⟩, List.mem_of_getElem? (i := 921) (by decide +kernel), List.mem_of_getElem? (i := 1169) (by decide +kernel), List.mem_of_getElem? (i := 1170) (by decide +kernel)⟩
theorem lw_p52 : lw_okq (⟨"HandedSlipsModel", "isTrue", "(I)Z"⟩, 31) := ⟨⟨by decide +kernel, by decide +kernel⟩, List.mem_of_getElem? (i := 921) (by decide +kernel), List.mem_of_getElem? (i := 1176) (by decide +kernel), List.mem_of_getElem? (i := 1177) (by decide +kernel)⟩
theorem lw_p53 : lw_okq (⟨"HandedSlipsModel", "setRungs", "(I)V"⟩, 31) := ⟨⟨by decide +kernel, by decide +kernel⟩, List.mem_of_getElem? (i := 921) (by decide +kernel), List.mem_of_getElem? (i := 1180) (by decide +kernel), List.mem_of_getElem? (i := 1181) (by decide +kernel)⟩
theorem lw_p54 : lw_okq (⟨"HandedSlipsModel", "rung", "(II)I"⟩, 31) := ⟨⟨by decide +kernel, by decide +kernel⟩, List.mem_of_getElem? (i := 921) (by decide +kernel), List.mem_of_getElem? (i := 1184) (by decide +kernel), List.mem_of_getElem? (i := 1185) (by decide +kernel)⟩
theorem lw_p55 : lw_okq (⟨"HandedSlipsModel", "setRung", "(II)V"⟩, 31) := ⟨⟨by decide +kernel, by decide +kernel⟩, List.mem_of_getElem? (i := 921) (by decide +kernel), List.mem_of_getElem? (i := 1188) (by decide +kernel), List.mem_of_getElem? (i := 1189) (by decide +kernel)⟩
theorem lw_p56 : lw_okq (⟨"HandedSlipsModel", "setMeant", "(I)V"⟩, 31) := ⟨⟨by decide +kernel, by decide +kernel⟩, List.mem_of_getElem? (i := 921) (by decide +kernel), List.mem_of_getElem? (i := 1192) (by decide +kernel), List.mem_of_getElem? (i := 1193) (by decide +kernel)⟩
theorem lw_p57 : lw_okq (⟨"HandedSlipsModel", "swaps", "(I)V"⟩, 31) := ⟨⟨by decide +kernel, by decide +kernel⟩, List.mem_of_getElem? (i := 921) (by decide +kernel), List.mem_of_getElem? (i := 1196) (by decide +kernel), List.mem_of_getElem? (i := 1197) (by decide +kernel)⟩
theorem lw_p58 : lw_okq (⟨"HandedSlipsModel", "slides", "(II)V"⟩, 31) := ⟨⟨by decide +kernel, by decide +kernel⟩, List.mem_of_getElem? (i := 921) (by decide +kernel), List.mem_of_getElem? (i := 1203) (by decide +kernel), List.mem_of_getElem? (i := 1204) (by decide +kernel)⟩
theorem lw_p59 : lw_okq (⟨"HandedSlipsModel", "told", "()I"⟩, 31) := ⟨⟨by decide +kernel, by decide +kernel⟩, List.mem_of_getElem? (i := 921) (by decide +kernel), List.mem_of_getElem? (i := 1213) (by decide +kernel), List.mem_of_getElem? (i := 1214) (by decide +kernel)⟩
theorem lw_p60 : lw_okq (⟨"HandedSlipsModel", "earlier", "(I)I"⟩, 31) := ⟨⟨by decide +kernel, by decide +kernel⟩, List.mem_of_getElem? (i := 921) (by decide +kernel), List.mem_of_getElem? (i := 1217) (by decide +kernel), List.mem_of_getElem? (i := 1218) (by decide +kernel)⟩
theorem lw_p61 : lw_okq (⟨"HandedSlipsModel", "ropeTells", "(II)I"⟩, 31) := ⟨⟨by decide +kernel, by decide +kernel⟩, List.mem_of_getElem? (i := 921) (by decide +kernel), List.mem_of_getElem? (i := 1229) (by decide +kernel), List.mem_of_getElem? (i := 1230) (by decide +kernel)⟩
theorem lw_p62 : lw_okq (⟨"HandedSlipsModel", "meant", "(I)I"⟩, 31) := ⟨⟨by decide +kernel, by decide +kernel⟩, List.mem_of_getElem? (i := 921) (by decide +kernel), List.mem_of_getElem? (i := 1237) (by decide +kernel), List.mem_of_getElem? (i := 1238) (by decide +kernel)⟩
theorem lw_p63 : lw_okq (⟨"HandedSlipsModel", "areBells", "(I)Z"⟩, 31) := ⟨⟨by decide +kernel, by decide +kernel⟩, List.mem_of_getElem? (i := 921) (by decide +kernel), List.mem_of_getElem? (i := 1273) (by decide +kernel), List.mem_of_getElem? (i := 1274) (by decide +kernel)⟩
def lw_privs_4 : List (MethodName × Nat) := [(⟨"HandedSlipsModel", "isRope", "(I)Z"⟩, 31), (⟨"HandedSlipsModel", "notes", "()V"⟩, 31), (⟨"HandedSlipsModel", "no", "()I"⟩, 31), (⟨"HandedSlipsModel", "made", "()I"⟩, 31), (⟨"HandedSlipsModel", "isTrue", "(I)Z"⟩, 31), (⟨"HandedSlipsModel", "setRungs", "(I)V"⟩, 31), (⟨"HandedSlipsModel", "rung", "(II)I"⟩, 31), (⟨"HandedSlipsModel", "setRung", "(II)V"⟩, 31), (⟨"HandedSlipsModel", "setMeant", "(I)V"⟩, 31), (⟨"HandedSlipsModel", "swaps", "(I)V"⟩, 31), (⟨"HandedSlipsModel", "slides", "(II)V"⟩, 31), (⟨"HandedSlipsModel", "told", "()I"⟩, 31), (⟨"HandedSlipsModel", "earlier", "(I)I"⟩, 31), (⟨"HandedSlipsModel", "ropeTells", "(II)I"⟩, 31), (⟨"HandedSlipsModel", "meant", "(I)I"⟩, 31), (⟨"HandedSlipsModel", "areBells", "(I)Z"⟩, 31)]
theorem lw_r4 : ∀ q ∈ lw_privs_4, lw_okq q := List.forall_mem_cons.mpr ⟨lw_p48, List.forall_mem_cons.mpr ⟨lw_p49, List.forall_mem_cons.mpr ⟨lw_p50, List.forall_mem_cons.mpr ⟨lw_p51, List.forall_mem_cons.mpr ⟨lw_p52, List.forall_mem_cons.mpr ⟨lw_p53, List.forall_mem_cons.mpr ⟨lw_p54, List.forall_mem_cons.mpr ⟨lw_p55, List.forall_mem_cons.mpr ⟨lw_p56, List.forall_mem_cons.mpr ⟨lw_p57, List.forall_mem_cons.mpr ⟨lw_p58, List.forall_mem_cons.mpr ⟨lw_p59, List.forall_mem_cons.mpr ⟨lw_p60, List.forall_mem_cons.mpr ⟨lw_p61, List.forall_mem_cons.mpr ⟨lw_p62, List.forall_mem_cons.mpr ⟨lw_p63, fun _ h => absurd h List.not_mem_nil⟩⟩⟩⟩⟩⟩⟩⟩⟩⟩⟩⟩⟩⟩⟩⟩
theorem lw_p64 : lw_okq (⟨"HandedSlipsModel", "slipped", "()I"⟩, 31) := ⟨⟨by decide +kernel, by decide +kernel⟩, List.mem_of_getElem? (i := 921) (by decide +kernel), List.mem_of_getElem? (i := 1281) (by decide +kernel), List.mem_of_getElem? (i := 1282) (by decide +kernel)⟩
theorem lw_p65 : lw_okq (⟨"HandedSlipsModel", "isHeard", "(I)Z"⟩, 31) := ⟨⟨by decide +kernel, by decide +kernel⟩, List.mem_of_getElem? (i := 921) (by decide +kernel), List.mem_of_getElem? (i := 1285) (by decide +kernel), List.mem_of_getElem? (i := 1286) (by decide +kernel)⟩
theorem lw_p66 : lw_okq (⟨"HandedSlipsModel", "alikeIn", "(I)I"⟩, 31) := ⟨⟨by decide +kernel, by decide +kernel⟩, List.mem_of_getElem? (i := 921) (by decide +kernel), List.mem_of_getElem? (i := 1293) (by decide +kernel), List.mem_of_getElem? (i := 1294) (by decide +kernel)⟩
theorem lw_p67 : lw_okq (⟨"HandedSlipsModel", "slipKinds", "(I)I"⟩, 31) := ⟨⟨by decide +kernel, by decide +kernel⟩, List.mem_of_getElem? (i := 921) (by decide +kernel), List.mem_of_getElem? (i := 1313) (by decide +kernel), List.mem_of_getElem? (i := 1314) (by decide +kernel)⟩
theorem lw_p68 : lw_okq (⟨"HandedSlipsModel", "ringerKinds", "(I)I"⟩, 31) := ⟨⟨by decide +kernel, by decide +kernel⟩, List.mem_of_getElem? (i := 921) (by decide +kernel), List.mem_of_getElem? (i := 1321) (by decide +kernel), List.mem_of_getElem? (i := 1322) (by decide +kernel)⟩
theorem lw_p69 : lw_okq (⟨"HandedSlipsModel", "gets", "(IIII)I"⟩, 31) := ⟨⟨by decide +kernel, by decide +kernel⟩, List.mem_of_getElem? (i := 921) (by decide +kernel), List.mem_of_getElem? (i := 1337) (by decide +kernel), List.mem_of_getElem? (i := 1338) (by decide +kernel)⟩
theorem lw_p70 : lw_okq (⟨"HandedSlipsModel", "placeIn", "(I)I"⟩, 31) := ⟨⟨by decide +kernel, by decide +kernel⟩, List.mem_of_getElem? (i := 921) (by decide +kernel), List.mem_of_getElem? (i := 1341) (by decide +kernel), List.mem_of_getElem? (i := 1342) (by decide +kernel)⟩
theorem lw_p71 : lw_okq (⟨"HandedSlipsModel", "lay", "(JJ)V"⟩, 31) := ⟨⟨by decide +kernel, by decide +kernel⟩, List.mem_of_getElem? (i := 921) (by decide +kernel), List.mem_of_getElem? (i := 1350) (by decide +kernel), List.mem_of_getElem? (i := 1351) (by decide +kernel)⟩
theorem lw_p72 : lw_okq (⟨"HandedSlipsModel", "otherwise", "()I"⟩, 31) := ⟨⟨by decide +kernel, by decide +kernel⟩, List.mem_of_getElem? (i := 921) (by decide +kernel), List.mem_of_getElem? (i := 1365) (by decide +kernel), List.mem_of_getElem? (i := 1366) (by decide +kernel)⟩
theorem lw_p73 : lw_okq (⟨"HandedSlipsModel", "countOf", "(I)I"⟩, 31) := ⟨⟨by decide +kernel, by decide +kernel⟩, List.mem_of_getElem? (i := 921) (by decide +kernel), List.mem_of_getElem? (i := 1389) (by decide +kernel), List.mem_of_getElem? (i := 1390) (by decide +kernel)⟩
theorem lw_p74 : lw_okq (⟨"HandedSlipsModel", "mix", "(J)V"⟩, 31) := ⟨⟨by decide +kernel, by decide +kernel⟩, List.mem_of_getElem? (i := 921) (by decide +kernel), List.mem_of_getElem? (i := 1398) (by decide +kernel), List.mem_of_getElem? (i := 1399) (by decide +kernel)⟩
def lw_privs_5 : List (MethodName × Nat) := [(⟨"HandedSlipsModel", "slipped", "()I"⟩, 31), (⟨"HandedSlipsModel", "isHeard", "(I)Z"⟩, 31), (⟨"HandedSlipsModel", "alikeIn", "(I)I"⟩, 31), (⟨"HandedSlipsModel", "slipKinds", "(I)I"⟩, 31), (⟨"HandedSlipsModel", "ringerKinds", "(I)I"⟩, 31), (⟨"HandedSlipsModel", "gets", "(IIII)I"⟩, 31), (⟨"HandedSlipsModel", "placeIn", "(I)I"⟩, 31), (⟨"HandedSlipsModel", "lay", "(JJ)V"⟩, 31), (⟨"HandedSlipsModel", "otherwise", "()I"⟩, 31), (⟨"HandedSlipsModel", "countOf", "(I)I"⟩, 31), (⟨"HandedSlipsModel", "mix", "(J)V"⟩, 31)]
theorem lw_r5 : ∀ q ∈ lw_privs_5, lw_okq q := List.forall_mem_cons.mpr ⟨lw_p64, List.forall_mem_cons.mpr ⟨lw_p65, List.forall_mem_cons.mpr ⟨lw_p66, List.forall_mem_cons.mpr ⟨lw_p67, List.forall_mem_cons.mpr ⟨lw_p68, List.forall_mem_cons.mpr ⟨lw_p69, List.forall_mem_cons.mpr ⟨lw_p70, List.forall_mem_cons.mpr ⟨lw_p71, List.forall_mem_cons.mpr ⟨lw_p72, List.forall_mem_cons.mpr ⟨lw_p73, List.forall_mem_cons.mpr ⟨lw_p74, fun _ h => absurd h List.not_mem_nil⟩⟩⟩⟩⟩⟩⟩⟩⟩⟩⟩
def lw_privs : List (MethodName × Nat) := lw_privs_1 ++ (lw_privs_2 ++ (lw_privs_3 ++ (lw_privs_4 ++ (lw_privs_5))))
def lw_tbl : List Cond := k2_sels lw_privs ++ tables_1
theorem lw_privs_ok : ∀ q ∈ lw_privs, lw_okq q := by
  show ∀ q ∈ lw_privs_1 ++ (lw_privs_2 ++ (lw_privs_3 ++ (lw_privs_4 ++ (lw_privs_5)))), lw_okq q
  exact List.forall_mem_append.mpr ⟨lw_r1, List.forall_mem_append.mpr ⟨lw_r2, List.forall_mem_append.mpr ⟨lw_r3, List.forall_mem_append.mpr ⟨lw_r4, lw_r5⟩⟩⟩⟩
-- ===== end of PART A; then your names; then what follows =====
/-! ===== BEGIN words of one list among another's, by their places ===== -/
theorem goodIn_r {big : List Cond} (ws : List Cond) (ps : List Nat) (hp : ws = ps.filterMap (fun i => big[i]?)) (h : ws.all goodWord = true) : GoodIn big ws := by
  intro w hw
  have h1 := List.all_eq_true.mp h w hw
  rw [hp] at hw
  obtain ⟨i, -, hi⟩ := List.mem_filterMap.mp hw
  have hm : w ∈ big := by first | exact List.mem_of_getElem? hi | exact List.getElem?_mem hi
  exact ⟨hm, good_of_word h1⟩
theorem goodIn_app {big a b : List Cond} (ha : GoodIn big a) (hb : GoodIn big b) : GoodIn big (a ++ b) := fun w h => (List.mem_append.mp h).elim (ha w) (hb w)
theorem goodIn_ca {big a b : List Cond} {c : Cond} (ha : GoodIn big (c :: a)) (hb : GoodIn big b) : GoodIn big (c :: (a ++ b)) := fun w h => (List.mem_cons.mp h).elim (fun e => ha w (List.mem_cons.mpr (Or.inl e))) (fun h => (List.mem_append.mp h).elim (fun h => ha w (List.mem_cons.mpr (Or.inr h))) (hb w))
theorem goodIn_sub {big ws : List Cond} (hm : ∀ w ∈ ws, w ∈ big) (h : ws.all goodWord = true) : GoodIn big ws := fun w hw => ⟨hm w hw, good_of_word (List.all_eq_true.mp h w hw)⟩
/-! ===== END ===== -/

/-! ===== BEGIN new T[n][m]: the outer array a place, the inner ones among the pooled ===== -/
/-- f, but v at every address of l -/
def vr_up {α : Type} (f : Nat → α) (l : List Nat) (v : α) : Nat → α := fun a => if a ∈ l then v else f a
theorem vr_up_in {α : Type} {f : Nat → α} {l : List Nat} {v : α} {a : Nat} (h : a ∈ l) : vr_up f l v a = v := if_pos h
theorem vr_up_ne {α : Type} {f : Nat → α} {l : List Nat} {v : α} {a : Nat} (h : a ∉ l) : vr_up f l v a = f a := if_neg h
theorem vr_rows {L l : List Nat} {f : Nat → va_E} {e : va_E} (h : ∀ a, a ∈ l → a ∉ L) : va_pl L f ++ l.map (fun a => (a, e)) = va_pl (L ++ l) (vr_up f l e) := by
  unfold va_pl
  rw [List.map_append]
  congr 1
  · apply List.map_congr_left
    intro a ha
    rw [vr_up_ne (fun q => h a q ha)]
  · apply List.map_congr_left
    intro a ha
    rw [vr_up_in ha]
theorem vr_lay {X rows : va_W} {x : Nat × va_E} {pl : va_W} {D : va_G} {cl : List vw_C} {H : Heap} (hP : va_P D cl (((X ++ pl) ++ [x]) ++ rows) H) : va_P D cl ((X ++ [x]) ++ (pl ++ rows)) H := by
  rw [List.append_assoc (X ++ pl)] at hP
  have h := va_P.swap hP
  rw [← List.append_assoc X] at h
  have h2 := va_P.swap h
  rw [List.append_assoc (X ++ [x])] at h2
  exact h2
theorem vr_layD {X rows : va_W} {x : Nat × va_E} {pl : va_W} {A : Nat → Prop} (hD : va_D A (((X ++ pl) ++ [x]) ++ rows)) : va_D A ((X ++ [x]) ++ (pl ++ rows)) := by
  rw [List.append_assoc (X ++ pl)] at hD
  have h := va_D.swap hD
  rw [← List.append_assoc X] at h
  have h2 := va_D.swap h
  rw [List.append_assoc (X ++ [x])] at h2
  exact h2
theorem vr_outer (c : ClassId) (N h0 : Nat) : ∀ i : Nat, Jvm.Free.Multi.outerC c N h0 i = arrV c N (fun j => va_rf (if j < i then some (h0 + 1 + j) else none))
  | 0 => by
    show ({ cls := c, slots := Array.replicate N .null, vm := .none } : Cell) = _
    rw [arrV_new]
    refine congrArg (arrV c N) (funext fun j => ?_)
    simp [va_rf]
  | i + 1 => by
    show (Jvm.Free.Multi.outerC c N h0 i).setSlot i (.ref (h0 + 1 + i)) = _
    rw [vr_outer c N h0 i, arrV_store]
    refine congrArg (arrV c N) (funext fun j => ?_)
    by_cases e : j = i
    · subst e
      simp [updV, va_rf]
    · by_cases h : j < i
      · simp [updV, e, h, Nat.lt_succ_of_lt h]
      · simp [updV, e, h, show ¬ j < i + 1 by omega]
section VGM
variable {p : Program} {l : Launch} {e : Env} {R : Room} {s : State} {m : MethodId} {args : Array Value} {below : List Frame} {meth : Method} {c : Code} {H : Heap} {locs : List Loc} {cells slots : Nat} {Q : State → Prop}
variable {cc : ByteArray} {pc : Nat} {ls : Array Slot} {rest : List Value} {D : va_G} {cl : List vw_C} {A : Nat → Prop} {a : Nat} {tys : List (ClassId × FieldType)} {ws : va_W} {H0 : Heap}
theorem va_mna {X : va_W} {L : List Nat} {f : Nat → va_E} {cc : ByteArray} (hexec : p.tables.exec = Jvm.exec) (hb : c.code = cc) {own : String} {index : Nat} {ty : FieldType} {cy : ClassId} (hown : s.vm.findClass own = some m.cls) (hclink : (Cond.classLink own index ("[" ++ (FieldType.array ty).toString)).before args s = true) (hover : (Cond.arrayOver (.array ty)).before args s = true) (harr : (Cond.arrayClass ty).before args s = true) (hcy : s.vm.findClass (FieldType.array ty).toString = some cy)
    (hK : va_K D cl tys s) (hP : va_P D cl (X ++ va_pl L f) H) (hD : va_D A (X ++ va_pl L f)) (hS : va_S A H0 H locs) (hA : ∀ q, H0.size ≤ q → A q) {n k : Int32} {N' K' : Nat} {z : vp_A} (hn : ¬ n < 0) (hk : ¬ k < 0) (hN : n.toNatClampNeg = N') (hM : k.toNatClampNeg = K')
    (hb1 : N' * 4 ≤ 536870912) (hb2 : K' * componentBytes ty ≤ 536870912) (hb3 : K' ≤ 536870912) (hdf : fits ty (defaultValue ty) = true) (hdd : (defaultValue ty).isDefault = true) (hcells : cells + (1 + N') ≤ R.cells) (hslots : slots + (N' + N' * K') ≤ R.slots) (hz : ∀ c : ClassId, Jvm.Free.Multi.innerC c K' (defaultValue ty) = vp_cell c z) (hdg : decode cc pc = .ok (.multianewarray index 2, 4))
    (kk : ∀ (q : Nat) (r : Nat → Nat) (cA : ClassId) (H1 : Heap), (∀ i j : Nat, i < N' → j < N' → r i = r j → i = j) → (∀ i : Nat, i < N' → r i ∉ L) → va_K D cl (tys ++ [(cA, .array ty)]) s →
      va_P D cl ((X ++ [(q, .inl (cA, N', .inr (.inr (.inr (.inr (fun i => if i < N' then some (r i) else none))))))]) ++ va_pl (L ++ (List.range N').map r) (vr_up f ((List.range N').map r) (.inl (cy, z)))) H1 → va_D A ((X ++ [(q, .inl (cA, N', .inr (.inr (.inr (.inr (fun i => if i < N' then some (r i) else none))))))]) ++ va_pl (L ++ (List.range N').map r) (vr_up f ((List.range N').map r) (.inl (cy, z)))) → va_S A H0 H1 locs →
      W p l e R s m args below meth c H1 locs (cells + 1 + N') (slots + N' + N' * K') Q (F0 m (pc + 4) ls (.ref q :: rest))) : W p l e R s m args below meth c H locs cells slots Q (F0 m pc ls (.int k :: .int n :: rest)) := by
  subst hN
  subst hM
  intro T hT Xs
  obtain ⟨vm₁, cA, comp, -, fA, fC, hO, -, X', step⟩ := Xs.multianewarray2F hexec hown hclink hover harr (g := F0 m pc ls (.int k :: .int n :: rest)) rfl (by rw [hb]; exact hdg) rfl hn hk hb1 hb2 hb3 hdf hdd hcells hslots
  have ec : some cy = some comp := hcy.symm.trans fC
  cases ec
  generalize hF : Jvm.Free.Multi.fill (T.setVm vm₁) cA cy n.toNatClampNeg k.toNatClampNeg (defaultValue ty) n.toNatClampNeg = F at X' step
  have hTh : (T.setVm vm₁).heap = H := hT
  obtain ⟨f1, f2, -, -⟩ := Jvm.Free.Multi.fill_facts (T.setVm vm₁) cA cy n.toNatClampNeg k.toNatClampNeg (defaultValue ty) n.toNatClampNeg
  rw [hF, hTh] at f1 f2
  have hold : ∀ x : Nat, x < H.size → F.heap[x]? = H[x]? := fun x hx => by
    have := Jvm.Free.Multi.fill_old (T.setVm vm₁) cA cy n.toNatClampNeg k.toNatClampNeg (defaultValue ty) (a := x) (by rw [hTh]; exact hx) n.toNatClampNeg
    rw [hF, hTh] at this
    exact this
  have hrow : ∀ j : Nat, j < n.toNatClampNeg → F.heap[H.size + 1 + j]? = some (vp_cell cy z) := fun j hj => by
    have := Jvm.Free.Multi.fill_inner (T.setVm vm₁) cA cy n.toNatClampNeg k.toNatClampNeg (defaultValue ty) n.toNatClampNeg j hj
    rw [hF, hTh, hz] at this
    exact this
  have hout : Jvm.Free.Multi.outerC cA n.toNatClampNeg H.size n.toNatClampNeg = vp_cell cA (n.toNatClampNeg, .inr (.inr (.inr (.inr (fun i => if i < n.toNatClampNeg then some (H.size + 1 + i) else none))))) := by
    rw [vp_cell_q]
    exact vr_outer cA n.toNatClampNeg H.size n.toNatClampNeg
  rw [hout] at f2
  have hlt : ∀ a, a ∈ L → a < H.size := fun a ha => by
    obtain ⟨k9, hk9⟩ := va_pl_get (X := X) (f := f) ha
    exact (hP k9 _ hk9).lt
  have hnl : ∀ i : Nat, i < n.toNatClampNeg → H.size + 1 + i ∉ L := fun i _ h => by
    have := hlt _ h
    omega
  have hnm : ∀ a, a ∈ (List.range n.toNatClampNeg).map (fun i => H.size + 1 + i) → a ∉ L := fun a ha h => by
    obtain ⟨i, -, rfl⟩ := List.mem_map.mp ha
    have := hlt _ h
    omega
  have hP0 : va_P D cl (X ++ va_pl L f) F.heap := hP.kept (fun k9 x hx => hold x.1 ((hP k9 x hx).lt))
  have hP1 : va_P D cl ((X ++ va_pl L f) ++ [(H.size, .inl (cA, n.toNatClampNeg, .inr (.inr (.inr (.inr (fun i => if i < n.toNatClampNeg then some (H.size + 1 + i) else none))))))]) F.heap := hP0.app (fun k9 x hx => by
    have h0 : k9 < 1 := (List.getElem?_eq_some_iff.mp hx).1
    rw [show k9 = 0 by omega] at hx
    cases hx
    exact f2)
  have hP2 : va_P D cl (((X ++ va_pl L f) ++ [(H.size, .inl (cA, n.toNatClampNeg, .inr (.inr (.inr (.inr (fun i => if i < n.toNatClampNeg then some (H.size + 1 + i) else none))))))]) ++ ((List.range n.toNatClampNeg).map (fun i => H.size + 1 + i)).map (fun a => (a, .inl (cy, z)))) F.heap := hP1.app (fun k9 x hx => by
    obtain ⟨a, ha, rfl⟩ := List.mem_map.mp (List.mem_of_getElem? hx)
    obtain ⟨i, hi, rfl⟩ := List.mem_map.mp ha
    exact hrow i (List.mem_range.mp hi))
  have hD2 : va_D A (((X ++ va_pl L f) ++ [(H.size, .inl (cA, n.toNatClampNeg, .inr (.inr (.inr (.inr (fun i => if i < n.toNatClampNeg then some (H.size + 1 + i) else none))))))]) ++ ((List.range n.toNatClampNeg).map (fun i => H.size + 1 + i)).map (fun a => (a, .inl (cy, z)))) := by
    have hD1 := hD.push (e := .inl (cA, n.toNatClampNeg, .inr (.inr (.inr (.inr (fun i => if i < n.toNatClampNeg then some (H.size + 1 + i) else none)))))) hP rfl (hA _ hS.1)
    generalize hW1 : (X ++ va_pl L f) ++ [(H.size, .inl (cA, n.toNatClampNeg, .inr (.inr (.inr (.inr (fun i => if i < n.toNatClampNeg then some (H.size + 1 + i) else none))))))] = W1 at hD1 hP1 ⊢
    have hle : ∀ (k9 : Nat) (x : Nat × va_E), W1[k9]? = some x → x.1 ≤ H.size := fun k9 x hx => by
      rw [← hW1] at hx
      by_cases hl : k9 < (X ++ va_pl L f).length
      · rw [List.getElem?_append_left hl] at hx
        exact Nat.le_of_lt ((hP k9 x hx).lt)
      · rw [List.getElem?_append_right (by omega)] at hx
        have h0 : k9 - (X ++ va_pl L f).length < 1 := (List.getElem?_eq_some_iff.mp hx).1
        rw [show k9 - (X ++ va_pl L f).length = 0 by omega] at hx
        cases hx
        exact Nat.le_refl _
    have hr : ∀ (k9 : Nat) (x : Nat × va_E), (((List.range n.toNatClampNeg).map (fun i => H.size + 1 + i)).map (fun a => ((a, .inl (cy, z)) : Nat × va_E)))[k9]? = some x → x.1 = H.size + 1 + k9 := fun k9 x hx => by
      rw [List.getElem?_map, List.getElem?_map] at hx
      by_cases h9 : k9 < n.toNatClampNeg
      · rw [List.getElem?_range h9] at hx
        cases hx
        rfl
      · have hn0 : (List.range n.toNatClampNeg)[k9]? = none := List.getElem?_eq_none (by rw [List.length_range]; omega)
        rw [hn0] at hx
        cases hx
    refine ⟨fun i j x y hi hj hxy => ?_, fun k9 x hx => ?_⟩
    · by_cases h1 : i < W1.length <;> by_cases h2 : j < W1.length
      · rw [List.getElem?_append_left h1] at hi
        rw [List.getElem?_append_left h2] at hj
        exact hD1.1 i j x y hi hj hxy
      · rw [List.getElem?_append_left h1] at hi
        rw [List.getElem?_append_right (by omega)] at hj
        have := hle _ _ hi
        have := hr _ _ hj
        omega
      · rw [List.getElem?_append_right (by omega)] at hi
        rw [List.getElem?_append_left h2] at hj
        have := hle _ _ hj
        have := hr _ _ hi
        omega
      · rw [List.getElem?_append_right (by omega)] at hi hj
        have := hr _ _ hi
        have := hr _ _ hj
        omega
    · by_cases h1 : k9 < W1.length
      · rw [List.getElem?_append_left h1] at hx
        exact hD1.2 k9 x hx
      · rw [List.getElem?_append_right (by omega)] at hx
        have := hr _ _ hx
        exact hA _ (by have := hS.1; omega)
  have hAr : ArrOfT s cA (.array ty) := fun N9 z9 => by
    obtain ⟨-, k9, hk9, cm9, hkk9⟩ := (hO 0 0 0).1
    exact ⟨(fun q hq => by cases hq), k9, hk9, cm9, hkk9⟩
  have hK2 : va_K D cl (tys ++ [(cA, .array ty)]) s := ⟨hK.1, fun k9 x hx => by
    by_cases hl : k9 < tys.length
    · rw [List.getElem?_append_left hl] at hx
      exact hK.2 k9 x hx
    · rw [List.getElem?_append_right (by omega)] at hx
      have h0 : k9 - tys.length < 1 := (List.getElem?_eq_some_iff.mp hx).1
      rw [show k9 - tys.length = 0 by omega] at hx
      cases hx
      exact ⟨hAr, fA⟩⟩
  obtain ⟨t, a1, b1⟩ := kk H.size (fun i => H.size + 1 + i) cA F.heap (fun i j _ _ h => by have h9 : H.size + 1 + i = H.size + 1 + j := h; omega) hnl hK2 (by rw [← vr_rows hnm]; exact vr_lay hP2) (by rw [← vr_rows hnm]; exact vr_layD hD2) ⟨by rw [f1]; have := hS.1; omega, fun x h1 h2 => (hold x (Nat.lt_of_lt_of_le h1 hS.1)).trans (hS.2.1 x h1 h2), hS.2.2⟩ F rfl X'
  refine ⟨t, step t ?_, b1⟩
  have e : T.heap.size = H.size := by rw [hT]
  rw [e]
  exact a1
end VGM
/-! ===== END ===== -/

def RX0 : String := "HandedSlips$Evidence"
def TX0 : u_T := fun k => match k with
  | 0 => ("HandedSlips$Evidence", "sets", "[I", true)
  | 1 => ("HandedSlips$Evidence", "rowsBySet", "[[I", true)
  | 2 => ("HandedSlips$Evidence", "tally", "[I", true)
  | _ => ("HandedSlips$Evidence", "setCount", "I", false)
def tyX0 : Nat → FieldType := fun k => match k with
  | 0 => .array .int
  | 1 => .array (.array .int)
  | 2 => .array .int
  | _ => .int
abbrev wsX00 : List Cond := u_ws RX0 TX0 4
theorem nmX0 : ∀ a, a < 4 → ∀ b, b < 4 → a ≠ b → (TX0 a).2.1 ≠ (TX0 b).2.1 := by decide +kernel
theorem tyX0_ok : ∀ k, k < 4 → parseFieldDescriptor (TX0 k).2.2.1 = some (tyX0 k) := by decide +kernel
abbrev cX0_init : ByteArray := prog_2_method_1_code
def yX0_init : MethodName := ⟨RX0, "<init>", "()V"⟩
abbrev cX0_findSets : ByteArray := prog_2_method_2_code
def yX0_findSets : MethodName := ⟨RX0, "findSets", "(LHandedSlips$Tower;LHandedSlips$Peal;)V"⟩
abbrev cX0_agrees : ByteArray := prog_2_method_3_code
def yX0_agrees : MethodName := ⟨RX0, "agrees", "(LHandedSlips$Records;LHandedSlips$Peal;)Z"⟩
abbrev cX0_addSet : ByteArray := prog_2_method_4_code
def yX0_addSet : MethodName := ⟨RX0, "addSet", "(ILHandedSlips$Peal;)V"⟩
abbrev cX0_ropesInAll : ByteArray := prog_2_method_5_code
def yX0_ropesInAll : MethodName := ⟨RX0, "ropesInAll", "()I"⟩
abbrev cX0_ropesInSome : ByteArray := prog_2_method_6_code
def yX0_ropesInSome : MethodName := ⟨RX0, "ropesInSome", "()I"⟩
abbrev cX0_tellingRow : ByteArray := prog_2_method_7_code
def yX0_tellingRow : MethodName := ⟨RX0, "tellingRow", "()I"⟩
abbrev cX0_mostAlike : ByteArray := prog_2_method_8_code
def yX0_mostAlike : MethodName := ⟨RX0, "mostAlike", "(I)I"⟩
abbrev cX0_slipKinds : ByteArray := prog_2_method_9_code
def yX0_slipKinds : MethodName := ⟨RX0, "slipKinds", "(LHandedSlips$Records;I)I"⟩
abbrev cX0_lookingPlace : ByteArray := prog_2_method_10_code
def yX0_lookingPlace : MethodName := ⟨RX0, "lookingPlace", "(I)I"⟩
abbrev cX0_mostComingAlike : ByteArray := prog_2_method_11_code
def yX0_mostComingAlike : MethodName := ⟨RX0, "mostComingAlike", "(II)I"⟩
abbrev cX0_ringerKinds : ByteArray := prog_2_method_12_code
def yX0_ringerKinds : MethodName := ⟨RX0, "ringerKinds", "(LHandedSlips$Records;I)I"⟩
abbrev cX0_askingYears : ByteArray := prog_2_method_13_code
def yX0_askingYears : MethodName := ⟨RX0, "askingYears", "(I)I"⟩
abbrev cX0_greaterPart : ByteArray := prog_2_method_14_code
def yX0_greaterPart : MethodName := ⟨RX0, "greaterPart", "(III)I"⟩
def RX1 : String := "HandedSlips$History"
def TX1 : u_T := fun k => match k with
  | 0 => ("HandedSlips$History", "saved", "[[I", true)
  | _ => ("HandedSlips$History", "size", "I", false)
def tyX1 : Nat → FieldType := fun k => match k with
  | 0 => .array (.array .int)
  | _ => .int
abbrev wsX10 : List Cond := u_ws RX1 TX1 2
theorem nmX1 : ∀ a, a < 2 → ∀ b, b < 2 → a ≠ b → (TX1 a).2.1 ≠ (TX1 b).2.1 := by decide +kernel
theorem tyX1_ok : ∀ k, k < 2 → parseFieldDescriptor (TX1 k).2.2.1 = some (tyX1 k) := by decide +kernel
abbrev cX1_init : ByteArray := prog_3_method_1_code
def yX1_init : MethodName := ⟨RX1, "<init>", "()V"⟩
abbrev cX1_letGo : ByteArray := prog_3_method_2_code
def yX1_letGo : MethodName := ⟨RX1, "letGo", "()V"⟩
abbrev cX1_keep : ByteArray := prog_3_method_3_code
def yX1_keep : MethodName := ⟨RX1, "keep", "(LHandedSlips$Ropes;)V"⟩
abbrev cX1_dropOldest : ByteArray := prog_3_method_4_code
def yX1_dropOldest : MethodName := ⟨RX1, "dropOldest", "()V"⟩
abbrev cX1_restore : ByteArray := prog_3_method_5_code
def yX1_restore : MethodName := ⟨RX1, "restore", "(LHandedSlips$Ropes;)V"⟩
abbrev cX1_copyHistory : ByteArray := prog_3_method_6_code
def yX1_copyHistory : MethodName := ⟨RX1, "copyHistory", "(LHandedSlips$History;)V"⟩
def RX2 : String := "HandedSlips$Peal"
def TX2 : u_T := fun k => match k with
  | 0 => ("HandedSlips$Peal", "meant", "[[I", true)
  | 1 => ("HandedSlips$Peal", "rung", "[[I", true)
  | 2 => ("HandedSlips$Peal", "meantNumbers", "[I", true)
  | 3 => ("HandedSlips$Peal", "rungNumbers", "[I", true)
  | 4 => ("HandedSlips$Peal", "makers", "[I", true)
  | _ => ("HandedSlips$Peal", "bells", "I", false)
def tyX2 : Nat → FieldType := fun k => match k with
  | 0 => .array (.array .int)
  | 1 => .array (.array .int)
  | 2 => .array .int
  | 3 => .array .int
  | 4 => .array .int
  | _ => .int
abbrev wsX20 : List Cond := u_ws RX2 TX2 6
theorem nmX2 : ∀ a, a < 6 → ∀ b, b < 6 → a ≠ b → (TX2 a).2.1 ≠ (TX2 b).2.1 := by decide +kernel
theorem tyX2_ok : ∀ k, k < 6 → parseFieldDescriptor (TX2 k).2.2.1 = some (tyX2 k) := by decide +kernel
abbrev cX2_init : ByteArray := prog_4_method_1_code
def yX2_init : MethodName := ⟨RX2, "<init>", "()V"⟩
abbrev cX2_mean : ByteArray := prog_4_method_2_code
def yX2_mean : MethodName := ⟨RX2, "mean", "(I[I)V"⟩
abbrev cX2_swapPairs : ByteArray := prog_4_method_3_code
def yX2_swapPairs : MethodName := ⟨RX2, "swapPairs", "([II)V"⟩
abbrev cX2_lend : ByteArray := prog_4_method_4_code
def yX2_lend : MethodName := ⟨RX2, "lend", "(III)V"⟩
abbrev cX2_ring : ByteArray := prog_4_method_5_code
def yX2_ring : MethodName := ⟨RX2, "ring", "(LHandedSlips$Ropes;I)V"⟩
abbrev cX2_makeSlip : ByteArray := prog_4_method_6_code
def yX2_makeSlip : MethodName := ⟨RX2, "makeSlip", "([III)V"⟩
abbrev cX2_placeOf : ByteArray := prog_4_method_7_code
def yX2_placeOf : MethodName := ⟨RX2, "placeOf", "([II)I"⟩
abbrev cX2_numberOf : ByteArray := prog_4_method_8_code
def yX2_numberOf : MethodName := ⟨RX2, "numberOf", "([I)I"⟩
abbrev cX2_rowLike : ByteArray := prog_4_method_9_code
def yX2_rowLike : MethodName := ⟨RX2, "rowLike", "(I)I"⟩
abbrev cX2_firstRepeat : ByteArray := prog_4_method_10_code
def yX2_firstRepeat : MethodName := ⟨RX2, "firstRepeat", "()I"⟩
abbrev cX2_isTrue : ByteArray := prog_4_method_11_code
def yX2_isTrue : MethodName := ⟨RX2, "isTrue", "()Z"⟩
abbrev cX2_rowsAstray : ByteArray := prog_4_method_12_code
def yX2_rowsAstray : MethodName := ⟨RX2, "rowsAstray", "()I"⟩
abbrev cX2_rowsAstrayOf : ByteArray := prog_4_method_13_code
def yX2_rowsAstrayOf : MethodName := ⟨RX2, "rowsAstrayOf", "(I)I"⟩
def RX3 : String := "HandedSlips$Reader"
def TX3 : u_T := fun k => match k with
  | 0 => ("HandedSlips$Reader", "draft", "LHandedSlips$Tower;", true)
  | 1 => ("HandedSlips$Reader", "told", "[I", true)
  | 2 => ("HandedSlips$Reader", "text", "LHandedSlips$Text;", false)
  | 3 => ("HandedSlips$Reader", "token", "I", false)
  | 4 => ("HandedSlips$Reader", "tokenStart", "I", false)
  | 5 => ("HandedSlips$Reader", "tokenEnd", "I", false)
  | _ => ("HandedSlips$Reader", "tokenValue", "I", false)
def tyX3 : Nat → FieldType := fun k => match k with
  | 0 => .object "HandedSlips$Tower"
  | 1 => .array .int
  | 2 => .object "HandedSlips$Text"
  | 3 => .int
  | 4 => .int
  | 5 => .int
  | _ => .int
abbrev wsX30 : List Cond := u_ws RX3 TX3 7
theorem nmX3 : ∀ a, a < 7 → ∀ b, b < 7 → a ≠ b → (TX3 a).2.1 ≠ (TX3 b).2.1 := by decide +kernel
theorem tyX3_ok : ∀ k, k < 7 → parseFieldDescriptor (TX3 k).2.2.1 = some (tyX3 k) := by decide +kernel
abbrev cX3_init : ByteArray := prog_5_method_1_code
def yX3_init : MethodName := ⟨RX3, "<init>", "()V"⟩
abbrev cX3_parse : ByteArray := prog_5_method_2_code
def yX3_parse : MethodName := ⟨RX3, "parse", "(LHandedSlips$Text;)I"⟩
abbrev cX3_readItem : ByteArray := prog_5_method_3_code
def yX3_readItem : MethodName := ⟨RX3, "readItem", "(Z)Z"⟩
abbrev cX3_numbersOf : ByteArray := prog_5_method_4_code
def yX3_numbersOf : MethodName := ⟨RX3, "numbersOf", "(I)I"⟩
abbrev cX3_standsAt : ByteArray := prog_5_method_5_code
def yX3_standsAt : MethodName := ⟨RX3, "standsAt", "(II)Z"⟩
abbrev cX3_apply : ByteArray := prog_5_method_6_code
def yX3_apply : MethodName := ⟨RX3, "apply", "(I)V"⟩
abbrev cX3_nextToken : ByteArray := prog_5_method_7_code
def yX3_nextToken : MethodName := ⟨RX3, "nextToken", "()V"⟩
abbrev cX3_skip : ByteArray := prog_5_method_8_code
def yX3_skip : MethodName := ⟨RX3, "skip", "(III)I"⟩
abbrev cX3_itemSpelled : ByteArray := prog_5_method_9_code
def yX3_itemSpelled : MethodName := ⟨RX3, "itemSpelled", "()I"⟩
abbrev cX3_wordOf : ByteArray := prog_5_method_10_code
def yX3_wordOf : MethodName := ⟨RX3, "wordOf", "(I)Ljava/lang/String;"⟩
abbrev cX3_numberSpelled : ByteArray := prog_5_method_11_code
def yX3_numberSpelled : MethodName := ⟨RX3, "numberSpelled", "()I"⟩
def RX4 : String := "HandedSlips$Records"
def TX4 : u_T := fun k => match k with
  | 0 => ("HandedSlips$Records", "cells", "[I", true)
  | _ => ("HandedSlips$Records", "size", "I", false)
def tyX4 : Nat → FieldType := fun k => match k with
  | 0 => .array .int
  | _ => .int
abbrev wsX40 : List Cond := u_ws RX4 TX4 2
theorem nmX4 : ∀ a, a < 2 → ∀ b, b < 2 → a ≠ b → (TX4 a).2.1 ≠ (TX4 b).2.1 := by decide +kernel
theorem tyX4_ok : ∀ k, k < 2 → parseFieldDescriptor (TX4 k).2.2.1 = some (tyX4 k) := by decide +kernel
abbrev cX4_init : ByteArray := prog_6_method_1_code
def yX4_init : MethodName := ⟨RX4, "<init>", "()V"⟩
abbrev cX4_append : ByteArray := prog_6_method_2_code
def yX4_append : MethodName := ⟨RX4, "append", "(IIII)I"⟩
abbrev cX4_cell : ByteArray := prog_6_method_3_code
def yX4_cell : MethodName := ⟨RX4, "cell", "(II)I"⟩
abbrev cX4_mixInto : ByteArray := prog_6_method_4_code
def yX4_mixInto : MethodName := ⟨RX4, "mixInto", "(JI)J"⟩
abbrev cX4_forgetAll : ByteArray := prog_6_method_5_code
def yX4_forgetAll : MethodName := ⟨RX4, "forgetAll", "()I"⟩
abbrev cX4_copyRecords : ByteArray := prog_6_method_6_code
def yX4_copyRecords : MethodName := ⟨RX4, "copyRecords", "(LHandedSlips$Records;)V"⟩
def RX5 : String := "HandedSlips$RingerKind"
def TX5 : u_T := fun k => match k with
  | _ => ("", "", "", false)
def tyX5 : Nat → FieldType := fun k => match k with
  | _ => .int
abbrev wsX50 : List Cond := u_ws RX5 TX5 0
theorem nmX5 : ∀ a, a < 0 → ∀ b, b < 0 → a ≠ b → (TX5 a).2.1 ≠ (TX5 b).2.1 := by decide +kernel
theorem tyX5_ok : ∀ k, k < 0 → parseFieldDescriptor (TX5 k).2.2.1 = some (tyX5 k) := by decide +kernel
abbrev cX5_makes : ByteArray := prog_7_method_2_code
def yX5_makes : MethodName := ⟨RX5, "makes", "(III)Z"⟩
def RX6 : String := "HandedSlips$Ringing"
def TX6 : u_T := fun k => match k with
  | 0 => ("HandedSlips$Ringing", "peal", "LHandedSlips$Peal;", true)
  | 1 => ("HandedSlips$Ringing", "trialRopes", "LHandedSlips$Ropes;", true)
  | 2 => ("HandedSlips$Ringing", "trialChanges", "[I", true)
  | 3 => ("HandedSlips$Ringing", "gainsOfA", "[I", true)
  | _ => ("HandedSlips$Ringing", "gainsOfB", "[I", true)
def tyX6 : Nat → FieldType := fun k => match k with
  | 0 => .object "HandedSlips$Peal"
  | 1 => .object "HandedSlips$Ropes"
  | 2 => .array .int
  | 3 => .array .int
  | _ => .array .int
abbrev wsX60 : List Cond := u_ws RX6 TX6 5
theorem nmX6 : ∀ a, a < 5 → ∀ b, b < 5 → a ≠ b → (TX6 a).2.1 ≠ (TX6 b).2.1 := by decide +kernel
theorem tyX6_ok : ∀ k, k < 5 → parseFieldDescriptor (TX6 k).2.2.1 = some (tyX6 k) := by decide +kernel
abbrev cX6_init : ByteArray := prog_8_method_1_code
def yX6_init : MethodName := ⟨RX6, "<init>", "()V"⟩
abbrev cX6_leastMend : ByteArray := prog_8_method_2_code
def yX6_leastMend : MethodName := ⟨RX6, "leastMend", "(LHandedSlips$Tower;)I"⟩
abbrev cX6_leastMethod : ByteArray := prog_8_method_3_code
def yX6_leastMethod : MethodName := ⟨RX6, "leastMethod", "(LHandedSlips$Tower;)I"⟩
abbrev cX6_advanceTrial : ByteArray := prog_8_method_4_code
def yX6_advanceTrial : MethodName := ⟨RX6, "advanceTrial", "(I)Z"⟩
abbrev cX6_trialNumber : ByteArray := prog_8_method_5_code
def yX6_trialNumber : MethodName := ⟨RX6, "trialNumber", "()I"⟩
abbrev cX6_yearsUntilTrue : ByteArray := prog_8_method_6_code
def yX6_yearsUntilTrue : MethodName := ⟨RX6, "yearsUntilTrue", "(LHandedSlips$Tower;)I"⟩
abbrev cX6_trueWeight : ByteArray := prog_8_method_7_code
def yX6_trueWeight : MethodName := ⟨RX6, "trueWeight", "(LHandedSlips$Tower;I)J"⟩
abbrev cX6_restingPairs : ByteArray := prog_8_method_8_code
def yX6_restingPairs : MethodName := ⟨RX6, "restingPairs", "(LHandedSlips$Tower;II)I"⟩
abbrev cX6_weddingRows : ByteArray := prog_8_method_9_code
def yX6_weddingRows : MethodName := ⟨RX6, "weddingRows", "(LHandedSlips$Tower;II)I"⟩
def RX7 : String := "HandedSlips$Ropes"
def TX7 : u_T := fun k => match k with
  | _ => ("HandedSlips$Ropes", "cells", "[I", true)
def tyX7 : Nat → FieldType := fun k => match k with
  | _ => .array .int
abbrev wsX70 : List Cond := u_ws RX7 TX7 1
theorem nmX7 : ∀ a, a < 1 → ∀ b, b < 1 → a ≠ b → (TX7 a).2.1 ≠ (TX7 b).2.1 := by decide +kernel
theorem tyX7_ok : ∀ k, k < 1 → parseFieldDescriptor (TX7 k).2.2.1 = some (tyX7 k) := by decide +kernel
abbrev cX7_init : ByteArray := prog_9_method_1_code
def yX7_init : MethodName := ⟨RX7, "<init>", "()V"⟩
abbrev cX7_untell : ByteArray := prog_9_method_2_code
def yX7_untell : MethodName := ⟨RX7, "untell", "()V"⟩
abbrev cX7_copyRopes : ByteArray := prog_9_method_3_code
def yX7_copyRopes : MethodName := ⟨RX7, "copyRopes", "(LHandedSlips$Ropes;)V"⟩
abbrev cX7_cell : ByteArray := prog_9_method_4_code
def yX7_cell : MethodName := ⟨RX7, "cell", "(II)I"⟩
abbrev cX7_setCell : ByteArray := prog_9_method_5_code
def yX7_setCell : MethodName := ⟨RX7, "setCell", "(III)V"⟩
abbrev cX7_slipKind : ByteArray := prog_9_method_6_code
def yX7_slipKind : MethodName := ⟨RX7, "slipKind", "(I)I"⟩
abbrev cX7_slipRow : ByteArray := prog_9_method_7_code
def yX7_slipRow : MethodName := ⟨RX7, "slipRow", "(I)I"⟩
abbrev cX7_ringerKind : ByteArray := prog_9_method_8_code
def yX7_ringerKind : MethodName := ⟨RX7, "ringerKind", "(I)I"⟩
abbrev cX7_yearsOf : ByteArray := prog_9_method_9_code
def yX7_yearsOf : MethodName := ⟨RX7, "yearsOf", "(I)I"⟩
abbrev cX7_townYear : ByteArray := prog_9_method_10_code
def yX7_townYear : MethodName := ⟨RX7, "townYear", "()I"⟩
abbrev cX7_hasSlip : ByteArray := prog_9_method_11_code
def yX7_hasSlip : MethodName := ⟨RX7, "hasSlip", "(I)Z"⟩
abbrev cX7_putSlip : ByteArray := prog_9_method_12_code
def yX7_putSlip : MethodName := ⟨RX7, "putSlip", "(III)V"⟩
abbrev cX7_takeSlip : ByteArray := prog_9_method_13_code
def yX7_takeSlip : MethodName := ⟨RX7, "takeSlip", "(I)V"⟩
abbrev cX7_seat : ByteArray := prog_9_method_14_code
def yX7_seat : MethodName := ⟨RX7, "seat", "(III)V"⟩
abbrev cX7_passYear : ByteArray := prog_9_method_15_code
def yX7_passYear : MethodName := ⟨RX7, "passYear", "()V"⟩
abbrev cX7_passYears : ByteArray := prog_9_method_16_code
def yX7_passYears : MethodName := ⟨RX7, "passYears", "(I)V"⟩
abbrev cX7_makesSlip : ByteArray := prog_9_method_17_code
def yX7_makesSlip : MethodName := ⟨RX7, "makesSlip", "(I)Z"⟩
abbrev cX7_slipBits : ByteArray := prog_9_method_18_code
def yX7_slipBits : MethodName := ⟨RX7, "slipBits", "()I"⟩
abbrev cX7_madeBits : ByteArray := prog_9_method_19_code
def yX7_madeBits : MethodName := ⟨RX7, "madeBits", "()I"⟩
abbrev cX7_madeInRow : ByteArray := prog_9_method_20_code
def yX7_madeInRow : MethodName := ⟨RX7, "madeInRow", "(I)I"⟩
abbrev cX7_fullestRow : ByteArray := prog_9_method_21_code
def yX7_fullestRow : MethodName := ⟨RX7, "fullestRow", "()I"⟩
def RX8 : String := "HandedSlips$SlipKind"
def TX8 : u_T := fun k => match k with
  | _ => ("", "", "", false)
def tyX8 : Nat → FieldType := fun k => match k with
  | _ => .int
abbrev wsX80 : List Cond := u_ws RX8 TX8 0
theorem nmX8 : ∀ a, a < 0 → ∀ b, b < 0 → a ≠ b → (TX8 a).2.1 ≠ (TX8 b).2.1 := by decide +kernel
theorem tyX8_ok : ∀ k, k < 0 → parseFieldDescriptor (TX8 k).2.2.1 = some (tyX8 k) := by decide +kernel
abbrev cX8_placeTold : ByteArray := prog_10_method_2_code
def yX8_placeTold : MethodName := ⟨RX8, "placeTold", "(III)I"⟩
def RX9 : String := "HandedSlips$Text"
def TX9 : u_T := fun k => match k with
  | 0 => ("HandedSlips$Text", "bytes", "[B", true)
  | _ => ("HandedSlips$Text", "length", "I", false)
def tyX9 : Nat → FieldType := fun k => match k with
  | 0 => .array .byte
  | _ => .int
abbrev wsX90 : List Cond := u_ws RX9 TX9 2
theorem nmX9 : ∀ a, a < 2 → ∀ b, b < 2 → a ≠ b → (TX9 a).2.1 ≠ (TX9 b).2.1 := by decide +kernel
theorem tyX9_ok : ∀ k, k < 2 → parseFieldDescriptor (TX9 k).2.2.1 = some (tyX9 k) := by decide +kernel
abbrev cX9_init : ByteArray := prog_11_method_1_code
def yX9_init : MethodName := ⟨RX9, "<init>", "()V"⟩
abbrev cX9_empty : ByteArray := prog_11_method_2_code
def yX9_empty : MethodName := ⟨RX9, "empty", "()I"⟩
abbrev cX9_append : ByteArray := prog_11_method_3_code
def yX9_append : MethodName := ⟨RX9, "append", "(I)V"⟩
abbrev cX9_byteAt : ByteArray := prog_11_method_4_code
def yX9_byteAt : MethodName := ⟨RX9, "byteAt", "(I)I"⟩
abbrev cX9_spells : ByteArray := prog_11_method_5_code
def yX9_spells : MethodName := ⟨RX9, "spells", "(Ljava/lang/String;II)Z"⟩
def RX10 : String := "HandedSlips$Tower"
def TX10 : u_T := fun k => match k with
  | 0 => ("HandedSlips$Tower", "changes", "[I", true)
  | 1 => ("HandedSlips$Tower", "ropes", "LHandedSlips$Ropes;", true)
  | 2 => ("HandedSlips$Tower", "history", "LHandedSlips$History;", true)
  | 3 => ("HandedSlips$Tower", "heardRows", "LHandedSlips$Records;", true)
  | 4 => ("HandedSlips$Tower", "notes", "LHandedSlips$Records;", true)
  | 5 => ("HandedSlips$Tower", "marks", "LHandedSlips$Records;", true)
  | _ => ("HandedSlips$Tower", "bells", "I", false)
def tyX10 : Nat → FieldType := fun k => match k with
  | 0 => .array .int
  | 1 => .object "HandedSlips$Ropes"
  | 2 => .object "HandedSlips$History"
  | 3 => .object "HandedSlips$Records"
  | 4 => .object "HandedSlips$Records"
  | 5 => .object "HandedSlips$Records"
  | _ => .int
abbrev wsX100 : List Cond := u_ws RX10 TX10 7
theorem nmX10 : ∀ a, a < 7 → ∀ b, b < 7 → a ≠ b → (TX10 a).2.1 ≠ (TX10 b).2.1 := by decide +kernel
theorem tyX10_ok : ∀ k, k < 7 → parseFieldDescriptor (TX10 k).2.2.1 = some (tyX10 k) := by decide +kernel
abbrev cX10_init : ByteArray := prog_12_method_1_code
def yX10_init : MethodName := ⟨RX10, "<init>", "()V"⟩
abbrev cX10_begin : ByteArray := prog_12_method_2_code
def yX10_begin : MethodName := ⟨RX10, "begin", "(I)V"⟩
abbrev cX10_copyTower : ByteArray := prog_12_method_3_code
def yX10_copyTower : MethodName := ⟨RX10, "copyTower", "(LHandedSlips$Tower;)V"⟩
def RX11 : String := "HandedSlips"
def TX11 : u_T := fun k => match k with
  | 0 => ("HandedSlips", "now", "LHandedSlips$Tower;", true)
  | 1 => ("HandedSlips", "firstImage", "LHandedSlips$Tower;", true)
  | 2 => ("HandedSlips", "secondImage", "LHandedSlips$Tower;", true)
  | 3 => ("HandedSlips", "kept", "[Z", true)
  | 4 => ("HandedSlips", "text", "LHandedSlips$Text;", true)
  | 5 => ("HandedSlips", "reader", "LHandedSlips$Reader;", true)
  | 6 => ("HandedSlips", "ringing", "LHandedSlips$Ringing;", true)
  | 7 => ("HandedSlips", "evidence", "LHandedSlips$Evidence;", true)
  | 8 => ("HandedSlips", "refused", "[I", true)
  | 9 => ("HandedSlips", "above", "J", false)
  | _ => ("HandedSlips", "below", "J", false)
def tyX11 : Nat → FieldType := fun k => match k with
  | 0 => .object "HandedSlips$Tower"
  | 1 => .object "HandedSlips$Tower"
  | 2 => .object "HandedSlips$Tower"
  | 3 => .array .boolean
  | 4 => .object "HandedSlips$Text"
  | 5 => .object "HandedSlips$Reader"
  | 6 => .object "HandedSlips$Ringing"
  | 7 => .object "HandedSlips$Evidence"
  | 8 => .array .int
  | 9 => .long
  | _ => .long
abbrev wsX110 : List Cond := u_ws RX11 TX11 11
theorem nmX11 : ∀ a, a < 11 → ∀ b, b < 11 → a ≠ b → (TX11 a).2.1 ≠ (TX11 b).2.1 := by decide +kernel
theorem tyX11_ok : ∀ k, k < 11 → parseFieldDescriptor (TX11 k).2.2.1 = some (tyX11 k) := by decide +kernel
abbrev cX11_init : ByteArray := prog_1_method_1_code
def yX11_init : MethodName := ⟨RX11, "<init>", "()V"⟩
abbrev cX11_tower : ByteArray := prog_1_method_2_code
def yX11_tower : MethodName := ⟨RX11, "tower", "(I)I"⟩
abbrev cX11_method : ByteArray := prog_1_method_3_code
def yX11_method : MethodName := ⟨RX11, "method", "(II)I"⟩
abbrev cX11_type : ByteArray := prog_1_method_4_code
def yX11_type : MethodName := ⟨RX11, "type", "(I)I"⟩
abbrev cX11_clear : ByteArray := prog_1_method_5_code
def yX11_clear : MethodName := ⟨RX11, "clear", "()I"⟩
abbrev cX11_read : ByteArray := prog_1_method_6_code
def yX11_read : MethodName := ⟨RX11, "read", "()I"⟩
abbrev cX11_slips : ByteArray := prog_1_method_7_code
def yX11_slips : MethodName := ⟨RX11, "slips", "(III)I"⟩
abbrev cX11_drops : ByteArray := prog_1_method_8_code
def yX11_drops : MethodName := ⟨RX11, "drops", "(I)I"⟩
abbrev cX11_hands : ByteArray := prog_1_method_9_code
def yX11_hands : MethodName := ⟨RX11, "hands", "(II)I"⟩
abbrev cX11_year : ByteArray := prog_1_method_10_code
def yX11_year : MethodName := ⟨RX11, "year", "(I)I"⟩
abbrev cX11_undo : ByteArray := prog_1_method_11_code
def yX11_undo : MethodName := ⟨RX11, "undo", "()I"⟩
abbrev cX11_of : ByteArray := prog_1_method_12_code
def yX11_of : MethodName := ⟨RX11, "of", "(II)I"⟩
abbrev cX11_row : ByteArray := prog_1_method_13_code
def yX11_row : MethodName := ⟨RX11, "row", "(II)I"⟩
abbrev cX11_repeats : ByteArray := prog_1_method_14_code
def yX11_repeats : MethodName := ⟨RX11, "repeats", "(I)I"⟩
abbrev cX11_clash : ByteArray := prog_1_method_15_code
def yX11_clash : MethodName := ⟨RX11, "clash", "(I)I"⟩
abbrev cX11_mend : ByteArray := prog_1_method_16_code
def yX11_mend : MethodName := ⟨RX11, "mend", "()I"⟩
abbrev cX11_compose : ByteArray := prog_1_method_17_code
def yX11_compose : MethodName := ⟨RX11, "compose", "()I"⟩
abbrev cX11_when : ByteArray := prog_1_method_18_code
def yX11_when : MethodName := ⟨RX11, "when", "()I"⟩
abbrev cX11_clean : ByteArray := prog_1_method_19_code
def yX11_clean : MethodName := ⟨RX11, "clean", "()I"⟩
abbrev cX11_heard : ByteArray := prog_1_method_20_code
def yX11_heard : MethodName := ⟨RX11, "heard", "(II)I"⟩
abbrev cX11_who : ByteArray := prog_1_method_21_code
def yX11_who : MethodName := ⟨RX11, "who", "(I)I"⟩
abbrev cX11_tell : ByteArray := prog_1_method_22_code
def yX11_tell : MethodName := ⟨RX11, "tell", "()I"⟩
abbrev cX11_note : ByteArray := prog_1_method_23_code
def yX11_note : MethodName := ⟨RX11, "note", "(III)I"⟩
abbrev cX11_mark : ByteArray := prog_1_method_24_code
def yX11_mark : MethodName := ⟨RX11, "mark", "(IIII)I"⟩
abbrev cX11_forget : ByteArray := prog_1_method_25_code
def yX11_forget : MethodName := ⟨RX11, "forget", "(I)I"⟩
abbrev cX11_is : ByteArray := prog_1_method_26_code
def yX11_is : MethodName := ⟨RX11, "is", "(I)I"⟩
abbrev cX11_look : ByteArray := prog_1_method_27_code
def yX11_look : MethodName := ⟨RX11, "look", "(I)I"⟩
abbrev cX11_kinds : ByteArray := prog_1_method_28_code
def yX11_kinds : MethodName := ⟨RX11, "kinds", "(I)I"⟩
abbrev cX11_ask : ByteArray := prog_1_method_29_code
def yX11_ask : MethodName := ⟨RX11, "ask", "(I)I"⟩
abbrev cX11_lends : ByteArray := prog_1_method_30_code
def yX11_lends : MethodName := ⟨RX11, "lends", "(II)I"⟩
abbrev cX11_odds : ByteArray := prog_1_method_31_code
def yX11_odds : MethodName := ⟨RX11, "odds", "(I)I"⟩
abbrev cX11_weddings : ByteArray := prog_1_method_32_code
def yX11_weddings : MethodName := ⟨RX11, "weddings", "(II)I"⟩
abbrev cX11_part : ByteArray := prog_1_method_33_code
def yX11_part : MethodName := ⟨RX11, "part", "(I)J"⟩
abbrev cX11_image : ByteArray := prog_1_method_34_code
def yX11_image : MethodName := ⟨RX11, "image", "(I)I"⟩
abbrev cX11_from : ByteArray := prog_1_method_35_code
def yX11_from : MethodName := ⟨RX11, "from", "(I)I"⟩
abbrev cX11_status : ByteArray := prog_1_method_36_code
def yX11_status : MethodName := ⟨RX11, "status", "(I)I"⟩
abbrev cX11_count : ByteArray := prog_1_method_37_code
def yX11_count : MethodName := ⟨RX11, "count", "(I)I"⟩
abbrev cX11_digest : ByteArray := prog_1_method_38_code
def yX11_digest : MethodName := ⟨RX11, "digest", "()J"⟩
abbrev cX11_within : ByteArray := prog_1_method_39_code
def yX11_within : MethodName := ⟨RX11, "within", "(III)Z"⟩
abbrev cX11_isRope : ByteArray := prog_1_method_40_code
def yX11_isRope : MethodName := ⟨RX11, "isRope", "(I)Z"⟩
abbrev cX11_isKind : ByteArray := prog_1_method_41_code
def yX11_isKind : MethodName := ⟨RX11, "isKind", "(I)Z"⟩
abbrev cX11_isRow : ByteArray := prog_1_method_42_code
def yX11_isRow : MethodName := ⟨RX11, "isRow", "(I)Z"⟩
abbrev cX11_refuse : ByteArray := prog_1_method_43_code
def yX11_refuse : MethodName := ⟨RX11, "refuse", "(I)I"⟩
abbrev cX11_imageAt : ByteArray := prog_1_method_44_code
def yX11_imageAt : MethodName := ⟨RX11, "imageAt", "(I)LHandedSlips$Tower;"⟩
abbrev cX11_ringNow : ByteArray := prog_1_method_45_code
def yX11_ringNow : MethodName := ⟨RX11, "ringNow", "()LHandedSlips$Peal;"⟩
abbrev cX11_ropeFact : ByteArray := prog_1_method_46_code
def yX11_ropeFact : MethodName := ⟨RX11, "ropeFact", "(II)I"⟩
abbrev cX11_howMany : ByteArray := prog_1_method_47_code
def yX11_howMany : MethodName := ⟨RX11, "howMany", "(I)I"⟩
abbrev cX11_power : ByteArray := prog_1_method_48_code
def yX11_power : MethodName := ⟨RX11, "power", "(JI)J"⟩
abbrev cX11_commonDivisor : ByteArray := prog_1_method_49_code
def yX11_commonDivisor : MethodName := ⟨RX11, "commonDivisor", "(JJ)J"⟩
def RX12 : String := "HandedSlipsModel"
def TX12 : u_T := fun k => match k with
  | 0 => ("HandedSlipsModel", "refused", "[I", true)
  | 1 => ("HandedSlipsModel", "bells", "I", false)
  | 2 => ("HandedSlipsModel", "town", "I", false)
  | 3 => ("HandedSlipsModel", "heardMany", "I", false)
  | 4 => ("HandedSlipsModel", "noteMany", "I", false)
  | 5 => ("HandedSlipsModel", "markMany", "I", false)
  | 6 => ("HandedSlipsModel", "changes", "[I", true)
  | 7 => ("HandedSlipsModel", "slipKind", "[I", true)
  | 8 => ("HandedSlipsModel", "slipRow", "[I", true)
  | 9 => ("HandedSlipsModel", "ringers", "[I", true)
  | 10 => ("HandedSlipsModel", "years", "[I", true)
  | 11 => ("HandedSlipsModel", "heardOnes", "[I", true)
  | 12 => ("HandedSlipsModel", "noted", "[I", true)
  | 13 => ("HandedSlipsModel", "marked", "[I", true)
  | 14 => ("HandedSlipsModel", "text", "[I", true)
  | 15 => ("HandedSlipsModel", "typed", "I", false)
  | 16 => ("HandedSlipsModel", "readAt", "I", false)
  | 17 => ("HandedSlipsModel", "readNumber", "I", false)
  | 18 => ("HandedSlipsModel", "before", "[I", true)
  | 19 => ("HandedSlipsModel", "line", "[I", true)
  | 20 => ("HandedSlipsModel", "rungs", "[I", true)
  | 21 => ("HandedSlipsModel", "ahead", "[I", true)
  | 22 => ("HandedSlipsModel", "undoMany", "I", false)
  | 23 => ("HandedSlipsModel", "aside", "[I", true)
  | 24 => ("HandedSlipsModel", "kept", "[I", true)
  | 25 => ("HandedSlipsModel", "wouldBe", "[I", true)
  | 26 => ("HandedSlipsModel", "above", "J", false)
  | 27 => ("HandedSlipsModel", "below", "J", false)
  | 28 => ("HandedSlipsModel", "images", "[I", true)
  | 29 => ("HandedSlipsModel", "isKept", "[I", true)
  | _ => ("HandedSlipsModel", "h0", "J", false)
def tyX12 : Nat → FieldType := fun k => match k with
  | 0 => .array .int
  | 1 => .int
  | 2 => .int
  | 3 => .int
  | 4 => .int
  | 5 => .int
  | 6 => .array .int
  | 7 => .array .int
  | 8 => .array .int
  | 9 => .array .int
  | 10 => .array .int
  | 11 => .array .int
  | 12 => .array .int
  | 13 => .array .int
  | 14 => .array .int
  | 15 => .int
  | 16 => .int
  | 17 => .int
  | 18 => .array .int
  | 19 => .array .int
  | 20 => .array .int
  | 21 => .array .int
  | 22 => .int
  | 23 => .array .int
  | 24 => .array .int
  | 25 => .array .int
  | 26 => .long
  | 27 => .long
  | 28 => .array .int
  | 29 => .array .int
  | _ => .long
abbrev wsX120 : List Cond := u_ws RX12 TX12 31
theorem nmX12 : ∀ a, a < 31 → ∀ b, b < 31 → a ≠ b → (TX12 a).2.1 ≠ (TX12 b).2.1 := by decide +kernel
theorem tyX12_ok : ∀ k, k < 31 → parseFieldDescriptor (TX12 k).2.2.1 = some (tyX12 k) := by decide +kernel
abbrev cX12_bad : ByteArray := prog_14_method_1_code
def yX12_bad : MethodName := ⟨RX12, "bad", "()I"⟩
abbrev cX12_no : ByteArray := prog_14_method_3_code
def yX12_no : MethodName := ⟨RX12, "no", "()I"⟩
abbrev cX12_full : ByteArray := prog_14_method_4_code
def yX12_full : MethodName := ⟨RX12, "full", "()I"⟩
abbrev cX12_in : ByteArray := prog_14_method_5_code
def yX12_in : MethodName := ⟨RX12, "in", "(III)Z"⟩
abbrev cX12_has : ByteArray := prog_14_method_6_code
def yX12_has : MethodName := ⟨RX12, "has", "(II)Z"⟩
abbrev cX12_lesser : ByteArray := prog_14_method_7_code
def yX12_lesser : MethodName := ⟨RX12, "lesser", "(II)I"⟩
abbrev cX12_greater : ByteArray := prog_14_method_8_code
def yX12_greater : MethodName := ⟨RX12, "greater", "(II)I"⟩
abbrev cX12_bits : ByteArray := prog_14_method_9_code
def yX12_bits : MethodName := ⟨RX12, "bits", "(I)I"⟩
abbrev cX12_init : ByteArray := prog_14_method_10_code
def yX12_init : MethodName := ⟨RX12, "<init>", "()V"⟩
abbrev cX12_begin : ByteArray := prog_14_method_11_code
def yX12_begin : MethodName := ⟨RX12, "begin", "(I)V"⟩
abbrev cX12_isRope : ByteArray := prog_14_method_12_code
def yX12_isRope : MethodName := ⟨RX12, "isRope", "(I)Z"⟩
abbrev cX12_tower : ByteArray := prog_14_method_13_code
def yX12_tower : MethodName := ⟨RX12, "tower", "(I)I"⟩
abbrev cX12_method : ByteArray := prog_14_method_14_code
def yX12_method : MethodName := ⟨RX12, "method", "(II)I"⟩
abbrev cX12_type : ByteArray := prog_14_method_15_code
def yX12_type : MethodName := ⟨RX12, "type", "(I)I"⟩
abbrev cX12_clear : ByteArray := prog_14_method_16_code
def yX12_clear : MethodName := ⟨RX12, "clear", "()I"⟩
abbrev cX12_here : ByteArray := prog_14_method_17_code
def yX12_here : MethodName := ⟨RX12, "here", "()I"⟩
abbrev cX12_skip : ByteArray := prog_14_method_18_code
def yX12_skip : MethodName := ⟨RX12, "skip", "()V"⟩
abbrev cX12_isLetter : ByteArray := prog_14_method_19_code
def yX12_isLetter : MethodName := ⟨RX12, "isLetter", "(I)Z"⟩
abbrev cX12_isFigure : ByteArray := prog_14_method_20_code
def yX12_isFigure : MethodName := ⟨RX12, "isFigure", "(I)Z"⟩
abbrev cX12_wordSize : ByteArray := prog_14_method_21_code
def yX12_wordSize : MethodName := ⟨RX12, "wordSize", "()I"⟩
abbrev cX12_letter : ByteArray := prog_14_method_22_code
def yX12_letter : MethodName := ⟨RX12, "letter", "(I)I"⟩
abbrev cX12_wordHere : ByteArray := prog_14_method_23_code
def yX12_wordHere : MethodName := ⟨RX12, "wordHere", "()I"⟩
abbrev cX12_number : ByteArray := prog_14_method_24_code
def yX12_number : MethodName := ⟨RX12, "number", "(II)Z"⟩
abbrev cX12_ends : ByteArray := prog_14_method_25_code
def yX12_ends : MethodName := ⟨RX12, "ends", "()Z"⟩
abbrev cX12_readsMethod : ByteArray := prog_14_method_26_code
def yX12_readsMethod : MethodName := ⟨RX12, "readsMethod", "()Z"⟩
abbrev cX12_readsSlip : ByteArray := prog_14_method_27_code
def yX12_readsSlip : MethodName := ⟨RX12, "readsSlip", "()Z"⟩
abbrev cX12_readsRinger : ByteArray := prog_14_method_28_code
def yX12_readsRinger : MethodName := ⟨RX12, "readsRinger", "()Z"⟩
abbrev cX12_readsYears : ByteArray := prog_14_method_29_code
def yX12_readsYears : MethodName := ⟨RX12, "readsYears", "()Z"⟩
abbrev cX12_readsItem : ByteArray := prog_14_method_30_code
def yX12_readsItem : MethodName := ⟨RX12, "readsItem", "()Z"⟩
abbrev cX12_readsFirst : ByteArray := prog_14_method_31_code
def yX12_readsFirst : MethodName := ⟨RX12, "readsFirst", "()Z"⟩
abbrev cX12_readsTower : ByteArray := prog_14_method_32_code
def yX12_readsTower : MethodName := ⟨RX12, "readsTower", "()I"⟩
abbrev cX12_read : ByteArray := prog_14_method_33_code
def yX12_read : MethodName := ⟨RX12, "read", "()I"⟩
abbrev cX12_placeBy : ByteArray := prog_14_method_34_code
def yX12_placeBy : MethodName := ⟨RX12, "placeBy", "(III)I"⟩
abbrev cX12_makesBy : ByteArray := prog_14_method_35_code
def yX12_makesBy : MethodName := ⟨RX12, "makesBy", "(III)Z"⟩
abbrev cX12_slipped : ByteArray := prog_14_method_36_code
def yX12_slipped : MethodName := ⟨RX12, "slipped", "()I"⟩
abbrev cX12_made : ByteArray := prog_14_method_37_code
def yX12_made : MethodName := ⟨RX12, "made", "()I"⟩
abbrev cX12_swaps : ByteArray := prog_14_method_38_code
def yX12_swaps : MethodName := ⟨RX12, "swaps", "(I)V"⟩
abbrev cX12_setMeant : ByteArray := prog_14_method_39_code
def yX12_setMeant : MethodName := ⟨RX12, "setMeant", "(I)V"⟩
abbrev cX12_slides : ByteArray := prog_14_method_40_code
def yX12_slides : MethodName := ⟨RX12, "slides", "(II)V"⟩
abbrev cX12_setRung : ByteArray := prog_14_method_41_code
def yX12_setRung : MethodName := ⟨RX12, "setRung", "(II)V"⟩
abbrev cX12_told : ByteArray := prog_14_method_42_code
def yX12_told : MethodName := ⟨RX12, "told", "()I"⟩
abbrev cX12_meant : ByteArray := prog_14_method_43_code
def yX12_meant : MethodName := ⟨RX12, "meant", "(I)I"⟩
abbrev cX12_rung : ByteArray := prog_14_method_44_code
def yX12_rung : MethodName := ⟨RX12, "rung", "(II)I"⟩
abbrev cX12_setRungs : ByteArray := prog_14_method_45_code
def yX12_setRungs : MethodName := ⟨RX12, "setRungs", "(I)V"⟩
abbrev cX12_earlier : ByteArray := prog_14_method_46_code
def yX12_earlier : MethodName := ⟨RX12, "earlier", "(I)I"⟩
abbrev cX12_isTrue : ByteArray := prog_14_method_47_code
def yX12_isTrue : MethodName := ⟨RX12, "isTrue", "(I)Z"⟩
abbrev cX12_otherwise : ByteArray := prog_14_method_48_code
def yX12_otherwise : MethodName := ⟨RX12, "otherwise", "()I"⟩
abbrev cX12_lays : ByteArray := prog_14_method_49_code
def yX12_lays : MethodName := ⟨RX12, "lays", "([II)V"⟩
abbrev cX12_takes : ByteArray := prog_14_method_50_code
def yX12_takes : MethodName := ⟨RX12, "takes", "([II)V"⟩
abbrev cX12_notes : ByteArray := prog_14_method_51_code
def yX12_notes : MethodName := ⟨RX12, "notes", "()V"⟩
abbrev cX12_passes : ByteArray := prog_14_method_52_code
def yX12_passes : MethodName := ⟨RX12, "passes", "()V"⟩
abbrev cX12_slips : ByteArray := prog_14_method_53_code
def yX12_slips : MethodName := ⟨RX12, "slips", "(III)I"⟩
abbrev cX12_drops : ByteArray := prog_14_method_54_code
def yX12_drops : MethodName := ⟨RX12, "drops", "(I)I"⟩
abbrev cX12_hands : ByteArray := prog_14_method_55_code
def yX12_hands : MethodName := ⟨RX12, "hands", "(II)I"⟩
abbrev cX12_year : ByteArray := prog_14_method_56_code
def yX12_year : MethodName := ⟨RX12, "year", "(I)I"⟩
abbrev cX12_undo : ByteArray := prog_14_method_57_code
def yX12_undo : MethodName := ⟨RX12, "undo", "()I"⟩
abbrev cX12_ropeTells : ByteArray := prog_14_method_58_code
def yX12_ropeTells : MethodName := ⟨RX12, "ropeTells", "(II)I"⟩
abbrev cX12_of : ByteArray := prog_14_method_59_code
def yX12_of : MethodName := ⟨RX12, "of", "(II)I"⟩
abbrev cX12_row : ByteArray := prog_14_method_60_code
def yX12_row : MethodName := ⟨RX12, "row", "(II)I"⟩
abbrev cX12_repeats : ByteArray := prog_14_method_61_code
def yX12_repeats : MethodName := ⟨RX12, "repeats", "(I)I"⟩
abbrev cX12_clash : ByteArray := prog_14_method_62_code
def yX12_clash : MethodName := ⟨RX12, "clash", "(I)I"⟩
abbrev cX12_mend : ByteArray := prog_14_method_63_code
def yX12_mend : MethodName := ⟨RX12, "mend", "()I"⟩
abbrev cX12_compose : ByteArray := prog_14_method_64_code
def yX12_compose : MethodName := ⟨RX12, "compose", "()I"⟩
abbrev cX12_when : ByteArray := prog_14_method_65_code
def yX12_when : MethodName := ⟨RX12, "when", "()I"⟩
abbrev cX12_clean : ByteArray := prog_14_method_66_code
def yX12_clean : MethodName := ⟨RX12, "clean", "()I"⟩
abbrev cX12_areBells : ByteArray := prog_14_method_67_code
def yX12_areBells : MethodName := ⟨RX12, "areBells", "(I)Z"⟩
abbrev cX12_heard : ByteArray := prog_14_method_68_code
def yX12_heard : MethodName := ⟨RX12, "heard", "(II)I"⟩
abbrev cX12_isHeard : ByteArray := prog_14_method_69_code
def yX12_isHeard : MethodName := ⟨RX12, "isHeard", "(I)Z"⟩
abbrev cX12_who : ByteArray := prog_14_method_70_code
def yX12_who : MethodName := ⟨RX12, "who", "(I)I"⟩
abbrev cX12_alikeIn : ByteArray := prog_14_method_71_code
def yX12_alikeIn : MethodName := ⟨RX12, "alikeIn", "(I)I"⟩
abbrev cX12_tell : ByteArray := prog_14_method_72_code
def yX12_tell : MethodName := ⟨RX12, "tell", "()I"⟩
abbrev cX12_note : ByteArray := prog_14_method_73_code
def yX12_note : MethodName := ⟨RX12, "note", "(III)I"⟩
abbrev cX12_mark : ByteArray := prog_14_method_74_code
def yX12_mark : MethodName := ⟨RX12, "mark", "(IIII)I"⟩
abbrev cX12_forget : ByteArray := prog_14_method_75_code
def yX12_forget : MethodName := ⟨RX12, "forget", "(I)I"⟩
abbrev cX12_slipKinds : ByteArray := prog_14_method_76_code
def yX12_slipKinds : MethodName := ⟨RX12, "slipKinds", "(I)I"⟩
abbrev cX12_ringerKinds : ByteArray := prog_14_method_77_code
def yX12_ringerKinds : MethodName := ⟨RX12, "ringerKinds", "(I)I"⟩
abbrev cX12_is : ByteArray := prog_14_method_78_code
def yX12_is : MethodName := ⟨RX12, "is", "(I)I"⟩
abbrev cX12_kinds : ByteArray := prog_14_method_79_code
def yX12_kinds : MethodName := ⟨RX12, "kinds", "(I)I"⟩
abbrev cX12_look : ByteArray := prog_14_method_80_code
def yX12_look : MethodName := ⟨RX12, "look", "(I)I"⟩
abbrev cX12_ask : ByteArray := prog_14_method_81_code
def yX12_ask : MethodName := ⟨RX12, "ask", "(I)I"⟩
abbrev cX12_placeIn : ByteArray := prog_14_method_82_code
def yX12_placeIn : MethodName := ⟨RX12, "placeIn", "(I)I"⟩
abbrev cX12_gets : ByteArray := prog_14_method_83_code
def yX12_gets : MethodName := ⟨RX12, "gets", "(IIII)I"⟩
abbrev cX12_lends : ByteArray := prog_14_method_84_code
def yX12_lends : MethodName := ⟨RX12, "lends", "(II)I"⟩
abbrev cX12_lay : ByteArray := prog_14_method_85_code
def yX12_lay : MethodName := ⟨RX12, "lay", "(JJ)V"⟩
abbrev cX12_odds : ByteArray := prog_14_method_86_code
def yX12_odds : MethodName := ⟨RX12, "odds", "(I)I"⟩
abbrev cX12_weddings : ByteArray := prog_14_method_87_code
def yX12_weddings : MethodName := ⟨RX12, "weddings", "(II)I"⟩
abbrev cX12_part : ByteArray := prog_14_method_88_code
def yX12_part : MethodName := ⟨RX12, "part", "(I)J"⟩
abbrev cX12_layAll : ByteArray := prog_14_method_89_code
def yX12_layAll : MethodName := ⟨RX12, "layAll", "([II)V"⟩
abbrev cX12_takeAll : ByteArray := prog_14_method_90_code
def yX12_takeAll : MethodName := ⟨RX12, "takeAll", "([II)V"⟩
abbrev cX12_image : ByteArray := prog_14_method_91_code
def yX12_image : MethodName := ⟨RX12, "image", "(I)I"⟩
abbrev cX12_from : ByteArray := prog_14_method_92_code
def yX12_from : MethodName := ⟨RX12, "from", "(I)I"⟩
abbrev cX12_status : ByteArray := prog_14_method_93_code
def yX12_status : MethodName := ⟨RX12, "status", "(I)I"⟩
abbrev cX12_countOf : ByteArray := prog_14_method_94_code
def yX12_countOf : MethodName := ⟨RX12, "countOf", "(I)I"⟩
abbrev cX12_count : ByteArray := prog_14_method_95_code
def yX12_count : MethodName := ⟨RX12, "count", "(I)I"⟩
abbrev cX12_mix : ByteArray := prog_14_method_96_code
def yX12_mix : MethodName := ⟨RX12, "mix", "(J)V"⟩
abbrev cX12_digest : ByteArray := prog_14_method_97_code
def yX12_digest : MethodName := ⟨RX12, "digest", "()J"⟩
def RJx145de : String := "java/io/Serializable"
def TJx145de : u_T := fun k => match k with
  | _ => ("", "", "", false)
def tyJx145de : Nat → FieldType := fun k => match k with
  | _ => .int
abbrev wsJx145de0 : List Cond := u_ws RJx145de TJx145de 0
theorem nmJx145de : ∀ a, a < 0 → ∀ b, b < 0 → a ≠ b → (TJx145de a).2.1 ≠ (TJx145de b).2.1 := by decide +kernel
theorem tyJx145de_ok : ∀ k, k < 0 → parseFieldDescriptor (TJx145de k).2.2.1 = some (tyJx145de k) := by decide +kernel
def RJx9f9b0 : String := "java/lang/CharSequence"
def TJx9f9b0 : u_T := fun k => match k with
  | _ => ("", "", "", false)
def tyJx9f9b0 : Nat → FieldType := fun k => match k with
  | _ => .int
abbrev wsJx9f9b00 : List Cond := u_ws RJx9f9b0 TJx9f9b0 0
theorem nmJx9f9b0 : ∀ a, a < 0 → ∀ b, b < 0 → a ≠ b → (TJx9f9b0 a).2.1 ≠ (TJx9f9b0 b).2.1 := by decide +kernel
theorem tyJx9f9b0_ok : ∀ k, k < 0 → parseFieldDescriptor (TJx9f9b0 k).2.2.1 = some (tyJx9f9b0 k) := by decide +kernel
def RJxb160c : String := "java/lang/Comparable"
def TJxb160c : u_T := fun k => match k with
  | _ => ("", "", "", false)
def tyJxb160c : Nat → FieldType := fun k => match k with
  | _ => .int
abbrev wsJxb160c0 : List Cond := u_ws RJxb160c TJxb160c 0
theorem nmJxb160c : ∀ a, a < 0 → ∀ b, b < 0 → a ≠ b → (TJxb160c a).2.1 ≠ (TJxb160c b).2.1 := by decide +kernel
theorem tyJxb160c_ok : ∀ k, k < 0 → parseFieldDescriptor (TJxb160c k).2.2.1 = some (tyJxb160c k) := by decide +kernel
def RJ6 : String := "java/lang/Integer"
def TJ6 : u_T := fun k => match k with
  | _ => ("", "", "", false)
def tyJ6 : Nat → FieldType := fun k => match k with
  | _ => .int
abbrev wsJ60 : List Cond := u_ws RJ6 TJ6 0
theorem nmJ6 : ∀ a, a < 0 → ∀ b, b < 0 → a ≠ b → (TJ6 a).2.1 ≠ (TJ6 b).2.1 := by decide +kernel
theorem tyJ6_ok : ∀ k, k < 0 → parseFieldDescriptor (TJ6 k).2.2.1 = some (tyJ6 k) := by decide +kernel
abbrev cJ6_bitCount_0f7a4 : ByteArray := prog_15_method_49_code
def yJ6_bitCount_0f7a4 : MethodName := ⟨RJ6, "bitCount", "(I)I"⟩
def RJ9 : String := "java/lang/Math"
def TJ9 : u_T := fun k => match k with
  | _ => ("", "", "", false)
def tyJ9 : Nat → FieldType := fun k => match k with
  | _ => .int
abbrev wsJ90 : List Cond := u_ws RJ9 TJ9 0
theorem nmJ9 : ∀ a, a < 0 → ∀ b, b < 0 → a ≠ b → (TJ9 a).2.1 ≠ (TJ9 b).2.1 := by decide +kernel
theorem tyJ9_ok : ∀ k, k < 0 → parseFieldDescriptor (TJ9 k).2.2.1 = some (tyJ9 k) := by decide +kernel
abbrev cJ9_max_7cf53 : ByteArray := prog_16_method_65_code
def yJ9_max_7cf53 : MethodName := ⟨RJ9, "max", "(II)I"⟩
abbrev cJ9_min_7cf53 : ByteArray := prog_16_method_69_code
def yJ9_min_7cf53 : MethodName := ⟨RJ9, "min", "(II)I"⟩
def RJ0 : String := "java/lang/String"
def TJ0 : u_T := fun k => match k with
  | _ => ("", "", "", false)
def tyJ0 : Nat → FieldType := fun k => match k with
  | _ => .int
abbrev wsJ00 : List Cond := u_ws RJ0 TJ0 0
theorem nmJ0 : ∀ a, a < 0 → ∀ b, b < 0 → a ≠ b → (TJ0 a).2.1 ≠ (TJ0 b).2.1 := by decide +kernel
theorem tyJ0_ok : ∀ k, k < 0 → parseFieldDescriptor (TJ0 k).2.2.1 = some (tyJ0 k) := by decide +kernel
abbrev cJ0_length_8abf5 : ByteArray := prog_17_method_54_code
def yJ0_length_8abf5 : MethodName := ⟨RJ0, "length", "()I"⟩
abbrev cJ0_charAt_5068e : ByteArray := prog_17_method_56_code
def yJ0_charAt_5068e : MethodName := ⟨RJ0, "charAt", "(I)C"⟩
abbrev cJ0_coder_7d493 : ByteArray := prog_17_method_152_code
def yJ0_coder_7d493 : MethodName := ⟨RJ0, "coder", "()B"⟩
abbrev cJ0_isLatin1_aae02 : ByteArray := prog_17_method_154_code
def yJ0_isLatin1_aae02 : MethodName := ⟨RJ0, "isLatin1", "()Z"⟩
abbrev cJ0_checkIndex_df160 : ByteArray := prog_17_method_155_code
def yJ0_checkIndex_df160 : MethodName := ⟨RJ0, "checkIndex", "(II)V"⟩
def RJ1 : String := "java/lang/StringLatin1"
def TJ1 : u_T := fun k => match k with
  | _ => ("", "", "", false)
def tyJ1 : Nat → FieldType := fun k => match k with
  | _ => .int
abbrev wsJ10 : List Cond := u_ws RJ1 TJ1 0
theorem nmJ1 : ∀ a, a < 0 → ∀ b, b < 0 → a ≠ b → (TJ1 a).2.1 ≠ (TJ1 b).2.1 := by decide +kernel
theorem tyJ1_ok : ∀ k, k < 0 → parseFieldDescriptor (TJ1 k).2.2.1 = some (tyJ1 k) := by decide +kernel
abbrev cJ1_charAt_3b067 : ByteArray := prog_18_method_2_code
def yJ1_charAt_3b067 : MethodName := ⟨RJ1, "charAt", "([BI)C"⟩
def RJ2 : String := "java/lang/StringUTF16"
def TJ2 : u_T := fun k => match k with
  | _ => ("", "", "", false)
def tyJ2 : Nat → FieldType := fun k => match k with
  | _ => .int
abbrev wsJ20 : List Cond := u_ws RJ2 TJ2 0
theorem nmJ2 : ∀ a, a < 0 → ∀ b, b < 0 → a ≠ b → (TJ2 a).2.1 ≠ (TJ2 b).2.1 := by decide +kernel
theorem tyJ2_ok : ∀ k, k < 0 → parseFieldDescriptor (TJ2 k).2.2.1 = some (tyJ2 k) := by decide +kernel
abbrev cJ2_getChar_3b067 : ByteArray := prog_19_method_5_code
def yJ2_getChar_3b067 : MethodName := ⟨RJ2, "getChar", "([BI)C"⟩
abbrev cJ2_length_9d52b : ByteArray := prog_19_method_6_code
def yJ2_length_9d52b : MethodName := ⟨RJ2, "length", "([B)I"⟩
abbrev cJ2_charAt_3b067 : ByteArray := prog_19_method_83_code
def yJ2_charAt_3b067 : MethodName := ⟨RJ2, "charAt", "([BI)C"⟩
abbrev cJ2_checkIndex_2214a : ByteArray := prog_19_method_91_code
def yJ2_checkIndex_2214a : MethodName := ⟨RJ2, "checkIndex", "(I[B)V"⟩
def RJ10 : String := "java/lang/System"
def TJ10 : u_T := fun k => match k with
  | _ => ("", "", "", false)
def tyJ10 : Nat → FieldType := fun k => match k with
  | _ => .int
abbrev wsJ100 : List Cond := u_ws RJ10 TJ10 0
theorem nmJ10 : ∀ a, a < 0 → ∀ b, b < 0 → a ≠ b → (TJ10 a).2.1 ≠ (TJ10 b).2.1 := by decide +kernel
theorem tyJ10_ok : ∀ k, k < 0 → parseFieldDescriptor (TJ10 k).2.2.1 = some (tyJ10 k) := by decide +kernel
def RJxfd54e : String := "java/lang/constant/Constable"
def TJxfd54e : u_T := fun k => match k with
  | _ => ("", "", "", false)
def tyJxfd54e : Nat → FieldType := fun k => match k with
  | _ => .int
abbrev wsJxfd54e0 : List Cond := u_ws RJxfd54e TJxfd54e 0
theorem nmJxfd54e : ∀ a, a < 0 → ∀ b, b < 0 → a ≠ b → (TJxfd54e a).2.1 ≠ (TJxfd54e b).2.1 := by decide +kernel
theorem tyJxfd54e_ok : ∀ k, k < 0 → parseFieldDescriptor (TJxfd54e k).2.2.1 = some (tyJxfd54e k) := by decide +kernel
def RJx3cf43 : String := "java/lang/constant/ConstantDesc"
def TJx3cf43 : u_T := fun k => match k with
  | _ => ("", "", "", false)
def tyJx3cf43 : Nat → FieldType := fun k => match k with
  | _ => .int
abbrev wsJx3cf430 : List Cond := u_ws RJx3cf43 TJx3cf43 0
theorem nmJx3cf43 : ∀ a, a < 0 → ∀ b, b < 0 → a ≠ b → (TJx3cf43 a).2.1 ≠ (TJx3cf43 b).2.1 := by decide +kernel
theorem tyJx3cf43_ok : ∀ k, k < 0 → parseFieldDescriptor (TJx3cf43 k).2.2.1 = some (tyJx3cf43 k) := by decide +kernel
def RJ7 : String := "java/util/Arrays"
def TJ7 : u_T := fun k => match k with
  | _ => ("", "", "", false)
def tyJ7 : Nat → FieldType := fun k => match k with
  | _ => .int
abbrev wsJ70 : List Cond := u_ws RJ7 TJ7 0
theorem nmJ7 : ∀ a, a < 0 → ∀ b, b < 0 → a ≠ b → (TJ7 a).2.1 ≠ (TJ7 b).2.1 := by decide +kernel
theorem tyJ7_ok : ∀ k, k < 0 → parseFieldDescriptor (TJ7 k).2.2.1 = some (tyJ7 k) := by decide +kernel
abbrev cJ7_fill_53178 : ByteArray := prog_21_method_103_code
def yJ7_fill_53178 : MethodName := ⟨RJ7, "fill", "([II)V"⟩
def RJ3 : String := "jdk/internal/util/Preconditions"
def TJ3 : u_T := fun k => match k with
  | _ => ("", "", "", false)
def tyJ3 : Nat → FieldType := fun k => match k with
  | _ => .int
abbrev wsJ30 : List Cond := u_ws RJ3 TJ3 0
theorem nmJ3 : ∀ a, a < 0 → ∀ b, b < 0 → a ≠ b → (TJ3 a).2.1 ≠ (TJ3 b).2.1 := by decide +kernel
theorem tyJ3_ok : ∀ k, k < 0 → parseFieldDescriptor (TJ3 k).2.2.1 = some (tyJ3 k) := by decide +kernel
abbrev cJ3_checkIndex_8e157 : ByteArray := prog_22_method_11_code
def yJ3_checkIndex_8e157 : MethodName := ⟨RJ3, "checkIndex", "(IILjava/util/function/BiFunction;)I"⟩
def RL : String := "HandedSlipsLaw"
abbrev cL_law : ByteArray := code
def yL_law : MethodName := ⟨RL, "law", "([I)Z"⟩
abbrev vwCl : List vw_C := [(RX0, TX0, 4), (RX1, TX1, 2), (RX2, TX2, 6), (RX3, TX3, 7), (RX4, TX4, 2), (RX6, TX6, 5), (RX7, TX7, 1), (RX9, TX9, 2), (RX10, TX10, 7), (RX11, TX11, 11), (RX12, TX12, 31)]
theorem ip_in_X0 : ∀ w ∈ u_ws RX0 TX0 4, w ∈ lw_tbl := by decide +kernel
theorem ip_in_X1 : ∀ w ∈ u_ws RX1 TX1 2, w ∈ lw_tbl := by decide +kernel
theorem ip_in_X2 : ∀ w ∈ u_ws RX2 TX2 6, w ∈ lw_tbl := by decide +kernel
theorem ip_in_X3 : ∀ w ∈ u_ws RX3 TX3 7, w ∈ lw_tbl := by decide +kernel
theorem ip_in_X4 : ∀ w ∈ u_ws RX4 TX4 2, w ∈ lw_tbl := by decide +kernel
theorem ip_in_X6 : ∀ w ∈ u_ws RX6 TX6 5, w ∈ lw_tbl := by decide +kernel
theorem ip_in_X7 : ∀ w ∈ u_ws RX7 TX7 1, w ∈ lw_tbl := by decide +kernel
theorem ip_in_X9 : ∀ w ∈ u_ws RX9 TX9 2, w ∈ lw_tbl := by decide +kernel
theorem ip_in_X10 : ∀ w ∈ u_ws RX10 TX10 7, w ∈ lw_tbl := by decide +kernel
theorem ip_in_X11 : ∀ w ∈ u_ws RX11 TX11 11, w ∈ lw_tbl := by decide +kernel
theorem ip_in_X12 : ∀ w ∈ u_ws RX12 TX12 31, w ∈ lw_tbl := by decide +kernel
theorem ip_cl_in : ∀ (ci : Nat) (r : vw_C), vwCl[ci]? = some r → ∀ w ∈ u_ws r.1 r.2.1 r.2.2, w ∈ lw_tbl := by
  intro ci r h
  have hm := List.mem_of_getElem? h
  simp only [vwCl, List.mem_cons, List.not_mem_nil, or_false] at hm
  rcases hm with rfl | rfl | rfl | rfl | rfl | rfl | rfl | rfl | rfl | rfl | rfl
  · exact ip_in_X0
  · exact ip_in_X1
  · exact ip_in_X2
  · exact ip_in_X3
  · exact ip_in_X4
  · exact ip_in_X6
  · exact ip_in_X7
  · exact ip_in_X9
  · exact ip_in_X10
  · exact ip_in_X11
  · exact ip_in_X12
def ip_ty : Nat → Nat → FieldType := fun ci => match ci with
  | 0 => tyX0
  | 1 => tyX1
  | 2 => tyX2
  | 3 => tyX3
  | 4 => tyX4
  | 5 => tyX6
  | 6 => tyX7
  | 7 => tyX9
  | 8 => tyX10
  | 9 => tyX11
  | _ => tyX12
theorem ip_cl_ty : ∀ (ci : Nat) (r : vw_C), vwCl[ci]? = some r → (∀ k, k < r.2.2 → parseFieldDescriptor (r.2.1 k).2.2.1 = some (ip_ty ci k)) ∧ (∀ a, a < r.2.2 → ∀ b, b < r.2.2 → a ≠ b → (r.2.1 a).2.1 ≠ (r.2.1 b).2.1) := by
  intro ci r h
  match ci, h with
  | 0, h => cases h; exact ⟨tyX0_ok, nmX0⟩
  | 1, h => cases h; exact ⟨tyX1_ok, nmX1⟩
  | 2, h => cases h; exact ⟨tyX2_ok, nmX2⟩
  | 3, h => cases h; exact ⟨tyX3_ok, nmX3⟩
  | 4, h => cases h; exact ⟨tyX4_ok, nmX4⟩
  | 5, h => cases h; exact ⟨tyX6_ok, nmX6⟩
  | 6, h => cases h; exact ⟨tyX7_ok, nmX7⟩
  | 7, h => cases h; exact ⟨tyX9_ok, nmX9⟩
  | 8, h => cases h; exact ⟨tyX10_ok, nmX10⟩
  | 9, h => cases h; exact ⟨tyX11_ok, nmX11⟩
  | 10, h => cases h; exact ⟨tyX12_ok, nmX12⟩
  | k + 11, h => simp [vwCl] at h
end
section
def ip_ocN : List String := ["HandedSlipsLaw", RX0, RX1, RX2, RX3, RX4, RX5, RX6, RX7, RX8, RX9, RX10, RX11, RX12, RJ6, RJ0, RJ1, RJ7, RJ3]
def ip_mi : List (MethodName × ByteArray × Nat × Option FieldType) := [(x, code, 4, ret), (yX0_init, cX0_init, 1, none), (yX0_findSets, cX0_findSets, 5, none), (yX0_agrees, cX0_agrees, 4, (some (FieldType.boolean))), (yX0_addSet, cX0_addSet, 3, none), (yX0_ropesInAll, cX0_ropesInAll, 3, (some (FieldType.int))), (yX0_ropesInSome, cX0_ropesInSome, 3, (some (FieldType.int))), (yX0_tellingRow, cX0_tellingRow, 5, (some (FieldType.int))), (yX0_mostAlike, cX0_mostAlike, 6, (some (FieldType.int))), (yX0_slipKinds, cX0_slipKinds, 7, (some (FieldType.int))), (yX0_lookingPlace, cX0_lookingPlace, 6, (some (FieldType.int))), (yX0_mostComingAlike, cX0_mostComingAlike, 6, (some (FieldType.int))), (yX0_ringerKinds, cX0_ringerKinds, 7, (some (FieldType.int))), (yX0_askingYears, cX0_askingYears, 6, (some (FieldType.int))), (yX0_greaterPart, cX0_greaterPart, 6, (some (FieldType.int))), (yX1_init, cX1_init, 1, none), (yX1_letGo, cX1_letGo, 1, none), (yX1_keep, cX1_keep, 2, none), (yX1_dropOldest, cX1_dropOldest, 2, none), (yX1_restore, cX1_restore, 2, none), (yX1_copyHistory, cX1_copyHistory, 3, none), (yX2_init, cX2_init, 1, none), (yX2_mean, cX2_mean, 5, none), (yX2_swapPairs, cX2_swapPairs, 7, none), (yX2_lend, cX2_lend, 4, none), (yX2_ring, cX2_ring, 5, none), (yX2_makeSlip, cX2_makeSlip, 7, none), (yX2_placeOf, cX2_placeOf, 4, (some (FieldType.int))), (yX2_numberOf, cX2_numberOf, 4, (some (FieldType.int))), (yX2_rowLike, cX2_rowLike, 3, (some (FieldType.int))), (yX2_firstRepeat, cX2_firstRepeat, 2, (some (FieldType.int))), (yX2_isTrue, cX2_isTrue, 1, (some (FieldType.boolean))), (yX2_rowsAstray, cX2_rowsAstray, 3, (some (FieldType.int))), (yX2_rowsAstrayOf, cX2_rowsAstrayOf, 4, (some (FieldType.int))), (yX3_init, cX3_init, 1, none), (yX3_parse, cX3_parse, 3, (some (FieldType.int))), (yX3_readItem, cX3_readItem, 5, (some (FieldType.boolean))), (yX3_numbersOf, cX3_numbersOf, 1, (some (FieldType.int))), (yX3_standsAt, cX3_standsAt, 3, (some (FieldType.boolean))), (yX3_apply, cX3_apply, 2, none), (yX3_nextToken, cX3_nextToken, 2, none), (yX3_skip, cX3_skip, 5, (some (FieldType.int))), (yX3_itemSpelled, cX3_itemSpelled, 2, (some (FieldType.int))), (yX3_wordOf, cX3_wordOf, 1, (some ((FieldType.object "java/lang/String")))), (yX3_numberSpelled, cX3_numberSpelled, 3, (some (FieldType.int))), (yX4_init, cX4_init, 1, none), (yX4_append, cX4_append, 6, (some (FieldType.int))), (yX4_cell, cX4_cell, 4, (some (FieldType.int))), (yX4_mixInto, cX4_mixInto, 8, (some (FieldType.long))), (yX4_forgetAll, cX4_forgetAll, 2, (some (FieldType.int))), (yX4_copyRecords, cX4_copyRecords, 2, none), (yX5_makes, cX5_makes, 5, (some (FieldType.boolean))), (yX6_init, cX6_init, 1, none), (yX6_leastMend, cX6_leastMend, 6, (some (FieldType.int))), (yX6_leastMethod, cX6_leastMethod, 5, (some (FieldType.int))), (yX6_advanceTrial, cX6_advanceTrial, 3, (some (FieldType.boolean))), (yX6_trialNumber, cX6_trialNumber, 3, (some (FieldType.int))), (yX6_yearsUntilTrue, cX6_yearsUntilTrue, 3, (some (FieldType.int))), (yX6_trueWeight, cX6_trueWeight, 9, (some (FieldType.long))), (yX6_restingPairs, cX6_restingPairs, 8, (some (FieldType.int))), (yX6_weddingRows, cX6_weddingRows, 9, (some (FieldType.int))), (yX7_init, cX7_init, 1, none), (yX7_untell, cX7_untell, 2, none), (yX7_copyRopes, cX7_copyRopes, 2, none), (yX7_cell, cX7_cell, 3, (some (FieldType.int))), (yX7_setCell, cX7_setCell, 4, none), (yX7_slipKind, cX7_slipKind, 2, (some (FieldType.int))), (yX7_slipRow, cX7_slipRow, 2, (some (FieldType.int))), (yX7_ringerKind, cX7_ringerKind, 2, (some (FieldType.int))), (yX7_yearsOf, cX7_yearsOf, 2, (some (FieldType.int))), (yX7_townYear, cX7_townYear, 1, (some (FieldType.int))), (yX7_hasSlip, cX7_hasSlip, 2, (some (FieldType.boolean))), (yX7_putSlip, cX7_putSlip, 4, none), (yX7_takeSlip, cX7_takeSlip, 2, none), (yX7_seat, cX7_seat, 4, none), (yX7_passYear, cX7_passYear, 2, none), (yX7_passYears, cX7_passYears, 3, none), (yX7_makesSlip, cX7_makesSlip, 2, (some (FieldType.boolean))), (yX7_slipBits, cX7_slipBits, 3, (some (FieldType.int))), (yX7_madeBits, cX7_madeBits, 3, (some (FieldType.int))), (yX7_madeInRow, cX7_madeInRow, 4, (some (FieldType.int))), (yX7_fullestRow, cX7_fullestRow, 5, (some (FieldType.int))), (yX8_placeTold, cX8_placeTold, 6, (some (FieldType.int))), (yX9_init, cX9_init, 1, none), (yX9_empty, cX9_empty, 2, (some (FieldType.int))), (yX9_append, cX9_append, 2, none), (yX9_byteAt, cX9_byteAt, 2, (some (FieldType.int))), (yX9_spells, cX9_spells, 5, (some (FieldType.boolean))), (yX10_init, cX10_init, 1, none), (yX10_begin, cX10_begin, 2, none), (yX10_copyTower, cX10_copyTower, 2, none), (yX11_init, cX11_init, 1, none), (yX11_tower, cX11_tower, 3, (some (FieldType.int))), (yX11_method, cX11_method, 4, (some (FieldType.int))), (yX11_type, cX11_type, 2, (some (FieldType.int))), (yX11_clear, cX11_clear, 1, (some (FieldType.int))), (yX11_read, cX11_read, 2, (some (FieldType.int))), (yX11_slips, cX11_slips, 5, (some (FieldType.int))), (yX11_drops, cX11_drops, 3, (some (FieldType.int))), (yX11_hands, cX11_hands, 4, (some (FieldType.int))), (yX11_year, cX11_year, 2, (some (FieldType.int))), (yX11_undo, cX11_undo, 1, (some (FieldType.int))), (yX11_of, cX11_of, 3, (some (FieldType.int))), (yX11_row, cX11_row, 4, (some (FieldType.int))), (yX11_repeats, cX11_repeats, 4, (some (FieldType.int))), (yX11_clash, cX11_clash, 3, (some (FieldType.int))), (yX11_mend, cX11_mend, 1, (some (FieldType.int))), (yX11_compose, cX11_compose, 1, (some (FieldType.int))), (yX11_when, cX11_when, 1, (some (FieldType.int))), (yX11_clean, cX11_clean, 1, (some (FieldType.int))), (yX11_heard, cX11_heard, 3, (some (FieldType.int))), (yX11_who, cX11_who, 2, (some (FieldType.int))), (yX11_tell, cX11_tell, 1, (some (FieldType.int))), (yX11_note, cX11_note, 4, (some (FieldType.int))), (yX11_mark, cX11_mark, 5, (some (FieldType.int))), (yX11_forget, cX11_forget, 3, (some (FieldType.int))), (yX11_is, cX11_is, 2, (some (FieldType.int))), (yX11_look, cX11_look, 2, (some (FieldType.int))), (yX11_kinds, cX11_kinds, 2, (some (FieldType.int))), (yX11_ask, cX11_ask, 2, (some (FieldType.int))), (yX11_lends, cX11_lends, 3, (some (FieldType.int))), (yX11_odds, cX11_odds, 8, (some (FieldType.int))), (yX11_weddings, cX11_weddings, 3, (some (FieldType.int))), (yX11_part, cX11_part, 2, (some (FieldType.long))), (yX11_image, cX11_image, 2, (some (FieldType.int))), (yX11_from, cX11_from, 2, (some (FieldType.int))), (yX11_status, cX11_status, 2, (some (FieldType.int))), (yX11_count, cX11_count, 2, (some (FieldType.int))), (yX11_digest, cX11_digest, 5, (some (FieldType.long))), (yX11_within, cX11_within, 3, (some (FieldType.boolean))), (yX11_isRope, cX11_isRope, 2, (some (FieldType.boolean))), (yX11_isKind, cX11_isKind, 1, (some (FieldType.boolean))), (yX11_isRow, cX11_isRow, 6, (some (FieldType.boolean))), (yX11_refuse, cX11_refuse, 3, (some (FieldType.int))), (yX11_imageAt, cX11_imageAt, 2, (some ((FieldType.object "HandedSlips$Tower")))), (yX11_ringNow, cX11_ringNow, 2, (some ((FieldType.object "HandedSlips$Peal")))), (yX11_ropeFact, cX11_ropeFact, 3, (some (FieldType.int))), (yX11_howMany, cX11_howMany, 2, (some (FieldType.int))), (yX11_power, cX11_power, 6, (some (FieldType.long))), (yX11_commonDivisor, cX11_commonDivisor, 11, (some (FieldType.long))), (yX12_bad, cX12_bad, 1, (some (FieldType.int))), (yX12_no, cX12_no, 1, (some (FieldType.int))), (yX12_full, cX12_full, 1, (some (FieldType.int))), (yX12_in, cX12_in, 3, (some (FieldType.boolean))), (yX12_has, cX12_has, 2, (some (FieldType.boolean))), (yX12_lesser, cX12_lesser, 2, (some (FieldType.int))), (yX12_greater, cX12_greater, 2, (some (FieldType.int))), (yX12_bits, cX12_bits, 3, (some (FieldType.int))), (yX12_init, cX12_init, 1, none), (yX12_begin, cX12_begin, 3, none), (yX12_isRope, cX12_isRope, 2, (some (FieldType.boolean))), (yX12_tower, cX12_tower, 3, (some (FieldType.int))), (yX12_method, cX12_method, 4, (some (FieldType.int))), (yX12_type, cX12_type, 2, (some (FieldType.int))), (yX12_clear, cX12_clear, 2, (some (FieldType.int))), (yX12_here, cX12_here, 1, (some (FieldType.int))), (yX12_skip, cX12_skip, 1, none), (yX12_isLetter, cX12_isLetter, 1, (some (FieldType.boolean))), (yX12_isFigure, cX12_isFigure, 1, (some (FieldType.boolean))), (yX12_wordSize, cX12_wordSize, 2, (some (FieldType.int))), (yX12_letter, cX12_letter, 2, (some (FieldType.int))), (yX12_wordHere, cX12_wordHere, 2, (some (FieldType.int))), (yX12_number, cX12_number, 5, (some (FieldType.boolean))), (yX12_ends, cX12_ends, 1, (some (FieldType.boolean))), (yX12_readsMethod, cX12_readsMethod, 2, (some (FieldType.boolean))), (yX12_readsSlip, cX12_readsSlip, 2, (some (FieldType.boolean))), (yX12_readsRinger, cX12_readsRinger, 2, (some (FieldType.boolean))), (yX12_readsYears, cX12_readsYears, 3, (some (FieldType.boolean))), (yX12_readsItem, cX12_readsItem, 2, (some (FieldType.boolean))), (yX12_readsFirst, cX12_readsFirst, 1, (some (FieldType.boolean))), (yX12_readsTower, cX12_readsTower, 2, (some (FieldType.int))), (yX12_read, cX12_read, 2, (some (FieldType.int))), (yX12_placeBy, cX12_placeBy, 6, (some (FieldType.int))), (yX12_makesBy, cX12_makesBy, 3, (some (FieldType.boolean))), (yX12_slipped, cX12_slipped, 3, (some (FieldType.int))), (yX12_made, cX12_made, 3, (some (FieldType.int))), (yX12_swaps, cX12_swaps, 3, none), (yX12_setMeant, cX12_setMeant, 5, none), (yX12_slides, cX12_slides, 5, none), (yX12_setRung, cX12_setRung, 4, none), (yX12_told, cX12_told, 3, (some (FieldType.int))), (yX12_meant, cX12_meant, 2, (some (FieldType.int))), (yX12_rung, cX12_rung, 3, (some (FieldType.int))), (yX12_setRungs, cX12_setRungs, 3, none), (yX12_earlier, cX12_earlier, 3, (some (FieldType.int))), (yX12_isTrue, cX12_isTrue, 4, (some (FieldType.boolean))), (yX12_otherwise, cX12_otherwise, 4, (some (FieldType.int))), (yX12_lays, cX12_lays, 4, none), (yX12_takes, cX12_takes, 4, none), (yX12_notes, cX12_notes, 2, none), (yX12_passes, cX12_passes, 2, none), (yX12_slips, cX12_slips, 5, (some (FieldType.int))), (yX12_drops, cX12_drops, 3, (some (FieldType.int))), (yX12_hands, cX12_hands, 4, (some (FieldType.int))), (yX12_year, cX12_year, 3, (some (FieldType.int))), (yX12_undo, cX12_undo, 1, (some (FieldType.int))), (yX12_ropeTells, cX12_ropeTells, 3, (some (FieldType.int))), (yX12_of, cX12_of, 3, (some (FieldType.int))), (yX12_row, cX12_row, 3, (some (FieldType.int))), (yX12_repeats, cX12_repeats, 3, (some (FieldType.int))), (yX12_clash, cX12_clash, 8, (some (FieldType.int))), (yX12_mend, cX12_mend, 6, (some (FieldType.int))), (yX12_compose, cX12_compose, 6, (some (FieldType.int))), (yX12_when, cX12_when, 3, (some (FieldType.int))), (yX12_clean, cX12_clean, 1, (some (FieldType.int))), (yX12_areBells, cX12_areBells, 6, (some (FieldType.boolean))), (yX12_heard, cX12_heard, 3, (some (FieldType.int))), (yX12_isHeard, cX12_isHeard, 4, (some (FieldType.boolean))), (yX12_who, cX12_who, 7, (some (FieldType.int))), (yX12_alikeIn, cX12_alikeIn, 8, (some (FieldType.int))), (yX12_tell, cX12_tell, 5, (some (FieldType.int))), (yX12_note, cX12_note, 4, (some (FieldType.int))), (yX12_mark, cX12_mark, 5, (some (FieldType.int))), (yX12_forget, cX12_forget, 3, (some (FieldType.int))), (yX12_slipKinds, cX12_slipKinds, 7, (some (FieldType.int))), (yX12_ringerKinds, cX12_ringerKinds, 7, (some (FieldType.int))), (yX12_is, cX12_is, 2, (some (FieldType.int))), (yX12_kinds, cX12_kinds, 2, (some (FieldType.int))), (yX12_look, cX12_look, 10, (some (FieldType.int))), (yX12_ask, cX12_ask, 9, (some (FieldType.int))), (yX12_placeIn, cX12_placeIn, 3, (some (FieldType.int))), (yX12_gets, cX12_gets, 11, (some (FieldType.int))), (yX12_lends, cX12_lends, 6, (some (FieldType.int))), (yX12_lay, cX12_lay, 11, none), (yX12_odds, cX12_odds, 11, (some (FieldType.int))), (yX12_weddings, cX12_weddings, 8, (some (FieldType.int))), (yX12_part, cX12_part, 2, (some (FieldType.long))), (yX12_layAll, cX12_layAll, 4, none), (yX12_takeAll, cX12_takeAll, 4, none), (yX12_image, cX12_image, 2, (some (FieldType.int))), (yX12_from, cX12_from, 2, (some (FieldType.int))), (yX12_status, cX12_status, 2, (some (FieldType.int))), (yX12_countOf, cX12_countOf, 2, (some (FieldType.int))), (yX12_count, cX12_count, 2, (some (FieldType.int))), (yX12_mix, cX12_mix, 3, none), (yX12_digest, cX12_digest, 3, (some (FieldType.long))), (yJ6_bitCount_0f7a4, cJ6_bitCount_0f7a4, 1, (some (FieldType.int))), (yJ0_length_8abf5, cJ0_length_8abf5, 1, (some (FieldType.int))), (yJ0_charAt_5068e, cJ0_charAt_5068e, 2, (some (FieldType.char))), (yJ0_coder_7d493, cJ0_coder_7d493, 1, (some (FieldType.byte))), (yJ0_isLatin1_aae02, cJ0_isLatin1_aae02, 1, (some (FieldType.boolean))), (yJ0_checkIndex_df160, cJ0_checkIndex_df160, 2, none), (yJ1_charAt_3b067, cJ1_charAt_3b067, 2, (some (FieldType.char))), (yJ7_fill_53178, cJ7_fill_53178, 4, none), (yJ3_checkIndex_8e157, cJ3_checkIndex_8e157, 3, (some (FieldType.int)))]
/-- own class, receiver kind, words popped, frames, locals, cells, slots -/
def ip_mn : List (Nat × Nat × Nat × Nat × Nat × Nat × Nat) := [(0, 99, 1, 13, 478, 600000, 7302250), (1, 0, 1, 1, 20, 67, 903), (1, 0, 3, 4, 96, 0, 0), (1, 99, 2, 2, 45, 0, 0), (1, 0, 3, 1, 26, 0, 0), (1, 0, 1, 0, 0, 0, 0), (1, 0, 1, 0, 0, 0, 0), (1, 0, 1, 2, 46, 0, 0), (1, 0, 2, 1, 21, 0, 0), (1, 99, 2, 2, 46, 0, 0), (1, 0, 2, 3, 71, 0, 0), (1, 0, 3, 2, 46, 0, 0), (1, 99, 2, 2, 45, 0, 0), (1, 99, 1, 2, 49, 0, 0), (1, 99, 3, 1, 24, 0, 0), (2, 1, 1, 1, 20, 9, 208), (2, 1, 1, 0, 0, 0, 0), (2, 1, 2, 2, 47, 0, 0), (2, 1, 1, 1, 26, 0, 0), (2, 1, 2, 1, 26, 0, 0), (2, 1, 2, 1, 26, 0, 0), (3, 2, 1, 1, 20, 29, 198), (3, 2, 3, 1, 26, 0, 0), (3, 2, 3, 0, 0, 0, 0), (3, 2, 4, 1, 22, 0, 0), (3, 2, 3, 3, 72, 0, 0), (3, 2, 4, 2, 46, 0, 0), (3, 2, 3, 0, 0, 0, 0), (3, 2, 2, 0, 0, 0, 0), (3, 2, 2, 0, 0, 0, 0), (3, 2, 1, 1, 22, 0, 0), (3, 2, 1, 2, 43, 0, 0), (3, 2, 1, 0, 0, 0, 0), (3, 2, 2, 1, 23, 0, 0), (4, 3, 1, 6, 128, 23, 485), (4, 3, 2, 8, 175, 0, 0), (4, 3, 2, 7, 151, 0, 0), (4, 99, 1, 0, 0, 0, 0), (4, 3, 3, 2, 42, 0, 0), (4, 3, 2, 5, 109, 0, 0), (4, 3, 1, 6, 130, 0, 0), (4, 3, 4, 1, 22, 0, 0), (4, 3, 1, 5, 109, 0, 0), (4, 99, 1, 0, 0, 0, 0), (4, 3, 1, 1, 21, 0, 0), (5, 4, 1, 1, 20, 1, 24), (5, 4, 5, 0, 0, 0, 0), (5, 4, 3, 1, 22, 0, 0), (5, 4, 3, 2, 45, 0, 0), (5, 4, 1, 0, 0, 0, 0), (5, 4, 2, 1, 26, 0, 0), (6, 99, 3, 0, 0, 0, 0), (7, 5, 1, 5, 108, 35, 244), (7, 5, 2, 5, 107, 0, 0), (7, 5, 2, 5, 107, 0, 0), (7, 5, 2, 0, 0, 0, 0), (7, 5, 1, 0, 0, 0, 0), (7, 5, 2, 5, 107, 0, 0), (7, 5, 3, 5, 107, 0, 0), (7, 5, 4, 5, 107, 0, 0), (7, 5, 4, 5, 107, 0, 0), (8, 6, 1, 4, 88, 1, 25), (8, 6, 1, 3, 67, 0, 0), (8, 6, 2, 1, 26, 0, 0), (8, 6, 3, 0, 0, 0, 0), (8, 6, 4, 0, 0, 0, 0), (8, 6, 2, 1, 22, 0, 0), (8, 6, 2, 1, 22, 0, 0), (8, 6, 2, 1, 22, 0, 0), (8, 6, 2, 1, 22, 0, 0), (8, 6, 1, 0, 0, 0, 0), (8, 6, 2, 2, 43, 0, 0), (8, 6, 4, 1, 23, 0, 0), (8, 6, 2, 2, 46, 0, 0), (8, 6, 4, 1, 23, 0, 0), (8, 6, 1, 2, 43, 0, 0), (8, 6, 2, 3, 64, 0, 0), (8, 6, 2, 3, 64, 0, 0), (8, 6, 1, 3, 64, 0, 0), (8, 6, 1, 4, 85, 0, 0), (8, 6, 2, 4, 85, 0, 0), (8, 6, 1, 5, 108, 0, 0), (9, 99, 3, 1, 21, 0, 0), (10, 7, 1, 1, 20, 1, 150), (10, 7, 1, 0, 0, 0, 0), (10, 7, 2, 0, 0, 0, 0), (10, 7, 2, 0, 0, 0, 0), (10, 7, 4, 4, 85, 0, 0), (11, 8, 1, 5, 108, 19, 320), (11, 8, 2, 4, 88, 0, 0), (11, 8, 2, 2, 48, 0, 0), (12, 9, 1, 7, 148, 192, 2786), (12, 9, 2, 5, 109, 0, 0), (12, 9, 3, 2, 44, 0, 0), (12, 9, 2, 2, 44, 0, 0), (12, 9, 1, 1, 21, 0, 0), (12, 9, 1, 9, 197, 0, 0), (12, 9, 4, 3, 68, 0, 0), (12, 9, 2, 3, 68, 0, 0), (12, 9, 3, 3, 68, 0, 0), (12, 9, 2, 6, 128, 0, 0), (12, 9, 1, 2, 47, 0, 0), (12, 9, 3, 5, 107, 0, 0), (12, 9, 3, 6, 128, 0, 0), (12, 9, 2, 6, 128, 0, 0), (12, 9, 2, 6, 132, 0, 0), (12, 9, 1, 6, 132, 0, 0), (12, 9, 1, 6, 131, 0, 0), (12, 9, 1, 6, 129, 0, 0), (12, 9, 1, 5, 107, 0, 0), (12, 9, 3, 2, 47, 0, 0), (12, 9, 2, 5, 120, 0, 0), (12, 9, 1, 5, 120, 0, 0), (12, 9, 4, 2, 44, 0, 0), (12, 9, 5, 2, 44, 0, 0), (12, 9, 2, 2, 44, 0, 0), (12, 9, 2, 3, 72, 0, 0), (12, 9, 2, 4, 96, 0, 0), (12, 9, 2, 3, 71, 0, 0), (12, 9, 2, 3, 74, 0, 0), (12, 9, 3, 6, 134, 0, 0), (12, 9, 2, 6, 135, 0, 0), (12, 9, 3, 6, 135, 0, 0), (12, 9, 2, 2, 44, 0, 0), (12, 9, 2, 3, 69, 0, 0), (12, 9, 2, 3, 69, 0, 0), (12, 9, 2, 2, 44, 0, 0), (12, 9, 2, 7, 149, 0, 0), (12, 9, 1, 7, 149, 0, 0), (12, 99, 3, 0, 0, 0, 0), (12, 9, 2, 1, 22, 0, 0), (12, 99, 1, 1, 22, 0, 0), (12, 9, 2, 1, 22, 0, 0), (12, 9, 2, 1, 22, 0, 0), (12, 9, 2, 0, 0, 0, 0), (12, 9, 1, 5, 107, 0, 0), (12, 9, 3, 4, 85, 0, 0), (12, 9, 2, 6, 128, 0, 0), (12, 99, 2, 0, 0, 0, 0), (12, 99, 2, 0, 0, 0, 0), (13, 10, 1, 0, 0, 0, 0), (13, 10, 1, 0, 0, 0, 0), (13, 10, 1, 0, 0, 0, 0), (13, 99, 3, 0, 0, 0, 0), (13, 99, 2, 0, 0, 0, 0), (13, 99, 2, 0, 0, 0, 0), (13, 99, 2, 0, 0, 0, 0), (13, 99, 1, 0, 0, 0, 0), (13, 10, 1, 1, 22, 19, 1448), (13, 10, 2, 0, 0, 0, 0), (13, 10, 2, 1, 22, 0, 0), (13, 10, 2, 1, 22, 0, 0), (13, 10, 3, 1, 22, 0, 0), (13, 10, 2, 1, 22, 0, 0), (13, 10, 1, 0, 0, 0, 0), (13, 10, 1, 0, 0, 0, 0), (13, 10, 1, 1, 20, 0, 0), (13, 99, 1, 1, 22, 0, 0), (13, 99, 1, 1, 22, 0, 0), (13, 10, 1, 2, 42, 0, 0), (13, 10, 2, 0, 0, 0, 0), (13, 10, 1, 3, 63, 0, 0), (13, 10, 3, 2, 42, 0, 0), (13, 10, 1, 2, 40, 0, 0), (13, 10, 1, 3, 66, 0, 0), (13, 10, 1, 3, 66, 0, 0), (13, 10, 1, 3, 66, 0, 0), (13, 10, 1, 3, 66, 0, 0), (13, 10, 1, 4, 88, 0, 0), (13, 10, 1, 4, 84, 0, 0), (13, 10, 1, 5, 109, 0, 0), (13, 10, 1, 6, 130, 0, 0), (13, 99, 3, 1, 21, 0, 0), (13, 99, 3, 0, 0, 0, 0), (13, 10, 1, 0, 0, 0, 0), (13, 10, 1, 1, 22, 0, 0), (13, 10, 2, 0, 0, 0, 0), (13, 10, 2, 1, 22, 0, 0), (13, 10, 3, 2, 46, 0, 0), (13, 10, 3, 3, 70, 0, 0), (13, 10, 1, 0, 0, 0, 0), (13, 10, 2, 2, 46, 0, 0), (13, 10, 3, 4, 93, 0, 0), (13, 10, 2, 5, 115, 0, 0), (13, 10, 2, 0, 0, 0, 0), (13, 10, 2, 6, 137, 0, 0), (13, 10, 1, 5, 115, 0, 0), (13, 10, 3, 0, 0, 0, 0), (13, 10, 3, 0, 0, 0, 0), (13, 10, 1, 1, 23, 0, 0), (13, 10, 1, 1, 21, 0, 0), (13, 10, 4, 2, 44, 0, 0), (13, 10, 2, 2, 44, 0, 0), (13, 10, 3, 2, 44, 0, 0), (13, 10, 2, 7, 160, 0, 0), (13, 10, 1, 1, 23, 0, 0), (13, 10, 3, 2, 44, 0, 0), (13, 10, 3, 3, 66, 0, 0), (13, 10, 3, 5, 115, 0, 0), (13, 10, 2, 6, 137, 0, 0), (13, 10, 2, 2, 44, 0, 0), (13, 10, 1, 7, 160, 0, 0), (13, 10, 1, 7, 160, 0, 0), (13, 10, 1, 7, 160, 0, 0), (13, 10, 1, 2, 44, 0, 0), (13, 10, 2, 1, 22, 0, 0), (13, 10, 3, 2, 47, 0, 0), (13, 10, 2, 5, 115, 0, 0), (13, 10, 2, 6, 138, 0, 0), (13, 10, 2, 6, 138, 0, 0), (13, 10, 1, 7, 165, 0, 0), (13, 10, 4, 2, 43, 0, 0), (13, 10, 5, 2, 43, 0, 0), (13, 10, 2, 1, 22, 0, 0), (13, 10, 2, 2, 46, 0, 0), (13, 10, 2, 1, 22, 0, 0), (13, 10, 2, 3, 72, 0, 0), (13, 10, 2, 2, 48, 0, 0), (13, 10, 2, 3, 72, 0, 0), (13, 10, 2, 2, 48, 0, 0), (13, 10, 2, 0, 0, 0, 0), (13, 10, 5, 3, 70, 0, 0), (13, 10, 3, 4, 100, 0, 0), (13, 10, 3, 0, 0, 0, 0), (13, 10, 2, 7, 160, 0, 0), (13, 10, 3, 6, 138, 0, 0), (13, 10, 2, 1, 20, 0, 0), (13, 10, 3, 1, 23, 0, 0), (13, 10, 3, 1, 23, 0, 0), (13, 10, 2, 2, 46, 0, 0), (13, 10, 2, 2, 46, 0, 0), (13, 10, 2, 1, 22, 0, 0), (13, 10, 2, 6, 138, 0, 0), (13, 10, 2, 7, 159, 0, 0), (13, 10, 2, 0, 0, 0, 0), (13, 10, 1, 7, 159, 0, 0), (14, 99, 1, 0, 0, 0, 0), (15, 98, 1, 1, 20, 0, 0), (15, 98, 2, 3, 64, 0, 0), (15, 98, 1, 0, 0, 0, 0), (15, 98, 1, 0, 0, 0, 0), (15, 99, 2, 1, 22, 0, 0), (16, 99, 2, 2, 43, 0, 0), (17, 99, 2, 0, 0, 0, 0), (18, 99, 3, 0, 0, 0, 0)]
def ip_cT_0_0 : List (Nat × Instr × Nat × Nat) := [(0, .new 7, 3, 9), (3, .dup, 1, 0), (4, .invokespecial 9, 3, 91), (7, .astore_n 1, 1, 0), (8, .new 10, 3, 10), (11, .dup, 1, 0), (12, .invokespecial 12, 3, 148), (15, .astore_n 2, 1, 0), (16, .iconst 0, 1, 0), (17, .istore_n 3, 1, 0), (18, .iload_n 3, 1, 0), (19, .aload_n 0, 1, 0), (20, .arraylength, 1, 0), (21, .iconst 5, 1, 0), (22, .isub, 1, 0), (23, .if_icmp .gt 1082, 3, 1105), (26, .aload_n 0, 1, 0), (27, .iload_n 3, 1, 0), (28, .iaload, 1, 0), (29, .bipush 63, 2, 0), (31, .iand, 1, 0), (32, .tableswitch 1067 0 36 #[164, 187, 220, 243, 256, 269, 312, 335, 368, 391, 404, 437, 470, 493, 516, 529, 542, 555, 568, 601, 624, 637, 680, 733, 756, 779, 802, 825, 848, 881, 904, 937, 961, 984, 1007, 1030, 1053], 164, 0), (196, .aload_n 1, 1, 0), (197, .aload_n 0, 1, 0), (198, .iload_n 3, 1, 0), (199, .iconst 1, 1, 0), (200, .iadd, 1, 0), (201, .iaload, 1, 0), (202, .invokevirtual 13, 3, 92), (205, .aload_n 2, 1, 0), (206, .aload_n 0, 1, 0), (207, .iload_n 3, 1, 0), (208, .iconst 1, 1, 0), (209, .iadd, 1, 0), (210, .iaload, 1, 0), (211, .invokevirtual 17, 3, 151), (214, .if_icmp .eq 885, 3, 1099), (217, .iconst 0, 1, 0), (218, .ireturn, 1, 0), (219, .aload_n 1, 1, 0), (220, .aload_n 0, 1, 0), (221, .iload_n 3, 1, 0), (222, .iconst 1, 1, 0), (223, .iadd, 1, 0), (224, .iaload, 1, 0), (225, .aload_n 0, 1, 0), (226, .iload_n 3, 1, 0), (227, .iconst 2, 1, 0), (228, .iadd, 1, 0), (229, .iaload, 1, 0)]
def ip_cT_0_1 : List (Nat × Instr × Nat × Nat) := [(230, .invokevirtual 18, 3, 93), (233, .aload_n 2, 1, 0), (234, .aload_n 0, 1, 0), (235, .iload_n 3, 1, 0), (236, .iconst 1, 1, 0), (237, .iadd, 1, 0), (238, .iaload, 1, 0), (239, .aload_n 0, 1, 0), (240, .iload_n 3, 1, 0), (241, .iconst 2, 1, 0), (242, .iadd, 1, 0), (243, .iaload, 1, 0), (244, .invokevirtual 22, 3, 152), (247, .if_icmp .eq 852, 3, 1099), (250, .iconst 0, 1, 0), (251, .ireturn, 1, 0), (252, .aload_n 1, 1, 0), (253, .aload_n 0, 1, 0), (254, .iload_n 3, 1, 0), (255, .iconst 1, 1, 0), (256, .iadd, 1, 0), (257, .iaload, 1, 0), (258, .invokevirtual 23, 3, 94), (261, .aload_n 2, 1, 0), (262, .aload_n 0, 1, 0), (263, .iload_n 3, 1, 0), (264, .iconst 1, 1, 0), (265, .iadd, 1, 0), (266, .iaload, 1, 0), (267, .invokevirtual 26, 3, 153), (270, .if_icmp .eq 829, 3, 1099), (273, .iconst 0, 1, 0), (274, .ireturn, 1, 0), (275, .aload_n 1, 1, 0), (276, .invokevirtual 27, 3, 95), (279, .aload_n 2, 1, 0), (280, .invokevirtual 31, 3, 154), (283, .if_icmp .eq 816, 3, 1099), (286, .iconst 0, 1, 0), (287, .ireturn, 1, 0), (288, .aload_n 1, 1, 0), (289, .invokevirtual 32, 3, 96), (292, .aload_n 2, 1, 0), (293, .invokevirtual 35, 3, 171), (296, .if_icmp .eq 803, 3, 1099), (299, .iconst 0, 1, 0), (300, .ireturn, 1, 0), (301, .aload_n 1, 1, 0), (302, .aload_n 0, 1, 0), (303, .iload_n 3, 1, 0)]
def ip_cT_0_2 : List (Nat × Instr × Nat × Nat) := [(304, .iconst 1, 1, 0), (305, .iadd, 1, 0), (306, .iaload, 1, 0), (307, .aload_n 0, 1, 0), (308, .iload_n 3, 1, 0), (309, .iconst 2, 1, 0), (310, .iadd, 1, 0), (311, .iaload, 1, 0), (312, .aload_n 0, 1, 0), (313, .iload_n 3, 1, 0), (314, .iconst 3, 1, 0), (315, .iadd, 1, 0), (316, .iaload, 1, 0), (317, .invokevirtual 36, 3, 97), (320, .aload_n 2, 1, 0), (321, .aload_n 0, 1, 0), (322, .iload_n 3, 1, 0), (323, .iconst 1, 1, 0), (324, .iadd, 1, 0), (325, .iaload, 1, 0), (326, .aload_n 0, 1, 0), (327, .iload_n 3, 1, 0), (328, .iconst 2, 1, 0), (329, .iadd, 1, 0), (330, .iaload, 1, 0), (331, .aload_n 0, 1, 0), (332, .iload_n 3, 1, 0), (333, .iconst 3, 1, 0), (334, .iadd, 1, 0), (335, .iaload, 1, 0), (336, .invokevirtual 40, 3, 191), (339, .if_icmp .eq 760, 3, 1099), (342, .iconst 0, 1, 0), (343, .ireturn, 1, 0), (344, .aload_n 1, 1, 0), (345, .aload_n 0, 1, 0), (346, .iload_n 3, 1, 0), (347, .iconst 1, 1, 0), (348, .iadd, 1, 0), (349, .iaload, 1, 0), (350, .invokevirtual 41, 3, 98), (353, .aload_n 2, 1, 0), (354, .aload_n 0, 1, 0), (355, .iload_n 3, 1, 0), (356, .iconst 1, 1, 0), (357, .iadd, 1, 0), (358, .iaload, 1, 0), (359, .invokevirtual 44, 3, 192), (362, .if_icmp .eq 737, 3, 1099), (365, .iconst 0, 1, 0)]
def ip_cT_0_3 : List (Nat × Instr × Nat × Nat) := [(366, .ireturn, 1, 0), (367, .aload_n 1, 1, 0), (368, .aload_n 0, 1, 0), (369, .iload_n 3, 1, 0), (370, .iconst 1, 1, 0), (371, .iadd, 1, 0), (372, .iaload, 1, 0), (373, .aload_n 0, 1, 0), (374, .iload_n 3, 1, 0), (375, .iconst 2, 1, 0), (376, .iadd, 1, 0), (377, .iaload, 1, 0), (378, .invokevirtual 45, 3, 99), (381, .aload_n 2, 1, 0), (382, .aload_n 0, 1, 0), (383, .iload_n 3, 1, 0), (384, .iconst 1, 1, 0), (385, .iadd, 1, 0), (386, .iaload, 1, 0), (387, .aload_n 0, 1, 0), (388, .iload_n 3, 1, 0), (389, .iconst 2, 1, 0), (390, .iadd, 1, 0), (391, .iaload, 1, 0), (392, .invokevirtual 48, 3, 193), (395, .if_icmp .eq 704, 3, 1099), (398, .iconst 0, 1, 0), (399, .ireturn, 1, 0), (400, .aload_n 1, 1, 0), (401, .aload_n 0, 1, 0), (402, .iload_n 3, 1, 0), (403, .iconst 1, 1, 0), (404, .iadd, 1, 0), (405, .iaload, 1, 0), (406, .invokevirtual 49, 3, 100), (409, .aload_n 2, 1, 0), (410, .aload_n 0, 1, 0), (411, .iload_n 3, 1, 0), (412, .iconst 1, 1, 0), (413, .iadd, 1, 0), (414, .iaload, 1, 0), (415, .invokevirtual 52, 3, 194), (418, .if_icmp .eq 681, 3, 1099), (421, .iconst 0, 1, 0), (422, .ireturn, 1, 0), (423, .aload_n 1, 1, 0), (424, .invokevirtual 53, 3, 101), (427, .aload_n 2, 1, 0), (428, .invokevirtual 56, 3, 195), (431, .if_icmp .eq 668, 3, 1099)]
def ip_cT_0_4 : List (Nat × Instr × Nat × Nat) := [(434, .iconst 0, 1, 0), (435, .ireturn, 1, 0), (436, .aload_n 1, 1, 0), (437, .aload_n 0, 1, 0), (438, .iload_n 3, 1, 0), (439, .iconst 1, 1, 0), (440, .iadd, 1, 0), (441, .iaload, 1, 0), (442, .aload_n 0, 1, 0), (443, .iload_n 3, 1, 0), (444, .iconst 2, 1, 0), (445, .iadd, 1, 0), (446, .iaload, 1, 0), (447, .invokevirtual 57, 3, 102), (450, .aload_n 2, 1, 0), (451, .aload_n 0, 1, 0), (452, .iload_n 3, 1, 0), (453, .iconst 1, 1, 0), (454, .iadd, 1, 0), (455, .iaload, 1, 0), (456, .aload_n 0, 1, 0), (457, .iload_n 3, 1, 0), (458, .iconst 2, 1, 0), (459, .iadd, 1, 0), (460, .iaload, 1, 0), (461, .invokevirtual 60, 3, 197), (464, .if_icmp .eq 635, 3, 1099), (467, .iconst 0, 1, 0), (468, .ireturn, 1, 0), (469, .aload_n 1, 1, 0), (470, .aload_n 0, 1, 0), (471, .iload_n 3, 1, 0), (472, .iconst 1, 1, 0), (473, .iadd, 1, 0), (474, .iaload, 1, 0), (475, .aload_n 0, 1, 0), (476, .iload_n 3, 1, 0), (477, .iconst 2, 1, 0), (478, .iadd, 1, 0), (479, .iaload, 1, 0), (480, .invokevirtual 61, 3, 103), (483, .aload_n 2, 1, 0), (484, .aload_n 0, 1, 0), (485, .iload_n 3, 1, 0), (486, .iconst 1, 1, 0), (487, .iadd, 1, 0), (488, .iaload, 1, 0), (489, .aload_n 0, 1, 0), (490, .iload_n 3, 1, 0), (491, .iconst 2, 1, 0)]
def ip_cT_0_5 : List (Nat × Instr × Nat × Nat) := [(492, .iadd, 1, 0), (493, .iaload, 1, 0), (494, .invokevirtual 64, 3, 198), (497, .if_icmp .eq 602, 3, 1099), (500, .iconst 0, 1, 0), (501, .ireturn, 1, 0), (502, .aload_n 1, 1, 0), (503, .aload_n 0, 1, 0), (504, .iload_n 3, 1, 0), (505, .iconst 1, 1, 0), (506, .iadd, 1, 0), (507, .iaload, 1, 0), (508, .invokevirtual 65, 3, 104), (511, .aload_n 2, 1, 0), (512, .aload_n 0, 1, 0), (513, .iload_n 3, 1, 0), (514, .iconst 1, 1, 0), (515, .iadd, 1, 0), (516, .iaload, 1, 0), (517, .invokevirtual 68, 3, 199), (520, .if_icmp .eq 579, 3, 1099), (523, .iconst 0, 1, 0), (524, .ireturn, 1, 0), (525, .aload_n 1, 1, 0), (526, .aload_n 0, 1, 0), (527, .iload_n 3, 1, 0), (528, .iconst 1, 1, 0), (529, .iadd, 1, 0), (530, .iaload, 1, 0), (531, .invokevirtual 69, 3, 105), (534, .aload_n 2, 1, 0), (535, .aload_n 0, 1, 0), (536, .iload_n 3, 1, 0), (537, .iconst 1, 1, 0), (538, .iadd, 1, 0), (539, .iaload, 1, 0), (540, .invokevirtual 72, 3, 200), (543, .if_icmp .eq 556, 3, 1099), (546, .iconst 0, 1, 0), (547, .ireturn, 1, 0), (548, .aload_n 1, 1, 0), (549, .invokevirtual 73, 3, 106), (552, .aload_n 2, 1, 0), (553, .invokevirtual 76, 3, 201), (556, .if_icmp .eq 543, 3, 1099), (559, .iconst 0, 1, 0), (560, .ireturn, 1, 0), (561, .aload_n 1, 1, 0), (562, .invokevirtual 77, 3, 107), (565, .aload_n 2, 1, 0)]
def ip_cT_0_6 : List (Nat × Instr × Nat × Nat) := [(566, .invokevirtual 80, 3, 202), (569, .if_icmp .eq 530, 3, 1099), (572, .iconst 0, 1, 0), (573, .ireturn, 1, 0), (574, .aload_n 1, 1, 0), (575, .invokevirtual 81, 3, 108), (578, .aload_n 2, 1, 0), (579, .invokevirtual 84, 3, 203), (582, .if_icmp .eq 517, 3, 1099), (585, .iconst 0, 1, 0), (586, .ireturn, 1, 0), (587, .aload_n 1, 1, 0), (588, .invokevirtual 85, 3, 109), (591, .aload_n 2, 1, 0), (592, .invokevirtual 88, 3, 204), (595, .if_icmp .eq 504, 3, 1099), (598, .iconst 0, 1, 0), (599, .ireturn, 1, 0), (600, .aload_n 1, 1, 0), (601, .aload_n 0, 1, 0), (602, .iload_n 3, 1, 0), (603, .iconst 1, 1, 0), (604, .iadd, 1, 0), (605, .iaload, 1, 0), (606, .aload_n 0, 1, 0), (607, .iload_n 3, 1, 0), (608, .iconst 2, 1, 0), (609, .iadd, 1, 0), (610, .iaload, 1, 0), (611, .invokevirtual 89, 3, 110), (614, .aload_n 2, 1, 0), (615, .aload_n 0, 1, 0), (616, .iload_n 3, 1, 0), (617, .iconst 1, 1, 0), (618, .iadd, 1, 0), (619, .iaload, 1, 0), (620, .aload_n 0, 1, 0), (621, .iload_n 3, 1, 0), (622, .iconst 2, 1, 0), (623, .iadd, 1, 0), (624, .iaload, 1, 0), (625, .invokevirtual 92, 3, 206), (628, .if_icmp .eq 471, 3, 1099), (631, .iconst 0, 1, 0), (632, .ireturn, 1, 0), (633, .aload_n 1, 1, 0), (634, .aload_n 0, 1, 0), (635, .iload_n 3, 1, 0), (636, .iconst 1, 1, 0), (637, .iadd, 1, 0)]
def ip_cT_0_7 : List (Nat × Instr × Nat × Nat) := [(638, .iaload, 1, 0), (639, .invokevirtual 93, 3, 111), (642, .aload_n 2, 1, 0), (643, .aload_n 0, 1, 0), (644, .iload_n 3, 1, 0), (645, .iconst 1, 1, 0), (646, .iadd, 1, 0), (647, .iaload, 1, 0), (648, .invokevirtual 96, 3, 208), (651, .if_icmp .eq 448, 3, 1099), (654, .iconst 0, 1, 0), (655, .ireturn, 1, 0), (656, .aload_n 1, 1, 0), (657, .invokevirtual 97, 3, 112), (660, .aload_n 2, 1, 0), (661, .invokevirtual 100, 3, 210), (664, .if_icmp .eq 435, 3, 1099), (667, .iconst 0, 1, 0), (668, .ireturn, 1, 0), (669, .aload_n 1, 1, 0), (670, .aload_n 0, 1, 0), (671, .iload_n 3, 1, 0), (672, .iconst 1, 1, 0), (673, .iadd, 1, 0), (674, .iaload, 1, 0), (675, .aload_n 0, 1, 0), (676, .iload_n 3, 1, 0), (677, .iconst 2, 1, 0), (678, .iadd, 1, 0), (679, .iaload, 1, 0), (680, .aload_n 0, 1, 0), (681, .iload_n 3, 1, 0), (682, .iconst 3, 1, 0), (683, .iadd, 1, 0), (684, .iaload, 1, 0), (685, .invokevirtual 101, 3, 113), (688, .aload_n 2, 1, 0), (689, .aload_n 0, 1, 0), (690, .iload_n 3, 1, 0), (691, .iconst 1, 1, 0), (692, .iadd, 1, 0), (693, .iaload, 1, 0), (694, .aload_n 0, 1, 0), (695, .iload_n 3, 1, 0), (696, .iconst 2, 1, 0), (697, .iadd, 1, 0), (698, .iaload, 1, 0), (699, .aload_n 0, 1, 0), (700, .iload_n 3, 1, 0), (701, .iconst 3, 1, 0)]
def ip_cT_0_8 : List (Nat × Instr × Nat × Nat) := [(702, .iadd, 1, 0), (703, .iaload, 1, 0), (704, .invokevirtual 104, 3, 211), (707, .if_icmp .eq 392, 3, 1099), (710, .iconst 0, 1, 0), (711, .ireturn, 1, 0), (712, .aload_n 1, 1, 0), (713, .aload_n 0, 1, 0), (714, .iload_n 3, 1, 0), (715, .iconst 1, 1, 0), (716, .iadd, 1, 0), (717, .iaload, 1, 0), (718, .aload_n 0, 1, 0), (719, .iload_n 3, 1, 0), (720, .iconst 2, 1, 0), (721, .iadd, 1, 0), (722, .iaload, 1, 0), (723, .aload_n 0, 1, 0), (724, .iload_n 3, 1, 0), (725, .iconst 3, 1, 0), (726, .iadd, 1, 0), (727, .iaload, 1, 0), (728, .aload_n 0, 1, 0), (729, .iload_n 3, 1, 0), (730, .iconst 4, 1, 0), (731, .iadd, 1, 0), (732, .iaload, 1, 0), (733, .invokevirtual 105, 3, 114), (736, .aload_n 2, 1, 0), (737, .aload_n 0, 1, 0), (738, .iload_n 3, 1, 0), (739, .iconst 1, 1, 0), (740, .iadd, 1, 0), (741, .iaload, 1, 0), (742, .aload_n 0, 1, 0), (743, .iload_n 3, 1, 0), (744, .iconst 2, 1, 0), (745, .iadd, 1, 0), (746, .iaload, 1, 0), (747, .aload_n 0, 1, 0), (748, .iload_n 3, 1, 0), (749, .iconst 3, 1, 0), (750, .iadd, 1, 0), (751, .iaload, 1, 0), (752, .aload_n 0, 1, 0), (753, .iload_n 3, 1, 0), (754, .iconst 4, 1, 0), (755, .iadd, 1, 0), (756, .iaload, 1, 0), (757, .invokevirtual 109, 3, 212)]
def ip_cT_0_9 : List (Nat × Instr × Nat × Nat) := [(760, .if_icmp .eq 339, 3, 1099), (763, .iconst 0, 1, 0), (764, .ireturn, 1, 0), (765, .aload_n 1, 1, 0), (766, .aload_n 0, 1, 0), (767, .iload_n 3, 1, 0), (768, .iconst 1, 1, 0), (769, .iadd, 1, 0), (770, .iaload, 1, 0), (771, .invokevirtual 110, 3, 115), (774, .aload_n 2, 1, 0), (775, .aload_n 0, 1, 0), (776, .iload_n 3, 1, 0), (777, .iconst 1, 1, 0), (778, .iadd, 1, 0), (779, .iaload, 1, 0), (780, .invokevirtual 113, 3, 213), (783, .if_icmp .eq 316, 3, 1099), (786, .iconst 0, 1, 0), (787, .ireturn, 1, 0), (788, .aload_n 1, 1, 0), (789, .aload_n 0, 1, 0), (790, .iload_n 3, 1, 0), (791, .iconst 1, 1, 0), (792, .iadd, 1, 0), (793, .iaload, 1, 0), (794, .invokevirtual 114, 3, 116), (797, .aload_n 2, 1, 0), (798, .aload_n 0, 1, 0), (799, .iload_n 3, 1, 0), (800, .iconst 1, 1, 0), (801, .iadd, 1, 0), (802, .iaload, 1, 0), (803, .invokevirtual 117, 3, 216), (806, .if_icmp .eq 293, 3, 1099), (809, .iconst 0, 1, 0), (810, .ireturn, 1, 0), (811, .aload_n 1, 1, 0), (812, .aload_n 0, 1, 0), (813, .iload_n 3, 1, 0), (814, .iconst 1, 1, 0), (815, .iadd, 1, 0), (816, .iaload, 1, 0), (817, .invokevirtual 118, 3, 117), (820, .aload_n 2, 1, 0), (821, .aload_n 0, 1, 0), (822, .iload_n 3, 1, 0), (823, .iconst 1, 1, 0), (824, .iadd, 1, 0), (825, .iaload, 1, 0)]
def ip_cT_0_10 : List (Nat × Instr × Nat × Nat) := [(826, .invokevirtual 121, 3, 218), (829, .if_icmp .eq 270, 3, 1099), (832, .iconst 0, 1, 0), (833, .ireturn, 1, 0), (834, .aload_n 1, 1, 0), (835, .aload_n 0, 1, 0), (836, .iload_n 3, 1, 0), (837, .iconst 1, 1, 0), (838, .iadd, 1, 0), (839, .iaload, 1, 0), (840, .invokevirtual 122, 3, 118), (843, .aload_n 2, 1, 0), (844, .aload_n 0, 1, 0), (845, .iload_n 3, 1, 0), (846, .iconst 1, 1, 0), (847, .iadd, 1, 0), (848, .iaload, 1, 0), (849, .invokevirtual 125, 3, 217), (852, .if_icmp .eq 247, 3, 1099), (855, .iconst 0, 1, 0), (856, .ireturn, 1, 0), (857, .aload_n 1, 1, 0), (858, .aload_n 0, 1, 0), (859, .iload_n 3, 1, 0), (860, .iconst 1, 1, 0), (861, .iadd, 1, 0), (862, .iaload, 1, 0), (863, .invokevirtual 126, 3, 119), (866, .aload_n 2, 1, 0), (867, .aload_n 0, 1, 0), (868, .iload_n 3, 1, 0), (869, .iconst 1, 1, 0), (870, .iadd, 1, 0), (871, .iaload, 1, 0), (872, .invokevirtual 129, 3, 219), (875, .if_icmp .eq 224, 3, 1099), (878, .iconst 0, 1, 0), (879, .ireturn, 1, 0), (880, .aload_n 1, 1, 0), (881, .aload_n 0, 1, 0), (882, .iload_n 3, 1, 0), (883, .iconst 1, 1, 0), (884, .iadd, 1, 0), (885, .iaload, 1, 0), (886, .aload_n 0, 1, 0), (887, .iload_n 3, 1, 0), (888, .iconst 2, 1, 0), (889, .iadd, 1, 0), (890, .iaload, 1, 0), (891, .invokevirtual 130, 3, 120)]
def ip_cT_0_11 : List (Nat × Instr × Nat × Nat) := [(894, .aload_n 2, 1, 0), (895, .aload_n 0, 1, 0), (896, .iload_n 3, 1, 0), (897, .iconst 1, 1, 0), (898, .iadd, 1, 0), (899, .iaload, 1, 0), (900, .aload_n 0, 1, 0), (901, .iload_n 3, 1, 0), (902, .iconst 2, 1, 0), (903, .iadd, 1, 0), (904, .iaload, 1, 0), (905, .invokevirtual 133, 3, 222), (908, .if_icmp .eq 191, 3, 1099), (911, .iconst 0, 1, 0), (912, .ireturn, 1, 0), (913, .aload_n 1, 1, 0), (914, .aload_n 0, 1, 0), (915, .iload_n 3, 1, 0), (916, .iconst 1, 1, 0), (917, .iadd, 1, 0), (918, .iaload, 1, 0), (919, .invokevirtual 134, 3, 121), (922, .aload_n 2, 1, 0), (923, .aload_n 0, 1, 0), (924, .iload_n 3, 1, 0), (925, .iconst 1, 1, 0), (926, .iadd, 1, 0), (927, .iaload, 1, 0), (928, .invokevirtual 137, 3, 224), (931, .if_icmp .eq 168, 3, 1099), (934, .iconst 0, 1, 0), (935, .ireturn, 1, 0), (936, .aload_n 1, 1, 0), (937, .aload_n 0, 1, 0), (938, .iload_n 3, 1, 0), (939, .iconst 1, 1, 0), (940, .iadd, 1, 0), (941, .iaload, 1, 0), (942, .aload_n 0, 1, 0), (943, .iload_n 3, 1, 0), (944, .iconst 2, 1, 0), (945, .iadd, 1, 0), (946, .iaload, 1, 0), (947, .invokevirtual 138, 3, 122), (950, .aload_n 2, 1, 0), (951, .aload_n 0, 1, 0), (952, .iload_n 3, 1, 0), (953, .iconst 1, 1, 0), (954, .iadd, 1, 0), (955, .iaload, 1, 0)]
def ip_cT_0_12 : List (Nat × Instr × Nat × Nat) := [(956, .aload_n 0, 1, 0), (957, .iload_n 3, 1, 0), (958, .iconst 2, 1, 0), (959, .iadd, 1, 0), (960, .iaload, 1, 0), (961, .invokevirtual 141, 3, 225), (964, .if_icmp .eq 135, 3, 1099), (967, .iconst 0, 1, 0), (968, .ireturn, 1, 0), (969, .aload_n 1, 1, 0), (970, .aload_n 0, 1, 0), (971, .iload_n 3, 1, 0), (972, .iconst 1, 1, 0), (973, .iadd, 1, 0), (974, .iaload, 1, 0), (975, .invokevirtual 142, 3, 123), (978, .aload_n 2, 1, 0), (979, .aload_n 0, 1, 0), (980, .iload_n 3, 1, 0), (981, .iconst 1, 1, 0), (982, .iadd, 1, 0), (983, .iaload, 1, 0), (984, .invokevirtual 146, 3, 226), (987, .lcmp, 1, 0), (988, .ifCond .eq 111, 3, 1099), (991, .iconst 0, 1, 0), (992, .ireturn, 1, 0), (993, .aload_n 1, 1, 0), (994, .aload_n 0, 1, 0), (995, .iload_n 3, 1, 0), (996, .iconst 1, 1, 0), (997, .iadd, 1, 0), (998, .iaload, 1, 0), (999, .invokevirtual 147, 3, 124), (1002, .aload_n 2, 1, 0), (1003, .aload_n 0, 1, 0), (1004, .iload_n 3, 1, 0), (1005, .iconst 1, 1, 0), (1006, .iadd, 1, 0), (1007, .iaload, 1, 0), (1008, .invokevirtual 150, 3, 229), (1011, .if_icmp .eq 88, 3, 1099), (1014, .iconst 0, 1, 0), (1015, .ireturn, 1, 0), (1016, .aload_n 1, 1, 0), (1017, .aload_n 0, 1, 0), (1018, .iload_n 3, 1, 0), (1019, .iconst 1, 1, 0), (1020, .iadd, 1, 0), (1021, .iaload, 1, 0)]
def ip_cT_0_13 : List (Nat × Instr × Nat × Nat) := [(1022, .invokevirtual 151, 3, 125), (1025, .aload_n 2, 1, 0), (1026, .aload_n 0, 1, 0), (1027, .iload_n 3, 1, 0), (1028, .iconst 1, 1, 0), (1029, .iadd, 1, 0), (1030, .iaload, 1, 0), (1031, .invokevirtual 154, 3, 230), (1034, .if_icmp .eq 65, 3, 1099), (1037, .iconst 0, 1, 0), (1038, .ireturn, 1, 0), (1039, .aload_n 1, 1, 0), (1040, .aload_n 0, 1, 0), (1041, .iload_n 3, 1, 0), (1042, .iconst 1, 1, 0), (1043, .iadd, 1, 0), (1044, .iaload, 1, 0), (1045, .invokevirtual 155, 3, 126), (1048, .aload_n 2, 1, 0), (1049, .aload_n 0, 1, 0), (1050, .iload_n 3, 1, 0), (1051, .iconst 1, 1, 0), (1052, .iadd, 1, 0), (1053, .iaload, 1, 0), (1054, .invokevirtual 158, 3, 231), (1057, .if_icmp .eq 42, 3, 1099), (1060, .iconst 0, 1, 0), (1061, .ireturn, 1, 0), (1062, .aload_n 1, 1, 0), (1063, .aload_n 0, 1, 0), (1064, .iload_n 3, 1, 0), (1065, .iconst 1, 1, 0), (1066, .iadd, 1, 0), (1067, .iaload, 1, 0), (1068, .invokevirtual 159, 3, 127), (1071, .aload_n 2, 1, 0), (1072, .aload_n 0, 1, 0), (1073, .iload_n 3, 1, 0), (1074, .iconst 1, 1, 0), (1075, .iadd, 1, 0), (1076, .iaload, 1, 0), (1077, .invokevirtual 162, 3, 233), (1080, .if_icmp .eq 19, 3, 1099), (1083, .iconst 0, 1, 0), (1084, .ireturn, 1, 0), (1085, .aload_n 1, 1, 0), (1086, .invokevirtual 163, 3, 128), (1089, .aload_n 2, 1, 0), (1090, .invokevirtual 167, 3, 235), (1093, .lcmp, 1, 0)]
def ip_cT_0_14 : List (Nat × Instr × Nat × Nat) := [(1094, .ifCond .eq 5, 3, 1099), (1097, .iconst 0, 1, 0), (1098, .ireturn, 1, 0), (1099, .iinc 3 5, 3, 0), (1102, .goto (-1084), 3, 18), (1105, .iconst 1, 1, 0), (1106, .ireturn, 1, 0)]
def ip_cT_0 : List (Nat × Instr × Nat × Nat) := ip_cT_0_0 ++ ip_cT_0_1 ++ ip_cT_0_2 ++ ip_cT_0_3 ++ ip_cT_0_4 ++ ip_cT_0_5 ++ ip_cT_0_6 ++ ip_cT_0_7 ++ ip_cT_0_8 ++ ip_cT_0_9 ++ ip_cT_0_10 ++ ip_cT_0_11 ++ ip_cT_0_12 ++ ip_cT_0_13 ++ ip_cT_0_14
def ip_cT_1_0 : List (Nat × Instr × Nat × Nat) := [(0, .aload_n 0, 1, 0), (1, .invokespecial 3, 3, 9999), (4, .aload_n 0, 1, 0), (5, .bipush 64, 2, 0), (7, .newarray .int, 2, 0), (9, .putfield 9, 3, 0), (12, .aload_n 0, 1, 0), (13, .bipush 64, 2, 0), (15, .bipush 12, 2, 0), (17, .multianewarray 15 2, 4, 0), (21, .putfield 17, 3, 1), (24, .aload_n 0, 1, 0), (25, .bipush 7, 2, 0), (27, .newarray .int, 2, 0), (29, .putfield 20, 3, 2), (32, .aload_n 0, 1, 0), (33, .iconst 0, 1, 0), (34, .putfield 23, 3, 3), (37, .return_, 1, 0)]
def ip_cT_1 : List (Nat × Instr × Nat × Nat) := ip_cT_1_0
def ip_cT_2_0 : List (Nat × Instr × Nat × Nat) := [(0, .aload_n 1, 1, 0), (1, .getfield 27, 3, 513), (4, .invokevirtual 33, 3, 78), (7, .istore_n 3, 1, 0), (8, .aload_n 0, 1, 0), (9, .iconst 0, 1, 0), (10, .putfield 23, 3, 3), (13, .aload_n 2, 1, 0), (14, .aload_n 1, 1, 0), (15, .getfield 39, 3, 518), (18, .aload_n 1, 1, 0), (19, .getfield 42, 3, 512), (22, .invokevirtual 45, 3, 22), (25, .iconst 0, 1, 0), (26, .istore 4, 2, 0), (28, .iload 4, 2, 0), (30, .bipush 64, 2, 0), (32, .if_icmp .ge 46, 3, 78), (35, .iload 4, 2, 0), (37, .iload_n 3, 1, 0), (38, .iconst (-1), 1, 0), (39, .ixor, 1, 0), (40, .iand, 1, 0), (41, .ifCond .ne 31, 3, 72), (44, .aload_n 2, 1, 0), (45, .aload_n 1, 1, 0), (46, .getfield 27, 3, 513), (49, .iload 4, 2, 0), (51, .invokevirtual 51, 3, 25), (54, .aload_n 1, 1, 0), (55, .getfield 55, 3, 515), (58, .aload_n 2, 1, 0), (59, .invokestatic 59, 3, 3), (62, .ifCond .eq 10, 3, 72), (65, .aload_n 0, 1, 0), (66, .iload 4, 2, 0), (68, .aload_n 2, 1, 0), (69, .invokevirtual 63, 3, 4), (72, .iinc 4 1, 3, 0), (75, .goto (-47), 3, 28), (78, .return_, 1, 0)]
def ip_cT_2 : List (Nat × Instr × Nat × Nat) := ip_cT_2_0
def ip_cT_3_0 : List (Nat × Instr × Nat × Nat) := [(0, .iconst 0, 1, 0), (1, .istore_n 2, 1, 0), (2, .iload_n 2, 1, 0), (3, .aload_n 0, 1, 0), (4, .getfield 67, 3, 257), (7, .if_icmp .ge 43, 3, 50), (10, .aload_n 0, 1, 0), (11, .iload_n 2, 1, 0), (12, .iconst 0, 1, 0), (13, .invokevirtual 72, 3, 47), (16, .istore_n 3, 1, 0), (17, .iload_n 3, 1, 0), (18, .iconst 0, 1, 0), (19, .bipush 11, 2, 0), (21, .invokestatic 76, 3, 129), (24, .ifCond .eq 18, 3, 42), (27, .aload_n 1, 1, 0), (28, .getfield 80, 3, 131), (31, .iload_n 3, 1, 0), (32, .iaload, 1, 0), (33, .aload_n 0, 1, 0), (34, .iload_n 2, 1, 0), (35, .iconst 1, 1, 0), (36, .invokevirtual 72, 3, 47), (39, .if_icmp .eq 5, 3, 44), (42, .iconst 0, 1, 0), (43, .ireturn, 1, 0), (44, .iinc 2 1, 3, 0), (47, .goto (-45), 3, 2), (50, .iconst 1, 1, 0), (51, .ireturn, 1, 0)]
def ip_cT_3 : List (Nat × Instr × Nat × Nat) := ip_cT_3_0
def ip_cT_4_0 : List (Nat × Instr × Nat × Nat) := [(0, .aload_n 0, 1, 0), (1, .getfield 23, 3, 3), (4, .bipush 64, 2, 0), (6, .if_icmp .ge 43, 3, 49), (9, .aload_n 0, 1, 0), (10, .getfield 9, 3, 0), (13, .aload_n 0, 1, 0), (14, .getfield 23, 3, 3), (17, .iload_n 1, 1, 0), (18, .iastore, 1, 0), (19, .aload_n 2, 1, 0), (20, .getfield 80, 3, 131), (23, .iconst 0, 1, 0), (24, .aload_n 0, 1, 0), (25, .getfield 17, 3, 1), (28, .aload_n 0, 1, 0), (29, .getfield 23, 3, 3), (32, .aaload, 1, 0), (33, .iconst 0, 1, 0), (34, .bipush 12, 2, 0), (36, .invokestatic 83, 3, 9998), (39, .aload_n 0, 1, 0), (40, .dup, 1, 0), (41, .getfield 23, 3, 3), (44, .iconst 1, 1, 0), (45, .iadd, 1, 0), (46, .putfield 23, 3, 3), (49, .return_, 1, 0)]
def ip_cT_4 : List (Nat × Instr × Nat × Nat) := ip_cT_4_0
def ip_cT_5_0 : List (Nat × Instr × Nat × Nat) := [(0, .aload_n 0, 1, 0), (1, .getfield 23, 3, 3), (4, .ifCond .ne 5, 3, 9), (7, .iconst (-1), 1, 0), (8, .ireturn, 1, 0), (9, .bipush 63, 2, 0), (11, .istore_n 1, 1, 0), (12, .iconst 0, 1, 0), (13, .istore_n 2, 1, 0), (14, .iload_n 2, 1, 0), (15, .aload_n 0, 1, 0), (16, .getfield 23, 3, 3), (19, .if_icmp .ge 18, 3, 37), (22, .iload_n 1, 1, 0), (23, .aload_n 0, 1, 0), (24, .getfield 9, 3, 0), (27, .iload_n 2, 1, 0), (28, .iaload, 1, 0), (29, .iand, 1, 0), (30, .istore_n 1, 1, 0), (31, .iinc 2 1, 3, 0), (34, .goto (-20), 3, 14), (37, .iload_n 1, 1, 0), (38, .ireturn, 1, 0)]
def ip_cT_5 : List (Nat × Instr × Nat × Nat) := ip_cT_5_0
def ip_cT_6_0 : List (Nat × Instr × Nat × Nat) := [(0, .iconst 0, 1, 0), (1, .istore_n 1, 1, 0), (2, .iconst 0, 1, 0), (3, .istore_n 2, 1, 0), (4, .iload_n 2, 1, 0), (5, .aload_n 0, 1, 0), (6, .getfield 23, 3, 3), (9, .if_icmp .ge 18, 3, 27), (12, .iload_n 1, 1, 0), (13, .aload_n 0, 1, 0), (14, .getfield 9, 3, 0), (17, .iload_n 2, 1, 0), (18, .iaload, 1, 0), (19, .ior, 1, 0), (20, .istore_n 1, 1, 0), (21, .iinc 2 1, 3, 0), (24, .goto (-20), 3, 4), (27, .iload_n 1, 1, 0), (28, .ireturn, 1, 0)]
def ip_cT_6 : List (Nat × Instr × Nat × Nat) := ip_cT_6_0
def ip_cT_7_0 : List (Nat × Instr × Nat × Nat) := [(0, .iconst (-1), 1, 0), (1, .istore_n 1, 1, 0), (2, .aload_n 0, 1, 0), (3, .getfield 23, 3, 3), (6, .istore_n 2, 1, 0), (7, .iconst 1, 1, 0), (8, .istore_n 3, 1, 0), (9, .iload_n 3, 1, 0), (10, .bipush 12, 2, 0), (12, .if_icmp .ge 39, 3, 51), (15, .aload_n 0, 1, 0), (16, .getfield 23, 3, 3), (19, .ifCond .le 32, 3, 51), (22, .aload_n 0, 1, 0), (23, .iload_n 3, 1, 0), (24, .invokevirtual 89, 3, 8), (27, .istore 4, 2, 0), (29, .iload_n 1, 1, 0), (30, .iconst (-1), 1, 0), (31, .if_icmp .eq 9, 3, 40), (34, .iload 4, 2, 0), (36, .iload_n 2, 1, 0), (37, .if_icmp .ge 8, 3, 45), (40, .iload_n 3, 1, 0), (41, .istore_n 1, 1, 0), (42, .iload 4, 2, 0), (44, .istore_n 2, 1, 0), (45, .iinc 3 1, 3, 0), (48, .goto (-39), 3, 9), (51, .iload_n 1, 1, 0), (52, .ireturn, 1, 0)]
def ip_cT_7 : List (Nat × Instr × Nat × Nat) := ip_cT_7_0
def ip_cT_8_0 : List (Nat × Instr × Nat × Nat) := [(0, .iconst 0, 1, 0), (1, .istore_n 2, 1, 0), (2, .iconst 0, 1, 0), (3, .istore_n 3, 1, 0), (4, .iload_n 3, 1, 0), (5, .aload_n 0, 1, 0), (6, .getfield 23, 3, 3), (9, .if_icmp .ge 67, 3, 76), (12, .iconst 0, 1, 0), (13, .istore 4, 2, 0), (15, .iconst 0, 1, 0), (16, .istore 5, 2, 0), (18, .iload 5, 2, 0), (20, .aload_n 0, 1, 0), (21, .getfield 23, 3, 3), (24, .if_icmp .ge 39, 3, 63), (27, .iload 4, 2, 0), (29, .aload_n 0, 1, 0), (30, .getfield 17, 3, 1), (33, .iload_n 3, 1, 0), (34, .aaload, 1, 0), (35, .iload_n 1, 1, 0), (36, .iaload, 1, 0), (37, .aload_n 0, 1, 0), (38, .getfield 17, 3, 1), (41, .iload 5, 2, 0), (43, .aaload, 1, 0), (44, .iload_n 1, 1, 0), (45, .iaload, 1, 0), (46, .if_icmp .ne 7, 3, 53), (49, .iconst 1, 1, 0), (50, .goto 4, 3, 54), (53, .iconst 0, 1, 0), (54, .iadd, 1, 0), (55, .istore 4, 2, 0), (57, .iinc 5 1, 3, 0), (60, .goto (-42), 3, 18), (63, .iload_n 2, 1, 0), (64, .iload 4, 2, 0), (66, .invokestatic 93, 3, 9997), (69, .istore_n 2, 1, 0), (70, .iinc 3 1, 3, 0), (73, .goto (-69), 3, 4), (76, .iload_n 2, 1, 0), (77, .ireturn, 1, 0)]
def ip_cT_8 : List (Nat × Instr × Nat × Nat) := ip_cT_8_0
def ip_cT_9_0 : List (Nat × Instr × Nat × Nat) := [(0, .iconst 0, 1, 0), (1, .istore_n 2, 1, 0), (2, .iconst 0, 1, 0), (3, .istore_n 3, 1, 0), (4, .iload_n 3, 1, 0), (5, .bipush 6, 2, 0), (7, .if_icmp .ge 95, 3, 102), (10, .iconst 1, 1, 0), (11, .istore 4, 2, 0), (13, .iconst 0, 1, 0), (14, .istore 5, 2, 0), (16, .iload 5, 2, 0), (18, .aload_n 0, 1, 0), (19, .getfield 67, 3, 257), (22, .if_icmp .ge 59, 3, 81), (25, .iload_n 3, 1, 0), (26, .aload_n 0, 1, 0), (27, .iload 5, 2, 0), (29, .iconst 1, 1, 0), (30, .invokevirtual 72, 3, 47), (33, .bipush 6, 2, 0), (35, .invokestatic 98, 3, 82), (38, .istore 6, 2, 0), (40, .iload 4, 2, 0), (42, .ifCond .eq 30, 3, 72), (45, .aload_n 0, 1, 0), (46, .iload 5, 2, 0), (48, .iconst 0, 1, 0), (49, .invokevirtual 72, 3, 47), (52, .iload_n 1, 1, 0), (53, .if_icmp .ne 15, 3, 68), (56, .iload 6, 2, 0), (58, .aload_n 0, 1, 0), (59, .iload 5, 2, 0), (61, .iconst 2, 1, 0), (62, .invokevirtual 72, 3, 47), (65, .if_icmp .ne 7, 3, 72), (68, .iconst 1, 1, 0), (69, .goto 4, 3, 73), (72, .iconst 0, 1, 0), (73, .istore 4, 2, 0), (75, .iinc 5 1, 3, 0), (78, .goto (-62), 3, 16), (81, .iload_n 2, 1, 0), (82, .iload 4, 2, 0), (84, .ifCond .eq 9, 3, 93), (87, .iconst 1, 1, 0), (88, .iload_n 3, 1, 0), (89, .ishl, 1, 0), (90, .goto 4, 3, 94)]
def ip_cT_9_1 : List (Nat × Instr × Nat × Nat) := [(93, .iconst 0, 1, 0), (94, .ior, 1, 0), (95, .istore_n 2, 1, 0), (96, .iinc 3 1, 3, 0), (99, .goto (-95), 3, 4), (102, .iload_n 2, 1, 0), (103, .ireturn, 1, 0)]
def ip_cT_9 : List (Nat × Instr × Nat × Nat) := ip_cT_9_0 ++ ip_cT_9_1
def ip_cT_10_0 : List (Nat × Instr × Nat × Nat) := [(0, .iconst (-1), 1, 0), (1, .istore_n 2, 1, 0), (2, .bipush 6, 2, 0), (4, .istore_n 3, 1, 0), (5, .iconst 1, 1, 0), (6, .istore 4, 2, 0), (8, .iload 4, 2, 0), (10, .bipush 6, 2, 0), (12, .if_icmp .gt 39, 3, 51), (15, .iload_n 1, 1, 0), (16, .ifCond .eq 35, 3, 51), (19, .aload_n 0, 1, 0), (20, .iload_n 1, 1, 0), (21, .iload 4, 2, 0), (23, .invokevirtual 104, 3, 11), (26, .istore 5, 2, 0), (28, .iload_n 2, 1, 0), (29, .iconst (-1), 1, 0), (30, .if_icmp .eq 9, 3, 39), (33, .iload 5, 2, 0), (35, .iload_n 3, 1, 0), (36, .if_icmp .ge 9, 3, 45), (39, .iload 4, 2, 0), (41, .istore_n 2, 1, 0), (42, .iload 5, 2, 0), (44, .istore_n 3, 1, 0), (45, .iinc 4 1, 3, 0), (48, .goto (-40), 3, 8), (51, .iload_n 2, 1, 0), (52, .ireturn, 1, 0)]
def ip_cT_10 : List (Nat × Instr × Nat × Nat) := ip_cT_10_0
def ip_cT_11_0 : List (Nat × Instr × Nat × Nat) := [(0, .iconst 0, 1, 0), (1, .istore_n 3, 1, 0), (2, .aload_n 0, 1, 0), (3, .getfield 20, 3, 2), (6, .iconst 0, 1, 0), (7, .invokestatic 107, 3, 243), (10, .iconst 0, 1, 0), (11, .istore 4, 2, 0), (13, .iload 4, 2, 0), (15, .bipush 6, 2, 0), (17, .if_icmp .ge 63, 3, 80), (20, .iload 4, 2, 0), (22, .iload_n 2, 1, 0), (23, .bipush 6, 2, 0), (25, .invokestatic 98, 3, 82), (28, .istore 5, 2, 0), (30, .iload_n 1, 1, 0), (31, .iload 4, 2, 0), (33, .ishr, 1, 0), (34, .iconst 1, 1, 0), (35, .iand, 1, 0), (36, .iconst 1, 1, 0), (37, .if_icmp .ne 37, 3, 74), (40, .iload 5, 2, 0), (42, .iconst 1, 1, 0), (43, .bipush 6, 2, 0), (45, .invokestatic 76, 3, 129), (48, .ifCond .eq 26, 3, 74), (51, .aload_n 0, 1, 0), (52, .getfield 20, 3, 2), (55, .iload 5, 2, 0), (57, .dup2, 1, 0), (58, .iaload, 1, 0), (59, .iconst 1, 1, 0), (60, .iadd, 1, 0), (61, .iastore, 1, 0), (62, .iload_n 3, 1, 0), (63, .aload_n 0, 1, 0), (64, .getfield 20, 3, 2), (67, .iload 5, 2, 0), (69, .iaload, 1, 0), (70, .invokestatic 93, 3, 9997), (73, .istore_n 3, 1, 0), (74, .iinc 4 1, 3, 0), (77, .goto (-64), 3, 13), (80, .iload_n 3, 1, 0), (81, .ireturn, 1, 0)]
def ip_cT_11 : List (Nat × Instr × Nat × Nat) := ip_cT_11_0
def ip_cT_12_0 : List (Nat × Instr × Nat × Nat) := [(0, .iconst 0, 1, 0), (1, .istore_n 2, 1, 0), (2, .iconst 0, 1, 0), (3, .istore_n 3, 1, 0), (4, .iload_n 3, 1, 0), (5, .bipush 6, 2, 0), (7, .if_icmp .ge 108, 3, 115), (10, .iconst 1, 1, 0), (11, .istore 4, 2, 0), (13, .iconst 0, 1, 0), (14, .istore 5, 2, 0), (16, .iload 5, 2, 0), (18, .aload_n 0, 1, 0), (19, .getfield 67, 3, 257), (22, .if_icmp .ge 72, 3, 94), (25, .iload_n 3, 1, 0), (26, .aload_n 0, 1, 0), (27, .iload 5, 2, 0), (29, .iconst 1, 1, 0), (30, .invokevirtual 72, 3, 47), (33, .aload_n 0, 1, 0), (34, .iload 5, 2, 0), (36, .iconst 2, 1, 0), (37, .invokevirtual 72, 3, 47), (40, .invokestatic 113, 3, 51), (43, .ifCond .eq 7, 3, 50), (46, .iconst 1, 1, 0), (47, .goto 4, 3, 51), (50, .iconst 0, 1, 0), (51, .istore 6, 2, 0), (53, .iload 4, 2, 0), (55, .ifCond .eq 30, 3, 85), (58, .aload_n 0, 1, 0), (59, .iload 5, 2, 0), (61, .iconst 0, 1, 0), (62, .invokevirtual 72, 3, 47), (65, .iload_n 1, 1, 0), (66, .if_icmp .ne 15, 3, 81), (69, .iload 6, 2, 0), (71, .aload_n 0, 1, 0), (72, .iload 5, 2, 0), (74, .iconst 3, 1, 0), (75, .invokevirtual 72, 3, 47), (78, .if_icmp .ne 7, 3, 85), (81, .iconst 1, 1, 0), (82, .goto 4, 3, 86), (85, .iconst 0, 1, 0), (86, .istore 4, 2, 0), (88, .iinc 5 1, 3, 0), (91, .goto (-75), 3, 16)]
def ip_cT_12_1 : List (Nat × Instr × Nat × Nat) := [(94, .iload_n 2, 1, 0), (95, .iload 4, 2, 0), (97, .ifCond .eq 9, 3, 106), (100, .iconst 1, 1, 0), (101, .iload_n 3, 1, 0), (102, .ishl, 1, 0), (103, .goto 4, 3, 107), (106, .iconst 0, 1, 0), (107, .ior, 1, 0), (108, .istore_n 2, 1, 0), (109, .iinc 3 1, 3, 0), (112, .goto (-108), 3, 4), (115, .iload_n 2, 1, 0), (116, .ireturn, 1, 0)]
def ip_cT_12 : List (Nat × Instr × Nat × Nat) := ip_cT_12_0 ++ ip_cT_12_1
def ip_cT_13_0 : List (Nat × Instr × Nat × Nat) := [(0, .iconst (-1), 1, 0), (1, .istore_n 1, 1, 0), (2, .bipush 6, 2, 0), (4, .istore_n 2, 1, 0), (5, .iconst 0, 1, 0), (6, .istore_n 3, 1, 0), (7, .iload_n 3, 1, 0), (8, .bipush 9, 2, 0), (10, .if_icmp .gt 60, 3, 70), (13, .iload_n 0, 1, 0), (14, .ifCond .eq 56, 3, 70), (17, .iconst 0, 1, 0), (18, .istore 4, 2, 0), (20, .iload 4, 2, 0), (22, .bipush 9, 2, 0), (24, .if_icmp .gt 40, 3, 64), (27, .iload_n 0, 1, 0), (28, .iload 4, 2, 0), (30, .iload_n 3, 1, 0), (31, .invokestatic 118, 3, 14), (34, .istore 5, 2, 0), (36, .iload_n 1, 1, 0), (37, .iconst (-1), 1, 0), (38, .if_icmp .eq 9, 3, 47), (41, .iload 5, 2, 0), (43, .iload_n 2, 1, 0), (44, .if_icmp .ge 14, 3, 58), (47, .bipush 100, 2, 0), (49, .iload_n 3, 1, 0), (50, .imul, 1, 0), (51, .iload 4, 2, 0), (53, .iadd, 1, 0), (54, .istore_n 1, 1, 0), (55, .iload 5, 2, 0), (57, .istore_n 2, 1, 0), (58, .iinc 4 1, 3, 0), (61, .goto (-41), 3, 20), (64, .iinc 3 1, 3, 0), (67, .goto (-60), 3, 7), (70, .iload_n 1, 1, 0), (71, .ireturn, 1, 0)]
def ip_cT_13 : List (Nat × Instr × Nat × Nat) := ip_cT_13_0
def ip_cT_14_0 : List (Nat × Instr × Nat × Nat) := [(0, .iconst 0, 1, 0), (1, .istore_n 3, 1, 0), (2, .iconst 0, 1, 0), (3, .istore 4, 2, 0), (5, .iload 4, 2, 0), (7, .bipush 6, 2, 0), (9, .if_icmp .ge 49, 3, 58), (12, .iload_n 0, 1, 0), (13, .iload 4, 2, 0), (15, .ishr, 1, 0), (16, .iconst 1, 1, 0), (17, .iand, 1, 0), (18, .iconst 1, 1, 0), (19, .if_icmp .ne 7, 3, 26), (22, .iconst 1, 1, 0), (23, .goto 4, 3, 27), (26, .iconst 0, 1, 0), (27, .istore 5, 2, 0), (29, .iload_n 3, 1, 0), (30, .iload 5, 2, 0), (32, .ifCond .eq 17, 3, 49), (35, .iload 4, 2, 0), (37, .iload_n 1, 1, 0), (38, .iload_n 2, 1, 0), (39, .invokestatic 113, 3, 51), (42, .ifCond .eq 7, 3, 49), (45, .iconst 1, 1, 0), (46, .goto 4, 3, 50), (49, .iconst 0, 1, 0), (50, .iadd, 1, 0), (51, .istore_n 3, 1, 0), (52, .iinc 4 1, 3, 0), (55, .goto (-50), 3, 5), (58, .iload_n 3, 1, 0), (59, .iload_n 0, 1, 0), (60, .invokestatic 121, 3, 236), (63, .iload_n 3, 1, 0), (64, .isub, 1, 0), (65, .invokestatic 93, 3, 9997), (68, .ireturn, 1, 0)]
def ip_cT_14 : List (Nat × Instr × Nat × Nat) := ip_cT_14_0
def ip_cT_15_0 : List (Nat × Instr × Nat × Nat) := [(0, .aload_n 0, 1, 0), (1, .invokespecial 3, 3, 9999), (4, .aload_n 0, 1, 0), (5, .bipush 8, 2, 0), (7, .bipush 25, 2, 0), (9, .multianewarray 11 2, 4, 0), (13, .putfield 13, 3, 64), (16, .aload_n 0, 1, 0), (17, .iconst 0, 1, 0), (18, .putfield 18, 3, 65), (21, .return_, 1, 0)]
def ip_cT_15 : List (Nat × Instr × Nat × Nat) := ip_cT_15_0
def ip_cT_16_0 : List (Nat × Instr × Nat × Nat) := [(0, .aload_n 0, 1, 0), (1, .iconst 0, 1, 0), (2, .putfield 18, 3, 65), (5, .return_, 1, 0)]
def ip_cT_16 : List (Nat × Instr × Nat × Nat) := ip_cT_16_0
def ip_cT_17_0 : List (Nat × Instr × Nat × Nat) := [(0, .aload_n 0, 1, 0), (1, .getfield 18, 3, 65), (4, .bipush 8, 2, 0), (6, .if_icmp .lt 7, 3, 13), (9, .aload_n 0, 1, 0), (10, .invokevirtual 22, 3, 18), (13, .aload_n 1, 1, 0), (14, .getfield 25, 3, 384), (17, .iconst 0, 1, 0), (18, .aload_n 0, 1, 0), (19, .getfield 13, 3, 64), (22, .aload_n 0, 1, 0), (23, .getfield 18, 3, 65), (26, .aaload, 1, 0), (27, .iconst 0, 1, 0), (28, .bipush 25, 2, 0), (30, .invokestatic 29, 3, 9998), (33, .aload_n 0, 1, 0), (34, .dup, 1, 0), (35, .getfield 18, 3, 65), (38, .iconst 1, 1, 0), (39, .iadd, 1, 0), (40, .putfield 18, 3, 65), (43, .return_, 1, 0)]
def ip_cT_17 : List (Nat × Instr × Nat × Nat) := ip_cT_17_0
def ip_cT_18_0 : List (Nat × Instr × Nat × Nat) := [(0, .iconst 1, 1, 0), (1, .istore_n 1, 1, 0), (2, .iload_n 1, 1, 0), (3, .bipush 8, 2, 0), (5, .if_icmp .ge 30, 3, 35), (8, .aload_n 0, 1, 0), (9, .getfield 13, 3, 64), (12, .iload_n 1, 1, 0), (13, .aaload, 1, 0), (14, .iconst 0, 1, 0), (15, .aload_n 0, 1, 0), (16, .getfield 13, 3, 64), (19, .iload_n 1, 1, 0), (20, .iconst 1, 1, 0), (21, .isub, 1, 0), (22, .aaload, 1, 0), (23, .iconst 0, 1, 0), (24, .bipush 25, 2, 0), (26, .invokestatic 29, 3, 9998), (29, .iinc 1 1, 3, 0), (32, .goto (-30), 3, 2), (35, .aload_n 0, 1, 0), (36, .bipush 7, 2, 0), (38, .putfield 18, 3, 65), (41, .return_, 1, 0)]
def ip_cT_18 : List (Nat × Instr × Nat × Nat) := ip_cT_18_0
def ip_cT_19_0 : List (Nat × Instr × Nat × Nat) := [(0, .aload_n 0, 1, 0), (1, .getfield 18, 3, 65), (4, .ifCond .le 33, 3, 37), (7, .aload_n 0, 1, 0), (8, .dup, 1, 0), (9, .getfield 18, 3, 65), (12, .iconst 1, 1, 0), (13, .isub, 1, 0), (14, .putfield 18, 3, 65), (17, .aload_n 0, 1, 0), (18, .getfield 13, 3, 64), (21, .aload_n 0, 1, 0), (22, .getfield 18, 3, 65), (25, .aaload, 1, 0), (26, .iconst 0, 1, 0), (27, .aload_n 1, 1, 0), (28, .getfield 25, 3, 384), (31, .iconst 0, 1, 0), (32, .bipush 25, 2, 0), (34, .invokestatic 29, 3, 9998), (37, .return_, 1, 0)]
def ip_cT_19 : List (Nat × Instr × Nat × Nat) := ip_cT_19_0
def ip_cT_20_0 : List (Nat × Instr × Nat × Nat) := [(0, .aload_n 0, 1, 0), (1, .aload_n 1, 1, 0), (2, .getfield 18, 3, 65), (5, .putfield 18, 3, 65), (8, .iconst 0, 1, 0), (9, .istore_n 2, 1, 0), (10, .iload_n 2, 1, 0), (11, .bipush 8, 2, 0), (13, .if_icmp .ge 28, 3, 41), (16, .aload_n 1, 1, 0), (17, .getfield 13, 3, 64), (20, .iload_n 2, 1, 0), (21, .aaload, 1, 0), (22, .iconst 0, 1, 0), (23, .aload_n 0, 1, 0), (24, .getfield 13, 3, 64), (27, .iload_n 2, 1, 0), (28, .aaload, 1, 0), (29, .iconst 0, 1, 0), (30, .bipush 25, 2, 0), (32, .invokestatic 29, 3, 9998), (35, .iinc 2 1, 3, 0), (38, .goto (-28), 3, 10), (41, .return_, 1, 0)]
def ip_cT_20 : List (Nat × Instr × Nat × Nat) := ip_cT_20_0
def ip_cT_21_0 : List (Nat × Instr × Nat × Nat) := [(0, .aload_n 0, 1, 0), (1, .invokespecial 3, 3, 9999), (4, .aload_n 0, 1, 0), (5, .bipush 12, 2, 0), (7, .bipush 6, 2, 0), (9, .multianewarray 9 2, 4, 0), (13, .putfield 11, 3, 128), (16, .aload_n 0, 1, 0), (17, .bipush 12, 2, 0), (19, .bipush 6, 2, 0), (21, .multianewarray 9 2, 4, 0), (25, .putfield 16, 3, 129), (28, .aload_n 0, 1, 0), (29, .bipush 12, 2, 0), (31, .newarray .int, 2, 0), (33, .putfield 19, 3, 130), (36, .aload_n 0, 1, 0), (37, .bipush 12, 2, 0), (39, .newarray .int, 2, 0), (41, .putfield 23, 3, 131), (44, .aload_n 0, 1, 0), (45, .bipush 6, 2, 0), (47, .newarray .int, 2, 0), (49, .putfield 26, 3, 132), (52, .aload_n 0, 1, 0), (53, .iconst 5, 1, 0), (54, .putfield 29, 3, 133), (57, .return_, 1, 0)]
def ip_cT_21 : List (Nat × Instr × Nat × Nat) := ip_cT_21_0
def ip_cT_22_0 : List (Nat × Instr × Nat × Nat) := [(0, .aload_n 0, 1, 0), (1, .iload_n 1, 1, 0), (2, .bipush 6, 2, 0), (4, .invokestatic 33, 3, 9996), (7, .putfield 29, 3, 133), (10, .iconst 0, 1, 0), (11, .istore_n 3, 1, 0), (12, .iload_n 3, 1, 0), (13, .aload_n 0, 1, 0), (14, .getfield 29, 3, 133), (17, .if_icmp .ge 29, 3, 46), (20, .aload_n 0, 1, 0), (21, .getfield 11, 3, 128), (24, .iconst 0, 1, 0), (25, .aaload, 1, 0), (26, .iload_n 3, 1, 0), (27, .iload_n 3, 1, 0), (28, .iconst 1, 1, 0), (29, .iadd, 1, 0), (30, .iastore, 1, 0), (31, .aload_n 0, 1, 0), (32, .getfield 26, 3, 132), (35, .iload_n 3, 1, 0), (36, .iload_n 3, 1, 0), (37, .iconst 1, 1, 0), (38, .iadd, 1, 0), (39, .iastore, 1, 0), (40, .iinc 3 1, 3, 0), (43, .goto (-31), 3, 12), (46, .aload_n 0, 1, 0), (47, .getfield 19, 3, 130), (50, .iconst 0, 1, 0), (51, .aload_n 0, 1, 0), (52, .aload_n 0, 1, 0), (53, .getfield 11, 3, 128), (56, .iconst 0, 1, 0), (57, .aaload, 1, 0), (58, .invokevirtual 39, 3, 28), (61, .iastore, 1, 0), (62, .iconst 1, 1, 0), (63, .istore_n 3, 1, 0), (64, .iload_n 3, 1, 0), (65, .bipush 12, 2, 0), (67, .if_icmp .ge 79, 3, 146), (70, .aload_n 0, 1, 0), (71, .getfield 11, 3, 128), (74, .iload_n 3, 1, 0), (75, .iconst 1, 1, 0), (76, .isub, 1, 0), (77, .aaload, 1, 0)]
def ip_cT_22_1 : List (Nat × Instr × Nat × Nat) := [(78, .iconst 0, 1, 0), (79, .aload_n 0, 1, 0), (80, .getfield 11, 3, 128), (83, .iload_n 3, 1, 0), (84, .aaload, 1, 0), (85, .iconst 0, 1, 0), (86, .bipush 6, 2, 0), (88, .invokestatic 43, 3, 9998), (91, .iload_n 3, 1, 0), (92, .iconst 1, 1, 0), (93, .isub, 1, 0), (94, .bipush 6, 2, 0), (96, .irem, 1, 0), (97, .istore 4, 2, 0), (99, .aload_n 0, 1, 0), (100, .aload_n 0, 1, 0), (101, .getfield 11, 3, 128), (104, .iload_n 3, 1, 0), (105, .aaload, 1, 0), (106, .iload 4, 2, 0), (108, .aload_n 2, 1, 0), (109, .arraylength, 1, 0), (110, .if_icmp .ge 10, 3, 120), (113, .aload_n 2, 1, 0), (114, .iload 4, 2, 0), (116, .iaload, 1, 0), (117, .goto 4, 3, 121), (120, .iconst 0, 1, 0), (121, .invokevirtual 49, 3, 23), (124, .aload_n 0, 1, 0), (125, .getfield 19, 3, 130), (128, .iload_n 3, 1, 0), (129, .aload_n 0, 1, 0), (130, .aload_n 0, 1, 0), (131, .getfield 11, 3, 128), (134, .iload_n 3, 1, 0), (135, .aaload, 1, 0), (136, .invokevirtual 39, 3, 28), (139, .iastore, 1, 0), (140, .iinc 3 1, 3, 0), (143, .goto (-79), 3, 64), (146, .return_, 1, 0)]
def ip_cT_22 : List (Nat × Instr × Nat × Nat) := ip_cT_22_0 ++ ip_cT_22_1
def ip_cT_23_0 : List (Nat × Instr × Nat × Nat) := [(0, .iload_n 2, 1, 0), (1, .iconst 2, 1, 0), (2, .if_icmp .ne 7, 3, 9), (5, .iconst 1, 1, 0), (6, .goto 4, 3, 10), (9, .iconst 0, 1, 0), (10, .istore_n 3, 1, 0), (11, .iload_n 2, 1, 0), (12, .ifCond .ne 7, 3, 19), (15, .iconst 0, 1, 0), (16, .goto 16, 3, 32), (19, .iload_n 2, 1, 0), (20, .iconst 3, 1, 0), (21, .if_icmp .ne 7, 3, 28), (24, .iconst 2, 1, 0), (25, .goto 7, 3, 32), (28, .aload_n 0, 1, 0), (29, .getfield 29, 3, 133), (32, .istore 4, 2, 0), (34, .iload_n 3, 1, 0), (35, .istore 5, 2, 0), (37, .iload 5, 2, 0), (39, .iconst 1, 1, 0), (40, .iadd, 1, 0), (41, .iload 4, 2, 0), (43, .if_icmp .ge 42, 3, 85), (46, .iload 5, 2, 0), (48, .iconst 1, 1, 0), (49, .iadd, 1, 0), (50, .aload_n 1, 1, 0), (51, .arraylength, 1, 0), (52, .if_icmp .ge 33, 3, 85), (55, .aload_n 1, 1, 0), (56, .iload 5, 2, 0), (58, .iaload, 1, 0), (59, .istore 6, 2, 0), (61, .aload_n 1, 1, 0), (62, .iload 5, 2, 0), (64, .aload_n 1, 1, 0), (65, .iload 5, 2, 0), (67, .iconst 1, 1, 0), (68, .iadd, 1, 0), (69, .iaload, 1, 0), (70, .iastore, 1, 0), (71, .aload_n 1, 1, 0), (72, .iload 5, 2, 0), (74, .iconst 1, 1, 0), (75, .iadd, 1, 0), (76, .iload 6, 2, 0), (78, .iastore, 1, 0)]
def ip_cT_23_1 : List (Nat × Instr × Nat × Nat) := [(79, .iinc 5 2, 3, 0), (82, .goto (-45), 3, 37), (85, .return_, 1, 0)]
def ip_cT_23 : List (Nat × Instr × Nat × Nat) := ip_cT_23_0 ++ ip_cT_23_1
def ip_cT_24_0 : List (Nat × Instr × Nat × Nat) := [(0, .iload_n 1, 1, 0), (1, .iconst 0, 1, 0), (2, .iconst 5, 1, 0), (3, .invokestatic 53, 3, 129), (6, .ifCond .eq 54, 3, 60), (9, .iload_n 2, 1, 0), (10, .iconst 0, 1, 0), (11, .iconst 5, 1, 0), (12, .invokestatic 53, 3, 129), (15, .ifCond .eq 45, 3, 60), (18, .aload_n 0, 1, 0), (19, .getfield 26, 3, 132), (22, .iload_n 1, 1, 0), (23, .iload_n 3, 1, 0), (24, .iconst 1, 1, 0), (25, .iand, 1, 0), (26, .ifCond .eq 9, 3, 35), (29, .iload_n 2, 1, 0), (30, .iconst 1, 1, 0), (31, .iadd, 1, 0), (32, .goto 6, 3, 38), (35, .iload_n 1, 1, 0), (36, .iconst 1, 1, 0), (37, .iadd, 1, 0), (38, .iastore, 1, 0), (39, .aload_n 0, 1, 0), (40, .getfield 26, 3, 132), (43, .iload_n 2, 1, 0), (44, .iload_n 3, 1, 0), (45, .iconst 2, 1, 0), (46, .iand, 1, 0), (47, .ifCond .eq 9, 3, 56), (50, .iload_n 1, 1, 0), (51, .iconst 1, 1, 0), (52, .iadd, 1, 0), (53, .goto 6, 3, 59), (56, .iload_n 2, 1, 0), (57, .iconst 1, 1, 0), (58, .iadd, 1, 0), (59, .iastore, 1, 0), (60, .return_, 1, 0)]
def ip_cT_24 : List (Nat × Instr × Nat × Nat) := ip_cT_24_0
def ip_cT_25_0 : List (Nat × Instr × Nat × Nat) := [(0, .iconst 0, 1, 0), (1, .istore_n 3, 1, 0), (2, .iload_n 3, 1, 0), (3, .bipush 12, 2, 0), (5, .if_icmp .ge 105, 3, 110), (8, .aload_n 0, 1, 0), (9, .getfield 11, 3, 128), (12, .iload_n 3, 1, 0), (13, .aaload, 1, 0), (14, .iconst 0, 1, 0), (15, .aload_n 0, 1, 0), (16, .getfield 16, 3, 129), (19, .iload_n 3, 1, 0), (20, .aaload, 1, 0), (21, .iconst 0, 1, 0), (22, .bipush 6, 2, 0), (24, .invokestatic 43, 3, 9998), (27, .iconst 0, 1, 0), (28, .istore 4, 2, 0), (30, .iload 4, 2, 0), (32, .aload_n 0, 1, 0), (33, .getfield 29, 3, 133), (36, .if_icmp .ge 52, 3, 88), (39, .iload_n 2, 1, 0), (40, .iload 4, 2, 0), (42, .ishr, 1, 0), (43, .iconst 1, 1, 0), (44, .iand, 1, 0), (45, .iconst 1, 1, 0), (46, .if_icmp .ne 36, 3, 82), (49, .aload_n 1, 1, 0), (50, .iload 4, 2, 0), (52, .invokevirtual 57, 3, 67), (55, .iload_n 3, 1, 0), (56, .if_icmp .ne 26, 3, 82), (59, .aload_n 0, 1, 0), (60, .aload_n 0, 1, 0), (61, .getfield 16, 3, 129), (64, .iload_n 3, 1, 0), (65, .aaload, 1, 0), (66, .aload_n 0, 1, 0), (67, .getfield 26, 3, 132), (70, .iload 4, 2, 0), (72, .iaload, 1, 0), (73, .aload_n 1, 1, 0), (74, .iload 4, 2, 0), (76, .invokevirtual 63, 3, 66), (79, .invokevirtual 66, 3, 26), (82, .iinc 4 1, 3, 0), (85, .goto (-55), 3, 30)]
def ip_cT_25_1 : List (Nat × Instr × Nat × Nat) := [(88, .aload_n 0, 1, 0), (89, .getfield 23, 3, 131), (92, .iload_n 3, 1, 0), (93, .aload_n 0, 1, 0), (94, .aload_n 0, 1, 0), (95, .getfield 16, 3, 129), (98, .iload_n 3, 1, 0), (99, .aaload, 1, 0), (100, .invokevirtual 39, 3, 28), (103, .iastore, 1, 0), (104, .iinc 3 1, 3, 0), (107, .goto (-105), 3, 2), (110, .return_, 1, 0)]
def ip_cT_25 : List (Nat × Instr × Nat × Nat) := ip_cT_25_0 ++ ip_cT_25_1
def ip_cT_26_0 : List (Nat × Instr × Nat × Nat) := [(0, .aload_n 0, 1, 0), (1, .aload_n 1, 1, 0), (2, .iload_n 2, 1, 0), (3, .invokevirtual 70, 3, 27), (6, .iconst 1, 1, 0), (7, .isub, 1, 0), (8, .istore 4, 2, 0), (10, .iload_n 3, 1, 0), (11, .iload 4, 2, 0), (13, .iconst 1, 1, 0), (14, .iadd, 1, 0), (15, .aload_n 0, 1, 0), (16, .getfield 29, 3, 133), (19, .invokestatic 74, 3, 82), (22, .iconst 1, 1, 0), (23, .isub, 1, 0), (24, .istore 5, 2, 0), (26, .iload 4, 2, 0), (28, .iconst 0, 1, 0), (29, .aload_n 1, 1, 0), (30, .arraylength, 1, 0), (31, .iconst 1, 1, 0), (32, .isub, 1, 0), (33, .invokestatic 53, 3, 129), (36, .ifCond .eq 16, 3, 52), (39, .iload 5, 2, 0), (41, .iconst 0, 1, 0), (42, .aload_n 1, 1, 0), (43, .arraylength, 1, 0), (44, .iconst 1, 1, 0), (45, .isub, 1, 0), (46, .invokestatic 53, 3, 129), (49, .ifCond .ne 4, 3, 53), (52, .return_, 1, 0), (53, .iload 4, 2, 0), (55, .istore 6, 2, 0), (57, .iload 6, 2, 0), (59, .iload 5, 2, 0), (61, .if_icmp .ge 19, 3, 80), (64, .aload_n 1, 1, 0), (65, .iload 6, 2, 0), (67, .aload_n 1, 1, 0), (68, .iload 6, 2, 0), (70, .iconst 1, 1, 0), (71, .iadd, 1, 0), (72, .iaload, 1, 0), (73, .iastore, 1, 0), (74, .iinc 6 1, 3, 0), (77, .goto (-20), 3, 57), (80, .iload 4, 2, 0)]
def ip_cT_26_1 : List (Nat × Instr × Nat × Nat) := [(82, .istore 6, 2, 0), (84, .iload 6, 2, 0), (86, .iload 5, 2, 0), (88, .if_icmp .le 19, 3, 107), (91, .aload_n 1, 1, 0), (92, .iload 6, 2, 0), (94, .aload_n 1, 1, 0), (95, .iload 6, 2, 0), (97, .iconst 1, 1, 0), (98, .isub, 1, 0), (99, .iaload, 1, 0), (100, .iastore, 1, 0), (101, .iinc 6 (-1), 3, 0), (104, .goto (-20), 3, 84), (107, .aload_n 1, 1, 0), (108, .iload 5, 2, 0), (110, .iload_n 2, 1, 0), (111, .iastore, 1, 0), (112, .return_, 1, 0)]
def ip_cT_26 : List (Nat × Instr × Nat × Nat) := ip_cT_26_0 ++ ip_cT_26_1
def ip_cT_27_0 : List (Nat × Instr × Nat × Nat) := [(0, .iconst 0, 1, 0), (1, .istore_n 3, 1, 0), (2, .iload_n 3, 1, 0), (3, .aload_n 0, 1, 0), (4, .getfield 29, 3, 133), (7, .if_icmp .ge 26, 3, 33), (10, .iload_n 3, 1, 0), (11, .aload_n 1, 1, 0), (12, .arraylength, 1, 0), (13, .if_icmp .ge 20, 3, 33), (16, .aload_n 1, 1, 0), (17, .iload_n 3, 1, 0), (18, .iaload, 1, 0), (19, .iload_n 2, 1, 0), (20, .if_icmp .ne 7, 3, 27), (23, .iload_n 3, 1, 0), (24, .iconst 1, 1, 0), (25, .iadd, 1, 0), (26, .ireturn, 1, 0), (27, .iinc 3 1, 3, 0), (30, .goto (-28), 3, 2), (33, .iconst (-1), 1, 0), (34, .ireturn, 1, 0)]
def ip_cT_27 : List (Nat × Instr × Nat × Nat) := ip_cT_27_0
def ip_cT_28_0 : List (Nat × Instr × Nat × Nat) := [(0, .iconst 0, 1, 0), (1, .istore_n 2, 1, 0), (2, .iconst 0, 1, 0), (3, .istore_n 3, 1, 0), (4, .iload_n 3, 1, 0), (5, .aload_n 0, 1, 0), (6, .getfield 29, 3, 133), (9, .if_icmp .ge 24, 3, 33), (12, .iload_n 3, 1, 0), (13, .aload_n 1, 1, 0), (14, .arraylength, 1, 0), (15, .if_icmp .ge 18, 3, 33), (18, .bipush 10, 2, 0), (20, .iload_n 2, 1, 0), (21, .imul, 1, 0), (22, .aload_n 1, 1, 0), (23, .iload_n 3, 1, 0), (24, .iaload, 1, 0), (25, .iadd, 1, 0), (26, .istore_n 2, 1, 0), (27, .iinc 3 1, 3, 0), (30, .goto (-26), 3, 4), (33, .iload_n 2, 1, 0), (34, .ireturn, 1, 0)]
def ip_cT_28 : List (Nat × Instr × Nat × Nat) := ip_cT_28_0
def ip_cT_29_0 : List (Nat × Instr × Nat × Nat) := [(0, .iconst 0, 1, 0), (1, .istore_n 2, 1, 0), (2, .iload_n 2, 1, 0), (3, .iload_n 1, 1, 0), (4, .if_icmp .ge 32, 3, 36), (7, .iload_n 1, 1, 0), (8, .bipush 12, 2, 0), (10, .if_icmp .ge 26, 3, 36), (13, .aload_n 0, 1, 0), (14, .getfield 23, 3, 131), (17, .iload_n 2, 1, 0), (18, .iaload, 1, 0), (19, .aload_n 0, 1, 0), (20, .getfield 23, 3, 131), (23, .iload_n 1, 1, 0), (24, .iaload, 1, 0), (25, .if_icmp .ne 5, 3, 30), (28, .iload_n 2, 1, 0), (29, .ireturn, 1, 0), (30, .iinc 2 1, 3, 0), (33, .goto (-31), 3, 2), (36, .iconst (-1), 1, 0), (37, .ireturn, 1, 0)]
def ip_cT_29 : List (Nat × Instr × Nat × Nat) := ip_cT_29_0
def ip_cT_30_0 : List (Nat × Instr × Nat × Nat) := [(0, .iconst 1, 1, 0), (1, .istore_n 1, 1, 0), (2, .iload_n 1, 1, 0), (3, .bipush 12, 2, 0), (5, .if_icmp .ge 20, 3, 25), (8, .aload_n 0, 1, 0), (9, .iload_n 1, 1, 0), (10, .invokevirtual 80, 3, 29), (13, .iconst (-1), 1, 0), (14, .if_icmp .eq 5, 3, 19), (17, .iload_n 1, 1, 0), (18, .ireturn, 1, 0), (19, .iinc 1 1, 3, 0), (22, .goto (-20), 3, 2), (25, .iconst (-1), 1, 0), (26, .ireturn, 1, 0)]
def ip_cT_30 : List (Nat × Instr × Nat × Nat) := ip_cT_30_0
def ip_cT_31_0 : List (Nat × Instr × Nat × Nat) := [(0, .aload_n 0, 1, 0), (1, .invokevirtual 83, 3, 30), (4, .iconst (-1), 1, 0), (5, .if_icmp .ne 7, 3, 12), (8, .iconst 1, 1, 0), (9, .goto 4, 3, 13), (12, .iconst 0, 1, 0), (13, .ireturn, 1, 0)]
def ip_cT_31 : List (Nat × Instr × Nat × Nat) := ip_cT_31_0
def ip_cT_32_0 : List (Nat × Instr × Nat × Nat) := [(0, .iconst 0, 1, 0), (1, .istore_n 1, 1, 0), (2, .iconst 0, 1, 0), (3, .istore_n 2, 1, 0), (4, .iload_n 2, 1, 0), (5, .bipush 12, 2, 0), (7, .if_icmp .ge 32, 3, 39), (10, .iload_n 1, 1, 0), (11, .aload_n 0, 1, 0), (12, .getfield 23, 3, 131), (15, .iload_n 2, 1, 0), (16, .iaload, 1, 0), (17, .aload_n 0, 1, 0), (18, .getfield 19, 3, 130), (21, .iload_n 2, 1, 0), (22, .iaload, 1, 0), (23, .if_icmp .eq 7, 3, 30), (26, .iconst 1, 1, 0), (27, .goto 4, 3, 31), (30, .iconst 0, 1, 0), (31, .iadd, 1, 0), (32, .istore_n 1, 1, 0), (33, .iinc 2 1, 3, 0), (36, .goto (-32), 3, 4), (39, .iload_n 1, 1, 0), (40, .ireturn, 1, 0)]
def ip_cT_32 : List (Nat × Instr × Nat × Nat) := ip_cT_32_0
def ip_cT_33_0 : List (Nat × Instr × Nat × Nat) := [(0, .iconst 0, 1, 0), (1, .istore_n 2, 1, 0), (2, .iconst 0, 1, 0), (3, .istore_n 3, 1, 0), (4, .iload_n 3, 1, 0), (5, .bipush 12, 2, 0), (7, .if_icmp .ge 42, 3, 49), (10, .iload_n 2, 1, 0), (11, .aload_n 0, 1, 0), (12, .aload_n 0, 1, 0), (13, .getfield 16, 3, 129), (16, .iload_n 3, 1, 0), (17, .aaload, 1, 0), (18, .iload_n 1, 1, 0), (19, .invokevirtual 70, 3, 27), (22, .aload_n 0, 1, 0), (23, .aload_n 0, 1, 0), (24, .getfield 11, 3, 128), (27, .iload_n 3, 1, 0), (28, .aaload, 1, 0), (29, .iload_n 1, 1, 0), (30, .invokevirtual 70, 3, 27), (33, .if_icmp .eq 7, 3, 40), (36, .iconst 1, 1, 0), (37, .goto 4, 3, 41), (40, .iconst 0, 1, 0), (41, .iadd, 1, 0), (42, .istore_n 2, 1, 0), (43, .iinc 3 1, 3, 0), (46, .goto (-42), 3, 4), (49, .iload_n 2, 1, 0), (50, .ireturn, 1, 0)]
def ip_cT_33 : List (Nat × Instr × Nat × Nat) := ip_cT_33_0
def ip_cT_34_0 : List (Nat × Instr × Nat × Nat) := [(0, .aload_n 0, 1, 0), (1, .invokespecial 3, 3, 9999), (4, .aload_n 0, 1, 0), (5, .new 9, 3, 8), (8, .dup, 1, 0), (9, .invokespecial 11, 3, 88), (12, .putfield 12, 3, 192), (15, .aload_n 0, 1, 0), (16, .bipush 6, 2, 0), (18, .newarray .int, 2, 0), (20, .putfield 18, 3, 193), (23, .aload_n 0, 1, 0), (24, .new 22, 3, 7), (27, .dup, 1, 0), (28, .invokespecial 24, 3, 83), (31, .putfield 25, 3, 194), (34, .aload_n 0, 1, 0), (35, .iconst 0, 1, 0), (36, .putfield 29, 3, 195), (39, .aload_n 0, 1, 0), (40, .iconst 0, 1, 0), (41, .putfield 33, 3, 196), (44, .aload_n 0, 1, 0), (45, .iconst 0, 1, 0), (46, .putfield 36, 3, 197), (49, .aload_n 0, 1, 0), (50, .iconst (-1), 1, 0), (51, .putfield 39, 3, 198), (54, .return_, 1, 0)]
def ip_cT_34 : List (Nat × Instr × Nat × Nat) := ip_cT_34_0
def ip_cT_35_0 : List (Nat × Instr × Nat × Nat) := [(0, .aload_n 0, 1, 0), (1, .aload_n 1, 1, 0), (2, .putfield 25, 3, 194), (5, .aload_n 0, 1, 0), (6, .iconst 0, 1, 0), (7, .putfield 36, 3, 197), (10, .aload_n 0, 1, 0), (11, .getfield 12, 3, 192), (14, .iconst 5, 1, 0), (15, .invokevirtual 42, 3, 89), (18, .iconst 0, 1, 0), (19, .istore_n 2, 1, 0), (20, .iload_n 2, 1, 0), (21, .sipush 150, 3, 0), (24, .if_icmp .gt 50, 3, 74), (27, .aload_n 0, 1, 0), (28, .invokevirtual 46, 3, 40), (31, .aload_n 0, 1, 0), (32, .getfield 29, 3, 195), (35, .ifCond .ne 9, 3, 44), (38, .iload_n 2, 1, 0), (39, .ifCond .le 5, 3, 44), (42, .iload_n 2, 1, 0), (43, .ireturn, 1, 0), (44, .aload_n 0, 1, 0), (45, .iload_n 2, 1, 0), (46, .ifCond .ne 7, 3, 53), (49, .iconst 1, 1, 0), (50, .goto 4, 3, 54), (53, .iconst 0, 1, 0), (54, .invokevirtual 49, 3, 36), (57, .ifCond .ne 11, 3, 68), (60, .bipush (-10), 2, 0), (62, .aload_n 0, 1, 0), (63, .getfield 33, 3, 196), (66, .isub, 1, 0), (67, .ireturn, 1, 0), (68, .iinc 2 1, 3, 0), (71, .goto (-51), 3, 20), (74, .bipush (-10), 2, 0), (76, .aload_n 0, 1, 0), (77, .getfield 33, 3, 196), (80, .isub, 1, 0), (81, .ireturn, 1, 0)]
def ip_cT_35 : List (Nat × Instr × Nat × Nat) := ip_cT_35_0
def ip_cT_36_0 : List (Nat × Instr × Nat × Nat) := [(0, .aload_n 0, 1, 0), (1, .getfield 39, 3, 198), (4, .istore_n 2, 1, 0), (5, .aload_n 0, 1, 0), (6, .getfield 29, 3, 195), (9, .iconst 1, 1, 0), (10, .if_icmp .ne 21, 3, 31), (13, .iload_n 2, 1, 0), (14, .iconst (-1), 1, 0), (15, .if_icmp .eq 16, 3, 31), (18, .iload_n 1, 1, 0), (19, .iload_n 2, 1, 0), (20, .ifCond .ne 7, 3, 27), (23, .iconst 1, 1, 0), (24, .goto 4, 3, 28), (27, .iconst 0, 1, 0), (28, .if_icmp .eq 5, 3, 33), (31, .iconst 0, 1, 0), (32, .ireturn, 1, 0), (33, .iload_n 2, 1, 0), (34, .invokestatic 53, 3, 37), (37, .istore_n 3, 1, 0), (38, .iconst 0, 1, 0), (39, .istore 4, 2, 0), (41, .iload 4, 2, 0), (43, .iload_n 3, 1, 0), (44, .if_icmp .ge 54, 3, 98), (47, .iload 4, 2, 0), (49, .aload_n 0, 1, 0), (50, .getfield 18, 3, 193), (53, .arraylength, 1, 0), (54, .if_icmp .ge 44, 3, 98), (57, .aload_n 0, 1, 0), (58, .invokevirtual 46, 3, 40), (61, .aload_n 0, 1, 0), (62, .getfield 29, 3, 195), (65, .iconst 2, 1, 0), (66, .if_icmp .ne 13, 3, 79), (69, .aload_n 0, 1, 0), (70, .iload_n 2, 1, 0), (71, .iload 4, 2, 0), (73, .invokevirtual 57, 3, 38), (76, .ifCond .ne 5, 3, 81), (79, .iconst 0, 1, 0), (80, .ireturn, 1, 0), (81, .aload_n 0, 1, 0), (82, .getfield 18, 3, 193), (85, .iload 4, 2, 0), (87, .aload_n 0, 1, 0), (88, .getfield 39, 3, 198)]
def ip_cT_36_1 : List (Nat × Instr × Nat × Nat) := [(91, .iastore, 1, 0), (92, .iinc 4 1, 3, 0), (95, .goto (-54), 3, 41), (98, .aload_n 0, 1, 0), (99, .invokevirtual 46, 3, 40), (102, .aload_n 0, 1, 0), (103, .getfield 29, 3, 195), (106, .iconst 3, 1, 0), (107, .if_icmp .eq 5, 3, 112), (110, .iconst 0, 1, 0), (111, .ireturn, 1, 0), (112, .aload_n 0, 1, 0), (113, .iload_n 2, 1, 0), (114, .invokevirtual 61, 3, 39), (117, .iconst 1, 1, 0), (118, .ireturn, 1, 0)]
def ip_cT_36 : List (Nat × Instr × Nat × Nat) := ip_cT_36_0 ++ ip_cT_36_1
def ip_cT_37_0 : List (Nat × Instr × Nat × Nat) := [(0, .iload_n 0, 1, 0), (1, .iconst 1, 1, 0), (2, .if_icmp .ne 6, 3, 8), (5, .bipush 6, 2, 0), (7, .ireturn, 1, 0), (8, .iload_n 0, 1, 0), (9, .iconst 2, 1, 0), (10, .if_icmp .eq 8, 3, 18), (13, .iload_n 0, 1, 0), (14, .iconst 3, 1, 0), (15, .if_icmp .ne 7, 3, 22), (18, .iconst 3, 1, 0), (19, .goto 4, 3, 23), (22, .iconst 1, 1, 0), (23, .ireturn, 1, 0)]
def ip_cT_37 : List (Nat × Instr × Nat × Nat) := ip_cT_37_0
def ip_cT_38_0 : List (Nat × Instr × Nat × Nat) := [(0, .iload_n 1, 1, 0), (1, .ifCond .ne 14, 3, 15), (4, .aload_n 0, 1, 0), (5, .getfield 39, 3, 198), (8, .iconst 4, 1, 0), (9, .bipush 6, 2, 0), (11, .invokestatic 64, 3, 129), (14, .ireturn, 1, 0), (15, .iload_n 1, 1, 0), (16, .iconst 1, 1, 0), (17, .if_icmp .ne 13, 3, 30), (20, .aload_n 0, 1, 0), (21, .getfield 39, 3, 198), (24, .iconst 0, 1, 0), (25, .iconst 3, 1, 0), (26, .invokestatic 64, 3, 129), (29, .ireturn, 1, 0), (30, .iload_n 1, 1, 0), (31, .iconst 4, 1, 0), (32, .if_icmp .ne 14, 3, 46), (35, .aload_n 0, 1, 0), (36, .getfield 39, 3, 198), (39, .iconst 1, 1, 0), (40, .bipush 99, 2, 0), (42, .invokestatic 64, 3, 129), (45, .ireturn, 1, 0), (46, .iload_n 2, 1, 0), (47, .ifCond .ne 21, 3, 68), (50, .aload_n 0, 1, 0), (51, .getfield 39, 3, 198), (54, .iconst 0, 1, 0), (55, .aload_n 0, 1, 0), (56, .getfield 12, 3, 192), (59, .getfield 68, 3, 518), (62, .iconst 1, 1, 0), (63, .isub, 1, 0), (64, .invokestatic 64, 3, 129), (67, .ireturn, 1, 0), (68, .iload_n 2, 1, 0), (69, .iconst 1, 1, 0), (70, .if_icmp .ne 11, 3, 81), (73, .aload_n 0, 1, 0), (74, .getfield 39, 3, 198), (77, .invokestatic 71, 3, 131), (80, .ireturn, 1, 0), (81, .iload_n 1, 1, 0), (82, .iconst 2, 1, 0), (83, .if_icmp .ne 16, 3, 99), (86, .aload_n 0, 1, 0), (87, .getfield 39, 3, 198)]
def ip_cT_38_1 : List (Nat × Instr × Nat × Nat) := [(90, .iconst 1, 1, 0), (91, .bipush 11, 2, 0), (93, .invokestatic 64, 3, 129), (96, .goto 13, 3, 109), (99, .aload_n 0, 1, 0), (100, .getfield 39, 3, 198), (103, .iconst 0, 1, 0), (104, .bipush 99, 2, 0), (106, .invokestatic 64, 3, 129), (109, .ireturn, 1, 0)]
def ip_cT_38 : List (Nat × Instr × Nat × Nat) := ip_cT_38_0 ++ ip_cT_38_1
def ip_cT_39_0 : List (Nat × Instr × Nat × Nat) := [(0, .iload_n 1, 1, 0), (1, .tableswitch 130 0 3 #[31, 47, 68, 99], 31, 0), (32, .aload_n 0, 1, 0), (33, .getfield 12, 3, 192), (36, .aload_n 0, 1, 0), (37, .getfield 18, 3, 193), (40, .iconst 0, 1, 0), (41, .iaload, 1, 0), (42, .invokevirtual 42, 3, 89), (45, .goto 102, 3, 147), (48, .aload_n 0, 1, 0), (49, .getfield 18, 3, 193), (52, .iconst 0, 1, 0), (53, .aload_n 0, 1, 0), (54, .getfield 12, 3, 192), (57, .getfield 75, 3, 512), (60, .iconst 0, 1, 0), (61, .bipush 6, 2, 0), (63, .invokestatic 78, 3, 9998), (66, .goto 81, 3, 147), (69, .aload_n 0, 1, 0), (70, .getfield 12, 3, 192), (73, .getfield 84, 3, 513), (76, .aload_n 0, 1, 0), (77, .getfield 18, 3, 193), (80, .iconst 0, 1, 0), (81, .iaload, 1, 0), (82, .aload_n 0, 1, 0), (83, .getfield 18, 3, 193), (86, .iconst 1, 1, 0), (87, .iaload, 1, 0), (88, .aload_n 0, 1, 0), (89, .getfield 18, 3, 193), (92, .iconst 2, 1, 0), (93, .iaload, 1, 0), (94, .invokevirtual 88, 3, 72), (97, .goto 50, 3, 147), (100, .aload_n 0, 1, 0), (101, .getfield 12, 3, 192), (104, .getfield 84, 3, 513), (107, .aload_n 0, 1, 0), (108, .getfield 18, 3, 193), (111, .iconst 0, 1, 0), (112, .iaload, 1, 0), (113, .aload_n 0, 1, 0), (114, .getfield 18, 3, 193), (117, .iconst 1, 1, 0), (118, .iaload, 1, 0), (119, .aload_n 0, 1, 0), (120, .getfield 18, 3, 193)]
def ip_cT_39_1 : List (Nat × Instr × Nat × Nat) := [(123, .iconst 2, 1, 0), (124, .iaload, 1, 0), (125, .invokevirtual 94, 3, 74), (128, .goto 19, 3, 147), (131, .aload_n 0, 1, 0), (132, .getfield 12, 3, 192), (135, .getfield 84, 3, 513), (138, .aload_n 0, 1, 0), (139, .getfield 18, 3, 193), (142, .iconst 0, 1, 0), (143, .iaload, 1, 0), (144, .invokevirtual 97, 3, 76), (147, .return_, 1, 0)]
def ip_cT_39 : List (Nat × Instr × Nat × Nat) := ip_cT_39_0 ++ ip_cT_39_1
def ip_cT_40_0 : List (Nat × Instr × Nat × Nat) := [(0, .aload_n 0, 1, 0), (1, .aload_n 0, 1, 0), (2, .aload_n 0, 1, 0), (3, .getfield 36, 3, 197), (6, .bipush 32, 2, 0), (8, .bipush 32, 2, 0), (10, .invokevirtual 100, 3, 41), (13, .putfield 33, 3, 196), (16, .aload_n 0, 1, 0), (17, .aload_n 0, 1, 0), (18, .getfield 33, 3, 196), (21, .iconst 1, 1, 0), (22, .iadd, 1, 0), (23, .putfield 36, 3, 197), (26, .aload_n 0, 1, 0), (27, .iconst (-1), 1, 0), (28, .putfield 39, 3, 198), (31, .aload_n 0, 1, 0), (32, .getfield 25, 3, 194), (35, .aload_n 0, 1, 0), (36, .getfield 33, 3, 196), (39, .invokevirtual 104, 3, 86), (42, .istore_n 1, 1, 0), (43, .iload_n 1, 1, 0), (44, .iconst (-1), 1, 0), (45, .if_icmp .ne 19, 3, 64), (48, .aload_n 0, 1, 0), (49, .iconst 0, 1, 0), (50, .putfield 29, 3, 195), (53, .aload_n 0, 1, 0), (54, .aload_n 0, 1, 0), (55, .getfield 33, 3, 196), (58, .putfield 36, 3, 197), (61, .goto 116, 3, 177), (64, .iload_n 1, 1, 0), (65, .bipush 97, 2, 0), (67, .bipush 122, 2, 0), (69, .invokestatic 64, 3, 129), (72, .ifCond .eq 35, 3, 107), (75, .aload_n 0, 1, 0), (76, .iconst 1, 1, 0), (77, .putfield 29, 3, 195), (80, .aload_n 0, 1, 0), (81, .aload_n 0, 1, 0), (82, .aload_n 0, 1, 0), (83, .getfield 33, 3, 196), (86, .bipush 97, 2, 0), (88, .bipush 122, 2, 0), (90, .invokevirtual 100, 3, 41), (93, .putfield 36, 3, 197)]
def ip_cT_40_1 : List (Nat × Instr × Nat × Nat) := [(96, .aload_n 0, 1, 0), (97, .aload_n 0, 1, 0), (98, .invokevirtual 107, 3, 42), (101, .putfield 39, 3, 198), (104, .goto 73, 3, 177), (107, .iload_n 1, 1, 0), (108, .bipush 48, 2, 0), (110, .bipush 57, 2, 0), (112, .invokestatic 64, 3, 129), (115, .ifCond .eq 47, 3, 162), (118, .aload_n 0, 1, 0), (119, .aload_n 0, 1, 0), (120, .aload_n 0, 1, 0), (121, .getfield 33, 3, 196), (124, .bipush 48, 2, 0), (126, .bipush 57, 2, 0), (128, .invokevirtual 100, 3, 41), (131, .putfield 36, 3, 197), (134, .aload_n 0, 1, 0), (135, .aload_n 0, 1, 0), (136, .invokevirtual 111, 3, 44), (139, .putfield 39, 3, 198), (142, .aload_n 0, 1, 0), (143, .aload_n 0, 1, 0), (144, .getfield 39, 3, 198), (147, .iconst (-1), 1, 0), (148, .if_icmp .ne 7, 3, 155), (151, .iconst 4, 1, 0), (152, .goto 4, 3, 156), (155, .iconst 2, 1, 0), (156, .putfield 29, 3, 195), (159, .goto 18, 3, 177), (162, .aload_n 0, 1, 0), (163, .iload_n 1, 1, 0), (164, .bipush 59, 2, 0), (166, .if_icmp .ne 7, 3, 173), (169, .iconst 3, 1, 0), (170, .goto 4, 3, 174), (173, .iconst 4, 1, 0), (174, .putfield 29, 3, 195), (177, .return_, 1, 0)]
def ip_cT_40 : List (Nat × Instr × Nat × Nat) := ip_cT_40_0 ++ ip_cT_40_1
def ip_cT_41_0 : List (Nat × Instr × Nat × Nat) := [(0, .iload_n 1, 1, 0), (1, .istore 4, 2, 0), (3, .iload 4, 2, 0), (5, .aload_n 0, 1, 0), (6, .getfield 25, 3, 194), (9, .getfield 114, 3, 449), (12, .if_icmp .ge 26, 3, 38), (15, .aload_n 0, 1, 0), (16, .getfield 25, 3, 194), (19, .iload 4, 2, 0), (21, .invokevirtual 104, 3, 86), (24, .iload_n 2, 1, 0), (25, .iload_n 3, 1, 0), (26, .invokestatic 64, 3, 129), (29, .ifCond .eq 9, 3, 38), (32, .iinc 4 1, 3, 0), (35, .goto (-32), 3, 3), (38, .iload 4, 2, 0), (40, .ireturn, 1, 0)]
def ip_cT_41 : List (Nat × Instr × Nat × Nat) := ip_cT_41_0
def ip_cT_42_0 : List (Nat × Instr × Nat × Nat) := [(0, .iconst 0, 1, 0), (1, .istore_n 1, 1, 0), (2, .iload_n 1, 1, 0), (3, .iconst 4, 1, 0), (4, .if_icmp .gt 33, 3, 37), (7, .aload_n 0, 1, 0), (8, .getfield 25, 3, 194), (11, .iload_n 1, 1, 0), (12, .invokestatic 117, 3, 43), (15, .aload_n 0, 1, 0), (16, .getfield 33, 3, 196), (19, .aload_n 0, 1, 0), (20, .getfield 36, 3, 197), (23, .invokevirtual 121, 3, 87), (26, .ifCond .eq 5, 3, 31), (29, .iload_n 1, 1, 0), (30, .ireturn, 1, 0), (31, .iinc 1 1, 3, 0), (34, .goto (-32), 3, 2), (37, .iconst (-1), 1, 0), (38, .ireturn, 1, 0)]
def ip_cT_42 : List (Nat × Instr × Nat × Nat) := ip_cT_42_0
def ip_cT_43_0 : List (Nat × Instr × Nat × Nat) := [(0, .iload_n 0, 1, 0), (1, .tableswitch 43 0 3 #[31, 34, 37, 40], 31, 0), (32, .ldc 125, 2, 1000), (34, .areturn, 1, 0), (35, .ldc 127, 2, 1001), (37, .areturn, 1, 0), (38, .ldc 129, 2, 1002), (40, .areturn, 1, 0), (41, .ldc 131, 2, 1003), (43, .areturn, 1, 0), (44, .ldc 133, 2, 1004), (46, .areturn, 1, 0)]
def ip_cT_43 : List (Nat × Instr × Nat × Nat) := ip_cT_43_0
def ip_cT_44_0 : List (Nat × Instr × Nat × Nat) := [(0, .aload_n 0, 1, 0), (1, .getfield 36, 3, 197), (4, .aload_n 0, 1, 0), (5, .getfield 33, 3, 196), (8, .isub, 1, 0), (9, .iconst 2, 1, 0), (10, .if_icmp .le 5, 3, 15), (13, .iconst (-1), 1, 0), (14, .ireturn, 1, 0), (15, .iconst 0, 1, 0), (16, .istore_n 1, 1, 0), (17, .aload_n 0, 1, 0), (18, .getfield 33, 3, 196), (21, .istore_n 2, 1, 0), (22, .iload_n 2, 1, 0), (23, .aload_n 0, 1, 0), (24, .getfield 36, 3, 197), (27, .if_icmp .ge 26, 3, 53), (30, .bipush 10, 2, 0), (32, .iload_n 1, 1, 0), (33, .imul, 1, 0), (34, .aload_n 0, 1, 0), (35, .getfield 25, 3, 194), (38, .iload_n 2, 1, 0), (39, .invokevirtual 104, 3, 86), (42, .iadd, 1, 0), (43, .bipush 48, 2, 0), (45, .isub, 1, 0), (46, .istore_n 1, 1, 0), (47, .iinc 2 1, 3, 0), (50, .goto (-28), 3, 22), (53, .iload_n 1, 1, 0), (54, .ireturn, 1, 0)]
def ip_cT_44 : List (Nat × Instr × Nat × Nat) := ip_cT_44_0
def ip_cT_45_0 : List (Nat × Instr × Nat × Nat) := [(0, .aload_n 0, 1, 0), (1, .invokespecial 3, 3, 9999), (4, .aload_n 0, 1, 0), (5, .bipush 24, 2, 0), (7, .newarray .int, 2, 0), (9, .putfield 11, 3, 256), (12, .aload_n 0, 1, 0), (13, .iconst 0, 1, 0), (14, .putfield 15, 3, 257), (17, .return_, 1, 0)]
def ip_cT_45 : List (Nat × Instr × Nat × Nat) := ip_cT_45_0
def ip_cT_46_0 : List (Nat × Instr × Nat × Nat) := [(0, .aload_n 0, 1, 0), (1, .getfield 15, 3, 257), (4, .bipush 6, 2, 0), (6, .if_icmp .ge 60, 3, 66), (9, .iconst 4, 1, 0), (10, .aload_n 0, 1, 0), (11, .getfield 15, 3, 257), (14, .imul, 1, 0), (15, .istore 5, 2, 0), (17, .aload_n 0, 1, 0), (18, .getfield 11, 3, 256), (21, .iload 5, 2, 0), (23, .iload_n 1, 1, 0), (24, .iastore, 1, 0), (25, .aload_n 0, 1, 0), (26, .getfield 11, 3, 256), (29, .iload 5, 2, 0), (31, .iconst 1, 1, 0), (32, .iadd, 1, 0), (33, .iload_n 2, 1, 0), (34, .iastore, 1, 0), (35, .aload_n 0, 1, 0), (36, .getfield 11, 3, 256), (39, .iload 5, 2, 0), (41, .iconst 2, 1, 0), (42, .iadd, 1, 0), (43, .iload_n 3, 1, 0), (44, .iastore, 1, 0), (45, .aload_n 0, 1, 0), (46, .getfield 11, 3, 256), (49, .iload 5, 2, 0), (51, .iconst 3, 1, 0), (52, .iadd, 1, 0), (53, .iload 4, 2, 0), (55, .iastore, 1, 0), (56, .aload_n 0, 1, 0), (57, .dup, 1, 0), (58, .getfield 15, 3, 257), (61, .iconst 1, 1, 0), (62, .iadd, 1, 0), (63, .putfield 15, 3, 257), (66, .aload_n 0, 1, 0), (67, .getfield 15, 3, 257), (70, .ireturn, 1, 0)]
def ip_cT_46 : List (Nat × Instr × Nat × Nat) := ip_cT_46_0
def ip_cT_47_0 : List (Nat × Instr × Nat × Nat) := [(0, .iload_n 1, 1, 0), (1, .iconst 0, 1, 0), (2, .aload_n 0, 1, 0), (3, .getfield 15, 3, 257), (6, .iconst 1, 1, 0), (7, .isub, 1, 0), (8, .invokestatic 19, 3, 129), (11, .ifCond .eq 16, 3, 27), (14, .iload_n 2, 1, 0), (15, .iconst 0, 1, 0), (16, .iconst 3, 1, 0), (17, .invokestatic 19, 3, 129), (20, .ifCond .eq 7, 3, 27), (23, .iconst 1, 1, 0), (24, .goto 4, 3, 28), (27, .iconst 0, 1, 0), (28, .istore_n 3, 1, 0), (29, .iload_n 3, 1, 0), (30, .ifCond .eq 16, 3, 46), (33, .aload_n 0, 1, 0), (34, .getfield 11, 3, 256), (37, .iconst 4, 1, 0), (38, .iload_n 1, 1, 0), (39, .imul, 1, 0), (40, .iload_n 2, 1, 0), (41, .iadd, 1, 0), (42, .iaload, 1, 0), (43, .goto 4, 3, 47), (46, .iconst (-1), 1, 0), (47, .ireturn, 1, 0)]
def ip_cT_47 : List (Nat × Instr × Nat × Nat) := ip_cT_47_0
def ip_cT_48_0 : List (Nat × Instr × Nat × Nat) := [(0, .lload_n 1, 1, 0), (1, .lstore 4, 2, 0), (3, .iconst 0, 1, 0), (4, .istore 6, 2, 0), (6, .iload 6, 2, 0), (8, .aload_n 0, 1, 0), (9, .getfield 15, 3, 257), (12, .if_icmp .ge 42, 3, 54), (15, .iconst 0, 1, 0), (16, .istore 7, 2, 0), (18, .iload 7, 2, 0), (20, .iload_n 3, 1, 0), (21, .if_icmp .ge 27, 3, 48), (24, .ldc2_w 23, 3, 0), (27, .lload 4, 2, 0), (29, .lmul, 1, 0), (30, .aload_n 0, 1, 0), (31, .iload 6, 2, 0), (33, .iload 7, 2, 0), (35, .invokevirtual 25, 3, 47), (38, .i2l, 1, 0), (39, .ladd, 1, 0), (40, .lstore 4, 2, 0), (42, .iinc 7 1, 3, 0), (45, .goto (-27), 3, 18), (48, .iinc 6 1, 3, 0), (51, .goto (-45), 3, 6), (54, .lload 4, 2, 0), (56, .lreturn, 1, 0)]
def ip_cT_48 : List (Nat × Instr × Nat × Nat) := ip_cT_48_0
def ip_cT_49_0 : List (Nat × Instr × Nat × Nat) := [(0, .aload_n 0, 1, 0), (1, .getfield 15, 3, 257), (4, .istore_n 1, 1, 0), (5, .aload_n 0, 1, 0), (6, .iconst 0, 1, 0), (7, .putfield 15, 3, 257), (10, .iload_n 1, 1, 0), (11, .ireturn, 1, 0)]
def ip_cT_49 : List (Nat × Instr × Nat × Nat) := ip_cT_49_0
def ip_cT_50_0 : List (Nat × Instr × Nat × Nat) := [(0, .aload_n 0, 1, 0), (1, .aload_n 1, 1, 0), (2, .getfield 15, 3, 257), (5, .putfield 15, 3, 257), (8, .aload_n 1, 1, 0), (9, .getfield 11, 3, 256), (12, .iconst 0, 1, 0), (13, .aload_n 0, 1, 0), (14, .getfield 11, 3, 256), (17, .iconst 0, 1, 0), (18, .bipush 24, 2, 0), (20, .invokestatic 29, 3, 9998), (23, .return_, 1, 0)]
def ip_cT_50 : List (Nat × Instr × Nat × Nat) := ip_cT_50_0
def ip_cT_51_0 : List (Nat × Instr × Nat × Nat) := [(0, .iload_n 1, 1, 0), (1, .iconst 3, 1, 0), (2, .if_icmp .lt 7, 3, 9), (5, .iconst 1, 1, 0), (6, .goto 4, 3, 10), (9, .iconst 0, 1, 0), (10, .istore_n 3, 1, 0), (11, .iload_n 2, 1, 0), (12, .iconst 5, 1, 0), (13, .irem, 1, 0), (14, .ifCond .eq 7, 3, 21), (17, .iconst 1, 1, 0), (18, .goto 4, 3, 22), (21, .iconst 0, 1, 0), (22, .istore 4, 2, 0), (24, .iload_n 0, 1, 0), (25, .tableswitch 70 0 4 #[35, 37, 39, 42, 58], 35, 0), (60, .iconst 1, 1, 0), (61, .ireturn, 1, 0), (62, .iload_n 3, 1, 0), (63, .ireturn, 1, 0), (64, .iload 4, 2, 0), (66, .ireturn, 1, 0), (67, .iload_n 1, 1, 0), (68, .bipush 9, 2, 0), (70, .if_icmp .lt 11, 3, 81), (73, .iload_n 3, 1, 0), (74, .ifCond .eq 7, 3, 81), (77, .iconst 1, 1, 0), (78, .goto 4, 3, 82), (81, .iconst 0, 1, 0), (82, .ireturn, 1, 0), (83, .iload_n 1, 1, 0), (84, .iconst 2, 1, 0), (85, .irem, 1, 0), (86, .ifCond .ne 7, 3, 93), (89, .iconst 1, 1, 0), (90, .goto 4, 3, 94), (93, .iconst 0, 1, 0), (94, .ireturn, 1, 0), (95, .iload 4, 2, 0), (97, .ifCond .eq 13, 3, 110), (100, .iload_n 2, 1, 0), (101, .iconst 2, 1, 0), (102, .irem, 1, 0), (103, .ifCond .ne 7, 3, 110), (106, .iconst 1, 1, 0), (107, .goto 4, 3, 111), (110, .iconst 0, 1, 0), (111, .ireturn, 1, 0)]
def ip_cT_51 : List (Nat × Instr × Nat × Nat) := ip_cT_51_0
def ip_cT_52_0 : List (Nat × Instr × Nat × Nat) := [(0, .aload_n 0, 1, 0), (1, .invokespecial 3, 3, 9999), (4, .aload_n 0, 1, 0), (5, .new 9, 3, 2), (8, .dup, 1, 0), (9, .invokespecial 11, 3, 21), (12, .putfield 12, 3, 320), (15, .aload_n 0, 1, 0), (16, .new 18, 3, 6), (19, .dup, 1, 0), (20, .invokespecial 20, 3, 61), (23, .putfield 21, 3, 321), (26, .aload_n 0, 1, 0), (27, .bipush 6, 2, 0), (29, .newarray .int, 2, 0), (31, .putfield 25, 3, 322), (34, .aload_n 0, 1, 0), (35, .iconst 4, 1, 0), (36, .newarray .int, 2, 0), (38, .putfield 29, 3, 323), (41, .aload_n 0, 1, 0), (42, .iconst 4, 1, 0), (43, .newarray .int, 2, 0), (45, .putfield 32, 3, 324), (48, .return_, 1, 0)]
def ip_cT_52 : List (Nat × Instr × Nat × Nat) := ip_cT_52_0
def ip_cT_53_0 : List (Nat × Instr × Nat × Nat) := [(0, .aload_n 1, 1, 0), (1, .getfield 35, 3, 513), (4, .invokevirtual 40, 3, 79), (7, .istore_n 2, 1, 0), (8, .iconst (-1), 1, 0), (9, .istore_n 3, 1, 0), (10, .aload_n 0, 1, 0), (11, .getfield 12, 3, 320), (14, .aload_n 1, 1, 0), (15, .getfield 44, 3, 518), (18, .aload_n 1, 1, 0), (19, .getfield 48, 3, 512), (22, .invokevirtual 51, 3, 22), (25, .iconst 0, 1, 0), (26, .istore 4, 2, 0), (28, .iload 4, 2, 0), (30, .bipush 64, 2, 0), (32, .if_icmp .ge 81, 3, 113), (35, .iload_n 3, 1, 0), (36, .iconst (-1), 1, 0), (37, .if_icmp .eq 15, 3, 52), (40, .iload 4, 2, 0), (42, .invokestatic 55, 3, 236), (45, .iload_n 3, 1, 0), (46, .invokestatic 55, 3, 236), (49, .if_icmp .ge 7, 3, 56), (52, .iconst 1, 1, 0), (53, .goto 4, 3, 57), (56, .iconst 0, 1, 0), (57, .istore 5, 2, 0), (59, .iload 5, 2, 0), (61, .ifCond .eq 46, 3, 107), (64, .iload 4, 2, 0), (66, .iload_n 2, 1, 0), (67, .iconst (-1), 1, 0), (68, .ixor, 1, 0), (69, .iand, 1, 0), (70, .ifCond .ne 37, 3, 107), (73, .aload_n 0, 1, 0), (74, .getfield 12, 3, 320), (77, .aload_n 1, 1, 0), (78, .getfield 35, 3, 513), (81, .iload_n 2, 1, 0), (82, .iload 4, 2, 0), (84, .iconst (-1), 1, 0), (85, .ixor, 1, 0), (86, .iand, 1, 0), (87, .invokevirtual 61, 3, 25), (90, .aload_n 0, 1, 0), (91, .getfield 12, 3, 320)]
def ip_cT_53_1 : List (Nat × Instr × Nat × Nat) := [(94, .invokevirtual 65, 3, 31), (97, .ifCond .eq 8, 3, 105), (100, .iload 4, 2, 0), (102, .goto 4, 3, 106), (105, .iload_n 3, 1, 0), (106, .istore_n 3, 1, 0), (107, .iinc 4 1, 3, 0), (110, .goto (-82), 3, 28), (113, .iload_n 3, 1, 0), (114, .ireturn, 1, 0)]
def ip_cT_53 : List (Nat × Instr × Nat × Nat) := ip_cT_53_0 ++ ip_cT_53_1
def ip_cT_54_0 : List (Nat × Instr × Nat × Nat) := [(0, .aload_n 1, 1, 0), (1, .getfield 35, 3, 513), (4, .invokevirtual 40, 3, 79), (7, .istore_n 2, 1, 0), (8, .aload_n 0, 1, 0), (9, .getfield 25, 3, 322), (12, .iconst 1, 1, 0), (13, .invokestatic 69, 3, 243), (16, .iconst 0, 1, 0), (17, .istore_n 3, 1, 0), (18, .iload_n 3, 1, 0), (19, .sipush 1000, 3, 0), (22, .if_icmp .ge 74, 3, 96), (25, .aload_n 0, 1, 0), (26, .getfield 12, 3, 320), (29, .aload_n 1, 1, 0), (30, .getfield 44, 3, 518), (33, .aload_n 0, 1, 0), (34, .getfield 25, 3, 322), (37, .invokevirtual 51, 3, 22), (40, .aload_n 0, 1, 0), (41, .getfield 12, 3, 320), (44, .aload_n 1, 1, 0), (45, .getfield 35, 3, 513), (48, .iload_n 2, 1, 0), (49, .invokevirtual 61, 3, 25), (52, .aload_n 0, 1, 0), (53, .getfield 12, 3, 320), (56, .invokevirtual 75, 3, 30), (59, .istore 4, 2, 0), (61, .iload 4, 2, 0), (63, .iconst (-1), 1, 0), (64, .if_icmp .ne 8, 3, 72), (67, .aload_n 0, 1, 0), (68, .invokevirtual 78, 3, 56), (71, .ireturn, 1, 0), (72, .aload_n 0, 1, 0), (73, .iload 4, 2, 0), (75, .bipush 6, 2, 0), (77, .invokestatic 81, 3, 9996), (80, .iconst 1, 1, 0), (81, .isub, 1, 0), (82, .invokevirtual 87, 3, 55), (85, .ifCond .ne 5, 3, 90), (88, .iconst (-1), 1, 0), (89, .ireturn, 1, 0), (90, .iinc 3 1, 3, 0), (93, .goto (-75), 3, 18), (96, .iconst (-1), 1, 0), (97, .ireturn, 1, 0)]
def ip_cT_54 : List (Nat × Instr × Nat × Nat) := ip_cT_54_0
def ip_cT_55_0 : List (Nat × Instr × Nat × Nat) := [(0, .iconst 5, 1, 0), (1, .istore_n 2, 1, 0), (2, .iload_n 2, 1, 0), (3, .ifCond .lt 43, 3, 46), (6, .iload_n 2, 1, 0), (7, .iload_n 1, 1, 0), (8, .if_icmp .gt 25, 3, 33), (11, .aload_n 0, 1, 0), (12, .getfield 25, 3, 322), (15, .iload_n 2, 1, 0), (16, .iaload, 1, 0), (17, .iconst 3, 1, 0), (18, .if_icmp .ge 15, 3, 33), (21, .aload_n 0, 1, 0), (22, .getfield 25, 3, 322), (25, .iload_n 2, 1, 0), (26, .dup2, 1, 0), (27, .iaload, 1, 0), (28, .iconst 1, 1, 0), (29, .iadd, 1, 0), (30, .iastore, 1, 0), (31, .iconst 1, 1, 0), (32, .ireturn, 1, 0), (33, .aload_n 0, 1, 0), (34, .getfield 25, 3, 322), (37, .iload_n 2, 1, 0), (38, .iconst 1, 1, 0), (39, .iastore, 1, 0), (40, .iinc 2 (-1), 3, 0), (43, .goto (-41), 3, 2), (46, .iconst 0, 1, 0), (47, .ireturn, 1, 0)]
def ip_cT_55 : List (Nat × Instr × Nat × Nat) := ip_cT_55_0
def ip_cT_56_0 : List (Nat × Instr × Nat × Nat) := [(0, .iconst 0, 1, 0), (1, .istore_n 1, 1, 0), (2, .iconst 0, 1, 0), (3, .istore_n 2, 1, 0), (4, .iload_n 2, 1, 0), (5, .bipush 6, 2, 0), (7, .if_icmp .ge 21, 3, 28), (10, .bipush 10, 2, 0), (12, .iload_n 1, 1, 0), (13, .imul, 1, 0), (14, .aload_n 0, 1, 0), (15, .getfield 25, 3, 322), (18, .iload_n 2, 1, 0), (19, .iaload, 1, 0), (20, .iadd, 1, 0), (21, .istore_n 1, 1, 0), (22, .iinc 2 1, 3, 0), (25, .goto (-21), 3, 4), (28, .iload_n 1, 1, 0), (29, .ireturn, 1, 0)]
def ip_cT_56 : List (Nat × Instr × Nat × Nat) := ip_cT_56_0
def ip_cT_57_0 : List (Nat × Instr × Nat × Nat) := [(0, .aload_n 0, 1, 0), (1, .getfield 21, 3, 321), (4, .aload_n 1, 1, 0), (5, .getfield 35, 3, 513), (8, .invokevirtual 91, 3, 63), (11, .aload_n 0, 1, 0), (12, .getfield 12, 3, 320), (15, .aload_n 1, 1, 0), (16, .getfield 44, 3, 518), (19, .aload_n 1, 1, 0), (20, .getfield 48, 3, 512), (23, .invokevirtual 51, 3, 22), (26, .iconst 0, 1, 0), (27, .istore_n 2, 1, 0), (28, .iload_n 2, 1, 0), (29, .bipush 60, 2, 0), (31, .if_icmp .gt 46, 3, 77), (34, .aload_n 0, 1, 0), (35, .getfield 12, 3, 320), (38, .aload_n 0, 1, 0), (39, .getfield 21, 3, 321), (42, .aload_n 0, 1, 0), (43, .getfield 21, 3, 321), (46, .invokevirtual 40, 3, 79), (49, .invokevirtual 61, 3, 25), (52, .aload_n 0, 1, 0), (53, .getfield 12, 3, 320), (56, .invokevirtual 65, 3, 31), (59, .ifCond .eq 5, 3, 64), (62, .iload_n 2, 1, 0), (63, .ireturn, 1, 0), (64, .aload_n 0, 1, 0), (65, .getfield 21, 3, 321), (68, .invokevirtual 95, 3, 75), (71, .iinc 2 1, 3, 0), (74, .goto (-46), 3, 28), (77, .iconst (-1), 1, 0), (78, .ireturn, 1, 0)]
def ip_cT_57 : List (Nat × Instr × Nat × Nat) := ip_cT_57_0
def ip_cT_58_0 : List (Nat × Instr × Nat × Nat) := [(0, .aload_n 1, 1, 0), (1, .getfield 35, 3, 513), (4, .invokevirtual 40, 3, 79), (7, .istore_n 3, 1, 0), (8, .lconst 0, 1, 0), (9, .lstore 4, 2, 0), (11, .aload_n 0, 1, 0), (12, .getfield 12, 3, 320), (15, .aload_n 1, 1, 0), (16, .getfield 44, 3, 518), (19, .aload_n 1, 1, 0), (20, .getfield 48, 3, 512), (23, .invokevirtual 51, 3, 22), (26, .iconst 0, 1, 0), (27, .istore 6, 2, 0), (29, .iload 6, 2, 0), (31, .bipush 64, 2, 0), (33, .if_icmp .ge 86, 3, 119), (36, .iload 6, 2, 0), (38, .iload_n 3, 1, 0), (39, .iconst (-1), 1, 0), (40, .ixor, 1, 0), (41, .iand, 1, 0), (42, .ifCond .ne 71, 3, 113), (45, .aload_n 0, 1, 0), (46, .getfield 12, 3, 320), (49, .aload_n 1, 1, 0), (50, .getfield 35, 3, 513), (53, .iload_n 3, 1, 0), (54, .iload 6, 2, 0), (56, .iconst (-1), 1, 0), (57, .ixor, 1, 0), (58, .iand, 1, 0), (59, .invokevirtual 61, 3, 25), (62, .iload_n 2, 1, 0), (63, .i2l, 1, 0), (64, .iload 6, 2, 0), (66, .invokestatic 55, 3, 236), (69, .invokestatic 98, 3, 138), (72, .bipush 10, 2, 0), (74, .iload_n 2, 1, 0), (75, .isub, 1, 0), (76, .i2l, 1, 0), (77, .iload_n 3, 1, 0), (78, .iload 6, 2, 0), (80, .iconst (-1), 1, 0), (81, .ixor, 1, 0), (82, .iand, 1, 0), (83, .invokestatic 55, 3, 236), (86, .invokestatic 98, 3, 138)]
def ip_cT_58_1 : List (Nat × Instr × Nat × Nat) := [(89, .lmul, 1, 0), (90, .lstore 7, 2, 0), (92, .lload 4, 2, 0), (94, .aload_n 0, 1, 0), (95, .getfield 12, 3, 320), (98, .invokevirtual 65, 3, 31), (101, .ifCond .eq 8, 3, 109), (104, .lload 7, 2, 0), (106, .goto 4, 3, 110), (109, .lconst 0, 1, 0), (110, .ladd, 1, 0), (111, .lstore 4, 2, 0), (113, .iinc 6 1, 3, 0), (116, .goto (-87), 3, 29), (119, .lload 4, 2, 0), (121, .lreturn, 1, 0)]
def ip_cT_58 : List (Nat × Instr × Nat × Nat) := ip_cT_58_0 ++ ip_cT_58_1
def ip_cT_59_0 : List (Nat × Instr × Nat × Nat) := [(0, .aload_n 1, 1, 0), (1, .getfield 35, 3, 513), (4, .invokevirtual 40, 3, 79), (7, .iconst 1, 1, 0), (8, .iload_n 2, 1, 0), (9, .ishl, 1, 0), (10, .ior, 1, 0), (11, .iconst 1, 1, 0), (12, .iload_n 3, 1, 0), (13, .ishl, 1, 0), (14, .ior, 1, 0), (15, .istore 4, 2, 0), (17, .aload_n 0, 1, 0), (18, .getfield 12, 3, 320), (21, .aload_n 1, 1, 0), (22, .getfield 44, 3, 518), (25, .aload_n 1, 1, 0), (26, .getfield 48, 3, 512), (29, .invokevirtual 51, 3, 22), (32, .iconst 0, 1, 0), (33, .istore 5, 2, 0), (35, .iload 5, 2, 0), (37, .iconst 4, 1, 0), (38, .if_icmp .ge 95, 3, 133), (41, .iload 5, 2, 0), (43, .iconst 1, 1, 0), (44, .iand, 1, 0), (45, .istore 6, 2, 0), (47, .iload 5, 2, 0), (49, .iconst 1, 1, 0), (50, .ishr, 1, 0), (51, .istore 7, 2, 0), (53, .aload_n 0, 1, 0), (54, .getfield 12, 3, 320), (57, .iload_n 2, 1, 0), (58, .iload_n 3, 1, 0), (59, .iload 5, 2, 0), (61, .invokevirtual 102, 3, 24), (64, .aload_n 0, 1, 0), (65, .getfield 12, 3, 320), (68, .aload_n 1, 1, 0), (69, .getfield 35, 3, 513), (72, .iload 4, 2, 0), (74, .invokevirtual 61, 3, 25), (77, .aload_n 0, 1, 0), (78, .getfield 29, 3, 323), (81, .iload 5, 2, 0), (83, .aload_n 0, 1, 0), (84, .getfield 12, 3, 320), (87, .iload_n 2, 1, 0)]
def ip_cT_59_1 : List (Nat × Instr × Nat × Nat) := [(88, .iconst 1, 1, 0), (89, .iadd, 1, 0), (90, .invokevirtual 106, 3, 33), (93, .iload 6, 2, 0), (95, .isub, 1, 0), (96, .iconst 2, 1, 0), (97, .iload 7, 2, 0), (99, .imul, 1, 0), (100, .isub, 1, 0), (101, .iastore, 1, 0), (102, .aload_n 0, 1, 0), (103, .getfield 32, 3, 324), (106, .iload 5, 2, 0), (108, .aload_n 0, 1, 0), (109, .getfield 12, 3, 320), (112, .iload_n 3, 1, 0), (113, .iconst 1, 1, 0), (114, .iadd, 1, 0), (115, .invokevirtual 106, 3, 33), (118, .iload 7, 2, 0), (120, .isub, 1, 0), (121, .iconst 2, 1, 0), (122, .iload 6, 2, 0), (124, .imul, 1, 0), (125, .isub, 1, 0), (126, .iastore, 1, 0), (127, .iinc 5 1, 3, 0), (130, .goto (-95), 3, 35), (133, .iconst 0, 1, 0), (134, .istore 5, 2, 0), (136, .iconst 0, 1, 0), (137, .istore 6, 2, 0), (139, .iload 6, 2, 0), (141, .iconst 4, 1, 0), (142, .if_icmp .ge 56, 3, 198), (145, .aload_n 0, 1, 0), (146, .getfield 29, 3, 323), (149, .iload 6, 2, 0), (151, .iaload, 1, 0), (152, .aload_n 0, 1, 0), (153, .getfield 29, 3, 323), (156, .iload 6, 2, 0), (158, .iconst 1, 1, 0), (159, .ixor, 1, 0), (160, .iaload, 1, 0), (161, .if_icmp .lt 31, 3, 192), (164, .aload_n 0, 1, 0), (165, .getfield 32, 3, 324), (168, .iload 6, 2, 0), (170, .iaload, 1, 0)]
def ip_cT_59_2 : List (Nat × Instr × Nat × Nat) := [(171, .aload_n 0, 1, 0), (172, .getfield 32, 3, 324), (175, .iload 6, 2, 0), (177, .iconst 2, 1, 0), (178, .ixor, 1, 0), (179, .iaload, 1, 0), (180, .if_icmp .lt 12, 3, 192), (183, .iload 5, 2, 0), (185, .iconst 1, 1, 0), (186, .iload 6, 2, 0), (188, .ishl, 1, 0), (189, .ior, 1, 0), (190, .istore 5, 2, 0), (192, .iinc 6 1, 3, 0), (195, .goto (-56), 3, 139), (198, .iload 5, 2, 0), (200, .ireturn, 1, 0)]
def ip_cT_59 : List (Nat × Instr × Nat × Nat) := ip_cT_59_0 ++ ip_cT_59_1 ++ ip_cT_59_2
def ip_cT_60_0 : List (Nat × Instr × Nat × Nat) := [(0, .iload_n 2, 1, 0), (1, .i2l, 1, 0), (2, .lstore 4, 2, 0), (4, .iconst 0, 1, 0), (5, .istore 6, 2, 0), (7, .aload_n 0, 1, 0), (8, .getfield 21, 3, 321), (11, .aload_n 1, 1, 0), (12, .getfield 35, 3, 513), (15, .invokevirtual 91, 3, 63), (18, .aload_n 0, 1, 0), (19, .getfield 12, 3, 320), (22, .aload_n 1, 1, 0), (23, .getfield 44, 3, 518), (26, .aload_n 1, 1, 0), (27, .getfield 48, 3, 512), (30, .invokevirtual 51, 3, 22), (33, .iconst 0, 1, 0), (34, .istore 7, 2, 0), (36, .iload 7, 2, 0), (38, .iload_n 3, 1, 0), (39, .if_icmp .ge 105, 3, 144), (42, .lload 4, 2, 0), (44, .ldc2_w 109, 3, 1), (47, .lmul, 1, 0), (48, .ldc2_w 111, 3, 2), (51, .ladd, 1, 0), (52, .ldc2_w 113, 3, 3), (55, .lrem, 1, 0), (56, .lstore 4, 2, 0), (58, .lload 4, 2, 0), (60, .ldc2_w 115, 3, 4), (63, .ldiv, 1, 0), (64, .ldc2_w 117, 3, 5), (67, .lrem, 1, 0), (68, .l2i, 1, 0), (69, .istore 8, 2, 0), (71, .iload 8, 2, 0), (73, .aload_n 1, 1, 0), (74, .getfield 44, 3, 518), (77, .if_icmp .ge 24, 3, 101), (80, .aload_n 0, 1, 0), (81, .getfield 21, 3, 321), (84, .iload 8, 2, 0), (86, .lload 4, 2, 0), (88, .ldc2_w 119, 3, 6), (91, .ldiv, 1, 0), (92, .ldc2_w 117, 3, 5), (95, .lrem, 1, 0), (96, .l2i, 1, 0)]
def ip_cT_60_1 : List (Nat × Instr × Nat × Nat) := [(97, .iconst 0, 1, 0), (98, .invokevirtual 121, 3, 74), (101, .aload_n 0, 1, 0), (102, .getfield 12, 3, 320), (105, .aload_n 0, 1, 0), (106, .getfield 21, 3, 321), (109, .aload_n 0, 1, 0), (110, .getfield 21, 3, 321), (113, .invokevirtual 40, 3, 79), (116, .invokevirtual 61, 3, 25), (119, .iload 6, 2, 0), (121, .aload_n 0, 1, 0), (122, .getfield 12, 3, 320), (125, .invokevirtual 124, 3, 32), (128, .iadd, 1, 0), (129, .istore 6, 2, 0), (131, .aload_n 0, 1, 0), (132, .getfield 21, 3, 321), (135, .invokevirtual 95, 3, 75), (138, .iinc 7 1, 3, 0), (141, .goto (-105), 3, 36), (144, .iload 6, 2, 0), (146, .ireturn, 1, 0)]
def ip_cT_60 : List (Nat × Instr × Nat × Nat) := ip_cT_60_0 ++ ip_cT_60_1
def ip_cT_61_0 : List (Nat × Instr × Nat × Nat) := [(0, .aload_n 0, 1, 0), (1, .invokespecial 3, 3, 9999), (4, .aload_n 0, 1, 0), (5, .bipush 25, 2, 0), (7, .newarray .int, 2, 0), (9, .putfield 11, 3, 384), (12, .aload_n 0, 1, 0), (13, .invokevirtual 15, 3, 62), (16, .return_, 1, 0)]
def ip_cT_61 : List (Nat × Instr × Nat × Nat) := ip_cT_61_0
def ip_cT_62_0 : List (Nat × Instr × Nat × Nat) := [(0, .aload_n 0, 1, 0), (1, .getfield 11, 3, 384), (4, .iconst 0, 1, 0), (5, .invokestatic 18, 3, 243), (8, .iconst 0, 1, 0), (9, .istore_n 1, 1, 0), (10, .iload_n 1, 1, 0), (11, .bipush 6, 2, 0), (13, .if_icmp .ge 14, 3, 27), (16, .aload_n 0, 1, 0), (17, .iload_n 1, 1, 0), (18, .invokevirtual 24, 3, 73), (21, .iinc 1 1, 3, 0), (24, .goto (-14), 3, 10), (27, .return_, 1, 0)]
def ip_cT_62 : List (Nat × Instr × Nat × Nat) := ip_cT_62_0
def ip_cT_63_0 : List (Nat × Instr × Nat × Nat) := [(0, .aload_n 1, 1, 0), (1, .getfield 11, 3, 384), (4, .iconst 0, 1, 0), (5, .aload_n 0, 1, 0), (6, .getfield 11, 3, 384), (9, .iconst 0, 1, 0), (10, .bipush 25, 2, 0), (12, .invokestatic 28, 3, 9998), (15, .return_, 1, 0)]
def ip_cT_63 : List (Nat × Instr × Nat × Nat) := ip_cT_63_0
def ip_cT_64_0 : List (Nat × Instr × Nat × Nat) := [(0, .iload_n 2, 1, 0), (1, .ifCond .lt 20, 3, 21), (4, .iload_n 2, 1, 0), (5, .bipush 6, 2, 0), (7, .if_icmp .ge 14, 3, 21), (10, .aload_n 0, 1, 0), (11, .getfield 11, 3, 384), (14, .iload_n 1, 1, 0), (15, .iload_n 2, 1, 0), (16, .iadd, 1, 0), (17, .iaload, 1, 0), (18, .goto 4, 3, 22), (21, .iconst (-1), 1, 0), (22, .ireturn, 1, 0)]
def ip_cT_64 : List (Nat × Instr × Nat × Nat) := ip_cT_64_0
def ip_cT_65_0 : List (Nat × Instr × Nat × Nat) := [(0, .iload_n 2, 1, 0), (1, .ifCond .lt 18, 3, 19), (4, .iload_n 2, 1, 0), (5, .bipush 6, 2, 0), (7, .if_icmp .ge 12, 3, 19), (10, .aload_n 0, 1, 0), (11, .getfield 11, 3, 384), (14, .iload_n 1, 1, 0), (15, .iload_n 2, 1, 0), (16, .iadd, 1, 0), (17, .iload_n 3, 1, 0), (18, .iastore, 1, 0), (19, .return_, 1, 0)]
def ip_cT_65 : List (Nat × Instr × Nat × Nat) := ip_cT_65_0
def ip_cT_66_0 : List (Nat × Instr × Nat × Nat) := [(0, .aload_n 0, 1, 0), (1, .iconst 0, 1, 0), (2, .iload_n 1, 1, 0), (3, .invokevirtual 34, 3, 64), (6, .ireturn, 1, 0)]
def ip_cT_66 : List (Nat × Instr × Nat × Nat) := ip_cT_66_0
def ip_cT_67_0 : List (Nat × Instr × Nat × Nat) := [(0, .aload_n 0, 1, 0), (1, .bipush 6, 2, 0), (3, .iload_n 1, 1, 0), (4, .invokevirtual 34, 3, 64), (7, .ireturn, 1, 0)]
def ip_cT_67 : List (Nat × Instr × Nat × Nat) := ip_cT_67_0
def ip_cT_68_0 : List (Nat × Instr × Nat × Nat) := [(0, .aload_n 0, 1, 0), (1, .bipush 12, 2, 0), (3, .iload_n 1, 1, 0), (4, .invokevirtual 34, 3, 64), (7, .ireturn, 1, 0)]
def ip_cT_68 : List (Nat × Instr × Nat × Nat) := ip_cT_68_0
def ip_cT_69_0 : List (Nat × Instr × Nat × Nat) := [(0, .aload_n 0, 1, 0), (1, .bipush 18, 2, 0), (3, .iload_n 1, 1, 0), (4, .invokevirtual 34, 3, 64), (7, .ireturn, 1, 0)]
def ip_cT_69 : List (Nat × Instr × Nat × Nat) := ip_cT_69_0
def ip_cT_70_0 : List (Nat × Instr × Nat × Nat) := [(0, .aload_n 0, 1, 0), (1, .getfield 11, 3, 384), (4, .bipush 24, 2, 0), (6, .iaload, 1, 0), (7, .ireturn, 1, 0)]
def ip_cT_70 : List (Nat × Instr × Nat × Nat) := ip_cT_70_0
def ip_cT_71_0 : List (Nat × Instr × Nat × Nat) := [(0, .aload_n 0, 1, 0), (1, .iload_n 1, 1, 0), (2, .invokevirtual 38, 3, 66), (5, .iconst (-1), 1, 0), (6, .if_icmp .eq 7, 3, 13), (9, .iconst 1, 1, 0), (10, .goto 4, 3, 14), (13, .iconst 0, 1, 0), (14, .ireturn, 1, 0)]
def ip_cT_71 : List (Nat × Instr × Nat × Nat) := ip_cT_71_0
def ip_cT_72_0 : List (Nat × Instr × Nat × Nat) := [(0, .aload_n 0, 1, 0), (1, .iconst 0, 1, 0), (2, .iload_n 1, 1, 0), (3, .iload_n 2, 1, 0), (4, .invokevirtual 42, 3, 65), (7, .aload_n 0, 1, 0), (8, .bipush 6, 2, 0), (10, .iload_n 1, 1, 0), (11, .iload_n 3, 1, 0), (12, .invokevirtual 42, 3, 65), (15, .return_, 1, 0)]
def ip_cT_72 : List (Nat × Instr × Nat × Nat) := ip_cT_72_0
def ip_cT_73_0 : List (Nat × Instr × Nat × Nat) := [(0, .aload_n 0, 1, 0), (1, .iload_n 1, 1, 0), (2, .iconst (-1), 1, 0), (3, .iconst (-1), 1, 0), (4, .invokevirtual 46, 3, 72), (7, .return_, 1, 0)]
def ip_cT_73 : List (Nat × Instr × Nat × Nat) := ip_cT_73_0
def ip_cT_74_0 : List (Nat × Instr × Nat × Nat) := [(0, .aload_n 0, 1, 0), (1, .bipush 12, 2, 0), (3, .iload_n 1, 1, 0), (4, .iload_n 2, 1, 0), (5, .invokevirtual 42, 3, 65), (8, .aload_n 0, 1, 0), (9, .bipush 18, 2, 0), (11, .iload_n 1, 1, 0), (12, .iload_n 3, 1, 0), (13, .invokevirtual 42, 3, 65), (16, .return_, 1, 0)]
def ip_cT_74 : List (Nat × Instr × Nat × Nat) := ip_cT_74_0
def ip_cT_75_0 : List (Nat × Instr × Nat × Nat) := [(0, .aload_n 0, 1, 0), (1, .getfield 11, 3, 384), (4, .bipush 24, 2, 0), (6, .dup2, 1, 0), (7, .iaload, 1, 0), (8, .iconst 1, 1, 0), (9, .iadd, 1, 0), (10, .iastore, 1, 0), (11, .iconst 0, 1, 0), (12, .istore_n 1, 1, 0), (13, .iload_n 1, 1, 0), (14, .bipush 6, 2, 0), (16, .if_icmp .ge 28, 3, 44), (19, .aload_n 0, 1, 0), (20, .bipush 18, 2, 0), (22, .iload_n 1, 1, 0), (23, .aload_n 0, 1, 0), (24, .iload_n 1, 1, 0), (25, .invokevirtual 49, 3, 69), (28, .iconst 1, 1, 0), (29, .iadd, 1, 0), (30, .bipush 99, 2, 0), (32, .invokestatic 52, 3, 9996), (35, .invokevirtual 42, 3, 65), (38, .iinc 1 1, 3, 0), (41, .goto (-28), 3, 13), (44, .return_, 1, 0)]
def ip_cT_75 : List (Nat × Instr × Nat × Nat) := ip_cT_75_0
def ip_cT_76_0 : List (Nat × Instr × Nat × Nat) := [(0, .iconst 0, 1, 0), (1, .istore_n 2, 1, 0), (2, .iload_n 2, 1, 0), (3, .iload_n 1, 1, 0), (4, .if_icmp .ge 23, 3, 27), (7, .aload_n 0, 1, 0), (8, .invokevirtual 57, 3, 70), (11, .sipush 999, 3, 0), (14, .if_icmp .ge 13, 3, 27), (17, .aload_n 0, 1, 0), (18, .invokevirtual 61, 3, 75), (21, .iinc 2 1, 3, 0), (24, .goto (-22), 3, 2), (27, .return_, 1, 0)]
def ip_cT_76 : List (Nat × Instr × Nat × Nat) := ip_cT_76_0
def ip_cT_77_0 : List (Nat × Instr × Nat × Nat) := [(0, .aload_n 0, 1, 0), (1, .iload_n 1, 1, 0), (2, .invokevirtual 64, 3, 71), (5, .ifCond .eq 27, 3, 32), (8, .aload_n 0, 1, 0), (9, .iload_n 1, 1, 0), (10, .invokevirtual 68, 3, 68), (13, .aload_n 0, 1, 0), (14, .iload_n 1, 1, 0), (15, .invokevirtual 49, 3, 69), (18, .aload_n 0, 1, 0), (19, .invokevirtual 57, 3, 70), (22, .invokestatic 71, 3, 51), (25, .ifCond .eq 7, 3, 32), (28, .iconst 1, 1, 0), (29, .goto 4, 3, 33), (32, .iconst 0, 1, 0), (33, .ireturn, 1, 0)]
def ip_cT_77 : List (Nat × Instr × Nat × Nat) := ip_cT_77_0
def ip_cT_78_0 : List (Nat × Instr × Nat × Nat) := [(0, .iconst 0, 1, 0), (1, .istore_n 1, 1, 0), (2, .iconst 0, 1, 0), (3, .istore_n 2, 1, 0), (4, .iload_n 2, 1, 0), (5, .bipush 6, 2, 0), (7, .if_icmp .ge 27, 3, 34), (10, .iload_n 1, 1, 0), (11, .aload_n 0, 1, 0), (12, .iload_n 2, 1, 0), (13, .invokevirtual 64, 3, 71), (16, .ifCond .eq 9, 3, 25), (19, .iconst 1, 1, 0), (20, .iload_n 2, 1, 0), (21, .ishl, 1, 0), (22, .goto 4, 3, 26), (25, .iconst 0, 1, 0), (26, .ior, 1, 0), (27, .istore_n 1, 1, 0), (28, .iinc 2 1, 3, 0), (31, .goto (-27), 3, 4), (34, .iload_n 1, 1, 0), (35, .ireturn, 1, 0)]
def ip_cT_78 : List (Nat × Instr × Nat × Nat) := ip_cT_78_0
def ip_cT_79_0 : List (Nat × Instr × Nat × Nat) := [(0, .iconst 0, 1, 0), (1, .istore_n 1, 1, 0), (2, .iconst 0, 1, 0), (3, .istore_n 2, 1, 0), (4, .iload_n 2, 1, 0), (5, .bipush 6, 2, 0), (7, .if_icmp .ge 27, 3, 34), (10, .iload_n 1, 1, 0), (11, .aload_n 0, 1, 0), (12, .iload_n 2, 1, 0), (13, .invokevirtual 77, 3, 77), (16, .ifCond .eq 9, 3, 25), (19, .iconst 1, 1, 0), (20, .iload_n 2, 1, 0), (21, .ishl, 1, 0), (22, .goto 4, 3, 26), (25, .iconst 0, 1, 0), (26, .ior, 1, 0), (27, .istore_n 1, 1, 0), (28, .iinc 2 1, 3, 0), (31, .goto (-27), 3, 4), (34, .iload_n 1, 1, 0), (35, .ireturn, 1, 0)]
def ip_cT_79 : List (Nat × Instr × Nat × Nat) := ip_cT_79_0
def ip_cT_80_0 : List (Nat × Instr × Nat × Nat) := [(0, .iconst 0, 1, 0), (1, .istore_n 2, 1, 0), (2, .iconst 0, 1, 0), (3, .istore_n 3, 1, 0), (4, .iload_n 3, 1, 0), (5, .bipush 6, 2, 0), (7, .if_icmp .ge 34, 3, 41), (10, .iload_n 2, 1, 0), (11, .aload_n 0, 1, 0), (12, .iload_n 3, 1, 0), (13, .invokevirtual 77, 3, 77), (16, .ifCond .eq 16, 3, 32), (19, .aload_n 0, 1, 0), (20, .iload_n 3, 1, 0), (21, .invokevirtual 80, 3, 67), (24, .iload_n 1, 1, 0), (25, .if_icmp .ne 7, 3, 32), (28, .iconst 1, 1, 0), (29, .goto 4, 3, 33), (32, .iconst 0, 1, 0), (33, .iadd, 1, 0), (34, .istore_n 2, 1, 0), (35, .iinc 3 1, 3, 0), (38, .goto (-34), 3, 4), (41, .iload_n 2, 1, 0), (42, .ireturn, 1, 0)]
def ip_cT_80 : List (Nat × Instr × Nat × Nat) := ip_cT_80_0
def ip_cT_81_0 : List (Nat × Instr × Nat × Nat) := [(0, .iconst 0, 1, 0), (1, .istore_n 1, 1, 0), (2, .iconst 0, 1, 0), (3, .istore_n 2, 1, 0), (4, .iconst 1, 1, 0), (5, .istore_n 3, 1, 0), (6, .iload_n 3, 1, 0), (7, .bipush 12, 2, 0), (9, .if_icmp .ge 27, 3, 36), (12, .aload_n 0, 1, 0), (13, .iload_n 3, 1, 0), (14, .invokevirtual 83, 3, 80), (17, .istore 4, 2, 0), (19, .iload 4, 2, 0), (21, .iload_n 2, 1, 0), (22, .if_icmp .le 8, 3, 30), (25, .iload 4, 2, 0), (27, .istore_n 2, 1, 0), (28, .iload_n 3, 1, 0), (29, .istore_n 1, 1, 0), (30, .iinc 3 1, 3, 0), (33, .goto (-27), 3, 6), (36, .iload_n 1, 1, 0), (37, .ireturn, 1, 0)]
def ip_cT_81 : List (Nat × Instr × Nat × Nat) := ip_cT_81_0
def ip_cT_82_0 : List (Nat × Instr × Nat × Nat) := [(0, .iload_n 1, 1, 0), (1, .iconst 1, 1, 0), (2, .iadd, 1, 0), (3, .iload_n 2, 1, 0), (4, .invokestatic 7, 3, 9996), (7, .istore_n 3, 1, 0), (8, .iload_n 3, 1, 0), (9, .iconst 2, 1, 0), (10, .isub, 1, 0), (11, .iconst 1, 1, 0), (12, .invokestatic 13, 3, 9997), (15, .istore 4, 2, 0), (17, .iload_n 3, 1, 0), (18, .iconst 1, 1, 0), (19, .iadd, 1, 0), (20, .iload_n 2, 1, 0), (21, .invokestatic 7, 3, 9996), (24, .istore 5, 2, 0), (26, .iload_n 0, 1, 0), (27, .tableswitch 60 0 4 #[33, 35, 38, 41, 53], 33, 0), (60, .iload_n 3, 1, 0), (61, .ireturn, 1, 0), (62, .iload 4, 2, 0), (64, .ireturn, 1, 0), (65, .iload 5, 2, 0), (67, .ireturn, 1, 0), (68, .iload 5, 2, 0), (70, .iload_n 2, 1, 0), (71, .if_icmp .ne 7, 3, 78), (74, .iload_n 2, 1, 0), (75, .goto 4, 3, 79), (78, .iload_n 1, 1, 0), (79, .ireturn, 1, 0), (80, .iload_n 2, 1, 0), (81, .iconst 1, 1, 0), (82, .iadd, 1, 0), (83, .iload 4, 2, 0), (85, .isub, 1, 0), (86, .ireturn, 1, 0), (87, .iload_n 3, 1, 0), (88, .iconst 1, 1, 0), (89, .iadd, 1, 0), (90, .iload_n 2, 1, 0), (91, .invokestatic 7, 3, 9996), (94, .ireturn, 1, 0)]
def ip_cT_82 : List (Nat × Instr × Nat × Nat) := ip_cT_82_0
def ip_cT_83_0 : List (Nat × Instr × Nat × Nat) := [(0, .aload_n 0, 1, 0), (1, .invokespecial 3, 3, 9999), (4, .aload_n 0, 1, 0), (5, .sipush 150, 3, 0), (8, .newarray .byte, 2, 0), (10, .putfield 9, 3, 448), (13, .aload_n 0, 1, 0), (14, .iconst 0, 1, 0), (15, .putfield 15, 3, 449), (18, .return_, 1, 0)]
def ip_cT_83 : List (Nat × Instr × Nat × Nat) := ip_cT_83_0
def ip_cT_84_0 : List (Nat × Instr × Nat × Nat) := [(0, .aload_n 0, 1, 0), (1, .getfield 15, 3, 449), (4, .istore_n 1, 1, 0), (5, .aload_n 0, 1, 0), (6, .iconst 0, 1, 0), (7, .putfield 15, 3, 449), (10, .iload_n 1, 1, 0), (11, .ireturn, 1, 0)]
def ip_cT_84 : List (Nat × Instr × Nat × Nat) := ip_cT_84_0
def ip_cT_85_0 : List (Nat × Instr × Nat × Nat) := [(0, .aload_n 0, 1, 0), (1, .getfield 15, 3, 449), (4, .sipush 150, 3, 0), (7, .if_icmp .ge 24, 3, 31), (10, .aload_n 0, 1, 0), (11, .getfield 9, 3, 448), (14, .aload_n 0, 1, 0), (15, .getfield 15, 3, 449), (18, .iload_n 1, 1, 0), (19, .i2b, 1, 0), (20, .bastore, 1, 0), (21, .aload_n 0, 1, 0), (22, .dup, 1, 0), (23, .getfield 15, 3, 449), (26, .iconst 1, 1, 0), (27, .iadd, 1, 0), (28, .putfield 15, 3, 449), (31, .return_, 1, 0)]
def ip_cT_85 : List (Nat × Instr × Nat × Nat) := ip_cT_85_0
def ip_cT_86_0 : List (Nat × Instr × Nat × Nat) := [(0, .iload_n 1, 1, 0), (1, .ifCond .lt 20, 3, 21), (4, .iload_n 1, 1, 0), (5, .aload_n 0, 1, 0), (6, .getfield 15, 3, 449), (9, .if_icmp .ge 12, 3, 21), (12, .aload_n 0, 1, 0), (13, .getfield 9, 3, 448), (16, .iload_n 1, 1, 0), (17, .baload, 1, 0), (18, .goto 4, 3, 22), (21, .iconst (-1), 1, 0), (22, .ireturn, 1, 0)]
def ip_cT_86 : List (Nat × Instr × Nat × Nat) := ip_cT_86_0
def ip_cT_87_0 : List (Nat × Instr × Nat × Nat) := [(0, .iload_n 3, 1, 0), (1, .iload_n 2, 1, 0), (2, .isub, 1, 0), (3, .aload_n 1, 1, 0), (4, .invokevirtual 19, 3, 237), (7, .if_icmp .eq 5, 3, 12), (10, .iconst 0, 1, 0), (11, .ireturn, 1, 0), (12, .iconst 0, 1, 0), (13, .istore 4, 2, 0), (15, .iload 4, 2, 0), (17, .aload_n 1, 1, 0), (18, .invokevirtual 19, 3, 237), (21, .if_icmp .ge 28, 3, 49), (24, .aload_n 0, 1, 0), (25, .iload_n 2, 1, 0), (26, .iload 4, 2, 0), (28, .iadd, 1, 0), (29, .invokevirtual 24, 3, 86), (32, .aload_n 1, 1, 0), (33, .iload 4, 2, 0), (35, .invokevirtual 28, 3, 238), (38, .if_icmp .eq 5, 3, 43), (41, .iconst 0, 1, 0), (42, .ireturn, 1, 0), (43, .iinc 4 1, 3, 0), (46, .goto (-31), 3, 15), (49, .iconst 1, 1, 0), (50, .ireturn, 1, 0)]
def ip_cT_87 : List (Nat × Instr × Nat × Nat) := ip_cT_87_0
def ip_cT_88_0 : List (Nat × Instr × Nat × Nat) := [(0, .aload_n 0, 1, 0), (1, .invokespecial 3, 3, 9999), (4, .aload_n 0, 1, 0), (5, .bipush 6, 2, 0), (7, .newarray .int, 2, 0), (9, .putfield 9, 3, 512), (12, .aload_n 0, 1, 0), (13, .new 15, 3, 6), (16, .dup, 1, 0), (17, .invokespecial 17, 3, 61), (20, .putfield 18, 3, 513), (23, .aload_n 0, 1, 0), (24, .new 22, 3, 1), (27, .dup, 1, 0), (28, .invokespecial 24, 3, 15), (31, .putfield 25, 3, 514), (34, .aload_n 0, 1, 0), (35, .new 29, 3, 4), (38, .dup, 1, 0), (39, .invokespecial 31, 3, 45), (42, .putfield 32, 3, 515), (45, .aload_n 0, 1, 0), (46, .new 29, 3, 4), (49, .dup, 1, 0), (50, .invokespecial 31, 3, 45), (53, .putfield 36, 3, 516), (56, .aload_n 0, 1, 0), (57, .new 29, 3, 4), (60, .dup, 1, 0), (61, .invokespecial 31, 3, 45), (64, .putfield 39, 3, 517), (67, .aload_n 0, 1, 0), (68, .iconst 5, 1, 0), (69, .putfield 42, 3, 518), (72, .return_, 1, 0)]
def ip_cT_88 : List (Nat × Instr × Nat × Nat) := ip_cT_88_0
def ip_cT_89_0 : List (Nat × Instr × Nat × Nat) := [(0, .aload_n 0, 1, 0), (1, .iload_n 1, 1, 0), (2, .putfield 42, 3, 518), (5, .aload_n 0, 1, 0), (6, .getfield 9, 3, 512), (9, .iconst 0, 1, 0), (10, .invokestatic 46, 3, 243), (13, .aload_n 0, 1, 0), (14, .getfield 18, 3, 513), (17, .invokevirtual 52, 3, 62), (20, .aload_n 0, 1, 0), (21, .getfield 25, 3, 514), (24, .invokevirtual 55, 3, 16), (27, .aload_n 0, 1, 0), (28, .getfield 32, 3, 515), (31, .invokevirtual 58, 3, 49), (34, .pop, 1, 0), (35, .aload_n 0, 1, 0), (36, .getfield 36, 3, 516), (39, .invokevirtual 58, 3, 49), (42, .pop, 1, 0), (43, .aload_n 0, 1, 0), (44, .getfield 39, 3, 517), (47, .invokevirtual 58, 3, 49), (50, .pop, 1, 0), (51, .return_, 1, 0)]
def ip_cT_89 : List (Nat × Instr × Nat × Nat) := ip_cT_89_0
def ip_cT_90_0 : List (Nat × Instr × Nat × Nat) := [(0, .aload_n 0, 1, 0), (1, .aload_n 1, 1, 0), (2, .getfield 42, 3, 518), (5, .putfield 42, 3, 518), (8, .aload_n 1, 1, 0), (9, .getfield 9, 3, 512), (12, .iconst 0, 1, 0), (13, .aload_n 0, 1, 0), (14, .getfield 9, 3, 512), (17, .iconst 0, 1, 0), (18, .bipush 6, 2, 0), (20, .invokestatic 62, 3, 9998), (23, .aload_n 0, 1, 0), (24, .getfield 18, 3, 513), (27, .aload_n 1, 1, 0), (28, .getfield 18, 3, 513), (31, .invokevirtual 68, 3, 63), (34, .aload_n 0, 1, 0), (35, .getfield 25, 3, 514), (38, .aload_n 1, 1, 0), (39, .getfield 25, 3, 514), (42, .invokevirtual 72, 3, 20), (45, .aload_n 0, 1, 0), (46, .getfield 32, 3, 515), (49, .aload_n 1, 1, 0), (50, .getfield 32, 3, 515), (53, .invokevirtual 76, 3, 50), (56, .aload_n 0, 1, 0), (57, .getfield 36, 3, 516), (60, .aload_n 1, 1, 0), (61, .getfield 36, 3, 516), (64, .invokevirtual 76, 3, 50), (67, .aload_n 0, 1, 0), (68, .getfield 39, 3, 517), (71, .aload_n 1, 1, 0), (72, .getfield 39, 3, 517), (75, .invokevirtual 76, 3, 50), (78, .return_, 1, 0)]
def ip_cT_90 : List (Nat × Instr × Nat × Nat) := ip_cT_90_0
def ip_cT_91_0 : List (Nat × Instr × Nat × Nat) := [(0, .aload_n 0, 1, 0), (1, .invokespecial 1, 3, 9999), (4, .aload_n 0, 1, 0), (5, .new 7, 3, 8), (8, .dup, 1, 0), (9, .invokespecial 9, 3, 88), (12, .putfield 10, 3, 576), (15, .aload_n 0, 1, 0), (16, .new 7, 3, 8), (19, .dup, 1, 0), (20, .invokespecial 9, 3, 88), (23, .putfield 16, 3, 577), (26, .aload_n 0, 1, 0), (27, .new 7, 3, 8), (30, .dup, 1, 0), (31, .invokespecial 9, 3, 88), (34, .putfield 19, 3, 578), (37, .aload_n 0, 1, 0), (38, .iconst 2, 1, 0), (39, .newarray .boolean, 2, 0), (41, .putfield 22, 3, 579), (44, .aload_n 0, 1, 0), (45, .new 26, 3, 7), (48, .dup, 1, 0), (49, .invokespecial 28, 3, 83), (52, .putfield 29, 3, 580), (55, .aload_n 0, 1, 0), (56, .new 33, 3, 3), (59, .dup, 1, 0), (60, .invokespecial 35, 3, 34), (63, .putfield 36, 3, 581), (66, .aload_n 0, 1, 0), (67, .new 40, 3, 5), (70, .dup, 1, 0), (71, .invokespecial 42, 3, 52), (74, .putfield 43, 3, 582), (77, .aload_n 0, 1, 0), (78, .new 47, 3, 0), (81, .dup, 1, 0), (82, .invokespecial 49, 3, 1), (85, .putfield 50, 3, 583), (88, .aload_n 0, 1, 0), (89, .iconst 3, 1, 0), (90, .newarray .int, 2, 0), (92, .putfield 54, 3, 584), (95, .aload_n 0, 1, 0), (96, .lconst 0, 1, 0), (97, .putfield 58, 3, 585), (100, .aload_n 0, 1, 0), (101, .lconst 1, 1, 0)]
def ip_cT_91_1 : List (Nat × Instr × Nat × Nat) := [(102, .putfield 62, 3, 586), (105, .return_, 1, 0)]
def ip_cT_91 : List (Nat × Instr × Nat × Nat) := ip_cT_91_0 ++ ip_cT_91_1
def ip_cT_92_0 : List (Nat × Instr × Nat × Nat) := [(0, .iload_n 1, 1, 0), (1, .iconst 4, 1, 0), (2, .bipush 6, 2, 0), (4, .invokestatic 65, 3, 129), (7, .ifCond .ne 10, 3, 17), (10, .aload_n 0, 1, 0), (11, .bipush (-2), 2, 0), (13, .invokevirtual 69, 3, 133), (16, .ireturn, 1, 0), (17, .aload_n 0, 1, 0), (18, .getfield 10, 3, 576), (21, .getfield 73, 3, 518), (24, .istore_n 2, 1, 0), (25, .aload_n 0, 1, 0), (26, .getfield 10, 3, 576), (29, .iload_n 1, 1, 0), (30, .invokevirtual 77, 3, 89), (33, .iload_n 2, 1, 0), (34, .ireturn, 1, 0)]
def ip_cT_92 : List (Nat × Instr × Nat × Nat) := ip_cT_92_0
def ip_cT_93_0 : List (Nat × Instr × Nat × Nat) := [(0, .iload_n 1, 1, 0), (1, .iconst 0, 1, 0), (2, .iconst 5, 1, 0), (3, .invokestatic 65, 3, 129), (6, .ifCond .eq 12, 3, 18), (9, .iload_n 2, 1, 0), (10, .iconst 0, 1, 0), (11, .iconst 3, 1, 0), (12, .invokestatic 65, 3, 129), (15, .ifCond .ne 10, 3, 25), (18, .aload_n 0, 1, 0), (19, .bipush (-2), 2, 0), (21, .invokevirtual 69, 3, 133), (24, .ireturn, 1, 0), (25, .aload_n 0, 1, 0), (26, .getfield 10, 3, 576), (29, .getfield 81, 3, 512), (32, .iload_n 1, 1, 0), (33, .iaload, 1, 0), (34, .istore_n 3, 1, 0), (35, .aload_n 0, 1, 0), (36, .getfield 10, 3, 576), (39, .getfield 81, 3, 512), (42, .iload_n 1, 1, 0), (43, .iload_n 2, 1, 0), (44, .iastore, 1, 0), (45, .aload_n 0, 1, 0), (46, .getfield 10, 3, 576), (49, .getfield 84, 3, 514), (52, .invokevirtual 88, 3, 16), (55, .iload_n 3, 1, 0), (56, .ireturn, 1, 0)]
def ip_cT_93 : List (Nat × Instr × Nat × Nat) := ip_cT_93_0
def ip_cT_94_0 : List (Nat × Instr × Nat × Nat) := [(0, .iload_n 1, 1, 0), (1, .iconst 0, 1, 0), (2, .bipush 127, 2, 0), (4, .invokestatic 65, 3, 129), (7, .ifCond .ne 10, 3, 17), (10, .aload_n 0, 1, 0), (11, .bipush (-2), 2, 0), (13, .invokevirtual 69, 3, 133), (16, .ireturn, 1, 0), (17, .aload_n 0, 1, 0), (18, .getfield 29, 3, 580), (21, .getfield 93, 3, 449), (24, .sipush 150, 3, 0), (27, .if_icmp .lt 10, 3, 37), (30, .aload_n 0, 1, 0), (31, .bipush (-4), 2, 0), (33, .invokevirtual 69, 3, 133), (36, .ireturn, 1, 0), (37, .aload_n 0, 1, 0), (38, .getfield 29, 3, 580), (41, .iload_n 1, 1, 0), (42, .invokevirtual 96, 3, 85), (45, .aload_n 0, 1, 0), (46, .getfield 29, 3, 580), (49, .getfield 93, 3, 449), (52, .ireturn, 1, 0)]
def ip_cT_94 : List (Nat × Instr × Nat × Nat) := ip_cT_94_0
def ip_cT_95_0 : List (Nat × Instr × Nat × Nat) := [(0, .aload_n 0, 1, 0), (1, .getfield 29, 3, 580), (4, .invokevirtual 99, 3, 84), (7, .ireturn, 1, 0)]
def ip_cT_95 : List (Nat × Instr × Nat × Nat) := ip_cT_95_0
def ip_cT_96_0 : List (Nat × Instr × Nat × Nat) := [(0, .aload_n 0, 1, 0), (1, .getfield 36, 3, 581), (4, .aload_n 0, 1, 0), (5, .getfield 29, 3, 580), (8, .invokevirtual 103, 3, 35), (11, .istore_n 1, 1, 0), (12, .iload_n 1, 1, 0), (13, .ifCond .le 17, 3, 30), (16, .aload_n 0, 1, 0), (17, .getfield 10, 3, 576), (20, .aload_n 0, 1, 0), (21, .getfield 36, 3, 581), (24, .getfield 107, 3, 192), (27, .invokevirtual 110, 3, 90), (30, .iload_n 1, 1, 0), (31, .ireturn, 1, 0)]
def ip_cT_96 : List (Nat × Instr × Nat × Nat) := ip_cT_96_0
def ip_cT_97_0 : List (Nat × Instr × Nat × Nat) := [(0, .aload_n 0, 1, 0), (1, .iload_n 1, 1, 0), (2, .invokevirtual 114, 3, 130), (5, .ifCond .eq 20, 3, 25), (8, .iload_n 2, 1, 0), (9, .invokestatic 118, 3, 131), (12, .ifCond .eq 13, 3, 25), (15, .iload_n 3, 1, 0), (16, .iconst 1, 1, 0), (17, .bipush 11, 2, 0), (19, .invokestatic 65, 3, 129), (22, .ifCond .ne 10, 3, 32), (25, .aload_n 0, 1, 0), (26, .bipush (-2), 2, 0), (28, .invokevirtual 69, 3, 133), (31, .ireturn, 1, 0), (32, .aload_n 0, 1, 0), (33, .getfield 10, 3, 576), (36, .getfield 121, 3, 513), (39, .iload_n 1, 1, 0), (40, .invokevirtual 125, 3, 71), (43, .ifCond .eq 7, 3, 50), (46, .iconst 1, 1, 0), (47, .goto 4, 3, 51), (50, .iconst 0, 1, 0), (51, .istore 4, 2, 0), (53, .aload_n 0, 1, 0), (54, .getfield 10, 3, 576), (57, .getfield 84, 3, 514), (60, .aload_n 0, 1, 0), (61, .getfield 10, 3, 576), (64, .getfield 121, 3, 513), (67, .invokevirtual 130, 3, 17), (70, .aload_n 0, 1, 0), (71, .getfield 10, 3, 576), (74, .getfield 121, 3, 513), (77, .iload_n 1, 1, 0), (78, .iload_n 2, 1, 0), (79, .iload_n 3, 1, 0), (80, .invokevirtual 134, 3, 72), (83, .iload 4, 2, 0), (85, .ireturn, 1, 0)]
def ip_cT_97 : List (Nat × Instr × Nat × Nat) := ip_cT_97_0
def ip_cT_98_0 : List (Nat × Instr × Nat × Nat) := [(0, .aload_n 0, 1, 0), (1, .iload_n 1, 1, 0), (2, .invokevirtual 114, 3, 130), (5, .ifCond .ne 10, 3, 15), (8, .aload_n 0, 1, 0), (9, .bipush (-2), 2, 0), (11, .invokevirtual 69, 3, 133), (14, .ireturn, 1, 0), (15, .aload_n 0, 1, 0), (16, .getfield 10, 3, 576), (19, .getfield 121, 3, 513), (22, .iload_n 1, 1, 0), (23, .invokevirtual 125, 3, 71), (26, .ifCond .ne 10, 3, 36), (29, .aload_n 0, 1, 0), (30, .bipush (-3), 2, 0), (32, .invokevirtual 69, 3, 133), (35, .ireturn, 1, 0), (36, .aload_n 0, 1, 0), (37, .getfield 10, 3, 576), (40, .getfield 121, 3, 513), (43, .iload_n 1, 1, 0), (44, .invokevirtual 138, 3, 66), (47, .istore_n 2, 1, 0), (48, .aload_n 0, 1, 0), (49, .getfield 10, 3, 576), (52, .getfield 84, 3, 514), (55, .aload_n 0, 1, 0), (56, .getfield 10, 3, 576), (59, .getfield 121, 3, 513), (62, .invokevirtual 130, 3, 17), (65, .aload_n 0, 1, 0), (66, .getfield 10, 3, 576), (69, .getfield 121, 3, 513), (72, .iload_n 1, 1, 0), (73, .invokevirtual 141, 3, 73), (76, .iload_n 2, 1, 0), (77, .ireturn, 1, 0)]
def ip_cT_98 : List (Nat × Instr × Nat × Nat) := ip_cT_98_0
def ip_cT_99_0 : List (Nat × Instr × Nat × Nat) := [(0, .aload_n 0, 1, 0), (1, .iload_n 1, 1, 0), (2, .invokevirtual 114, 3, 130), (5, .ifCond .eq 10, 3, 15), (8, .iload_n 2, 1, 0), (9, .invokestatic 118, 3, 131), (12, .ifCond .ne 10, 3, 22), (15, .aload_n 0, 1, 0), (16, .bipush (-2), 2, 0), (18, .invokevirtual 69, 3, 133), (21, .ireturn, 1, 0), (22, .aload_n 0, 1, 0), (23, .getfield 10, 3, 576), (26, .getfield 121, 3, 513), (29, .iload_n 1, 1, 0), (30, .invokevirtual 144, 3, 69), (33, .istore_n 3, 1, 0), (34, .aload_n 0, 1, 0), (35, .getfield 10, 3, 576), (38, .getfield 84, 3, 514), (41, .aload_n 0, 1, 0), (42, .getfield 10, 3, 576), (45, .getfield 121, 3, 513), (48, .invokevirtual 130, 3, 17), (51, .aload_n 0, 1, 0), (52, .getfield 10, 3, 576), (55, .getfield 121, 3, 513), (58, .iload_n 1, 1, 0), (59, .iload_n 2, 1, 0), (60, .iconst 0, 1, 0), (61, .invokevirtual 147, 3, 74), (64, .iload_n 3, 1, 0), (65, .ireturn, 1, 0)]
def ip_cT_99 : List (Nat × Instr × Nat × Nat) := ip_cT_99_0
def ip_cT_100_0 : List (Nat × Instr × Nat × Nat) := [(0, .iload_n 1, 1, 0), (1, .iconst 1, 1, 0), (2, .bipush 60, 2, 0), (4, .invokestatic 65, 3, 129), (7, .ifCond .ne 10, 3, 17), (10, .aload_n 0, 1, 0), (11, .bipush (-2), 2, 0), (13, .invokevirtual 69, 3, 133), (16, .ireturn, 1, 0), (17, .aload_n 0, 1, 0), (18, .getfield 10, 3, 576), (21, .getfield 84, 3, 514), (24, .aload_n 0, 1, 0), (25, .getfield 10, 3, 576), (28, .getfield 121, 3, 513), (31, .invokevirtual 130, 3, 17), (34, .aload_n 0, 1, 0), (35, .getfield 10, 3, 576), (38, .getfield 121, 3, 513), (41, .iload_n 1, 1, 0), (42, .invokevirtual 150, 3, 76), (45, .aload_n 0, 1, 0), (46, .invokevirtual 153, 3, 135), (49, .invokevirtual 157, 3, 31), (52, .ifCond .eq 7, 3, 59), (55, .iconst 1, 1, 0), (56, .goto 4, 3, 60), (59, .iconst 0, 1, 0), (60, .ireturn, 1, 0)]
def ip_cT_100 : List (Nat × Instr × Nat × Nat) := ip_cT_100_0
def ip_cT_101_0 : List (Nat × Instr × Nat × Nat) := [(0, .aload_n 0, 1, 0), (1, .getfield 10, 3, 576), (4, .getfield 84, 3, 514), (7, .getfield 163, 3, 65), (10, .ifCond .ne 10, 3, 20), (13, .aload_n 0, 1, 0), (14, .bipush (-3), 2, 0), (16, .invokevirtual 69, 3, 133), (19, .ireturn, 1, 0), (20, .aload_n 0, 1, 0), (21, .getfield 10, 3, 576), (24, .getfield 84, 3, 514), (27, .aload_n 0, 1, 0), (28, .getfield 10, 3, 576), (31, .getfield 121, 3, 513), (34, .invokevirtual 166, 3, 19), (37, .aload_n 0, 1, 0), (38, .getfield 10, 3, 576), (41, .getfield 121, 3, 513), (44, .invokevirtual 169, 3, 70), (47, .ireturn, 1, 0)]
def ip_cT_101 : List (Nat × Instr × Nat × Nat) := ip_cT_101_0
def ip_cT_102_0 : List (Nat × Instr × Nat × Nat) := [(0, .aload_n 0, 1, 0), (1, .iload_n 1, 1, 0), (2, .invokevirtual 114, 3, 130), (5, .ifCond .eq 12, 3, 17), (8, .iload_n 2, 1, 0), (9, .iconst 0, 1, 0), (10, .iconst 4, 1, 0), (11, .invokestatic 65, 3, 129), (14, .ifCond .ne 10, 3, 24), (17, .aload_n 0, 1, 0), (18, .bipush (-2), 2, 0), (20, .invokevirtual 69, 3, 133), (23, .ireturn, 1, 0), (24, .aload_n 0, 1, 0), (25, .iload_n 1, 1, 0), (26, .iload_n 2, 1, 0), (27, .invokevirtual 172, 3, 136), (30, .ireturn, 1, 0)]
def ip_cT_102 : List (Nat × Instr × Nat × Nat) := ip_cT_102_0
def ip_cT_103_0 : List (Nat × Instr × Nat × Nat) := [(0, .iload_n 1, 1, 0), (1, .iconst 0, 1, 0), (2, .bipush 11, 2, 0), (4, .invokestatic 65, 3, 129), (7, .ifCond .eq 12, 3, 19), (10, .iload_n 2, 1, 0), (11, .iconst 0, 1, 0), (12, .iconst 1, 1, 0), (13, .invokestatic 65, 3, 129), (16, .ifCond .ne 10, 3, 26), (19, .aload_n 0, 1, 0), (20, .bipush (-2), 2, 0), (22, .invokevirtual 69, 3, 133), (25, .ireturn, 1, 0), (26, .aload_n 0, 1, 0), (27, .invokevirtual 153, 3, 135), (30, .astore_n 3, 1, 0), (31, .iload_n 2, 1, 0), (32, .ifCond .ne 12, 3, 44), (35, .aload_n 3, 1, 0), (36, .getfield 176, 3, 130), (39, .iload_n 1, 1, 0), (40, .iaload, 1, 0), (41, .goto 9, 3, 50), (44, .aload_n 3, 1, 0), (45, .getfield 179, 3, 131), (48, .iload_n 1, 1, 0), (49, .iaload, 1, 0), (50, .ireturn, 1, 0)]
def ip_cT_103 : List (Nat × Instr × Nat × Nat) := ip_cT_103_0
def ip_cT_104_0 : List (Nat × Instr × Nat × Nat) := [(0, .iload_n 1, 1, 0), (1, .iconst 0, 1, 0), (2, .iconst 1, 1, 0), (3, .invokestatic 65, 3, 129), (6, .ifCond .ne 10, 3, 16), (9, .aload_n 0, 1, 0), (10, .bipush (-2), 2, 0), (12, .invokevirtual 69, 3, 133), (15, .ireturn, 1, 0), (16, .aload_n 0, 1, 0), (17, .invokevirtual 153, 3, 135), (20, .astore_n 2, 1, 0), (21, .aload_n 2, 1, 0), (22, .invokevirtual 182, 3, 30), (25, .istore_n 3, 1, 0), (26, .iload_n 1, 1, 0), (27, .ifCond .ne 7, 3, 34), (30, .iload_n 3, 1, 0), (31, .goto 8, 3, 39), (34, .aload_n 2, 1, 0), (35, .iload_n 3, 1, 0), (36, .invokevirtual 185, 3, 29), (39, .ireturn, 1, 0)]
def ip_cT_104 : List (Nat × Instr × Nat × Nat) := ip_cT_104_0
def ip_cT_105_0 : List (Nat × Instr × Nat × Nat) := [(0, .iload_n 1, 1, 0), (1, .iconst 0, 1, 0), (2, .iconst 1, 1, 0), (3, .invokestatic 65, 3, 129), (6, .ifCond .ne 10, 3, 16), (9, .aload_n 0, 1, 0), (10, .bipush (-2), 2, 0), (12, .invokevirtual 69, 3, 133), (15, .ireturn, 1, 0), (16, .aload_n 0, 1, 0), (17, .getfield 10, 3, 576), (20, .getfield 121, 3, 513), (23, .invokevirtual 188, 3, 81), (26, .istore_n 2, 1, 0), (27, .iload_n 1, 1, 0), (28, .iconst 1, 1, 0), (29, .if_icmp .ne 7, 3, 36), (32, .iload_n 2, 1, 0), (33, .goto 14, 3, 47), (36, .aload_n 0, 1, 0), (37, .getfield 10, 3, 576), (40, .getfield 121, 3, 513), (43, .iload_n 2, 1, 0), (44, .invokevirtual 191, 3, 80), (47, .ireturn, 1, 0)]
def ip_cT_105 : List (Nat × Instr × Nat × Nat) := ip_cT_105_0
def ip_cT_106_0 : List (Nat × Instr × Nat × Nat) := [(0, .aload_n 0, 1, 0), (1, .getfield 43, 3, 582), (4, .aload_n 0, 1, 0), (5, .getfield 10, 3, 576), (8, .invokevirtual 194, 3, 53), (11, .ireturn, 1, 0)]
def ip_cT_106 : List (Nat × Instr × Nat × Nat) := ip_cT_106_0
def ip_cT_107_0 : List (Nat × Instr × Nat × Nat) := [(0, .aload_n 0, 1, 0), (1, .getfield 43, 3, 582), (4, .aload_n 0, 1, 0), (5, .getfield 10, 3, 576), (8, .invokevirtual 198, 3, 54), (11, .ireturn, 1, 0)]
def ip_cT_107 : List (Nat × Instr × Nat × Nat) := ip_cT_107_0
def ip_cT_108_0 : List (Nat × Instr × Nat × Nat) := [(0, .aload_n 0, 1, 0), (1, .getfield 43, 3, 582), (4, .aload_n 0, 1, 0), (5, .getfield 10, 3, 576), (8, .invokevirtual 201, 3, 57), (11, .ireturn, 1, 0)]
def ip_cT_108 : List (Nat × Instr × Nat × Nat) := ip_cT_108_0
def ip_cT_109_0 : List (Nat × Instr × Nat × Nat) := [(0, .iconst 1, 1, 0), (1, .aload_n 0, 1, 0), (2, .getfield 10, 3, 576), (5, .getfield 73, 3, 518), (8, .ishl, 1, 0), (9, .iconst 1, 1, 0), (10, .isub, 1, 0), (11, .aload_n 0, 1, 0), (12, .getfield 10, 3, 576), (15, .getfield 121, 3, 513), (18, .invokevirtual 204, 3, 79), (21, .iconst (-1), 1, 0), (22, .ixor, 1, 0), (23, .iand, 1, 0), (24, .ireturn, 1, 0)]
def ip_cT_109 : List (Nat × Instr × Nat × Nat) := ip_cT_109_0
def ip_cT_110_0 : List (Nat × Instr × Nat × Nat) := [(0, .iload_n 1, 1, 0), (1, .iconst 1, 1, 0), (2, .bipush 11, 2, 0), (4, .invokestatic 65, 3, 129), (7, .ifCond .eq 11, 3, 18), (10, .aload_n 0, 1, 0), (11, .iload_n 2, 1, 0), (12, .invokevirtual 207, 3, 132), (15, .ifCond .ne 10, 3, 25), (18, .aload_n 0, 1, 0), (19, .bipush (-2), 2, 0), (21, .invokevirtual 69, 3, 133), (24, .ireturn, 1, 0), (25, .aload_n 0, 1, 0), (26, .getfield 10, 3, 576), (29, .getfield 210, 3, 515), (32, .getfield 214, 3, 257), (35, .iconst 4, 1, 0), (36, .if_icmp .lt 10, 3, 46), (39, .aload_n 0, 1, 0), (40, .bipush (-4), 2, 0), (42, .invokevirtual 69, 3, 133), (45, .ireturn, 1, 0), (46, .aload_n 0, 1, 0), (47, .getfield 10, 3, 576), (50, .getfield 210, 3, 515), (53, .iload_n 1, 1, 0), (54, .iload_n 2, 1, 0), (55, .iconst 0, 1, 0), (56, .iconst 0, 1, 0), (57, .invokevirtual 217, 3, 46), (60, .ireturn, 1, 0)]
def ip_cT_110 : List (Nat × Instr × Nat × Nat) := ip_cT_110_0
def ip_cT_111_0 : List (Nat × Instr × Nat × Nat) := [(0, .iload_n 1, 1, 0), (1, .iconst 0, 1, 0), (2, .iconst 2, 1, 0), (3, .invokestatic 65, 3, 129), (6, .ifCond .ne 10, 3, 16), (9, .aload_n 0, 1, 0), (10, .bipush (-2), 2, 0), (12, .invokevirtual 69, 3, 133), (15, .ireturn, 1, 0), (16, .aload_n 0, 1, 0), (17, .getfield 50, 3, 583), (20, .aload_n 0, 1, 0), (21, .getfield 10, 3, 576), (24, .aload_n 0, 1, 0), (25, .getfield 43, 3, 582), (28, .getfield 220, 3, 320), (31, .invokevirtual 224, 3, 2), (34, .iload_n 1, 1, 0), (35, .ifCond .ne 11, 3, 46), (38, .aload_n 0, 1, 0), (39, .getfield 50, 3, 583), (42, .getfield 228, 3, 3), (45, .ireturn, 1, 0), (46, .iload_n 1, 1, 0), (47, .iconst 1, 1, 0), (48, .if_icmp .ne 13, 3, 61), (51, .aload_n 0, 1, 0), (52, .getfield 50, 3, 583), (55, .invokevirtual 231, 3, 5), (58, .goto 10, 3, 68), (61, .aload_n 0, 1, 0), (62, .getfield 50, 3, 583), (65, .invokevirtual 234, 3, 6), (68, .ireturn, 1, 0)]
def ip_cT_111 : List (Nat × Instr × Nat × Nat) := ip_cT_111_0
def ip_cT_112_0 : List (Nat × Instr × Nat × Nat) := [(0, .aload_n 0, 1, 0), (1, .getfield 50, 3, 583), (4, .aload_n 0, 1, 0), (5, .getfield 10, 3, 576), (8, .aload_n 0, 1, 0), (9, .getfield 43, 3, 582), (12, .getfield 220, 3, 320), (15, .invokevirtual 224, 3, 2), (18, .aload_n 0, 1, 0), (19, .getfield 50, 3, 583), (22, .invokevirtual 237, 3, 7), (25, .ireturn, 1, 0)]
def ip_cT_112 : List (Nat × Instr × Nat × Nat) := ip_cT_112_0
def ip_cT_113_0 : List (Nat × Instr × Nat × Nat) := [(0, .aload_n 0, 1, 0), (1, .iload_n 1, 1, 0), (2, .invokevirtual 114, 3, 130), (5, .ifCond .eq 23, 3, 28), (8, .iload_n 2, 1, 0), (9, .iconst 1, 1, 0), (10, .bipush 6, 2, 0), (12, .invokestatic 65, 3, 129), (15, .ifCond .eq 13, 3, 28), (18, .iload_n 3, 1, 0), (19, .iconst 1, 1, 0), (20, .bipush 6, 2, 0), (22, .invokestatic 65, 3, 129), (25, .ifCond .ne 10, 3, 35), (28, .aload_n 0, 1, 0), (29, .bipush (-2), 2, 0), (31, .invokevirtual 69, 3, 133), (34, .ireturn, 1, 0), (35, .aload_n 0, 1, 0), (36, .getfield 10, 3, 576), (39, .getfield 240, 3, 516), (42, .getfield 214, 3, 257), (45, .bipush 6, 2, 0), (47, .if_icmp .lt 10, 3, 57), (50, .aload_n 0, 1, 0), (51, .bipush (-4), 2, 0), (53, .invokevirtual 69, 3, 133), (56, .ireturn, 1, 0), (57, .aload_n 0, 1, 0), (58, .getfield 10, 3, 576), (61, .getfield 240, 3, 516), (64, .iload_n 1, 1, 0), (65, .iload_n 2, 1, 0), (66, .iload_n 3, 1, 0), (67, .iconst 0, 1, 0), (68, .invokevirtual 217, 3, 46), (71, .ireturn, 1, 0)]
def ip_cT_113 : List (Nat × Instr × Nat × Nat) := ip_cT_113_0
def ip_cT_114_0 : List (Nat × Instr × Nat × Nat) := [(0, .aload_n 0, 1, 0), (1, .iload_n 1, 1, 0), (2, .invokevirtual 114, 3, 130), (5, .ifCond .eq 33, 3, 38), (8, .iload_n 2, 1, 0), (9, .iconst 0, 1, 0), (10, .bipush 99, 2, 0), (12, .invokestatic 65, 3, 129), (15, .ifCond .eq 23, 3, 38), (18, .iload_n 3, 1, 0), (19, .iconst 0, 1, 0), (20, .bipush 99, 2, 0), (22, .invokestatic 65, 3, 129), (25, .ifCond .eq 13, 3, 38), (28, .iload 4, 2, 0), (30, .iconst 0, 1, 0), (31, .iconst 1, 1, 0), (32, .invokestatic 65, 3, 129), (35, .ifCond .ne 10, 3, 45), (38, .aload_n 0, 1, 0), (39, .bipush (-2), 2, 0), (41, .invokevirtual 69, 3, 133), (44, .ireturn, 1, 0), (45, .aload_n 0, 1, 0), (46, .getfield 10, 3, 576), (49, .getfield 243, 3, 517), (52, .getfield 214, 3, 257), (55, .bipush 6, 2, 0), (57, .if_icmp .lt 10, 3, 67), (60, .aload_n 0, 1, 0), (61, .bipush (-4), 2, 0), (63, .invokevirtual 69, 3, 133), (66, .ireturn, 1, 0), (67, .aload_n 0, 1, 0), (68, .getfield 10, 3, 576), (71, .getfield 243, 3, 517), (74, .iload_n 1, 1, 0), (75, .iload_n 2, 1, 0), (76, .iload_n 3, 1, 0), (77, .iload 4, 2, 0), (79, .invokevirtual 217, 3, 46), (82, .ireturn, 1, 0)]
def ip_cT_114 : List (Nat × Instr × Nat × Nat) := ip_cT_114_0
def ip_cT_115_0 : List (Nat × Instr × Nat × Nat) := [(0, .iload_n 1, 1, 0), (1, .iconst 0, 1, 0), (2, .iconst 2, 1, 0), (3, .invokestatic 65, 3, 129), (6, .ifCond .ne 10, 3, 16), (9, .aload_n 0, 1, 0), (10, .bipush (-2), 2, 0), (12, .invokevirtual 69, 3, 133), (15, .ireturn, 1, 0), (16, .iload_n 1, 1, 0), (17, .ifCond .ne 13, 3, 30), (20, .aload_n 0, 1, 0), (21, .getfield 10, 3, 576), (24, .getfield 210, 3, 515), (27, .goto 25, 3, 52), (30, .iload_n 1, 1, 0), (31, .iconst 1, 1, 0), (32, .if_icmp .ne 13, 3, 45), (35, .aload_n 0, 1, 0), (36, .getfield 10, 3, 576), (39, .getfield 240, 3, 516), (42, .goto 10, 3, 52), (45, .aload_n 0, 1, 0), (46, .getfield 10, 3, 576), (49, .getfield 243, 3, 517), (52, .astore_n 2, 1, 0), (53, .aload_n 2, 1, 0), (54, .invokevirtual 246, 3, 49), (57, .ireturn, 1, 0)]
def ip_cT_115 : List (Nat × Instr × Nat × Nat) := ip_cT_115_0
def ip_cT_116_0 : List (Nat × Instr × Nat × Nat) := [(0, .aload_n 0, 1, 0), (1, .iload_n 1, 1, 0), (2, .invokevirtual 114, 3, 130), (5, .ifCond .eq 17, 3, 22), (8, .aload_n 0, 1, 0), (9, .getfield 10, 3, 576), (12, .getfield 240, 3, 516), (15, .iload_n 1, 1, 0), (16, .invokestatic 249, 3, 9), (19, .goto 9, 3, 28), (22, .aload_n 0, 1, 0), (23, .bipush (-2), 2, 0), (25, .invokevirtual 69, 3, 133), (28, .ireturn, 1, 0)]
def ip_cT_116 : List (Nat × Instr × Nat × Nat) := ip_cT_116_0
def ip_cT_117_0 : List (Nat × Instr × Nat × Nat) := [(0, .aload_n 0, 1, 0), (1, .iload_n 1, 1, 0), (2, .invokevirtual 114, 3, 130), (5, .ifCond .eq 24, 3, 29), (8, .aload_n 0, 1, 0), (9, .getfield 50, 3, 583), (12, .aload_n 0, 1, 0), (13, .getfield 10, 3, 576), (16, .getfield 240, 3, 516), (19, .iload_n 1, 1, 0), (20, .invokestatic 249, 3, 9), (23, .invokevirtual 253, 3, 10), (26, .goto 9, 3, 35), (29, .aload_n 0, 1, 0), (30, .bipush (-2), 2, 0), (32, .invokevirtual 69, 3, 133), (35, .ireturn, 1, 0)]
def ip_cT_117 : List (Nat × Instr × Nat × Nat) := ip_cT_117_0
def ip_cT_118_0 : List (Nat × Instr × Nat × Nat) := [(0, .aload_n 0, 1, 0), (1, .iload_n 1, 1, 0), (2, .invokevirtual 114, 3, 130), (5, .ifCond .eq 17, 3, 22), (8, .aload_n 0, 1, 0), (9, .getfield 10, 3, 576), (12, .getfield 243, 3, 517), (15, .iload_n 1, 1, 0), (16, .invokestatic 256, 3, 12), (19, .goto 9, 3, 28), (22, .aload_n 0, 1, 0), (23, .bipush (-2), 2, 0), (25, .invokevirtual 69, 3, 133), (28, .ireturn, 1, 0)]
def ip_cT_118 : List (Nat × Instr × Nat × Nat) := ip_cT_118_0
def ip_cT_119_0 : List (Nat × Instr × Nat × Nat) := [(0, .aload_n 0, 1, 0), (1, .iload_n 1, 1, 0), (2, .invokevirtual 114, 3, 130), (5, .ifCond .eq 20, 3, 25), (8, .aload_n 0, 1, 0), (9, .getfield 10, 3, 576), (12, .getfield 243, 3, 517), (15, .iload_n 1, 1, 0), (16, .invokestatic 256, 3, 12), (19, .invokestatic 259, 3, 13), (22, .goto 9, 3, 31), (25, .aload_n 0, 1, 0), (26, .bipush (-2), 2, 0), (28, .invokevirtual 69, 3, 133), (31, .ireturn, 1, 0)]
def ip_cT_119 : List (Nat × Instr × Nat × Nat) := ip_cT_119_0
def ip_cT_120_0 : List (Nat × Instr × Nat × Nat) := [(0, .aload_n 0, 1, 0), (1, .iload_n 1, 1, 0), (2, .invokevirtual 114, 3, 130), (5, .ifCond .eq 16, 3, 21), (8, .aload_n 0, 1, 0), (9, .iload_n 2, 1, 0), (10, .invokevirtual 114, 3, 130), (13, .ifCond .eq 8, 3, 21), (16, .iload_n 1, 1, 0), (17, .iload_n 2, 1, 0), (18, .if_icmp .ne 10, 3, 28), (21, .aload_n 0, 1, 0), (22, .bipush (-2), 2, 0), (24, .invokevirtual 69, 3, 133), (27, .ireturn, 1, 0), (28, .aload_n 0, 1, 0), (29, .getfield 10, 3, 576), (32, .getfield 121, 3, 513), (35, .iload_n 1, 1, 0), (36, .invokevirtual 125, 3, 71), (39, .ifCond .eq 17, 3, 56), (42, .aload_n 0, 1, 0), (43, .getfield 10, 3, 576), (46, .getfield 121, 3, 513), (49, .iload_n 2, 1, 0), (50, .invokevirtual 125, 3, 71), (53, .ifCond .ne 10, 3, 63), (56, .aload_n 0, 1, 0), (57, .bipush (-3), 2, 0), (59, .invokevirtual 69, 3, 133), (62, .ireturn, 1, 0), (63, .aload_n 0, 1, 0), (64, .getfield 43, 3, 582), (67, .aload_n 0, 1, 0), (68, .getfield 10, 3, 576), (71, .iload_n 1, 1, 0), (72, .iload_n 2, 1, 0), (73, .invokevirtual 262, 3, 59), (76, .ireturn, 1, 0)]
def ip_cT_120 : List (Nat × Instr × Nat × Nat) := ip_cT_120_0
def ip_cT_121_0 : List (Nat × Instr × Nat × Nat) := [(0, .iload_n 1, 1, 0), (1, .iconst 0, 1, 0), (2, .bipush 10, 2, 0), (4, .invokestatic 65, 3, 129), (7, .ifCond .ne 10, 3, 17), (10, .aload_n 0, 1, 0), (11, .bipush (-2), 2, 0), (13, .invokevirtual 69, 3, 133), (16, .ireturn, 1, 0), (17, .ldc2_w 266, 3, 7), (20, .aload_n 0, 1, 0), (21, .getfield 10, 3, 576), (24, .getfield 121, 3, 513), (27, .invokevirtual 204, 3, 79), (30, .invokestatic 268, 3, 236), (33, .invokestatic 273, 3, 138), (36, .lstore_n 2, 1, 0), (37, .aload_n 0, 1, 0), (38, .getfield 43, 3, 582), (41, .aload_n 0, 1, 0), (42, .getfield 10, 3, 576), (45, .iload_n 1, 1, 0), (46, .invokevirtual 277, 3, 58), (49, .lstore 4, 2, 0), (51, .lload_n 2, 1, 0), (52, .lload 4, 2, 0), (54, .invokestatic 281, 3, 139), (57, .lstore 6, 2, 0), (59, .aload_n 0, 1, 0), (60, .lload 6, 2, 0), (62, .lconst 0, 1, 0), (63, .lcmp, 1, 0), (64, .ifCond .le 11, 3, 75), (67, .lload 4, 2, 0), (69, .lload 6, 2, 0), (71, .ldiv, 1, 0), (72, .goto 5, 3, 77), (75, .lload 4, 2, 0), (77, .putfield 58, 3, 585), (80, .aload_n 0, 1, 0), (81, .lload 6, 2, 0), (83, .lconst 0, 1, 0), (84, .lcmp, 1, 0), (85, .ifCond .le 10, 3, 95), (88, .lload_n 2, 1, 0), (89, .lload 6, 2, 0), (91, .ldiv, 1, 0), (92, .goto 4, 3, 96), (95, .lload_n 2, 1, 0), (96, .putfield 62, 3, 586)]
def ip_cT_121_1 : List (Nat × Instr × Nat × Nat) := [(99, .iconst 1, 1, 0), (100, .ireturn, 1, 0)]
def ip_cT_121 : List (Nat × Instr × Nat × Nat) := ip_cT_121_0 ++ ip_cT_121_1
def ip_cT_122_0 : List (Nat × Instr × Nat × Nat) := [(0, .iload_n 1, 1, 0), (1, .iconst 0, 1, 0), (2, .ldc_w 285, 3, 0), (5, .invokestatic 65, 3, 129), (8, .ifCond .eq 13, 3, 21), (11, .iload_n 2, 1, 0), (12, .iconst 0, 1, 0), (13, .bipush 60, 2, 0), (15, .invokestatic 65, 3, 129), (18, .ifCond .ne 10, 3, 28), (21, .aload_n 0, 1, 0), (22, .bipush (-2), 2, 0), (24, .invokevirtual 69, 3, 133), (27, .ireturn, 1, 0), (28, .aload_n 0, 1, 0), (29, .getfield 43, 3, 582), (32, .aload_n 0, 1, 0), (33, .getfield 10, 3, 576), (36, .iload_n 1, 1, 0), (37, .iload_n 2, 1, 0), (38, .invokevirtual 286, 3, 60), (41, .ireturn, 1, 0)]
def ip_cT_122 : List (Nat × Instr × Nat × Nat) := ip_cT_122_0
def ip_cT_123_0 : List (Nat × Instr × Nat × Nat) := [(0, .iload_n 1, 1, 0), (1, .iconst 0, 1, 0), (2, .iconst 1, 1, 0), (3, .invokestatic 65, 3, 129), (6, .ifCond .ne 11, 3, 17), (9, .aload_n 0, 1, 0), (10, .bipush (-2), 2, 0), (12, .invokevirtual 69, 3, 133), (15, .i2l, 1, 0), (16, .lreturn, 1, 0), (17, .iload_n 1, 1, 0), (18, .ifCond .ne 10, 3, 28), (21, .aload_n 0, 1, 0), (22, .getfield 58, 3, 585), (25, .goto 7, 3, 32), (28, .aload_n 0, 1, 0), (29, .getfield 62, 3, 586), (32, .lreturn, 1, 0)]
def ip_cT_123 : List (Nat × Instr × Nat × Nat) := ip_cT_123_0
def ip_cT_124_0 : List (Nat × Instr × Nat × Nat) := [(0, .iload_n 1, 1, 0), (1, .iconst 0, 1, 0), (2, .iconst 1, 1, 0), (3, .invokestatic 65, 3, 129), (6, .ifCond .ne 10, 3, 16), (9, .aload_n 0, 1, 0), (10, .bipush (-2), 2, 0), (12, .invokevirtual 69, 3, 133), (15, .ireturn, 1, 0), (16, .aload_n 0, 1, 0), (17, .getfield 22, 3, 579), (20, .iload_n 1, 1, 0), (21, .iconst 1, 1, 0), (22, .bastore, 1, 0), (23, .aload_n 0, 1, 0), (24, .iload_n 1, 1, 0), (25, .invokevirtual 289, 3, 134), (28, .aload_n 0, 1, 0), (29, .getfield 10, 3, 576), (32, .invokevirtual 110, 3, 90), (35, .iconst 1, 1, 0), (36, .ireturn, 1, 0)]
def ip_cT_124 : List (Nat × Instr × Nat × Nat) := ip_cT_124_0
def ip_cT_125_0 : List (Nat × Instr × Nat × Nat) := [(0, .iload_n 1, 1, 0), (1, .iconst 0, 1, 0), (2, .iconst 1, 1, 0), (3, .invokestatic 65, 3, 129), (6, .ifCond .ne 10, 3, 16), (9, .aload_n 0, 1, 0), (10, .bipush (-2), 2, 0), (12, .invokevirtual 69, 3, 133), (15, .ireturn, 1, 0), (16, .aload_n 0, 1, 0), (17, .getfield 22, 3, 579), (20, .iload_n 1, 1, 0), (21, .baload, 1, 0), (22, .ifCond .ne 10, 3, 32), (25, .aload_n 0, 1, 0), (26, .bipush (-3), 2, 0), (28, .invokevirtual 69, 3, 133), (31, .ireturn, 1, 0), (32, .aload_n 0, 1, 0), (33, .getfield 10, 3, 576), (36, .aload_n 0, 1, 0), (37, .iload_n 1, 1, 0), (38, .invokevirtual 289, 3, 134), (41, .invokevirtual 110, 3, 90), (44, .iconst 1, 1, 0), (45, .ireturn, 1, 0)]
def ip_cT_125 : List (Nat × Instr × Nat × Nat) := ip_cT_125_0
def ip_cT_126_0 : List (Nat × Instr × Nat × Nat) := [(0, .iload_n 1, 1, 0), (1, .iconst 0, 1, 0), (2, .iconst 2, 1, 0), (3, .invokestatic 65, 3, 129), (6, .ifCond .ne 12, 3, 18), (9, .aload_n 0, 1, 0), (10, .bipush (-2), 2, 0), (12, .invokevirtual 69, 3, 133), (15, .pop, 1, 0), (16, .iconst (-1), 1, 0), (17, .ireturn, 1, 0), (18, .aload_n 0, 1, 0), (19, .getfield 54, 3, 584), (22, .iload_n 1, 1, 0), (23, .iaload, 1, 0), (24, .ireturn, 1, 0)]
def ip_cT_126 : List (Nat × Instr × Nat × Nat) := ip_cT_126_0
def ip_cT_127_0 : List (Nat × Instr × Nat × Nat) := [(0, .iload_n 1, 1, 0), (1, .iconst 0, 1, 0), (2, .bipush 9, 2, 0), (4, .invokestatic 65, 3, 129), (7, .ifCond .eq 11, 3, 18), (10, .aload_n 0, 1, 0), (11, .iload_n 1, 1, 0), (12, .invokevirtual 293, 3, 137), (15, .goto 9, 3, 24), (18, .aload_n 0, 1, 0), (19, .bipush (-2), 2, 0), (21, .invokevirtual 69, 3, 133), (24, .ireturn, 1, 0)]
def ip_cT_127 : List (Nat × Instr × Nat × Nat) := ip_cT_127_0
def ip_cT_128_0 : List (Nat × Instr × Nat × Nat) := [(0, .ldc2_w 296, 3, 8), (3, .lstore_n 1, 1, 0), (4, .iconst 0, 1, 0), (5, .istore_n 3, 1, 0), (6, .iload_n 3, 1, 0), (7, .bipush 9, 2, 0), (9, .if_icmp .gt 22, 3, 31), (12, .ldc2_w 298, 3, 9), (15, .lload_n 1, 1, 0), (16, .lmul, 1, 0), (17, .aload_n 0, 1, 0), (18, .iload_n 3, 1, 0), (19, .invokevirtual 293, 3, 137), (22, .i2l, 1, 0), (23, .ladd, 1, 0), (24, .lstore_n 1, 1, 0), (25, .iinc 3 1, 3, 0), (28, .goto (-22), 3, 6), (31, .iconst 0, 1, 0), (32, .istore_n 3, 1, 0), (33, .iload_n 3, 1, 0), (34, .bipush 6, 2, 0), (36, .if_icmp .ge 26, 3, 62), (39, .ldc2_w 298, 3, 9), (42, .lload_n 1, 1, 0), (43, .lmul, 1, 0), (44, .aload_n 0, 1, 0), (45, .getfield 10, 3, 576), (48, .getfield 81, 3, 512), (51, .iload_n 3, 1, 0), (52, .iaload, 1, 0), (53, .i2l, 1, 0), (54, .ladd, 1, 0), (55, .lstore_n 1, 1, 0), (56, .iinc 3 1, 3, 0), (59, .goto (-26), 3, 33), (62, .iconst 0, 1, 0), (63, .istore_n 3, 1, 0), (64, .iload_n 3, 1, 0), (65, .aload_n 0, 1, 0), (66, .getfield 10, 3, 576), (69, .getfield 73, 3, 518), (72, .if_icmp .ge 39, 3, 111), (75, .iconst 0, 1, 0), (76, .istore 4, 2, 0), (78, .iload 4, 2, 0), (80, .iconst 3, 1, 0), (81, .if_icmp .gt 24, 3, 105), (84, .ldc2_w 298, 3, 9), (87, .lload_n 1, 1, 0)]
def ip_cT_128_1 : List (Nat × Instr × Nat × Nat) := [(88, .lmul, 1, 0), (89, .aload_n 0, 1, 0), (90, .iload_n 3, 1, 0), (91, .iload 4, 2, 0), (93, .invokevirtual 172, 3, 136), (96, .i2l, 1, 0), (97, .ladd, 1, 0), (98, .lstore_n 1, 1, 0), (99, .iinc 4 1, 3, 0), (102, .goto (-24), 3, 78), (105, .iinc 3 1, 3, 0), (108, .goto (-44), 3, 64), (111, .aload_n 0, 1, 0), (112, .getfield 10, 3, 576), (115, .getfield 210, 3, 515), (118, .lload_n 1, 1, 0), (119, .iconst 2, 1, 0), (120, .invokevirtual 300, 3, 48), (123, .lstore_n 1, 1, 0), (124, .aload_n 0, 1, 0), (125, .getfield 10, 3, 576), (128, .getfield 240, 3, 516), (131, .lload_n 1, 1, 0), (132, .iconst 3, 1, 0), (133, .invokevirtual 300, 3, 48), (136, .lstore_n 1, 1, 0), (137, .aload_n 0, 1, 0), (138, .getfield 10, 3, 576), (141, .getfield 243, 3, 517), (144, .lload_n 1, 1, 0), (145, .iconst 4, 1, 0), (146, .invokevirtual 300, 3, 48), (149, .lstore_n 1, 1, 0), (150, .ldc2_w 298, 3, 9), (153, .lload_n 1, 1, 0), (154, .lmul, 1, 0), (155, .aload_n 0, 1, 0), (156, .getfield 58, 3, 585), (159, .ladd, 1, 0), (160, .lstore_n 1, 1, 0), (161, .ldc2_w 298, 3, 9), (164, .lload_n 1, 1, 0), (165, .lmul, 1, 0), (166, .aload_n 0, 1, 0), (167, .getfield 62, 3, 586), (170, .ladd, 1, 0), (171, .lreturn, 1, 0)]
def ip_cT_128 : List (Nat × Instr × Nat × Nat) := ip_cT_128_0 ++ ip_cT_128_1
def ip_cT_129_0 : List (Nat × Instr × Nat × Nat) := [(0, .iload_n 0, 1, 0), (1, .iload_n 1, 1, 0), (2, .if_icmp .lt 12, 3, 14), (5, .iload_n 0, 1, 0), (6, .iload_n 2, 1, 0), (7, .if_icmp .gt 7, 3, 14), (10, .iconst 1, 1, 0), (11, .goto 4, 3, 15), (14, .iconst 0, 1, 0), (15, .ireturn, 1, 0)]
def ip_cT_129 : List (Nat × Instr × Nat × Nat) := ip_cT_129_0
def ip_cT_130_0 : List (Nat × Instr × Nat × Nat) := [(0, .iload_n 1, 1, 0), (1, .iconst 0, 1, 0), (2, .aload_n 0, 1, 0), (3, .getfield 10, 3, 576), (6, .getfield 73, 3, 518), (9, .iconst 1, 1, 0), (10, .isub, 1, 0), (11, .invokestatic 65, 3, 129), (14, .ireturn, 1, 0)]
def ip_cT_130 : List (Nat × Instr × Nat × Nat) := ip_cT_130_0
def ip_cT_131_0 : List (Nat × Instr × Nat × Nat) := [(0, .iload_n 0, 1, 0), (1, .iconst 0, 1, 0), (2, .iconst 5, 1, 0), (3, .invokestatic 65, 3, 129), (6, .ireturn, 1, 0)]
def ip_cT_131 : List (Nat × Instr × Nat × Nat) := ip_cT_131_0
def ip_cT_132_0 : List (Nat × Instr × Nat × Nat) := [(0, .iload_n 1, 1, 0), (1, .istore_n 2, 1, 0), (2, .iconst 0, 1, 0), (3, .istore_n 3, 1, 0), (4, .iconst 0, 1, 0), (5, .istore 4, 2, 0), (7, .iload 4, 2, 0), (9, .aload_n 0, 1, 0), (10, .getfield 10, 3, 576), (13, .getfield 73, 3, 518), (16, .if_icmp .ge 45, 3, 61), (19, .iload_n 2, 1, 0), (20, .bipush 10, 2, 0), (22, .irem, 1, 0), (23, .istore 5, 2, 0), (25, .iload 5, 2, 0), (27, .iconst 1, 1, 0), (28, .aload_n 0, 1, 0), (29, .getfield 10, 3, 576), (32, .getfield 73, 3, 518), (35, .invokestatic 65, 3, 129), (38, .ifCond .ne 5, 3, 43), (41, .iconst 0, 1, 0), (42, .ireturn, 1, 0), (43, .iload_n 3, 1, 0), (44, .iconst 1, 1, 0), (45, .iload 5, 2, 0), (47, .ishl, 1, 0), (48, .ior, 1, 0), (49, .istore_n 3, 1, 0), (50, .iload_n 2, 1, 0), (51, .bipush 10, 2, 0), (53, .idiv, 1, 0), (54, .istore_n 2, 1, 0), (55, .iinc 4 1, 3, 0), (58, .goto (-51), 3, 7), (61, .iload_n 2, 1, 0), (62, .ifCond .ne 21, 3, 83), (65, .iload_n 3, 1, 0), (66, .invokestatic 268, 3, 236), (69, .aload_n 0, 1, 0), (70, .getfield 10, 3, 576), (73, .getfield 73, 3, 518), (76, .if_icmp .ne 7, 3, 83), (79, .iconst 1, 1, 0), (80, .goto 4, 3, 84), (83, .iconst 0, 1, 0), (84, .ireturn, 1, 0)]
def ip_cT_132 : List (Nat × Instr × Nat × Nat) := ip_cT_132_0
def ip_cT_133_0 : List (Nat × Instr × Nat × Nat) := [(0, .bipush (-2), 2, 0), (2, .iload_n 1, 1, 0), (3, .isub, 1, 0), (4, .istore_n 2, 1, 0), (5, .iload_n 2, 1, 0), (6, .iconst 0, 1, 0), (7, .iconst 2, 1, 0), (8, .invokestatic 65, 3, 129), (11, .ifCond .eq 13, 3, 24), (14, .aload_n 0, 1, 0), (15, .getfield 54, 3, 584), (18, .iload_n 2, 1, 0), (19, .dup2, 1, 0), (20, .iaload, 1, 0), (21, .iconst 1, 1, 0), (22, .iadd, 1, 0), (23, .iastore, 1, 0), (24, .iload_n 1, 1, 0), (25, .ireturn, 1, 0)]
def ip_cT_133 : List (Nat × Instr × Nat × Nat) := ip_cT_133_0
def ip_cT_134_0 : List (Nat × Instr × Nat × Nat) := [(0, .iload_n 1, 1, 0), (1, .ifCond .ne 10, 3, 11), (4, .aload_n 0, 1, 0), (5, .getfield 16, 3, 577), (8, .goto 7, 3, 15), (11, .aload_n 0, 1, 0), (12, .getfield 19, 3, 578), (15, .areturn, 1, 0)]
def ip_cT_134 : List (Nat × Instr × Nat × Nat) := ip_cT_134_0
def ip_cT_135_0 : List (Nat × Instr × Nat × Nat) := [(0, .aload_n 0, 1, 0), (1, .getfield 43, 3, 582), (4, .getfield 220, 3, 320), (7, .astore_n 1, 1, 0), (8, .aload_n 1, 1, 0), (9, .aload_n 0, 1, 0), (10, .getfield 10, 3, 576), (13, .getfield 73, 3, 518), (16, .aload_n 0, 1, 0), (17, .getfield 10, 3, 576), (20, .getfield 81, 3, 512), (23, .invokevirtual 303, 3, 22), (26, .aload_n 1, 1, 0), (27, .aload_n 0, 1, 0), (28, .getfield 10, 3, 576), (31, .getfield 121, 3, 513), (34, .aload_n 0, 1, 0), (35, .getfield 10, 3, 576), (38, .getfield 121, 3, 513), (41, .invokevirtual 204, 3, 79), (44, .invokevirtual 307, 3, 25), (47, .aload_n 1, 1, 0), (48, .areturn, 1, 0)]
def ip_cT_135 : List (Nat × Instr × Nat × Nat) := ip_cT_135_0
def ip_cT_136_0 : List (Nat × Instr × Nat × Nat) := [(0, .iload_n 2, 1, 0), (1, .tableswitch 79 0 3 #[31, 43, 55, 67], 31, 0), (32, .aload_n 0, 1, 0), (33, .getfield 10, 3, 576), (36, .getfield 121, 3, 513), (39, .iload_n 1, 1, 0), (40, .invokevirtual 138, 3, 66), (43, .ireturn, 1, 0), (44, .aload_n 0, 1, 0), (45, .getfield 10, 3, 576), (48, .getfield 121, 3, 513), (51, .iload_n 1, 1, 0), (52, .invokevirtual 311, 3, 67), (55, .ireturn, 1, 0), (56, .aload_n 0, 1, 0), (57, .getfield 10, 3, 576), (60, .getfield 121, 3, 513), (63, .iload_n 1, 1, 0), (64, .invokevirtual 314, 3, 68), (67, .ireturn, 1, 0), (68, .aload_n 0, 1, 0), (69, .getfield 10, 3, 576), (72, .getfield 121, 3, 513), (75, .iload_n 1, 1, 0), (76, .invokevirtual 144, 3, 69), (79, .ireturn, 1, 0), (80, .aload_n 0, 1, 0), (81, .getfield 10, 3, 576), (84, .getfield 121, 3, 513), (87, .iload_n 1, 1, 0), (88, .invokevirtual 317, 3, 77), (91, .ifCond .eq 7, 3, 98), (94, .iconst 1, 1, 0), (95, .goto 4, 3, 99), (98, .iconst 0, 1, 0), (99, .ireturn, 1, 0)]
def ip_cT_136 : List (Nat × Instr × Nat × Nat) := ip_cT_136_0
def ip_cT_137_0 : List (Nat × Instr × Nat × Nat) := [(0, .iload_n 1, 1, 0), (1, .tableswitch 150 0 8 #[51, 59, 73, 87, 98, 106, 117, 128, 139], 51, 0), (52, .aload_n 0, 1, 0), (53, .getfield 10, 3, 576), (56, .getfield 73, 3, 518), (59, .ireturn, 1, 0), (60, .aload_n 0, 1, 0), (61, .getfield 10, 3, 576), (64, .getfield 121, 3, 513), (67, .invokevirtual 320, 3, 78), (70, .invokestatic 268, 3, 236), (73, .ireturn, 1, 0), (74, .aload_n 0, 1, 0), (75, .getfield 10, 3, 576), (78, .getfield 121, 3, 513), (81, .invokevirtual 204, 3, 79), (84, .invokestatic 268, 3, 236), (87, .ireturn, 1, 0), (88, .aload_n 0, 1, 0), (89, .getfield 10, 3, 576), (92, .getfield 121, 3, 513), (95, .invokevirtual 169, 3, 70), (98, .ireturn, 1, 0), (99, .aload_n 0, 1, 0), (100, .invokevirtual 153, 3, 135), (103, .invokevirtual 323, 3, 32), (106, .ireturn, 1, 0), (107, .aload_n 0, 1, 0), (108, .getfield 10, 3, 576), (111, .getfield 210, 3, 515), (114, .getfield 214, 3, 257), (117, .ireturn, 1, 0), (118, .aload_n 0, 1, 0), (119, .getfield 10, 3, 576), (122, .getfield 240, 3, 516), (125, .getfield 214, 3, 257), (128, .ireturn, 1, 0), (129, .aload_n 0, 1, 0), (130, .getfield 10, 3, 576), (133, .getfield 243, 3, 517), (136, .getfield 214, 3, 257), (139, .ireturn, 1, 0), (140, .aload_n 0, 1, 0), (141, .getfield 10, 3, 576), (144, .getfield 84, 3, 514), (147, .getfield 163, 3, 65), (150, .ireturn, 1, 0), (151, .aload_n 0, 1, 0), (152, .getfield 29, 3, 580), (155, .getfield 93, 3, 449)]
def ip_cT_137_1 : List (Nat × Instr × Nat × Nat) := [(158, .ireturn, 1, 0)]
def ip_cT_137 : List (Nat × Instr × Nat × Nat) := ip_cT_137_0 ++ ip_cT_137_1
def ip_cT_138_0 : List (Nat × Instr × Nat × Nat) := [(0, .lconst 1, 1, 0), (1, .lstore_n 3, 1, 0), (2, .iconst 0, 1, 0), (3, .istore 5, 2, 0), (5, .iload 5, 2, 0), (7, .iload_n 2, 1, 0), (8, .if_icmp .ge 13, 3, 21), (11, .lload_n 3, 1, 0), (12, .lload_n 0, 1, 0), (13, .lmul, 1, 0), (14, .lstore_n 3, 1, 0), (15, .iinc 5 1, 3, 0), (18, .goto (-13), 3, 5), (21, .lload_n 3, 1, 0), (22, .lreturn, 1, 0)]
def ip_cT_138 : List (Nat × Instr × Nat × Nat) := ip_cT_138_0
def ip_cT_139_0 : List (Nat × Instr × Nat × Nat) := [(0, .lload_n 0, 1, 0), (1, .lstore 4, 2, 0), (3, .lload_n 2, 1, 0), (4, .lstore 6, 2, 0), (6, .iconst 0, 1, 0), (7, .istore 8, 2, 0), (9, .iload 8, 2, 0), (11, .sipush 1000, 3, 0), (14, .if_icmp .ge 31, 3, 45), (17, .lload 6, 2, 0), (19, .lconst 0, 1, 0), (20, .lcmp, 1, 0), (21, .ifCond .eq 24, 3, 45), (24, .lload 4, 2, 0), (26, .lload 6, 2, 0), (28, .lrem, 1, 0), (29, .lstore 9, 2, 0), (31, .lload 6, 2, 0), (33, .lstore 4, 2, 0), (35, .lload 9, 2, 0), (37, .lstore 6, 2, 0), (39, .iinc 8 1, 3, 0), (42, .goto (-33), 3, 9), (45, .lload 4, 2, 0), (47, .lreturn, 1, 0)]
def ip_cT_139 : List (Nat × Instr × Nat × Nat) := ip_cT_139_0
def ip_cT_140_0 : List (Nat × Instr × Nat × Nat) := [(0, .aload_n 0, 1, 0), (1, .getfield 1, 3, 640), (4, .iconst 0, 1, 0), (5, .dup2, 1, 0), (6, .iaload, 1, 0), (7, .iconst 1, 1, 0), (8, .iadd, 1, 0), (9, .iastore, 1, 0), (10, .bipush (-2), 2, 0), (12, .ireturn, 1, 0)]
def ip_cT_140 : List (Nat × Instr × Nat × Nat) := ip_cT_140_0
def ip_cT_141_0 : List (Nat × Instr × Nat × Nat) := [(0, .aload_n 0, 1, 0), (1, .getfield 1, 3, 640), (4, .iconst 1, 1, 0), (5, .dup2, 1, 0), (6, .iaload, 1, 0), (7, .iconst 1, 1, 0), (8, .iadd, 1, 0), (9, .iastore, 1, 0), (10, .bipush (-3), 2, 0), (12, .ireturn, 1, 0)]
def ip_cT_141 : List (Nat × Instr × Nat × Nat) := ip_cT_141_0
def ip_cT_142_0 : List (Nat × Instr × Nat × Nat) := [(0, .aload_n 0, 1, 0), (1, .getfield 1, 3, 640), (4, .iconst 2, 1, 0), (5, .dup2, 1, 0), (6, .iaload, 1, 0), (7, .iconst 1, 1, 0), (8, .iadd, 1, 0), (9, .iastore, 1, 0), (10, .bipush (-4), 2, 0), (12, .ireturn, 1, 0)]
def ip_cT_142 : List (Nat × Instr × Nat × Nat) := ip_cT_142_0
def ip_cT_143_0 : List (Nat × Instr × Nat × Nat) := [(0, .iload_n 0, 1, 0), (1, .iload_n 1, 1, 0), (2, .if_icmp .lt 12, 3, 14), (5, .iload_n 0, 1, 0), (6, .iload_n 2, 1, 0), (7, .if_icmp .gt 7, 3, 14), (10, .iconst 1, 1, 0), (11, .goto 4, 3, 15), (14, .iconst 0, 1, 0), (15, .ireturn, 1, 0)]
def ip_cT_143 : List (Nat × Instr × Nat × Nat) := ip_cT_143_0
def ip_cT_144_0 : List (Nat × Instr × Nat × Nat) := [(0, .iload_n 0, 1, 0), (1, .iload_n 1, 1, 0), (2, .ishr, 1, 0), (3, .iconst 1, 1, 0), (4, .iand, 1, 0), (5, .iconst 1, 1, 0), (6, .if_icmp .ne 7, 3, 13), (9, .iconst 1, 1, 0), (10, .goto 4, 3, 14), (13, .iconst 0, 1, 0), (14, .ireturn, 1, 0)]
def ip_cT_144 : List (Nat × Instr × Nat × Nat) := ip_cT_144_0
def ip_cT_145_0 : List (Nat × Instr × Nat × Nat) := [(0, .iload_n 0, 1, 0), (1, .iload_n 1, 1, 0), (2, .if_icmp .ge 7, 3, 9), (5, .iload_n 0, 1, 0), (6, .goto 4, 3, 10), (9, .iload_n 1, 1, 0), (10, .ireturn, 1, 0)]
def ip_cT_145 : List (Nat × Instr × Nat × Nat) := ip_cT_145_0
def ip_cT_146_0 : List (Nat × Instr × Nat × Nat) := [(0, .iload_n 0, 1, 0), (1, .iload_n 1, 1, 0), (2, .if_icmp .le 7, 3, 9), (5, .iload_n 0, 1, 0), (6, .goto 4, 3, 10), (9, .iload_n 1, 1, 0), (10, .ireturn, 1, 0)]
def ip_cT_146 : List (Nat × Instr × Nat × Nat) := ip_cT_146_0
def ip_cT_147_0 : List (Nat × Instr × Nat × Nat) := [(0, .iconst 0, 1, 0), (1, .istore_n 1, 1, 0), (2, .iconst 0, 1, 0), (3, .istore_n 2, 1, 0), (4, .iload_n 2, 1, 0), (5, .bipush 6, 2, 0), (7, .if_icmp .ge 17, 3, 24), (10, .iload_n 1, 1, 0), (11, .iload_n 0, 1, 0), (12, .iload_n 2, 1, 0), (13, .ishr, 1, 0), (14, .iconst 1, 1, 0), (15, .iand, 1, 0), (16, .iadd, 1, 0), (17, .istore_n 1, 1, 0), (18, .iinc 2 1, 3, 0), (21, .goto (-17), 3, 4), (24, .iload_n 1, 1, 0), (25, .ireturn, 1, 0)]
def ip_cT_147 : List (Nat × Instr × Nat × Nat) := ip_cT_147_0
def ip_cT_148_0 : List (Nat × Instr × Nat × Nat) := [(0, .aload_n 0, 1, 0), (1, .invokespecial 7, 3, 9999), (4, .aload_n 0, 1, 0), (5, .iconst 3, 1, 0), (6, .newarray .int, 2, 0), (8, .putfield 1, 3, 640), (11, .aload_n 0, 1, 0), (12, .bipush 6, 2, 0), (14, .newarray .int, 2, 0), (16, .putfield 13, 3, 646), (19, .aload_n 0, 1, 0), (20, .bipush 6, 2, 0), (22, .newarray .int, 2, 0), (24, .putfield 16, 3, 647), (27, .aload_n 0, 1, 0), (28, .bipush 6, 2, 0), (30, .newarray .int, 2, 0), (32, .putfield 19, 3, 648), (35, .aload_n 0, 1, 0), (36, .bipush 6, 2, 0), (38, .newarray .int, 2, 0), (40, .putfield 22, 3, 649), (43, .aload_n 0, 1, 0), (44, .bipush 6, 2, 0), (46, .newarray .int, 2, 0), (48, .putfield 25, 3, 650), (51, .aload_n 0, 1, 0), (52, .bipush 8, 2, 0), (54, .newarray .int, 2, 0), (56, .putfield 28, 3, 651), (59, .aload_n 0, 1, 0), (60, .bipush 18, 2, 0), (62, .newarray .int, 2, 0), (64, .putfield 31, 3, 652), (67, .aload_n 0, 1, 0), (68, .bipush 24, 2, 0), (70, .newarray .int, 2, 0), (72, .putfield 34, 3, 653), (75, .aload_n 0, 1, 0), (76, .sipush 150, 3, 0), (79, .newarray .int, 2, 0), (81, .putfield 37, 3, 654), (84, .aload_n 0, 1, 0), (85, .sipush 300, 3, 0), (88, .newarray .int, 2, 0), (90, .putfield 40, 3, 658), (93, .aload_n 0, 1, 0), (94, .bipush 6, 2, 0), (96, .newarray .int, 2, 0), (98, .putfield 43, 3, 659)]
def ip_cT_148_1 : List (Nat × Instr × Nat × Nat) := [(101, .aload_n 0, 1, 0), (102, .bipush 12, 2, 0), (104, .newarray .int, 2, 0), (106, .putfield 46, 3, 660), (109, .aload_n 0, 1, 0), (110, .sipush 200, 3, 0), (113, .newarray .int, 2, 0), (115, .putfield 49, 3, 661), (118, .aload_n 0, 1, 0), (119, .bipush 25, 2, 0), (121, .newarray .int, 2, 0), (123, .putfield 52, 3, 663), (126, .aload_n 0, 1, 0), (127, .bipush 6, 2, 0), (129, .newarray .int, 2, 0), (131, .putfield 55, 3, 664), (134, .aload_n 0, 1, 0), (135, .bipush 64, 2, 0), (137, .newarray .int, 2, 0), (139, .putfield 58, 3, 665), (142, .aload_n 0, 1, 0), (143, .lconst 1, 1, 0), (144, .putfield 61, 3, 667), (147, .aload_n 0, 1, 0), (148, .sipush 600, 3, 0), (151, .newarray .int, 2, 0), (153, .putfield 65, 3, 668), (156, .aload_n 0, 1, 0), (157, .iconst 2, 1, 0), (158, .newarray .int, 2, 0), (160, .putfield 68, 3, 669), (163, .aload_n 0, 1, 0), (164, .iconst 5, 1, 0), (165, .invokevirtual 71, 3, 149), (168, .return_, 1, 0)]
def ip_cT_148 : List (Nat × Instr × Nat × Nat) := ip_cT_148_0 ++ ip_cT_148_1
def ip_cT_149_0 : List (Nat × Instr × Nat × Nat) := [(0, .aload_n 0, 1, 0), (1, .iload_n 1, 1, 0), (2, .putfield 75, 3, 641), (5, .aload_n 0, 1, 0), (6, .iconst 0, 1, 0), (7, .putfield 79, 3, 642), (10, .aload_n 0, 1, 0), (11, .iconst 0, 1, 0), (12, .putfield 82, 3, 643), (15, .aload_n 0, 1, 0), (16, .iconst 0, 1, 0), (17, .putfield 85, 3, 644), (20, .aload_n 0, 1, 0), (21, .iconst 0, 1, 0), (22, .putfield 88, 3, 645), (25, .aload_n 0, 1, 0), (26, .iconst 0, 1, 0), (27, .putfield 91, 3, 662), (30, .iconst 0, 1, 0), (31, .istore_n 2, 1, 0), (32, .iload_n 2, 1, 0), (33, .bipush 6, 2, 0), (35, .if_icmp .ge 44, 3, 79), (38, .aload_n 0, 1, 0), (39, .getfield 13, 3, 646), (42, .iload_n 2, 1, 0), (43, .iconst 0, 1, 0), (44, .iastore, 1, 0), (45, .aload_n 0, 1, 0), (46, .getfield 16, 3, 647), (49, .iload_n 2, 1, 0), (50, .iconst (-1), 1, 0), (51, .iastore, 1, 0), (52, .aload_n 0, 1, 0), (53, .getfield 19, 3, 648), (56, .iload_n 2, 1, 0), (57, .iconst (-1), 1, 0), (58, .iastore, 1, 0), (59, .aload_n 0, 1, 0), (60, .getfield 22, 3, 649), (63, .iload_n 2, 1, 0), (64, .iconst 0, 1, 0), (65, .iastore, 1, 0), (66, .aload_n 0, 1, 0), (67, .getfield 25, 3, 650), (70, .iload_n 2, 1, 0), (71, .iconst 0, 1, 0), (72, .iastore, 1, 0), (73, .iinc 2 1, 3, 0), (76, .goto (-44), 3, 32)]
def ip_cT_149_1 : List (Nat × Instr × Nat × Nat) := [(79, .return_, 1, 0)]
def ip_cT_149 : List (Nat × Instr × Nat × Nat) := ip_cT_149_0 ++ ip_cT_149_1
def ip_cT_150_0 : List (Nat × Instr × Nat × Nat) := [(0, .iload_n 1, 1, 0), (1, .iconst 0, 1, 0), (2, .aload_n 0, 1, 0), (3, .getfield 75, 3, 641), (6, .iconst 1, 1, 0), (7, .isub, 1, 0), (8, .invokestatic 94, 3, 143), (11, .ireturn, 1, 0)]
def ip_cT_150 : List (Nat × Instr × Nat × Nat) := ip_cT_150_0
def ip_cT_151_0 : List (Nat × Instr × Nat × Nat) := [(0, .iload_n 1, 1, 0), (1, .iconst 4, 1, 0), (2, .bipush 6, 2, 0), (4, .invokestatic 94, 3, 143), (7, .ifCond .ne 8, 3, 15), (10, .aload_n 0, 1, 0), (11, .invokevirtual 98, 3, 140), (14, .ireturn, 1, 0), (15, .aload_n 0, 1, 0), (16, .getfield 75, 3, 641), (19, .istore_n 2, 1, 0), (20, .aload_n 0, 1, 0), (21, .iload_n 1, 1, 0), (22, .invokevirtual 71, 3, 149), (25, .iload_n 2, 1, 0), (26, .ireturn, 1, 0)]
def ip_cT_151 : List (Nat × Instr × Nat × Nat) := ip_cT_151_0
def ip_cT_152_0 : List (Nat × Instr × Nat × Nat) := [(0, .iload_n 1, 1, 0), (1, .iconst 0, 1, 0), (2, .iconst 5, 1, 0), (3, .invokestatic 94, 3, 143), (6, .ifCond .eq 12, 3, 18), (9, .iload_n 2, 1, 0), (10, .iconst 0, 1, 0), (11, .iconst 3, 1, 0), (12, .invokestatic 94, 3, 143), (15, .ifCond .ne 8, 3, 23), (18, .aload_n 0, 1, 0), (19, .invokevirtual 98, 3, 140), (22, .ireturn, 1, 0), (23, .aload_n 0, 1, 0), (24, .getfield 13, 3, 646), (27, .iload_n 1, 1, 0), (28, .iaload, 1, 0), (29, .istore_n 3, 1, 0), (30, .aload_n 0, 1, 0), (31, .getfield 13, 3, 646), (34, .iload_n 1, 1, 0), (35, .iload_n 2, 1, 0), (36, .iastore, 1, 0), (37, .aload_n 0, 1, 0), (38, .iconst 0, 1, 0), (39, .putfield 91, 3, 662), (42, .iload_n 3, 1, 0), (43, .ireturn, 1, 0)]
def ip_cT_152 : List (Nat × Instr × Nat × Nat) := ip_cT_152_0
def ip_cT_153_0 : List (Nat × Instr × Nat × Nat) := [(0, .iload_n 1, 1, 0), (1, .iconst 0, 1, 0), (2, .bipush 127, 2, 0), (4, .invokestatic 94, 3, 143), (7, .ifCond .ne 8, 3, 15), (10, .aload_n 0, 1, 0), (11, .invokevirtual 98, 3, 140), (14, .ireturn, 1, 0), (15, .aload_n 0, 1, 0), (16, .getfield 102, 3, 655), (19, .sipush 150, 3, 0), (22, .if_icmp .ne 8, 3, 30), (25, .aload_n 0, 1, 0), (26, .invokevirtual 105, 3, 142), (29, .ireturn, 1, 0), (30, .aload_n 0, 1, 0), (31, .getfield 37, 3, 654), (34, .aload_n 0, 1, 0), (35, .getfield 102, 3, 655), (38, .iload_n 1, 1, 0), (39, .iastore, 1, 0), (40, .aload_n 0, 1, 0), (41, .dup, 1, 0), (42, .getfield 102, 3, 655), (45, .iconst 1, 1, 0), (46, .iadd, 1, 0), (47, .putfield 102, 3, 655), (50, .aload_n 0, 1, 0), (51, .getfield 102, 3, 655), (54, .ireturn, 1, 0)]
def ip_cT_153 : List (Nat × Instr × Nat × Nat) := ip_cT_153_0
def ip_cT_154_0 : List (Nat × Instr × Nat × Nat) := [(0, .aload_n 0, 1, 0), (1, .getfield 102, 3, 655), (4, .istore_n 1, 1, 0), (5, .aload_n 0, 1, 0), (6, .iconst 0, 1, 0), (7, .putfield 102, 3, 655), (10, .iload_n 1, 1, 0), (11, .ireturn, 1, 0)]
def ip_cT_154 : List (Nat × Instr × Nat × Nat) := ip_cT_154_0
def ip_cT_155_0 : List (Nat × Instr × Nat × Nat) := [(0, .aload_n 0, 1, 0), (1, .getfield 108, 3, 656), (4, .aload_n 0, 1, 0), (5, .getfield 102, 3, 655), (8, .if_icmp .ge 15, 3, 23), (11, .aload_n 0, 1, 0), (12, .getfield 37, 3, 654), (15, .aload_n 0, 1, 0), (16, .getfield 108, 3, 656), (19, .iaload, 1, 0), (20, .goto 4, 3, 24), (23, .iconst (-1), 1, 0), (24, .ireturn, 1, 0)]
def ip_cT_155 : List (Nat × Instr × Nat × Nat) := ip_cT_155_0
def ip_cT_156_0 : List (Nat × Instr × Nat × Nat) := [(0, .aload_n 0, 1, 0), (1, .invokevirtual 111, 3, 155), (4, .bipush 32, 2, 0), (6, .if_icmp .ne 16, 3, 22), (9, .aload_n 0, 1, 0), (10, .dup, 1, 0), (11, .getfield 108, 3, 656), (14, .iconst 1, 1, 0), (15, .iadd, 1, 0), (16, .putfield 108, 3, 656), (19, .goto (-19), 3, 0), (22, .return_, 1, 0)]
def ip_cT_156 : List (Nat × Instr × Nat × Nat) := ip_cT_156_0
def ip_cT_157_0 : List (Nat × Instr × Nat × Nat) := [(0, .iload_n 0, 1, 0), (1, .bipush 97, 2, 0), (3, .bipush 122, 2, 0), (5, .invokestatic 94, 3, 143), (8, .ireturn, 1, 0)]
def ip_cT_157 : List (Nat × Instr × Nat × Nat) := ip_cT_157_0
def ip_cT_158_0 : List (Nat × Instr × Nat × Nat) := [(0, .iload_n 0, 1, 0), (1, .bipush 48, 2, 0), (3, .bipush 57, 2, 0), (5, .invokestatic 94, 3, 143), (8, .ireturn, 1, 0)]
def ip_cT_158 : List (Nat × Instr × Nat × Nat) := ip_cT_158_0
def ip_cT_159_0 : List (Nat × Instr × Nat × Nat) := [(0, .iconst 0, 1, 0), (1, .istore_n 1, 1, 0), (2, .aload_n 0, 1, 0), (3, .getfield 108, 3, 656), (6, .iload_n 1, 1, 0), (7, .iadd, 1, 0), (8, .aload_n 0, 1, 0), (9, .getfield 102, 3, 655), (12, .if_icmp .ge 26, 3, 38), (15, .aload_n 0, 1, 0), (16, .getfield 37, 3, 654), (19, .aload_n 0, 1, 0), (20, .getfield 108, 3, 656), (23, .iload_n 1, 1, 0), (24, .iadd, 1, 0), (25, .iaload, 1, 0), (26, .invokestatic 114, 3, 157), (29, .ifCond .eq 9, 3, 38), (32, .iinc 1 1, 3, 0), (35, .goto (-33), 3, 2), (38, .iload_n 1, 1, 0), (39, .ireturn, 1, 0)]
def ip_cT_159 : List (Nat × Instr × Nat × Nat) := ip_cT_159_0
def ip_cT_160_0 : List (Nat × Instr × Nat × Nat) := [(0, .aload_n 0, 1, 0), (1, .getfield 37, 3, 654), (4, .aload_n 0, 1, 0), (5, .getfield 108, 3, 656), (8, .iload_n 1, 1, 0), (9, .iadd, 1, 0), (10, .iaload, 1, 0), (11, .ireturn, 1, 0)]
def ip_cT_160 : List (Nat × Instr × Nat × Nat) := ip_cT_160_0
def ip_cT_161_0 : List (Nat × Instr × Nat × Nat) := [(0, .aload_n 0, 1, 0), (1, .invokevirtual 118, 3, 159), (4, .istore_n 1, 1, 0), (5, .iload_n 1, 1, 0), (6, .iconst 4, 1, 0), (7, .if_icmp .ne 49, 3, 56), (10, .aload_n 0, 1, 0), (11, .iconst 0, 1, 0), (12, .invokevirtual 121, 3, 160), (15, .bipush 115, 2, 0), (17, .if_icmp .ne 37, 3, 54), (20, .aload_n 0, 1, 0), (21, .iconst 1, 1, 0), (22, .invokevirtual 121, 3, 160), (25, .bipush 108, 2, 0), (27, .if_icmp .ne 27, 3, 54), (30, .aload_n 0, 1, 0), (31, .iconst 2, 1, 0), (32, .invokevirtual 121, 3, 160), (35, .bipush 105, 2, 0), (37, .if_icmp .ne 17, 3, 54), (40, .aload_n 0, 1, 0), (41, .iconst 3, 1, 0), (42, .invokevirtual 121, 3, 160), (45, .bipush 112, 2, 0), (47, .if_icmp .ne 7, 3, 54), (50, .iconst 2, 1, 0), (51, .goto 4, 3, 55), (54, .iconst (-1), 1, 0), (55, .ireturn, 1, 0), (56, .iload_n 1, 1, 0), (57, .iconst 5, 1, 0), (58, .if_icmp .ne 111, 3, 169), (61, .aload_n 0, 1, 0), (62, .iconst 0, 1, 0), (63, .invokevirtual 121, 3, 160), (66, .bipush 116, 2, 0), (68, .if_icmp .ne 45, 3, 113), (71, .aload_n 0, 1, 0), (72, .iconst 1, 1, 0), (73, .invokevirtual 121, 3, 160), (76, .bipush 111, 2, 0), (78, .if_icmp .ne 35, 3, 113), (81, .aload_n 0, 1, 0), (82, .iconst 2, 1, 0), (83, .invokevirtual 121, 3, 160), (86, .bipush 119, 2, 0), (88, .if_icmp .ne 25, 3, 113), (91, .aload_n 0, 1, 0), (92, .iconst 3, 1, 0)]
def ip_cT_161_1 : List (Nat × Instr × Nat × Nat) := [(93, .invokevirtual 121, 3, 160), (96, .bipush 101, 2, 0), (98, .if_icmp .ne 15, 3, 113), (101, .aload_n 0, 1, 0), (102, .iconst 4, 1, 0), (103, .invokevirtual 121, 3, 160), (106, .bipush 114, 2, 0), (108, .if_icmp .ne 5, 3, 113), (111, .iconst 0, 1, 0), (112, .ireturn, 1, 0), (113, .aload_n 0, 1, 0), (114, .iconst 0, 1, 0), (115, .invokevirtual 121, 3, 160), (118, .bipush 121, 2, 0), (120, .if_icmp .ne 47, 3, 167), (123, .aload_n 0, 1, 0), (124, .iconst 1, 1, 0), (125, .invokevirtual 121, 3, 160), (128, .bipush 101, 2, 0), (130, .if_icmp .ne 37, 3, 167), (133, .aload_n 0, 1, 0), (134, .iconst 2, 1, 0), (135, .invokevirtual 121, 3, 160), (138, .bipush 97, 2, 0), (140, .if_icmp .ne 27, 3, 167), (143, .aload_n 0, 1, 0), (144, .iconst 3, 1, 0), (145, .invokevirtual 121, 3, 160), (148, .bipush 114, 2, 0), (150, .if_icmp .ne 17, 3, 167), (153, .aload_n 0, 1, 0), (154, .iconst 4, 1, 0), (155, .invokevirtual 121, 3, 160), (158, .bipush 115, 2, 0), (160, .if_icmp .ne 7, 3, 167), (163, .iconst 4, 1, 0), (164, .goto 4, 3, 168), (167, .iconst (-1), 1, 0), (168, .ireturn, 1, 0), (169, .iload_n 1, 1, 0), (170, .bipush 6, 2, 0), (172, .if_icmp .eq 5, 3, 177), (175, .iconst (-1), 1, 0), (176, .ireturn, 1, 0), (177, .aload_n 0, 1, 0), (178, .iconst 0, 1, 0), (179, .invokevirtual 121, 3, 160), (182, .bipush 109, 2, 0), (184, .if_icmp .ne 55, 3, 239), (187, .aload_n 0, 1, 0)]
def ip_cT_161_2 : List (Nat × Instr × Nat × Nat) := [(188, .iconst 1, 1, 0), (189, .invokevirtual 121, 3, 160), (192, .bipush 101, 2, 0), (194, .if_icmp .ne 45, 3, 239), (197, .aload_n 0, 1, 0), (198, .iconst 2, 1, 0), (199, .invokevirtual 121, 3, 160), (202, .bipush 116, 2, 0), (204, .if_icmp .ne 35, 3, 239), (207, .aload_n 0, 1, 0), (208, .iconst 3, 1, 0), (209, .invokevirtual 121, 3, 160), (212, .bipush 104, 2, 0), (214, .if_icmp .ne 25, 3, 239), (217, .aload_n 0, 1, 0), (218, .iconst 4, 1, 0), (219, .invokevirtual 121, 3, 160), (222, .bipush 111, 2, 0), (224, .if_icmp .ne 15, 3, 239), (227, .aload_n 0, 1, 0), (228, .iconst 5, 1, 0), (229, .invokevirtual 121, 3, 160), (232, .bipush 100, 2, 0), (234, .if_icmp .ne 5, 3, 239), (237, .iconst 1, 1, 0), (238, .ireturn, 1, 0), (239, .aload_n 0, 1, 0), (240, .iconst 0, 1, 0), (241, .invokevirtual 121, 3, 160), (244, .bipush 114, 2, 0), (246, .if_icmp .ne 57, 3, 303), (249, .aload_n 0, 1, 0), (250, .iconst 1, 1, 0), (251, .invokevirtual 121, 3, 160), (254, .bipush 105, 2, 0), (256, .if_icmp .ne 47, 3, 303), (259, .aload_n 0, 1, 0), (260, .iconst 2, 1, 0), (261, .invokevirtual 121, 3, 160), (264, .bipush 110, 2, 0), (266, .if_icmp .ne 37, 3, 303), (269, .aload_n 0, 1, 0), (270, .iconst 3, 1, 0), (271, .invokevirtual 121, 3, 160), (274, .bipush 103, 2, 0), (276, .if_icmp .ne 27, 3, 303), (279, .aload_n 0, 1, 0), (280, .iconst 4, 1, 0), (281, .invokevirtual 121, 3, 160), (284, .bipush 101, 2, 0)]
def ip_cT_161_3 : List (Nat × Instr × Nat × Nat) := [(286, .if_icmp .ne 17, 3, 303), (289, .aload_n 0, 1, 0), (290, .iconst 5, 1, 0), (291, .invokevirtual 121, 3, 160), (294, .bipush 114, 2, 0), (296, .if_icmp .ne 7, 3, 303), (299, .iconst 3, 1, 0), (300, .goto 4, 3, 304), (303, .iconst (-1), 1, 0), (304, .ireturn, 1, 0)]
def ip_cT_161 : List (Nat × Instr × Nat × Nat) := ip_cT_161_0 ++ ip_cT_161_1 ++ ip_cT_161_2 ++ ip_cT_161_3
def ip_cT_162_0 : List (Nat × Instr × Nat × Nat) := [(0, .aload_n 0, 1, 0), (1, .invokevirtual 125, 3, 156), (4, .iconst 0, 1, 0), (5, .istore_n 3, 1, 0), (6, .iconst 0, 1, 0), (7, .istore 4, 2, 0), (9, .aload_n 0, 1, 0), (10, .getfield 108, 3, 656), (13, .iload_n 3, 1, 0), (14, .iadd, 1, 0), (15, .aload_n 0, 1, 0), (16, .getfield 102, 3, 655), (19, .if_icmp .ge 58, 3, 77), (22, .aload_n 0, 1, 0), (23, .getfield 37, 3, 654), (26, .aload_n 0, 1, 0), (27, .getfield 108, 3, 656), (30, .iload_n 3, 1, 0), (31, .iadd, 1, 0), (32, .iaload, 1, 0), (33, .invokestatic 128, 3, 158), (36, .ifCond .eq 41, 3, 77), (39, .iload_n 3, 1, 0), (40, .iconst 2, 1, 0), (41, .if_icmp .ge 26, 3, 67), (44, .bipush 10, 2, 0), (46, .iload 4, 2, 0), (48, .imul, 1, 0), (49, .aload_n 0, 1, 0), (50, .getfield 37, 3, 654), (53, .aload_n 0, 1, 0), (54, .getfield 108, 3, 656), (57, .iload_n 3, 1, 0), (58, .iadd, 1, 0), (59, .iaload, 1, 0), (60, .iadd, 1, 0), (61, .bipush 48, 2, 0), (63, .isub, 1, 0), (64, .goto 5, 3, 69), (67, .iload 4, 2, 0), (69, .istore 4, 2, 0), (71, .iinc 3 1, 3, 0), (74, .goto (-65), 3, 9), (77, .iload_n 3, 1, 0), (78, .iconst 1, 1, 0), (79, .iconst 2, 1, 0), (80, .invokestatic 94, 3, 143), (83, .ifCond .eq 13, 3, 96), (86, .iload 4, 2, 0), (88, .iload_n 1, 1, 0)]
def ip_cT_162_1 : List (Nat × Instr × Nat × Nat) := [(89, .iload_n 2, 1, 0), (90, .invokestatic 94, 3, 143), (93, .ifCond .ne 5, 3, 98), (96, .iconst 0, 1, 0), (97, .ireturn, 1, 0), (98, .aload_n 0, 1, 0), (99, .iload 4, 2, 0), (101, .putfield 131, 3, 657), (104, .aload_n 0, 1, 0), (105, .dup, 1, 0), (106, .getfield 108, 3, 656), (109, .iload_n 3, 1, 0), (110, .iadd, 1, 0), (111, .putfield 108, 3, 656), (114, .iconst 1, 1, 0), (115, .ireturn, 1, 0)]
def ip_cT_162 : List (Nat × Instr × Nat × Nat) := ip_cT_162_0 ++ ip_cT_162_1
def ip_cT_163_0 : List (Nat × Instr × Nat × Nat) := [(0, .aload_n 0, 1, 0), (1, .invokevirtual 125, 3, 156), (4, .aload_n 0, 1, 0), (5, .invokevirtual 111, 3, 155), (8, .bipush 59, 2, 0), (10, .if_icmp .eq 5, 3, 15), (13, .iconst 0, 1, 0), (14, .ireturn, 1, 0), (15, .aload_n 0, 1, 0), (16, .dup, 1, 0), (17, .getfield 108, 3, 656), (20, .iconst 1, 1, 0), (21, .iadd, 1, 0), (22, .putfield 108, 3, 656), (25, .iconst 1, 1, 0), (26, .ireturn, 1, 0)]
def ip_cT_163 : List (Nat × Instr × Nat × Nat) := ip_cT_163_0
def ip_cT_164_0 : List (Nat × Instr × Nat × Nat) := [(0, .iconst 0, 1, 0), (1, .istore_n 1, 1, 0), (2, .iload_n 1, 1, 0), (3, .bipush 6, 2, 0), (5, .if_icmp .ge 30, 3, 35), (8, .aload_n 0, 1, 0), (9, .iconst 0, 1, 0), (10, .iconst 3, 1, 0), (11, .invokevirtual 134, 3, 162), (14, .ifCond .ne 5, 3, 19), (17, .iconst 0, 1, 0), (18, .ireturn, 1, 0), (19, .aload_n 0, 1, 0), (20, .getfield 13, 3, 646), (23, .iload_n 1, 1, 0), (24, .aload_n 0, 1, 0), (25, .getfield 131, 3, 657), (28, .iastore, 1, 0), (29, .iinc 1 1, 3, 0), (32, .goto (-30), 3, 2), (35, .aload_n 0, 1, 0), (36, .invokevirtual 138, 3, 163), (39, .ireturn, 1, 0)]
def ip_cT_164 : List (Nat × Instr × Nat × Nat) := ip_cT_164_0
def ip_cT_165_0 : List (Nat × Instr × Nat × Nat) := [(0, .aload_n 0, 1, 0), (1, .iconst 0, 1, 0), (2, .aload_n 0, 1, 0), (3, .getfield 75, 3, 641), (6, .iconst 1, 1, 0), (7, .isub, 1, 0), (8, .invokevirtual 134, 3, 162), (11, .ifCond .ne 5, 3, 16), (14, .iconst 0, 1, 0), (15, .ireturn, 1, 0), (16, .aload_n 0, 1, 0), (17, .getfield 131, 3, 657), (20, .istore_n 1, 1, 0), (21, .aload_n 0, 1, 0), (22, .iconst 0, 1, 0), (23, .iconst 5, 1, 0), (24, .invokevirtual 134, 3, 162), (27, .ifCond .ne 5, 3, 32), (30, .iconst 0, 1, 0), (31, .ireturn, 1, 0), (32, .aload_n 0, 1, 0), (33, .getfield 16, 3, 647), (36, .iload_n 1, 1, 0), (37, .aload_n 0, 1, 0), (38, .getfield 131, 3, 657), (41, .iastore, 1, 0), (42, .aload_n 0, 1, 0), (43, .iconst 1, 1, 0), (44, .bipush 11, 2, 0), (46, .invokevirtual 134, 3, 162), (49, .ifCond .ne 5, 3, 54), (52, .iconst 0, 1, 0), (53, .ireturn, 1, 0), (54, .aload_n 0, 1, 0), (55, .getfield 19, 3, 648), (58, .iload_n 1, 1, 0), (59, .aload_n 0, 1, 0), (60, .getfield 131, 3, 657), (63, .iastore, 1, 0), (64, .aload_n 0, 1, 0), (65, .invokevirtual 138, 3, 163), (68, .ireturn, 1, 0)]
def ip_cT_165 : List (Nat × Instr × Nat × Nat) := ip_cT_165_0
def ip_cT_166_0 : List (Nat × Instr × Nat × Nat) := [(0, .aload_n 0, 1, 0), (1, .iconst 0, 1, 0), (2, .aload_n 0, 1, 0), (3, .getfield 75, 3, 641), (6, .iconst 1, 1, 0), (7, .isub, 1, 0), (8, .invokevirtual 134, 3, 162), (11, .ifCond .ne 5, 3, 16), (14, .iconst 0, 1, 0), (15, .ireturn, 1, 0), (16, .aload_n 0, 1, 0), (17, .getfield 131, 3, 657), (20, .istore_n 1, 1, 0), (21, .aload_n 0, 1, 0), (22, .iconst 0, 1, 0), (23, .iconst 5, 1, 0), (24, .invokevirtual 134, 3, 162), (27, .ifCond .ne 5, 3, 32), (30, .iconst 0, 1, 0), (31, .ireturn, 1, 0), (32, .aload_n 0, 1, 0), (33, .getfield 22, 3, 649), (36, .iload_n 1, 1, 0), (37, .aload_n 0, 1, 0), (38, .getfield 131, 3, 657), (41, .iastore, 1, 0), (42, .aload_n 0, 1, 0), (43, .iconst 0, 1, 0), (44, .bipush 99, 2, 0), (46, .invokevirtual 134, 3, 162), (49, .ifCond .ne 5, 3, 54), (52, .iconst 0, 1, 0), (53, .ireturn, 1, 0), (54, .aload_n 0, 1, 0), (55, .getfield 25, 3, 650), (58, .iload_n 1, 1, 0), (59, .aload_n 0, 1, 0), (60, .getfield 131, 3, 657), (63, .iastore, 1, 0), (64, .aload_n 0, 1, 0), (65, .invokevirtual 138, 3, 163), (68, .ireturn, 1, 0)]
def ip_cT_166 : List (Nat × Instr × Nat × Nat) := ip_cT_166_0
def ip_cT_167_0 : List (Nat × Instr × Nat × Nat) := [(0, .aload_n 0, 1, 0), (1, .iconst 1, 1, 0), (2, .bipush 99, 2, 0), (4, .invokevirtual 134, 3, 162), (7, .ifCond .ne 5, 3, 12), (10, .iconst 0, 1, 0), (11, .ireturn, 1, 0), (12, .aload_n 0, 1, 0), (13, .getfield 131, 3, 657), (16, .istore_n 1, 1, 0), (17, .iconst 0, 1, 0), (18, .istore_n 2, 1, 0), (19, .iload_n 2, 1, 0), (20, .iload_n 1, 1, 0), (21, .if_icmp .ge 23, 3, 44), (24, .aload_n 0, 1, 0), (25, .getfield 79, 3, 642), (28, .sipush 999, 3, 0), (31, .if_icmp .ge 13, 3, 44), (34, .aload_n 0, 1, 0), (35, .invokevirtual 142, 3, 190), (38, .iinc 2 1, 3, 0), (41, .goto (-22), 3, 19), (44, .aload_n 0, 1, 0), (45, .invokevirtual 138, 3, 163), (48, .ireturn, 1, 0)]
def ip_cT_167 : List (Nat × Instr × Nat × Nat) := ip_cT_167_0
def ip_cT_168_0 : List (Nat × Instr × Nat × Nat) := [(0, .aload_n 0, 1, 0), (1, .invokevirtual 145, 3, 161), (4, .istore_n 1, 1, 0), (5, .iload_n 1, 1, 0), (6, .iconst 1, 1, 0), (7, .if_icmp .ge 5, 3, 12), (10, .iconst 0, 1, 0), (11, .ireturn, 1, 0), (12, .aload_n 0, 1, 0), (13, .dup, 1, 0), (14, .getfield 108, 3, 656), (17, .iload_n 1, 1, 0), (18, .iconst 2, 1, 0), (19, .if_icmp .ne 7, 3, 26), (22, .iconst 4, 1, 0), (23, .goto 14, 3, 37), (26, .iload_n 1, 1, 0), (27, .iconst 4, 1, 0), (28, .if_icmp .ne 7, 3, 35), (31, .iconst 5, 1, 0), (32, .goto 5, 3, 37), (35, .bipush 6, 2, 0), (37, .iadd, 1, 0), (38, .putfield 108, 3, 656), (41, .iload_n 1, 1, 0), (42, .iconst 1, 1, 0), (43, .if_icmp .ne 10, 3, 53), (46, .aload_n 0, 1, 0), (47, .invokevirtual 148, 3, 164), (50, .goto 31, 3, 81), (53, .iload_n 1, 1, 0), (54, .iconst 2, 1, 0), (55, .if_icmp .ne 10, 3, 65), (58, .aload_n 0, 1, 0), (59, .invokevirtual 151, 3, 165), (62, .goto 19, 3, 81), (65, .iload_n 1, 1, 0), (66, .iconst 3, 1, 0), (67, .if_icmp .ne 10, 3, 77), (70, .aload_n 0, 1, 0), (71, .invokevirtual 154, 3, 166), (74, .goto 7, 3, 81), (77, .aload_n 0, 1, 0), (78, .invokevirtual 157, 3, 167), (81, .ireturn, 1, 0)]
def ip_cT_168 : List (Nat × Instr × Nat × Nat) := ip_cT_168_0
def ip_cT_169_0 : List (Nat × Instr × Nat × Nat) := [(0, .aload_n 0, 1, 0), (1, .invokevirtual 125, 3, 156), (4, .aload_n 0, 1, 0), (5, .invokevirtual 145, 3, 161), (8, .ifCond .eq 5, 3, 13), (11, .iconst 0, 1, 0), (12, .ireturn, 1, 0), (13, .aload_n 0, 1, 0), (14, .dup, 1, 0), (15, .getfield 108, 3, 656), (18, .iconst 5, 1, 0), (19, .iadd, 1, 0), (20, .putfield 108, 3, 656), (23, .aload_n 0, 1, 0), (24, .iconst 4, 1, 0), (25, .bipush 6, 2, 0), (27, .invokevirtual 134, 3, 162), (30, .ifCond .ne 5, 3, 35), (33, .iconst 0, 1, 0), (34, .ireturn, 1, 0), (35, .aload_n 0, 1, 0), (36, .aload_n 0, 1, 0), (37, .getfield 131, 3, 657), (40, .invokevirtual 71, 3, 149), (43, .aload_n 0, 1, 0), (44, .invokevirtual 138, 3, 163), (47, .ireturn, 1, 0)]
def ip_cT_169 : List (Nat × Instr × Nat × Nat) := ip_cT_169_0
def ip_cT_170_0 : List (Nat × Instr × Nat × Nat) := [(0, .aload_n 0, 1, 0), (1, .iconst 0, 1, 0), (2, .putfield 108, 3, 656), (5, .aload_n 0, 1, 0), (6, .invokevirtual 160, 3, 169), (9, .ifCond .ne 5, 3, 14), (12, .iconst (-1), 1, 0), (13, .ireturn, 1, 0), (14, .iconst 1, 1, 0), (15, .istore_n 1, 1, 0), (16, .aload_n 0, 1, 0), (17, .invokevirtual 125, 3, 156), (20, .aload_n 0, 1, 0), (21, .getfield 108, 3, 656), (24, .aload_n 0, 1, 0), (25, .getfield 102, 3, 655), (28, .if_icmp .ge 22, 3, 50), (31, .aload_n 0, 1, 0), (32, .invokevirtual 163, 3, 168), (35, .ifCond .ne 5, 3, 40), (38, .iconst (-1), 1, 0), (39, .ireturn, 1, 0), (40, .iinc 1 1, 3, 0), (43, .aload_n 0, 1, 0), (44, .invokevirtual 125, 3, 156), (47, .goto (-27), 3, 20), (50, .iload_n 1, 1, 0), (51, .ireturn, 1, 0)]
def ip_cT_170 : List (Nat × Instr × Nat × Nat) := ip_cT_170_0
def ip_cT_171_0 : List (Nat × Instr × Nat × Nat) := [(0, .aload_n 0, 1, 0), (1, .aload_n 0, 1, 0), (2, .getfield 40, 3, 658), (5, .iconst 0, 1, 0), (6, .invokevirtual 166, 3, 227), (9, .aload_n 0, 1, 0), (10, .invokevirtual 170, 3, 170), (13, .istore_n 1, 1, 0), (14, .iload_n 1, 1, 0), (15, .ifCond .ge 20, 3, 35), (18, .aload_n 0, 1, 0), (19, .aload_n 0, 1, 0), (20, .getfield 40, 3, 658), (23, .iconst 0, 1, 0), (24, .invokevirtual 173, 3, 228), (27, .bipush (-10), 2, 0), (29, .aload_n 0, 1, 0), (30, .getfield 108, 3, 656), (33, .isub, 1, 0), (34, .ireturn, 1, 0), (35, .aload_n 0, 1, 0), (36, .iconst 0, 1, 0), (37, .putfield 91, 3, 662), (40, .iload_n 1, 1, 0), (41, .ireturn, 1, 0)]
def ip_cT_171 : List (Nat × Instr × Nat × Nat) := ip_cT_171_0
def ip_cT_172_0 : List (Nat × Instr × Nat × Nat) := [(0, .iload_n 2, 1, 0), (1, .iload_n 1, 1, 0), (2, .iconst 1, 1, 0), (3, .iadd, 1, 0), (4, .invokestatic 176, 3, 145), (7, .istore_n 3, 1, 0), (8, .iconst 1, 1, 0), (9, .iload_n 3, 1, 0), (10, .iconst 2, 1, 0), (11, .isub, 1, 0), (12, .invokestatic 180, 3, 146), (15, .istore 4, 2, 0), (17, .iload_n 2, 1, 0), (18, .iload_n 3, 1, 0), (19, .iconst 1, 1, 0), (20, .iadd, 1, 0), (21, .invokestatic 176, 3, 145), (24, .istore 5, 2, 0), (26, .iload_n 0, 1, 0), (27, .tableswitch 66 1 5 #[33, 36, 39, 51, 58], 33, 0), (60, .iload 4, 2, 0), (62, .ireturn, 1, 0), (63, .iload 5, 2, 0), (65, .ireturn, 1, 0), (66, .iload 5, 2, 0), (68, .iload_n 2, 1, 0), (69, .if_icmp .ne 7, 3, 76), (72, .iload_n 2, 1, 0), (73, .goto 4, 3, 77), (76, .iload_n 1, 1, 0), (77, .ireturn, 1, 0), (78, .iload_n 2, 1, 0), (79, .iconst 1, 1, 0), (80, .iadd, 1, 0), (81, .iload 4, 2, 0), (83, .isub, 1, 0), (84, .ireturn, 1, 0), (85, .iload_n 2, 1, 0), (86, .iload_n 3, 1, 0), (87, .iconst 1, 1, 0), (88, .iadd, 1, 0), (89, .invokestatic 176, 3, 145), (92, .ireturn, 1, 0), (93, .iload_n 3, 1, 0), (94, .ireturn, 1, 0)]
def ip_cT_172 : List (Nat × Instr × Nat × Nat) := ip_cT_172_0
def ip_cT_173_0 : List (Nat × Instr × Nat × Nat) := [(0, .iload_n 0, 1, 0), (1, .tableswitch 100 1 5 #[35, 46, 58, 70, 82], 35, 0), (36, .iload_n 1, 1, 0), (37, .iconst 3, 1, 0), (38, .if_icmp .lt 7, 3, 45), (41, .iconst 1, 1, 0), (42, .goto 4, 3, 46), (45, .iconst 0, 1, 0), (46, .ireturn, 1, 0), (47, .iload_n 2, 1, 0), (48, .iconst 5, 1, 0), (49, .irem, 1, 0), (50, .ifCond .eq 7, 3, 57), (53, .iconst 1, 1, 0), (54, .goto 4, 3, 58), (57, .iconst 0, 1, 0), (58, .ireturn, 1, 0), (59, .iload_n 1, 1, 0), (60, .bipush 9, 2, 0), (62, .if_icmp .lt 7, 3, 69), (65, .iconst 1, 1, 0), (66, .goto 4, 3, 70), (69, .iconst 0, 1, 0), (70, .ireturn, 1, 0), (71, .iload_n 1, 1, 0), (72, .iconst 2, 1, 0), (73, .irem, 1, 0), (74, .ifCond .ne 7, 3, 81), (77, .iconst 1, 1, 0), (78, .goto 4, 3, 82), (81, .iconst 0, 1, 0), (82, .ireturn, 1, 0), (83, .iload_n 2, 1, 0), (84, .iconst 5, 1, 0), (85, .irem, 1, 0), (86, .ifCond .eq 13, 3, 99), (89, .iload_n 2, 1, 0), (90, .iconst 2, 1, 0), (91, .irem, 1, 0), (92, .ifCond .ne 7, 3, 99), (95, .iconst 1, 1, 0), (96, .goto 4, 3, 100), (99, .iconst 0, 1, 0), (100, .ireturn, 1, 0), (101, .iconst 1, 1, 0), (102, .ireturn, 1, 0)]
def ip_cT_173 : List (Nat × Instr × Nat × Nat) := ip_cT_173_0
def ip_cT_174_0 : List (Nat × Instr × Nat × Nat) := [(0, .iconst 0, 1, 0), (1, .istore_n 1, 1, 0), (2, .iconst 0, 1, 0), (3, .istore_n 2, 1, 0), (4, .iload_n 2, 1, 0), (5, .aload_n 0, 1, 0), (6, .getfield 75, 3, 641), (9, .if_icmp .ge 29, 3, 38), (12, .iload_n 1, 1, 0), (13, .aload_n 0, 1, 0), (14, .getfield 16, 3, 647), (17, .iload_n 2, 1, 0), (18, .iaload, 1, 0), (19, .iconst (-1), 1, 0), (20, .if_icmp .eq 9, 3, 29), (23, .iconst 1, 1, 0), (24, .iload_n 2, 1, 0), (25, .ishl, 1, 0), (26, .goto 4, 3, 30), (29, .iconst 0, 1, 0), (30, .ior, 1, 0), (31, .istore_n 1, 1, 0), (32, .iinc 2 1, 3, 0), (35, .goto (-31), 3, 4), (38, .iload_n 1, 1, 0), (39, .ireturn, 1, 0)]
def ip_cT_174 : List (Nat × Instr × Nat × Nat) := ip_cT_174_0
def ip_cT_175_0 : List (Nat × Instr × Nat × Nat) := [(0, .iconst 0, 1, 0), (1, .istore_n 1, 1, 0), (2, .iconst 0, 1, 0), (3, .istore_n 2, 1, 0), (4, .iload_n 2, 1, 0), (5, .aload_n 0, 1, 0), (6, .getfield 75, 3, 641), (9, .if_icmp .ge 51, 3, 60), (12, .iload_n 1, 1, 0), (13, .aload_n 0, 1, 0), (14, .getfield 16, 3, 647), (17, .iload_n 2, 1, 0), (18, .iaload, 1, 0), (19, .iconst (-1), 1, 0), (20, .if_icmp .eq 31, 3, 51), (23, .aload_n 0, 1, 0), (24, .getfield 22, 3, 649), (27, .iload_n 2, 1, 0), (28, .iaload, 1, 0), (29, .aload_n 0, 1, 0), (30, .getfield 25, 3, 650), (33, .iload_n 2, 1, 0), (34, .iaload, 1, 0), (35, .aload_n 0, 1, 0), (36, .getfield 79, 3, 642), (39, .invokestatic 183, 3, 173), (42, .ifCond .eq 9, 3, 51), (45, .iconst 1, 1, 0), (46, .iload_n 2, 1, 0), (47, .ishl, 1, 0), (48, .goto 4, 3, 52), (51, .iconst 0, 1, 0), (52, .ior, 1, 0), (53, .istore_n 1, 1, 0), (54, .iinc 2 1, 3, 0), (57, .goto (-53), 3, 4), (60, .iload_n 1, 1, 0), (61, .ireturn, 1, 0)]
def ip_cT_175 : List (Nat × Instr × Nat × Nat) := ip_cT_175_0
def ip_cT_176_0 : List (Nat × Instr × Nat × Nat) := [(0, .iload_n 1, 1, 0), (1, .iconst 1, 1, 0), (2, .iadd, 1, 0), (3, .aload_n 0, 1, 0), (4, .getfield 75, 3, 641), (7, .if_icmp .ge 33, 3, 40), (10, .aload_n 0, 1, 0), (11, .getfield 43, 3, 659), (14, .iload_n 1, 1, 0), (15, .iaload, 1, 0), (16, .istore_n 2, 1, 0), (17, .aload_n 0, 1, 0), (18, .getfield 43, 3, 659), (21, .iload_n 1, 1, 0), (22, .aload_n 0, 1, 0), (23, .getfield 43, 3, 659), (26, .iload_n 1, 1, 0), (27, .iconst 1, 1, 0), (28, .iadd, 1, 0), (29, .iaload, 1, 0), (30, .iastore, 1, 0), (31, .aload_n 0, 1, 0), (32, .getfield 43, 3, 659), (35, .iload_n 1, 1, 0), (36, .iconst 1, 1, 0), (37, .iadd, 1, 0), (38, .iload_n 2, 1, 0), (39, .iastore, 1, 0), (40, .return_, 1, 0)]
def ip_cT_176 : List (Nat × Instr × Nat × Nat) := ip_cT_176_0
def ip_cT_177_0 : List (Nat × Instr × Nat × Nat) := [(0, .iconst 0, 1, 0), (1, .istore_n 2, 1, 0), (2, .iload_n 2, 1, 0), (3, .aload_n 0, 1, 0), (4, .getfield 75, 3, 641), (7, .if_icmp .ge 18, 3, 25), (10, .aload_n 0, 1, 0), (11, .getfield 43, 3, 659), (14, .iload_n 2, 1, 0), (15, .iload_n 2, 1, 0), (16, .iconst 1, 1, 0), (17, .iadd, 1, 0), (18, .iastore, 1, 0), (19, .iinc 2 1, 3, 0), (22, .goto (-20), 3, 2), (25, .iconst 0, 1, 0), (26, .istore_n 2, 1, 0), (27, .iload_n 2, 1, 0), (28, .iload_n 1, 1, 0), (29, .if_icmp .ge 69, 3, 98), (32, .aload_n 0, 1, 0), (33, .getfield 13, 3, 646), (36, .iload_n 2, 1, 0), (37, .bipush 6, 2, 0), (39, .irem, 1, 0), (40, .iaload, 1, 0), (41, .istore_n 3, 1, 0), (42, .iload_n 3, 1, 0), (43, .iconst 2, 1, 0), (44, .if_icmp .ne 7, 3, 51), (47, .iconst 1, 1, 0), (48, .goto 4, 3, 52), (51, .iconst 0, 1, 0), (52, .istore 4, 2, 0), (54, .iload 4, 2, 0), (56, .iload_n 3, 1, 0), (57, .ifCond .ne 7, 3, 64), (60, .iconst 0, 1, 0), (61, .goto 16, 3, 77), (64, .iload_n 3, 1, 0), (65, .iconst 3, 1, 0), (66, .if_icmp .ne 7, 3, 73), (69, .iconst 1, 1, 0), (70, .goto 7, 3, 77), (73, .aload_n 0, 1, 0), (74, .getfield 75, 3, 641), (77, .if_icmp .ge 15, 3, 92), (80, .aload_n 0, 1, 0), (81, .iload 4, 2, 0), (83, .invokevirtual 186, 3, 176)]
def ip_cT_177_1 : List (Nat × Instr × Nat × Nat) := [(86, .iinc 4 2, 3, 0), (89, .goto (-35), 3, 54), (92, .iinc 2 1, 3, 0), (95, .goto (-68), 3, 27), (98, .return_, 1, 0)]
def ip_cT_177 : List (Nat × Instr × Nat × Nat) := ip_cT_177_0 ++ ip_cT_177_1
def ip_cT_178_0 : List (Nat × Instr × Nat × Nat) := [(0, .iconst 0, 1, 0), (1, .istore_n 3, 1, 0), (2, .aload_n 0, 1, 0), (3, .getfield 43, 3, 659), (6, .iload_n 3, 1, 0), (7, .iaload, 1, 0), (8, .iload_n 1, 1, 0), (9, .if_icmp .eq 9, 3, 18), (12, .iinc 3 1, 3, 0), (15, .goto (-13), 3, 2), (18, .iload_n 2, 1, 0), (19, .iload_n 3, 1, 0), (20, .iconst 1, 1, 0), (21, .iadd, 1, 0), (22, .aload_n 0, 1, 0), (23, .getfield 75, 3, 641), (26, .invokestatic 189, 3, 172), (29, .iconst 1, 1, 0), (30, .isub, 1, 0), (31, .istore 4, 2, 0), (33, .iload_n 3, 1, 0), (34, .iload 4, 2, 0), (36, .if_icmp .ge 23, 3, 59), (39, .aload_n 0, 1, 0), (40, .getfield 43, 3, 659), (43, .iload_n 3, 1, 0), (44, .aload_n 0, 1, 0), (45, .getfield 43, 3, 659), (48, .iload_n 3, 1, 0), (49, .iconst 1, 1, 0), (50, .iadd, 1, 0), (51, .iaload, 1, 0), (52, .iastore, 1, 0), (53, .iinc 3 1, 3, 0), (56, .goto (-23), 3, 33), (59, .iload_n 3, 1, 0), (60, .iload 4, 2, 0), (62, .if_icmp .le 23, 3, 85), (65, .aload_n 0, 1, 0), (66, .getfield 43, 3, 659), (69, .iload_n 3, 1, 0), (70, .aload_n 0, 1, 0), (71, .getfield 43, 3, 659), (74, .iload_n 3, 1, 0), (75, .iconst 1, 1, 0), (76, .isub, 1, 0), (77, .iaload, 1, 0), (78, .iastore, 1, 0), (79, .iinc 3 (-1), 3, 0), (82, .goto (-23), 3, 59)]
def ip_cT_178_1 : List (Nat × Instr × Nat × Nat) := [(85, .aload_n 0, 1, 0), (86, .getfield 43, 3, 659), (89, .iload 4, 2, 0), (91, .iload_n 1, 1, 0), (92, .iastore, 1, 0), (93, .return_, 1, 0)]
def ip_cT_178 : List (Nat × Instr × Nat × Nat) := ip_cT_178_0 ++ ip_cT_178_1
def ip_cT_179_0 : List (Nat × Instr × Nat × Nat) := [(0, .aload_n 0, 1, 0), (1, .iload_n 1, 1, 0), (2, .invokevirtual 193, 3, 177), (5, .iconst 0, 1, 0), (6, .istore_n 3, 1, 0), (7, .iload_n 3, 1, 0), (8, .aload_n 0, 1, 0), (9, .getfield 75, 3, 641), (12, .if_icmp .ge 40, 3, 52), (15, .iload_n 2, 1, 0), (16, .iload_n 3, 1, 0), (17, .invokestatic 196, 3, 144), (20, .ifCond .eq 26, 3, 46), (23, .aload_n 0, 1, 0), (24, .getfield 19, 3, 648), (27, .iload_n 3, 1, 0), (28, .iaload, 1, 0), (29, .iload_n 1, 1, 0), (30, .if_icmp .ne 16, 3, 46), (33, .aload_n 0, 1, 0), (34, .iload_n 3, 1, 0), (35, .iconst 1, 1, 0), (36, .iadd, 1, 0), (37, .aload_n 0, 1, 0), (38, .getfield 16, 3, 647), (41, .iload_n 3, 1, 0), (42, .iaload, 1, 0), (43, .invokevirtual 199, 3, 178), (46, .iinc 3 1, 3, 0), (49, .goto (-42), 3, 7), (52, .return_, 1, 0)]
def ip_cT_179 : List (Nat × Instr × Nat × Nat) := ip_cT_179_0
def ip_cT_180_0 : List (Nat × Instr × Nat × Nat) := [(0, .iconst 0, 1, 0), (1, .istore_n 1, 1, 0), (2, .iconst 0, 1, 0), (3, .istore_n 2, 1, 0), (4, .iload_n 2, 1, 0), (5, .aload_n 0, 1, 0), (6, .getfield 75, 3, 641), (9, .if_icmp .ge 21, 3, 30), (12, .bipush 10, 2, 0), (14, .iload_n 1, 1, 0), (15, .imul, 1, 0), (16, .aload_n 0, 1, 0), (17, .getfield 43, 3, 659), (20, .iload_n 2, 1, 0), (21, .iaload, 1, 0), (22, .iadd, 1, 0), (23, .istore_n 1, 1, 0), (24, .iinc 2 1, 3, 0), (27, .goto (-23), 3, 4), (30, .iload_n 1, 1, 0), (31, .ireturn, 1, 0)]
def ip_cT_180 : List (Nat × Instr × Nat × Nat) := ip_cT_180_0
def ip_cT_181_0 : List (Nat × Instr × Nat × Nat) := [(0, .aload_n 0, 1, 0), (1, .iload_n 1, 1, 0), (2, .invokevirtual 193, 3, 177), (5, .aload_n 0, 1, 0), (6, .invokevirtual 203, 3, 180), (9, .ireturn, 1, 0)]
def ip_cT_181 : List (Nat × Instr × Nat × Nat) := ip_cT_181_0
def ip_cT_182_0 : List (Nat × Instr × Nat × Nat) := [(0, .aload_n 0, 1, 0), (1, .iload_n 1, 1, 0), (2, .iload_n 2, 1, 0), (3, .invokevirtual 206, 3, 179), (6, .aload_n 0, 1, 0), (7, .invokevirtual 203, 3, 180), (10, .ireturn, 1, 0)]
def ip_cT_182 : List (Nat × Instr × Nat × Nat) := ip_cT_182_0
def ip_cT_183_0 : List (Nat × Instr × Nat × Nat) := [(0, .iconst 0, 1, 0), (1, .istore_n 2, 1, 0), (2, .iload_n 2, 1, 0), (3, .bipush 12, 2, 0), (5, .if_icmp .ge 21, 3, 26), (8, .aload_n 0, 1, 0), (9, .getfield 46, 3, 660), (12, .iload_n 2, 1, 0), (13, .aload_n 0, 1, 0), (14, .iload_n 2, 1, 0), (15, .iload_n 1, 1, 0), (16, .invokevirtual 209, 3, 182), (19, .iastore, 1, 0), (20, .iinc 2 1, 3, 0), (23, .goto (-21), 3, 2), (26, .return_, 1, 0)]
def ip_cT_183 : List (Nat × Instr × Nat × Nat) := ip_cT_183_0
def ip_cT_184_0 : List (Nat × Instr × Nat × Nat) := [(0, .iconst 0, 1, 0), (1, .istore_n 2, 1, 0), (2, .aload_n 0, 1, 0), (3, .getfield 46, 3, 660), (6, .iload_n 2, 1, 0), (7, .iaload, 1, 0), (8, .aload_n 0, 1, 0), (9, .getfield 46, 3, 660), (12, .iload_n 1, 1, 0), (13, .iaload, 1, 0), (14, .if_icmp .eq 9, 3, 23), (17, .iinc 2 1, 3, 0), (20, .goto (-18), 3, 2), (23, .iload_n 2, 1, 0), (24, .iload_n 1, 1, 0), (25, .if_icmp .ge 7, 3, 32), (28, .iload_n 2, 1, 0), (29, .goto 4, 3, 33), (32, .iconst (-1), 1, 0), (33, .ireturn, 1, 0)]
def ip_cT_184 : List (Nat × Instr × Nat × Nat) := ip_cT_184_0
def ip_cT_185_0 : List (Nat × Instr × Nat × Nat) := [(0, .aload_n 0, 1, 0), (1, .iload_n 1, 1, 0), (2, .invokevirtual 212, 3, 183), (5, .iconst 1, 1, 0), (6, .istore_n 2, 1, 0), (7, .iconst 1, 1, 0), (8, .istore_n 3, 1, 0), (9, .iload_n 3, 1, 0), (10, .bipush 12, 2, 0), (12, .if_icmp .ge 28, 3, 40), (15, .iload_n 2, 1, 0), (16, .ifCond .eq 16, 3, 32), (19, .aload_n 0, 1, 0), (20, .iload_n 3, 1, 0), (21, .invokevirtual 215, 3, 184), (24, .iconst (-1), 1, 0), (25, .if_icmp .ne 7, 3, 32), (28, .iconst 1, 1, 0), (29, .goto 4, 3, 33), (32, .iconst 0, 1, 0), (33, .istore_n 2, 1, 0), (34, .iinc 3 1, 3, 0), (37, .goto (-28), 3, 9), (40, .iload_n 2, 1, 0), (41, .ireturn, 1, 0)]
def ip_cT_185 : List (Nat × Instr × Nat × Nat) := ip_cT_185_0
def ip_cT_186_0 : List (Nat × Instr × Nat × Nat) := [(0, .aload_n 0, 1, 0), (1, .invokevirtual 218, 3, 175), (4, .istore_n 1, 1, 0), (5, .iconst 0, 1, 0), (6, .istore_n 2, 1, 0), (7, .iconst 0, 1, 0), (8, .istore_n 3, 1, 0), (9, .iload_n 3, 1, 0), (10, .bipush 12, 2, 0), (12, .if_icmp .ge 31, 3, 43), (15, .iload_n 2, 1, 0), (16, .aload_n 0, 1, 0), (17, .iload_n 3, 1, 0), (18, .iload_n 1, 1, 0), (19, .invokevirtual 209, 3, 182), (22, .aload_n 0, 1, 0), (23, .iload_n 3, 1, 0), (24, .invokevirtual 221, 3, 181), (27, .if_icmp .eq 7, 3, 34), (30, .iconst 1, 1, 0), (31, .goto 4, 3, 35), (34, .iconst 0, 1, 0), (35, .iadd, 1, 0), (36, .istore_n 2, 1, 0), (37, .iinc 3 1, 3, 0), (40, .goto (-31), 3, 9), (43, .iload_n 2, 1, 0), (44, .ireturn, 1, 0)]
def ip_cT_186 : List (Nat × Instr × Nat × Nat) := ip_cT_186_0
def ip_cT_187_0 : List (Nat × Instr × Nat × Nat) := [(0, .aload_n 1, 1, 0), (1, .iload_n 2, 1, 0), (2, .aload_n 0, 1, 0), (3, .getfield 79, 3, 642), (6, .iastore, 1, 0), (7, .iconst 0, 1, 0), (8, .istore_n 3, 1, 0), (9, .iload_n 3, 1, 0), (10, .bipush 6, 2, 0), (12, .if_icmp .ge 64, 3, 76), (15, .aload_n 1, 1, 0), (16, .iload_n 2, 1, 0), (17, .iconst 1, 1, 0), (18, .iadd, 1, 0), (19, .iload_n 3, 1, 0), (20, .iadd, 1, 0), (21, .aload_n 0, 1, 0), (22, .getfield 16, 3, 647), (25, .iload_n 3, 1, 0), (26, .iaload, 1, 0), (27, .iastore, 1, 0), (28, .aload_n 1, 1, 0), (29, .iload_n 2, 1, 0), (30, .bipush 7, 2, 0), (32, .iadd, 1, 0), (33, .iload_n 3, 1, 0), (34, .iadd, 1, 0), (35, .aload_n 0, 1, 0), (36, .getfield 19, 3, 648), (39, .iload_n 3, 1, 0), (40, .iaload, 1, 0), (41, .iastore, 1, 0), (42, .aload_n 1, 1, 0), (43, .iload_n 2, 1, 0), (44, .bipush 13, 2, 0), (46, .iadd, 1, 0), (47, .iload_n 3, 1, 0), (48, .iadd, 1, 0), (49, .aload_n 0, 1, 0), (50, .getfield 22, 3, 649), (53, .iload_n 3, 1, 0), (54, .iaload, 1, 0), (55, .iastore, 1, 0), (56, .aload_n 1, 1, 0), (57, .iload_n 2, 1, 0), (58, .bipush 19, 2, 0), (60, .iadd, 1, 0), (61, .iload_n 3, 1, 0), (62, .iadd, 1, 0), (63, .aload_n 0, 1, 0)]
def ip_cT_187_1 : List (Nat × Instr × Nat × Nat) := [(64, .getfield 25, 3, 650), (67, .iload_n 3, 1, 0), (68, .iaload, 1, 0), (69, .iastore, 1, 0), (70, .iinc 3 1, 3, 0), (73, .goto (-64), 3, 9), (76, .return_, 1, 0)]
def ip_cT_187 : List (Nat × Instr × Nat × Nat) := ip_cT_187_0 ++ ip_cT_187_1
def ip_cT_188_0 : List (Nat × Instr × Nat × Nat) := [(0, .aload_n 0, 1, 0), (1, .aload_n 1, 1, 0), (2, .iload_n 2, 1, 0), (3, .iaload, 1, 0), (4, .putfield 79, 3, 642), (7, .iconst 0, 1, 0), (8, .istore_n 3, 1, 0), (9, .iload_n 3, 1, 0), (10, .bipush 6, 2, 0), (12, .if_icmp .ge 64, 3, 76), (15, .aload_n 0, 1, 0), (16, .getfield 16, 3, 647), (19, .iload_n 3, 1, 0), (20, .aload_n 1, 1, 0), (21, .iload_n 2, 1, 0), (22, .iconst 1, 1, 0), (23, .iadd, 1, 0), (24, .iload_n 3, 1, 0), (25, .iadd, 1, 0), (26, .iaload, 1, 0), (27, .iastore, 1, 0), (28, .aload_n 0, 1, 0), (29, .getfield 19, 3, 648), (32, .iload_n 3, 1, 0), (33, .aload_n 1, 1, 0), (34, .iload_n 2, 1, 0), (35, .bipush 7, 2, 0), (37, .iadd, 1, 0), (38, .iload_n 3, 1, 0), (39, .iadd, 1, 0), (40, .iaload, 1, 0), (41, .iastore, 1, 0), (42, .aload_n 0, 1, 0), (43, .getfield 22, 3, 649), (46, .iload_n 3, 1, 0), (47, .aload_n 1, 1, 0), (48, .iload_n 2, 1, 0), (49, .bipush 13, 2, 0), (51, .iadd, 1, 0), (52, .iload_n 3, 1, 0), (53, .iadd, 1, 0), (54, .iaload, 1, 0), (55, .iastore, 1, 0), (56, .aload_n 0, 1, 0), (57, .getfield 25, 3, 650), (60, .iload_n 3, 1, 0), (61, .aload_n 1, 1, 0), (62, .iload_n 2, 1, 0), (63, .bipush 19, 2, 0), (65, .iadd, 1, 0)]
def ip_cT_188_1 : List (Nat × Instr × Nat × Nat) := [(66, .iload_n 3, 1, 0), (67, .iadd, 1, 0), (68, .iaload, 1, 0), (69, .iastore, 1, 0), (70, .iinc 3 1, 3, 0), (73, .goto (-64), 3, 9), (76, .return_, 1, 0)]
def ip_cT_188 : List (Nat × Instr × Nat × Nat) := ip_cT_188_0 ++ ip_cT_188_1
def ip_cT_189_0 : List (Nat × Instr × Nat × Nat) := [(0, .aload_n 0, 1, 0), (1, .getfield 91, 3, 662), (4, .bipush 8, 2, 0), (6, .if_icmp .ne 43, 3, 49), (9, .iconst 0, 1, 0), (10, .istore_n 1, 1, 0), (11, .iload_n 1, 1, 0), (12, .sipush 175, 3, 0), (15, .if_icmp .ge 24, 3, 39), (18, .aload_n 0, 1, 0), (19, .getfield 49, 3, 661), (22, .iload_n 1, 1, 0), (23, .aload_n 0, 1, 0), (24, .getfield 49, 3, 661), (27, .iload_n 1, 1, 0), (28, .bipush 25, 2, 0), (30, .iadd, 1, 0), (31, .iaload, 1, 0), (32, .iastore, 1, 0), (33, .iinc 1 1, 3, 0), (36, .goto (-25), 3, 11), (39, .aload_n 0, 1, 0), (40, .dup, 1, 0), (41, .getfield 91, 3, 662), (44, .iconst 1, 1, 0), (45, .isub, 1, 0), (46, .putfield 91, 3, 662), (49, .aload_n 0, 1, 0), (50, .aload_n 0, 1, 0), (51, .getfield 49, 3, 661), (54, .bipush 25, 2, 0), (56, .aload_n 0, 1, 0), (57, .getfield 91, 3, 662), (60, .imul, 1, 0), (61, .invokevirtual 224, 3, 187), (64, .aload_n 0, 1, 0), (65, .dup, 1, 0), (66, .getfield 91, 3, 662), (69, .iconst 1, 1, 0), (70, .iadd, 1, 0), (71, .putfield 91, 3, 662), (74, .return_, 1, 0)]
def ip_cT_189 : List (Nat × Instr × Nat × Nat) := ip_cT_189_0
def ip_cT_190_0 : List (Nat × Instr × Nat × Nat) := [(0, .aload_n 0, 1, 0), (1, .dup, 1, 0), (2, .getfield 79, 3, 642), (5, .iconst 1, 1, 0), (6, .iadd, 1, 0), (7, .putfield 79, 3, 642), (10, .iconst 0, 1, 0), (11, .istore_n 1, 1, 0), (12, .iload_n 1, 1, 0), (13, .aload_n 0, 1, 0), (14, .getfield 75, 3, 641), (17, .if_icmp .ge 28, 3, 45), (20, .aload_n 0, 1, 0), (21, .getfield 25, 3, 650), (24, .iload_n 1, 1, 0), (25, .bipush 99, 2, 0), (27, .aload_n 0, 1, 0), (28, .getfield 25, 3, 650), (31, .iload_n 1, 1, 0), (32, .iaload, 1, 0), (33, .iconst 1, 1, 0), (34, .iadd, 1, 0), (35, .invokestatic 176, 3, 145), (38, .iastore, 1, 0), (39, .iinc 1 1, 3, 0), (42, .goto (-30), 3, 12), (45, .return_, 1, 0)]
def ip_cT_190 : List (Nat × Instr × Nat × Nat) := ip_cT_190_0
def ip_cT_191_0 : List (Nat × Instr × Nat × Nat) := [(0, .aload_n 0, 1, 0), (1, .iload_n 1, 1, 0), (2, .invokevirtual 227, 3, 150), (5, .ifCond .eq 22, 3, 27), (8, .iload_n 2, 1, 0), (9, .iconst 0, 1, 0), (10, .iconst 5, 1, 0), (11, .invokestatic 94, 3, 143), (14, .ifCond .eq 13, 3, 27), (17, .iload_n 3, 1, 0), (18, .iconst 1, 1, 0), (19, .bipush 11, 2, 0), (21, .invokestatic 94, 3, 143), (24, .ifCond .ne 8, 3, 32), (27, .aload_n 0, 1, 0), (28, .invokevirtual 98, 3, 140), (31, .ireturn, 1, 0), (32, .aload_n 0, 1, 0), (33, .invokevirtual 230, 3, 189), (36, .aload_n 0, 1, 0), (37, .getfield 16, 3, 647), (40, .iload_n 1, 1, 0), (41, .iaload, 1, 0), (42, .iconst (-1), 1, 0), (43, .if_icmp .eq 7, 3, 50), (46, .iconst 1, 1, 0), (47, .goto 4, 3, 51), (50, .iconst 0, 1, 0), (51, .istore 4, 2, 0), (53, .aload_n 0, 1, 0), (54, .getfield 16, 3, 647), (57, .iload_n 1, 1, 0), (58, .iload_n 2, 1, 0), (59, .iastore, 1, 0), (60, .aload_n 0, 1, 0), (61, .getfield 19, 3, 648), (64, .iload_n 1, 1, 0), (65, .iload_n 3, 1, 0), (66, .iastore, 1, 0), (67, .iload 4, 2, 0), (69, .ireturn, 1, 0)]
def ip_cT_191 : List (Nat × Instr × Nat × Nat) := ip_cT_191_0
def ip_cT_192_0 : List (Nat × Instr × Nat × Nat) := [(0, .aload_n 0, 1, 0), (1, .iload_n 1, 1, 0), (2, .invokevirtual 227, 3, 150), (5, .ifCond .ne 8, 3, 13), (8, .aload_n 0, 1, 0), (9, .invokevirtual 98, 3, 140), (12, .ireturn, 1, 0), (13, .aload_n 0, 1, 0), (14, .getfield 16, 3, 647), (17, .iload_n 1, 1, 0), (18, .iaload, 1, 0), (19, .iconst (-1), 1, 0), (20, .if_icmp .ne 8, 3, 28), (23, .aload_n 0, 1, 0), (24, .invokevirtual 233, 3, 141), (27, .ireturn, 1, 0), (28, .aload_n 0, 1, 0), (29, .invokevirtual 230, 3, 189), (32, .aload_n 0, 1, 0), (33, .getfield 16, 3, 647), (36, .iload_n 1, 1, 0), (37, .iaload, 1, 0), (38, .istore_n 2, 1, 0), (39, .aload_n 0, 1, 0), (40, .getfield 16, 3, 647), (43, .iload_n 1, 1, 0), (44, .iconst (-1), 1, 0), (45, .iastore, 1, 0), (46, .aload_n 0, 1, 0), (47, .getfield 19, 3, 648), (50, .iload_n 1, 1, 0), (51, .iconst (-1), 1, 0), (52, .iastore, 1, 0), (53, .iload_n 2, 1, 0), (54, .ireturn, 1, 0)]
def ip_cT_192 : List (Nat × Instr × Nat × Nat) := ip_cT_192_0
def ip_cT_193_0 : List (Nat × Instr × Nat × Nat) := [(0, .aload_n 0, 1, 0), (1, .iload_n 1, 1, 0), (2, .invokevirtual 227, 3, 150), (5, .ifCond .eq 12, 3, 17), (8, .iload_n 2, 1, 0), (9, .iconst 0, 1, 0), (10, .iconst 5, 1, 0), (11, .invokestatic 94, 3, 143), (14, .ifCond .ne 8, 3, 22), (17, .aload_n 0, 1, 0), (18, .invokevirtual 98, 3, 140), (21, .ireturn, 1, 0), (22, .aload_n 0, 1, 0), (23, .invokevirtual 230, 3, 189), (26, .aload_n 0, 1, 0), (27, .getfield 25, 3, 650), (30, .iload_n 1, 1, 0), (31, .iaload, 1, 0), (32, .istore_n 3, 1, 0), (33, .aload_n 0, 1, 0), (34, .getfield 22, 3, 649), (37, .iload_n 1, 1, 0), (38, .iload_n 2, 1, 0), (39, .iastore, 1, 0), (40, .aload_n 0, 1, 0), (41, .getfield 25, 3, 650), (44, .iload_n 1, 1, 0), (45, .iconst 0, 1, 0), (46, .iastore, 1, 0), (47, .iload_n 3, 1, 0), (48, .ireturn, 1, 0)]
def ip_cT_193 : List (Nat × Instr × Nat × Nat) := ip_cT_193_0
def ip_cT_194_0 : List (Nat × Instr × Nat × Nat) := [(0, .iload_n 1, 1, 0), (1, .iconst 1, 1, 0), (2, .bipush 60, 2, 0), (4, .invokestatic 94, 3, 143), (7, .ifCond .ne 8, 3, 15), (10, .aload_n 0, 1, 0), (11, .invokevirtual 98, 3, 140), (14, .ireturn, 1, 0), (15, .aload_n 0, 1, 0), (16, .invokevirtual 230, 3, 189), (19, .iconst 0, 1, 0), (20, .istore_n 2, 1, 0), (21, .iload_n 2, 1, 0), (22, .iload_n 1, 1, 0), (23, .if_icmp .ge 23, 3, 46), (26, .aload_n 0, 1, 0), (27, .getfield 79, 3, 642), (30, .sipush 999, 3, 0), (33, .if_icmp .ge 13, 3, 46), (36, .aload_n 0, 1, 0), (37, .invokevirtual 142, 3, 190), (40, .iinc 2 1, 3, 0), (43, .goto (-22), 3, 21), (46, .aload_n 0, 1, 0), (47, .aload_n 0, 1, 0), (48, .invokevirtual 218, 3, 175), (51, .invokevirtual 236, 3, 185), (54, .ifCond .eq 7, 3, 61), (57, .iconst 1, 1, 0), (58, .goto 4, 3, 62), (61, .iconst 0, 1, 0), (62, .ireturn, 1, 0)]
def ip_cT_194 : List (Nat × Instr × Nat × Nat) := ip_cT_194_0
def ip_cT_195_0 : List (Nat × Instr × Nat × Nat) := [(0, .aload_n 0, 1, 0), (1, .getfield 91, 3, 662), (4, .ifCond .ne 8, 3, 12), (7, .aload_n 0, 1, 0), (8, .invokevirtual 233, 3, 141), (11, .ireturn, 1, 0), (12, .aload_n 0, 1, 0), (13, .dup, 1, 0), (14, .getfield 91, 3, 662), (17, .iconst 1, 1, 0), (18, .isub, 1, 0), (19, .putfield 91, 3, 662), (22, .aload_n 0, 1, 0), (23, .aload_n 0, 1, 0), (24, .getfield 49, 3, 661), (27, .bipush 25, 2, 0), (29, .aload_n 0, 1, 0), (30, .getfield 91, 3, 662), (33, .imul, 1, 0), (34, .invokevirtual 239, 3, 188), (37, .aload_n 0, 1, 0), (38, .getfield 79, 3, 642), (41, .ireturn, 1, 0)]
def ip_cT_195 : List (Nat × Instr × Nat × Nat) := ip_cT_195_0
def ip_cT_196_0 : List (Nat × Instr × Nat × Nat) := [(0, .iload_n 2, 1, 0), (1, .ifCond .ne 12, 3, 13), (4, .aload_n 0, 1, 0), (5, .getfield 16, 3, 647), (8, .iload_n 1, 1, 0), (9, .iaload, 1, 0), (10, .goto 53, 3, 63), (13, .iload_n 2, 1, 0), (14, .iconst 1, 1, 0), (15, .if_icmp .ne 12, 3, 27), (18, .aload_n 0, 1, 0), (19, .getfield 19, 3, 648), (22, .iload_n 1, 1, 0), (23, .iaload, 1, 0), (24, .goto 39, 3, 63), (27, .iload_n 2, 1, 0), (28, .iconst 2, 1, 0), (29, .if_icmp .ne 12, 3, 41), (32, .aload_n 0, 1, 0), (33, .getfield 22, 3, 649), (36, .iload_n 1, 1, 0), (37, .iaload, 1, 0), (38, .goto 25, 3, 63), (41, .iload_n 2, 1, 0), (42, .iconst 3, 1, 0), (43, .if_icmp .ne 12, 3, 55), (46, .aload_n 0, 1, 0), (47, .getfield 25, 3, 650), (50, .iload_n 1, 1, 0), (51, .iaload, 1, 0), (52, .goto 11, 3, 63), (55, .aload_n 0, 1, 0), (56, .invokevirtual 218, 3, 175), (59, .iload_n 1, 1, 0), (60, .ishr, 1, 0), (61, .iconst 1, 1, 0), (62, .iand, 1, 0), (63, .ireturn, 1, 0)]
def ip_cT_196 : List (Nat × Instr × Nat × Nat) := ip_cT_196_0
def ip_cT_197_0 : List (Nat × Instr × Nat × Nat) := [(0, .aload_n 0, 1, 0), (1, .iload_n 1, 1, 0), (2, .invokevirtual 227, 3, 150), (5, .ifCond .eq 21, 3, 26), (8, .iload_n 2, 1, 0), (9, .iconst 0, 1, 0), (10, .iconst 4, 1, 0), (11, .invokestatic 94, 3, 143), (14, .ifCond .eq 12, 3, 26), (17, .aload_n 0, 1, 0), (18, .iload_n 1, 1, 0), (19, .iload_n 2, 1, 0), (20, .invokevirtual 242, 3, 196), (23, .goto 7, 3, 30), (26, .aload_n 0, 1, 0), (27, .invokevirtual 98, 3, 140), (30, .ireturn, 1, 0)]
def ip_cT_197 : List (Nat × Instr × Nat × Nat) := ip_cT_197_0
def ip_cT_198_0 : List (Nat × Instr × Nat × Nat) := [(0, .iload_n 1, 1, 0), (1, .iconst 0, 1, 0), (2, .bipush 11, 2, 0), (4, .invokestatic 94, 3, 143), (7, .ifCond .eq 12, 3, 19), (10, .iload_n 2, 1, 0), (11, .iconst 0, 1, 0), (12, .iconst 1, 1, 0), (13, .invokestatic 94, 3, 143), (16, .ifCond .ne 8, 3, 24), (19, .aload_n 0, 1, 0), (20, .invokevirtual 98, 3, 140), (23, .ireturn, 1, 0), (24, .iload_n 2, 1, 0), (25, .ifCond .ne 11, 3, 36), (28, .aload_n 0, 1, 0), (29, .iload_n 1, 1, 0), (30, .invokevirtual 221, 3, 181), (33, .goto 12, 3, 45), (36, .aload_n 0, 1, 0), (37, .iload_n 1, 1, 0), (38, .aload_n 0, 1, 0), (39, .invokevirtual 218, 3, 175), (42, .invokevirtual 209, 3, 182), (45, .ireturn, 1, 0)]
def ip_cT_198 : List (Nat × Instr × Nat × Nat) := ip_cT_198_0
def ip_cT_199_0 : List (Nat × Instr × Nat × Nat) := [(0, .iload_n 1, 1, 0), (1, .iconst 0, 1, 0), (2, .iconst 1, 1, 0), (3, .invokestatic 94, 3, 143), (6, .ifCond .ne 8, 3, 14), (9, .aload_n 0, 1, 0), (10, .invokevirtual 98, 3, 140), (13, .ireturn, 1, 0), (14, .aload_n 0, 1, 0), (15, .aload_n 0, 1, 0), (16, .invokevirtual 218, 3, 175), (19, .invokevirtual 212, 3, 183), (22, .iconst 1, 1, 0), (23, .istore_n 2, 1, 0), (24, .iload_n 2, 1, 0), (25, .bipush 12, 2, 0), (27, .if_icmp .ge 18, 3, 45), (30, .aload_n 0, 1, 0), (31, .iload_n 2, 1, 0), (32, .invokevirtual 215, 3, 184), (35, .iconst (-1), 1, 0), (36, .if_icmp .ne 9, 3, 45), (39, .iinc 2 1, 3, 0), (42, .goto (-18), 3, 24), (45, .iload_n 2, 1, 0), (46, .bipush 12, 2, 0), (48, .if_icmp .ne 7, 3, 55), (51, .iconst (-1), 1, 0), (52, .goto 16, 3, 68), (55, .iload_n 1, 1, 0), (56, .ifCond .ne 7, 3, 63), (59, .iload_n 2, 1, 0), (60, .goto 8, 3, 68), (63, .aload_n 0, 1, 0), (64, .iload_n 2, 1, 0), (65, .invokevirtual 215, 3, 184), (68, .ireturn, 1, 0)]
def ip_cT_199 : List (Nat × Instr × Nat × Nat) := ip_cT_199_0
def ip_cT_200_0 : List (Nat × Instr × Nat × Nat) := [(0, .iload_n 1, 1, 0), (1, .iconst 0, 1, 0), (2, .iconst 1, 1, 0), (3, .invokestatic 94, 3, 143), (6, .ifCond .ne 8, 3, 14), (9, .aload_n 0, 1, 0), (10, .invokevirtual 98, 3, 140), (13, .ireturn, 1, 0), (14, .aload_n 0, 1, 0), (15, .invokevirtual 218, 3, 175), (18, .istore_n 2, 1, 0), (19, .iconst 0, 1, 0), (20, .istore_n 3, 1, 0), (21, .iconst 0, 1, 0), (22, .istore 4, 2, 0), (24, .iconst 1, 1, 0), (25, .istore 5, 2, 0), (27, .iload 5, 2, 0), (29, .bipush 12, 2, 0), (31, .if_icmp .ge 84, 3, 115), (34, .iconst 0, 1, 0), (35, .istore 6, 2, 0), (37, .iconst 0, 1, 0), (38, .istore 7, 2, 0), (40, .iload 7, 2, 0), (42, .aload_n 0, 1, 0), (43, .getfield 75, 3, 641), (46, .if_icmp .ge 40, 3, 86), (49, .iload 6, 2, 0), (51, .iload_n 2, 1, 0), (52, .iload 7, 2, 0), (54, .invokestatic 196, 3, 144), (57, .ifCond .eq 19, 3, 76), (60, .aload_n 0, 1, 0), (61, .getfield 19, 3, 648), (64, .iload 7, 2, 0), (66, .iaload, 1, 0), (67, .iload 5, 2, 0), (69, .if_icmp .ne 7, 3, 76), (72, .iconst 1, 1, 0), (73, .goto 4, 3, 77), (76, .iconst 0, 1, 0), (77, .iadd, 1, 0), (78, .istore 6, 2, 0), (80, .iinc 7 1, 3, 0), (83, .goto (-43), 3, 40), (86, .iload 6, 2, 0), (88, .iload 4, 2, 0), (90, .if_icmp .le 8, 3, 98), (93, .iload 5, 2, 0)]
def ip_cT_200_1 : List (Nat × Instr × Nat × Nat) := [(95, .goto 4, 3, 99), (98, .iload_n 3, 1, 0), (99, .istore_n 3, 1, 0), (100, .iload 4, 2, 0), (102, .iload 6, 2, 0), (104, .invokestatic 180, 3, 146), (107, .istore 4, 2, 0), (109, .iinc 5 1, 3, 0), (112, .goto (-85), 3, 27), (115, .iload_n 1, 1, 0), (116, .ifCond .ne 8, 3, 124), (119, .iload 4, 2, 0), (121, .goto 4, 3, 125), (124, .iload_n 3, 1, 0), (125, .ireturn, 1, 0)]
def ip_cT_200 : List (Nat × Instr × Nat × Nat) := ip_cT_200_0 ++ ip_cT_200_1
def ip_cT_201_0 : List (Nat × Instr × Nat × Nat) := [(0, .aload_n 0, 1, 0), (1, .invokevirtual 218, 3, 175), (4, .istore_n 1, 1, 0), (5, .iconst (-1), 1, 0), (6, .istore_n 2, 1, 0), (7, .ldc 245, 2, 1), (9, .istore_n 3, 1, 0), (10, .iconst 0, 1, 0), (11, .istore 4, 2, 0), (13, .iload 4, 2, 0), (15, .iload_n 1, 1, 0), (16, .if_icmp .gt 61, 3, 77), (19, .iload 4, 2, 0), (21, .iload_n 1, 1, 0), (22, .iconst (-1), 1, 0), (23, .ixor, 1, 0), (24, .iand, 1, 0), (25, .ifCond .ne 16, 3, 41), (28, .iload 4, 2, 0), (30, .invokestatic 246, 3, 147), (33, .iload_n 3, 1, 0), (34, .if_icmp .ge 7, 3, 41), (37, .iconst 1, 1, 0), (38, .goto 4, 3, 42), (41, .iconst 0, 1, 0), (42, .istore 5, 2, 0), (44, .iload 5, 2, 0), (46, .ifCond .eq 25, 3, 71), (49, .aload_n 0, 1, 0), (50, .iload_n 1, 1, 0), (51, .iload 4, 2, 0), (53, .iconst (-1), 1, 0), (54, .ixor, 1, 0), (55, .iand, 1, 0), (56, .invokevirtual 236, 3, 185), (59, .ifCond .eq 12, 3, 71), (62, .iload 4, 2, 0), (64, .istore_n 2, 1, 0), (65, .iload 4, 2, 0), (67, .invokestatic 246, 3, 147), (70, .istore_n 3, 1, 0), (71, .iinc 4 1, 3, 0), (74, .goto (-61), 3, 13), (77, .iload_n 2, 1, 0), (78, .ireturn, 1, 0)]
def ip_cT_201 : List (Nat × Instr × Nat × Nat) := ip_cT_201_0
def ip_cT_202_0 : List (Nat × Instr × Nat × Nat) := [(0, .aload_n 0, 1, 0), (1, .invokevirtual 218, 3, 175), (4, .istore_n 1, 1, 0), (5, .iconst 0, 1, 0), (6, .istore_n 2, 1, 0), (7, .iload_n 2, 1, 0), (8, .bipush 6, 2, 0), (10, .if_icmp .ge 28, 3, 38), (13, .aload_n 0, 1, 0), (14, .getfield 55, 3, 664), (17, .iload_n 2, 1, 0), (18, .aload_n 0, 1, 0), (19, .getfield 13, 3, 646), (22, .iload_n 2, 1, 0), (23, .iaload, 1, 0), (24, .iastore, 1, 0), (25, .aload_n 0, 1, 0), (26, .getfield 13, 3, 646), (29, .iload_n 2, 1, 0), (30, .iconst 1, 1, 0), (31, .iastore, 1, 0), (32, .iinc 2 1, 3, 0), (35, .goto (-28), 3, 7), (38, .aload_n 0, 1, 0), (39, .iload_n 1, 1, 0), (40, .invokevirtual 236, 3, 185), (43, .istore_n 2, 1, 0), (44, .iconst 1, 1, 0), (45, .istore_n 3, 1, 0), (46, .iload_n 2, 1, 0), (47, .ifCond .ne 75, 3, 122), (50, .iload_n 3, 1, 0), (51, .ifCond .eq 71, 3, 122), (54, .iconst 5, 1, 0), (55, .istore 4, 2, 0), (57, .iload 4, 2, 0), (59, .ifCond .lt 28, 3, 87), (62, .aload_n 0, 1, 0), (63, .getfield 13, 3, 646), (66, .iload 4, 2, 0), (68, .iaload, 1, 0), (69, .iconst 3, 1, 0), (70, .if_icmp .ne 17, 3, 87), (73, .aload_n 0, 1, 0), (74, .getfield 13, 3, 646), (77, .iload 4, 2, 0), (79, .iconst 1, 1, 0), (80, .iastore, 1, 0), (81, .iinc 4 (-1), 3, 0), (84, .goto (-27), 3, 57)]
def ip_cT_202_1 : List (Nat × Instr × Nat × Nat) := [(87, .iload 4, 2, 0), (89, .ifCond .lt 7, 3, 96), (92, .iconst 1, 1, 0), (93, .goto 4, 3, 97), (96, .iconst 0, 1, 0), (97, .istore_n 3, 1, 0), (98, .iload_n 3, 1, 0), (99, .ifCond .eq 20, 3, 119), (102, .aload_n 0, 1, 0), (103, .getfield 13, 3, 646), (106, .iload 4, 2, 0), (108, .dup2, 1, 0), (109, .iaload, 1, 0), (110, .iconst 1, 1, 0), (111, .iadd, 1, 0), (112, .iastore, 1, 0), (113, .aload_n 0, 1, 0), (114, .iload_n 1, 1, 0), (115, .invokevirtual 236, 3, 185), (118, .istore_n 2, 1, 0), (119, .goto (-73), 3, 46), (122, .iconst 0, 1, 0), (123, .istore 4, 2, 0), (125, .iconst 0, 1, 0), (126, .istore 5, 2, 0), (128, .iload 5, 2, 0), (130, .bipush 6, 2, 0), (132, .if_icmp .ge 38, 3, 170), (135, .bipush 10, 2, 0), (137, .iload 4, 2, 0), (139, .imul, 1, 0), (140, .aload_n 0, 1, 0), (141, .getfield 13, 3, 646), (144, .iload 5, 2, 0), (146, .iaload, 1, 0), (147, .iadd, 1, 0), (148, .istore 4, 2, 0), (150, .aload_n 0, 1, 0), (151, .getfield 13, 3, 646), (154, .iload 5, 2, 0), (156, .aload_n 0, 1, 0), (157, .getfield 55, 3, 664), (160, .iload 5, 2, 0), (162, .iaload, 1, 0), (163, .iastore, 1, 0), (164, .iinc 5 1, 3, 0), (167, .goto (-39), 3, 128), (170, .iload_n 2, 1, 0), (171, .ifCond .eq 8, 3, 179), (174, .iload 4, 2, 0)]
def ip_cT_202_2 : List (Nat × Instr × Nat × Nat) := [(176, .goto 4, 3, 180), (179, .iconst (-1), 1, 0), (180, .ireturn, 1, 0)]
def ip_cT_202 : List (Nat × Instr × Nat × Nat) := ip_cT_202_0 ++ ip_cT_202_1 ++ ip_cT_202_2
def ip_cT_203_0 : List (Nat × Instr × Nat × Nat) := [(0, .aload_n 0, 1, 0), (1, .aload_n 0, 1, 0), (2, .getfield 52, 3, 663), (5, .iconst 0, 1, 0), (6, .invokevirtual 224, 3, 187), (9, .iconst 0, 1, 0), (10, .istore_n 1, 1, 0), (11, .aload_n 0, 1, 0), (12, .aload_n 0, 1, 0), (13, .invokevirtual 218, 3, 175), (16, .invokevirtual 236, 3, 185), (19, .istore_n 2, 1, 0), (20, .iload_n 1, 1, 0), (21, .bipush 60, 2, 0), (23, .if_icmp .ge 26, 3, 49), (26, .iload_n 2, 1, 0), (27, .ifCond .ne 22, 3, 49), (30, .aload_n 0, 1, 0), (31, .invokevirtual 142, 3, 190), (34, .iinc 1 1, 3, 0), (37, .aload_n 0, 1, 0), (38, .aload_n 0, 1, 0), (39, .invokevirtual 218, 3, 175), (42, .invokevirtual 236, 3, 185), (45, .istore_n 2, 1, 0), (46, .goto (-26), 3, 20), (49, .aload_n 0, 1, 0), (50, .aload_n 0, 1, 0), (51, .getfield 52, 3, 663), (54, .iconst 0, 1, 0), (55, .invokevirtual 239, 3, 188), (58, .iload_n 2, 1, 0), (59, .ifCond .eq 7, 3, 66), (62, .iload_n 1, 1, 0), (63, .goto 4, 3, 67), (66, .iconst (-1), 1, 0), (67, .ireturn, 1, 0)]
def ip_cT_203 : List (Nat × Instr × Nat × Nat) := ip_cT_203_0
def ip_cT_204_0 : List (Nat × Instr × Nat × Nat) := [(0, .iconst 1, 1, 0), (1, .aload_n 0, 1, 0), (2, .getfield 75, 3, 641), (5, .ishl, 1, 0), (6, .iconst 1, 1, 0), (7, .isub, 1, 0), (8, .aload_n 0, 1, 0), (9, .invokevirtual 218, 3, 175), (12, .iconst (-1), 1, 0), (13, .ixor, 1, 0), (14, .iand, 1, 0), (15, .ireturn, 1, 0)]
def ip_cT_204 : List (Nat × Instr × Nat × Nat) := ip_cT_204_0
def ip_cT_205_0 : List (Nat × Instr × Nat × Nat) := [(0, .iconst 0, 1, 0), (1, .istore_n 2, 1, 0), (2, .iload_n 1, 1, 0), (3, .istore_n 3, 1, 0), (4, .iconst 0, 1, 0), (5, .istore 4, 2, 0), (7, .iload 4, 2, 0), (9, .aload_n 0, 1, 0), (10, .getfield 75, 3, 641), (13, .if_icmp .ge 51, 3, 64), (16, .iload_n 3, 1, 0), (17, .bipush 10, 2, 0), (19, .irem, 1, 0), (20, .istore 5, 2, 0), (22, .iload_n 3, 1, 0), (23, .bipush 10, 2, 0), (25, .idiv, 1, 0), (26, .istore_n 3, 1, 0), (27, .iload 5, 2, 0), (29, .iconst 1, 1, 0), (30, .aload_n 0, 1, 0), (31, .getfield 75, 3, 641), (34, .invokestatic 94, 3, 143), (37, .ifCond .eq 12, 3, 49), (40, .iload_n 2, 1, 0), (41, .iload 5, 2, 0), (43, .invokestatic 196, 3, 144), (46, .ifCond .eq 5, 3, 51), (49, .iconst 0, 1, 0), (50, .ireturn, 1, 0), (51, .iload_n 2, 1, 0), (52, .iconst 1, 1, 0), (53, .iload 5, 2, 0), (55, .ishl, 1, 0), (56, .ior, 1, 0), (57, .istore_n 2, 1, 0), (58, .iinc 4 1, 3, 0), (61, .goto (-54), 3, 7), (64, .iload_n 1, 1, 0), (65, .ifCond .le 11, 3, 76), (68, .iload_n 3, 1, 0), (69, .ifCond .ne 7, 3, 76), (72, .iconst 1, 1, 0), (73, .goto 4, 3, 77), (76, .iconst 0, 1, 0), (77, .ireturn, 1, 0)]
def ip_cT_205 : List (Nat × Instr × Nat × Nat) := ip_cT_205_0
def ip_cT_206_0 : List (Nat × Instr × Nat × Nat) := [(0, .iload_n 1, 1, 0), (1, .iconst 1, 1, 0), (2, .bipush 11, 2, 0), (4, .invokestatic 94, 3, 143), (7, .ifCond .eq 11, 3, 18), (10, .aload_n 0, 1, 0), (11, .iload_n 2, 1, 0), (12, .invokevirtual 249, 3, 205), (15, .ifCond .ne 8, 3, 23), (18, .aload_n 0, 1, 0), (19, .invokevirtual 98, 3, 140), (22, .ireturn, 1, 0), (23, .aload_n 0, 1, 0), (24, .getfield 82, 3, 643), (27, .iconst 4, 1, 0), (28, .if_icmp .ne 8, 3, 36), (31, .aload_n 0, 1, 0), (32, .invokevirtual 105, 3, 142), (35, .ireturn, 1, 0), (36, .aload_n 0, 1, 0), (37, .getfield 28, 3, 651), (40, .iconst 2, 1, 0), (41, .aload_n 0, 1, 0), (42, .getfield 82, 3, 643), (45, .imul, 1, 0), (46, .iload_n 1, 1, 0), (47, .iastore, 1, 0), (48, .aload_n 0, 1, 0), (49, .getfield 28, 3, 651), (52, .iconst 2, 1, 0), (53, .aload_n 0, 1, 0), (54, .getfield 82, 3, 643), (57, .imul, 1, 0), (58, .iconst 1, 1, 0), (59, .iadd, 1, 0), (60, .iload_n 2, 1, 0), (61, .iastore, 1, 0), (62, .aload_n 0, 1, 0), (63, .dup, 1, 0), (64, .getfield 82, 3, 643), (67, .iconst 1, 1, 0), (68, .iadd, 1, 0), (69, .putfield 82, 3, 643), (72, .aload_n 0, 1, 0), (73, .getfield 82, 3, 643), (76, .ireturn, 1, 0)]
def ip_cT_206 : List (Nat × Instr × Nat × Nat) := ip_cT_206_0
def ip_cT_207_0 : List (Nat × Instr × Nat × Nat) := [(0, .iconst 1, 1, 0), (1, .istore_n 2, 1, 0), (2, .iconst 0, 1, 0), (3, .istore_n 3, 1, 0), (4, .iload_n 3, 1, 0), (5, .iconst 2, 1, 0), (6, .aload_n 0, 1, 0), (7, .getfield 82, 3, 643), (10, .imul, 1, 0), (11, .if_icmp .ge 41, 3, 52), (14, .iload_n 2, 1, 0), (15, .ifCond .eq 29, 3, 44), (18, .aload_n 0, 1, 0), (19, .aload_n 0, 1, 0), (20, .getfield 28, 3, 651), (23, .iload_n 3, 1, 0), (24, .iaload, 1, 0), (25, .iload_n 1, 1, 0), (26, .invokevirtual 209, 3, 182), (29, .aload_n 0, 1, 0), (30, .getfield 28, 3, 651), (33, .iload_n 3, 1, 0), (34, .iconst 1, 1, 0), (35, .iadd, 1, 0), (36, .iaload, 1, 0), (37, .if_icmp .ne 7, 3, 44), (40, .iconst 1, 1, 0), (41, .goto 4, 3, 45), (44, .iconst 0, 1, 0), (45, .istore_n 2, 1, 0), (46, .iinc 3 2, 3, 0), (49, .goto (-45), 3, 4), (52, .iload_n 2, 1, 0), (53, .ireturn, 1, 0)]
def ip_cT_207 : List (Nat × Instr × Nat × Nat) := ip_cT_207_0
def ip_cT_208_0 : List (Nat × Instr × Nat × Nat) := [(0, .iload_n 1, 1, 0), (1, .iconst 0, 1, 0), (2, .iconst 2, 1, 0), (3, .invokestatic 94, 3, 143), (6, .ifCond .ne 8, 3, 14), (9, .aload_n 0, 1, 0), (10, .invokevirtual 98, 3, 140), (13, .ireturn, 1, 0), (14, .aload_n 0, 1, 0), (15, .invokevirtual 252, 3, 174), (18, .istore_n 2, 1, 0), (19, .iconst 0, 1, 0), (20, .istore_n 3, 1, 0), (21, .iload_n 2, 1, 0), (22, .istore 4, 2, 0), (24, .iconst 0, 1, 0), (25, .istore 5, 2, 0), (27, .iconst 0, 1, 0), (28, .istore 6, 2, 0), (30, .iload 6, 2, 0), (32, .iload_n 2, 1, 0), (33, .if_icmp .gt 44, 3, 77), (36, .iload 6, 2, 0), (38, .iload_n 2, 1, 0), (39, .iconst (-1), 1, 0), (40, .ixor, 1, 0), (41, .iand, 1, 0), (42, .ifCond .ne 29, 3, 71), (45, .aload_n 0, 1, 0), (46, .iload 6, 2, 0), (48, .invokevirtual 255, 3, 207), (51, .ifCond .eq 20, 3, 71), (54, .iinc 3 1, 3, 0), (57, .iload 4, 2, 0), (59, .iload 6, 2, 0), (61, .iand, 1, 0), (62, .istore 4, 2, 0), (64, .iload 5, 2, 0), (66, .iload 6, 2, 0), (68, .ior, 1, 0), (69, .istore 5, 2, 0), (71, .iinc 6 1, 3, 0), (74, .goto (-44), 3, 30), (77, .iload_n 1, 1, 0), (78, .ifCond .ne 7, 3, 85), (81, .iload_n 3, 1, 0), (82, .goto 23, 3, 105), (85, .iload_n 1, 1, 0), (86, .iconst 2, 1, 0), (87, .if_icmp .ne 8, 3, 95)]
def ip_cT_208_1 : List (Nat × Instr × Nat × Nat) := [(90, .iload 5, 2, 0), (92, .goto 13, 3, 105), (95, .iload_n 3, 1, 0), (96, .ifCond .ne 7, 3, 103), (99, .iconst (-1), 1, 0), (100, .goto 5, 3, 105), (103, .iload 4, 2, 0), (105, .ireturn, 1, 0)]
def ip_cT_208 : List (Nat × Instr × Nat × Nat) := ip_cT_208_0 ++ ip_cT_208_1
def ip_cT_209_0 : List (Nat × Instr × Nat × Nat) := [(0, .aload_n 0, 1, 0), (1, .invokevirtual 252, 3, 174), (4, .istore_n 2, 1, 0), (5, .iconst 0, 1, 0), (6, .istore_n 3, 1, 0), (7, .iconst 0, 1, 0), (8, .istore 4, 2, 0), (10, .iload 4, 2, 0), (12, .iload_n 2, 1, 0), (13, .if_icmp .gt 43, 3, 56), (16, .iload 4, 2, 0), (18, .iload_n 2, 1, 0), (19, .iconst (-1), 1, 0), (20, .ixor, 1, 0), (21, .iand, 1, 0), (22, .ifCond .ne 28, 3, 50), (25, .aload_n 0, 1, 0), (26, .iload 4, 2, 0), (28, .invokevirtual 255, 3, 207), (31, .ifCond .eq 19, 3, 50), (34, .aload_n 0, 1, 0), (35, .getfield 58, 3, 665), (38, .iload_n 3, 1, 0), (39, .aload_n 0, 1, 0), (40, .iload_n 1, 1, 0), (41, .iload 4, 2, 0), (43, .invokevirtual 209, 3, 182), (46, .iastore, 1, 0), (47, .iinc 3 1, 3, 0), (50, .iinc 4 1, 3, 0), (53, .goto (-43), 3, 10), (56, .iconst 0, 1, 0), (57, .istore 4, 2, 0), (59, .iconst 0, 1, 0), (60, .istore 5, 2, 0), (62, .iload 5, 2, 0), (64, .iload_n 3, 1, 0), (65, .if_icmp .ge 63, 3, 128), (68, .iconst 0, 1, 0), (69, .istore 6, 2, 0), (71, .iconst 0, 1, 0), (72, .istore 7, 2, 0), (74, .iload 7, 2, 0), (76, .iload_n 3, 1, 0), (77, .if_icmp .ge 36, 3, 113), (80, .iload 6, 2, 0), (82, .aload_n 0, 1, 0), (83, .getfield 58, 3, 665), (86, .iload 5, 2, 0), (88, .iaload, 1, 0)]
def ip_cT_209_1 : List (Nat × Instr × Nat × Nat) := [(89, .aload_n 0, 1, 0), (90, .getfield 58, 3, 665), (93, .iload 7, 2, 0), (95, .iaload, 1, 0), (96, .if_icmp .ne 7, 3, 103), (99, .iconst 1, 1, 0), (100, .goto 4, 3, 104), (103, .iconst 0, 1, 0), (104, .iadd, 1, 0), (105, .istore 6, 2, 0), (107, .iinc 7 1, 3, 0), (110, .goto (-36), 3, 74), (113, .iload 4, 2, 0), (115, .iload 6, 2, 0), (117, .invokestatic 180, 3, 146), (120, .istore 4, 2, 0), (122, .iinc 5 1, 3, 0), (125, .goto (-63), 3, 62), (128, .iload 4, 2, 0), (130, .ireturn, 1, 0)]
def ip_cT_209 : List (Nat × Instr × Nat × Nat) := ip_cT_209_0 ++ ip_cT_209_1
def ip_cT_210_0 : List (Nat × Instr × Nat × Nat) := [(0, .iconst (-1), 1, 0), (1, .istore_n 1, 1, 0), (2, .ldc 245, 2, 1), (4, .istore_n 2, 1, 0), (5, .iconst 1, 1, 0), (6, .istore_n 3, 1, 0), (7, .iload_n 3, 1, 0), (8, .bipush 12, 2, 0), (10, .if_icmp .ge 49, 3, 59), (13, .aload_n 0, 1, 0), (14, .iload_n 3, 1, 0), (15, .invokevirtual 258, 3, 209), (18, .istore 4, 2, 0), (20, .iload 4, 2, 0), (22, .ifCond .le 13, 3, 35), (25, .iload 4, 2, 0), (27, .iload_n 2, 1, 0), (28, .if_icmp .ge 7, 3, 35), (31, .iload_n 3, 1, 0), (32, .goto 4, 3, 36), (35, .iload_n 1, 1, 0), (36, .istore_n 1, 1, 0), (37, .iload 4, 2, 0), (39, .ifCond .le 12, 3, 51), (42, .iload_n 2, 1, 0), (43, .iload 4, 2, 0), (45, .invokestatic 176, 3, 145), (48, .goto 4, 3, 52), (51, .iload_n 2, 1, 0), (52, .istore_n 2, 1, 0), (53, .iinc 3 1, 3, 0), (56, .goto (-49), 3, 7), (59, .iload_n 1, 1, 0), (60, .ireturn, 1, 0)]
def ip_cT_210 : List (Nat × Instr × Nat × Nat) := ip_cT_210_0
def ip_cT_211_0 : List (Nat × Instr × Nat × Nat) := [(0, .aload_n 0, 1, 0), (1, .iload_n 1, 1, 0), (2, .invokevirtual 227, 3, 150), (5, .ifCond .eq 23, 3, 28), (8, .iload_n 2, 1, 0), (9, .iconst 1, 1, 0), (10, .bipush 6, 2, 0), (12, .invokestatic 94, 3, 143), (15, .ifCond .eq 13, 3, 28), (18, .iload_n 3, 1, 0), (19, .iconst 1, 1, 0), (20, .bipush 6, 2, 0), (22, .invokestatic 94, 3, 143), (25, .ifCond .ne 8, 3, 33), (28, .aload_n 0, 1, 0), (29, .invokevirtual 98, 3, 140), (32, .ireturn, 1, 0), (33, .aload_n 0, 1, 0), (34, .getfield 85, 3, 644), (37, .bipush 6, 2, 0), (39, .if_icmp .ne 8, 3, 47), (42, .aload_n 0, 1, 0), (43, .invokevirtual 105, 3, 142), (46, .ireturn, 1, 0), (47, .aload_n 0, 1, 0), (48, .getfield 31, 3, 652), (51, .iconst 3, 1, 0), (52, .aload_n 0, 1, 0), (53, .getfield 85, 3, 644), (56, .imul, 1, 0), (57, .iload_n 1, 1, 0), (58, .iastore, 1, 0), (59, .aload_n 0, 1, 0), (60, .getfield 31, 3, 652), (63, .iconst 3, 1, 0), (64, .aload_n 0, 1, 0), (65, .getfield 85, 3, 644), (68, .imul, 1, 0), (69, .iconst 1, 1, 0), (70, .iadd, 1, 0), (71, .iload_n 2, 1, 0), (72, .iastore, 1, 0), (73, .aload_n 0, 1, 0), (74, .getfield 31, 3, 652), (77, .iconst 3, 1, 0), (78, .aload_n 0, 1, 0), (79, .getfield 85, 3, 644), (82, .imul, 1, 0), (83, .iconst 2, 1, 0), (84, .iadd, 1, 0)]
def ip_cT_211_1 : List (Nat × Instr × Nat × Nat) := [(85, .iload_n 3, 1, 0), (86, .iastore, 1, 0), (87, .aload_n 0, 1, 0), (88, .dup, 1, 0), (89, .getfield 85, 3, 644), (92, .iconst 1, 1, 0), (93, .iadd, 1, 0), (94, .putfield 85, 3, 644), (97, .aload_n 0, 1, 0), (98, .getfield 85, 3, 644), (101, .ireturn, 1, 0)]
def ip_cT_211 : List (Nat × Instr × Nat × Nat) := ip_cT_211_0 ++ ip_cT_211_1
def ip_cT_212_0 : List (Nat × Instr × Nat × Nat) := [(0, .aload_n 0, 1, 0), (1, .iload_n 1, 1, 0), (2, .invokevirtual 227, 3, 150), (5, .ifCond .eq 33, 3, 38), (8, .iload_n 2, 1, 0), (9, .iconst 0, 1, 0), (10, .bipush 99, 2, 0), (12, .invokestatic 94, 3, 143), (15, .ifCond .eq 23, 3, 38), (18, .iload_n 3, 1, 0), (19, .iconst 0, 1, 0), (20, .bipush 99, 2, 0), (22, .invokestatic 94, 3, 143), (25, .ifCond .eq 13, 3, 38), (28, .iload 4, 2, 0), (30, .iconst 0, 1, 0), (31, .iconst 1, 1, 0), (32, .invokestatic 94, 3, 143), (35, .ifCond .ne 8, 3, 43), (38, .aload_n 0, 1, 0), (39, .invokevirtual 98, 3, 140), (42, .ireturn, 1, 0), (43, .aload_n 0, 1, 0), (44, .getfield 88, 3, 645), (47, .bipush 6, 2, 0), (49, .if_icmp .ne 8, 3, 57), (52, .aload_n 0, 1, 0), (53, .invokevirtual 105, 3, 142), (56, .ireturn, 1, 0), (57, .aload_n 0, 1, 0), (58, .getfield 34, 3, 653), (61, .iconst 4, 1, 0), (62, .aload_n 0, 1, 0), (63, .getfield 88, 3, 645), (66, .imul, 1, 0), (67, .iload_n 1, 1, 0), (68, .iastore, 1, 0), (69, .aload_n 0, 1, 0), (70, .getfield 34, 3, 653), (73, .iconst 4, 1, 0), (74, .aload_n 0, 1, 0), (75, .getfield 88, 3, 645), (78, .imul, 1, 0), (79, .iconst 1, 1, 0), (80, .iadd, 1, 0), (81, .iload_n 2, 1, 0), (82, .iastore, 1, 0), (83, .aload_n 0, 1, 0), (84, .getfield 34, 3, 653), (87, .iconst 4, 1, 0)]
def ip_cT_212_1 : List (Nat × Instr × Nat × Nat) := [(88, .aload_n 0, 1, 0), (89, .getfield 88, 3, 645), (92, .imul, 1, 0), (93, .iconst 2, 1, 0), (94, .iadd, 1, 0), (95, .iload_n 3, 1, 0), (96, .iastore, 1, 0), (97, .aload_n 0, 1, 0), (98, .getfield 34, 3, 653), (101, .iconst 4, 1, 0), (102, .aload_n 0, 1, 0), (103, .getfield 88, 3, 645), (106, .imul, 1, 0), (107, .iconst 3, 1, 0), (108, .iadd, 1, 0), (109, .iload 4, 2, 0), (111, .iastore, 1, 0), (112, .aload_n 0, 1, 0), (113, .dup, 1, 0), (114, .getfield 88, 3, 645), (117, .iconst 1, 1, 0), (118, .iadd, 1, 0), (119, .putfield 88, 3, 645), (122, .aload_n 0, 1, 0), (123, .getfield 88, 3, 645), (126, .ireturn, 1, 0)]
def ip_cT_212 : List (Nat × Instr × Nat × Nat) := ip_cT_212_0 ++ ip_cT_212_1
def ip_cT_213_0 : List (Nat × Instr × Nat × Nat) := [(0, .iload_n 1, 1, 0), (1, .iconst 0, 1, 0), (2, .iconst 2, 1, 0), (3, .invokestatic 94, 3, 143), (6, .ifCond .ne 8, 3, 14), (9, .aload_n 0, 1, 0), (10, .invokevirtual 98, 3, 140), (13, .ireturn, 1, 0), (14, .iload_n 1, 1, 0), (15, .ifCond .ne 10, 3, 25), (18, .aload_n 0, 1, 0), (19, .getfield 82, 3, 643), (22, .goto 19, 3, 41), (25, .iload_n 1, 1, 0), (26, .iconst 1, 1, 0), (27, .if_icmp .ne 10, 3, 37), (30, .aload_n 0, 1, 0), (31, .getfield 85, 3, 644), (34, .goto 7, 3, 41), (37, .aload_n 0, 1, 0), (38, .getfield 88, 3, 645), (41, .istore_n 2, 1, 0), (42, .aload_n 0, 1, 0), (43, .iload_n 1, 1, 0), (44, .ifCond .ne 7, 3, 51), (47, .iconst 0, 1, 0), (48, .goto 7, 3, 55), (51, .aload_n 0, 1, 0), (52, .getfield 82, 3, 643), (55, .putfield 82, 3, 643), (58, .aload_n 0, 1, 0), (59, .iload_n 1, 1, 0), (60, .iconst 1, 1, 0), (61, .if_icmp .ne 7, 3, 68), (64, .iconst 0, 1, 0), (65, .goto 7, 3, 72), (68, .aload_n 0, 1, 0), (69, .getfield 85, 3, 644), (72, .putfield 85, 3, 644), (75, .aload_n 0, 1, 0), (76, .iload_n 1, 1, 0), (77, .iconst 2, 1, 0), (78, .if_icmp .ne 7, 3, 85), (81, .iconst 0, 1, 0), (82, .goto 7, 3, 89), (85, .aload_n 0, 1, 0), (86, .getfield 88, 3, 645), (89, .putfield 88, 3, 645), (92, .iload_n 2, 1, 0), (93, .ireturn, 1, 0)]
def ip_cT_213 : List (Nat × Instr × Nat × Nat) := ip_cT_213_0
def ip_cT_214_0 : List (Nat × Instr × Nat × Nat) := [(0, .iconst 0, 1, 0), (1, .istore_n 2, 1, 0), (2, .iconst 0, 1, 0), (3, .istore_n 3, 1, 0), (4, .iload_n 3, 1, 0), (5, .iconst 5, 1, 0), (6, .if_icmp .gt 109, 3, 115), (9, .iconst 1, 1, 0), (10, .istore 4, 2, 0), (12, .iconst 0, 1, 0), (13, .istore 5, 2, 0), (15, .iload 5, 2, 0), (17, .iconst 3, 1, 0), (18, .aload_n 0, 1, 0), (19, .getfield 85, 3, 644), (22, .imul, 1, 0), (23, .if_icmp .ge 71, 3, 94), (26, .iload_n 3, 1, 0), (27, .aload_n 0, 1, 0), (28, .getfield 31, 3, 652), (31, .iload 5, 2, 0), (33, .iconst 1, 1, 0), (34, .iadd, 1, 0), (35, .iaload, 1, 0), (36, .bipush 6, 2, 0), (38, .invokestatic 189, 3, 172), (41, .aload_n 0, 1, 0), (42, .getfield 31, 3, 652), (45, .iload 5, 2, 0), (47, .iconst 2, 1, 0), (48, .iadd, 1, 0), (49, .iaload, 1, 0), (50, .if_icmp .ne 7, 3, 57), (53, .iconst 1, 1, 0), (54, .goto 4, 3, 58), (57, .iconst 0, 1, 0), (58, .istore 6, 2, 0), (60, .iload 4, 2, 0), (62, .ifCond .eq 23, 3, 85), (65, .aload_n 0, 1, 0), (66, .getfield 31, 3, 652), (69, .iload 5, 2, 0), (71, .iaload, 1, 0), (72, .iload_n 1, 1, 0), (73, .if_icmp .ne 8, 3, 81), (76, .iload 6, 2, 0), (78, .ifCond .eq 7, 3, 85), (81, .iconst 1, 1, 0), (82, .goto 4, 3, 86), (85, .iconst 0, 1, 0)]
def ip_cT_214_1 : List (Nat × Instr × Nat × Nat) := [(86, .istore 4, 2, 0), (88, .iinc 5 3, 3, 0), (91, .goto (-76), 3, 15), (94, .iload_n 2, 1, 0), (95, .iload 4, 2, 0), (97, .ifCond .eq 9, 3, 106), (100, .iconst 1, 1, 0), (101, .iload_n 3, 1, 0), (102, .ishl, 1, 0), (103, .goto 4, 3, 107), (106, .iconst 0, 1, 0), (107, .ior, 1, 0), (108, .istore_n 2, 1, 0), (109, .iinc 3 1, 3, 0), (112, .goto (-108), 3, 4), (115, .iload_n 2, 1, 0), (116, .ireturn, 1, 0)]
def ip_cT_214 : List (Nat × Instr × Nat × Nat) := ip_cT_214_0 ++ ip_cT_214_1
def ip_cT_215_0 : List (Nat × Instr × Nat × Nat) := [(0, .iconst 0, 1, 0), (1, .istore_n 2, 1, 0), (2, .iconst 0, 1, 0), (3, .istore_n 3, 1, 0), (4, .iload_n 3, 1, 0), (5, .iconst 5, 1, 0), (6, .if_icmp .gt 125, 3, 131), (9, .iconst 1, 1, 0), (10, .istore 4, 2, 0), (12, .iconst 0, 1, 0), (13, .istore 5, 2, 0), (15, .iload 5, 2, 0), (17, .iconst 4, 1, 0), (18, .aload_n 0, 1, 0), (19, .getfield 88, 3, 645), (22, .imul, 1, 0), (23, .if_icmp .ge 87, 3, 110), (26, .iload_n 3, 1, 0), (27, .aload_n 0, 1, 0), (28, .getfield 34, 3, 653), (31, .iload 5, 2, 0), (33, .iconst 1, 1, 0), (34, .iadd, 1, 0), (35, .iaload, 1, 0), (36, .aload_n 0, 1, 0), (37, .getfield 34, 3, 653), (40, .iload 5, 2, 0), (42, .iconst 2, 1, 0), (43, .iadd, 1, 0), (44, .iaload, 1, 0), (45, .invokestatic 183, 3, 173), (48, .aload_n 0, 1, 0), (49, .getfield 34, 3, 653), (52, .iload 5, 2, 0), (54, .iconst 3, 1, 0), (55, .iadd, 1, 0), (56, .iaload, 1, 0), (57, .iconst 1, 1, 0), (58, .if_icmp .ne 7, 3, 65), (61, .iconst 1, 1, 0), (62, .goto 4, 3, 66), (65, .iconst 0, 1, 0), (66, .if_icmp .ne 7, 3, 73), (69, .iconst 1, 1, 0), (70, .goto 4, 3, 74), (73, .iconst 0, 1, 0), (74, .istore 6, 2, 0), (76, .iload 4, 2, 0), (78, .ifCond .eq 23, 3, 101), (81, .aload_n 0, 1, 0)]
def ip_cT_215_1 : List (Nat × Instr × Nat × Nat) := [(82, .getfield 34, 3, 653), (85, .iload 5, 2, 0), (87, .iaload, 1, 0), (88, .iload_n 1, 1, 0), (89, .if_icmp .ne 8, 3, 97), (92, .iload 6, 2, 0), (94, .ifCond .eq 7, 3, 101), (97, .iconst 1, 1, 0), (98, .goto 4, 3, 102), (101, .iconst 0, 1, 0), (102, .istore 4, 2, 0), (104, .iinc 5 4, 3, 0), (107, .goto (-92), 3, 15), (110, .iload_n 2, 1, 0), (111, .iload 4, 2, 0), (113, .ifCond .eq 9, 3, 122), (116, .iconst 1, 1, 0), (117, .iload_n 3, 1, 0), (118, .ishl, 1, 0), (119, .goto 4, 3, 123), (122, .iconst 0, 1, 0), (123, .ior, 1, 0), (124, .istore_n 2, 1, 0), (125, .iinc 3 1, 3, 0), (128, .goto (-124), 3, 4), (131, .iload_n 2, 1, 0), (132, .ireturn, 1, 0)]
def ip_cT_215 : List (Nat × Instr × Nat × Nat) := ip_cT_215_0 ++ ip_cT_215_1
def ip_cT_216_0 : List (Nat × Instr × Nat × Nat) := [(0, .aload_n 0, 1, 0), (1, .iload_n 1, 1, 0), (2, .invokevirtual 227, 3, 150), (5, .ifCond .eq 11, 3, 16), (8, .aload_n 0, 1, 0), (9, .iload_n 1, 1, 0), (10, .invokevirtual 261, 3, 214), (13, .goto 7, 3, 20), (16, .aload_n 0, 1, 0), (17, .invokevirtual 98, 3, 140), (20, .ireturn, 1, 0)]
def ip_cT_216 : List (Nat × Instr × Nat × Nat) := ip_cT_216_0
def ip_cT_217_0 : List (Nat × Instr × Nat × Nat) := [(0, .aload_n 0, 1, 0), (1, .iload_n 1, 1, 0), (2, .invokevirtual 227, 3, 150), (5, .ifCond .eq 11, 3, 16), (8, .aload_n 0, 1, 0), (9, .iload_n 1, 1, 0), (10, .invokevirtual 264, 3, 215), (13, .goto 7, 3, 20), (16, .aload_n 0, 1, 0), (17, .invokevirtual 98, 3, 140), (20, .ireturn, 1, 0)]
def ip_cT_217 : List (Nat × Instr × Nat × Nat) := ip_cT_217_0
def ip_cT_218_0 : List (Nat × Instr × Nat × Nat) := [(0, .aload_n 0, 1, 0), (1, .iload_n 1, 1, 0), (2, .invokevirtual 227, 3, 150), (5, .ifCond .ne 8, 3, 13), (8, .aload_n 0, 1, 0), (9, .invokevirtual 98, 3, 140), (12, .ireturn, 1, 0), (13, .aload_n 0, 1, 0), (14, .iload_n 1, 1, 0), (15, .invokevirtual 261, 3, 214), (18, .istore_n 2, 1, 0), (19, .iconst (-1), 1, 0), (20, .istore_n 3, 1, 0), (21, .ldc 245, 2, 1), (23, .istore 4, 2, 0), (25, .iconst 1, 1, 0), (26, .istore 5, 2, 0), (28, .iload 5, 2, 0), (30, .bipush 6, 2, 0), (32, .if_icmp .gt 130, 3, 162), (35, .iload_n 2, 1, 0), (36, .ifCond .eq 126, 3, 162), (39, .iconst 0, 1, 0), (40, .istore 6, 2, 0), (42, .iconst 0, 1, 0), (43, .istore 7, 2, 0), (45, .iload 7, 2, 0), (47, .iconst 5, 1, 0), (48, .if_icmp .gt 85, 3, 133), (51, .iconst 0, 1, 0), (52, .istore 8, 2, 0), (54, .iconst 0, 1, 0), (55, .istore 9, 2, 0), (57, .iload 9, 2, 0), (59, .iconst 5, 1, 0), (60, .if_icmp .gt 58, 3, 118), (63, .iload 8, 2, 0), (65, .iload_n 2, 1, 0), (66, .iload 7, 2, 0), (68, .invokestatic 196, 3, 144), (71, .ifCond .eq 37, 3, 108), (74, .iload_n 2, 1, 0), (75, .iload 9, 2, 0), (77, .invokestatic 196, 3, 144), (80, .ifCond .eq 28, 3, 108), (83, .iload 7, 2, 0), (85, .iload 5, 2, 0), (87, .bipush 6, 2, 0), (89, .invokestatic 189, 3, 172), (92, .iload 9, 2, 0)]
def ip_cT_218_1 : List (Nat × Instr × Nat × Nat) := [(94, .iload 5, 2, 0), (96, .bipush 6, 2, 0), (98, .invokestatic 189, 3, 172), (101, .if_icmp .ne 7, 3, 108), (104, .iconst 1, 1, 0), (105, .goto 4, 3, 109), (108, .iconst 0, 1, 0), (109, .iadd, 1, 0), (110, .istore 8, 2, 0), (112, .iinc 9 1, 3, 0), (115, .goto (-58), 3, 57), (118, .iload 6, 2, 0), (120, .iload 8, 2, 0), (122, .invokestatic 180, 3, 146), (125, .istore 6, 2, 0), (127, .iinc 7 1, 3, 0), (130, .goto (-85), 3, 45), (133, .iload 6, 2, 0), (135, .iload 4, 2, 0), (137, .if_icmp .ge 8, 3, 145), (140, .iload 5, 2, 0), (142, .goto 4, 3, 146), (145, .iload_n 3, 1, 0), (146, .istore_n 3, 1, 0), (147, .iload 4, 2, 0), (149, .iload 6, 2, 0), (151, .invokestatic 176, 3, 145), (154, .istore 4, 2, 0), (156, .iinc 5 1, 3, 0), (159, .goto (-131), 3, 28), (162, .iload_n 3, 1, 0), (163, .ireturn, 1, 0)]
def ip_cT_218 : List (Nat × Instr × Nat × Nat) := ip_cT_218_0 ++ ip_cT_218_1
def ip_cT_219_0 : List (Nat × Instr × Nat × Nat) := [(0, .aload_n 0, 1, 0), (1, .iload_n 1, 1, 0), (2, .invokevirtual 227, 3, 150), (5, .ifCond .ne 8, 3, 13), (8, .aload_n 0, 1, 0), (9, .invokevirtual 98, 3, 140), (12, .ireturn, 1, 0), (13, .aload_n 0, 1, 0), (14, .iload_n 1, 1, 0), (15, .invokevirtual 264, 3, 215), (18, .istore_n 2, 1, 0), (19, .iconst (-1), 1, 0), (20, .istore_n 3, 1, 0), (21, .ldc 245, 2, 1), (23, .istore 4, 2, 0), (25, .iconst 0, 1, 0), (26, .istore 5, 2, 0), (28, .iload 5, 2, 0), (30, .bipush 10, 2, 0), (32, .if_icmp .ge 121, 3, 153), (35, .iload_n 2, 1, 0), (36, .ifCond .eq 117, 3, 153), (39, .iconst 0, 1, 0), (40, .istore 6, 2, 0), (42, .iload 6, 2, 0), (44, .bipush 10, 2, 0), (46, .if_icmp .ge 101, 3, 147), (49, .iconst 0, 1, 0), (50, .istore 7, 2, 0), (52, .iconst 0, 1, 0), (53, .istore 8, 2, 0), (55, .iload 8, 2, 0), (57, .iconst 5, 1, 0), (58, .if_icmp .gt 40, 3, 98), (61, .iload 7, 2, 0), (63, .iload_n 2, 1, 0), (64, .iload 8, 2, 0), (66, .invokestatic 196, 3, 144), (69, .ifCond .eq 19, 3, 88), (72, .iload 8, 2, 0), (74, .iload 6, 2, 0), (76, .iload 5, 2, 0), (78, .invokestatic 183, 3, 173), (81, .ifCond .eq 7, 3, 88), (84, .iconst 1, 1, 0), (85, .goto 4, 3, 89), (88, .iconst 0, 1, 0), (89, .iadd, 1, 0), (90, .istore 7, 2, 0), (92, .iinc 8 1, 3, 0)]
def ip_cT_219_1 : List (Nat × Instr × Nat × Nat) := [(95, .goto (-40), 3, 55), (98, .iload 7, 2, 0), (100, .iload_n 2, 1, 0), (101, .invokestatic 246, 3, 147), (104, .iload 7, 2, 0), (106, .isub, 1, 0), (107, .invokestatic 180, 3, 146), (110, .istore 8, 2, 0), (112, .iload 8, 2, 0), (114, .iload 4, 2, 0), (116, .if_icmp .ge 14, 3, 130), (119, .bipush 100, 2, 0), (121, .iload 5, 2, 0), (123, .imul, 1, 0), (124, .iload 6, 2, 0), (126, .iadd, 1, 0), (127, .goto 4, 3, 131), (130, .iload_n 3, 1, 0), (131, .istore_n 3, 1, 0), (132, .iload 4, 2, 0), (134, .iload 8, 2, 0), (136, .invokestatic 176, 3, 145), (139, .istore 4, 2, 0), (141, .iinc 6 1, 3, 0), (144, .goto (-102), 3, 42), (147, .iinc 5 1, 3, 0), (150, .goto (-122), 3, 28), (153, .iload_n 3, 1, 0), (154, .ireturn, 1, 0)]
def ip_cT_219 : List (Nat × Instr × Nat × Nat) := ip_cT_219_0 ++ ip_cT_219_1
def ip_cT_220_0 : List (Nat × Instr × Nat × Nat) := [(0, .iconst 0, 1, 0), (1, .istore_n 2, 1, 0), (2, .aload_n 0, 1, 0), (3, .getfield 43, 3, 659), (6, .iload_n 2, 1, 0), (7, .iaload, 1, 0), (8, .iload_n 1, 1, 0), (9, .if_icmp .eq 9, 3, 18), (12, .iinc 2 1, 3, 0), (15, .goto (-13), 3, 2), (18, .iload_n 2, 1, 0), (19, .ireturn, 1, 0)]
def ip_cT_220 : List (Nat × Instr × Nat × Nat) := ip_cT_220_0
def ip_cT_221_0 : List (Nat × Instr × Nat × Nat) := [(0, .aload_n 0, 1, 0), (1, .invokevirtual 218, 3, 175), (4, .iconst 1, 1, 0), (5, .iload_n 1, 1, 0), (6, .ishl, 1, 0), (7, .ior, 1, 0), (8, .iconst 1, 1, 0), (9, .iload_n 2, 1, 0), (10, .ishl, 1, 0), (11, .ior, 1, 0), (12, .istore 5, 2, 0), (14, .iconst 0, 1, 0), (15, .istore 6, 2, 0), (17, .iconst 1, 1, 0), (18, .istore 7, 2, 0), (20, .iload 7, 2, 0), (22, .bipush 12, 2, 0), (24, .if_icmp .ge 143, 3, 167), (27, .aload_n 0, 1, 0), (28, .iload 7, 2, 0), (30, .invokevirtual 193, 3, 177), (33, .aload_n 0, 1, 0), (34, .iload 4, 2, 0), (36, .iconst 1, 1, 0), (37, .iadd, 1, 0), (38, .invokevirtual 267, 3, 220), (41, .istore 8, 2, 0), (43, .iconst 0, 1, 0), (44, .istore 9, 2, 0), (46, .iload 9, 2, 0), (48, .aload_n 0, 1, 0), (49, .getfield 75, 3, 641), (52, .if_icmp .ge 86, 3, 138), (55, .iload 9, 2, 0), (57, .iload_n 1, 1, 0), (58, .if_icmp .ne 15, 3, 73), (61, .iload_n 3, 1, 0), (62, .iconst 0, 1, 0), (63, .invokestatic 196, 3, 144), (66, .ifCond .eq 7, 3, 73), (69, .iload_n 2, 1, 0), (70, .goto 23, 3, 93), (73, .iload 9, 2, 0), (75, .iload_n 2, 1, 0), (76, .if_icmp .ne 15, 3, 91), (79, .iload_n 3, 1, 0), (80, .iconst 1, 1, 0), (81, .invokestatic 196, 3, 144), (84, .ifCond .eq 7, 3, 91), (87, .iload_n 1, 1, 0)]
def ip_cT_221_1 : List (Nat × Instr × Nat × Nat) := [(88, .goto 5, 3, 93), (91, .iload 9, 2, 0), (93, .istore 10, 2, 0), (95, .iload 5, 2, 0), (97, .iload 9, 2, 0), (99, .invokestatic 196, 3, 144), (102, .ifCond .eq 30, 3, 132), (105, .aload_n 0, 1, 0), (106, .getfield 19, 3, 648), (109, .iload 9, 2, 0), (111, .iaload, 1, 0), (112, .iload 7, 2, 0), (114, .if_icmp .ne 18, 3, 132), (117, .aload_n 0, 1, 0), (118, .iload 10, 2, 0), (120, .iconst 1, 1, 0), (121, .iadd, 1, 0), (122, .aload_n 0, 1, 0), (123, .getfield 16, 3, 647), (126, .iload 9, 2, 0), (128, .iaload, 1, 0), (129, .invokevirtual 199, 3, 178), (132, .iinc 9 1, 3, 0), (135, .goto (-89), 3, 46), (138, .iload 6, 2, 0), (140, .aload_n 0, 1, 0), (141, .iload 4, 2, 0), (143, .iconst 1, 1, 0), (144, .iadd, 1, 0), (145, .invokevirtual 267, 3, 220), (148, .iload 8, 2, 0), (150, .if_icmp .eq 7, 3, 157), (153, .iconst 1, 1, 0), (154, .goto 4, 3, 158), (157, .iconst 0, 1, 0), (158, .iadd, 1, 0), (159, .istore 6, 2, 0), (161, .iinc 7 1, 3, 0), (164, .goto (-144), 3, 20), (167, .iload 4, 2, 0), (169, .iload_n 1, 1, 0), (170, .if_icmp .ne 7, 3, 177), (173, .iconst 0, 1, 0), (174, .goto 4, 3, 178), (177, .iconst 1, 1, 0), (178, .istore 7, 2, 0), (180, .iload 6, 2, 0), (182, .iload_n 3, 1, 0), (183, .iload 7, 2, 0), (185, .ishr, 1, 0)]
def ip_cT_221_2 : List (Nat × Instr × Nat × Nat) := [(186, .iconst 1, 1, 0), (187, .iand, 1, 0), (188, .isub, 1, 0), (189, .iconst 2, 1, 0), (190, .iload_n 3, 1, 0), (191, .iconst 1, 1, 0), (192, .iload 7, 2, 0), (194, .isub, 1, 0), (195, .ishr, 1, 0), (196, .iconst 1, 1, 0), (197, .iand, 1, 0), (198, .imul, 1, 0), (199, .iadd, 1, 0), (200, .ireturn, 1, 0)]
def ip_cT_221 : List (Nat × Instr × Nat × Nat) := ip_cT_221_0 ++ ip_cT_221_1 ++ ip_cT_221_2
def ip_cT_222_0 : List (Nat × Instr × Nat × Nat) := [(0, .aload_n 0, 1, 0), (1, .iload_n 1, 1, 0), (2, .invokevirtual 227, 3, 150), (5, .ifCond .eq 16, 3, 21), (8, .aload_n 0, 1, 0), (9, .iload_n 2, 1, 0), (10, .invokevirtual 227, 3, 150), (13, .ifCond .eq 8, 3, 21), (16, .iload_n 1, 1, 0), (17, .iload_n 2, 1, 0), (18, .if_icmp .ne 8, 3, 26), (21, .aload_n 0, 1, 0), (22, .invokevirtual 98, 3, 140), (25, .ireturn, 1, 0), (26, .aload_n 0, 1, 0), (27, .getfield 16, 3, 647), (30, .iload_n 1, 1, 0), (31, .iaload, 1, 0), (32, .iconst (-1), 1, 0), (33, .if_icmp .eq 13, 3, 46), (36, .aload_n 0, 1, 0), (37, .getfield 16, 3, 647), (40, .iload_n 2, 1, 0), (41, .iaload, 1, 0), (42, .iconst (-1), 1, 0), (43, .if_icmp .ne 8, 3, 51), (46, .aload_n 0, 1, 0), (47, .invokevirtual 233, 3, 141), (50, .ireturn, 1, 0), (51, .iconst 0, 1, 0), (52, .istore_n 3, 1, 0), (53, .iconst 0, 1, 0), (54, .istore 4, 2, 0), (56, .iload 4, 2, 0), (58, .iconst 4, 1, 0), (59, .if_icmp .ge 78, 3, 137), (62, .aload_n 0, 1, 0), (63, .iload_n 1, 1, 0), (64, .iload_n 2, 1, 0), (65, .iload 4, 2, 0), (67, .iload_n 1, 1, 0), (68, .invokevirtual 270, 3, 221), (71, .aload_n 0, 1, 0), (72, .iload_n 1, 1, 0), (73, .iload_n 2, 1, 0), (74, .iload 4, 2, 0), (76, .iconst 1, 1, 0), (77, .ixor, 1, 0), (78, .iload_n 1, 1, 0), (79, .invokevirtual 270, 3, 221)]
def ip_cT_222_1 : List (Nat × Instr × Nat × Nat) := [(82, .if_icmp .lt 30, 3, 112), (85, .aload_n 0, 1, 0), (86, .iload_n 1, 1, 0), (87, .iload_n 2, 1, 0), (88, .iload 4, 2, 0), (90, .iload_n 2, 1, 0), (91, .invokevirtual 270, 3, 221), (94, .aload_n 0, 1, 0), (95, .iload_n 1, 1, 0), (96, .iload_n 2, 1, 0), (97, .iload 4, 2, 0), (99, .iconst 2, 1, 0), (100, .ixor, 1, 0), (101, .iload_n 2, 1, 0), (102, .invokevirtual 270, 3, 221), (105, .if_icmp .lt 7, 3, 112), (108, .iconst 1, 1, 0), (109, .goto 4, 3, 113), (112, .iconst 0, 1, 0), (113, .istore 5, 2, 0), (115, .iload_n 3, 1, 0), (116, .iload 5, 2, 0), (118, .ifCond .eq 10, 3, 128), (121, .iconst 1, 1, 0), (122, .iload 4, 2, 0), (124, .ishl, 1, 0), (125, .goto 4, 3, 129), (128, .iconst 0, 1, 0), (129, .ior, 1, 0), (130, .istore_n 3, 1, 0), (131, .iinc 4 1, 3, 0), (134, .goto (-78), 3, 56), (137, .iload_n 3, 1, 0), (138, .ireturn, 1, 0)]
def ip_cT_222 : List (Nat × Instr × Nat × Nat) := ip_cT_222_0 ++ ip_cT_222_1
def ip_cT_223_0 : List (Nat × Instr × Nat × Nat) := [(0, .lload_n 1, 1, 0), (1, .lstore 5, 2, 0), (3, .lload_n 3, 1, 0), (4, .lstore 7, 2, 0), (6, .lload 7, 2, 0), (8, .lconst 0, 1, 0), (9, .lcmp, 1, 0), (10, .ifCond .eq 21, 3, 31), (13, .lload 5, 2, 0), (15, .lload 7, 2, 0), (17, .lrem, 1, 0), (18, .lstore 9, 2, 0), (20, .lload 7, 2, 0), (22, .lstore 5, 2, 0), (24, .lload 9, 2, 0), (26, .lstore 7, 2, 0), (28, .goto (-22), 3, 6), (31, .aload_n 0, 1, 0), (32, .lload_n 1, 1, 0), (33, .lload 5, 2, 0), (35, .ldiv, 1, 0), (36, .putfield 274, 3, 666), (39, .aload_n 0, 1, 0), (40, .lload_n 3, 1, 0), (41, .lload 5, 2, 0), (43, .ldiv, 1, 0), (44, .putfield 61, 3, 667), (47, .return_, 1, 0)]
def ip_cT_223 : List (Nat × Instr × Nat × Nat) := ip_cT_223_0
def ip_cT_224_0 : List (Nat × Instr × Nat × Nat) := [(0, .iload_n 1, 1, 0), (1, .iconst 0, 1, 0), (2, .bipush 10, 2, 0), (4, .invokestatic 94, 3, 143), (7, .ifCond .ne 8, 3, 15), (10, .aload_n 0, 1, 0), (11, .invokevirtual 98, 3, 140), (14, .ireturn, 1, 0), (15, .aload_n 0, 1, 0), (16, .invokevirtual 218, 3, 175), (19, .istore_n 2, 1, 0), (20, .lconst 0, 1, 0), (21, .lstore_n 3, 1, 0), (22, .lconst 1, 1, 0), (23, .lstore 5, 2, 0), (25, .iconst 0, 1, 0), (26, .istore 7, 2, 0), (28, .iload 7, 2, 0), (30, .aload_n 0, 1, 0), (31, .getfield 75, 3, 641), (34, .if_icmp .ge 30, 3, 64), (37, .lload 5, 2, 0), (39, .iload_n 2, 1, 0), (40, .iload 7, 2, 0), (42, .invokestatic 196, 3, 144), (45, .ifCond .eq 9, 3, 54), (48, .ldc2_w 277, 3, 10), (51, .goto 4, 3, 55), (54, .lconst 1, 1, 0), (55, .lmul, 1, 0), (56, .lstore 5, 2, 0), (58, .iinc 7 1, 3, 0), (61, .goto (-33), 3, 28), (64, .iconst 0, 1, 0), (65, .istore 7, 2, 0), (67, .iload 7, 2, 0), (69, .iload_n 2, 1, 0), (70, .if_icmp .gt 91, 3, 161), (73, .iload 7, 2, 0), (75, .iload_n 2, 1, 0), (76, .iconst (-1), 1, 0), (77, .ixor, 1, 0), (78, .iand, 1, 0), (79, .ifCond .ne 76, 3, 155), (82, .aload_n 0, 1, 0), (83, .iload 7, 2, 0), (85, .invokevirtual 236, 3, 185), (88, .ifCond .eq 67, 3, 155), (91, .lconst 1, 1, 0), (92, .lstore 8, 2, 0)]
def ip_cT_224_1 : List (Nat × Instr × Nat × Nat) := [(94, .iconst 0, 1, 0), (95, .istore 10, 2, 0), (97, .iload 10, 2, 0), (99, .aload_n 0, 1, 0), (100, .getfield 75, 3, 641), (103, .if_icmp .ge 47, 3, 150), (106, .lload 8, 2, 0), (108, .iload_n 2, 1, 0), (109, .iload 10, 2, 0), (111, .invokestatic 196, 3, 144), (114, .ifCond .ne 7, 3, 121), (117, .lconst 1, 1, 0), (118, .goto 23, 3, 141), (121, .iload 7, 2, 0), (123, .iload 10, 2, 0), (125, .invokestatic 196, 3, 144), (128, .ifCond .eq 11, 3, 139), (131, .bipush 10, 2, 0), (133, .iload_n 1, 1, 0), (134, .isub, 1, 0), (135, .i2l, 1, 0), (136, .goto 5, 3, 141), (139, .iload_n 1, 1, 0), (140, .i2l, 1, 0), (141, .lmul, 1, 0), (142, .lstore 8, 2, 0), (144, .iinc 10 1, 3, 0), (147, .goto (-50), 3, 97), (150, .lload_n 3, 1, 0), (151, .lload 8, 2, 0), (153, .ladd, 1, 0), (154, .lstore_n 3, 1, 0), (155, .iinc 7 1, 3, 0), (158, .goto (-91), 3, 67), (161, .aload_n 0, 1, 0), (162, .lload_n 3, 1, 0), (163, .lload 5, 2, 0), (165, .invokevirtual 279, 3, 223), (168, .iconst 1, 1, 0), (169, .ireturn, 1, 0)]
def ip_cT_224 : List (Nat × Instr × Nat × Nat) := ip_cT_224_0 ++ ip_cT_224_1
def ip_cT_225_0 : List (Nat × Instr × Nat × Nat) := [(0, .iload_n 1, 1, 0), (1, .iconst 0, 1, 0), (2, .ldc_w 283, 3, 2), (5, .invokestatic 94, 3, 143), (8, .ifCond .eq 13, 3, 21), (11, .iload_n 2, 1, 0), (12, .iconst 0, 1, 0), (13, .bipush 60, 2, 0), (15, .invokestatic 94, 3, 143), (18, .ifCond .ne 8, 3, 26), (21, .aload_n 0, 1, 0), (22, .invokevirtual 98, 3, 140), (25, .ireturn, 1, 0), (26, .aload_n 0, 1, 0), (27, .aload_n 0, 1, 0), (28, .getfield 52, 3, 663), (31, .iconst 0, 1, 0), (32, .invokevirtual 224, 3, 187), (35, .iload_n 1, 1, 0), (36, .i2l, 1, 0), (37, .lstore_n 3, 1, 0), (38, .iconst 0, 1, 0), (39, .istore 5, 2, 0), (41, .iconst 0, 1, 0), (42, .istore 6, 2, 0), (44, .iload 6, 2, 0), (46, .iload_n 2, 1, 0), (47, .if_icmp .ge 82, 3, 129), (50, .lload_n 3, 1, 0), (51, .ldc2_w 284, 3, 11), (54, .lmul, 1, 0), (55, .ldc2_w 286, 3, 12), (58, .ladd, 1, 0), (59, .ldc2_w 288, 3, 13), (62, .lrem, 1, 0), (63, .lstore_n 3, 1, 0), (64, .lload_n 3, 1, 0), (65, .ldc2_w 290, 3, 14), (68, .ldiv, 1, 0), (69, .ldc2_w 292, 3, 15), (72, .lrem, 1, 0), (73, .l2i, 1, 0), (74, .istore 7, 2, 0), (76, .aload_n 0, 1, 0), (77, .iload 7, 2, 0), (79, .invokevirtual 227, 3, 150), (82, .ifCond .eq 28, 3, 110), (85, .aload_n 0, 1, 0), (86, .getfield 22, 3, 649), (89, .iload 7, 2, 0)]
def ip_cT_225_1 : List (Nat × Instr × Nat × Nat) := [(91, .lload_n 3, 1, 0), (92, .ldc2_w 294, 3, 16), (95, .ldiv, 1, 0), (96, .ldc2_w 292, 3, 15), (99, .lrem, 1, 0), (100, .l2i, 1, 0), (101, .iastore, 1, 0), (102, .aload_n 0, 1, 0), (103, .getfield 25, 3, 650), (106, .iload 7, 2, 0), (108, .iconst 0, 1, 0), (109, .iastore, 1, 0), (110, .iload 5, 2, 0), (112, .aload_n 0, 1, 0), (113, .invokevirtual 296, 3, 186), (116, .iadd, 1, 0), (117, .istore 5, 2, 0), (119, .aload_n 0, 1, 0), (120, .invokevirtual 142, 3, 190), (123, .iinc 6 1, 3, 0), (126, .goto (-82), 3, 44), (129, .aload_n 0, 1, 0), (130, .aload_n 0, 1, 0), (131, .getfield 52, 3, 663), (134, .iconst 0, 1, 0), (135, .invokevirtual 239, 3, 188), (138, .iload 5, 2, 0), (140, .ireturn, 1, 0)]
def ip_cT_225 : List (Nat × Instr × Nat × Nat) := ip_cT_225_0 ++ ip_cT_225_1
def ip_cT_226_0 : List (Nat × Instr × Nat × Nat) := [(0, .iload_n 1, 1, 0), (1, .ifCond .ne 10, 3, 11), (4, .aload_n 0, 1, 0), (5, .getfield 274, 3, 666), (8, .goto 20, 3, 28), (11, .iload_n 1, 1, 0), (12, .iconst 1, 1, 0), (13, .if_icmp .ne 10, 3, 23), (16, .aload_n 0, 1, 0), (17, .getfield 61, 3, 667), (20, .goto 8, 3, 28), (23, .aload_n 0, 1, 0), (24, .invokevirtual 98, 3, 140), (27, .i2l, 1, 0), (28, .lreturn, 1, 0)]
def ip_cT_226 : List (Nat × Instr × Nat × Nat) := ip_cT_226_0
def ip_cT_227_0 : List (Nat × Instr × Nat × Nat) := [(0, .aload_n 0, 1, 0), (1, .aload_n 1, 1, 0), (2, .iload_n 2, 1, 0), (3, .invokevirtual 224, 3, 187), (6, .aload_n 1, 1, 0), (7, .iload_n 2, 1, 0), (8, .bipush 25, 2, 0), (10, .iadd, 1, 0), (11, .aload_n 0, 1, 0), (12, .getfield 75, 3, 641), (15, .iastore, 1, 0), (16, .aload_n 1, 1, 0), (17, .iload_n 2, 1, 0), (18, .bipush 26, 2, 0), (20, .iadd, 1, 0), (21, .aload_n 0, 1, 0), (22, .getfield 82, 3, 643), (25, .iastore, 1, 0), (26, .aload_n 1, 1, 0), (27, .iload_n 2, 1, 0), (28, .bipush 27, 2, 0), (30, .iadd, 1, 0), (31, .aload_n 0, 1, 0), (32, .getfield 85, 3, 644), (35, .iastore, 1, 0), (36, .aload_n 1, 1, 0), (37, .iload_n 2, 1, 0), (38, .bipush 28, 2, 0), (40, .iadd, 1, 0), (41, .aload_n 0, 1, 0), (42, .getfield 88, 3, 645), (45, .iastore, 1, 0), (46, .aload_n 1, 1, 0), (47, .iload_n 2, 1, 0), (48, .bipush 29, 2, 0), (50, .iadd, 1, 0), (51, .aload_n 0, 1, 0), (52, .getfield 91, 3, 662), (55, .iastore, 1, 0), (56, .iconst 0, 1, 0), (57, .istore_n 3, 1, 0), (58, .iload_n 3, 1, 0), (59, .bipush 6, 2, 0), (61, .if_icmp .ge 23, 3, 84), (64, .aload_n 1, 1, 0), (65, .iload_n 2, 1, 0), (66, .bipush 30, 2, 0), (68, .iadd, 1, 0), (69, .iload_n 3, 1, 0), (70, .iadd, 1, 0)]
def ip_cT_227_1 : List (Nat × Instr × Nat × Nat) := [(71, .aload_n 0, 1, 0), (72, .getfield 13, 3, 646), (75, .iload_n 3, 1, 0), (76, .iaload, 1, 0), (77, .iastore, 1, 0), (78, .iinc 3 1, 3, 0), (81, .goto (-23), 3, 58), (84, .iconst 0, 1, 0), (85, .istore_n 3, 1, 0), (86, .iload_n 3, 1, 0), (87, .bipush 8, 2, 0), (89, .if_icmp .ge 23, 3, 112), (92, .aload_n 1, 1, 0), (93, .iload_n 2, 1, 0), (94, .bipush 36, 2, 0), (96, .iadd, 1, 0), (97, .iload_n 3, 1, 0), (98, .iadd, 1, 0), (99, .aload_n 0, 1, 0), (100, .getfield 28, 3, 651), (103, .iload_n 3, 1, 0), (104, .iaload, 1, 0), (105, .iastore, 1, 0), (106, .iinc 3 1, 3, 0), (109, .goto (-23), 3, 86), (112, .iconst 0, 1, 0), (113, .istore_n 3, 1, 0), (114, .iload_n 3, 1, 0), (115, .bipush 18, 2, 0), (117, .if_icmp .ge 23, 3, 140), (120, .aload_n 1, 1, 0), (121, .iload_n 2, 1, 0), (122, .bipush 44, 2, 0), (124, .iadd, 1, 0), (125, .iload_n 3, 1, 0), (126, .iadd, 1, 0), (127, .aload_n 0, 1, 0), (128, .getfield 31, 3, 652), (131, .iload_n 3, 1, 0), (132, .iaload, 1, 0), (133, .iastore, 1, 0), (134, .iinc 3 1, 3, 0), (137, .goto (-23), 3, 114), (140, .iconst 0, 1, 0), (141, .istore_n 3, 1, 0), (142, .iload_n 3, 1, 0), (143, .bipush 24, 2, 0), (145, .if_icmp .ge 23, 3, 168), (148, .aload_n 1, 1, 0), (149, .iload_n 2, 1, 0)]
def ip_cT_227_2 : List (Nat × Instr × Nat × Nat) := [(150, .bipush 62, 2, 0), (152, .iadd, 1, 0), (153, .iload_n 3, 1, 0), (154, .iadd, 1, 0), (155, .aload_n 0, 1, 0), (156, .getfield 34, 3, 653), (159, .iload_n 3, 1, 0), (160, .iaload, 1, 0), (161, .iastore, 1, 0), (162, .iinc 3 1, 3, 0), (165, .goto (-23), 3, 142), (168, .iconst 0, 1, 0), (169, .istore_n 3, 1, 0), (170, .iload_n 3, 1, 0), (171, .sipush 200, 3, 0), (174, .if_icmp .ge 23, 3, 197), (177, .aload_n 1, 1, 0), (178, .iload_n 2, 1, 0), (179, .bipush 86, 2, 0), (181, .iadd, 1, 0), (182, .iload_n 3, 1, 0), (183, .iadd, 1, 0), (184, .aload_n 0, 1, 0), (185, .getfield 49, 3, 661), (188, .iload_n 3, 1, 0), (189, .iaload, 1, 0), (190, .iastore, 1, 0), (191, .iinc 3 1, 3, 0), (194, .goto (-24), 3, 170), (197, .return_, 1, 0)]
def ip_cT_227 : List (Nat × Instr × Nat × Nat) := ip_cT_227_0 ++ ip_cT_227_1 ++ ip_cT_227_2
def ip_cT_228_0 : List (Nat × Instr × Nat × Nat) := [(0, .aload_n 0, 1, 0), (1, .aload_n 1, 1, 0), (2, .iload_n 2, 1, 0), (3, .invokevirtual 239, 3, 188), (6, .aload_n 0, 1, 0), (7, .aload_n 1, 1, 0), (8, .iload_n 2, 1, 0), (9, .bipush 25, 2, 0), (11, .iadd, 1, 0), (12, .iaload, 1, 0), (13, .putfield 75, 3, 641), (16, .aload_n 0, 1, 0), (17, .aload_n 1, 1, 0), (18, .iload_n 2, 1, 0), (19, .bipush 26, 2, 0), (21, .iadd, 1, 0), (22, .iaload, 1, 0), (23, .putfield 82, 3, 643), (26, .aload_n 0, 1, 0), (27, .aload_n 1, 1, 0), (28, .iload_n 2, 1, 0), (29, .bipush 27, 2, 0), (31, .iadd, 1, 0), (32, .iaload, 1, 0), (33, .putfield 85, 3, 644), (36, .aload_n 0, 1, 0), (37, .aload_n 1, 1, 0), (38, .iload_n 2, 1, 0), (39, .bipush 28, 2, 0), (41, .iadd, 1, 0), (42, .iaload, 1, 0), (43, .putfield 88, 3, 645), (46, .aload_n 0, 1, 0), (47, .aload_n 1, 1, 0), (48, .iload_n 2, 1, 0), (49, .bipush 29, 2, 0), (51, .iadd, 1, 0), (52, .iaload, 1, 0), (53, .putfield 91, 3, 662), (56, .iconst 0, 1, 0), (57, .istore_n 3, 1, 0), (58, .iload_n 3, 1, 0), (59, .bipush 6, 2, 0), (61, .if_icmp .ge 23, 3, 84), (64, .aload_n 0, 1, 0), (65, .getfield 13, 3, 646), (68, .iload_n 3, 1, 0), (69, .aload_n 1, 1, 0), (70, .iload_n 2, 1, 0), (71, .bipush 30, 2, 0)]
def ip_cT_228_1 : List (Nat × Instr × Nat × Nat) := [(73, .iadd, 1, 0), (74, .iload_n 3, 1, 0), (75, .iadd, 1, 0), (76, .iaload, 1, 0), (77, .iastore, 1, 0), (78, .iinc 3 1, 3, 0), (81, .goto (-23), 3, 58), (84, .iconst 0, 1, 0), (85, .istore_n 3, 1, 0), (86, .iload_n 3, 1, 0), (87, .bipush 8, 2, 0), (89, .if_icmp .ge 23, 3, 112), (92, .aload_n 0, 1, 0), (93, .getfield 28, 3, 651), (96, .iload_n 3, 1, 0), (97, .aload_n 1, 1, 0), (98, .iload_n 2, 1, 0), (99, .bipush 36, 2, 0), (101, .iadd, 1, 0), (102, .iload_n 3, 1, 0), (103, .iadd, 1, 0), (104, .iaload, 1, 0), (105, .iastore, 1, 0), (106, .iinc 3 1, 3, 0), (109, .goto (-23), 3, 86), (112, .iconst 0, 1, 0), (113, .istore_n 3, 1, 0), (114, .iload_n 3, 1, 0), (115, .bipush 18, 2, 0), (117, .if_icmp .ge 23, 3, 140), (120, .aload_n 0, 1, 0), (121, .getfield 31, 3, 652), (124, .iload_n 3, 1, 0), (125, .aload_n 1, 1, 0), (126, .iload_n 2, 1, 0), (127, .bipush 44, 2, 0), (129, .iadd, 1, 0), (130, .iload_n 3, 1, 0), (131, .iadd, 1, 0), (132, .iaload, 1, 0), (133, .iastore, 1, 0), (134, .iinc 3 1, 3, 0), (137, .goto (-23), 3, 114), (140, .iconst 0, 1, 0), (141, .istore_n 3, 1, 0), (142, .iload_n 3, 1, 0), (143, .bipush 24, 2, 0), (145, .if_icmp .ge 23, 3, 168), (148, .aload_n 0, 1, 0), (149, .getfield 34, 3, 653)]
def ip_cT_228_2 : List (Nat × Instr × Nat × Nat) := [(152, .iload_n 3, 1, 0), (153, .aload_n 1, 1, 0), (154, .iload_n 2, 1, 0), (155, .bipush 62, 2, 0), (157, .iadd, 1, 0), (158, .iload_n 3, 1, 0), (159, .iadd, 1, 0), (160, .iaload, 1, 0), (161, .iastore, 1, 0), (162, .iinc 3 1, 3, 0), (165, .goto (-23), 3, 142), (168, .iconst 0, 1, 0), (169, .istore_n 3, 1, 0), (170, .iload_n 3, 1, 0), (171, .sipush 200, 3, 0), (174, .if_icmp .ge 23, 3, 197), (177, .aload_n 0, 1, 0), (178, .getfield 49, 3, 661), (181, .iload_n 3, 1, 0), (182, .aload_n 1, 1, 0), (183, .iload_n 2, 1, 0), (184, .bipush 86, 2, 0), (186, .iadd, 1, 0), (187, .iload_n 3, 1, 0), (188, .iadd, 1, 0), (189, .iaload, 1, 0), (190, .iastore, 1, 0), (191, .iinc 3 1, 3, 0), (194, .goto (-24), 3, 170), (197, .return_, 1, 0)]
def ip_cT_228 : List (Nat × Instr × Nat × Nat) := ip_cT_228_0 ++ ip_cT_228_1 ++ ip_cT_228_2
def ip_cT_229_0 : List (Nat × Instr × Nat × Nat) := [(0, .iload_n 1, 1, 0), (1, .iconst 0, 1, 0), (2, .iconst 1, 1, 0), (3, .invokestatic 94, 3, 143), (6, .ifCond .ne 8, 3, 14), (9, .aload_n 0, 1, 0), (10, .invokevirtual 98, 3, 140), (13, .ireturn, 1, 0), (14, .aload_n 0, 1, 0), (15, .getfield 68, 3, 669), (18, .iload_n 1, 1, 0), (19, .iconst 1, 1, 0), (20, .iastore, 1, 0), (21, .aload_n 0, 1, 0), (22, .aload_n 0, 1, 0), (23, .getfield 65, 3, 668), (26, .sipush 300, 3, 0), (29, .iload_n 1, 1, 0), (30, .imul, 1, 0), (31, .invokevirtual 166, 3, 227), (34, .iconst 1, 1, 0), (35, .ireturn, 1, 0)]
def ip_cT_229 : List (Nat × Instr × Nat × Nat) := ip_cT_229_0
def ip_cT_230_0 : List (Nat × Instr × Nat × Nat) := [(0, .iload_n 1, 1, 0), (1, .iconst 0, 1, 0), (2, .iconst 1, 1, 0), (3, .invokestatic 94, 3, 143), (6, .ifCond .ne 8, 3, 14), (9, .aload_n 0, 1, 0), (10, .invokevirtual 98, 3, 140), (13, .ireturn, 1, 0), (14, .aload_n 0, 1, 0), (15, .getfield 68, 3, 669), (18, .iload_n 1, 1, 0), (19, .iaload, 1, 0), (20, .ifCond .ne 8, 3, 28), (23, .aload_n 0, 1, 0), (24, .invokevirtual 233, 3, 141), (27, .ireturn, 1, 0), (28, .aload_n 0, 1, 0), (29, .aload_n 0, 1, 0), (30, .getfield 65, 3, 668), (33, .sipush 300, 3, 0), (36, .iload_n 1, 1, 0), (37, .imul, 1, 0), (38, .invokevirtual 173, 3, 228), (41, .iconst 1, 1, 0), (42, .ireturn, 1, 0)]
def ip_cT_230 : List (Nat × Instr × Nat × Nat) := ip_cT_230_0
def ip_cT_231_0 : List (Nat × Instr × Nat × Nat) := [(0, .iload_n 1, 1, 0), (1, .iconst 0, 1, 0), (2, .iconst 2, 1, 0), (3, .invokestatic 94, 3, 143), (6, .ifCond .ne 15, 3, 21), (9, .aload_n 0, 1, 0), (10, .getfield 1, 3, 640), (13, .iconst 0, 1, 0), (14, .dup2, 1, 0), (15, .iaload, 1, 0), (16, .iconst 1, 1, 0), (17, .iadd, 1, 0), (18, .iastore, 1, 0), (19, .iconst (-1), 1, 0), (20, .ireturn, 1, 0), (21, .aload_n 0, 1, 0), (22, .getfield 1, 3, 640), (25, .iload_n 1, 1, 0), (26, .iaload, 1, 0), (27, .ireturn, 1, 0)]
def ip_cT_231 : List (Nat × Instr × Nat × Nat) := ip_cT_231_0
def ip_cT_232_0 : List (Nat × Instr × Nat × Nat) := [(0, .iload_n 1, 1, 0), (1, .tableswitch 102 0 8 #[51, 56, 64, 72, 77, 82, 87, 92, 97], 51, 0), (52, .aload_n 0, 1, 0), (53, .getfield 75, 3, 641), (56, .ireturn, 1, 0), (57, .aload_n 0, 1, 0), (58, .invokevirtual 252, 3, 174), (61, .invokestatic 246, 3, 147), (64, .ireturn, 1, 0), (65, .aload_n 0, 1, 0), (66, .invokevirtual 218, 3, 175), (69, .invokestatic 246, 3, 147), (72, .ireturn, 1, 0), (73, .aload_n 0, 1, 0), (74, .getfield 79, 3, 642), (77, .ireturn, 1, 0), (78, .aload_n 0, 1, 0), (79, .invokevirtual 296, 3, 186), (82, .ireturn, 1, 0), (83, .aload_n 0, 1, 0), (84, .getfield 82, 3, 643), (87, .ireturn, 1, 0), (88, .aload_n 0, 1, 0), (89, .getfield 85, 3, 644), (92, .ireturn, 1, 0), (93, .aload_n 0, 1, 0), (94, .getfield 88, 3, 645), (97, .ireturn, 1, 0), (98, .aload_n 0, 1, 0), (99, .getfield 91, 3, 662), (102, .ireturn, 1, 0), (103, .aload_n 0, 1, 0), (104, .getfield 102, 3, 655), (107, .ireturn, 1, 0)]
def ip_cT_232 : List (Nat × Instr × Nat × Nat) := ip_cT_232_0
def ip_cT_233_0 : List (Nat × Instr × Nat × Nat) := [(0, .iload_n 1, 1, 0), (1, .iconst 0, 1, 0), (2, .bipush 9, 2, 0), (4, .invokestatic 94, 3, 143), (7, .ifCond .eq 11, 3, 18), (10, .aload_n 0, 1, 0), (11, .iload_n 1, 1, 0), (12, .invokevirtual 299, 3, 232), (15, .goto 7, 3, 22), (18, .aload_n 0, 1, 0), (19, .invokevirtual 98, 3, 140), (22, .ireturn, 1, 0)]
def ip_cT_233 : List (Nat × Instr × Nat × Nat) := ip_cT_233_0
def ip_cT_234_0 : List (Nat × Instr × Nat × Nat) := [(0, .aload_n 0, 1, 0), (1, .ldc2_w 302, 3, 17), (4, .aload_n 0, 1, 0), (5, .getfield 304, 3, 670), (8, .lmul, 1, 0), (9, .lload_n 1, 1, 0), (10, .ladd, 1, 0), (11, .putfield 304, 3, 670), (14, .return_, 1, 0)]
def ip_cT_234 : List (Nat × Instr × Nat × Nat) := ip_cT_234_0
def ip_cT_235_0 : List (Nat × Instr × Nat × Nat) := [(0, .aload_n 0, 1, 0), (1, .ldc2_w 307, 3, 18), (4, .putfield 304, 3, 670), (7, .iconst 0, 1, 0), (8, .istore_n 1, 1, 0), (9, .iload_n 1, 1, 0), (10, .bipush 9, 2, 0), (12, .if_icmp .gt 19, 3, 31), (15, .aload_n 0, 1, 0), (16, .aload_n 0, 1, 0), (17, .iload_n 1, 1, 0), (18, .invokevirtual 299, 3, 232), (21, .i2l, 1, 0), (22, .invokevirtual 309, 3, 234), (25, .iinc 1 1, 3, 0), (28, .goto (-19), 3, 9), (31, .iconst 0, 1, 0), (32, .istore_n 1, 1, 0), (33, .iload_n 1, 1, 0), (34, .bipush 6, 2, 0), (36, .if_icmp .ge 20, 3, 56), (39, .aload_n 0, 1, 0), (40, .aload_n 0, 1, 0), (41, .getfield 13, 3, 646), (44, .iload_n 1, 1, 0), (45, .iaload, 1, 0), (46, .i2l, 1, 0), (47, .invokevirtual 309, 3, 234), (50, .iinc 1 1, 3, 0), (53, .goto (-20), 3, 33), (56, .iconst 0, 1, 0), (57, .istore_n 1, 1, 0), (58, .iload_n 1, 1, 0), (59, .aload_n 0, 1, 0), (60, .getfield 75, 3, 641), (63, .if_icmp .ge 33, 3, 96), (66, .iconst 0, 1, 0), (67, .istore_n 2, 1, 0), (68, .iload_n 2, 1, 0), (69, .iconst 3, 1, 0), (70, .if_icmp .gt 20, 3, 90), (73, .aload_n 0, 1, 0), (74, .aload_n 0, 1, 0), (75, .iload_n 1, 1, 0), (76, .iload_n 2, 1, 0), (77, .invokevirtual 242, 3, 196), (80, .i2l, 1, 0), (81, .invokevirtual 309, 3, 234), (84, .iinc 2 1, 3, 0), (87, .goto (-19), 3, 68)]
def ip_cT_235_1 : List (Nat × Instr × Nat × Nat) := [(90, .iinc 1 1, 3, 0), (93, .goto (-35), 3, 58), (96, .iconst 0, 1, 0), (97, .istore_n 1, 1, 0), (98, .iload_n 1, 1, 0), (99, .iconst 2, 1, 0), (100, .aload_n 0, 1, 0), (101, .getfield 82, 3, 643), (104, .imul, 1, 0), (105, .if_icmp .ge 20, 3, 125), (108, .aload_n 0, 1, 0), (109, .aload_n 0, 1, 0), (110, .getfield 28, 3, 651), (113, .iload_n 1, 1, 0), (114, .iaload, 1, 0), (115, .i2l, 1, 0), (116, .invokevirtual 309, 3, 234), (119, .iinc 1 1, 3, 0), (122, .goto (-24), 3, 98), (125, .iconst 0, 1, 0), (126, .istore_n 1, 1, 0), (127, .iload_n 1, 1, 0), (128, .iconst 3, 1, 0), (129, .aload_n 0, 1, 0), (130, .getfield 85, 3, 644), (133, .imul, 1, 0), (134, .if_icmp .ge 20, 3, 154), (137, .aload_n 0, 1, 0), (138, .aload_n 0, 1, 0), (139, .getfield 31, 3, 652), (142, .iload_n 1, 1, 0), (143, .iaload, 1, 0), (144, .i2l, 1, 0), (145, .invokevirtual 309, 3, 234), (148, .iinc 1 1, 3, 0), (151, .goto (-24), 3, 127), (154, .iconst 0, 1, 0), (155, .istore_n 1, 1, 0), (156, .iload_n 1, 1, 0), (157, .iconst 4, 1, 0), (158, .aload_n 0, 1, 0), (159, .getfield 88, 3, 645), (162, .imul, 1, 0), (163, .if_icmp .ge 20, 3, 183), (166, .aload_n 0, 1, 0), (167, .aload_n 0, 1, 0), (168, .getfield 34, 3, 653), (171, .iload_n 1, 1, 0), (172, .iaload, 1, 0), (173, .i2l, 1, 0)]
def ip_cT_235_2 : List (Nat × Instr × Nat × Nat) := [(174, .invokevirtual 309, 3, 234), (177, .iinc 1 1, 3, 0), (180, .goto (-24), 3, 156), (183, .aload_n 0, 1, 0), (184, .aload_n 0, 1, 0), (185, .getfield 274, 3, 666), (188, .invokevirtual 309, 3, 234), (191, .aload_n 0, 1, 0), (192, .aload_n 0, 1, 0), (193, .getfield 61, 3, 667), (196, .invokevirtual 309, 3, 234), (199, .aload_n 0, 1, 0), (200, .getfield 304, 3, 670), (203, .lreturn, 1, 0)]
def ip_cT_235 : List (Nat × Instr × Nat × Nat) := ip_cT_235_0 ++ ip_cT_235_1 ++ ip_cT_235_2
def ip_cT_236_0 : List (Nat × Instr × Nat × Nat) := [(0, .iload_n 0, 1, 0), (1, .iload_n 0, 1, 0), (2, .iconst 1, 1, 0), (3, .iushr, 1, 0), (4, .ldc_w 265, 3, 3), (7, .iand, 1, 0), (8, .isub, 1, 0), (9, .istore_n 0, 1, 0), (10, .iload_n 0, 1, 0), (11, .ldc_w 266, 3, 4), (14, .iand, 1, 0), (15, .iload_n 0, 1, 0), (16, .iconst 2, 1, 0), (17, .iushr, 1, 0), (18, .ldc_w 266, 3, 4), (21, .iand, 1, 0), (22, .iadd, 1, 0), (23, .istore_n 0, 1, 0), (24, .iload_n 0, 1, 0), (25, .iload_n 0, 1, 0), (26, .iconst 4, 1, 0), (27, .iushr, 1, 0), (28, .iadd, 1, 0), (29, .ldc_w 267, 3, 5), (32, .iand, 1, 0), (33, .istore_n 0, 1, 0), (34, .iload_n 0, 1, 0), (35, .iload_n 0, 1, 0), (36, .bipush 8, 2, 0), (38, .iushr, 1, 0), (39, .iadd, 1, 0), (40, .istore_n 0, 1, 0), (41, .iload_n 0, 1, 0), (42, .iload_n 0, 1, 0), (43, .bipush 16, 2, 0), (45, .iushr, 1, 0), (46, .iadd, 1, 0), (47, .istore_n 0, 1, 0), (48, .iload_n 0, 1, 0), (49, .bipush 63, 2, 0), (51, .iand, 1, 0), (52, .ireturn, 1, 0)]
def ip_cT_236 : List (Nat × Instr × Nat × Nat) := ip_cT_236_0
def ip_cT_237_0 : List (Nat × Instr × Nat × Nat) := [(0, .aload_n 0, 1, 0), (1, .getfield 9, 3, 100000), (4, .arraylength, 1, 0), (5, .aload_n 0, 1, 0), (6, .invokevirtual 335, 3, 239), (9, .ishr, 1, 0), (10, .ireturn, 1, 0)]
def ip_cT_237 : List (Nat × Instr × Nat × Nat) := ip_cT_237_0
def ip_cT_238_0 : List (Nat × Instr × Nat × Nat) := [(0, .aload_n 0, 1, 0), (1, .invokevirtual 492, 3, 240), (4, .ifCond .eq 12, 3, 16), (7, .aload_n 0, 1, 0), (8, .getfield 9, 3, 100000), (11, .iload_n 1, 1, 0), (12, .invokestatic 495, 3, 242), (15, .ireturn, 1, 0), (16, .aload_n 0, 1, 0), (17, .getfield 9, 3, 100000), (20, .iload_n 1, 1, 0), (24, .ireturn, 1, 0)]
def ip_cT_238 : List (Nat × Instr × Nat × Nat) := ip_cT_238_0
def ip_cT_239_0 : List (Nat × Instr × Nat × Nat) := [(0, .getstatic 38, 3, 0), (3, .ifCond .eq 10, 3, 13), (6, .aload_n 0, 1, 0), (7, .getfield 15, 3, 100001), (10, .goto 4, 3, 14), (13, .iconst 1, 1, 0), (14, .ireturn, 1, 0)]
def ip_cT_239 : List (Nat × Instr × Nat × Nat) := ip_cT_239_0
def ip_cT_240_0 : List (Nat × Instr × Nat × Nat) := [(0, .getstatic 38, 3, 0), (3, .ifCond .eq 14, 3, 17), (6, .aload_n 0, 1, 0), (7, .getfield 15, 3, 100001), (10, .ifCond .ne 7, 3, 17), (13, .iconst 1, 1, 0), (14, .goto 4, 3, 18), (17, .iconst 0, 1, 0), (18, .ireturn, 1, 0)]
def ip_cT_240 : List (Nat × Instr × Nat × Nat) := ip_cT_240_0
def ip_cT_241_0 : List (Nat × Instr × Nat × Nat) := [(0, .iload_n 0, 1, 0), (1, .iload_n 1, 1, 0), (2, .getstatic 1053, 3, 1), (5, .invokestatic 1059, 3, 244), (8, .pop, 1, 0), (9, .return_, 1, 0)]
def ip_cT_241 : List (Nat × Instr × Nat × Nat) := ip_cT_241_0
def ip_cT_242_0 : List (Nat × Instr × Nat × Nat) := [(0, .iload_n 1, 1, 0), (1, .aload_n 0, 1, 0), (2, .arraylength, 1, 0), (3, .invokestatic 9, 3, 241), (6, .aload_n 0, 1, 0), (7, .iload_n 1, 1, 0), (8, .baload, 1, 0), (9, .sipush 255, 3, 0), (12, .iand, 1, 0), (13, .i2c, 1, 0), (14, .ireturn, 1, 0)]
def ip_cT_242 : List (Nat × Instr × Nat × Nat) := ip_cT_242_0
def ip_cT_243_0 : List (Nat × Instr × Nat × Nat) := [(0, .iconst 0, 1, 0), (1, .istore_n 2, 1, 0), (2, .aload_n 0, 1, 0), (3, .arraylength, 1, 0), (4, .istore_n 3, 1, 0), (5, .iload_n 2, 1, 0), (6, .iload_n 3, 1, 0), (7, .if_icmp .ge 13, 3, 20), (10, .aload_n 0, 1, 0), (11, .iload_n 2, 1, 0), (12, .iload_n 1, 1, 0), (13, .iastore, 1, 0), (14, .iinc 2 1, 3, 0), (17, .goto (-12), 3, 5), (20, .return_, 1, 0)]
def ip_cT_243 : List (Nat × Instr × Nat × Nat) := ip_cT_243_0
def ip_cT_244_0 : List (Nat × Instr × Nat × Nat) := [(0, .iload_n 0, 1, 0), (1, .ifCond .lt 8, 3, 9), (4, .iload_n 0, 1, 0), (5, .iload_n 1, 1, 0), (6, .if_icmp .lt 10, 3, 16), (9, .aload_n 2, 1, 0), (10, .iload_n 0, 1, 0), (11, .iload_n 1, 1, 0), (15, .athrow, 1, 0), (16, .iload_n 0, 1, 0), (17, .ireturn, 1, 0)]
def ip_cT_244 : List (Nat × Instr × Nat × Nat) := ip_cT_244_0
def ip_cT : List (List (Nat × Instr × Nat × Nat)) := [ip_cT_0, ip_cT_1, ip_cT_2, ip_cT_3, ip_cT_4, ip_cT_5, ip_cT_6, ip_cT_7, ip_cT_8, ip_cT_9, ip_cT_10, ip_cT_11, ip_cT_12, ip_cT_13, ip_cT_14, ip_cT_15, ip_cT_16, ip_cT_17, ip_cT_18, ip_cT_19, ip_cT_20, ip_cT_21, ip_cT_22, ip_cT_23, ip_cT_24, ip_cT_25, ip_cT_26, ip_cT_27, ip_cT_28, ip_cT_29, ip_cT_30, ip_cT_31, ip_cT_32, ip_cT_33, ip_cT_34, ip_cT_35, ip_cT_36, ip_cT_37, ip_cT_38, ip_cT_39, ip_cT_40, ip_cT_41, ip_cT_42, ip_cT_43, ip_cT_44, ip_cT_45, ip_cT_46, ip_cT_47, ip_cT_48, ip_cT_49, ip_cT_50, ip_cT_51, ip_cT_52, ip_cT_53, ip_cT_54, ip_cT_55, ip_cT_56, ip_cT_57, ip_cT_58, ip_cT_59, ip_cT_60, ip_cT_61, ip_cT_62, ip_cT_63, ip_cT_64, ip_cT_65, ip_cT_66, ip_cT_67, ip_cT_68, ip_cT_69, ip_cT_70, ip_cT_71, ip_cT_72, ip_cT_73, ip_cT_74, ip_cT_75, ip_cT_76, ip_cT_77, ip_cT_78, ip_cT_79, ip_cT_80, ip_cT_81, ip_cT_82, ip_cT_83, ip_cT_84, ip_cT_85, ip_cT_86, ip_cT_87, ip_cT_88, ip_cT_89, ip_cT_90, ip_cT_91, ip_cT_92, ip_cT_93, ip_cT_94, ip_cT_95, ip_cT_96, ip_cT_97, ip_cT_98, ip_cT_99, ip_cT_100, ip_cT_101, ip_cT_102, ip_cT_103, ip_cT_104, ip_cT_105, ip_cT_106, ip_cT_107, ip_cT_108, ip_cT_109, ip_cT_110, ip_cT_111, ip_cT_112, ip_cT_113, ip_cT_114, ip_cT_115, ip_cT_116, ip_cT_117, ip_cT_118, ip_cT_119, ip_cT_120, ip_cT_121, ip_cT_122, ip_cT_123, ip_cT_124, ip_cT_125, ip_cT_126, ip_cT_127, ip_cT_128, ip_cT_129, ip_cT_130, ip_cT_131, ip_cT_132, ip_cT_133, ip_cT_134, ip_cT_135, ip_cT_136, ip_cT_137, ip_cT_138, ip_cT_139, ip_cT_140, ip_cT_141, ip_cT_142, ip_cT_143, ip_cT_144, ip_cT_145, ip_cT_146, ip_cT_147, ip_cT_148, ip_cT_149, ip_cT_150, ip_cT_151, ip_cT_152, ip_cT_153, ip_cT_154, ip_cT_155, ip_cT_156, ip_cT_157, ip_cT_158, ip_cT_159, ip_cT_160, ip_cT_161, ip_cT_162, ip_cT_163, ip_cT_164, ip_cT_165, ip_cT_166, ip_cT_167, ip_cT_168, ip_cT_169, ip_cT_170, ip_cT_171, ip_cT_172, ip_cT_173, ip_cT_174, ip_cT_175, ip_cT_176, ip_cT_177, ip_cT_178, ip_cT_179, ip_cT_180, ip_cT_181, ip_cT_182, ip_cT_183, ip_cT_184, ip_cT_185, ip_cT_186, ip_cT_187, ip_cT_188, ip_cT_189, ip_cT_190, ip_cT_191, ip_cT_192, ip_cT_193, ip_cT_194, ip_cT_195, ip_cT_196, ip_cT_197, ip_cT_198, ip_cT_199, ip_cT_200, ip_cT_201, ip_cT_202, ip_cT_203, ip_cT_204, ip_cT_205, ip_cT_206, ip_cT_207, ip_cT_208, ip_cT_209, ip_cT_210, ip_cT_211, ip_cT_212, ip_cT_213, ip_cT_214, ip_cT_215, ip_cT_216, ip_cT_217, ip_cT_218, ip_cT_219, ip_cT_220, ip_cT_221, ip_cT_222, ip_cT_223, ip_cT_224, ip_cT_225, ip_cT_226, ip_cT_227, ip_cT_228, ip_cT_229, ip_cT_230, ip_cT_231, ip_cT_232, ip_cT_233, ip_cT_234, ip_cT_235, ip_cT_236, ip_cT_237, ip_cT_238, ip_cT_239, ip_cT_240, ip_cT_241, ip_cT_242, ip_cT_243, ip_cT_244]
def ip_FL : List (Nat × Nat × Nat × Nat × Bool) := [(1, 9, 0, 323, false), (1, 17, 1, 324, false), (1, 20, 2, 325, false), (1, 23, 3, 326, false), (1, 27, 513, 180, true), (1, 39, 518, 194, true), (1, 42, 512, 175, true), (1, 55, 515, 186, true), (1, 67, 257, 166, true), (1, 80, 131, 280, true), (2, 13, 64, 150, false), (2, 18, 65, 151, false), (2, 25, 384, 137, true), (3, 11, 128, 275, false), (3, 16, 129, 276, false), (3, 19, 130, 277, false), (3, 23, 131, 279, false), (3, 26, 132, 282, false), (3, 29, 133, 283, false), (4, 12, 192, 239, false), (4, 18, 193, 241, false), (4, 25, 194, 242, false), (4, 29, 195, 243, false), (4, 33, 196, 244, false), (4, 36, 197, 245, false), (4, 39, 198, 246, false), (4, 68, 518, 196, true), (4, 75, 512, 177, true), (4, 84, 513, 181, true), (4, 114, 449, 221, true), (5, 11, 256, 164, false), (5, 15, 257, 165, false), (7, 12, 320, 299, false), (7, 21, 321, 301, false), (7, 25, 322, 302, false), (7, 29, 323, 303, false), (7, 32, 324, 304, false), (7, 35, 513, 179, true), (7, 44, 518, 193, true), (7, 48, 512, 174, true), (8, 11, 384, 136, false), (10, 9, 448, 218, false), (10, 15, 449, 219, false), (11, 9, 512, 173, false), (11, 18, 513, 178, false), (11, 25, 514, 183, false), (11, 32, 515, 185, false), (11, 36, 516, 188, false), (11, 39, 517, 190, false), (11, 42, 518, 192, false), (12, 10, 576, 337, false), (12, 16, 577, 338, false), (12, 19, 578, 339, false), (12, 22, 579, 340, false), (12, 29, 580, 341, false), (12, 36, 581, 342, false), (12, 43, 582, 343, false), (12, 50, 583, 344, false), (12, 54, 584, 345, false), (12, 58, 585, 346, false), (12, 62, 586, 347, false), (12, 73, 518, 195, true), (12, 81, 512, 176, true), (12, 84, 514, 184, true), (12, 93, 449, 220, true), (12, 107, 192, 240, true), (12, 121, 513, 182, true), (12, 163, 65, 152, true), (12, 176, 130, 278, true), (12, 179, 131, 281, true), (12, 210, 515, 187, true), (12, 214, 257, 167, true), (12, 220, 320, 300, true), (12, 228, 3, 327, true), (12, 240, 516, 189, true), (12, 243, 517, 191, true), (13, 1, 640, 1005, false), (13, 13, 646, 1011, false), (13, 16, 647, 1012, false), (13, 19, 648, 1013, false), (13, 22, 649, 1014, false), (13, 25, 650, 1015, false), (13, 28, 651, 1016, false), (13, 31, 652, 1017, false), (13, 34, 653, 1018, false), (13, 37, 654, 1019, false), (13, 40, 658, 1023, false), (13, 43, 659, 1024, false), (13, 46, 660, 1025, false), (13, 49, 661, 1026, false), (13, 52, 663, 1028, false), (13, 55, 664, 1029, false), (13, 58, 665, 1030, false), (13, 61, 667, 1032, false), (13, 65, 668, 1033, false), (13, 68, 669, 1034, false), (13, 75, 641, 1006, false), (13, 79, 642, 1007, false), (13, 82, 643, 1008, false), (13, 85, 644, 1009, false), (13, 88, 645, 1010, false), (13, 91, 662, 1027, false), (13, 102, 655, 1020, false), (13, 108, 656, 1021, false), (13, 131, 657, 1022, false), (13, 274, 666, 1031, false), (13, 304, 670, 1035, false)]
def ip_ML_0 : List (Nat × Nat × Nat × Nat × Nat × Nat × Nat × Nat × Bool) := [(0, 9, 91, 2, 99, 100, 76, 0, false), (0, 12, 148, 2, 997, 998, 87, 0, false), (0, 13, 92, 0, 371, 372, 373, 76, false), (0, 17, 151, 0, 1099, 1100, 1101, 87, false), (0, 18, 93, 0, 396, 397, 398, 76, false), (0, 22, 152, 0, 1110, 1111, 1112, 87, false), (0, 23, 94, 0, 401, 402, 403, 76, false), (0, 26, 153, 0, 1114, 1115, 1116, 87, false), (0, 27, 95, 0, 409, 410, 411, 76, false), (0, 31, 154, 0, 1122, 1123, 1124, 87, false), (0, 32, 96, 0, 417, 418, 419, 76, false), (0, 35, 171, 0, 1126, 1127, 1128, 87, false), (0, 36, 97, 0, 577, 578, 579, 76, false), (0, 40, 191, 0, 1215, 1216, 1217, 87, false), (0, 41, 98, 0, 603, 604, 605, 76, false), (0, 44, 192, 0, 1227, 1228, 1229, 87, false), (0, 45, 99, 0, 609, 610, 611, 76, false), (0, 48, 193, 0, 1235, 1236, 1237, 87, false), (0, 49, 100, 0, 615, 616, 617, 76, false), (0, 52, 194, 0, 1239, 1240, 1241, 87, false), (0, 53, 101, 0, 691, 692, 693, 76, false), (0, 56, 195, 0, 1295, 1296, 1297, 87, false), (0, 57, 102, 0, 700, 701, 702, 76, false), (0, 60, 197, 0, 1299, 1300, 1301, 87, false), (0, 61, 103, 0, 711, 712, 713, 76, false)]
def ip_ML_1 : List (Nat × Nat × Nat × Nat × Nat × Nat × Nat × Nat × Bool) := [(0, 64, 198, 0, 1307, 1308, 1309, 87, false), (0, 65, 104, 0, 715, 716, 717, 76, false), (0, 68, 199, 0, 1315, 1316, 1317, 87, false), (0, 69, 105, 0, 721, 722, 723, 76, false), (0, 72, 200, 0, 1319, 1320, 1321, 87, false), (0, 73, 106, 0, 735, 736, 737, 76, false), (0, 76, 201, 0, 1323, 1324, 1325, 87, false), (0, 77, 107, 0, 753, 754, 755, 76, false), (0, 80, 202, 0, 1331, 1332, 1333, 87, false), (0, 81, 108, 0, 772, 773, 774, 76, false), (0, 84, 203, 0, 1335, 1336, 1337, 87, false), (0, 85, 109, 0, 782, 783, 784, 76, false), (0, 88, 204, 0, 1339, 1340, 1341, 87, false), (0, 89, 110, 0, 786, 787, 788, 76, false), (0, 92, 206, 0, 1343, 1344, 1345, 87, false), (0, 93, 111, 0, 799, 800, 801, 76, false), (0, 96, 208, 0, 1351, 1352, 1353, 87, false), (0, 97, 112, 0, 835, 836, 837, 76, false), (0, 100, 210, 0, 1363, 1364, 1365, 87, false), (0, 101, 113, 0, 848, 849, 850, 76, false), (0, 104, 211, 0, 1371, 1372, 1373, 87, false), (0, 105, 114, 0, 852, 853, 854, 76, false), (0, 109, 212, 0, 1375, 1376, 1377, 87, false), (0, 110, 115, 0, 856, 857, 858, 76, false), (0, 113, 213, 0, 1379, 1380, 1381, 87, false)]
def ip_ML_2 : List (Nat × Nat × Nat × Nat × Nat × Nat × Nat × Nat × Bool) := [(0, 114, 116, 0, 861, 862, 863, 76, false), (0, 117, 216, 0, 1383, 1384, 1385, 87, false), (0, 118, 117, 0, 869, 870, 871, 76, false), (0, 121, 218, 0, 1399, 1400, 1401, 87, false), (0, 122, 118, 0, 882, 883, 884, 76, false), (0, 125, 217, 0, 1391, 1392, 1393, 87, false), (0, 126, 119, 0, 890, 891, 892, 76, false), (0, 129, 219, 0, 1403, 1404, 1405, 87, false), (0, 130, 120, 0, 901, 902, 903, 76, false), (0, 133, 222, 0, 1407, 1408, 1409, 87, false), (0, 134, 121, 0, 917, 918, 919, 76, false), (0, 137, 224, 0, 1419, 1420, 1421, 87, false), (0, 138, 122, 0, 933, 934, 935, 76, false), (0, 141, 225, 0, 1428, 1429, 1430, 87, false), (0, 142, 123, 0, 953, 954, 955, 76, false), (0, 146, 226, 0, 1443, 1444, 1445, 87, false), (0, 147, 124, 0, 957, 958, 959, 76, false), (0, 150, 229, 0, 1447, 1448, 1449, 87, false), (0, 151, 125, 0, 965, 966, 967, 76, false), (0, 154, 230, 0, 1451, 1452, 1453, 87, false), (0, 155, 126, 0, 969, 970, 971, 76, false), (0, 158, 231, 0, 1455, 1456, 1457, 87, false), (0, 159, 127, 0, 973, 974, 975, 76, false), (0, 162, 233, 0, 1459, 1460, 1461, 87, false), (0, 163, 128, 0, 983, 984, 985, 76, false)]
def ip_ML_3 : List (Nat × Nat × Nat × Nat × Nat × Nat × Nat × Nat × Bool) := [(0, 167, 235, 0, 1467, 1468, 1469, 87, false), (1, 33, 78, 0, 807, 808, 809, 78, false), (1, 45, 22, 0, 811, 625, 626, 85, false), (1, 51, 25, 0, 812, 655, 656, 85, false), (1, 59, 3, 1, 813, 814, 86, 0, false), (1, 63, 4, 0, 822, 824, 21, 86, false), (1, 72, 47, 0, 816, 817, 818, 81, false), (1, 76, 129, 1, 821, 376, 76, 0, true), (1, 89, 8, 0, 843, 845, 22, 86, false), (1, 98, 82, 1, 868, 672, 95, 0, false), (1, 104, 11, 0, 877, 879, 23, 86, false), (1, 107, 243, 1, 881, 122, 79, 0, false), (1, 113, 51, 1, 889, 652, 94, 0, false), (1, 118, 14, 1, 897, 898, 86, 0, false), (1, 121, 236, 1, 900, 746, 96, 0, false), (2, 22, 18, 0, 598, 600, 11, 80, false), (3, 39, 28, 0, 629, 631, 13, 85, false), (3, 49, 23, 0, 634, 636, 14, 85, false), (3, 53, 129, 1, 678, 376, 76, 0, true), (3, 57, 67, 0, 658, 659, 660, 78, false), (3, 63, 66, 0, 662, 591, 592, 78, false), (3, 66, 26, 0, 663, 665, 15, 85, false), (3, 70, 27, 0, 667, 669, 16, 85, false), (3, 74, 82, 1, 671, 672, 95, 0, false), (3, 80, 29, 0, 687, 688, 689, 85, false)]
def ip_ML_4 : List (Nat × Nat × Nat × Nat × Nat × Nat × Nat × Nat × Bool) := [(3, 83, 30, 0, 683, 684, 685, 85, false), (4, 11, 88, 2, 236, 108, 77, 0, true), (4, 24, 83, 2, 238, 215, 82, 0, true), (4, 42, 89, 0, 425, 383, 384, 77, false), (4, 46, 40, 0, 426, 428, 2, 83, false), (4, 49, 36, 0, 508, 510, 6, 83, false), (4, 53, 37, 1, 512, 513, 83, 0, false), (4, 57, 38, 0, 515, 517, 7, 83, false), (4, 61, 39, 0, 522, 524, 8, 83, false), (4, 64, 129, 1, 438, 376, 76, 0, true), (4, 71, 131, 1, 519, 520, 76, 0, true), (4, 88, 72, 0, 529, 129, 130, 78, false), (4, 94, 74, 0, 530, 531, 532, 78, false), (4, 97, 76, 0, 534, 535, 536, 78, false), (4, 100, 41, 0, 430, 432, 3, 83, false), (4, 104, 86, 0, 434, 435, 436, 82, false), (4, 107, 42, 0, 439, 441, 4, 83, false), (4, 111, 44, 0, 504, 506, 5, 83, false), (4, 117, 43, 1, 443, 444, 83, 0, false), (4, 121, 87, 0, 451, 452, 453, 82, false), (5, 19, 129, 1, 820, 376, 76, 0, true), (5, 25, 47, 0, 994, 817, 818, 81, false), (7, 11, 21, 2, 270, 271, 85, 0, true), (7, 20, 61, 2, 298, 114, 78, 0, false), (7, 40, 79, 0, 743, 639, 640, 78, false)]
def ip_ML_5 : List (Nat × Nat × Nat × Nat × Nat × Nat × Nat × Nat × Bool) := [(7, 51, 22, 0, 744, 625, 626, 85, false), (7, 55, 236, 1, 745, 746, 96, 0, false), (7, 61, 25, 0, 751, 655, 656, 85, false), (7, 65, 31, 0, 752, 680, 681, 85, false), (7, 69, 243, 1, 761, 122, 79, 0, false), (7, 75, 30, 0, 762, 684, 685, 85, false), (7, 78, 56, 0, 763, 765, 18, 84, false), (7, 87, 55, 0, 768, 770, 19, 84, false), (7, 91, 63, 0, 780, 563, 564, 78, false), (7, 95, 75, 0, 781, 543, 544, 78, false), (7, 98, 138, 1, 929, 923, 76, 0, true), (7, 102, 24, 0, 909, 910, 911, 85, false), (7, 106, 33, 0, 913, 914, 915, 85, false), (7, 121, 74, 0, 948, 531, 532, 78, false), (7, 124, 32, 0, 949, 950, 951, 85, false), (8, 15, 62, 0, 117, 118, 119, 78, false), (8, 18, 243, 1, 121, 122, 79, 0, false), (8, 24, 73, 0, 124, 125, 126, 78, false), (8, 34, 64, 0, 550, 552, 9, 78, false), (8, 38, 66, 0, 590, 591, 592, 78, false), (8, 42, 65, 0, 132, 134, 0, 78, false), (8, 46, 72, 0, 128, 129, 130, 78, false), (8, 49, 69, 0, 546, 547, 548, 78, false), (8, 57, 70, 0, 538, 539, 540, 78, false), (8, 61, 75, 0, 542, 543, 544, 78, false)]
def ip_ML_6 : List (Nat × Nat × Nat × Nat × Nat × Nat × Nat × Nat × Bool) := [(8, 64, 71, 0, 646, 587, 588, 78, false), (8, 68, 68, 0, 647, 648, 649, 78, false), (8, 71, 51, 1, 651, 652, 94, 0, false), (8, 77, 77, 0, 642, 643, 644, 78, false), (8, 80, 67, 0, 733, 659, 660, 78, false), (8, 83, 80, 0, 729, 730, 731, 78, false), (10, 19, 237, 0, 455, 456, 457, 88, false), (10, 24, 86, 0, 465, 435, 436, 82, false), (10, 28, 238, 0, 466, 467, 468, 88, false), (11, 17, 61, 2, 113, 114, 78, 0, false), (11, 24, 15, 2, 144, 145, 80, 0, true), (11, 31, 45, 2, 160, 161, 81, 0, true), (11, 46, 243, 1, 386, 122, 79, 0, false), (11, 52, 62, 0, 387, 118, 119, 78, false), (11, 55, 16, 0, 388, 389, 390, 80, false), (11, 58, 49, 0, 392, 393, 394, 81, false), (11, 68, 63, 0, 562, 563, 564, 78, false), (11, 72, 20, 0, 567, 568, 569, 80, false), (11, 76, 50, 0, 572, 573, 574, 81, false), (12, 9, 88, 2, 107, 108, 77, 0, true), (12, 28, 83, 2, 214, 215, 82, 0, true), (12, 35, 34, 2, 231, 232, 83, 0, true), (12, 42, 52, 2, 264, 265, 84, 0, true), (12, 49, 1, 2, 318, 319, 86, 0, true), (12, 65, 129, 1, 375, 376, 76, 0, false)]
def ip_ML_7 : List (Nat × Nat × Nat × Nat × Nat × Nat × Nat × Nat × Bool) := [(12, 69, 133, 0, 378, 380, 1, 76, false), (12, 77, 89, 0, 382, 383, 384, 77, false), (12, 88, 16, 0, 400, 389, 390, 80, false), (12, 96, 85, 0, 405, 406, 407, 82, false), (12, 99, 84, 0, 413, 414, 415, 82, false), (12, 103, 35, 0, 421, 422, 423, 83, false), (12, 110, 90, 0, 557, 558, 559, 77, false), (12, 114, 130, 0, 581, 583, 10, 76, false), (12, 118, 131, 1, 585, 520, 76, 0, false), (12, 125, 71, 0, 586, 587, 588, 78, false), (12, 130, 17, 0, 594, 595, 596, 80, false), (12, 134, 72, 0, 602, 129, 130, 78, false), (12, 138, 66, 0, 607, 591, 592, 78, false), (12, 141, 73, 0, 608, 125, 126, 78, false), (12, 144, 69, 0, 613, 547, 548, 78, false), (12, 147, 74, 0, 614, 531, 532, 78, false), (12, 150, 76, 0, 619, 535, 536, 78, false), (12, 153, 135, 0, 620, 622, 12, 76, false), (12, 157, 31, 0, 679, 680, 681, 85, false), (12, 166, 19, 0, 695, 696, 697, 80, false), (12, 169, 70, 0, 699, 539, 540, 78, false), (12, 172, 136, 0, 704, 706, 17, 76, false), (12, 182, 30, 0, 719, 684, 685, 85, false), (12, 185, 29, 0, 720, 688, 689, 85, false), (12, 188, 81, 0, 725, 726, 727, 78, false)]
def ip_ML_8 : List (Nat × Nat × Nat × Nat × Nat × Nat × Nat × Nat × Bool) := [(12, 191, 80, 0, 734, 730, 731, 78, false), (12, 194, 53, 0, 739, 740, 741, 84, false), (12, 198, 54, 0, 757, 758, 759, 84, false), (12, 201, 57, 0, 776, 777, 778, 84, false), (12, 204, 79, 0, 638, 639, 640, 78, false), (12, 207, 132, 0, 790, 792, 20, 76, false), (12, 217, 46, 0, 795, 796, 797, 81, false), (12, 224, 2, 0, 803, 804, 805, 86, false), (12, 231, 5, 0, 827, 828, 829, 86, false), (12, 234, 6, 0, 831, 832, 833, 86, false), (12, 237, 7, 0, 839, 840, 841, 86, false), (12, 246, 49, 0, 860, 393, 394, 81, false), (12, 249, 9, 1, 865, 866, 86, 0, false), (12, 253, 10, 0, 873, 874, 875, 86, false), (12, 256, 12, 1, 886, 887, 86, 0, false), (12, 259, 13, 1, 894, 895, 86, 0, false), (12, 262, 59, 0, 905, 906, 907, 84, false), (12, 268, 236, 1, 794, 746, 96, 0, false), (12, 273, 138, 1, 922, 923, 76, 0, false), (12, 277, 58, 0, 925, 926, 927, 84, false), (12, 281, 139, 1, 930, 931, 76, 0, false), (12, 286, 60, 0, 938, 939, 940, 84, false), (12, 289, 134, 0, 961, 963, 24, 76, false), (12, 293, 137, 0, 977, 979, 25, 76, false), (12, 300, 48, 0, 989, 990, 991, 81, false)]
def ip_ML_9 : List (Nat × Nat × Nat × Nat × Nat × Nat × Nat × Nat × Bool) := [(12, 303, 22, 0, 624, 625, 626, 85, false), (12, 307, 25, 0, 654, 655, 656, 85, false), (12, 311, 67, 0, 708, 659, 660, 78, false), (12, 314, 68, 0, 709, 648, 649, 78, false), (12, 317, 77, 0, 710, 643, 644, 78, false), (12, 320, 78, 0, 981, 808, 809, 78, false), (12, 323, 32, 0, 982, 950, 951, 85, false), (13, 71, 149, 0, 1001, 1003, 26, 87, false), (13, 94, 143, 1, 1103, 1104, 87, 0, false), (13, 98, 140, 0, 1106, 1108, 27, 87, false), (13, 105, 142, 0, 1118, 1120, 28, 87, false), (13, 111, 155, 0, 1150, 1152, 34, 87, false), (13, 114, 157, 1, 1162, 1163, 87, 0, false), (13, 118, 159, 0, 1158, 1160, 36, 87, false), (13, 121, 160, 0, 1165, 1167, 37, 87, false), (13, 125, 156, 0, 1146, 1148, 33, 87, false), (13, 128, 158, 1, 1173, 1174, 87, 0, false), (13, 134, 162, 0, 1169, 1171, 38, 87, false), (13, 138, 163, 0, 1176, 1178, 39, 87, false), (13, 142, 190, 0, 1200, 1202, 45, 87, false), (13, 145, 161, 0, 1154, 1156, 35, 87, false), (13, 148, 164, 0, 1184, 1186, 41, 87, false), (13, 151, 165, 0, 1188, 1190, 42, 87, false), (13, 154, 166, 0, 1192, 1194, 43, 87, false), (13, 157, 167, 0, 1196, 1198, 44, 87, false)]
def ip_ML_10 : List (Nat × Nat × Nat × Nat × Nat × Nat × Nat × Nat × Bool) := [(13, 160, 169, 0, 1142, 1144, 32, 87, false), (13, 163, 168, 0, 1180, 1182, 40, 87, false), (13, 166, 227, 0, 1130, 1132, 29, 87, false), (13, 170, 170, 0, 1138, 1140, 31, 87, false), (13, 173, 228, 0, 1207, 1209, 46, 87, false), (13, 176, 145, 1, 1204, 1205, 87, 0, false), (13, 180, 146, 1, 1284, 1285, 87, 0, false), (13, 183, 173, 1, 1247, 1248, 87, 0, false), (13, 186, 176, 0, 1270, 1272, 57, 87, false), (13, 189, 172, 1, 1281, 1282, 87, 0, false), (13, 193, 177, 0, 1266, 1268, 56, 87, false), (13, 196, 144, 1, 1274, 1275, 87, 0, false), (13, 199, 178, 0, 1277, 1279, 58, 87, false), (13, 203, 180, 0, 1287, 1289, 59, 87, false), (13, 206, 179, 0, 1262, 1264, 55, 87, false), (13, 209, 182, 0, 1258, 1260, 54, 87, false), (13, 212, 183, 0, 1254, 1256, 53, 87, false), (13, 215, 184, 0, 1291, 1293, 60, 87, false), (13, 218, 175, 0, 1243, 1245, 51, 87, false), (13, 221, 181, 0, 1311, 1313, 62, 87, false), (13, 224, 187, 0, 1134, 1136, 30, 87, false), (13, 227, 150, 0, 1219, 1221, 48, 87, false), (13, 230, 189, 0, 1223, 1225, 49, 87, false), (13, 233, 141, 0, 1231, 1233, 50, 87, false), (13, 236, 185, 0, 1250, 1252, 52, 87, false)]
def ip_ML_11 : List (Nat × Nat × Nat × Nat × Nat × Nat × Nat × Nat × Bool) := [(13, 239, 188, 0, 1211, 1213, 47, 87, false), (13, 242, 196, 0, 1303, 1305, 61, 87, false), (13, 246, 147, 1, 1328, 1329, 87, 0, false), (13, 249, 205, 0, 1347, 1349, 63, 87, false), (13, 252, 174, 0, 1355, 1357, 64, 87, false), (13, 255, 207, 0, 1359, 1361, 65, 87, false), (13, 258, 209, 0, 1367, 1369, 66, 87, false), (13, 261, 214, 0, 1387, 1389, 67, 87, false), (13, 264, 215, 0, 1395, 1397, 68, 87, false), (13, 267, 220, 0, 1415, 1417, 70, 87, false), (13, 270, 221, 0, 1411, 1413, 69, 87, false), (13, 279, 223, 0, 1424, 1426, 71, 87, false), (13, 296, 186, 0, 1439, 1441, 72, 87, false), (13, 299, 232, 0, 1463, 1465, 73, 87, false), (13, 309, 234, 0, 1472, 1474, 74, 87, false), (15, 335, 239, 0, 459, 460, 461, 88, false), (15, 492, 240, 0, 470, 471, 472, 88, false), (15, 495, 242, 1, 474, 475, 89, 0, false), (15, 1059, 244, 1, 482, 483, 90, 0, false), (16, 9, 241, 1, 477, 478, 88, 0, false)]
def ip_ML : List (Nat × Nat × Nat × Nat × Nat × Nat × Nat × Nat × Bool) := ip_ML_0 ++ ip_ML_1 ++ ip_ML_2 ++ ip_ML_3 ++ ip_ML_4 ++ ip_ML_5 ++ ip_ML_6 ++ ip_ML_7 ++ ip_ML_8 ++ ip_ML_9 ++ ip_ML_10 ++ ip_ML_11
def ip_NL : List (Nat × Nat × Nat × Nat × Nat × Nat) := [(0, 7, 9, 97, 98, 76), (0, 10, 10, 995, 996, 87), (4, 9, 8, 235, 106, 77), (4, 22, 7, 237, 213, 82), (7, 9, 2, 268, 269, 85), (7, 18, 6, 297, 112, 78), (11, 15, 6, 111, 112, 78), (11, 22, 1, 142, 143, 80), (11, 29, 4, 158, 159, 81), (12, 7, 8, 105, 106, 77), (12, 26, 7, 212, 213, 82), (12, 33, 3, 229, 230, 83), (12, 40, 5, 262, 263, 84), (12, 47, 0, 316, 317, 86)]
def ip_OL : List (Nat × Nat × Nat) := [(1, 3, 321), (2, 3, 147), (3, 3, 273), (4, 3, 234), (5, 3, 163), (7, 3, 267), (8, 3, 116), (10, 3, 217), (11, 3, 110), (12, 1, 102), (13, 7, 1000)]
def ip_AL : List (Nat × Nat × Nat) := [(1, 83, 826), (2, 29, 571), (3, 43, 633), (4, 78, 526), (5, 29, 576), (8, 28, 566), (11, 62, 561)]
def ip_XL : List (Nat × Nat × Nat × Nat) := [(1, 93, 9997, 847), (3, 33, 9996, 628), (7, 81, 9996, 767), (8, 52, 9996, 554), (9, 7, 9996, 674), (9, 13, 9997, 675)]
def ip_SR : List (Nat × Nat × Nat × Nat) := [(4, 125, 0, 446), (4, 127, 1, 447), (4, 129, 2, 448), (4, 131, 3, 449), (4, 133, 4, 450)]
def ip_KI : List (Nat × Nat × Int32 × Nat) := [(12, 285, 999999, 937), (13, 245, 1048576, 1327), (13, 283, 999999, 1432), (14, 265, 1431655765, 748), (14, 266, 858993459, 749), (14, 267, 252645135, 750)]
def ip_KL : List (Nat × Nat × Int64 × Nat) := [(5, 23, 31, 993), (7, 109, 1103515245, 942), (7, 111, 12345, 943), (7, 113, 2147483648, 944), (7, 115, 65536, 945), (7, 117, 6, 946), (7, 119, 1048576, 947), (12, 266, 10, 921), (12, 296, 1549, 987), (12, 298, 31, 988), (13, 277, 10, 1423), (13, 284, 1103515245, 1433), (13, 286, 12345, 1434), (13, 288, 2147483648, 1435), (13, 290, 65536, 1436), (13, 292, 6, 1437), (13, 294, 1048576, 1438), (13, 302, 31, 1476), (13, 307, 1549, 1471)]
def ip_strs : List String := ["tower", "method", "slip", "ringer", "years"]
def ip_codeP : List Nat := [0, 320, 806, 815, 825, 830, 834, 842, 846, 867, 876, 880, 888, 896, 899, 146, 391, 597, 601, 698, 570, 272, 627, 637, 912, 657, 666, 670, 632, 690, 686, 682, 952, 916, 233, 424, 511, 514, 518, 525, 429, 433, 442, 445, 507, 162, 798, 819, 992, 395, 575, 653, 266, 742, 760, 771, 766, 779, 928, 908, 941, 115, 120, 565, 553, 135, 593, 661, 650, 549, 541, 589, 131, 127, 533, 545, 537, 645, 810, 641, 732, 728, 673, 216, 416, 408, 437, 454, 109, 385, 560, 101, 374, 399, 404, 412, 420, 580, 606, 612, 618, 694, 703, 714, 718, 724, 738, 756, 775, 785, 789, 802, 838, 851, 855, 859, 864, 872, 885, 893, 904, 920, 936, 956, 960, 968, 972, 976, 986, 377, 584, 521, 793, 381, 964, 623, 707, 980, 924, 932, 1109, 1234, 1121, 1105, 1276, 1206, 1286, 1330, 999, 1004, 1222, 1102, 1113, 1117, 1125, 1153, 1149, 1164, 1175, 1161, 1168, 1157, 1172, 1179, 1187, 1191, 1195, 1199, 1183, 1145, 1141, 1129, 1283, 1249, 1358, 1246, 1273, 1269, 1280, 1265, 1290, 1314, 1261, 1257, 1294, 1253, 1442, 1137, 1214, 1226, 1203, 1218, 1230, 1238, 1242, 1298, 1306, 1302, 1310, 1318, 1322, 1326, 1334, 1338, 1342, 1350, 1346, 1362, 1354, 1370, 1366, 1374, 1378, 1382, 1390, 1398, 1386, 1394, 1402, 1406, 1418, 1414, 1410, 1427, 1422, 1431, 1446, 1133, 1210, 1450, 1454, 1458, 1466, 1462, 1475, 1470, 747, 458, 469, 462, 473, 479, 476, 123, 484]
def ip_MN : List (Nat × Nat × Nat) := [(1, 15, 322), (2, 11, 148), (3, 9, 274)]
end
section
/-! A PURE INTERPRETER of the claim's methods: a memory of cells by number (shape, ints, longs), locals and stack as lists of values whose references are cell numbers; what it runs is the table ip_cT. Part 06 shows that the machine does what it says. -/
abbrev ip_Sh : Type := Nat × Nat × List Nat
abbrev ip_F : Type := Nat → Nat → Int32
abbrev ip_G : Type := Nat → Nat → Int64
abbrev ip_M : Type := List ip_Sh × ip_F × ip_G
abbrev ip_R : Type := Option Value × ip_M
abbrev ip_Top : Type := Option (Nat × (Nat → Int32))
/-- numbers from here on are references to what no method writes: the script, String constants, their bytes, a formatter -/
def ip_EX : Nat := 1000000
def ip_unl : Value → Value
  | .long _ => .float 0
  | .double _ => .float 0
  | v => v
def ip_sto : List Value → Nat → Value → List Value
  | [], _, _ => []
  | _ :: l, 0, v => v :: l
  | a :: l, 1, v => ip_unl a :: ip_sto l 0 v
  | a :: l, i + 2, v => a :: ip_sto l (i + 1) v
def ip_sto2 (L : List Value) (i : Nat) (v : Value) : List Value := (ip_sto L i v).set (i + 1) (.float 0)
def ip_mI (j : Nat) : Nat × Nat × Nat × Nat × Nat × Nat × Nat := ip_mn.getD j (0, 0, 0, 0, 0, 0, 0)
def ip_mB (j : Nat) : MethodName × ByteArray × Nat × Option FieldType := ip_mi.getD j (x, code, 4, ret)
def ip_fetch (j pc : Nat) : Option (Instr × Nat × Nat) := (ip_cT.getD j []).lookup pc
def ip_cat (S : List Value) : Nat := (S.map fun v => v.category).sum
def ip_arg : List Value → List Value
  | [] => []
  | .long x :: r => .long x :: .float 0 :: ip_arg r
  | v :: r => v :: ip_arg r
def ip_okv : Value → Bool
  | .int _ => true
  | .long _ => true
  | .ref _ => true
  | _ => false
def ip_loc (mL : Nat) (as : List Value) : List Value := ip_arg as ++ List.replicate (mL - (ip_arg as).length) (.float 0)
def ip_u (F : ip_F) (k f : Nat) (v : Int32) : ip_F := fun a b => if a = k ∧ b = f then v else F a b
def ip_ul (G : ip_G) (k f : Nat) (v : Int64) : ip_G := fun a b => if a = k ∧ b = f then v else G a b
def ip_ur {α : Type} (F : Nat → Nat → α) (k : Nat) (g : Nat → α) : Nat → Nat → α := fun a => if a = k then g else F a
def ip_fd (F : ip_F) (G : ip_G) (k f : Nat) : Nat → Option Value
  | 0 => some (.int (F k f))
  | 1 => some (.long (G k f))
  | 2 => none
  | d + 3 => if d < ip_EX then some (.ref d) else none
def ip_gf (M : ip_M) (k aux : Nat) : Option Value := match M.1[k]? with
  | some (3, ci, l) => if ci = aux / 64 then (l[aux % 64]?).bind (ip_fd M.2.1 M.2.2 k (aux % 64)) else none
  | _ => none
def ip_pv (M : ip_M) (k ci f : Nat) (l : List Nat) (d : Nat) : FieldType → Value → Option ip_M
  | .int, .int x => if d = 0 then some (M.1, ip_u M.2.1 k f x, M.2.2) else none
  | .long, .long x => if d = 1 then some (M.1, M.2.1, ip_ul M.2.2 k f x) else none
  | .object _, .ref r => if 2 ≤ d ∧ r < M.1.length then some (M.1.set k (3, ci, l.set f (r + 3)), M.2.1, M.2.2) else none
  | .array _, .ref r => if 2 ≤ d ∧ r < M.1.length then some (M.1.set k (3, ci, l.set f (r + 3)), M.2.1, M.2.2) else none
  | _, _ => none
def ip_pf (M : ip_M) (k aux : Nat) (v : Value) : Option ip_M := match M.1[k]? with
  | some (3, ci, l) => if ci = aux / 64 then (l[aux % 64]?).bind fun d => ip_pv M k ci (aux % 64) l d (ip_ty ci (aux % 64)) v else none
  | _ => none
/-- is k an array of numbers of type t, and i a place in it -/
def ip_ia (M : ip_M) (t k : Nat) (i : Int32) : Bool := match M.1[k]? with
  | some (1, t', n :: _) => decide (t' = t) && !(decide (i < 0 ∨ n ≤ i.toNatClampNeg))
  | _ => false
def ip_bytL : List (List Int32) := [[116, 111, 119, 101, 114], [109, 101, 116, 104, 111, 100], [115, 108, 105, 112], [114, 105, 110, 103, 101, 114], [121, 101, 97, 114, 115]]
def ip_lenL : List Nat := [5, 6, 4, 6, 5]
def ip_len (top : ip_Top) (M : ip_M) (k : Nat) : Option Int32 := match M.1[k]? with
  | some (1, t, n :: _) => if t < 3 then some (Int32.ofNat n) else none
  | some (2, 3, l) => some (Int32.ofNat l.length)
  | some _ => none
  | none => if k = ip_EX then top.map (fun q => Int32.ofNat q.1) else if ip_EX + 11 ≤ k ∧ k < ip_EX + 16 then some (Int32.ofNat (ip_lenL.getD (k - (ip_EX + 11)) 0)) else none
def ip_aa (M : ip_M) (k : Nat) (i : Int32) : Option Value := match M.1[k]? with
  | some (2, 3, l) => if i < 0 then none else (l[i.toNatClampNeg]?).bind fun d => match d with
    | 0 => none
    | d + 1 => if d < ip_EX then some (.ref d) else none
  | _ => none
def ip_ial (top : ip_Top) (M : ip_M) (k : Nat) (i : Int32) : Option Value := if ip_ia M 0 k i then some (.int (M.2.1 k i.toNatClampNeg)) else
  if k = ip_EX then top.bind fun q => if i < 0 ∨ q.1 ≤ i.toNatClampNeg then none else some (.int (q.2 i.toNatClampNeg)) else none
def ip_bal (M : ip_M) (k : Nat) (i : Int32) : Option Value := if ip_ia M 1 k i || ip_ia M 2 k i then some (.int (M.2.1 k i.toNatClampNeg)) else
  if ip_EX + 11 ≤ k ∧ k < ip_EX + 16 then (if i < 0 ∨ ip_lenL.getD (k - (ip_EX + 11)) 0 ≤ i.toNatClampNeg then none else some (.int ((ip_bytL.getD (k - (ip_EX + 11)) []).getD i.toNatClampNeg 0))) else none
def ip_bas (M : ip_M) (k : Nat) (i x : Int32) : Option ip_M := if ip_ia M 1 k i then some (M.1, ip_u M.2.1 k i.toNatClampNeg (vp_nar .boolean x), M.2.2) else if ip_ia M 2 k i then some (M.1, ip_u M.2.1 k i.toNatClampNeg (vp_nar .byte x), M.2.2) else none
def ip_wfv (n : Nat) : Value → Bool
  | .ref a => decide (a < n) || decide (ip_EX ≤ a)
  | _ => true
def ip_wfs (n : Nat) (q : ip_Sh) : Bool := if q.1 = 2 then q.2.2.all (fun d => decide (d ≤ n)) else if q.1 = 3 then q.2.2.all (fun d => decide (d < n + 3)) else true
def ip_wf (M : ip_M) (L S : List Value) : Bool := decide (M.1.length < ip_EX) && M.1.all (ip_wfs M.1.length) && L.all (ip_wfv M.1.length) && S.all (ip_wfv M.1.length)
def ip_dfl (ci : Nat) : List Nat := match vwCl[ci]? with
  | some r => (List.range r.2.2).map fun k => match ip_ty ci k with
    | .int => 0
    | .long => 1
    | _ => 2
  | none => []
def ip_atyp : ArrayType → Nat
  | .int => 0
  | .boolean => 1
  | .byte => 2
  | _ => 9
/-- what touches the stack alone -/
def ip_st (j aux : Nat) (S : List Value) : Instr → Option (List Value)
  | .iconst n => some (.int (Int32.ofInt n) :: S)
  | .bipush n => some (.int (Int8.ofInt n).toInt32 :: S)
  | .sipush n => some (.int (Int16.ofInt n).toInt32 :: S)
  | .lconst n => some (.long (Int64.ofNat (n : Nat)) :: S)
  | .ldc _ => if 1000 ≤ aux then (if aux < 1005 then some (.ref (ip_EX + 1 + (aux - 1000)) :: S) else none) else (ip_KI[aux]?).map fun q => .int q.2.2.1 :: S
  | .ldc_w _ => (ip_KI[aux]?).map fun q => .int q.2.2.1 :: S
  | .ldc2_w _ => (ip_KL[aux]?).map fun q => .long q.2.2.1 :: S
  | .iadd => match S with
    | .int y :: .int x :: r => some (.int (x + y) :: r)
    | _ => none
  | .isub => match S with
    | .int y :: .int x :: r => some (.int (x - y) :: r)
    | _ => none
  | .imul => match S with
    | .int y :: .int x :: r => some (.int (x * y) :: r)
    | _ => none
  | .idiv => match S with
    | .int y :: .int x :: r => if y = 0 then none else some (.int (x / y) :: r)
    | _ => none
  | .irem => match S with
    | .int y :: .int x :: r => if y = 0 then none else some (.int (x - x / y * y) :: r)
    | _ => none
  | .iand => match S with
    | .int y :: .int x :: r => some (.int (x &&& y) :: r)
    | _ => none
  | .ior => match S with
    | .int y :: .int x :: r => some (.int (x ||| y) :: r)
    | _ => none
  | .ixor => match S with
    | .int y :: .int x :: r => some (.int (x ^^^ y) :: r)
    | _ => none
  | .ishl => match S with
    | .int y :: .int x :: r => some (.int (x <<< (y &&& 31)) :: r)
    | _ => none
  | .ishr => match S with
    | .int y :: .int x :: r => some (.int (x >>> (y &&& 31)) :: r)
    | _ => none
  | .iushr => match S with
    | .int y :: .int x :: r => some (.int (x.toUInt32 >>> (y.toUInt32 &&& Int32.toUInt32 31)).toInt32 :: r)
    | _ => none
  | .ladd => match S with
    | .long y :: .long x :: r => some (.long (x + y) :: r)
    | _ => none
  | .lmul => match S with
    | .long y :: .long x :: r => some (.long (x * y) :: r)
    | _ => none
  | .ldiv => match S with
    | .long y :: .long x :: r => if y = 0 then none else some (.long (x / y) :: r)
    | _ => none
  | .lrem => match S with
    | .long y :: .long x :: r => if y = 0 then none else some (.long (x - x / y * y) :: r)
    | _ => none
  | .lcmp => match S with
    | .long y :: .long x :: r => some (.int (lg_cmp x y) :: r)
    | _ => none
  | .i2l => match S with
    | .int x :: r => some (.long x.toInt64 :: r)
    | _ => none
  | .l2i => match S with
    | .long x :: r => some (.int x.toInt32 :: r)
    | _ => none
  | .i2b => match S with
    | .int x :: r => some (.int x.toInt8.toInt32 :: r)
    | _ => none
  | .i2c => match S with
    | .int x :: r => some (.int (x.toUInt32 % 65536).toInt32 :: r)
    | _ => none
  | .dup => match S with
    | v :: r => if v.category = 1 then some (v :: v :: r) else none
    | _ => none
  | .dup2 => match S with
    | v :: w :: r => if v.category = 1 ∧ w.category = 1 then some (v :: w :: v :: w :: r) else if v.category = 2 then some (v :: v :: w :: r) else none
    | _ => none
  | .pop => match S with
    | v :: r => if v.category = 1 then some r else none
    | _ => none
  | _ => none
def ip_ldI (L : List Value) (i : Nat) : Option Value := match L[i]? with
  | some (.int v) => some (.int v)
  | _ => none
def ip_ldL (L : List Value) (i : Nat) : Option Value := match L[i]? with
  | some (.long v) => some (.long v)
  | _ => none
def ip_ldA (L : List Value) (i : Nat) : Option Value := match L[i]? with
  | some (.ref v) => some (.ref v)
  | _ => none
def ip_cmp (x y : Int32) : Jvm.ClassFile.Cond → Prop
  | .eq => x = y
  | .ne => ¬ x = y
  | .lt => x < y
  | .ge => y ≤ x
  | .gt => y < x
  | .le => x ≤ y
def ip_dcmp (x y : Int32) : (c : Jvm.ClassFile.Cond) → Decidable (ip_cmp x y c)
  | .eq => inferInstanceAs (Decidable (x = y))
  | .ne => inferInstanceAs (Decidable (¬ x = y))
  | .lt => inferInstanceAs (Decidable (x < y))
  | .ge => inferInstanceAs (Decidable (y ≤ x))
  | .gt => inferInstanceAs (Decidable (y < x))
  | .le => inferInstanceAs (Decidable (x ≤ y))
def ip_if {α : Type} (x y : Int32) (c : Jvm.ClassFile.Cond) (a b : α) : α := @ite α (ip_cmp x y c) (ip_dcmp x y c) a b
/-- a switch's way, as far as it lies ahead -/
def ip_sw (pc : Nat) (d lo hi : Int) (offs : Array Int) (v : Int32) : Option Nat :=
  let t : Int := if v.toInt < lo ∨ hi < v.toInt then (pc : Int) + d else match offs[(v.toInt - lo).toNat]? with
    | some o => (pc : Int) + o
    | none => -1
  if t < 0 then none else some t.toNat
/-- may j call i with rest below: its room -/
def ip_may (j i : Nat) (cs : Nat × Nat) (rest : List Value) : Bool := match ip_mI j, ip_mI i with
  | (_, _, _, fr, lo, mc, ms), (_, _, _, fr', lo', mc', ms') => decide (fr' + 1 ≤ fr) && decide (8 + ((ip_mB i).2.2.1 + 11) + lo' ≤ lo) && decide (cs.1 + mc' ≤ mc) && decide (cs.2 + ms' ≤ ms) && decide (ip_cat rest ≤ 8)
/-- is what stands at k a receiver of method i -/
def ip_rcv (M : ip_M) (i k : Nat) : Bool := match M.1[k]? with
  | some (3, ci, _) => decide (ci = (ip_mI i).2.1)
  | some _ => false
  | none => decide ((ip_mI i).2.1 = 98 ∧ ip_EX + 1 ≤ k ∧ k < ip_EX + 6)
/-- a call: i's answer is put on what lies below -/
def ip_call (rec : Nat → List Value → List Value → ip_M → Nat × Nat → Option ip_R) (cal : Nat → List Value → ip_M → Option ip_R) (j pc i : Nat) (L as rest : List Value) (M : ip_M) (cs : Nat × Nat) : Option ip_R :=
  if (ip_may j i cs rest && as.all ip_okv && decide ((ip_arg as).length ≤ (ip_mB i).2.2.1)) && (decide ((ip_mI i).2.2.2.2.2.1 = 0) || ip_wf M L (as ++ rest)) then
    (cal i (ip_loc (ip_mB i).2.2.1 as) M).bind fun r => rec (pc + 3) L (r.1.toList ++ rest) r.2 (cs.1 + (ip_mI i).2.2.2.2.2.1, cs.2 + (ip_mI i).2.2.2.2.2.2)
  else none
def ip_copy (j : Nat) (S : List Value) (M : ip_M) : Option (List Value × ip_M) := match S with
  | .int n :: .int dp :: .ref d :: .int sp :: .ref a :: rest => match M.1[a]?, M.1[d]? with
    | some (1, 0, n0 :: _), some (1, 0, n1 :: _) => if ¬ (sp < 0 ∨ dp < 0 ∨ n < 0) ∧ sp.toNatClampNeg + n.toNatClampNeg ≤ n0 ∧ dp.toNatClampNeg + n.toNatClampNeg ≤ n1 ∧ 1 ≤ (ip_mI j).2.2.2.1 ∧ ip_cat rest + 18 ≤ (ip_mI j).2.2.2.2.1 then
        some (rest, (M.1, ip_ur M.2.1 d (va_cpy (M.2.1 a) (M.2.1 d) sp.toNatClampNeg dp.toNatClampNeg n.toNatClampNeg), M.2.2)) else none
    | _, _ => none
  | _ => none
def ip_newO (j ci : Nat) (L S : List Value) (M : ip_M) (cs : Nat × Nat) : Option (ip_M × (Nat × Nat)) :=
  if ip_wf M L S && decide (cs.1 + 1 ≤ (ip_mI j).2.2.2.2.2.1) && decide (cs.2 + (ip_dfl ci).length ≤ (ip_mI j).2.2.2.2.2.2) && decide (ci < vwCl.length) then
    some ((M.1 ++ [(3, ci, ip_dfl ci)], ip_ur M.2.1 M.1.length (fun _ => 0), ip_ur M.2.2 M.1.length (fun _ => 0)), (cs.1 + 1, cs.2 + (ip_dfl ci).length)) else none
def ip_newA (j t n : Nat) (L S : List Value) (M : ip_M) (cs : Nat × Nat) : Option (ip_M × (Nat × Nat)) :=
  if ip_wf M L S && decide (cs.1 + 1 ≤ (ip_mI j).2.2.2.2.2.1) && decide (cs.2 + n ≤ (ip_mI j).2.2.2.2.2.2) && decide (n ≤ 1000) && decide (t < 3) then
    some ((M.1 ++ [(1, t, [n])], ip_ur M.2.1 M.1.length (fun _ => 0), M.2.2), (cs.1 + 1, cs.2 + n)) else none
def ip_newM (j n k : Nat) (L S : List Value) (M : ip_M) (cs : Nat × Nat) : Option (ip_M × (Nat × Nat)) :=
  if ip_wf M L S && decide (cs.1 + 1 + n ≤ (ip_mI j).2.2.2.2.2.1) && decide (cs.2 + n + n * k ≤ (ip_mI j).2.2.2.2.2.2) && decide (n ≤ 1000) && decide (k ≤ 1000) && decide (M.1.length + 1 + n < ip_EX) then
    some ((M.1 ++ ((2, 3, (List.range n).map fun i => M.1.length + 2 + i) :: List.replicate n (1, 0, [k])), (fun a b => if M.1.length ≤ a then 0 else M.2.1 a b), M.2.2), (cs.1 + 1 + n, cs.2 + n + n * k)) else none
def ip_ends (j : Nat) (cs : Nat × Nat) : Bool := decide (cs.1 ≤ (ip_mI j).2.2.2.2.2.1) && decide (cs.2 ≤ (ip_mI j).2.2.2.2.2.2)
def ip_ex (top : ip_Top) (rec : Nat → List Value → List Value → ip_M → Nat × Nat → Option ip_R) (cal : Nat → List Value → ip_M → Option ip_R) (j pc len aux : Nat) (L S : List Value) (M : ip_M) (cs : Nat × Nat) : Instr → Option ip_R
  | .aload_n k => (ip_ldA L k).bind fun v => rec (pc + len) L (v :: S) M cs
  | .iload_n k => (ip_ldI L k).bind fun v => rec (pc + len) L (v :: S) M cs
  | .iload k => (ip_ldI L k).bind fun v => rec (pc + len) L (v :: S) M cs
  | .lload_n k => (ip_ldL L k).bind fun v => rec (pc + len) L (v :: S) M cs
  | .lload k => (ip_ldL L k).bind fun v => rec (pc + len) L (v :: S) M cs
  | .istore_n k => match S with
    | .int v :: r => rec (pc + len) (ip_sto L k (.int v)) r M cs
    | _ => none
  | .istore k => match S with
    | .int v :: r => rec (pc + len) (ip_sto L k (.int v)) r M cs
    | _ => none
  | .astore_n k => match S with
    | .ref v :: r => rec (pc + len) (ip_sto L k (.ref v)) r M cs
    | _ => none
  | .lstore_n k => match S with
    | .long v :: r => rec (pc + len) (ip_sto2 L k (.long v)) r M cs
    | _ => none
  | .lstore k => match S with
    | .long v :: r => rec (pc + len) (ip_sto2 L k (.long v)) r M cs
    | _ => none
  | .iinc k n => match L[k]? with
    | some (.int v) => rec (pc + len) (ip_sto L k (.int (v + Int32.ofInt n))) S M cs
    | _ => none
  | .goto _ => rec aux L S M cs
  | .if_icmp c _ => match S with
    | .int y :: .int v :: r => ip_if v y c (rec aux L r M cs) (rec (pc + len) L r M cs)
    | _ => none
  | .ifCond c _ => match S with
    | .int v :: r => ip_if v 0 c (rec aux L r M cs) (rec (pc + len) L r M cs)
    | _ => none
  | .tableswitch d lo hi offs => match S with
    | .int v :: r => (ip_sw pc d lo hi offs v).bind fun t => rec t L r M cs
    | _ => none
  | .getfield _ => match S with
    | .ref k :: r => if aux < 100000 then (ip_gf M k aux).bind fun v => rec (pc + len) L (v :: r) M cs
      else if M.1.length ≤ k ∧ ip_EX + 1 ≤ k ∧ k < ip_EX + 6 ∧ aux < 100002 then rec (pc + len) L ((if aux = 100000 then .ref (k + 10) else .int 0) :: r) M cs else none
    | _ => none
  | .putfield _ => match S with
    | v :: .ref k :: r => if aux < 100000 then (ip_pf M k aux v).bind fun M' => rec (pc + len) L r M' cs else none
    | _ => none
  | .getstatic _ => if aux = 0 then rec (pc + len) L (.int 1 :: S) M cs else if aux = 1 then rec (pc + len) L (.ref (ip_EX + 50) :: S) M cs else none
  | .iaload => match S with
    | .int i :: .ref k :: r => (ip_ial top M k i).bind fun v => rec (pc + len) L (v :: r) M cs
    | _ => none
  | .baload => match S with
    | .int i :: .ref k :: r => (ip_bal M k i).bind fun v => rec (pc + len) L (v :: r) M cs
    | _ => none
  | .aaload => match S with
    | .int i :: .ref k :: r => (ip_aa M k i).bind fun v => rec (pc + len) L (v :: r) M cs
    | _ => none
  | .iastore => match S with
    | .int v :: .int i :: .ref k :: r => if ip_ia M 0 k i then rec (pc + len) L r (M.1, ip_u M.2.1 k i.toNatClampNeg v, M.2.2) cs else none
    | _ => none
  | .bastore => match S with
    | .int v :: .int i :: .ref k :: r => (ip_bas M k i v).bind fun M' => rec (pc + len) L r M' cs
    | _ => none
  | .arraylength => match S with
    | .ref k :: r => (ip_len top M k).bind fun v => rec (pc + len) L (.int v :: r) M cs
    | _ => none
  | .new _ => (ip_newO j aux L S M cs).bind fun q => rec (pc + len) L (.ref M.1.length :: S) q.1 q.2
  | .newarray t => match S with
    | .int n :: r => if n < 0 then none else (ip_newA j (ip_atyp t) n.toNatClampNeg L r M cs).bind fun q => rec (pc + len) L (.ref M.1.length :: r) q.1 q.2
    | _ => none
  | .multianewarray _ 2 => match S with
    | .int k :: .int n :: r => if n < 0 ∨ k < 0 then none else (ip_newM j n.toNatClampNeg k.toNatClampNeg L r M cs).bind fun q => rec (pc + len) L (.ref M.1.length :: r) q.1 q.2
    | _ => none
  | .invokevirtual _ => if S.length < (ip_mI aux).2.2.1 then none else match (S.take (ip_mI aux).2.2.1).reverse with
    | .ref k :: as => if ip_rcv M aux k then ip_call rec cal j pc aux L (.ref k :: as) (S.drop (ip_mI aux).2.2.1) M cs else none
    | _ => none
  | .invokestatic _ => if aux = 9998 then (ip_copy j S M).bind fun q => rec (pc + len) L q.1 q.2 cs
    else if aux = 9997 ∨ aux = 9996 then (match S with
      | .int y :: .int x :: r => if 1 ≤ (ip_mI j).2.2.2.1 ∧ ip_cat r + 13 ≤ (ip_mI j).2.2.2.2.1 ∧ ip_ends j cs = true then rec (pc + len) L (.int (if aux = 9997 then (if x < y then y else x) else (if y < x then y else x)) :: r) M cs else none
      | _ => none)
    else if S.length < (ip_mI aux).2.2.1 then none else ip_call rec cal j pc aux L (S.take (ip_mI aux).2.2.1).reverse (S.drop (ip_mI aux).2.2.1) M cs
  | .invokespecial _ => if aux = 9999 then (match S with
      | .ref k :: r => if 1 ≤ (ip_mI j).2.2.2.1 ∧ ip_cat r + 12 ≤ (ip_mI j).2.2.2.2.1 ∧ k ≠ ip_EX + 50 then rec (pc + len) L r M cs else none
      | _ => none)
    else if S.length < (ip_mI aux).2.2.1 then none else match (S.take (ip_mI aux).2.2.1).reverse with
    | .ref k :: as => if k ≠ ip_EX + 50 then ip_call rec cal j pc aux L (.ref k :: as) (S.drop (ip_mI aux).2.2.1) M cs else none
    | _ => none
  | .return_ => if S.length = 0 ∧ (ip_mB j).2.2.2 = none ∧ ip_ends j cs = true then some (none, M) else none
  | .ireturn => match S with
    | [.int v] => match (ip_mB j).2.2.2 with
      | some ty => if narrow ty (.int v) = .int v ∧ ip_ends j cs = true then some (some (.int v), M) else none
      | none => none
    | _ => none
  | .lreturn => match S with
    | [.long v] => if (ip_mB j).2.2.2 = some .long ∧ ip_ends j cs = true then some (some (.long v), M) else none
    | _ => none
  | .areturn => match S with
    | [.ref v] => match (ip_mB j).2.2.2 with
      | some (.object _) => if ip_ends j cs = true then some (some (.ref v), M) else none
      | some (.array _) => if ip_ends j cs = true then some (some (.ref v), M) else none
      | _ => none
    | _ => none
  | ins => (ip_st j aux S ins).bind fun S' => rec (pc + len) L S' M cs
def ip_run : ip_Top → Nat → Nat → Nat → List Value → List Value → ip_M → Nat × Nat → Option ip_R
  | _, 0, _, _, _, _, _, _ => none
  | top, n + 1, j, pc, L, S, M, cs => (ip_fetch j pc).bind fun q => ip_ex top (fun pc' L' S' M' cs' => ip_run top n j pc' L' S' M' cs') (fun i L' M' => ip_run none n i 0 L' [] M' (0, 0)) j pc q.2.1 q.2.2 L S M cs q.1
end
section
/-! what each row of the tables says, decided once -/
def ip_own (j : Nat) : String := ip_ocN.getD (ip_mI j).1 ""
def ip_flc (e : Nat × Nat × Nat × Nat × Bool) : Bool := match vwCl[e.2.2.1 / 64]? with
  | some r => decide (e.2.2.1 % 64 < r.2.2) && decide ((r.2.1 (e.2.2.1 % 64)).1 = r.1) && decide (lw_tbl[e.2.2.2.1]? = some (if e.2.2.2.2 then Jvm.Cond.fieldLinkNest (ip_ocN.getD e.1 "") e.2.1 r.1 (r.2.1 (e.2.2.1 % 64)).2.1 (r.2.1 (e.2.2.1 % 64)).2.2.1 "HandedSlips" else Jvm.Cond.fieldLink (ip_ocN.getD e.1 "") e.2.1 r.1 (r.2.1 (e.2.2.1 % 64)).2.1 (r.2.1 (e.2.2.1 % 64)).2.2.1))
  | none => false
def ip_mlc (e : Nat × Nat × Nat × Nat × Nat × Nat × Nat × Nat × Bool) : Bool := match e with
  | (oc, idx, i, kind, p1, p2, p3, p4, nest) =>
    decide (i < ip_mi.length) && decide (0 < i) && (decide (kind ≠ 0) || !nest) && decide (lw_tbl[p1]? = some (if nest then Jvm.Cond.methodLinkNest (ip_ocN.getD oc "") idx (ip_mB i).1 "HandedSlips" else Jvm.Cond.methodLink (ip_ocN.getD oc "") idx (ip_mB i).1)) &&
    decide (lw_tbl[p2]? = some (if kind = 1 then Jvm.Cond.static (ip_mB i).1 else Jvm.Cond.instanceMethod (ip_mB i).1)) &&
    decide (lw_tbl[if kind = 0 then p4 else p3]? = some (Jvm.Cond.initialized (ip_mB i).1.cls)) &&
    (decide (kind ≠ 0) || (decide (lw_tbl[p3]? = some (Jvm.Cond.selects (ip_mB i).1.cls (ip_mB i).1 (ip_mB i).1)) && (if (ip_mI i).2.1 = 98 then decide ((ip_mB i).1.cls = "java/lang/String") else decide ((vwCl[(ip_mI i).2.1]?).map (fun r => r.1) = some (ip_mB i).1.cls)))) &&
    (decide (kind ≠ 2) || (decide ((ip_mB i).1.name = "<init>") && decide ((ip_mB i).2.2.2 = none))) &&
    decide ((parseMethodDescriptor (ip_mB i).1.desc).map (fun d => d.parameters.length) = some (if kind = 1 then (ip_mI i).2.2.1 else (ip_mI i).2.2.1 - 1)) && (decide (kind = 1) || decide (1 ≤ (ip_mI i).2.2.1))
def ip_nlc (e : Nat × Nat × Nat × Nat × Nat × Nat) : Bool := match e with
  | (oc, idx, ci, p1, p2, p3) => match vwCl[ci]? with
    | some r => decide (lw_tbl[p1]? = some (Jvm.Cond.classLink (ip_ocN.getD oc "") idx r.1)) && decide (lw_tbl[p2]? = some (Jvm.Cond.instantiable r.1 r.2.2)) && decide (lw_tbl[p3]? = some (Jvm.Cond.initialized r.1))
    | none => false
theorem ip_ty_ok : ∀ ci, ci < vwCl.length → ∀ k, k < ((vwCl[ci]?).map (fun r => r.2.2)).getD 0 → (match ip_ty ci k with | .int => true | .long => true | .object _ => true | .array _ => true | _ => false) = true := by decide +kernel
theorem ip_dfl_len : ∀ ci, ci < vwCl.length → (ip_dfl ci).length = ((vwCl[ci]?).map (fun r => r.2.2)).getD 0 := by decide +kernel
theorem ip_FLok : (ip_FL.all ip_flc) = true := by decide +kernel
theorem ip_MLok_0 : (ip_ML_0.all ip_mlc) = true := by decide +kernel
theorem ip_MLok_1 : (ip_ML_1.all ip_mlc) = true := by decide +kernel
theorem ip_MLok_2 : (ip_ML_2.all ip_mlc) = true := by decide +kernel
theorem ip_MLok_3 : (ip_ML_3.all ip_mlc) = true := by decide +kernel
theorem ip_MLok_4 : (ip_ML_4.all ip_mlc) = true := by decide +kernel
theorem ip_MLok_5 : (ip_ML_5.all ip_mlc) = true := by decide +kernel
theorem ip_MLok_6 : (ip_ML_6.all ip_mlc) = true := by decide +kernel
theorem ip_MLok_7 : (ip_ML_7.all ip_mlc) = true := by decide +kernel
theorem ip_MLok_8 : (ip_ML_8.all ip_mlc) = true := by decide +kernel
theorem ip_MLok_9 : (ip_ML_9.all ip_mlc) = true := by decide +kernel
theorem ip_MLok_10 : (ip_ML_10.all ip_mlc) = true := by decide +kernel
theorem ip_MLok_11 : (ip_ML_11.all ip_mlc) = true := by decide +kernel
theorem ip_MLok : (ip_ML.all ip_mlc) = true := by simp only [ip_ML, List.all_append, ip_MLok_0, ip_MLok_1, ip_MLok_2, ip_MLok_3, ip_MLok_4, ip_MLok_5, ip_MLok_6, ip_MLok_7, ip_MLok_8, ip_MLok_9, ip_MLok_10, ip_MLok_11, Bool.and_self]
theorem ip_NLok : (ip_NL.all ip_nlc) = true := by decide +kernel
theorem ip_OLok : (ip_OL.all fun e => decide (lw_tbl[e.2.2]? = some (Jvm.Cond.methodLink (ip_ocN.getD e.1 "") e.2.1 objectInit))) = true := by decide +kernel
theorem ip_ALok : (ip_AL.all fun e => decide (lw_tbl[e.2.2]? = some (Jvm.Cond.methodLink (ip_ocN.getD e.1 "") e.2.1 arraycopyName))) = true := by decide +kernel
theorem ip_XLok : (ip_XL.all fun e => decide (lw_tbl[e.2.2.2]? = some (Jvm.Cond.methodLink (ip_ocN.getD e.1 "") e.2.1 (if e.2.2.1 = 9997 then Lib.Math.max.name else Lib.Math.min.name)))) = true := by decide +kernel
theorem ip_w_mth : Jvm.Cond.static Lib.Math.max.name ∈ lw_tbl ∧ Jvm.Cond.static Lib.Math.min.name ∈ lw_tbl ∧ Jvm.Cond.initialized "java/lang/Math" ∈ lw_tbl ∧ Jvm.Cond.code Lib.Math.max.name Lib.Math.max.code 2 (some .int) ∈ lw_tbl ∧ Jvm.Cond.code Lib.Math.min.name Lib.Math.min.code 2 (some .int) ∈ lw_tbl := by decide +kernel
theorem ip_SRok : (ip_SR.all fun e => decide (lw_tbl[e.2.2.2]? = some (Jvm.Cond.stringRef (ip_ocN.getD e.1 "") e.2.1 (ip_strs.getD e.2.2.1 "")))) = true := by decide +kernel
theorem ip_KIok : (ip_KI.all fun e => decide (lw_tbl[e.2.2.2]? = some (Jvm.Cond.constant (ip_ocN.getD e.1 "") e.2.1 e.2.2.1))) = true := by decide +kernel
theorem ip_KLok : (ip_KL.all fun e => decide (lw_tbl[e.2.2.2]? = some (Jvm.Cond.constantLong (ip_ocN.getD e.1 "") e.2.1 e.2.2.1))) = true := by decide +kernel
theorem ip_MNok : (ip_MN.all fun e => decide (lw_tbl[e.2.2]? = some (Jvm.Cond.classLink (ip_ocN.getD e.1 "") e.2.1 ("[" ++ (FieldType.array .int).toString)))) = true := by decide +kernel
theorem ip_w_obj : Jvm.Cond.instanceMethod objectInit ∈ lw_tbl ∧ Jvm.Cond.code objectInit ⟨#[0xb1]⟩ 1 none ∈ lw_tbl := by decide +kernel
theorem ip_w_acp : Jvm.Cond.native arraycopyName ∈ lw_tbl ∧ Jvm.Cond.static arraycopyName ∈ lw_tbl ∧ Jvm.Cond.initialized "java/lang/System" ∈ lw_tbl := by decide +kernel
theorem ip_w_str : Jvm.Cond.fieldLink "java/lang/String" 9 "java/lang/String" "value" "[B" ∈ lw_tbl ∧ Jvm.Cond.fieldLink "java/lang/String" 15 "java/lang/String" "coder" "B" ∈ lw_tbl ∧ Jvm.Cond.fieldLink "java/lang/String" 38 "java/lang/String" "COMPACT_STRINGS" "Z" ∈ lw_tbl ∧ Jvm.Cond.fieldLink "java/lang/String" 1053 "jdk/internal/util/Preconditions" "SIOOBE_FORMATTER" "Ljava/util/function/BiFunction;" ∈ lw_tbl := by decide +kernel
theorem ip_w_arr : Jvm.Cond.arrayClass .int ∈ lw_tbl ∧ Jvm.Cond.arrayClass .boolean ∈ lw_tbl ∧ Jvm.Cond.arrayClass .byte ∈ lw_tbl ∧ Jvm.Cond.arrayOver (.array .int) ∈ lw_tbl := by decide +kernel
def ip_good : List Jvm.Cond := lw_tbl.filter goodWord
theorem ip_good_mem {w : Jvm.Cond} (h : w ∈ lw_tbl) (hg : goodWord w = true) : w ∈ ip_good := List.mem_filter.mpr ⟨h, hg⟩
def ip_isN : Jvm.Cond → Bool
  | .fieldLinkNest _ _ _ _ _ _ => true
  | .methodLinkNest _ _ _ _ => true
  | _ => false
def ip_nst : List Jvm.Cond := lw_tbl.filter ip_isN
theorem ip_nst_mem {w : Jvm.Cond} (h : w ∈ lw_tbl) (hg : ip_isN w = true) : w ∈ ip_nst := List.mem_filter.mpr ⟨h, hg⟩
set_option maxRecDepth 20000 in
theorem ip_wc_1 : lw_tbl[320]? = some (Jvm.Cond.code yX0_init cX0_init 1 none) := rfl
set_option maxRecDepth 20000 in
theorem ip_wc_2 : lw_tbl[806]? = some (Jvm.Cond.code yX0_findSets cX0_findSets 5 none) := rfl
set_option maxRecDepth 20000 in
theorem ip_wc_3 : lw_tbl[815]? = some (Jvm.Cond.code yX0_agrees cX0_agrees 4 (some (FieldType.boolean))) := rfl
set_option maxRecDepth 20000 in
theorem ip_wc_4 : lw_tbl[825]? = some (Jvm.Cond.code yX0_addSet cX0_addSet 3 none) := rfl
set_option maxRecDepth 20000 in
theorem ip_wc_5 : lw_tbl[830]? = some (Jvm.Cond.code yX0_ropesInAll cX0_ropesInAll 3 (some (FieldType.int))) := rfl
set_option maxRecDepth 20000 in
theorem ip_wc_6 : lw_tbl[834]? = some (Jvm.Cond.code yX0_ropesInSome cX0_ropesInSome 3 (some (FieldType.int))) := rfl
set_option maxRecDepth 20000 in
theorem ip_wc_7 : lw_tbl[842]? = some (Jvm.Cond.code yX0_tellingRow cX0_tellingRow 5 (some (FieldType.int))) := rfl
set_option maxRecDepth 20000 in
theorem ip_wc_8 : lw_tbl[846]? = some (Jvm.Cond.code yX0_mostAlike cX0_mostAlike 6 (some (FieldType.int))) := rfl
set_option maxRecDepth 20000 in
theorem ip_wc_9 : lw_tbl[867]? = some (Jvm.Cond.code yX0_slipKinds cX0_slipKinds 7 (some (FieldType.int))) := rfl
set_option maxRecDepth 20000 in
theorem ip_wc_10 : lw_tbl[876]? = some (Jvm.Cond.code yX0_lookingPlace cX0_lookingPlace 6 (some (FieldType.int))) := rfl
set_option maxRecDepth 20000 in
theorem ip_wc_11 : lw_tbl[880]? = some (Jvm.Cond.code yX0_mostComingAlike cX0_mostComingAlike 6 (some (FieldType.int))) := rfl
set_option maxRecDepth 20000 in
theorem ip_wc_12 : lw_tbl[888]? = some (Jvm.Cond.code yX0_ringerKinds cX0_ringerKinds 7 (some (FieldType.int))) := rfl
set_option maxRecDepth 20000 in
theorem ip_wc_13 : lw_tbl[896]? = some (Jvm.Cond.code yX0_askingYears cX0_askingYears 6 (some (FieldType.int))) := rfl
set_option maxRecDepth 20000 in
theorem ip_wc_14 : lw_tbl[899]? = some (Jvm.Cond.code yX0_greaterPart cX0_greaterPart 6 (some (FieldType.int))) := rfl
set_option maxRecDepth 20000 in
theorem ip_wc_15 : lw_tbl[146]? = some (Jvm.Cond.code yX1_init cX1_init 1 none) := rfl
set_option maxRecDepth 20000 in
theorem ip_wc_16 : lw_tbl[391]? = some (Jvm.Cond.code yX1_letGo cX1_letGo 1 none) := rfl
set_option maxRecDepth 20000 in
theorem ip_wc_17 : lw_tbl[597]? = some (Jvm.Cond.code yX1_keep cX1_keep 2 none) := rfl
set_option maxRecDepth 20000 in
theorem ip_wc_18 : lw_tbl[601]? = some (Jvm.Cond.code yX1_dropOldest cX1_dropOldest 2 none) := rfl
set_option maxRecDepth 20000 in
theorem ip_wc_19 : lw_tbl[698]? = some (Jvm.Cond.code yX1_restore cX1_restore 2 none) := rfl
set_option maxRecDepth 20000 in
theorem ip_wc_20 : lw_tbl[570]? = some (Jvm.Cond.code yX1_copyHistory cX1_copyHistory 3 none) := rfl
set_option maxRecDepth 20000 in
theorem ip_wc_21 : lw_tbl[272]? = some (Jvm.Cond.code yX2_init cX2_init 1 none) := rfl
set_option maxRecDepth 20000 in
theorem ip_wc_22 : lw_tbl[627]? = some (Jvm.Cond.code yX2_mean cX2_mean 5 none) := rfl
set_option maxRecDepth 20000 in
theorem ip_wc_23 : lw_tbl[637]? = some (Jvm.Cond.code yX2_swapPairs cX2_swapPairs 7 none) := rfl
set_option maxRecDepth 20000 in
theorem ip_wc_24 : lw_tbl[912]? = some (Jvm.Cond.code yX2_lend cX2_lend 4 none) := rfl
set_option maxRecDepth 20000 in
theorem ip_wc_25 : lw_tbl[657]? = some (Jvm.Cond.code yX2_ring cX2_ring 5 none) := rfl
set_option maxRecDepth 20000 in
theorem ip_wc_26 : lw_tbl[666]? = some (Jvm.Cond.code yX2_makeSlip cX2_makeSlip 7 none) := rfl
set_option maxRecDepth 20000 in
theorem ip_wc_27 : lw_tbl[670]? = some (Jvm.Cond.code yX2_placeOf cX2_placeOf 4 (some (FieldType.int))) := rfl
set_option maxRecDepth 20000 in
theorem ip_wc_28 : lw_tbl[632]? = some (Jvm.Cond.code yX2_numberOf cX2_numberOf 4 (some (FieldType.int))) := rfl
set_option maxRecDepth 20000 in
theorem ip_wc_29 : lw_tbl[690]? = some (Jvm.Cond.code yX2_rowLike cX2_rowLike 3 (some (FieldType.int))) := rfl
set_option maxRecDepth 20000 in
theorem ip_wc_30 : lw_tbl[686]? = some (Jvm.Cond.code yX2_firstRepeat cX2_firstRepeat 2 (some (FieldType.int))) := rfl
set_option maxRecDepth 20000 in
theorem ip_wc_31 : lw_tbl[682]? = some (Jvm.Cond.code yX2_isTrue cX2_isTrue 1 (some (FieldType.boolean))) := rfl
set_option maxRecDepth 20000 in
theorem ip_wc_32 : lw_tbl[952]? = some (Jvm.Cond.code yX2_rowsAstray cX2_rowsAstray 3 (some (FieldType.int))) := rfl
set_option maxRecDepth 20000 in
theorem ip_wc_33 : lw_tbl[916]? = some (Jvm.Cond.code yX2_rowsAstrayOf cX2_rowsAstrayOf 4 (some (FieldType.int))) := rfl
set_option maxRecDepth 20000 in
theorem ip_wc_34 : lw_tbl[233]? = some (Jvm.Cond.code yX3_init cX3_init 1 none) := rfl
set_option maxRecDepth 20000 in
theorem ip_wc_35 : lw_tbl[424]? = some (Jvm.Cond.code yX3_parse cX3_parse 3 (some (FieldType.int))) := rfl
set_option maxRecDepth 20000 in
theorem ip_wc_36 : lw_tbl[511]? = some (Jvm.Cond.code yX3_readItem cX3_readItem 5 (some (FieldType.boolean))) := rfl
set_option maxRecDepth 20000 in
theorem ip_wc_37 : lw_tbl[514]? = some (Jvm.Cond.code yX3_numbersOf cX3_numbersOf 1 (some (FieldType.int))) := rfl
set_option maxRecDepth 20000 in
theorem ip_wc_38 : lw_tbl[518]? = some (Jvm.Cond.code yX3_standsAt cX3_standsAt 3 (some (FieldType.boolean))) := rfl
set_option maxRecDepth 20000 in
theorem ip_wc_39 : lw_tbl[525]? = some (Jvm.Cond.code yX3_apply cX3_apply 2 none) := rfl
set_option maxRecDepth 20000 in
theorem ip_wc_40 : lw_tbl[429]? = some (Jvm.Cond.code yX3_nextToken cX3_nextToken 2 none) := rfl
set_option maxRecDepth 20000 in
theorem ip_wc_41 : lw_tbl[433]? = some (Jvm.Cond.code yX3_skip cX3_skip 5 (some (FieldType.int))) := rfl
set_option maxRecDepth 20000 in
theorem ip_wc_42 : lw_tbl[442]? = some (Jvm.Cond.code yX3_itemSpelled cX3_itemSpelled 2 (some (FieldType.int))) := rfl
set_option maxRecDepth 20000 in
theorem ip_wc_43 : lw_tbl[445]? = some (Jvm.Cond.code yX3_wordOf cX3_wordOf 1 (some ((FieldType.object "java/lang/String")))) := rfl
set_option maxRecDepth 20000 in
theorem ip_wc_44 : lw_tbl[507]? = some (Jvm.Cond.code yX3_numberSpelled cX3_numberSpelled 3 (some (FieldType.int))) := rfl
set_option maxRecDepth 20000 in
theorem ip_wc_45 : lw_tbl[162]? = some (Jvm.Cond.code yX4_init cX4_init 1 none) := rfl
set_option maxRecDepth 20000 in
theorem ip_wc_46 : lw_tbl[798]? = some (Jvm.Cond.code yX4_append cX4_append 6 (some (FieldType.int))) := rfl
set_option maxRecDepth 20000 in
theorem ip_wc_47 : lw_tbl[819]? = some (Jvm.Cond.code yX4_cell cX4_cell 4 (some (FieldType.int))) := rfl
set_option maxRecDepth 20000 in
theorem ip_wc_48 : lw_tbl[992]? = some (Jvm.Cond.code yX4_mixInto cX4_mixInto 8 (some (FieldType.long))) := rfl
set_option maxRecDepth 20000 in
theorem ip_wc_49 : lw_tbl[395]? = some (Jvm.Cond.code yX4_forgetAll cX4_forgetAll 2 (some (FieldType.int))) := rfl
set_option maxRecDepth 20000 in
theorem ip_wc_50 : lw_tbl[575]? = some (Jvm.Cond.code yX4_copyRecords cX4_copyRecords 2 none) := rfl
set_option maxRecDepth 20000 in
theorem ip_wc_51 : lw_tbl[653]? = some (Jvm.Cond.code yX5_makes cX5_makes 5 (some (FieldType.boolean))) := rfl
set_option maxRecDepth 20000 in
theorem ip_wc_52 : lw_tbl[266]? = some (Jvm.Cond.code yX6_init cX6_init 1 none) := rfl
set_option maxRecDepth 20000 in
theorem ip_wc_53 : lw_tbl[742]? = some (Jvm.Cond.code yX6_leastMend cX6_leastMend 6 (some (FieldType.int))) := rfl
set_option maxRecDepth 20000 in
theorem ip_wc_54 : lw_tbl[760]? = some (Jvm.Cond.code yX6_leastMethod cX6_leastMethod 5 (some (FieldType.int))) := rfl
set_option maxRecDepth 20000 in
theorem ip_wc_55 : lw_tbl[771]? = some (Jvm.Cond.code yX6_advanceTrial cX6_advanceTrial 3 (some (FieldType.boolean))) := rfl
set_option maxRecDepth 20000 in
theorem ip_wc_56 : lw_tbl[766]? = some (Jvm.Cond.code yX6_trialNumber cX6_trialNumber 3 (some (FieldType.int))) := rfl
set_option maxRecDepth 20000 in
theorem ip_wc_57 : lw_tbl[779]? = some (Jvm.Cond.code yX6_yearsUntilTrue cX6_yearsUntilTrue 3 (some (FieldType.int))) := rfl
set_option maxRecDepth 20000 in
theorem ip_wc_58 : lw_tbl[928]? = some (Jvm.Cond.code yX6_trueWeight cX6_trueWeight 9 (some (FieldType.long))) := rfl
set_option maxRecDepth 20000 in
theorem ip_wc_59 : lw_tbl[908]? = some (Jvm.Cond.code yX6_restingPairs cX6_restingPairs 8 (some (FieldType.int))) := rfl
set_option maxRecDepth 20000 in
theorem ip_wc_60 : lw_tbl[941]? = some (Jvm.Cond.code yX6_weddingRows cX6_weddingRows 9 (some (FieldType.int))) := rfl
set_option maxRecDepth 20000 in
theorem ip_wc_61 : lw_tbl[115]? = some (Jvm.Cond.code yX7_init cX7_init 1 none) := rfl
set_option maxRecDepth 20000 in
theorem ip_wc_62 : lw_tbl[120]? = some (Jvm.Cond.code yX7_untell cX7_untell 2 none) := rfl
set_option maxRecDepth 20000 in
theorem ip_wc_63 : lw_tbl[565]? = some (Jvm.Cond.code yX7_copyRopes cX7_copyRopes 2 none) := rfl
set_option maxRecDepth 20000 in
theorem ip_wc_64 : lw_tbl[553]? = some (Jvm.Cond.code yX7_cell cX7_cell 3 (some (FieldType.int))) := rfl
set_option maxRecDepth 20000 in
theorem ip_wc_65 : lw_tbl[135]? = some (Jvm.Cond.code yX7_setCell cX7_setCell 4 none) := rfl
set_option maxRecDepth 20000 in
theorem ip_wc_66 : lw_tbl[593]? = some (Jvm.Cond.code yX7_slipKind cX7_slipKind 2 (some (FieldType.int))) := rfl
set_option maxRecDepth 20000 in
theorem ip_wc_67 : lw_tbl[661]? = some (Jvm.Cond.code yX7_slipRow cX7_slipRow 2 (some (FieldType.int))) := rfl
set_option maxRecDepth 20000 in
theorem ip_wc_68 : lw_tbl[650]? = some (Jvm.Cond.code yX7_ringerKind cX7_ringerKind 2 (some (FieldType.int))) := rfl
set_option maxRecDepth 20000 in
theorem ip_wc_69 : lw_tbl[549]? = some (Jvm.Cond.code yX7_yearsOf cX7_yearsOf 2 (some (FieldType.int))) := rfl
set_option maxRecDepth 20000 in
theorem ip_wc_70 : lw_tbl[541]? = some (Jvm.Cond.code yX7_townYear cX7_townYear 1 (some (FieldType.int))) := rfl
set_option maxRecDepth 20000 in
theorem ip_wc_71 : lw_tbl[589]? = some (Jvm.Cond.code yX7_hasSlip cX7_hasSlip 2 (some (FieldType.boolean))) := rfl
set_option maxRecDepth 20000 in
theorem ip_wc_72 : lw_tbl[131]? = some (Jvm.Cond.code yX7_putSlip cX7_putSlip 4 none) := rfl
set_option maxRecDepth 20000 in
theorem ip_wc_73 : lw_tbl[127]? = some (Jvm.Cond.code yX7_takeSlip cX7_takeSlip 2 none) := rfl
set_option maxRecDepth 20000 in
theorem ip_wc_74 : lw_tbl[533]? = some (Jvm.Cond.code yX7_seat cX7_seat 4 none) := rfl
set_option maxRecDepth 20000 in
theorem ip_wc_75 : lw_tbl[545]? = some (Jvm.Cond.code yX7_passYear cX7_passYear 2 none) := rfl
set_option maxRecDepth 20000 in
theorem ip_wc_76 : lw_tbl[537]? = some (Jvm.Cond.code yX7_passYears cX7_passYears 3 none) := rfl
set_option maxRecDepth 20000 in
theorem ip_wc_77 : lw_tbl[645]? = some (Jvm.Cond.code yX7_makesSlip cX7_makesSlip 2 (some (FieldType.boolean))) := rfl
set_option maxRecDepth 20000 in
theorem ip_wc_78 : lw_tbl[810]? = some (Jvm.Cond.code yX7_slipBits cX7_slipBits 3 (some (FieldType.int))) := rfl
set_option maxRecDepth 20000 in
theorem ip_wc_79 : lw_tbl[641]? = some (Jvm.Cond.code yX7_madeBits cX7_madeBits 3 (some (FieldType.int))) := rfl
set_option maxRecDepth 20000 in
theorem ip_wc_80 : lw_tbl[732]? = some (Jvm.Cond.code yX7_madeInRow cX7_madeInRow 4 (some (FieldType.int))) := rfl
set_option maxRecDepth 20000 in
theorem ip_wc_81 : lw_tbl[728]? = some (Jvm.Cond.code yX7_fullestRow cX7_fullestRow 5 (some (FieldType.int))) := rfl
set_option maxRecDepth 20000 in
theorem ip_wc_82 : lw_tbl[673]? = some (Jvm.Cond.code yX8_placeTold cX8_placeTold 6 (some (FieldType.int))) := rfl
set_option maxRecDepth 20000 in
theorem ip_wc_83 : lw_tbl[216]? = some (Jvm.Cond.code yX9_init cX9_init 1 none) := rfl
set_option maxRecDepth 20000 in
theorem ip_wc_84 : lw_tbl[416]? = some (Jvm.Cond.code yX9_empty cX9_empty 2 (some (FieldType.int))) := rfl
set_option maxRecDepth 20000 in
theorem ip_wc_85 : lw_tbl[408]? = some (Jvm.Cond.code yX9_append cX9_append 2 none) := rfl
set_option maxRecDepth 20000 in
theorem ip_wc_86 : lw_tbl[437]? = some (Jvm.Cond.code yX9_byteAt cX9_byteAt 2 (some (FieldType.int))) := rfl
set_option maxRecDepth 20000 in
theorem ip_wc_87 : lw_tbl[454]? = some (Jvm.Cond.code yX9_spells cX9_spells 5 (some (FieldType.boolean))) := rfl
set_option maxRecDepth 20000 in
theorem ip_wc_88 : lw_tbl[109]? = some (Jvm.Cond.code yX10_init cX10_init 1 none) := rfl
set_option maxRecDepth 20000 in
theorem ip_wc_89 : lw_tbl[385]? = some (Jvm.Cond.code yX10_begin cX10_begin 2 none) := rfl
set_option maxRecDepth 20000 in
theorem ip_wc_90 : lw_tbl[560]? = some (Jvm.Cond.code yX10_copyTower cX10_copyTower 2 none) := rfl
set_option maxRecDepth 20000 in
theorem ip_wc_91 : lw_tbl[101]? = some (Jvm.Cond.code yX11_init cX11_init 1 none) := rfl
set_option maxRecDepth 20000 in
theorem ip_wc_92 : lw_tbl[374]? = some (Jvm.Cond.code yX11_tower cX11_tower 3 (some (FieldType.int))) := rfl
set_option maxRecDepth 20000 in
theorem ip_wc_93 : lw_tbl[399]? = some (Jvm.Cond.code yX11_method cX11_method 4 (some (FieldType.int))) := rfl
set_option maxRecDepth 20000 in
theorem ip_wc_94 : lw_tbl[404]? = some (Jvm.Cond.code yX11_type cX11_type 2 (some (FieldType.int))) := rfl
set_option maxRecDepth 20000 in
theorem ip_wc_95 : lw_tbl[412]? = some (Jvm.Cond.code yX11_clear cX11_clear 1 (some (FieldType.int))) := rfl
set_option maxRecDepth 20000 in
theorem ip_wc_96 : lw_tbl[420]? = some (Jvm.Cond.code yX11_read cX11_read 2 (some (FieldType.int))) := rfl
set_option maxRecDepth 20000 in
theorem ip_wc_97 : lw_tbl[580]? = some (Jvm.Cond.code yX11_slips cX11_slips 5 (some (FieldType.int))) := rfl
set_option maxRecDepth 20000 in
theorem ip_wc_98 : lw_tbl[606]? = some (Jvm.Cond.code yX11_drops cX11_drops 3 (some (FieldType.int))) := rfl
set_option maxRecDepth 20000 in
theorem ip_wc_99 : lw_tbl[612]? = some (Jvm.Cond.code yX11_hands cX11_hands 4 (some (FieldType.int))) := rfl
set_option maxRecDepth 20000 in
theorem ip_wc_100 : lw_tbl[618]? = some (Jvm.Cond.code yX11_year cX11_year 2 (some (FieldType.int))) := rfl
set_option maxRecDepth 20000 in
theorem ip_wc_101 : lw_tbl[694]? = some (Jvm.Cond.code yX11_undo cX11_undo 1 (some (FieldType.int))) := rfl
set_option maxRecDepth 20000 in
theorem ip_wc_102 : lw_tbl[703]? = some (Jvm.Cond.code yX11_of cX11_of 3 (some (FieldType.int))) := rfl
set_option maxRecDepth 20000 in
theorem ip_wc_103 : lw_tbl[714]? = some (Jvm.Cond.code yX11_row cX11_row 4 (some (FieldType.int))) := rfl
set_option maxRecDepth 20000 in
theorem ip_wc_104 : lw_tbl[718]? = some (Jvm.Cond.code yX11_repeats cX11_repeats 4 (some (FieldType.int))) := rfl
set_option maxRecDepth 20000 in
theorem ip_wc_105 : lw_tbl[724]? = some (Jvm.Cond.code yX11_clash cX11_clash 3 (some (FieldType.int))) := rfl
set_option maxRecDepth 20000 in
theorem ip_wc_106 : lw_tbl[738]? = some (Jvm.Cond.code yX11_mend cX11_mend 1 (some (FieldType.int))) := rfl
set_option maxRecDepth 20000 in
theorem ip_wc_107 : lw_tbl[756]? = some (Jvm.Cond.code yX11_compose cX11_compose 1 (some (FieldType.int))) := rfl
set_option maxRecDepth 20000 in
theorem ip_wc_108 : lw_tbl[775]? = some (Jvm.Cond.code yX11_when cX11_when 1 (some (FieldType.int))) := rfl
set_option maxRecDepth 20000 in
theorem ip_wc_109 : lw_tbl[785]? = some (Jvm.Cond.code yX11_clean cX11_clean 1 (some (FieldType.int))) := rfl
set_option maxRecDepth 20000 in
theorem ip_wc_110 : lw_tbl[789]? = some (Jvm.Cond.code yX11_heard cX11_heard 3 (some (FieldType.int))) := rfl
set_option maxRecDepth 20000 in
theorem ip_wc_111 : lw_tbl[802]? = some (Jvm.Cond.code yX11_who cX11_who 2 (some (FieldType.int))) := rfl
set_option maxRecDepth 20000 in
theorem ip_wc_112 : lw_tbl[838]? = some (Jvm.Cond.code yX11_tell cX11_tell 1 (some (FieldType.int))) := rfl
set_option maxRecDepth 20000 in
theorem ip_wc_113 : lw_tbl[851]? = some (Jvm.Cond.code yX11_note cX11_note 4 (some (FieldType.int))) := rfl
set_option maxRecDepth 20000 in
theorem ip_wc_114 : lw_tbl[855]? = some (Jvm.Cond.code yX11_mark cX11_mark 5 (some (FieldType.int))) := rfl
set_option maxRecDepth 20000 in
theorem ip_wc_115 : lw_tbl[859]? = some (Jvm.Cond.code yX11_forget cX11_forget 3 (some (FieldType.int))) := rfl
set_option maxRecDepth 20000 in
theorem ip_wc_116 : lw_tbl[864]? = some (Jvm.Cond.code yX11_is cX11_is 2 (some (FieldType.int))) := rfl
set_option maxRecDepth 20000 in
theorem ip_wc_117 : lw_tbl[872]? = some (Jvm.Cond.code yX11_look cX11_look 2 (some (FieldType.int))) := rfl
set_option maxRecDepth 20000 in
theorem ip_wc_118 : lw_tbl[885]? = some (Jvm.Cond.code yX11_kinds cX11_kinds 2 (some (FieldType.int))) := rfl
set_option maxRecDepth 20000 in
theorem ip_wc_119 : lw_tbl[893]? = some (Jvm.Cond.code yX11_ask cX11_ask 2 (some (FieldType.int))) := rfl
set_option maxRecDepth 20000 in
theorem ip_wc_120 : lw_tbl[904]? = some (Jvm.Cond.code yX11_lends cX11_lends 3 (some (FieldType.int))) := rfl
set_option maxRecDepth 20000 in
theorem ip_wc_121 : lw_tbl[920]? = some (Jvm.Cond.code yX11_odds cX11_odds 8 (some (FieldType.int))) := rfl
set_option maxRecDepth 20000 in
theorem ip_wc_122 : lw_tbl[936]? = some (Jvm.Cond.code yX11_weddings cX11_weddings 3 (some (FieldType.int))) := rfl
set_option maxRecDepth 20000 in
theorem ip_wc_123 : lw_tbl[956]? = some (Jvm.Cond.code yX11_part cX11_part 2 (some (FieldType.long))) := rfl
set_option maxRecDepth 20000 in
theorem ip_wc_124 : lw_tbl[960]? = some (Jvm.Cond.code yX11_image cX11_image 2 (some (FieldType.int))) := rfl
set_option maxRecDepth 20000 in
theorem ip_wc_125 : lw_tbl[968]? = some (Jvm.Cond.code yX11_from cX11_from 2 (some (FieldType.int))) := rfl
set_option maxRecDepth 20000 in
theorem ip_wc_126 : lw_tbl[972]? = some (Jvm.Cond.code yX11_status cX11_status 2 (some (FieldType.int))) := rfl
set_option maxRecDepth 20000 in
theorem ip_wc_127 : lw_tbl[976]? = some (Jvm.Cond.code yX11_count cX11_count 2 (some (FieldType.int))) := rfl
set_option maxRecDepth 20000 in
theorem ip_wc_128 : lw_tbl[986]? = some (Jvm.Cond.code yX11_digest cX11_digest 5 (some (FieldType.long))) := rfl
set_option maxRecDepth 20000 in
theorem ip_wc_129 : lw_tbl[377]? = some (Jvm.Cond.code yX11_within cX11_within 3 (some (FieldType.boolean))) := rfl
set_option maxRecDepth 20000 in
theorem ip_wc_130 : lw_tbl[584]? = some (Jvm.Cond.code yX11_isRope cX11_isRope 2 (some (FieldType.boolean))) := rfl
set_option maxRecDepth 20000 in
theorem ip_wc_131 : lw_tbl[521]? = some (Jvm.Cond.code yX11_isKind cX11_isKind 1 (some (FieldType.boolean))) := rfl
set_option maxRecDepth 20000 in
theorem ip_wc_132 : lw_tbl[793]? = some (Jvm.Cond.code yX11_isRow cX11_isRow 6 (some (FieldType.boolean))) := rfl
set_option maxRecDepth 20000 in
theorem ip_wc_133 : lw_tbl[381]? = some (Jvm.Cond.code yX11_refuse cX11_refuse 3 (some (FieldType.int))) := rfl
set_option maxRecDepth 20000 in
theorem ip_wc_134 : lw_tbl[964]? = some (Jvm.Cond.code yX11_imageAt cX11_imageAt 2 (some ((FieldType.object "HandedSlips$Tower")))) := rfl
set_option maxRecDepth 20000 in
theorem ip_wc_135 : lw_tbl[623]? = some (Jvm.Cond.code yX11_ringNow cX11_ringNow 2 (some ((FieldType.object "HandedSlips$Peal")))) := rfl
set_option maxRecDepth 20000 in
theorem ip_wc_136 : lw_tbl[707]? = some (Jvm.Cond.code yX11_ropeFact cX11_ropeFact 3 (some (FieldType.int))) := rfl
set_option maxRecDepth 20000 in
theorem ip_wc_137 : lw_tbl[980]? = some (Jvm.Cond.code yX11_howMany cX11_howMany 2 (some (FieldType.int))) := rfl
set_option maxRecDepth 20000 in
theorem ip_wc_138 : lw_tbl[924]? = some (Jvm.Cond.code yX11_power cX11_power 6 (some (FieldType.long))) := rfl
set_option maxRecDepth 20000 in
theorem ip_wc_139 : lw_tbl[932]? = some (Jvm.Cond.code yX11_commonDivisor cX11_commonDivisor 11 (some (FieldType.long))) := rfl
set_option maxRecDepth 20000 in
theorem ip_wc_140 : lw_tbl[1109]? = some (Jvm.Cond.code yX12_bad cX12_bad 1 (some (FieldType.int))) := rfl
set_option maxRecDepth 20000 in
theorem ip_wc_141 : lw_tbl[1234]? = some (Jvm.Cond.code yX12_no cX12_no 1 (some (FieldType.int))) := rfl
set_option maxRecDepth 20000 in
theorem ip_wc_142 : lw_tbl[1121]? = some (Jvm.Cond.code yX12_full cX12_full 1 (some (FieldType.int))) := rfl
set_option maxRecDepth 20000 in
theorem ip_wc_143 : lw_tbl[1105]? = some (Jvm.Cond.code yX12_in cX12_in 3 (some (FieldType.boolean))) := rfl
set_option maxRecDepth 20000 in
theorem ip_wc_144 : lw_tbl[1276]? = some (Jvm.Cond.code yX12_has cX12_has 2 (some (FieldType.boolean))) := rfl
set_option maxRecDepth 20000 in
theorem ip_wc_145 : lw_tbl[1206]? = some (Jvm.Cond.code yX12_lesser cX12_lesser 2 (some (FieldType.int))) := rfl
set_option maxRecDepth 20000 in
theorem ip_wc_146 : lw_tbl[1286]? = some (Jvm.Cond.code yX12_greater cX12_greater 2 (some (FieldType.int))) := rfl
set_option maxRecDepth 20000 in
theorem ip_wc_147 : lw_tbl[1330]? = some (Jvm.Cond.code yX12_bits cX12_bits 3 (some (FieldType.int))) := rfl
set_option maxRecDepth 20000 in
theorem ip_wc_148 : lw_tbl[999]? = some (Jvm.Cond.code yX12_init cX12_init 1 none) := rfl
set_option maxRecDepth 20000 in
theorem ip_wc_149 : lw_tbl[1004]? = some (Jvm.Cond.code yX12_begin cX12_begin 3 none) := rfl
set_option maxRecDepth 20000 in
theorem ip_wc_150 : lw_tbl[1222]? = some (Jvm.Cond.code yX12_isRope cX12_isRope 2 (some (FieldType.boolean))) := rfl
set_option maxRecDepth 20000 in
theorem ip_wc_151 : lw_tbl[1102]? = some (Jvm.Cond.code yX12_tower cX12_tower 3 (some (FieldType.int))) := rfl
set_option maxRecDepth 20000 in
theorem ip_wc_152 : lw_tbl[1113]? = some (Jvm.Cond.code yX12_method cX12_method 4 (some (FieldType.int))) := rfl
set_option maxRecDepth 20000 in
theorem ip_wc_153 : lw_tbl[1117]? = some (Jvm.Cond.code yX12_type cX12_type 2 (some (FieldType.int))) := rfl
set_option maxRecDepth 20000 in
theorem ip_wc_154 : lw_tbl[1125]? = some (Jvm.Cond.code yX12_clear cX12_clear 2 (some (FieldType.int))) := rfl
set_option maxRecDepth 20000 in
theorem ip_wc_155 : lw_tbl[1153]? = some (Jvm.Cond.code yX12_here cX12_here 1 (some (FieldType.int))) := rfl
set_option maxRecDepth 20000 in
theorem ip_wc_156 : lw_tbl[1149]? = some (Jvm.Cond.code yX12_skip cX12_skip 1 none) := rfl
set_option maxRecDepth 20000 in
theorem ip_wc_157 : lw_tbl[1164]? = some (Jvm.Cond.code yX12_isLetter cX12_isLetter 1 (some (FieldType.boolean))) := rfl
set_option maxRecDepth 20000 in
theorem ip_wc_158 : lw_tbl[1175]? = some (Jvm.Cond.code yX12_isFigure cX12_isFigure 1 (some (FieldType.boolean))) := rfl
set_option maxRecDepth 20000 in
theorem ip_wc_159 : lw_tbl[1161]? = some (Jvm.Cond.code yX12_wordSize cX12_wordSize 2 (some (FieldType.int))) := rfl
set_option maxRecDepth 20000 in
theorem ip_wc_160 : lw_tbl[1168]? = some (Jvm.Cond.code yX12_letter cX12_letter 2 (some (FieldType.int))) := rfl
set_option maxRecDepth 20000 in
theorem ip_wc_161 : lw_tbl[1157]? = some (Jvm.Cond.code yX12_wordHere cX12_wordHere 2 (some (FieldType.int))) := rfl
set_option maxRecDepth 20000 in
theorem ip_wc_162 : lw_tbl[1172]? = some (Jvm.Cond.code yX12_number cX12_number 5 (some (FieldType.boolean))) := rfl
set_option maxRecDepth 20000 in
theorem ip_wc_163 : lw_tbl[1179]? = some (Jvm.Cond.code yX12_ends cX12_ends 1 (some (FieldType.boolean))) := rfl
set_option maxRecDepth 20000 in
theorem ip_wc_164 : lw_tbl[1187]? = some (Jvm.Cond.code yX12_readsMethod cX12_readsMethod 2 (some (FieldType.boolean))) := rfl
set_option maxRecDepth 20000 in
theorem ip_wc_165 : lw_tbl[1191]? = some (Jvm.Cond.code yX12_readsSlip cX12_readsSlip 2 (some (FieldType.boolean))) := rfl
set_option maxRecDepth 20000 in
theorem ip_wc_166 : lw_tbl[1195]? = some (Jvm.Cond.code yX12_readsRinger cX12_readsRinger 2 (some (FieldType.boolean))) := rfl
set_option maxRecDepth 20000 in
theorem ip_wc_167 : lw_tbl[1199]? = some (Jvm.Cond.code yX12_readsYears cX12_readsYears 3 (some (FieldType.boolean))) := rfl
set_option maxRecDepth 20000 in
theorem ip_wc_168 : lw_tbl[1183]? = some (Jvm.Cond.code yX12_readsItem cX12_readsItem 2 (some (FieldType.boolean))) := rfl
set_option maxRecDepth 20000 in
theorem ip_wc_169 : lw_tbl[1145]? = some (Jvm.Cond.code yX12_readsFirst cX12_readsFirst 1 (some (FieldType.boolean))) := rfl
set_option maxRecDepth 20000 in
theorem ip_wc_170 : lw_tbl[1141]? = some (Jvm.Cond.code yX12_readsTower cX12_readsTower 2 (some (FieldType.int))) := rfl
set_option maxRecDepth 20000 in
theorem ip_wc_171 : lw_tbl[1129]? = some (Jvm.Cond.code yX12_read cX12_read 2 (some (FieldType.int))) := rfl
set_option maxRecDepth 20000 in
theorem ip_wc_172 : lw_tbl[1283]? = some (Jvm.Cond.code yX12_placeBy cX12_placeBy 6 (some (FieldType.int))) := rfl
set_option maxRecDepth 20000 in
theorem ip_wc_173 : lw_tbl[1249]? = some (Jvm.Cond.code yX12_makesBy cX12_makesBy 3 (some (FieldType.boolean))) := rfl
set_option maxRecDepth 20000 in
theorem ip_wc_174 : lw_tbl[1358]? = some (Jvm.Cond.code yX12_slipped cX12_slipped 3 (some (FieldType.int))) := rfl
set_option maxRecDepth 20000 in
theorem ip_wc_175 : lw_tbl[1246]? = some (Jvm.Cond.code yX12_made cX12_made 3 (some (FieldType.int))) := rfl
set_option maxRecDepth 20000 in
theorem ip_wc_176 : lw_tbl[1273]? = some (Jvm.Cond.code yX12_swaps cX12_swaps 3 none) := rfl
set_option maxRecDepth 20000 in
theorem ip_wc_177 : lw_tbl[1269]? = some (Jvm.Cond.code yX12_setMeant cX12_setMeant 5 none) := rfl
set_option maxRecDepth 20000 in
theorem ip_wc_178 : lw_tbl[1280]? = some (Jvm.Cond.code yX12_slides cX12_slides 5 none) := rfl
set_option maxRecDepth 20000 in
theorem ip_wc_179 : lw_tbl[1265]? = some (Jvm.Cond.code yX12_setRung cX12_setRung 4 none) := rfl
set_option maxRecDepth 20000 in
theorem ip_wc_180 : lw_tbl[1290]? = some (Jvm.Cond.code yX12_told cX12_told 3 (some (FieldType.int))) := rfl
set_option maxRecDepth 20000 in
theorem ip_wc_181 : lw_tbl[1314]? = some (Jvm.Cond.code yX12_meant cX12_meant 2 (some (FieldType.int))) := rfl
set_option maxRecDepth 20000 in
theorem ip_wc_182 : lw_tbl[1261]? = some (Jvm.Cond.code yX12_rung cX12_rung 3 (some (FieldType.int))) := rfl
set_option maxRecDepth 20000 in
theorem ip_wc_183 : lw_tbl[1257]? = some (Jvm.Cond.code yX12_setRungs cX12_setRungs 3 none) := rfl
set_option maxRecDepth 20000 in
theorem ip_wc_184 : lw_tbl[1294]? = some (Jvm.Cond.code yX12_earlier cX12_earlier 3 (some (FieldType.int))) := rfl
set_option maxRecDepth 20000 in
theorem ip_wc_185 : lw_tbl[1253]? = some (Jvm.Cond.code yX12_isTrue cX12_isTrue 4 (some (FieldType.boolean))) := rfl
set_option maxRecDepth 20000 in
theorem ip_wc_186 : lw_tbl[1442]? = some (Jvm.Cond.code yX12_otherwise cX12_otherwise 4 (some (FieldType.int))) := rfl
set_option maxRecDepth 20000 in
theorem ip_wc_187 : lw_tbl[1137]? = some (Jvm.Cond.code yX12_lays cX12_lays 4 none) := rfl
set_option maxRecDepth 20000 in
theorem ip_wc_188 : lw_tbl[1214]? = some (Jvm.Cond.code yX12_takes cX12_takes 4 none) := rfl
set_option maxRecDepth 20000 in
theorem ip_wc_189 : lw_tbl[1226]? = some (Jvm.Cond.code yX12_notes cX12_notes 2 none) := rfl
set_option maxRecDepth 20000 in
theorem ip_wc_190 : lw_tbl[1203]? = some (Jvm.Cond.code yX12_passes cX12_passes 2 none) := rfl
set_option maxRecDepth 20000 in
theorem ip_wc_191 : lw_tbl[1218]? = some (Jvm.Cond.code yX12_slips cX12_slips 5 (some (FieldType.int))) := rfl
set_option maxRecDepth 20000 in
theorem ip_wc_192 : lw_tbl[1230]? = some (Jvm.Cond.code yX12_drops cX12_drops 3 (some (FieldType.int))) := rfl
set_option maxRecDepth 20000 in
theorem ip_wc_193 : lw_tbl[1238]? = some (Jvm.Cond.code yX12_hands cX12_hands 4 (some (FieldType.int))) := rfl
set_option maxRecDepth 20000 in
theorem ip_wc_194 : lw_tbl[1242]? = some (Jvm.Cond.code yX12_year cX12_year 3 (some (FieldType.int))) := rfl
set_option maxRecDepth 20000 in
theorem ip_wc_195 : lw_tbl[1298]? = some (Jvm.Cond.code yX12_undo cX12_undo 1 (some (FieldType.int))) := rfl
set_option maxRecDepth 20000 in
theorem ip_wc_196 : lw_tbl[1306]? = some (Jvm.Cond.code yX12_ropeTells cX12_ropeTells 3 (some (FieldType.int))) := rfl
set_option maxRecDepth 20000 in
theorem ip_wc_197 : lw_tbl[1302]? = some (Jvm.Cond.code yX12_of cX12_of 3 (some (FieldType.int))) := rfl
set_option maxRecDepth 20000 in
theorem ip_wc_198 : lw_tbl[1310]? = some (Jvm.Cond.code yX12_row cX12_row 3 (some (FieldType.int))) := rfl
set_option maxRecDepth 20000 in
theorem ip_wc_199 : lw_tbl[1318]? = some (Jvm.Cond.code yX12_repeats cX12_repeats 3 (some (FieldType.int))) := rfl
set_option maxRecDepth 20000 in
theorem ip_wc_200 : lw_tbl[1322]? = some (Jvm.Cond.code yX12_clash cX12_clash 8 (some (FieldType.int))) := rfl
set_option maxRecDepth 20000 in
theorem ip_wc_201 : lw_tbl[1326]? = some (Jvm.Cond.code yX12_mend cX12_mend 6 (some (FieldType.int))) := rfl
set_option maxRecDepth 20000 in
theorem ip_wc_202 : lw_tbl[1334]? = some (Jvm.Cond.code yX12_compose cX12_compose 6 (some (FieldType.int))) := rfl
set_option maxRecDepth 20000 in
theorem ip_wc_203 : lw_tbl[1338]? = some (Jvm.Cond.code yX12_when cX12_when 3 (some (FieldType.int))) := rfl
set_option maxRecDepth 20000 in
theorem ip_wc_204 : lw_tbl[1342]? = some (Jvm.Cond.code yX12_clean cX12_clean 1 (some (FieldType.int))) := rfl
set_option maxRecDepth 20000 in
theorem ip_wc_205 : lw_tbl[1350]? = some (Jvm.Cond.code yX12_areBells cX12_areBells 6 (some (FieldType.boolean))) := rfl
set_option maxRecDepth 20000 in
theorem ip_wc_206 : lw_tbl[1346]? = some (Jvm.Cond.code yX12_heard cX12_heard 3 (some (FieldType.int))) := rfl
set_option maxRecDepth 20000 in
theorem ip_wc_207 : lw_tbl[1362]? = some (Jvm.Cond.code yX12_isHeard cX12_isHeard 4 (some (FieldType.boolean))) := rfl
set_option maxRecDepth 20000 in
theorem ip_wc_208 : lw_tbl[1354]? = some (Jvm.Cond.code yX12_who cX12_who 7 (some (FieldType.int))) := rfl
set_option maxRecDepth 20000 in
theorem ip_wc_209 : lw_tbl[1370]? = some (Jvm.Cond.code yX12_alikeIn cX12_alikeIn 8 (some (FieldType.int))) := rfl
set_option maxRecDepth 20000 in
theorem ip_wc_210 : lw_tbl[1366]? = some (Jvm.Cond.code yX12_tell cX12_tell 5 (some (FieldType.int))) := rfl
set_option maxRecDepth 20000 in
theorem ip_wc_211 : lw_tbl[1374]? = some (Jvm.Cond.code yX12_note cX12_note 4 (some (FieldType.int))) := rfl
set_option maxRecDepth 20000 in
theorem ip_wc_212 : lw_tbl[1378]? = some (Jvm.Cond.code yX12_mark cX12_mark 5 (some (FieldType.int))) := rfl
set_option maxRecDepth 20000 in
theorem ip_wc_213 : lw_tbl[1382]? = some (Jvm.Cond.code yX12_forget cX12_forget 3 (some (FieldType.int))) := rfl
set_option maxRecDepth 20000 in
theorem ip_wc_214 : lw_tbl[1390]? = some (Jvm.Cond.code yX12_slipKinds cX12_slipKinds 7 (some (FieldType.int))) := rfl
set_option maxRecDepth 20000 in
theorem ip_wc_215 : lw_tbl[1398]? = some (Jvm.Cond.code yX12_ringerKinds cX12_ringerKinds 7 (some (FieldType.int))) := rfl
set_option maxRecDepth 20000 in
theorem ip_wc_216 : lw_tbl[1386]? = some (Jvm.Cond.code yX12_is cX12_is 2 (some (FieldType.int))) := rfl
set_option maxRecDepth 20000 in
theorem ip_wc_217 : lw_tbl[1394]? = some (Jvm.Cond.code yX12_kinds cX12_kinds 2 (some (FieldType.int))) := rfl
set_option maxRecDepth 20000 in
theorem ip_wc_218 : lw_tbl[1402]? = some (Jvm.Cond.code yX12_look cX12_look 10 (some (FieldType.int))) := rfl
set_option maxRecDepth 20000 in
theorem ip_wc_219 : lw_tbl[1406]? = some (Jvm.Cond.code yX12_ask cX12_ask 9 (some (FieldType.int))) := rfl
set_option maxRecDepth 20000 in
theorem ip_wc_220 : lw_tbl[1418]? = some (Jvm.Cond.code yX12_placeIn cX12_placeIn 3 (some (FieldType.int))) := rfl
set_option maxRecDepth 20000 in
theorem ip_wc_221 : lw_tbl[1414]? = some (Jvm.Cond.code yX12_gets cX12_gets 11 (some (FieldType.int))) := rfl
set_option maxRecDepth 20000 in
theorem ip_wc_222 : lw_tbl[1410]? = some (Jvm.Cond.code yX12_lends cX12_lends 6 (some (FieldType.int))) := rfl
set_option maxRecDepth 20000 in
theorem ip_wc_223 : lw_tbl[1427]? = some (Jvm.Cond.code yX12_lay cX12_lay 11 none) := rfl
set_option maxRecDepth 20000 in
theorem ip_wc_224 : lw_tbl[1422]? = some (Jvm.Cond.code yX12_odds cX12_odds 11 (some (FieldType.int))) := rfl
set_option maxRecDepth 20000 in
theorem ip_wc_225 : lw_tbl[1431]? = some (Jvm.Cond.code yX12_weddings cX12_weddings 8 (some (FieldType.int))) := rfl
set_option maxRecDepth 20000 in
theorem ip_wc_226 : lw_tbl[1446]? = some (Jvm.Cond.code yX12_part cX12_part 2 (some (FieldType.long))) := rfl
set_option maxRecDepth 20000 in
theorem ip_wc_227 : lw_tbl[1133]? = some (Jvm.Cond.code yX12_layAll cX12_layAll 4 none) := rfl
set_option maxRecDepth 20000 in
theorem ip_wc_228 : lw_tbl[1210]? = some (Jvm.Cond.code yX12_takeAll cX12_takeAll 4 none) := rfl
set_option maxRecDepth 20000 in
theorem ip_wc_229 : lw_tbl[1450]? = some (Jvm.Cond.code yX12_image cX12_image 2 (some (FieldType.int))) := rfl
set_option maxRecDepth 20000 in
theorem ip_wc_230 : lw_tbl[1454]? = some (Jvm.Cond.code yX12_from cX12_from 2 (some (FieldType.int))) := rfl
set_option maxRecDepth 20000 in
theorem ip_wc_231 : lw_tbl[1458]? = some (Jvm.Cond.code yX12_status cX12_status 2 (some (FieldType.int))) := rfl
set_option maxRecDepth 20000 in
theorem ip_wc_232 : lw_tbl[1466]? = some (Jvm.Cond.code yX12_countOf cX12_countOf 2 (some (FieldType.int))) := rfl
set_option maxRecDepth 20000 in
theorem ip_wc_233 : lw_tbl[1462]? = some (Jvm.Cond.code yX12_count cX12_count 2 (some (FieldType.int))) := rfl
set_option maxRecDepth 20000 in
theorem ip_wc_234 : lw_tbl[1475]? = some (Jvm.Cond.code yX12_mix cX12_mix 3 none) := rfl
set_option maxRecDepth 20000 in
theorem ip_wc_235 : lw_tbl[1470]? = some (Jvm.Cond.code yX12_digest cX12_digest 3 (some (FieldType.long))) := rfl
set_option maxRecDepth 20000 in
theorem ip_wc_236 : lw_tbl[747]? = some (Jvm.Cond.code yJ6_bitCount_0f7a4 cJ6_bitCount_0f7a4 1 (some (FieldType.int))) := rfl
set_option maxRecDepth 20000 in
theorem ip_wc_237 : lw_tbl[458]? = some (Jvm.Cond.code yJ0_length_8abf5 cJ0_length_8abf5 1 (some (FieldType.int))) := rfl
set_option maxRecDepth 20000 in
theorem ip_wc_238 : lw_tbl[469]? = some (Jvm.Cond.code yJ0_charAt_5068e cJ0_charAt_5068e 2 (some (FieldType.char))) := rfl
set_option maxRecDepth 20000 in
theorem ip_wc_239 : lw_tbl[462]? = some (Jvm.Cond.code yJ0_coder_7d493 cJ0_coder_7d493 1 (some (FieldType.byte))) := rfl
set_option maxRecDepth 20000 in
theorem ip_wc_240 : lw_tbl[473]? = some (Jvm.Cond.code yJ0_isLatin1_aae02 cJ0_isLatin1_aae02 1 (some (FieldType.boolean))) := rfl
set_option maxRecDepth 20000 in
theorem ip_wc_241 : lw_tbl[479]? = some (Jvm.Cond.code yJ0_checkIndex_df160 cJ0_checkIndex_df160 2 none) := rfl
set_option maxRecDepth 20000 in
theorem ip_wc_242 : lw_tbl[476]? = some (Jvm.Cond.code yJ1_charAt_3b067 cJ1_charAt_3b067 2 (some (FieldType.char))) := rfl
set_option maxRecDepth 20000 in
theorem ip_wc_243 : lw_tbl[123]? = some (Jvm.Cond.code yJ7_fill_53178 cJ7_fill_53178 4 none) := rfl
set_option maxRecDepth 20000 in
theorem ip_wc_244 : lw_tbl[484]? = some (Jvm.Cond.code yJ3_checkIndex_8e157 cJ3_checkIndex_8e157 3 (some (FieldType.int))) := rfl
def ip_js : List Nat := [1, 2, 3, 4, 5, 6, 7, 8, 9, 10, 11, 12, 13, 14, 15, 16, 17, 18, 19, 20, 21, 22, 23, 24, 25, 26, 27, 28, 29, 30, 31, 32, 33, 34, 35, 36, 37, 38, 39, 40, 41, 42, 43, 44, 45, 46, 47, 48, 49, 50, 51, 52, 53, 54, 55, 56, 57, 58, 59, 60, 61, 62, 63, 64, 65, 66, 67, 68, 69, 70, 71, 72, 73, 74, 75, 76, 77, 78, 79, 80, 81, 82, 83, 84, 85, 86, 87, 88, 89, 90, 91, 92, 93, 94, 95, 96, 97, 98, 99, 100, 101, 102, 103, 104, 105, 106, 107, 108, 109, 110, 111, 112, 113, 114, 115, 116, 117, 118, 119, 120, 121, 122, 123, 124, 125, 126, 127, 128, 129, 130, 131, 132, 133, 134, 135, 136, 137, 138, 139, 140, 141, 142, 143, 144, 145, 146, 147, 148, 149, 150, 151, 152, 153, 154, 155, 156, 157, 158, 159, 160, 161, 162, 163, 164, 165, 166, 167, 168, 169, 170, 171, 172, 173, 174, 175, 176, 177, 178, 179, 180, 181, 182, 183, 184, 185, 186, 187, 188, 189, 190, 191, 192, 193, 194, 195, 196, 197, 198, 199, 200, 201, 202, 203, 204, 205, 206, 207, 208, 209, 210, 211, 212, 213, 214, 215, 216, 217, 218, 219, 220, 221, 222, 223, 224, 225, 226, 227, 228, 229, 230, 231, 232, 233, 234, 235, 236, 237, 238, 239, 240, 241, 242, 243, 244]
theorem ip_js_mem : ∀ i, i < ip_mi.length → 0 < i → i ∈ ip_js := by decide +kernel
theorem ip_wcg_1 : ∀ i ∈ [1, 2, 3, 4, 5, 6, 7, 8, 9, 10, 11, 12, 13, 14, 15, 16], Jvm.Cond.code (ip_mB i).1 (ip_mB i).2.1 (ip_mB i).2.2.1 (ip_mB i).2.2.2 ∈ ip_good := List.forall_mem_cons.mpr ⟨ip_good_mem (List.mem_of_getElem? ip_wc_1) rfl, List.forall_mem_cons.mpr ⟨ip_good_mem (List.mem_of_getElem? ip_wc_2) rfl, List.forall_mem_cons.mpr ⟨ip_good_mem (List.mem_of_getElem? ip_wc_3) rfl, List.forall_mem_cons.mpr ⟨ip_good_mem (List.mem_of_getElem? ip_wc_4) rfl, List.forall_mem_cons.mpr ⟨ip_good_mem (List.mem_of_getElem? ip_wc_5) rfl, List.forall_mem_cons.mpr ⟨ip_good_mem (List.mem_of_getElem? ip_wc_6) rfl, List.forall_mem_cons.mpr ⟨ip_good_mem (List.mem_of_getElem? ip_wc_7) rfl, List.forall_mem_cons.mpr ⟨ip_good_mem (List.mem_of_getElem? ip_wc_8) rfl, List.forall_mem_cons.mpr ⟨ip_good_mem (List.mem_of_getElem? ip_wc_9) rfl, List.forall_mem_cons.mpr ⟨ip_good_mem (List.mem_of_getElem? ip_wc_10) rfl, List.forall_mem_cons.mpr ⟨ip_good_mem (List.mem_of_getElem? ip_wc_11) rfl, List.forall_mem_cons.mpr ⟨ip_good_mem (List.mem_of_getElem? ip_wc_12) rfl, List.forall_mem_cons.mpr ⟨ip_good_mem (List.mem_of_getElem? ip_wc_13) rfl, List.forall_mem_cons.mpr ⟨ip_good_mem (List.mem_of_getElem? ip_wc_14) rfl, List.forall_mem_cons.mpr ⟨ip_good_mem (List.mem_of_getElem? ip_wc_15) rfl, List.forall_mem_cons.mpr ⟨ip_good_mem (List.mem_of_getElem? ip_wc_16) rfl, fun _ h => absurd h List.not_mem_nil⟩⟩⟩⟩⟩⟩⟩⟩⟩⟩⟩⟩⟩⟩⟩⟩
theorem ip_wcg_17 : ∀ i ∈ [17, 18, 19, 20, 21, 22, 23, 24, 25, 26, 27, 28, 29, 30, 31, 32], Jvm.Cond.code (ip_mB i).1 (ip_mB i).2.1 (ip_mB i).2.2.1 (ip_mB i).2.2.2 ∈ ip_good := List.forall_mem_cons.mpr ⟨ip_good_mem (List.mem_of_getElem? ip_wc_17) rfl, List.forall_mem_cons.mpr ⟨ip_good_mem (List.mem_of_getElem? ip_wc_18) rfl, List.forall_mem_cons.mpr ⟨ip_good_mem (List.mem_of_getElem? ip_wc_19) rfl, List.forall_mem_cons.mpr ⟨ip_good_mem (List.mem_of_getElem? ip_wc_20) rfl, List.forall_mem_cons.mpr ⟨ip_good_mem (List.mem_of_getElem? ip_wc_21) rfl, List.forall_mem_cons.mpr ⟨ip_good_mem (List.mem_of_getElem? ip_wc_22) rfl, List.forall_mem_cons.mpr ⟨ip_good_mem (List.mem_of_getElem? ip_wc_23) rfl, List.forall_mem_cons.mpr ⟨ip_good_mem (List.mem_of_getElem? ip_wc_24) rfl, List.forall_mem_cons.mpr ⟨ip_good_mem (List.mem_of_getElem? ip_wc_25) rfl, List.forall_mem_cons.mpr ⟨ip_good_mem (List.mem_of_getElem? ip_wc_26) rfl, List.forall_mem_cons.mpr ⟨ip_good_mem (List.mem_of_getElem? ip_wc_27) rfl, List.forall_mem_cons.mpr ⟨ip_good_mem (List.mem_of_getElem? ip_wc_28) rfl, List.forall_mem_cons.mpr ⟨ip_good_mem (List.mem_of_getElem? ip_wc_29) rfl, List.forall_mem_cons.mpr ⟨ip_good_mem (List.mem_of_getElem? ip_wc_30) rfl, List.forall_mem_cons.mpr ⟨ip_good_mem (List.mem_of_getElem? ip_wc_31) rfl, List.forall_mem_cons.mpr ⟨ip_good_mem (List.mem_of_getElem? ip_wc_32) rfl, fun _ h => absurd h List.not_mem_nil⟩⟩⟩⟩⟩⟩⟩⟩⟩⟩⟩⟩⟩⟩⟩⟩
theorem ip_wcg_33 : ∀ i ∈ [33, 34, 35, 36, 37, 38, 39, 40, 41, 42, 43, 44, 45, 46, 47, 48], Jvm.Cond.code (ip_mB i).1 (ip_mB i).2.1 (ip_mB i).2.2.1 (ip_mB i).2.2.2 ∈ ip_good := List.forall_mem_cons.mpr ⟨ip_good_mem (List.mem_of_getElem? ip_wc_33) rfl, List.forall_mem_cons.mpr ⟨ip_good_mem (List.mem_of_getElem? ip_wc_34) rfl, List.forall_mem_cons.mpr ⟨ip_good_mem (List.mem_of_getElem? ip_wc_35) rfl, List.forall_mem_cons.mpr ⟨ip_good_mem (List.mem_of_getElem? ip_wc_36) rfl, List.forall_mem_cons.mpr ⟨ip_good_mem (List.mem_of_getElem? ip_wc_37) rfl, List.forall_mem_cons.mpr ⟨ip_good_mem (List.mem_of_getElem? ip_wc_38) rfl, List.forall_mem_cons.mpr ⟨ip_good_mem (List.mem_of_getElem? ip_wc_39) rfl, List.forall_mem_cons.mpr ⟨ip_good_mem (List.mem_of_getElem? ip_wc_40) rfl, List.forall_mem_cons.mpr ⟨ip_good_mem (List.mem_of_getElem? ip_wc_41) rfl, List.forall_mem_cons.mpr ⟨ip_good_mem (List.mem_of_getElem? ip_wc_42) rfl, List.forall_mem_cons.mpr ⟨ip_good_mem (List.mem_of_getElem? ip_wc_43) rfl, List.forall_mem_cons.mpr ⟨ip_good_mem (List.mem_of_getElem? ip_wc_44) rfl, List.forall_mem_cons.mpr ⟨ip_good_mem (List.mem_of_getElem? ip_wc_45) rfl, List.forall_mem_cons.mpr ⟨ip_good_mem (List.mem_of_getElem? ip_wc_46) rfl, List.forall_mem_cons.mpr ⟨ip_good_mem (List.mem_of_getElem? ip_wc_47) rfl, List.forall_mem_cons.mpr ⟨ip_good_mem (List.mem_of_getElem? ip_wc_48) rfl, fun _ h => absurd h List.not_mem_nil⟩⟩⟩⟩⟩⟩⟩⟩⟩⟩⟩⟩⟩⟩⟩⟩
theorem ip_wcg_49 : ∀ i ∈ [49, 50, 51, 52, 53, 54, 55, 56, 57, 58, 59, 60, 61, 62, 63, 64], Jvm.Cond.code (ip_mB i).1 (ip_mB i).2.1 (ip_mB i).2.2.1 (ip_mB i).2.2.2 ∈ ip_good := List.forall_mem_cons.mpr ⟨ip_good_mem (List.mem_of_getElem? ip_wc_49) rfl, List.forall_mem_cons.mpr ⟨ip_good_mem (List.mem_of_getElem? ip_wc_50) rfl, List.forall_mem_cons.mpr ⟨ip_good_mem (List.mem_of_getElem? ip_wc_51) rfl, List.forall_mem_cons.mpr ⟨ip_good_mem (List.mem_of_getElem? ip_wc_52) rfl, List.forall_mem_cons.mpr ⟨ip_good_mem (List.mem_of_getElem? ip_wc_53) rfl, List.forall_mem_cons.mpr ⟨ip_good_mem (List.mem_of_getElem? ip_wc_54) rfl, List.forall_mem_cons.mpr ⟨ip_good_mem (List.mem_of_getElem? ip_wc_55) rfl, List.forall_mem_cons.mpr ⟨ip_good_mem (List.mem_of_getElem? ip_wc_56) rfl, List.forall_mem_cons.mpr ⟨ip_good_mem (List.mem_of_getElem? ip_wc_57) rfl, List.forall_mem_cons.mpr ⟨ip_good_mem (List.mem_of_getElem? ip_wc_58) rfl, List.forall_mem_cons.mpr ⟨ip_good_mem (List.mem_of_getElem? ip_wc_59) rfl, List.forall_mem_cons.mpr ⟨ip_good_mem (List.mem_of_getElem? ip_wc_60) rfl, List.forall_mem_cons.mpr ⟨ip_good_mem (List.mem_of_getElem? ip_wc_61) rfl, List.forall_mem_cons.mpr ⟨ip_good_mem (List.mem_of_getElem? ip_wc_62) rfl, List.forall_mem_cons.mpr ⟨ip_good_mem (List.mem_of_getElem? ip_wc_63) rfl, List.forall_mem_cons.mpr ⟨ip_good_mem (List.mem_of_getElem? ip_wc_64) rfl, fun _ h => absurd h List.not_mem_nil⟩⟩⟩⟩⟩⟩⟩⟩⟩⟩⟩⟩⟩⟩⟩⟩
theorem ip_wcg_65 : ∀ i ∈ [65, 66, 67, 68, 69, 70, 71, 72, 73, 74, 75, 76, 77, 78, 79, 80], Jvm.Cond.code (ip_mB i).1 (ip_mB i).2.1 (ip_mB i).2.2.1 (ip_mB i).2.2.2 ∈ ip_good := List.forall_mem_cons.mpr ⟨ip_good_mem (List.mem_of_getElem? ip_wc_65) rfl, List.forall_mem_cons.mpr ⟨ip_good_mem (List.mem_of_getElem? ip_wc_66) rfl, List.forall_mem_cons.mpr ⟨ip_good_mem (List.mem_of_getElem? ip_wc_67) rfl, List.forall_mem_cons.mpr ⟨ip_good_mem (List.mem_of_getElem? ip_wc_68) rfl, List.forall_mem_cons.mpr ⟨ip_good_mem (List.mem_of_getElem? ip_wc_69) rfl, List.forall_mem_cons.mpr ⟨ip_good_mem (List.mem_of_getElem? ip_wc_70) rfl, List.forall_mem_cons.mpr ⟨ip_good_mem (List.mem_of_getElem? ip_wc_71) rfl, List.forall_mem_cons.mpr ⟨ip_good_mem (List.mem_of_getElem? ip_wc_72) rfl, List.forall_mem_cons.mpr ⟨ip_good_mem (List.mem_of_getElem? ip_wc_73) rfl, List.forall_mem_cons.mpr ⟨ip_good_mem (List.mem_of_getElem? ip_wc_74) rfl, List.forall_mem_cons.mpr ⟨ip_good_mem (List.mem_of_getElem? ip_wc_75) rfl, List.forall_mem_cons.mpr ⟨ip_good_mem (List.mem_of_getElem? ip_wc_76) rfl, List.forall_mem_cons.mpr ⟨ip_good_mem (List.mem_of_getElem? ip_wc_77) rfl, List.forall_mem_cons.mpr ⟨ip_good_mem (List.mem_of_getElem? ip_wc_78) rfl, List.forall_mem_cons.mpr ⟨ip_good_mem (List.mem_of_getElem? ip_wc_79) rfl, List.forall_mem_cons.mpr ⟨ip_good_mem (List.mem_of_getElem? ip_wc_80) rfl, fun _ h => absurd h List.not_mem_nil⟩⟩⟩⟩⟩⟩⟩⟩⟩⟩⟩⟩⟩⟩⟩⟩
theorem ip_wcg_81 : ∀ i ∈ [81, 82, 83, 84, 85, 86, 87, 88, 89, 90, 91, 92, 93, 94, 95, 96], Jvm.Cond.code (ip_mB i).1 (ip_mB i).2.1 (ip_mB i).2.2.1 (ip_mB i).2.2.2 ∈ ip_good := List.forall_mem_cons.mpr ⟨ip_good_mem (List.mem_of_getElem? ip_wc_81) rfl, List.forall_mem_cons.mpr ⟨ip_good_mem (List.mem_of_getElem? ip_wc_82) rfl, List.forall_mem_cons.mpr ⟨ip_good_mem (List.mem_of_getElem? ip_wc_83) rfl, List.forall_mem_cons.mpr ⟨ip_good_mem (List.mem_of_getElem? ip_wc_84) rfl, List.forall_mem_cons.mpr ⟨ip_good_mem (List.mem_of_getElem? ip_wc_85) rfl, List.forall_mem_cons.mpr ⟨ip_good_mem (List.mem_of_getElem? ip_wc_86) rfl, List.forall_mem_cons.mpr ⟨ip_good_mem (List.mem_of_getElem? ip_wc_87) rfl, List.forall_mem_cons.mpr ⟨ip_good_mem (List.mem_of_getElem? ip_wc_88) rfl, List.forall_mem_cons.mpr ⟨ip_good_mem (List.mem_of_getElem? ip_wc_89) rfl, List.forall_mem_cons.mpr ⟨ip_good_mem (List.mem_of_getElem? ip_wc_90) rfl, List.forall_mem_cons.mpr ⟨ip_good_mem (List.mem_of_getElem? ip_wc_91) rfl, List.forall_mem_cons.mpr ⟨ip_good_mem (List.mem_of_getElem? ip_wc_92) rfl, List.forall_mem_cons.mpr ⟨ip_good_mem (List.mem_of_getElem? ip_wc_93) rfl, List.forall_mem_cons.mpr ⟨ip_good_mem (List.mem_of_getElem? ip_wc_94) rfl, List.forall_mem_cons.mpr ⟨ip_good_mem (List.mem_of_getElem? ip_wc_95) rfl, List.forall_mem_cons.mpr ⟨ip_good_mem (List.mem_of_getElem? ip_wc_96) rfl, fun _ h => absurd h List.not_mem_nil⟩⟩⟩⟩⟩⟩⟩⟩⟩⟩⟩⟩⟩⟩⟩⟩
theorem ip_wcg_97 : ∀ i ∈ [97, 98, 99, 100, 101, 102, 103, 104, 105, 106, 107, 108, 109, 110, 111, 112], Jvm.Cond.code (ip_mB i).1 (ip_mB i).2.1 (ip_mB i).2.2.1 (ip_mB i).2.2.2 ∈ ip_good := List.forall_mem_cons.mpr ⟨ip_good_mem (List.mem_of_getElem? ip_wc_97) rfl, List.forall_mem_cons.mpr ⟨ip_good_mem (List.mem_of_getElem? ip_wc_98) rfl, List.forall_mem_cons.mpr ⟨ip_good_mem (List.mem_of_getElem? ip_wc_99) rfl, List.forall_mem_cons.mpr ⟨ip_good_mem (List.mem_of_getElem? ip_wc_100) rfl, List.forall_mem_cons.mpr ⟨ip_good_mem (List.mem_of_getElem? ip_wc_101) rfl, List.forall_mem_cons.mpr ⟨ip_good_mem (List.mem_of_getElem? ip_wc_102) rfl, List.forall_mem_cons.mpr ⟨ip_good_mem (List.mem_of_getElem? ip_wc_103) rfl, List.forall_mem_cons.mpr ⟨ip_good_mem (List.mem_of_getElem? ip_wc_104) rfl, List.forall_mem_cons.mpr ⟨ip_good_mem (List.mem_of_getElem? ip_wc_105) rfl, List.forall_mem_cons.mpr ⟨ip_good_mem (List.mem_of_getElem? ip_wc_106) rfl, List.forall_mem_cons.mpr ⟨ip_good_mem (List.mem_of_getElem? ip_wc_107) rfl, List.forall_mem_cons.mpr ⟨ip_good_mem (List.mem_of_getElem? ip_wc_108) rfl, List.forall_mem_cons.mpr ⟨ip_good_mem (List.mem_of_getElem? ip_wc_109) rfl, List.forall_mem_cons.mpr ⟨ip_good_mem (List.mem_of_getElem? ip_wc_110) rfl, List.forall_mem_cons.mpr ⟨ip_good_mem (List.mem_of_getElem? ip_wc_111) rfl, List.forall_mem_cons.mpr ⟨ip_good_mem (List.mem_of_getElem? ip_wc_112) rfl, fun _ h => absurd h List.not_mem_nil⟩⟩⟩⟩⟩⟩⟩⟩⟩⟩⟩⟩⟩⟩⟩⟩
theorem ip_wcg_113 : ∀ i ∈ [113, 114, 115, 116, 117, 118, 119, 120, 121, 122, 123, 124, 125, 126, 127, 128], Jvm.Cond.code (ip_mB i).1 (ip_mB i).2.1 (ip_mB i).2.2.1 (ip_mB i).2.2.2 ∈ ip_good := List.forall_mem_cons.mpr ⟨ip_good_mem (List.mem_of_getElem? ip_wc_113) rfl, List.forall_mem_cons.mpr ⟨ip_good_mem (List.mem_of_getElem? ip_wc_114) rfl, List.forall_mem_cons.mpr ⟨ip_good_mem (List.mem_of_getElem? ip_wc_115) rfl, List.forall_mem_cons.mpr ⟨ip_good_mem (List.mem_of_getElem? ip_wc_116) rfl, List.forall_mem_cons.mpr ⟨ip_good_mem (List.mem_of_getElem? ip_wc_117) rfl, List.forall_mem_cons.mpr ⟨ip_good_mem (List.mem_of_getElem? ip_wc_118) rfl, List.forall_mem_cons.mpr ⟨ip_good_mem (List.mem_of_getElem? ip_wc_119) rfl, List.forall_mem_cons.mpr ⟨ip_good_mem (List.mem_of_getElem? ip_wc_120) rfl, List.forall_mem_cons.mpr ⟨ip_good_mem (List.mem_of_getElem? ip_wc_121) rfl, List.forall_mem_cons.mpr ⟨ip_good_mem (List.mem_of_getElem? ip_wc_122) rfl, List.forall_mem_cons.mpr ⟨ip_good_mem (List.mem_of_getElem? ip_wc_123) rfl, List.forall_mem_cons.mpr ⟨ip_good_mem (List.mem_of_getElem? ip_wc_124) rfl, List.forall_mem_cons.mpr ⟨ip_good_mem (List.mem_of_getElem? ip_wc_125) rfl, List.forall_mem_cons.mpr ⟨ip_good_mem (List.mem_of_getElem? ip_wc_126) rfl, List.forall_mem_cons.mpr ⟨ip_good_mem (List.mem_of_getElem? ip_wc_127) rfl, List.forall_mem_cons.mpr ⟨ip_good_mem (List.mem_of_getElem? ip_wc_128) rfl, fun _ h => absurd h List.not_mem_nil⟩⟩⟩⟩⟩⟩⟩⟩⟩⟩⟩⟩⟩⟩⟩⟩
theorem ip_wcg_129 : ∀ i ∈ [129, 130, 131, 132, 133, 134, 135, 136, 137, 138, 139, 140, 141, 142, 143, 144], Jvm.Cond.code (ip_mB i).1 (ip_mB i).2.1 (ip_mB i).2.2.1 (ip_mB i).2.2.2 ∈ ip_good := List.forall_mem_cons.mpr ⟨ip_good_mem (List.mem_of_getElem? ip_wc_129) rfl, List.forall_mem_cons.mpr ⟨ip_good_mem (List.mem_of_getElem? ip_wc_130) rfl, List.forall_mem_cons.mpr ⟨ip_good_mem (List.mem_of_getElem? ip_wc_131) rfl, List.forall_mem_cons.mpr ⟨ip_good_mem (List.mem_of_getElem? ip_wc_132) rfl, List.forall_mem_cons.mpr ⟨ip_good_mem (List.mem_of_getElem? ip_wc_133) rfl, List.forall_mem_cons.mpr ⟨ip_good_mem (List.mem_of_getElem? ip_wc_134) rfl, List.forall_mem_cons.mpr ⟨ip_good_mem (List.mem_of_getElem? ip_wc_135) rfl, List.forall_mem_cons.mpr ⟨ip_good_mem (List.mem_of_getElem? ip_wc_136) rfl, List.forall_mem_cons.mpr ⟨ip_good_mem (List.mem_of_getElem? ip_wc_137) rfl, List.forall_mem_cons.mpr ⟨ip_good_mem (List.mem_of_getElem? ip_wc_138) rfl, List.forall_mem_cons.mpr ⟨ip_good_mem (List.mem_of_getElem? ip_wc_139) rfl, List.forall_mem_cons.mpr ⟨ip_good_mem (List.mem_of_getElem? ip_wc_140) rfl, List.forall_mem_cons.mpr ⟨ip_good_mem (List.mem_of_getElem? ip_wc_141) rfl, List.forall_mem_cons.mpr ⟨ip_good_mem (List.mem_of_getElem? ip_wc_142) rfl, List.forall_mem_cons.mpr ⟨ip_good_mem (List.mem_of_getElem? ip_wc_143) rfl, List.forall_mem_cons.mpr ⟨ip_good_mem (List.mem_of_getElem? ip_wc_144) rfl, fun _ h => absurd h List.not_mem_nil⟩⟩⟩⟩⟩⟩⟩⟩⟩⟩⟩⟩⟩⟩⟩⟩
theorem ip_wcg_145 : ∀ i ∈ [145, 146, 147, 148, 149, 150, 151, 152, 153, 154, 155, 156, 157, 158, 159, 160], Jvm.Cond.code (ip_mB i).1 (ip_mB i).2.1 (ip_mB i).2.2.1 (ip_mB i).2.2.2 ∈ ip_good := List.forall_mem_cons.mpr ⟨ip_good_mem (List.mem_of_getElem? ip_wc_145) rfl, List.forall_mem_cons.mpr ⟨ip_good_mem (List.mem_of_getElem? ip_wc_146) rfl, List.forall_mem_cons.mpr ⟨ip_good_mem (List.mem_of_getElem? ip_wc_147) rfl, List.forall_mem_cons.mpr ⟨ip_good_mem (List.mem_of_getElem? ip_wc_148) rfl, List.forall_mem_cons.mpr ⟨ip_good_mem (List.mem_of_getElem? ip_wc_149) rfl, List.forall_mem_cons.mpr ⟨ip_good_mem (List.mem_of_getElem? ip_wc_150) rfl, List.forall_mem_cons.mpr ⟨ip_good_mem (List.mem_of_getElem? ip_wc_151) rfl, List.forall_mem_cons.mpr ⟨ip_good_mem (List.mem_of_getElem? ip_wc_152) rfl, List.forall_mem_cons.mpr ⟨ip_good_mem (List.mem_of_getElem? ip_wc_153) rfl, List.forall_mem_cons.mpr ⟨ip_good_mem (List.mem_of_getElem? ip_wc_154) rfl, List.forall_mem_cons.mpr ⟨ip_good_mem (List.mem_of_getElem? ip_wc_155) rfl, List.forall_mem_cons.mpr ⟨ip_good_mem (List.mem_of_getElem? ip_wc_156) rfl, List.forall_mem_cons.mpr ⟨ip_good_mem (List.mem_of_getElem? ip_wc_157) rfl, List.forall_mem_cons.mpr ⟨ip_good_mem (List.mem_of_getElem? ip_wc_158) rfl, List.forall_mem_cons.mpr ⟨ip_good_mem (List.mem_of_getElem? ip_wc_159) rfl, List.forall_mem_cons.mpr ⟨ip_good_mem (List.mem_of_getElem? ip_wc_160) rfl, fun _ h => absurd h List.not_mem_nil⟩⟩⟩⟩⟩⟩⟩⟩⟩⟩⟩⟩⟩⟩⟩⟩
theorem ip_wcg_161 : ∀ i ∈ [161, 162, 163, 164, 165, 166, 167, 168, 169, 170, 171, 172, 173, 174, 175, 176], Jvm.Cond.code (ip_mB i).1 (ip_mB i).2.1 (ip_mB i).2.2.1 (ip_mB i).2.2.2 ∈ ip_good := List.forall_mem_cons.mpr ⟨ip_good_mem (List.mem_of_getElem? ip_wc_161) rfl, List.forall_mem_cons.mpr ⟨ip_good_mem (List.mem_of_getElem? ip_wc_162) rfl, List.forall_mem_cons.mpr ⟨ip_good_mem (List.mem_of_getElem? ip_wc_163) rfl, List.forall_mem_cons.mpr ⟨ip_good_mem (List.mem_of_getElem? ip_wc_164) rfl, List.forall_mem_cons.mpr ⟨ip_good_mem (List.mem_of_getElem? ip_wc_165) rfl, List.forall_mem_cons.mpr ⟨ip_good_mem (List.mem_of_getElem? ip_wc_166) rfl, List.forall_mem_cons.mpr ⟨ip_good_mem (List.mem_of_getElem? ip_wc_167) rfl, List.forall_mem_cons.mpr ⟨ip_good_mem (List.mem_of_getElem? ip_wc_168) rfl, List.forall_mem_cons.mpr ⟨ip_good_mem (List.mem_of_getElem? ip_wc_169) rfl, List.forall_mem_cons.mpr ⟨ip_good_mem (List.mem_of_getElem? ip_wc_170) rfl, List.forall_mem_cons.mpr ⟨ip_good_mem (List.mem_of_getElem? ip_wc_171) rfl, List.forall_mem_cons.mpr ⟨ip_good_mem (List.mem_of_getElem? ip_wc_172) rfl, List.forall_mem_cons.mpr ⟨ip_good_mem (List.mem_of_getElem? ip_wc_173) rfl, List.forall_mem_cons.mpr ⟨ip_good_mem (List.mem_of_getElem? ip_wc_174) rfl, List.forall_mem_cons.mpr ⟨ip_good_mem (List.mem_of_getElem? ip_wc_175) rfl, List.forall_mem_cons.mpr ⟨ip_good_mem (List.mem_of_getElem? ip_wc_176) rfl, fun _ h => absurd h List.not_mem_nil⟩⟩⟩⟩⟩⟩⟩⟩⟩⟩⟩⟩⟩⟩⟩⟩
theorem ip_wcg_177 : ∀ i ∈ [177, 178, 179, 180, 181, 182, 183, 184, 185, 186, 187, 188, 189, 190, 191, 192], Jvm.Cond.code (ip_mB i).1 (ip_mB i).2.1 (ip_mB i).2.2.1 (ip_mB i).2.2.2 ∈ ip_good := List.forall_mem_cons.mpr ⟨ip_good_mem (List.mem_of_getElem? ip_wc_177) rfl, List.forall_mem_cons.mpr ⟨ip_good_mem (List.mem_of_getElem? ip_wc_178) rfl, List.forall_mem_cons.mpr ⟨ip_good_mem (List.mem_of_getElem? ip_wc_179) rfl, List.forall_mem_cons.mpr ⟨ip_good_mem (List.mem_of_getElem? ip_wc_180) rfl, List.forall_mem_cons.mpr ⟨ip_good_mem (List.mem_of_getElem? ip_wc_181) rfl, List.forall_mem_cons.mpr ⟨ip_good_mem (List.mem_of_getElem? ip_wc_182) rfl, List.forall_mem_cons.mpr ⟨ip_good_mem (List.mem_of_getElem? ip_wc_183) rfl, List.forall_mem_cons.mpr ⟨ip_good_mem (List.mem_of_getElem? ip_wc_184) rfl, List.forall_mem_cons.mpr ⟨ip_good_mem (List.mem_of_getElem? ip_wc_185) rfl, List.forall_mem_cons.mpr ⟨ip_good_mem (List.mem_of_getElem? ip_wc_186) rfl, List.forall_mem_cons.mpr ⟨ip_good_mem (List.mem_of_getElem? ip_wc_187) rfl, List.forall_mem_cons.mpr ⟨ip_good_mem (List.mem_of_getElem? ip_wc_188) rfl, List.forall_mem_cons.mpr ⟨ip_good_mem (List.mem_of_getElem? ip_wc_189) rfl, List.forall_mem_cons.mpr ⟨ip_good_mem (List.mem_of_getElem? ip_wc_190) rfl, List.forall_mem_cons.mpr ⟨ip_good_mem (List.mem_of_getElem? ip_wc_191) rfl, List.forall_mem_cons.mpr ⟨ip_good_mem (List.mem_of_getElem? ip_wc_192) rfl, fun _ h => absurd h List.not_mem_nil⟩⟩⟩⟩⟩⟩⟩⟩⟩⟩⟩⟩⟩⟩⟩⟩
theorem ip_wcg_193 : ∀ i ∈ [193, 194, 195, 196, 197, 198, 199, 200, 201, 202, 203, 204, 205, 206, 207, 208], Jvm.Cond.code (ip_mB i).1 (ip_mB i).2.1 (ip_mB i).2.2.1 (ip_mB i).2.2.2 ∈ ip_good := List.forall_mem_cons.mpr ⟨ip_good_mem (List.mem_of_getElem? ip_wc_193) rfl, List.forall_mem_cons.mpr ⟨ip_good_mem (List.mem_of_getElem? ip_wc_194) rfl, List.forall_mem_cons.mpr ⟨ip_good_mem (List.mem_of_getElem? ip_wc_195) rfl, List.forall_mem_cons.mpr ⟨ip_good_mem (List.mem_of_getElem? ip_wc_196) rfl, List.forall_mem_cons.mpr ⟨ip_good_mem (List.mem_of_getElem? ip_wc_197) rfl, List.forall_mem_cons.mpr ⟨ip_good_mem (List.mem_of_getElem? ip_wc_198) rfl, List.forall_mem_cons.mpr ⟨ip_good_mem (List.mem_of_getElem? ip_wc_199) rfl, List.forall_mem_cons.mpr ⟨ip_good_mem (List.mem_of_getElem? ip_wc_200) rfl, List.forall_mem_cons.mpr ⟨ip_good_mem (List.mem_of_getElem? ip_wc_201) rfl, List.forall_mem_cons.mpr ⟨ip_good_mem (List.mem_of_getElem? ip_wc_202) rfl, List.forall_mem_cons.mpr ⟨ip_good_mem (List.mem_of_getElem? ip_wc_203) rfl, List.forall_mem_cons.mpr ⟨ip_good_mem (List.mem_of_getElem? ip_wc_204) rfl, List.forall_mem_cons.mpr ⟨ip_good_mem (List.mem_of_getElem? ip_wc_205) rfl, List.forall_mem_cons.mpr ⟨ip_good_mem (List.mem_of_getElem? ip_wc_206) rfl, List.forall_mem_cons.mpr ⟨ip_good_mem (List.mem_of_getElem? ip_wc_207) rfl, List.forall_mem_cons.mpr ⟨ip_good_mem (List.mem_of_getElem? ip_wc_208) rfl, fun _ h => absurd h List.not_mem_nil⟩⟩⟩⟩⟩⟩⟩⟩⟩⟩⟩⟩⟩⟩⟩⟩
theorem ip_wcg_209 : ∀ i ∈ [209, 210, 211, 212, 213, 214, 215, 216, 217, 218, 219, 220, 221, 222, 223, 224], Jvm.Cond.code (ip_mB i).1 (ip_mB i).2.1 (ip_mB i).2.2.1 (ip_mB i).2.2.2 ∈ ip_good := List.forall_mem_cons.mpr ⟨ip_good_mem (List.mem_of_getElem? ip_wc_209) rfl, List.forall_mem_cons.mpr ⟨ip_good_mem (List.mem_of_getElem? ip_wc_210) rfl, List.forall_mem_cons.mpr ⟨ip_good_mem (List.mem_of_getElem? ip_wc_211) rfl, List.forall_mem_cons.mpr ⟨ip_good_mem (List.mem_of_getElem? ip_wc_212) rfl, List.forall_mem_cons.mpr ⟨ip_good_mem (List.mem_of_getElem? ip_wc_213) rfl, List.forall_mem_cons.mpr ⟨ip_good_mem (List.mem_of_getElem? ip_wc_214) rfl, List.forall_mem_cons.mpr ⟨ip_good_mem (List.mem_of_getElem? ip_wc_215) rfl, List.forall_mem_cons.mpr ⟨ip_good_mem (List.mem_of_getElem? ip_wc_216) rfl, List.forall_mem_cons.mpr ⟨ip_good_mem (List.mem_of_getElem? ip_wc_217) rfl, List.forall_mem_cons.mpr ⟨ip_good_mem (List.mem_of_getElem? ip_wc_218) rfl, List.forall_mem_cons.mpr ⟨ip_good_mem (List.mem_of_getElem? ip_wc_219) rfl, List.forall_mem_cons.mpr ⟨ip_good_mem (List.mem_of_getElem? ip_wc_220) rfl, List.forall_mem_cons.mpr ⟨ip_good_mem (List.mem_of_getElem? ip_wc_221) rfl, List.forall_mem_cons.mpr ⟨ip_good_mem (List.mem_of_getElem? ip_wc_222) rfl, List.forall_mem_cons.mpr ⟨ip_good_mem (List.mem_of_getElem? ip_wc_223) rfl, List.forall_mem_cons.mpr ⟨ip_good_mem (List.mem_of_getElem? ip_wc_224) rfl, fun _ h => absurd h List.not_mem_nil⟩⟩⟩⟩⟩⟩⟩⟩⟩⟩⟩⟩⟩⟩⟩⟩
theorem ip_wcg_225 : ∀ i ∈ [225, 226, 227, 228, 229, 230, 231, 232, 233, 234, 235, 236, 237, 238, 239, 240], Jvm.Cond.code (ip_mB i).1 (ip_mB i).2.1 (ip_mB i).2.2.1 (ip_mB i).2.2.2 ∈ ip_good := List.forall_mem_cons.mpr ⟨ip_good_mem (List.mem_of_getElem? ip_wc_225) rfl, List.forall_mem_cons.mpr ⟨ip_good_mem (List.mem_of_getElem? ip_wc_226) rfl, List.forall_mem_cons.mpr ⟨ip_good_mem (List.mem_of_getElem? ip_wc_227) rfl, List.forall_mem_cons.mpr ⟨ip_good_mem (List.mem_of_getElem? ip_wc_228) rfl, List.forall_mem_cons.mpr ⟨ip_good_mem (List.mem_of_getElem? ip_wc_229) rfl, List.forall_mem_cons.mpr ⟨ip_good_mem (List.mem_of_getElem? ip_wc_230) rfl, List.forall_mem_cons.mpr ⟨ip_good_mem (List.mem_of_getElem? ip_wc_231) rfl, List.forall_mem_cons.mpr ⟨ip_good_mem (List.mem_of_getElem? ip_wc_232) rfl, List.forall_mem_cons.mpr ⟨ip_good_mem (List.mem_of_getElem? ip_wc_233) rfl, List.forall_mem_cons.mpr ⟨ip_good_mem (List.mem_of_getElem? ip_wc_234) rfl, List.forall_mem_cons.mpr ⟨ip_good_mem (List.mem_of_getElem? ip_wc_235) rfl, List.forall_mem_cons.mpr ⟨ip_good_mem (List.mem_of_getElem? ip_wc_236) rfl, List.forall_mem_cons.mpr ⟨ip_good_mem (List.mem_of_getElem? ip_wc_237) rfl, List.forall_mem_cons.mpr ⟨ip_good_mem (List.mem_of_getElem? ip_wc_238) rfl, List.forall_mem_cons.mpr ⟨ip_good_mem (List.mem_of_getElem? ip_wc_239) rfl, List.forall_mem_cons.mpr ⟨ip_good_mem (List.mem_of_getElem? ip_wc_240) rfl, fun _ h => absurd h List.not_mem_nil⟩⟩⟩⟩⟩⟩⟩⟩⟩⟩⟩⟩⟩⟩⟩⟩
theorem ip_wcg_241 : ∀ i ∈ [241, 242, 243, 244], Jvm.Cond.code (ip_mB i).1 (ip_mB i).2.1 (ip_mB i).2.2.1 (ip_mB i).2.2.2 ∈ ip_good := List.forall_mem_cons.mpr ⟨ip_good_mem (List.mem_of_getElem? ip_wc_241) rfl, List.forall_mem_cons.mpr ⟨ip_good_mem (List.mem_of_getElem? ip_wc_242) rfl, List.forall_mem_cons.mpr ⟨ip_good_mem (List.mem_of_getElem? ip_wc_243) rfl, List.forall_mem_cons.mpr ⟨ip_good_mem (List.mem_of_getElem? ip_wc_244) rfl, fun _ h => absurd h List.not_mem_nil⟩⟩⟩⟩
set_option maxRecDepth 100000 in
theorem ip_js_eq : ip_js = ([1, 2, 3, 4, 5, 6, 7, 8, 9, 10, 11, 12, 13, 14, 15, 16] : List Nat) ++ ([17, 18, 19, 20, 21, 22, 23, 24, 25, 26, 27, 28, 29, 30, 31, 32] : List Nat) ++ ([33, 34, 35, 36, 37, 38, 39, 40, 41, 42, 43, 44, 45, 46, 47, 48] : List Nat) ++ ([49, 50, 51, 52, 53, 54, 55, 56, 57, 58, 59, 60, 61, 62, 63, 64] : List Nat) ++ ([65, 66, 67, 68, 69, 70, 71, 72, 73, 74, 75, 76, 77, 78, 79, 80] : List Nat) ++ ([81, 82, 83, 84, 85, 86, 87, 88, 89, 90, 91, 92, 93, 94, 95, 96] : List Nat) ++ ([97, 98, 99, 100, 101, 102, 103, 104, 105, 106, 107, 108, 109, 110, 111, 112] : List Nat) ++ ([113, 114, 115, 116, 117, 118, 119, 120, 121, 122, 123, 124, 125, 126, 127, 128] : List Nat) ++ ([129, 130, 131, 132, 133, 134, 135, 136, 137, 138, 139, 140, 141, 142, 143, 144] : List Nat) ++ ([145, 146, 147, 148, 149, 150, 151, 152, 153, 154, 155, 156, 157, 158, 159, 160] : List Nat) ++ ([161, 162, 163, 164, 165, 166, 167, 168, 169, 170, 171, 172, 173, 174, 175, 176] : List Nat) ++ ([177, 178, 179, 180, 181, 182, 183, 184, 185, 186, 187, 188, 189, 190, 191, 192] : List Nat) ++ ([193, 194, 195, 196, 197, 198, 199, 200, 201, 202, 203, 204, 205, 206, 207, 208] : List Nat) ++ ([209, 210, 211, 212, 213, 214, 215, 216, 217, 218, 219, 220, 221, 222, 223, 224] : List Nat) ++ ([225, 226, 227, 228, 229, 230, 231, 232, 233, 234, 235, 236, 237, 238, 239, 240] : List Nat) ++ ([241, 242, 243, 244] : List Nat) := rfl
theorem ip_w_code : ∀ i, i < ip_mi.length → 0 < i → Jvm.Cond.code (ip_mB i).1 (ip_mB i).2.1 (ip_mB i).2.2.1 (ip_mB i).2.2.2 ∈ ip_good := by
  intro i h1 h2
  have h := ip_js_mem i h1 h2
  rw [ip_js_eq] at h
  rw [List.mem_append, List.mem_append, List.mem_append, List.mem_append, List.mem_append, List.mem_append, List.mem_append, List.mem_append, List.mem_append, List.mem_append, List.mem_append, List.mem_append, List.mem_append, List.mem_append, List.mem_append] at h
  rcases h with (((((((((((((((h | h) | h) | h) | h) | h) | h) | h) | h) | h) | h) | h) | h) | h) | h) | h)
  · exact ip_wcg_1 i h
  · exact ip_wcg_17 i h
  · exact ip_wcg_33 i h
  · exact ip_wcg_49 i h
  · exact ip_wcg_65 i h
  · exact ip_wcg_81 i h
  · exact ip_wcg_97 i h
  · exact ip_wcg_113 i h
  · exact ip_wcg_129 i h
  · exact ip_wcg_145 i h
  · exact ip_wcg_161 i h
  · exact ip_wcg_177 i h
  · exact ip_wcg_193 i h
  · exact ip_wcg_209 i h
  · exact ip_wcg_225 i h
  · exact ip_wcg_241 i h
theorem ip_w_name1 : ∀ i, i < ip_mi.length → 0 < i → (ip_mB i).1.cls = ip_own i := by decide +kernel
theorem ip_w_name2 : ∀ i, i < ip_ocN.length → plainName (ip_ocN.getD i "") = true ∧ ip_ocN.getD i "" ≠ "java/lang/invoke/MethodHandle" ∧ ip_ocN.getD i "" ≠ "java/lang/invoke/VarHandle" := by decide
theorem ip_w_name3 : ∀ i, i < ip_mi.length → (ip_mI i).1 < ip_ocN.length := by decide +kernel

/-- an instruction's length, where a row of the kit wants one -/
def ip_ln : Instr → Nat
  | .bipush _ => 2
  | .sipush _ => 3
  | .ldc _ => 2
  | .ldc_w _ => 3
  | .ldc2_w _ => 3
  | .iload _ => 2
  | .lload _ => 2
  | .istore _ => 2
  | .lstore _ => 2
  | .iinc _ _ => 3
  | .goto _ => 3
  | .if_icmp _ _ => 3
  | .ifCond _ _ => 3
  | .getfield _ => 3
  | .putfield _ => 3
  | .getstatic _ => 3
  | .invokevirtual _ => 3
  | .invokestatic _ => 3
  | .invokespecial _ => 3
  | .new _ => 3
  | .newarray _ => 2
  | .multianewarray _ _ => 4
  | _ => 1
def ip_isw : Instr → Bool
  | .tableswitch _ _ _ _ => true
  | _ => false
def ip_lk (j pc aux : Nat) : Instr → Bool
  | .getfield idx => if aux < 100000 then ip_FL.any (fun e => decide (e.1 = (ip_mI j).1 ∧ e.2.1 = idx ∧ e.2.2.1 = aux)) else decide (ip_own j = "java/lang/String" ∧ ((aux = 100000 ∧ idx = 9) ∨ (aux = 100001 ∧ idx = 15)))
  | .putfield idx => ip_FL.any (fun e => decide (e.1 = (ip_mI j).1 ∧ e.2.1 = idx ∧ e.2.2.1 = aux) && (match vwCl[aux / 64]? with
      | some r => !(r.2.1 (aux % 64)).2.2.2 || (decide ((ip_mB j).1.name = "<init>" ∧ ip_own j = r.1) && !e.2.2.2.2)
      | none => false))
  | .getstatic idx => decide (ip_own j = "java/lang/String" ∧ ((aux = 0 ∧ idx = 38) ∨ (aux = 1 ∧ idx = 1053)))
  | .invokevirtual idx => ip_ML.any (fun e => decide (e.1 = (ip_mI j).1 ∧ e.2.1 = idx ∧ e.2.2.1 = aux ∧ e.2.2.2.1 = 0))
  | .invokestatic idx => if aux = 9998 then ip_AL.any (fun e => decide (e.1 = (ip_mI j).1 ∧ e.2.1 = idx)) else if aux = 9997 ∨ aux = 9996 then ip_XL.any (fun e => decide (e.1 = (ip_mI j).1 ∧ e.2.1 = idx ∧ e.2.2.1 = aux)) else ip_ML.any (fun e => decide (e.1 = (ip_mI j).1 ∧ e.2.1 = idx ∧ e.2.2.1 = aux ∧ e.2.2.2.1 = 1))
  | .invokespecial idx => if aux = 9999 then ip_OL.any (fun e => decide (e.1 = (ip_mI j).1 ∧ e.2.1 = idx)) else ip_ML.any (fun e => decide (e.1 = (ip_mI j).1 ∧ e.2.1 = idx ∧ e.2.2.1 = aux ∧ e.2.2.2.1 = 2))
  | .new idx => ip_NL.any (fun e => decide (e.1 = (ip_mI j).1 ∧ e.2.1 = idx ∧ e.2.2.1 = aux))
  | .multianewarray idx _ => ip_MN.any (fun e => decide (e.1 = (ip_mI j).1 ∧ e.2.1 = idx))
  | .goto off => decide ((pc : Int) + off = (aux : Int))
  | .if_icmp _ off => decide ((pc : Int) + off = (aux : Int))
  | .ifCond _ off => decide ((pc : Int) + off = (aux : Int))
  | .ldc idx => if 1000 ≤ aux then ip_own j == "HandedSlips$Reader" && decide (idx = 125 + 2 * (aux - 1000)) else decide ((ip_KI[aux]?).map (fun e => (e.1, e.2.1)) = some ((ip_mI j).1, idx))
  | .ldc_w idx => decide ((ip_KI[aux]?).map (fun e => (e.1, e.2.1)) = some ((ip_mI j).1, idx))
  | .ldc2_w idx => decide ((ip_KL[aux]?).map (fun e => (e.1, e.2.1)) = some ((ip_mI j).1, idx))
  | .istore i => decide (i < (ip_mB j).2.2.1)
  | .istore_n i => decide (i.val < (ip_mB j).2.2.1)
  | .astore_n i => decide (i.val < (ip_mB j).2.2.1)
  | .iinc i _ => decide (i < (ip_mB j).2.2.1)
  | .lstore i => decide (i + 1 < (ip_mB j).2.2.1)
  | .lstore_n i => decide (i.val + 1 < (ip_mB j).2.2.1)
  | _ => true
def ip_chk (j : Nat) (e : Nat × Instr × Nat × Nat) : Bool := decide (decode (ip_mB j).2.1 e.1 = .ok (e.2.1, e.2.2.1)) && (ip_isw e.2.1 || decide (e.2.2.1 = ip_ln e.2.1)) && ip_lk j e.1 e.2.2.2 e.2.1
end
section
theorem ip_dk_0_0 : (ip_cT_0_0.all (ip_chk 0)) = true := by decide +kernel
theorem ip_dk_0_1 : (ip_cT_0_1.all (ip_chk 0)) = true := by decide +kernel
theorem ip_dk_0_2 : (ip_cT_0_2.all (ip_chk 0)) = true := by decide +kernel
theorem ip_dk_0_3 : (ip_cT_0_3.all (ip_chk 0)) = true := by decide +kernel
theorem ip_dk_0_4 : (ip_cT_0_4.all (ip_chk 0)) = true := by decide +kernel
theorem ip_dk_0_5 : (ip_cT_0_5.all (ip_chk 0)) = true := by decide +kernel
theorem ip_dk_0_6 : (ip_cT_0_6.all (ip_chk 0)) = true := by decide +kernel
theorem ip_dk_0_7 : (ip_cT_0_7.all (ip_chk 0)) = true := by decide +kernel
theorem ip_dk_0_8 : (ip_cT_0_8.all (ip_chk 0)) = true := by decide +kernel
theorem ip_dk_0_9 : (ip_cT_0_9.all (ip_chk 0)) = true := by decide +kernel
theorem ip_dk_0_10 : (ip_cT_0_10.all (ip_chk 0)) = true := by decide +kernel
theorem ip_dk_0_11 : (ip_cT_0_11.all (ip_chk 0)) = true := by decide +kernel
theorem ip_dk_0_12 : (ip_cT_0_12.all (ip_chk 0)) = true := by decide +kernel
theorem ip_dk_0_13 : (ip_cT_0_13.all (ip_chk 0)) = true := by decide +kernel
theorem ip_dk_0_14 : (ip_cT_0_14.all (ip_chk 0)) = true := by decide +kernel
theorem ip_dk_1_0 : (ip_cT_1_0.all (ip_chk 1)) = true := by decide +kernel
theorem ip_dk_2_0 : (ip_cT_2_0.all (ip_chk 2)) = true := by decide +kernel
theorem ip_dk_3_0 : (ip_cT_3_0.all (ip_chk 3)) = true := by decide +kernel
theorem ip_dk_4_0 : (ip_cT_4_0.all (ip_chk 4)) = true := by decide +kernel
theorem ip_dk_5_0 : (ip_cT_5_0.all (ip_chk 5)) = true := by decide +kernel
theorem ip_dk_6_0 : (ip_cT_6_0.all (ip_chk 6)) = true := by decide +kernel
theorem ip_dk_7_0 : (ip_cT_7_0.all (ip_chk 7)) = true := by decide +kernel
theorem ip_dk_8_0 : (ip_cT_8_0.all (ip_chk 8)) = true := by decide +kernel
theorem ip_dk_9_0 : (ip_cT_9_0.all (ip_chk 9)) = true := by decide +kernel
theorem ip_dk_9_1 : (ip_cT_9_1.all (ip_chk 9)) = true := by decide +kernel
theorem ip_dk_10_0 : (ip_cT_10_0.all (ip_chk 10)) = true := by decide +kernel
theorem ip_dk_11_0 : (ip_cT_11_0.all (ip_chk 11)) = true := by decide +kernel
theorem ip_dk_12_0 : (ip_cT_12_0.all (ip_chk 12)) = true := by decide +kernel
theorem ip_dk_12_1 : (ip_cT_12_1.all (ip_chk 12)) = true := by decide +kernel
theorem ip_dk_13_0 : (ip_cT_13_0.all (ip_chk 13)) = true := by decide +kernel
theorem ip_dk_14_0 : (ip_cT_14_0.all (ip_chk 14)) = true := by decide +kernel
theorem ip_dk_15_0 : (ip_cT_15_0.all (ip_chk 15)) = true := by decide +kernel
theorem ip_dk_16_0 : (ip_cT_16_0.all (ip_chk 16)) = true := by decide +kernel
theorem ip_dk_17_0 : (ip_cT_17_0.all (ip_chk 17)) = true := by decide +kernel
theorem ip_dk_18_0 : (ip_cT_18_0.all (ip_chk 18)) = true := by decide +kernel
theorem ip_dk_19_0 : (ip_cT_19_0.all (ip_chk 19)) = true := by decide +kernel
theorem ip_dk_20_0 : (ip_cT_20_0.all (ip_chk 20)) = true := by decide +kernel
theorem ip_dk_21_0 : (ip_cT_21_0.all (ip_chk 21)) = true := by decide +kernel
theorem ip_dk_22_0 : (ip_cT_22_0.all (ip_chk 22)) = true := by decide +kernel
theorem ip_dk_22_1 : (ip_cT_22_1.all (ip_chk 22)) = true := by decide +kernel
theorem ip_dk_23_0 : (ip_cT_23_0.all (ip_chk 23)) = true := by decide +kernel
theorem ip_dk_23_1 : (ip_cT_23_1.all (ip_chk 23)) = true := by decide +kernel
theorem ip_dk_24_0 : (ip_cT_24_0.all (ip_chk 24)) = true := by decide +kernel
theorem ip_dk_25_0 : (ip_cT_25_0.all (ip_chk 25)) = true := by decide +kernel
theorem ip_dk_25_1 : (ip_cT_25_1.all (ip_chk 25)) = true := by decide +kernel
theorem ip_dk_26_0 : (ip_cT_26_0.all (ip_chk 26)) = true := by decide +kernel
theorem ip_dk_26_1 : (ip_cT_26_1.all (ip_chk 26)) = true := by decide +kernel
theorem ip_dk_27_0 : (ip_cT_27_0.all (ip_chk 27)) = true := by decide +kernel
theorem ip_dk_28_0 : (ip_cT_28_0.all (ip_chk 28)) = true := by decide +kernel
theorem ip_dk_29_0 : (ip_cT_29_0.all (ip_chk 29)) = true := by decide +kernel
theorem ip_dk_30_0 : (ip_cT_30_0.all (ip_chk 30)) = true := by decide +kernel
theorem ip_dk_31_0 : (ip_cT_31_0.all (ip_chk 31)) = true := by decide +kernel
theorem ip_dk_32_0 : (ip_cT_32_0.all (ip_chk 32)) = true := by decide +kernel
theorem ip_dk_33_0 : (ip_cT_33_0.all (ip_chk 33)) = true := by decide +kernel
theorem ip_dk_34_0 : (ip_cT_34_0.all (ip_chk 34)) = true := by decide +kernel
theorem ip_dk_35_0 : (ip_cT_35_0.all (ip_chk 35)) = true := by decide +kernel
theorem ip_dk_36_0 : (ip_cT_36_0.all (ip_chk 36)) = true := by decide +kernel
theorem ip_dk_36_1 : (ip_cT_36_1.all (ip_chk 36)) = true := by decide +kernel
theorem ip_dk_37_0 : (ip_cT_37_0.all (ip_chk 37)) = true := by decide +kernel
theorem ip_dk_38_0 : (ip_cT_38_0.all (ip_chk 38)) = true := by decide +kernel
theorem ip_dk_38_1 : (ip_cT_38_1.all (ip_chk 38)) = true := by decide +kernel
theorem ip_dk_39_0 : (ip_cT_39_0.all (ip_chk 39)) = true := by decide +kernel
theorem ip_dk_39_1 : (ip_cT_39_1.all (ip_chk 39)) = true := by decide +kernel
theorem ip_dk_40_0 : (ip_cT_40_0.all (ip_chk 40)) = true := by decide +kernel
theorem ip_dk_40_1 : (ip_cT_40_1.all (ip_chk 40)) = true := by decide +kernel
theorem ip_dk_41_0 : (ip_cT_41_0.all (ip_chk 41)) = true := by decide +kernel
theorem ip_dk_42_0 : (ip_cT_42_0.all (ip_chk 42)) = true := by decide +kernel
theorem ip_dk_43_0 : (ip_cT_43_0.all (ip_chk 43)) = true := by decide +kernel
theorem ip_dk_44_0 : (ip_cT_44_0.all (ip_chk 44)) = true := by decide +kernel
theorem ip_dk_45_0 : (ip_cT_45_0.all (ip_chk 45)) = true := by decide +kernel
theorem ip_dk_46_0 : (ip_cT_46_0.all (ip_chk 46)) = true := by decide +kernel
theorem ip_dk_47_0 : (ip_cT_47_0.all (ip_chk 47)) = true := by decide +kernel
theorem ip_dk_48_0 : (ip_cT_48_0.all (ip_chk 48)) = true := by decide +kernel
theorem ip_dk_49_0 : (ip_cT_49_0.all (ip_chk 49)) = true := by decide +kernel
theorem ip_dk_50_0 : (ip_cT_50_0.all (ip_chk 50)) = true := by decide +kernel
theorem ip_dk_51_0 : (ip_cT_51_0.all (ip_chk 51)) = true := by decide +kernel
theorem ip_dk_52_0 : (ip_cT_52_0.all (ip_chk 52)) = true := by decide +kernel
theorem ip_dk_53_0 : (ip_cT_53_0.all (ip_chk 53)) = true := by decide +kernel
theorem ip_dk_53_1 : (ip_cT_53_1.all (ip_chk 53)) = true := by decide +kernel
theorem ip_dk_54_0 : (ip_cT_54_0.all (ip_chk 54)) = true := by decide +kernel
theorem ip_dk_55_0 : (ip_cT_55_0.all (ip_chk 55)) = true := by decide +kernel
theorem ip_dk_56_0 : (ip_cT_56_0.all (ip_chk 56)) = true := by decide +kernel
theorem ip_dk_57_0 : (ip_cT_57_0.all (ip_chk 57)) = true := by decide +kernel
theorem ip_dk_58_0 : (ip_cT_58_0.all (ip_chk 58)) = true := by decide +kernel
theorem ip_dk_58_1 : (ip_cT_58_1.all (ip_chk 58)) = true := by decide +kernel
theorem ip_dk_59_0 : (ip_cT_59_0.all (ip_chk 59)) = true := by decide +kernel
theorem ip_dk_59_1 : (ip_cT_59_1.all (ip_chk 59)) = true := by decide +kernel
theorem ip_dk_59_2 : (ip_cT_59_2.all (ip_chk 59)) = true := by decide +kernel
theorem ip_dk_60_0 : (ip_cT_60_0.all (ip_chk 60)) = true := by decide +kernel
theorem ip_dk_60_1 : (ip_cT_60_1.all (ip_chk 60)) = true := by decide +kernel
theorem ip_dk_61_0 : (ip_cT_61_0.all (ip_chk 61)) = true := by decide +kernel
theorem ip_dk_62_0 : (ip_cT_62_0.all (ip_chk 62)) = true := by decide +kernel
theorem ip_dk_63_0 : (ip_cT_63_0.all (ip_chk 63)) = true := by decide +kernel
theorem ip_dk_64_0 : (ip_cT_64_0.all (ip_chk 64)) = true := by decide +kernel
theorem ip_dk_65_0 : (ip_cT_65_0.all (ip_chk 65)) = true := by decide +kernel
theorem ip_dk_66_0 : (ip_cT_66_0.all (ip_chk 66)) = true := by decide +kernel
theorem ip_dk_67_0 : (ip_cT_67_0.all (ip_chk 67)) = true := by decide +kernel
theorem ip_dk_68_0 : (ip_cT_68_0.all (ip_chk 68)) = true := by decide +kernel
theorem ip_dk_69_0 : (ip_cT_69_0.all (ip_chk 69)) = true := by decide +kernel
theorem ip_dk_70_0 : (ip_cT_70_0.all (ip_chk 70)) = true := by decide +kernel
theorem ip_dk_71_0 : (ip_cT_71_0.all (ip_chk 71)) = true := by decide +kernel
theorem ip_dk_72_0 : (ip_cT_72_0.all (ip_chk 72)) = true := by decide +kernel
theorem ip_dk_73_0 : (ip_cT_73_0.all (ip_chk 73)) = true := by decide +kernel
theorem ip_dk_74_0 : (ip_cT_74_0.all (ip_chk 74)) = true := by decide +kernel
theorem ip_dk_75_0 : (ip_cT_75_0.all (ip_chk 75)) = true := by decide +kernel
theorem ip_dk_76_0 : (ip_cT_76_0.all (ip_chk 76)) = true := by decide +kernel
theorem ip_dk_77_0 : (ip_cT_77_0.all (ip_chk 77)) = true := by decide +kernel
theorem ip_dk_78_0 : (ip_cT_78_0.all (ip_chk 78)) = true := by decide +kernel
theorem ip_dk_79_0 : (ip_cT_79_0.all (ip_chk 79)) = true := by decide +kernel
theorem ip_dk_80_0 : (ip_cT_80_0.all (ip_chk 80)) = true := by decide +kernel
theorem ip_dk_81_0 : (ip_cT_81_0.all (ip_chk 81)) = true := by decide +kernel
theorem ip_dk_82_0 : (ip_cT_82_0.all (ip_chk 82)) = true := by decide +kernel
theorem ip_dk_83_0 : (ip_cT_83_0.all (ip_chk 83)) = true := by decide +kernel
theorem ip_dk_84_0 : (ip_cT_84_0.all (ip_chk 84)) = true := by decide +kernel
theorem ip_dk_85_0 : (ip_cT_85_0.all (ip_chk 85)) = true := by decide +kernel
theorem ip_dk_86_0 : (ip_cT_86_0.all (ip_chk 86)) = true := by decide +kernel
theorem ip_dk_87_0 : (ip_cT_87_0.all (ip_chk 87)) = true := by decide +kernel
theorem ip_dk_88_0 : (ip_cT_88_0.all (ip_chk 88)) = true := by decide +kernel
theorem ip_dk_89_0 : (ip_cT_89_0.all (ip_chk 89)) = true := by decide +kernel
theorem ip_dk_90_0 : (ip_cT_90_0.all (ip_chk 90)) = true := by decide +kernel
theorem ip_dk_91_0 : (ip_cT_91_0.all (ip_chk 91)) = true := by decide +kernel
theorem ip_dk_91_1 : (ip_cT_91_1.all (ip_chk 91)) = true := by decide +kernel
theorem ip_dk_92_0 : (ip_cT_92_0.all (ip_chk 92)) = true := by decide +kernel
theorem ip_dk_93_0 : (ip_cT_93_0.all (ip_chk 93)) = true := by decide +kernel
theorem ip_dk_94_0 : (ip_cT_94_0.all (ip_chk 94)) = true := by decide +kernel
theorem ip_dk_95_0 : (ip_cT_95_0.all (ip_chk 95)) = true := by decide +kernel
theorem ip_dk_96_0 : (ip_cT_96_0.all (ip_chk 96)) = true := by decide +kernel
theorem ip_dk_97_0 : (ip_cT_97_0.all (ip_chk 97)) = true := by decide +kernel
theorem ip_dk_98_0 : (ip_cT_98_0.all (ip_chk 98)) = true := by decide +kernel
theorem ip_dk_99_0 : (ip_cT_99_0.all (ip_chk 99)) = true := by decide +kernel
theorem ip_dk_100_0 : (ip_cT_100_0.all (ip_chk 100)) = true := by decide +kernel
theorem ip_dk_101_0 : (ip_cT_101_0.all (ip_chk 101)) = true := by decide +kernel
theorem ip_dk_102_0 : (ip_cT_102_0.all (ip_chk 102)) = true := by decide +kernel
theorem ip_dk_103_0 : (ip_cT_103_0.all (ip_chk 103)) = true := by decide +kernel
theorem ip_dk_104_0 : (ip_cT_104_0.all (ip_chk 104)) = true := by decide +kernel
theorem ip_dk_105_0 : (ip_cT_105_0.all (ip_chk 105)) = true := by decide +kernel
theorem ip_dk_106_0 : (ip_cT_106_0.all (ip_chk 106)) = true := by decide +kernel
theorem ip_dk_107_0 : (ip_cT_107_0.all (ip_chk 107)) = true := by decide +kernel
theorem ip_dk_108_0 : (ip_cT_108_0.all (ip_chk 108)) = true := by decide +kernel
theorem ip_dk_109_0 : (ip_cT_109_0.all (ip_chk 109)) = true := by decide +kernel
theorem ip_dk_110_0 : (ip_cT_110_0.all (ip_chk 110)) = true := by decide +kernel
theorem ip_dk_111_0 : (ip_cT_111_0.all (ip_chk 111)) = true := by decide +kernel
theorem ip_dk_112_0 : (ip_cT_112_0.all (ip_chk 112)) = true := by decide +kernel
theorem ip_dk_113_0 : (ip_cT_113_0.all (ip_chk 113)) = true := by decide +kernel
theorem ip_dk_114_0 : (ip_cT_114_0.all (ip_chk 114)) = true := by decide +kernel
theorem ip_dk_115_0 : (ip_cT_115_0.all (ip_chk 115)) = true := by decide +kernel
theorem ip_dk_116_0 : (ip_cT_116_0.all (ip_chk 116)) = true := by decide +kernel
theorem ip_dk_117_0 : (ip_cT_117_0.all (ip_chk 117)) = true := by decide +kernel
theorem ip_dk_118_0 : (ip_cT_118_0.all (ip_chk 118)) = true := by decide +kernel
theorem ip_dk_119_0 : (ip_cT_119_0.all (ip_chk 119)) = true := by decide +kernel
theorem ip_dk_120_0 : (ip_cT_120_0.all (ip_chk 120)) = true := by decide +kernel
theorem ip_dk_121_0 : (ip_cT_121_0.all (ip_chk 121)) = true := by decide +kernel
theorem ip_dk_121_1 : (ip_cT_121_1.all (ip_chk 121)) = true := by decide +kernel
theorem ip_dk_122_0 : (ip_cT_122_0.all (ip_chk 122)) = true := by decide +kernel
theorem ip_dk_123_0 : (ip_cT_123_0.all (ip_chk 123)) = true := by decide +kernel
end
section
theorem ip_dk_124_0 : (ip_cT_124_0.all (ip_chk 124)) = true := by decide +kernel
theorem ip_dk_125_0 : (ip_cT_125_0.all (ip_chk 125)) = true := by decide +kernel
theorem ip_dk_126_0 : (ip_cT_126_0.all (ip_chk 126)) = true := by decide +kernel
theorem ip_dk_127_0 : (ip_cT_127_0.all (ip_chk 127)) = true := by decide +kernel
theorem ip_dk_128_0 : (ip_cT_128_0.all (ip_chk 128)) = true := by decide +kernel
theorem ip_dk_128_1 : (ip_cT_128_1.all (ip_chk 128)) = true := by decide +kernel
theorem ip_dk_129_0 : (ip_cT_129_0.all (ip_chk 129)) = true := by decide +kernel
theorem ip_dk_130_0 : (ip_cT_130_0.all (ip_chk 130)) = true := by decide +kernel
theorem ip_dk_131_0 : (ip_cT_131_0.all (ip_chk 131)) = true := by decide +kernel
theorem ip_dk_132_0 : (ip_cT_132_0.all (ip_chk 132)) = true := by decide +kernel
theorem ip_dk_133_0 : (ip_cT_133_0.all (ip_chk 133)) = true := by decide +kernel
theorem ip_dk_134_0 : (ip_cT_134_0.all (ip_chk 134)) = true := by decide +kernel
theorem ip_dk_135_0 : (ip_cT_135_0.all (ip_chk 135)) = true := by decide +kernel
theorem ip_dk_136_0 : (ip_cT_136_0.all (ip_chk 136)) = true := by decide +kernel
theorem ip_dk_137_0 : (ip_cT_137_0.all (ip_chk 137)) = true := by decide +kernel
theorem ip_dk_137_1 : (ip_cT_137_1.all (ip_chk 137)) = true := by decide +kernel
theorem ip_dk_138_0 : (ip_cT_138_0.all (ip_chk 138)) = true := by decide +kernel
theorem ip_dk_139_0 : (ip_cT_139_0.all (ip_chk 139)) = true := by decide +kernel
theorem ip_dk_140_0 : (ip_cT_140_0.all (ip_chk 140)) = true := by decide +kernel
theorem ip_dk_141_0 : (ip_cT_141_0.all (ip_chk 141)) = true := by decide +kernel
theorem ip_dk_142_0 : (ip_cT_142_0.all (ip_chk 142)) = true := by decide +kernel
theorem ip_dk_143_0 : (ip_cT_143_0.all (ip_chk 143)) = true := by decide +kernel
theorem ip_dk_144_0 : (ip_cT_144_0.all (ip_chk 144)) = true := by decide +kernel
theorem ip_dk_145_0 : (ip_cT_145_0.all (ip_chk 145)) = true := by decide +kernel
theorem ip_dk_146_0 : (ip_cT_146_0.all (ip_chk 146)) = true := by decide +kernel
theorem ip_dk_147_0 : (ip_cT_147_0.all (ip_chk 147)) = true := by decide +kernel
theorem ip_dk_148_0 : (ip_cT_148_0.all (ip_chk 148)) = true := by decide +kernel
theorem ip_dk_148_1 : (ip_cT_148_1.all (ip_chk 148)) = true := by decide +kernel
theorem ip_dk_149_0 : (ip_cT_149_0.all (ip_chk 149)) = true := by decide +kernel
theorem ip_dk_149_1 : (ip_cT_149_1.all (ip_chk 149)) = true := by decide +kernel
theorem ip_dk_150_0 : (ip_cT_150_0.all (ip_chk 150)) = true := by decide +kernel
theorem ip_dk_151_0 : (ip_cT_151_0.all (ip_chk 151)) = true := by decide +kernel
theorem ip_dk_152_0 : (ip_cT_152_0.all (ip_chk 152)) = true := by decide +kernel
theorem ip_dk_153_0 : (ip_cT_153_0.all (ip_chk 153)) = true := by decide +kernel
theorem ip_dk_154_0 : (ip_cT_154_0.all (ip_chk 154)) = true := by decide +kernel
theorem ip_dk_155_0 : (ip_cT_155_0.all (ip_chk 155)) = true := by decide +kernel
theorem ip_dk_156_0 : (ip_cT_156_0.all (ip_chk 156)) = true := by decide +kernel
theorem ip_dk_157_0 : (ip_cT_157_0.all (ip_chk 157)) = true := by decide +kernel
theorem ip_dk_158_0 : (ip_cT_158_0.all (ip_chk 158)) = true := by decide +kernel
theorem ip_dk_159_0 : (ip_cT_159_0.all (ip_chk 159)) = true := by decide +kernel
theorem ip_dk_160_0 : (ip_cT_160_0.all (ip_chk 160)) = true := by decide +kernel
theorem ip_dk_161_0 : (ip_cT_161_0.all (ip_chk 161)) = true := by decide +kernel
theorem ip_dk_161_1 : (ip_cT_161_1.all (ip_chk 161)) = true := by decide +kernel
theorem ip_dk_161_2 : (ip_cT_161_2.all (ip_chk 161)) = true := by decide +kernel
theorem ip_dk_161_3 : (ip_cT_161_3.all (ip_chk 161)) = true := by decide +kernel
theorem ip_dk_162_0 : (ip_cT_162_0.all (ip_chk 162)) = true := by decide +kernel
theorem ip_dk_162_1 : (ip_cT_162_1.all (ip_chk 162)) = true := by decide +kernel
theorem ip_dk_163_0 : (ip_cT_163_0.all (ip_chk 163)) = true := by decide +kernel
theorem ip_dk_164_0 : (ip_cT_164_0.all (ip_chk 164)) = true := by decide +kernel
theorem ip_dk_165_0 : (ip_cT_165_0.all (ip_chk 165)) = true := by decide +kernel
theorem ip_dk_166_0 : (ip_cT_166_0.all (ip_chk 166)) = true := by decide +kernel
theorem ip_dk_167_0 : (ip_cT_167_0.all (ip_chk 167)) = true := by decide +kernel
theorem ip_dk_168_0 : (ip_cT_168_0.all (ip_chk 168)) = true := by decide +kernel
theorem ip_dk_169_0 : (ip_cT_169_0.all (ip_chk 169)) = true := by decide +kernel
theorem ip_dk_170_0 : (ip_cT_170_0.all (ip_chk 170)) = true := by decide +kernel
theorem ip_dk_171_0 : (ip_cT_171_0.all (ip_chk 171)) = true := by decide +kernel
theorem ip_dk_172_0 : (ip_cT_172_0.all (ip_chk 172)) = true := by decide +kernel
theorem ip_dk_173_0 : (ip_cT_173_0.all (ip_chk 173)) = true := by decide +kernel
theorem ip_dk_174_0 : (ip_cT_174_0.all (ip_chk 174)) = true := by decide +kernel
theorem ip_dk_175_0 : (ip_cT_175_0.all (ip_chk 175)) = true := by decide +kernel
theorem ip_dk_176_0 : (ip_cT_176_0.all (ip_chk 176)) = true := by decide +kernel
theorem ip_dk_177_0 : (ip_cT_177_0.all (ip_chk 177)) = true := by decide +kernel
theorem ip_dk_177_1 : (ip_cT_177_1.all (ip_chk 177)) = true := by decide +kernel
theorem ip_dk_178_0 : (ip_cT_178_0.all (ip_chk 178)) = true := by decide +kernel
theorem ip_dk_178_1 : (ip_cT_178_1.all (ip_chk 178)) = true := by decide +kernel
theorem ip_dk_179_0 : (ip_cT_179_0.all (ip_chk 179)) = true := by decide +kernel
theorem ip_dk_180_0 : (ip_cT_180_0.all (ip_chk 180)) = true := by decide +kernel
theorem ip_dk_181_0 : (ip_cT_181_0.all (ip_chk 181)) = true := by decide +kernel
theorem ip_dk_182_0 : (ip_cT_182_0.all (ip_chk 182)) = true := by decide +kernel
theorem ip_dk_183_0 : (ip_cT_183_0.all (ip_chk 183)) = true := by decide +kernel
theorem ip_dk_184_0 : (ip_cT_184_0.all (ip_chk 184)) = true := by decide +kernel
theorem ip_dk_185_0 : (ip_cT_185_0.all (ip_chk 185)) = true := by decide +kernel
theorem ip_dk_186_0 : (ip_cT_186_0.all (ip_chk 186)) = true := by decide +kernel
theorem ip_dk_187_0 : (ip_cT_187_0.all (ip_chk 187)) = true := by decide +kernel
theorem ip_dk_187_1 : (ip_cT_187_1.all (ip_chk 187)) = true := by decide +kernel
theorem ip_dk_188_0 : (ip_cT_188_0.all (ip_chk 188)) = true := by decide +kernel
theorem ip_dk_188_1 : (ip_cT_188_1.all (ip_chk 188)) = true := by decide +kernel
theorem ip_dk_189_0 : (ip_cT_189_0.all (ip_chk 189)) = true := by decide +kernel
theorem ip_dk_190_0 : (ip_cT_190_0.all (ip_chk 190)) = true := by decide +kernel
theorem ip_dk_191_0 : (ip_cT_191_0.all (ip_chk 191)) = true := by decide +kernel
theorem ip_dk_192_0 : (ip_cT_192_0.all (ip_chk 192)) = true := by decide +kernel
theorem ip_dk_193_0 : (ip_cT_193_0.all (ip_chk 193)) = true := by decide +kernel
theorem ip_dk_194_0 : (ip_cT_194_0.all (ip_chk 194)) = true := by decide +kernel
theorem ip_dk_195_0 : (ip_cT_195_0.all (ip_chk 195)) = true := by decide +kernel
theorem ip_dk_196_0 : (ip_cT_196_0.all (ip_chk 196)) = true := by decide +kernel
theorem ip_dk_197_0 : (ip_cT_197_0.all (ip_chk 197)) = true := by decide +kernel
theorem ip_dk_198_0 : (ip_cT_198_0.all (ip_chk 198)) = true := by decide +kernel
theorem ip_dk_199_0 : (ip_cT_199_0.all (ip_chk 199)) = true := by decide +kernel
theorem ip_dk_200_0 : (ip_cT_200_0.all (ip_chk 200)) = true := by decide +kernel
theorem ip_dk_200_1 : (ip_cT_200_1.all (ip_chk 200)) = true := by decide +kernel
theorem ip_dk_201_0 : (ip_cT_201_0.all (ip_chk 201)) = true := by decide +kernel
theorem ip_dk_202_0 : (ip_cT_202_0.all (ip_chk 202)) = true := by decide +kernel
theorem ip_dk_202_1 : (ip_cT_202_1.all (ip_chk 202)) = true := by decide +kernel
theorem ip_dk_202_2 : (ip_cT_202_2.all (ip_chk 202)) = true := by decide +kernel
theorem ip_dk_203_0 : (ip_cT_203_0.all (ip_chk 203)) = true := by decide +kernel
theorem ip_dk_204_0 : (ip_cT_204_0.all (ip_chk 204)) = true := by decide +kernel
theorem ip_dk_205_0 : (ip_cT_205_0.all (ip_chk 205)) = true := by decide +kernel
theorem ip_dk_206_0 : (ip_cT_206_0.all (ip_chk 206)) = true := by decide +kernel
theorem ip_dk_207_0 : (ip_cT_207_0.all (ip_chk 207)) = true := by decide +kernel
theorem ip_dk_208_0 : (ip_cT_208_0.all (ip_chk 208)) = true := by decide +kernel
theorem ip_dk_208_1 : (ip_cT_208_1.all (ip_chk 208)) = true := by decide +kernel
theorem ip_dk_209_0 : (ip_cT_209_0.all (ip_chk 209)) = true := by decide +kernel
theorem ip_dk_209_1 : (ip_cT_209_1.all (ip_chk 209)) = true := by decide +kernel
theorem ip_dk_210_0 : (ip_cT_210_0.all (ip_chk 210)) = true := by decide +kernel
theorem ip_dk_211_0 : (ip_cT_211_0.all (ip_chk 211)) = true := by decide +kernel
theorem ip_dk_211_1 : (ip_cT_211_1.all (ip_chk 211)) = true := by decide +kernel
theorem ip_dk_212_0 : (ip_cT_212_0.all (ip_chk 212)) = true := by decide +kernel
theorem ip_dk_212_1 : (ip_cT_212_1.all (ip_chk 212)) = true := by decide +kernel
theorem ip_dk_213_0 : (ip_cT_213_0.all (ip_chk 213)) = true := by decide +kernel
theorem ip_dk_214_0 : (ip_cT_214_0.all (ip_chk 214)) = true := by decide +kernel
theorem ip_dk_214_1 : (ip_cT_214_1.all (ip_chk 214)) = true := by decide +kernel
theorem ip_dk_215_0 : (ip_cT_215_0.all (ip_chk 215)) = true := by decide +kernel
theorem ip_dk_215_1 : (ip_cT_215_1.all (ip_chk 215)) = true := by decide +kernel
theorem ip_dk_216_0 : (ip_cT_216_0.all (ip_chk 216)) = true := by decide +kernel
theorem ip_dk_217_0 : (ip_cT_217_0.all (ip_chk 217)) = true := by decide +kernel
theorem ip_dk_218_0 : (ip_cT_218_0.all (ip_chk 218)) = true := by decide +kernel
theorem ip_dk_218_1 : (ip_cT_218_1.all (ip_chk 218)) = true := by decide +kernel
theorem ip_dk_219_0 : (ip_cT_219_0.all (ip_chk 219)) = true := by decide +kernel
theorem ip_dk_219_1 : (ip_cT_219_1.all (ip_chk 219)) = true := by decide +kernel
theorem ip_dk_220_0 : (ip_cT_220_0.all (ip_chk 220)) = true := by decide +kernel
theorem ip_dk_221_0 : (ip_cT_221_0.all (ip_chk 221)) = true := by decide +kernel
theorem ip_dk_221_1 : (ip_cT_221_1.all (ip_chk 221)) = true := by decide +kernel
theorem ip_dk_221_2 : (ip_cT_221_2.all (ip_chk 221)) = true := by decide +kernel
theorem ip_dk_222_0 : (ip_cT_222_0.all (ip_chk 222)) = true := by decide +kernel
theorem ip_dk_222_1 : (ip_cT_222_1.all (ip_chk 222)) = true := by decide +kernel
theorem ip_dk_223_0 : (ip_cT_223_0.all (ip_chk 223)) = true := by decide +kernel
theorem ip_dk_224_0 : (ip_cT_224_0.all (ip_chk 224)) = true := by decide +kernel
theorem ip_dk_224_1 : (ip_cT_224_1.all (ip_chk 224)) = true := by decide +kernel
theorem ip_dk_225_0 : (ip_cT_225_0.all (ip_chk 225)) = true := by decide +kernel
theorem ip_dk_225_1 : (ip_cT_225_1.all (ip_chk 225)) = true := by decide +kernel
theorem ip_dk_226_0 : (ip_cT_226_0.all (ip_chk 226)) = true := by decide +kernel
theorem ip_dk_227_0 : (ip_cT_227_0.all (ip_chk 227)) = true := by decide +kernel
theorem ip_dk_227_1 : (ip_cT_227_1.all (ip_chk 227)) = true := by decide +kernel
theorem ip_dk_227_2 : (ip_cT_227_2.all (ip_chk 227)) = true := by decide +kernel
theorem ip_dk_228_0 : (ip_cT_228_0.all (ip_chk 228)) = true := by decide +kernel
theorem ip_dk_228_1 : (ip_cT_228_1.all (ip_chk 228)) = true := by decide +kernel
theorem ip_dk_228_2 : (ip_cT_228_2.all (ip_chk 228)) = true := by decide +kernel
theorem ip_dk_229_0 : (ip_cT_229_0.all (ip_chk 229)) = true := by decide +kernel
theorem ip_dk_230_0 : (ip_cT_230_0.all (ip_chk 230)) = true := by decide +kernel
theorem ip_dk_231_0 : (ip_cT_231_0.all (ip_chk 231)) = true := by decide +kernel
theorem ip_dk_232_0 : (ip_cT_232_0.all (ip_chk 232)) = true := by decide +kernel
theorem ip_dk_233_0 : (ip_cT_233_0.all (ip_chk 233)) = true := by decide +kernel
theorem ip_dk_234_0 : (ip_cT_234_0.all (ip_chk 234)) = true := by decide +kernel
theorem ip_dk_235_0 : (ip_cT_235_0.all (ip_chk 235)) = true := by decide +kernel
theorem ip_dk_235_1 : (ip_cT_235_1.all (ip_chk 235)) = true := by decide +kernel
theorem ip_dk_235_2 : (ip_cT_235_2.all (ip_chk 235)) = true := by decide +kernel
theorem ip_dk_236_0 : (ip_cT_236_0.all (ip_chk 236)) = true := by decide +kernel
theorem ip_dk_237_0 : (ip_cT_237_0.all (ip_chk 237)) = true := by decide +kernel
theorem ip_dk_238_0 : (ip_cT_238_0.all (ip_chk 238)) = true := by decide +kernel
theorem ip_dk_239_0 : (ip_cT_239_0.all (ip_chk 239)) = true := by decide +kernel
theorem ip_dk_240_0 : (ip_cT_240_0.all (ip_chk 240)) = true := by decide +kernel
theorem ip_dk_241_0 : (ip_cT_241_0.all (ip_chk 241)) = true := by decide +kernel
theorem ip_dk_242_0 : (ip_cT_242_0.all (ip_chk 242)) = true := by decide +kernel
theorem ip_dk_243_0 : (ip_cT_243_0.all (ip_chk 243)) = true := by decide +kernel
theorem ip_dk_244_0 : (ip_cT_244_0.all (ip_chk 244)) = true := by decide +kernel
theorem ip_dj_0 : (ip_cT_0.all (ip_chk 0)) = true := by simp only [ip_cT_0, List.all_append, ip_dk_0_0, ip_dk_0_1, ip_dk_0_2, ip_dk_0_3, ip_dk_0_4, ip_dk_0_5, ip_dk_0_6, ip_dk_0_7, ip_dk_0_8, ip_dk_0_9, ip_dk_0_10, ip_dk_0_11, ip_dk_0_12, ip_dk_0_13, ip_dk_0_14, Bool.and_self]
theorem ip_dj_1 : (ip_cT_1.all (ip_chk 1)) = true := ip_dk_1_0
theorem ip_dj_2 : (ip_cT_2.all (ip_chk 2)) = true := ip_dk_2_0
theorem ip_dj_3 : (ip_cT_3.all (ip_chk 3)) = true := ip_dk_3_0
theorem ip_dj_4 : (ip_cT_4.all (ip_chk 4)) = true := ip_dk_4_0
theorem ip_dj_5 : (ip_cT_5.all (ip_chk 5)) = true := ip_dk_5_0
theorem ip_dj_6 : (ip_cT_6.all (ip_chk 6)) = true := ip_dk_6_0
theorem ip_dj_7 : (ip_cT_7.all (ip_chk 7)) = true := ip_dk_7_0
theorem ip_dj_8 : (ip_cT_8.all (ip_chk 8)) = true := ip_dk_8_0
theorem ip_dj_9 : (ip_cT_9.all (ip_chk 9)) = true := by simp only [ip_cT_9, List.all_append, ip_dk_9_0, ip_dk_9_1, Bool.and_self]
theorem ip_dj_10 : (ip_cT_10.all (ip_chk 10)) = true := ip_dk_10_0
theorem ip_dj_11 : (ip_cT_11.all (ip_chk 11)) = true := ip_dk_11_0
theorem ip_dj_12 : (ip_cT_12.all (ip_chk 12)) = true := by simp only [ip_cT_12, List.all_append, ip_dk_12_0, ip_dk_12_1, Bool.and_self]
theorem ip_dj_13 : (ip_cT_13.all (ip_chk 13)) = true := ip_dk_13_0
theorem ip_dj_14 : (ip_cT_14.all (ip_chk 14)) = true := ip_dk_14_0
theorem ip_dj_15 : (ip_cT_15.all (ip_chk 15)) = true := ip_dk_15_0
theorem ip_dj_16 : (ip_cT_16.all (ip_chk 16)) = true := ip_dk_16_0
theorem ip_dj_17 : (ip_cT_17.all (ip_chk 17)) = true := ip_dk_17_0
theorem ip_dj_18 : (ip_cT_18.all (ip_chk 18)) = true := ip_dk_18_0
theorem ip_dj_19 : (ip_cT_19.all (ip_chk 19)) = true := ip_dk_19_0
theorem ip_dj_20 : (ip_cT_20.all (ip_chk 20)) = true := ip_dk_20_0
theorem ip_dj_21 : (ip_cT_21.all (ip_chk 21)) = true := ip_dk_21_0
theorem ip_dj_22 : (ip_cT_22.all (ip_chk 22)) = true := by simp only [ip_cT_22, List.all_append, ip_dk_22_0, ip_dk_22_1, Bool.and_self]
theorem ip_dj_23 : (ip_cT_23.all (ip_chk 23)) = true := by simp only [ip_cT_23, List.all_append, ip_dk_23_0, ip_dk_23_1, Bool.and_self]
theorem ip_dj_24 : (ip_cT_24.all (ip_chk 24)) = true := ip_dk_24_0
theorem ip_dj_25 : (ip_cT_25.all (ip_chk 25)) = true := by simp only [ip_cT_25, List.all_append, ip_dk_25_0, ip_dk_25_1, Bool.and_self]
theorem ip_dj_26 : (ip_cT_26.all (ip_chk 26)) = true := by simp only [ip_cT_26, List.all_append, ip_dk_26_0, ip_dk_26_1, Bool.and_self]
theorem ip_dj_27 : (ip_cT_27.all (ip_chk 27)) = true := ip_dk_27_0
theorem ip_dj_28 : (ip_cT_28.all (ip_chk 28)) = true := ip_dk_28_0
theorem ip_dj_29 : (ip_cT_29.all (ip_chk 29)) = true := ip_dk_29_0
theorem ip_dj_30 : (ip_cT_30.all (ip_chk 30)) = true := ip_dk_30_0
theorem ip_dj_31 : (ip_cT_31.all (ip_chk 31)) = true := ip_dk_31_0
theorem ip_dj_32 : (ip_cT_32.all (ip_chk 32)) = true := ip_dk_32_0
theorem ip_dj_33 : (ip_cT_33.all (ip_chk 33)) = true := ip_dk_33_0
theorem ip_dj_34 : (ip_cT_34.all (ip_chk 34)) = true := ip_dk_34_0
theorem ip_dj_35 : (ip_cT_35.all (ip_chk 35)) = true := ip_dk_35_0
theorem ip_dj_36 : (ip_cT_36.all (ip_chk 36)) = true := by simp only [ip_cT_36, List.all_append, ip_dk_36_0, ip_dk_36_1, Bool.and_self]
theorem ip_dj_37 : (ip_cT_37.all (ip_chk 37)) = true := ip_dk_37_0
theorem ip_dj_38 : (ip_cT_38.all (ip_chk 38)) = true := by simp only [ip_cT_38, List.all_append, ip_dk_38_0, ip_dk_38_1, Bool.and_self]
theorem ip_dj_39 : (ip_cT_39.all (ip_chk 39)) = true := by simp only [ip_cT_39, List.all_append, ip_dk_39_0, ip_dk_39_1, Bool.and_self]
theorem ip_dj_40 : (ip_cT_40.all (ip_chk 40)) = true := by simp only [ip_cT_40, List.all_append, ip_dk_40_0, ip_dk_40_1, Bool.and_self]
theorem ip_dj_41 : (ip_cT_41.all (ip_chk 41)) = true := ip_dk_41_0
theorem ip_dj_42 : (ip_cT_42.all (ip_chk 42)) = true := ip_dk_42_0
theorem ip_dj_43 : (ip_cT_43.all (ip_chk 43)) = true := ip_dk_43_0
theorem ip_dj_44 : (ip_cT_44.all (ip_chk 44)) = true := ip_dk_44_0
theorem ip_dj_45 : (ip_cT_45.all (ip_chk 45)) = true := ip_dk_45_0
theorem ip_dj_46 : (ip_cT_46.all (ip_chk 46)) = true := ip_dk_46_0
theorem ip_dj_47 : (ip_cT_47.all (ip_chk 47)) = true := ip_dk_47_0
theorem ip_dj_48 : (ip_cT_48.all (ip_chk 48)) = true := ip_dk_48_0
theorem ip_dj_49 : (ip_cT_49.all (ip_chk 49)) = true := ip_dk_49_0
theorem ip_dj_50 : (ip_cT_50.all (ip_chk 50)) = true := ip_dk_50_0
theorem ip_dj_51 : (ip_cT_51.all (ip_chk 51)) = true := ip_dk_51_0
theorem ip_dj_52 : (ip_cT_52.all (ip_chk 52)) = true := ip_dk_52_0
theorem ip_dj_53 : (ip_cT_53.all (ip_chk 53)) = true := by simp only [ip_cT_53, List.all_append, ip_dk_53_0, ip_dk_53_1, Bool.and_self]
theorem ip_dj_54 : (ip_cT_54.all (ip_chk 54)) = true := ip_dk_54_0
theorem ip_dj_55 : (ip_cT_55.all (ip_chk 55)) = true := ip_dk_55_0
theorem ip_dj_56 : (ip_cT_56.all (ip_chk 56)) = true := ip_dk_56_0
theorem ip_dj_57 : (ip_cT_57.all (ip_chk 57)) = true := ip_dk_57_0
theorem ip_dj_58 : (ip_cT_58.all (ip_chk 58)) = true := by simp only [ip_cT_58, List.all_append, ip_dk_58_0, ip_dk_58_1, Bool.and_self]
theorem ip_dj_59 : (ip_cT_59.all (ip_chk 59)) = true := by simp only [ip_cT_59, List.all_append, ip_dk_59_0, ip_dk_59_1, ip_dk_59_2, Bool.and_self]
theorem ip_dj_60 : (ip_cT_60.all (ip_chk 60)) = true := by simp only [ip_cT_60, List.all_append, ip_dk_60_0, ip_dk_60_1, Bool.and_self]
theorem ip_dj_61 : (ip_cT_61.all (ip_chk 61)) = true := ip_dk_61_0
theorem ip_dj_62 : (ip_cT_62.all (ip_chk 62)) = true := ip_dk_62_0
theorem ip_dj_63 : (ip_cT_63.all (ip_chk 63)) = true := ip_dk_63_0
theorem ip_dj_64 : (ip_cT_64.all (ip_chk 64)) = true := ip_dk_64_0
theorem ip_dj_65 : (ip_cT_65.all (ip_chk 65)) = true := ip_dk_65_0
theorem ip_dj_66 : (ip_cT_66.all (ip_chk 66)) = true := ip_dk_66_0
theorem ip_dj_67 : (ip_cT_67.all (ip_chk 67)) = true := ip_dk_67_0
theorem ip_dj_68 : (ip_cT_68.all (ip_chk 68)) = true := ip_dk_68_0
theorem ip_dj_69 : (ip_cT_69.all (ip_chk 69)) = true := ip_dk_69_0
theorem ip_dj_70 : (ip_cT_70.all (ip_chk 70)) = true := ip_dk_70_0
theorem ip_dj_71 : (ip_cT_71.all (ip_chk 71)) = true := ip_dk_71_0
theorem ip_dj_72 : (ip_cT_72.all (ip_chk 72)) = true := ip_dk_72_0
theorem ip_dj_73 : (ip_cT_73.all (ip_chk 73)) = true := ip_dk_73_0
theorem ip_dj_74 : (ip_cT_74.all (ip_chk 74)) = true := ip_dk_74_0
theorem ip_dj_75 : (ip_cT_75.all (ip_chk 75)) = true := ip_dk_75_0
theorem ip_dj_76 : (ip_cT_76.all (ip_chk 76)) = true := ip_dk_76_0
theorem ip_dj_77 : (ip_cT_77.all (ip_chk 77)) = true := ip_dk_77_0
theorem ip_dj_78 : (ip_cT_78.all (ip_chk 78)) = true := ip_dk_78_0
theorem ip_dj_79 : (ip_cT_79.all (ip_chk 79)) = true := ip_dk_79_0
theorem ip_dj_80 : (ip_cT_80.all (ip_chk 80)) = true := ip_dk_80_0
theorem ip_dj_81 : (ip_cT_81.all (ip_chk 81)) = true := ip_dk_81_0
theorem ip_dj_82 : (ip_cT_82.all (ip_chk 82)) = true := ip_dk_82_0
theorem ip_dj_83 : (ip_cT_83.all (ip_chk 83)) = true := ip_dk_83_0
theorem ip_dj_84 : (ip_cT_84.all (ip_chk 84)) = true := ip_dk_84_0
theorem ip_dj_85 : (ip_cT_85.all (ip_chk 85)) = true := ip_dk_85_0
theorem ip_dj_86 : (ip_cT_86.all (ip_chk 86)) = true := ip_dk_86_0
theorem ip_dj_87 : (ip_cT_87.all (ip_chk 87)) = true := ip_dk_87_0
theorem ip_dj_88 : (ip_cT_88.all (ip_chk 88)) = true := ip_dk_88_0
theorem ip_dj_89 : (ip_cT_89.all (ip_chk 89)) = true := ip_dk_89_0
theorem ip_dj_90 : (ip_cT_90.all (ip_chk 90)) = true := ip_dk_90_0
theorem ip_dj_91 : (ip_cT_91.all (ip_chk 91)) = true := by simp only [ip_cT_91, List.all_append, ip_dk_91_0, ip_dk_91_1, Bool.and_self]
theorem ip_dj_92 : (ip_cT_92.all (ip_chk 92)) = true := ip_dk_92_0
theorem ip_dj_93 : (ip_cT_93.all (ip_chk 93)) = true := ip_dk_93_0
theorem ip_dj_94 : (ip_cT_94.all (ip_chk 94)) = true := ip_dk_94_0
theorem ip_dj_95 : (ip_cT_95.all (ip_chk 95)) = true := ip_dk_95_0
theorem ip_dj_96 : (ip_cT_96.all (ip_chk 96)) = true := ip_dk_96_0
theorem ip_dj_97 : (ip_cT_97.all (ip_chk 97)) = true := ip_dk_97_0
theorem ip_dj_98 : (ip_cT_98.all (ip_chk 98)) = true := ip_dk_98_0
theorem ip_dj_99 : (ip_cT_99.all (ip_chk 99)) = true := ip_dk_99_0
theorem ip_dj_100 : (ip_cT_100.all (ip_chk 100)) = true := ip_dk_100_0
theorem ip_dj_101 : (ip_cT_101.all (ip_chk 101)) = true := ip_dk_101_0
theorem ip_dj_102 : (ip_cT_102.all (ip_chk 102)) = true := ip_dk_102_0
theorem ip_dj_103 : (ip_cT_103.all (ip_chk 103)) = true := ip_dk_103_0
theorem ip_dj_104 : (ip_cT_104.all (ip_chk 104)) = true := ip_dk_104_0
theorem ip_dj_105 : (ip_cT_105.all (ip_chk 105)) = true := ip_dk_105_0
theorem ip_dj_106 : (ip_cT_106.all (ip_chk 106)) = true := ip_dk_106_0
theorem ip_dj_107 : (ip_cT_107.all (ip_chk 107)) = true := ip_dk_107_0
theorem ip_dj_108 : (ip_cT_108.all (ip_chk 108)) = true := ip_dk_108_0
theorem ip_dj_109 : (ip_cT_109.all (ip_chk 109)) = true := ip_dk_109_0
theorem ip_dj_110 : (ip_cT_110.all (ip_chk 110)) = true := ip_dk_110_0
theorem ip_dj_111 : (ip_cT_111.all (ip_chk 111)) = true := ip_dk_111_0
theorem ip_dj_112 : (ip_cT_112.all (ip_chk 112)) = true := ip_dk_112_0
theorem ip_dj_113 : (ip_cT_113.all (ip_chk 113)) = true := ip_dk_113_0
theorem ip_dj_114 : (ip_cT_114.all (ip_chk 114)) = true := ip_dk_114_0
theorem ip_dj_115 : (ip_cT_115.all (ip_chk 115)) = true := ip_dk_115_0
theorem ip_dj_116 : (ip_cT_116.all (ip_chk 116)) = true := ip_dk_116_0
theorem ip_dj_117 : (ip_cT_117.all (ip_chk 117)) = true := ip_dk_117_0
theorem ip_dj_118 : (ip_cT_118.all (ip_chk 118)) = true := ip_dk_118_0
theorem ip_dj_119 : (ip_cT_119.all (ip_chk 119)) = true := ip_dk_119_0
theorem ip_dj_120 : (ip_cT_120.all (ip_chk 120)) = true := ip_dk_120_0
theorem ip_dj_121 : (ip_cT_121.all (ip_chk 121)) = true := by simp only [ip_cT_121, List.all_append, ip_dk_121_0, ip_dk_121_1, Bool.and_self]
theorem ip_dj_122 : (ip_cT_122.all (ip_chk 122)) = true := ip_dk_122_0
theorem ip_dj_123 : (ip_cT_123.all (ip_chk 123)) = true := ip_dk_123_0
theorem ip_dj_124 : (ip_cT_124.all (ip_chk 124)) = true := ip_dk_124_0
theorem ip_dj_125 : (ip_cT_125.all (ip_chk 125)) = true := ip_dk_125_0
theorem ip_dj_126 : (ip_cT_126.all (ip_chk 126)) = true := ip_dk_126_0
theorem ip_dj_127 : (ip_cT_127.all (ip_chk 127)) = true := ip_dk_127_0
theorem ip_dj_128 : (ip_cT_128.all (ip_chk 128)) = true := by simp only [ip_cT_128, List.all_append, ip_dk_128_0, ip_dk_128_1, Bool.and_self]
theorem ip_dj_129 : (ip_cT_129.all (ip_chk 129)) = true := ip_dk_129_0
theorem ip_dj_130 : (ip_cT_130.all (ip_chk 130)) = true := ip_dk_130_0
theorem ip_dj_131 : (ip_cT_131.all (ip_chk 131)) = true := ip_dk_131_0
theorem ip_dj_132 : (ip_cT_132.all (ip_chk 132)) = true := ip_dk_132_0
theorem ip_dj_133 : (ip_cT_133.all (ip_chk 133)) = true := ip_dk_133_0
theorem ip_dj_134 : (ip_cT_134.all (ip_chk 134)) = true := ip_dk_134_0
theorem ip_dj_135 : (ip_cT_135.all (ip_chk 135)) = true := ip_dk_135_0
theorem ip_dj_136 : (ip_cT_136.all (ip_chk 136)) = true := ip_dk_136_0
theorem ip_dj_137 : (ip_cT_137.all (ip_chk 137)) = true := by simp only [ip_cT_137, List.all_append, ip_dk_137_0, ip_dk_137_1, Bool.and_self]
theorem ip_dj_138 : (ip_cT_138.all (ip_chk 138)) = true := ip_dk_138_0
theorem ip_dj_139 : (ip_cT_139.all (ip_chk 139)) = true := ip_dk_139_0
theorem ip_dj_140 : (ip_cT_140.all (ip_chk 140)) = true := ip_dk_140_0
theorem ip_dj_141 : (ip_cT_141.all (ip_chk 141)) = true := ip_dk_141_0
theorem ip_dj_142 : (ip_cT_142.all (ip_chk 142)) = true := ip_dk_142_0
theorem ip_dj_143 : (ip_cT_143.all (ip_chk 143)) = true := ip_dk_143_0
theorem ip_dj_144 : (ip_cT_144.all (ip_chk 144)) = true := ip_dk_144_0
theorem ip_dj_145 : (ip_cT_145.all (ip_chk 145)) = true := ip_dk_145_0
theorem ip_dj_146 : (ip_cT_146.all (ip_chk 146)) = true := ip_dk_146_0
theorem ip_dj_147 : (ip_cT_147.all (ip_chk 147)) = true := ip_dk_147_0
theorem ip_dj_148 : (ip_cT_148.all (ip_chk 148)) = true := by simp only [ip_cT_148, List.all_append, ip_dk_148_0, ip_dk_148_1, Bool.and_self]
theorem ip_dj_149 : (ip_cT_149.all (ip_chk 149)) = true := by simp only [ip_cT_149, List.all_append, ip_dk_149_0, ip_dk_149_1, Bool.and_self]
theorem ip_dj_150 : (ip_cT_150.all (ip_chk 150)) = true := ip_dk_150_0
theorem ip_dj_151 : (ip_cT_151.all (ip_chk 151)) = true := ip_dk_151_0
theorem ip_dj_152 : (ip_cT_152.all (ip_chk 152)) = true := ip_dk_152_0
theorem ip_dj_153 : (ip_cT_153.all (ip_chk 153)) = true := ip_dk_153_0
theorem ip_dj_154 : (ip_cT_154.all (ip_chk 154)) = true := ip_dk_154_0
theorem ip_dj_155 : (ip_cT_155.all (ip_chk 155)) = true := ip_dk_155_0
theorem ip_dj_156 : (ip_cT_156.all (ip_chk 156)) = true := ip_dk_156_0
theorem ip_dj_157 : (ip_cT_157.all (ip_chk 157)) = true := ip_dk_157_0
theorem ip_dj_158 : (ip_cT_158.all (ip_chk 158)) = true := ip_dk_158_0
theorem ip_dj_159 : (ip_cT_159.all (ip_chk 159)) = true := ip_dk_159_0
theorem ip_dj_160 : (ip_cT_160.all (ip_chk 160)) = true := ip_dk_160_0
theorem ip_dj_161 : (ip_cT_161.all (ip_chk 161)) = true := by simp only [ip_cT_161, List.all_append, ip_dk_161_0, ip_dk_161_1, ip_dk_161_2, ip_dk_161_3, Bool.and_self]
theorem ip_dj_162 : (ip_cT_162.all (ip_chk 162)) = true := by simp only [ip_cT_162, List.all_append, ip_dk_162_0, ip_dk_162_1, Bool.and_self]
theorem ip_dj_163 : (ip_cT_163.all (ip_chk 163)) = true := ip_dk_163_0
theorem ip_dj_164 : (ip_cT_164.all (ip_chk 164)) = true := ip_dk_164_0
theorem ip_dj_165 : (ip_cT_165.all (ip_chk 165)) = true := ip_dk_165_0
theorem ip_dj_166 : (ip_cT_166.all (ip_chk 166)) = true := ip_dk_166_0
theorem ip_dj_167 : (ip_cT_167.all (ip_chk 167)) = true := ip_dk_167_0
theorem ip_dj_168 : (ip_cT_168.all (ip_chk 168)) = true := ip_dk_168_0
theorem ip_dj_169 : (ip_cT_169.all (ip_chk 169)) = true := ip_dk_169_0
theorem ip_dj_170 : (ip_cT_170.all (ip_chk 170)) = true := ip_dk_170_0
theorem ip_dj_171 : (ip_cT_171.all (ip_chk 171)) = true := ip_dk_171_0
theorem ip_dj_172 : (ip_cT_172.all (ip_chk 172)) = true := ip_dk_172_0
theorem ip_dj_173 : (ip_cT_173.all (ip_chk 173)) = true := ip_dk_173_0
theorem ip_dj_174 : (ip_cT_174.all (ip_chk 174)) = true := ip_dk_174_0
theorem ip_dj_175 : (ip_cT_175.all (ip_chk 175)) = true := ip_dk_175_0
theorem ip_dj_176 : (ip_cT_176.all (ip_chk 176)) = true := ip_dk_176_0
theorem ip_dj_177 : (ip_cT_177.all (ip_chk 177)) = true := by simp only [ip_cT_177, List.all_append, ip_dk_177_0, ip_dk_177_1, Bool.and_self]
theorem ip_dj_178 : (ip_cT_178.all (ip_chk 178)) = true := by simp only [ip_cT_178, List.all_append, ip_dk_178_0, ip_dk_178_1, Bool.and_self]
theorem ip_dj_179 : (ip_cT_179.all (ip_chk 179)) = true := ip_dk_179_0
theorem ip_dj_180 : (ip_cT_180.all (ip_chk 180)) = true := ip_dk_180_0
theorem ip_dj_181 : (ip_cT_181.all (ip_chk 181)) = true := ip_dk_181_0
theorem ip_dj_182 : (ip_cT_182.all (ip_chk 182)) = true := ip_dk_182_0
theorem ip_dj_183 : (ip_cT_183.all (ip_chk 183)) = true := ip_dk_183_0
theorem ip_dj_184 : (ip_cT_184.all (ip_chk 184)) = true := ip_dk_184_0
theorem ip_dj_185 : (ip_cT_185.all (ip_chk 185)) = true := ip_dk_185_0
theorem ip_dj_186 : (ip_cT_186.all (ip_chk 186)) = true := ip_dk_186_0
theorem ip_dj_187 : (ip_cT_187.all (ip_chk 187)) = true := by simp only [ip_cT_187, List.all_append, ip_dk_187_0, ip_dk_187_1, Bool.and_self]
theorem ip_dj_188 : (ip_cT_188.all (ip_chk 188)) = true := by simp only [ip_cT_188, List.all_append, ip_dk_188_0, ip_dk_188_1, Bool.and_self]
theorem ip_dj_189 : (ip_cT_189.all (ip_chk 189)) = true := ip_dk_189_0
theorem ip_dj_190 : (ip_cT_190.all (ip_chk 190)) = true := ip_dk_190_0
theorem ip_dj_191 : (ip_cT_191.all (ip_chk 191)) = true := ip_dk_191_0
theorem ip_dj_192 : (ip_cT_192.all (ip_chk 192)) = true := ip_dk_192_0
theorem ip_dj_193 : (ip_cT_193.all (ip_chk 193)) = true := ip_dk_193_0
theorem ip_dj_194 : (ip_cT_194.all (ip_chk 194)) = true := ip_dk_194_0
theorem ip_dj_195 : (ip_cT_195.all (ip_chk 195)) = true := ip_dk_195_0
theorem ip_dj_196 : (ip_cT_196.all (ip_chk 196)) = true := ip_dk_196_0
theorem ip_dj_197 : (ip_cT_197.all (ip_chk 197)) = true := ip_dk_197_0
theorem ip_dj_198 : (ip_cT_198.all (ip_chk 198)) = true := ip_dk_198_0
theorem ip_dj_199 : (ip_cT_199.all (ip_chk 199)) = true := ip_dk_199_0
theorem ip_dj_200 : (ip_cT_200.all (ip_chk 200)) = true := by simp only [ip_cT_200, List.all_append, ip_dk_200_0, ip_dk_200_1, Bool.and_self]
theorem ip_dj_201 : (ip_cT_201.all (ip_chk 201)) = true := ip_dk_201_0
theorem ip_dj_202 : (ip_cT_202.all (ip_chk 202)) = true := by simp only [ip_cT_202, List.all_append, ip_dk_202_0, ip_dk_202_1, ip_dk_202_2, Bool.and_self]
theorem ip_dj_203 : (ip_cT_203.all (ip_chk 203)) = true := ip_dk_203_0
theorem ip_dj_204 : (ip_cT_204.all (ip_chk 204)) = true := ip_dk_204_0
theorem ip_dj_205 : (ip_cT_205.all (ip_chk 205)) = true := ip_dk_205_0
theorem ip_dj_206 : (ip_cT_206.all (ip_chk 206)) = true := ip_dk_206_0
theorem ip_dj_207 : (ip_cT_207.all (ip_chk 207)) = true := ip_dk_207_0
theorem ip_dj_208 : (ip_cT_208.all (ip_chk 208)) = true := by simp only [ip_cT_208, List.all_append, ip_dk_208_0, ip_dk_208_1, Bool.and_self]
theorem ip_dj_209 : (ip_cT_209.all (ip_chk 209)) = true := by simp only [ip_cT_209, List.all_append, ip_dk_209_0, ip_dk_209_1, Bool.and_self]
theorem ip_dj_210 : (ip_cT_210.all (ip_chk 210)) = true := ip_dk_210_0
theorem ip_dj_211 : (ip_cT_211.all (ip_chk 211)) = true := by simp only [ip_cT_211, List.all_append, ip_dk_211_0, ip_dk_211_1, Bool.and_self]
theorem ip_dj_212 : (ip_cT_212.all (ip_chk 212)) = true := by simp only [ip_cT_212, List.all_append, ip_dk_212_0, ip_dk_212_1, Bool.and_self]
theorem ip_dj_213 : (ip_cT_213.all (ip_chk 213)) = true := ip_dk_213_0
theorem ip_dj_214 : (ip_cT_214.all (ip_chk 214)) = true := by simp only [ip_cT_214, List.all_append, ip_dk_214_0, ip_dk_214_1, Bool.and_self]
theorem ip_dj_215 : (ip_cT_215.all (ip_chk 215)) = true := by simp only [ip_cT_215, List.all_append, ip_dk_215_0, ip_dk_215_1, Bool.and_self]
theorem ip_dj_216 : (ip_cT_216.all (ip_chk 216)) = true := ip_dk_216_0
theorem ip_dj_217 : (ip_cT_217.all (ip_chk 217)) = true := ip_dk_217_0
theorem ip_dj_218 : (ip_cT_218.all (ip_chk 218)) = true := by simp only [ip_cT_218, List.all_append, ip_dk_218_0, ip_dk_218_1, Bool.and_self]
theorem ip_dj_219 : (ip_cT_219.all (ip_chk 219)) = true := by simp only [ip_cT_219, List.all_append, ip_dk_219_0, ip_dk_219_1, Bool.and_self]
theorem ip_dj_220 : (ip_cT_220.all (ip_chk 220)) = true := ip_dk_220_0
theorem ip_dj_221 : (ip_cT_221.all (ip_chk 221)) = true := by simp only [ip_cT_221, List.all_append, ip_dk_221_0, ip_dk_221_1, ip_dk_221_2, Bool.and_self]
theorem ip_dj_222 : (ip_cT_222.all (ip_chk 222)) = true := by simp only [ip_cT_222, List.all_append, ip_dk_222_0, ip_dk_222_1, Bool.and_self]
theorem ip_dj_223 : (ip_cT_223.all (ip_chk 223)) = true := ip_dk_223_0
theorem ip_dj_224 : (ip_cT_224.all (ip_chk 224)) = true := by simp only [ip_cT_224, List.all_append, ip_dk_224_0, ip_dk_224_1, Bool.and_self]
theorem ip_dj_225 : (ip_cT_225.all (ip_chk 225)) = true := by simp only [ip_cT_225, List.all_append, ip_dk_225_0, ip_dk_225_1, Bool.and_self]
theorem ip_dj_226 : (ip_cT_226.all (ip_chk 226)) = true := ip_dk_226_0
theorem ip_dj_227 : (ip_cT_227.all (ip_chk 227)) = true := by simp only [ip_cT_227, List.all_append, ip_dk_227_0, ip_dk_227_1, ip_dk_227_2, Bool.and_self]
theorem ip_dj_228 : (ip_cT_228.all (ip_chk 228)) = true := by simp only [ip_cT_228, List.all_append, ip_dk_228_0, ip_dk_228_1, ip_dk_228_2, Bool.and_self]
theorem ip_dj_229 : (ip_cT_229.all (ip_chk 229)) = true := ip_dk_229_0
theorem ip_dj_230 : (ip_cT_230.all (ip_chk 230)) = true := ip_dk_230_0
theorem ip_dj_231 : (ip_cT_231.all (ip_chk 231)) = true := ip_dk_231_0
theorem ip_dj_232 : (ip_cT_232.all (ip_chk 232)) = true := ip_dk_232_0
theorem ip_dj_233 : (ip_cT_233.all (ip_chk 233)) = true := ip_dk_233_0
theorem ip_dj_234 : (ip_cT_234.all (ip_chk 234)) = true := ip_dk_234_0
theorem ip_dj_235 : (ip_cT_235.all (ip_chk 235)) = true := by simp only [ip_cT_235, List.all_append, ip_dk_235_0, ip_dk_235_1, ip_dk_235_2, Bool.and_self]
theorem ip_dj_236 : (ip_cT_236.all (ip_chk 236)) = true := ip_dk_236_0
theorem ip_dj_237 : (ip_cT_237.all (ip_chk 237)) = true := ip_dk_237_0
theorem ip_dj_238 : (ip_cT_238.all (ip_chk 238)) = true := ip_dk_238_0
theorem ip_dj_239 : (ip_cT_239.all (ip_chk 239)) = true := ip_dk_239_0
theorem ip_dj_240 : (ip_cT_240.all (ip_chk 240)) = true := ip_dk_240_0
theorem ip_dj_241 : (ip_cT_241.all (ip_chk 241)) = true := ip_dk_241_0
theorem ip_dj_242 : (ip_cT_242.all (ip_chk 242)) = true := ip_dk_242_0
theorem ip_dj_243 : (ip_cT_243.all (ip_chk 243)) = true := ip_dk_243_0
theorem ip_dj_244 : (ip_cT_244.all (ip_chk 244)) = true := ip_dk_244_0
def ip_cTz : List (Nat × List (Nat × Instr × Nat × Nat)) := [(0, ip_cT_0), (1, ip_cT_1), (2, ip_cT_2), (3, ip_cT_3), (4, ip_cT_4), (5, ip_cT_5), (6, ip_cT_6), (7, ip_cT_7), (8, ip_cT_8), (9, ip_cT_9), (10, ip_cT_10), (11, ip_cT_11), (12, ip_cT_12), (13, ip_cT_13), (14, ip_cT_14), (15, ip_cT_15), (16, ip_cT_16), (17, ip_cT_17), (18, ip_cT_18), (19, ip_cT_19), (20, ip_cT_20), (21, ip_cT_21), (22, ip_cT_22), (23, ip_cT_23), (24, ip_cT_24), (25, ip_cT_25), (26, ip_cT_26), (27, ip_cT_27), (28, ip_cT_28), (29, ip_cT_29), (30, ip_cT_30), (31, ip_cT_31), (32, ip_cT_32), (33, ip_cT_33), (34, ip_cT_34), (35, ip_cT_35), (36, ip_cT_36), (37, ip_cT_37), (38, ip_cT_38), (39, ip_cT_39), (40, ip_cT_40), (41, ip_cT_41), (42, ip_cT_42), (43, ip_cT_43), (44, ip_cT_44), (45, ip_cT_45), (46, ip_cT_46), (47, ip_cT_47), (48, ip_cT_48), (49, ip_cT_49), (50, ip_cT_50), (51, ip_cT_51), (52, ip_cT_52), (53, ip_cT_53), (54, ip_cT_54), (55, ip_cT_55), (56, ip_cT_56), (57, ip_cT_57), (58, ip_cT_58), (59, ip_cT_59), (60, ip_cT_60), (61, ip_cT_61), (62, ip_cT_62), (63, ip_cT_63), (64, ip_cT_64), (65, ip_cT_65), (66, ip_cT_66), (67, ip_cT_67), (68, ip_cT_68), (69, ip_cT_69), (70, ip_cT_70), (71, ip_cT_71), (72, ip_cT_72), (73, ip_cT_73), (74, ip_cT_74), (75, ip_cT_75), (76, ip_cT_76), (77, ip_cT_77), (78, ip_cT_78), (79, ip_cT_79), (80, ip_cT_80), (81, ip_cT_81), (82, ip_cT_82), (83, ip_cT_83), (84, ip_cT_84), (85, ip_cT_85), (86, ip_cT_86), (87, ip_cT_87), (88, ip_cT_88), (89, ip_cT_89), (90, ip_cT_90), (91, ip_cT_91), (92, ip_cT_92), (93, ip_cT_93), (94, ip_cT_94), (95, ip_cT_95), (96, ip_cT_96), (97, ip_cT_97), (98, ip_cT_98), (99, ip_cT_99), (100, ip_cT_100), (101, ip_cT_101), (102, ip_cT_102), (103, ip_cT_103), (104, ip_cT_104), (105, ip_cT_105), (106, ip_cT_106), (107, ip_cT_107), (108, ip_cT_108), (109, ip_cT_109), (110, ip_cT_110), (111, ip_cT_111), (112, ip_cT_112), (113, ip_cT_113), (114, ip_cT_114), (115, ip_cT_115), (116, ip_cT_116), (117, ip_cT_117), (118, ip_cT_118), (119, ip_cT_119), (120, ip_cT_120), (121, ip_cT_121), (122, ip_cT_122), (123, ip_cT_123), (124, ip_cT_124), (125, ip_cT_125), (126, ip_cT_126), (127, ip_cT_127), (128, ip_cT_128), (129, ip_cT_129), (130, ip_cT_130), (131, ip_cT_131), (132, ip_cT_132), (133, ip_cT_133), (134, ip_cT_134), (135, ip_cT_135), (136, ip_cT_136), (137, ip_cT_137), (138, ip_cT_138), (139, ip_cT_139), (140, ip_cT_140), (141, ip_cT_141), (142, ip_cT_142), (143, ip_cT_143), (144, ip_cT_144), (145, ip_cT_145), (146, ip_cT_146), (147, ip_cT_147), (148, ip_cT_148), (149, ip_cT_149), (150, ip_cT_150), (151, ip_cT_151), (152, ip_cT_152), (153, ip_cT_153), (154, ip_cT_154), (155, ip_cT_155), (156, ip_cT_156), (157, ip_cT_157), (158, ip_cT_158), (159, ip_cT_159), (160, ip_cT_160), (161, ip_cT_161), (162, ip_cT_162), (163, ip_cT_163), (164, ip_cT_164), (165, ip_cT_165), (166, ip_cT_166), (167, ip_cT_167), (168, ip_cT_168), (169, ip_cT_169), (170, ip_cT_170), (171, ip_cT_171), (172, ip_cT_172), (173, ip_cT_173), (174, ip_cT_174), (175, ip_cT_175), (176, ip_cT_176), (177, ip_cT_177), (178, ip_cT_178), (179, ip_cT_179), (180, ip_cT_180), (181, ip_cT_181), (182, ip_cT_182), (183, ip_cT_183), (184, ip_cT_184), (185, ip_cT_185), (186, ip_cT_186), (187, ip_cT_187), (188, ip_cT_188), (189, ip_cT_189), (190, ip_cT_190), (191, ip_cT_191), (192, ip_cT_192), (193, ip_cT_193), (194, ip_cT_194), (195, ip_cT_195), (196, ip_cT_196), (197, ip_cT_197), (198, ip_cT_198), (199, ip_cT_199), (200, ip_cT_200), (201, ip_cT_201), (202, ip_cT_202), (203, ip_cT_203), (204, ip_cT_204), (205, ip_cT_205), (206, ip_cT_206), (207, ip_cT_207), (208, ip_cT_208), (209, ip_cT_209), (210, ip_cT_210), (211, ip_cT_211), (212, ip_cT_212), (213, ip_cT_213), (214, ip_cT_214), (215, ip_cT_215), (216, ip_cT_216), (217, ip_cT_217), (218, ip_cT_218), (219, ip_cT_219), (220, ip_cT_220), (221, ip_cT_221), (222, ip_cT_222), (223, ip_cT_223), (224, ip_cT_224), (225, ip_cT_225), (226, ip_cT_226), (227, ip_cT_227), (228, ip_cT_228), (229, ip_cT_229), (230, ip_cT_230), (231, ip_cT_231), (232, ip_cT_232), (233, ip_cT_233), (234, ip_cT_234), (235, ip_cT_235), (236, ip_cT_236), (237, ip_cT_237), (238, ip_cT_238), (239, ip_cT_239), (240, ip_cT_240), (241, ip_cT_241), (242, ip_cT_242), (243, ip_cT_243), (244, ip_cT_244)]
def ip_cTz_0 : List (Nat × List (Nat × Instr × Nat × Nat)) := [(0, ip_cT_0), (1, ip_cT_1), (2, ip_cT_2), (3, ip_cT_3), (4, ip_cT_4), (5, ip_cT_5), (6, ip_cT_6), (7, ip_cT_7), (8, ip_cT_8), (9, ip_cT_9), (10, ip_cT_10), (11, ip_cT_11), (12, ip_cT_12), (13, ip_cT_13), (14, ip_cT_14), (15, ip_cT_15)]
theorem ip_dz_0 : ∀ q ∈ ip_cTz_0, (q.2.all (ip_chk q.1)) = true := List.forall_mem_cons.mpr ⟨ip_dj_0, List.forall_mem_cons.mpr ⟨ip_dj_1, List.forall_mem_cons.mpr ⟨ip_dj_2, List.forall_mem_cons.mpr ⟨ip_dj_3, List.forall_mem_cons.mpr ⟨ip_dj_4, List.forall_mem_cons.mpr ⟨ip_dj_5, List.forall_mem_cons.mpr ⟨ip_dj_6, List.forall_mem_cons.mpr ⟨ip_dj_7, List.forall_mem_cons.mpr ⟨ip_dj_8, List.forall_mem_cons.mpr ⟨ip_dj_9, List.forall_mem_cons.mpr ⟨ip_dj_10, List.forall_mem_cons.mpr ⟨ip_dj_11, List.forall_mem_cons.mpr ⟨ip_dj_12, List.forall_mem_cons.mpr ⟨ip_dj_13, List.forall_mem_cons.mpr ⟨ip_dj_14, List.forall_mem_cons.mpr ⟨ip_dj_15, fun _ h => absurd h List.not_mem_nil⟩⟩⟩⟩⟩⟩⟩⟩⟩⟩⟩⟩⟩⟩⟩⟩
def ip_cTz_16 : List (Nat × List (Nat × Instr × Nat × Nat)) := [(16, ip_cT_16), (17, ip_cT_17), (18, ip_cT_18), (19, ip_cT_19), (20, ip_cT_20), (21, ip_cT_21), (22, ip_cT_22), (23, ip_cT_23), (24, ip_cT_24), (25, ip_cT_25), (26, ip_cT_26), (27, ip_cT_27), (28, ip_cT_28), (29, ip_cT_29), (30, ip_cT_30), (31, ip_cT_31)]
theorem ip_dz_16 : ∀ q ∈ ip_cTz_16, (q.2.all (ip_chk q.1)) = true := List.forall_mem_cons.mpr ⟨ip_dj_16, List.forall_mem_cons.mpr ⟨ip_dj_17, List.forall_mem_cons.mpr ⟨ip_dj_18, List.forall_mem_cons.mpr ⟨ip_dj_19, List.forall_mem_cons.mpr ⟨ip_dj_20, List.forall_mem_cons.mpr ⟨ip_dj_21, List.forall_mem_cons.mpr ⟨ip_dj_22, List.forall_mem_cons.mpr ⟨ip_dj_23, List.forall_mem_cons.mpr ⟨ip_dj_24, List.forall_mem_cons.mpr ⟨ip_dj_25, List.forall_mem_cons.mpr ⟨ip_dj_26, List.forall_mem_cons.mpr ⟨ip_dj_27, List.forall_mem_cons.mpr ⟨ip_dj_28, List.forall_mem_cons.mpr ⟨ip_dj_29, List.forall_mem_cons.mpr ⟨ip_dj_30, List.forall_mem_cons.mpr ⟨ip_dj_31, fun _ h => absurd h List.not_mem_nil⟩⟩⟩⟩⟩⟩⟩⟩⟩⟩⟩⟩⟩⟩⟩⟩
def ip_cTz_32 : List (Nat × List (Nat × Instr × Nat × Nat)) := [(32, ip_cT_32), (33, ip_cT_33), (34, ip_cT_34), (35, ip_cT_35), (36, ip_cT_36), (37, ip_cT_37), (38, ip_cT_38), (39, ip_cT_39), (40, ip_cT_40), (41, ip_cT_41), (42, ip_cT_42), (43, ip_cT_43), (44, ip_cT_44), (45, ip_cT_45), (46, ip_cT_46), (47, ip_cT_47)]
theorem ip_dz_32 : ∀ q ∈ ip_cTz_32, (q.2.all (ip_chk q.1)) = true := List.forall_mem_cons.mpr ⟨ip_dj_32, List.forall_mem_cons.mpr ⟨ip_dj_33, List.forall_mem_cons.mpr ⟨ip_dj_34, List.forall_mem_cons.mpr ⟨ip_dj_35, List.forall_mem_cons.mpr ⟨ip_dj_36, List.forall_mem_cons.mpr ⟨ip_dj_37, List.forall_mem_cons.mpr ⟨ip_dj_38, List.forall_mem_cons.mpr ⟨ip_dj_39, List.forall_mem_cons.mpr ⟨ip_dj_40, List.forall_mem_cons.mpr ⟨ip_dj_41, List.forall_mem_cons.mpr ⟨ip_dj_42, List.forall_mem_cons.mpr ⟨ip_dj_43, List.forall_mem_cons.mpr ⟨ip_dj_44, List.forall_mem_cons.mpr ⟨ip_dj_45, List.forall_mem_cons.mpr ⟨ip_dj_46, List.forall_mem_cons.mpr ⟨ip_dj_47, fun _ h => absurd h List.not_mem_nil⟩⟩⟩⟩⟩⟩⟩⟩⟩⟩⟩⟩⟩⟩⟩⟩
def ip_cTz_48 : List (Nat × List (Nat × Instr × Nat × Nat)) := [(48, ip_cT_48), (49, ip_cT_49), (50, ip_cT_50), (51, ip_cT_51), (52, ip_cT_52), (53, ip_cT_53), (54, ip_cT_54), (55, ip_cT_55), (56, ip_cT_56), (57, ip_cT_57), (58, ip_cT_58), (59, ip_cT_59), (60, ip_cT_60), (61, ip_cT_61), (62, ip_cT_62), (63, ip_cT_63)]
theorem ip_dz_48 : ∀ q ∈ ip_cTz_48, (q.2.all (ip_chk q.1)) = true := List.forall_mem_cons.mpr ⟨ip_dj_48, List.forall_mem_cons.mpr ⟨ip_dj_49, List.forall_mem_cons.mpr ⟨ip_dj_50, List.forall_mem_cons.mpr ⟨ip_dj_51, List.forall_mem_cons.mpr ⟨ip_dj_52, List.forall_mem_cons.mpr ⟨ip_dj_53, List.forall_mem_cons.mpr ⟨ip_dj_54, List.forall_mem_cons.mpr ⟨ip_dj_55, List.forall_mem_cons.mpr ⟨ip_dj_56, List.forall_mem_cons.mpr ⟨ip_dj_57, List.forall_mem_cons.mpr ⟨ip_dj_58, List.forall_mem_cons.mpr ⟨ip_dj_59, List.forall_mem_cons.mpr ⟨ip_dj_60, List.forall_mem_cons.mpr ⟨ip_dj_61, List.forall_mem_cons.mpr ⟨ip_dj_62, List.forall_mem_cons.mpr ⟨ip_dj_63, fun _ h => absurd h List.not_mem_nil⟩⟩⟩⟩⟩⟩⟩⟩⟩⟩⟩⟩⟩⟩⟩⟩
def ip_cTz_64 : List (Nat × List (Nat × Instr × Nat × Nat)) := [(64, ip_cT_64), (65, ip_cT_65), (66, ip_cT_66), (67, ip_cT_67), (68, ip_cT_68), (69, ip_cT_69), (70, ip_cT_70), (71, ip_cT_71), (72, ip_cT_72), (73, ip_cT_73), (74, ip_cT_74), (75, ip_cT_75), (76, ip_cT_76), (77, ip_cT_77), (78, ip_cT_78), (79, ip_cT_79)]
theorem ip_dz_64 : ∀ q ∈ ip_cTz_64, (q.2.all (ip_chk q.1)) = true := List.forall_mem_cons.mpr ⟨ip_dj_64, List.forall_mem_cons.mpr ⟨ip_dj_65, List.forall_mem_cons.mpr ⟨ip_dj_66, List.forall_mem_cons.mpr ⟨ip_dj_67, List.forall_mem_cons.mpr ⟨ip_dj_68, List.forall_mem_cons.mpr ⟨ip_dj_69, List.forall_mem_cons.mpr ⟨ip_dj_70, List.forall_mem_cons.mpr ⟨ip_dj_71, List.forall_mem_cons.mpr ⟨ip_dj_72, List.forall_mem_cons.mpr ⟨ip_dj_73, List.forall_mem_cons.mpr ⟨ip_dj_74, List.forall_mem_cons.mpr ⟨ip_dj_75, List.forall_mem_cons.mpr ⟨ip_dj_76, List.forall_mem_cons.mpr ⟨ip_dj_77, List.forall_mem_cons.mpr ⟨ip_dj_78, List.forall_mem_cons.mpr ⟨ip_dj_79, fun _ h => absurd h List.not_mem_nil⟩⟩⟩⟩⟩⟩⟩⟩⟩⟩⟩⟩⟩⟩⟩⟩
def ip_cTz_80 : List (Nat × List (Nat × Instr × Nat × Nat)) := [(80, ip_cT_80), (81, ip_cT_81), (82, ip_cT_82), (83, ip_cT_83), (84, ip_cT_84), (85, ip_cT_85), (86, ip_cT_86), (87, ip_cT_87), (88, ip_cT_88), (89, ip_cT_89), (90, ip_cT_90), (91, ip_cT_91), (92, ip_cT_92), (93, ip_cT_93), (94, ip_cT_94), (95, ip_cT_95)]
theorem ip_dz_80 : ∀ q ∈ ip_cTz_80, (q.2.all (ip_chk q.1)) = true := List.forall_mem_cons.mpr ⟨ip_dj_80, List.forall_mem_cons.mpr ⟨ip_dj_81, List.forall_mem_cons.mpr ⟨ip_dj_82, List.forall_mem_cons.mpr ⟨ip_dj_83, List.forall_mem_cons.mpr ⟨ip_dj_84, List.forall_mem_cons.mpr ⟨ip_dj_85, List.forall_mem_cons.mpr ⟨ip_dj_86, List.forall_mem_cons.mpr ⟨ip_dj_87, List.forall_mem_cons.mpr ⟨ip_dj_88, List.forall_mem_cons.mpr ⟨ip_dj_89, List.forall_mem_cons.mpr ⟨ip_dj_90, List.forall_mem_cons.mpr ⟨ip_dj_91, List.forall_mem_cons.mpr ⟨ip_dj_92, List.forall_mem_cons.mpr ⟨ip_dj_93, List.forall_mem_cons.mpr ⟨ip_dj_94, List.forall_mem_cons.mpr ⟨ip_dj_95, fun _ h => absurd h List.not_mem_nil⟩⟩⟩⟩⟩⟩⟩⟩⟩⟩⟩⟩⟩⟩⟩⟩
def ip_cTz_96 : List (Nat × List (Nat × Instr × Nat × Nat)) := [(96, ip_cT_96), (97, ip_cT_97), (98, ip_cT_98), (99, ip_cT_99), (100, ip_cT_100), (101, ip_cT_101), (102, ip_cT_102), (103, ip_cT_103), (104, ip_cT_104), (105, ip_cT_105), (106, ip_cT_106), (107, ip_cT_107), (108, ip_cT_108), (109, ip_cT_109), (110, ip_cT_110), (111, ip_cT_111)]
theorem ip_dz_96 : ∀ q ∈ ip_cTz_96, (q.2.all (ip_chk q.1)) = true := List.forall_mem_cons.mpr ⟨ip_dj_96, List.forall_mem_cons.mpr ⟨ip_dj_97, List.forall_mem_cons.mpr ⟨ip_dj_98, List.forall_mem_cons.mpr ⟨ip_dj_99, List.forall_mem_cons.mpr ⟨ip_dj_100, List.forall_mem_cons.mpr ⟨ip_dj_101, List.forall_mem_cons.mpr ⟨ip_dj_102, List.forall_mem_cons.mpr ⟨ip_dj_103, List.forall_mem_cons.mpr ⟨ip_dj_104, List.forall_mem_cons.mpr ⟨ip_dj_105, List.forall_mem_cons.mpr ⟨ip_dj_106, List.forall_mem_cons.mpr ⟨ip_dj_107, List.forall_mem_cons.mpr ⟨ip_dj_108, List.forall_mem_cons.mpr ⟨ip_dj_109, List.forall_mem_cons.mpr ⟨ip_dj_110, List.forall_mem_cons.mpr ⟨ip_dj_111, fun _ h => absurd h List.not_mem_nil⟩⟩⟩⟩⟩⟩⟩⟩⟩⟩⟩⟩⟩⟩⟩⟩
def ip_cTz_112 : List (Nat × List (Nat × Instr × Nat × Nat)) := [(112, ip_cT_112), (113, ip_cT_113), (114, ip_cT_114), (115, ip_cT_115), (116, ip_cT_116), (117, ip_cT_117), (118, ip_cT_118), (119, ip_cT_119), (120, ip_cT_120), (121, ip_cT_121), (122, ip_cT_122), (123, ip_cT_123), (124, ip_cT_124), (125, ip_cT_125), (126, ip_cT_126), (127, ip_cT_127)]
theorem ip_dz_112 : ∀ q ∈ ip_cTz_112, (q.2.all (ip_chk q.1)) = true := List.forall_mem_cons.mpr ⟨ip_dj_112, List.forall_mem_cons.mpr ⟨ip_dj_113, List.forall_mem_cons.mpr ⟨ip_dj_114, List.forall_mem_cons.mpr ⟨ip_dj_115, List.forall_mem_cons.mpr ⟨ip_dj_116, List.forall_mem_cons.mpr ⟨ip_dj_117, List.forall_mem_cons.mpr ⟨ip_dj_118, List.forall_mem_cons.mpr ⟨ip_dj_119, List.forall_mem_cons.mpr ⟨ip_dj_120, List.forall_mem_cons.mpr ⟨ip_dj_121, List.forall_mem_cons.mpr ⟨ip_dj_122, List.forall_mem_cons.mpr ⟨ip_dj_123, List.forall_mem_cons.mpr ⟨ip_dj_124, List.forall_mem_cons.mpr ⟨ip_dj_125, List.forall_mem_cons.mpr ⟨ip_dj_126, List.forall_mem_cons.mpr ⟨ip_dj_127, fun _ h => absurd h List.not_mem_nil⟩⟩⟩⟩⟩⟩⟩⟩⟩⟩⟩⟩⟩⟩⟩⟩
def ip_cTz_128 : List (Nat × List (Nat × Instr × Nat × Nat)) := [(128, ip_cT_128), (129, ip_cT_129), (130, ip_cT_130), (131, ip_cT_131), (132, ip_cT_132), (133, ip_cT_133), (134, ip_cT_134), (135, ip_cT_135), (136, ip_cT_136), (137, ip_cT_137), (138, ip_cT_138), (139, ip_cT_139), (140, ip_cT_140), (141, ip_cT_141), (142, ip_cT_142), (143, ip_cT_143)]
theorem ip_dz_128 : ∀ q ∈ ip_cTz_128, (q.2.all (ip_chk q.1)) = true := List.forall_mem_cons.mpr ⟨ip_dj_128, List.forall_mem_cons.mpr ⟨ip_dj_129, List.forall_mem_cons.mpr ⟨ip_dj_130, List.forall_mem_cons.mpr ⟨ip_dj_131, List.forall_mem_cons.mpr ⟨ip_dj_132, List.forall_mem_cons.mpr ⟨ip_dj_133, List.forall_mem_cons.mpr ⟨ip_dj_134, List.forall_mem_cons.mpr ⟨ip_dj_135, List.forall_mem_cons.mpr ⟨ip_dj_136, List.forall_mem_cons.mpr ⟨ip_dj_137, List.forall_mem_cons.mpr ⟨ip_dj_138, List.forall_mem_cons.mpr ⟨ip_dj_139, List.forall_mem_cons.mpr ⟨ip_dj_140, List.forall_mem_cons.mpr ⟨ip_dj_141, List.forall_mem_cons.mpr ⟨ip_dj_142, List.forall_mem_cons.mpr ⟨ip_dj_143, fun _ h => absurd h List.not_mem_nil⟩⟩⟩⟩⟩⟩⟩⟩⟩⟩⟩⟩⟩⟩⟩⟩
def ip_cTz_144 : List (Nat × List (Nat × Instr × Nat × Nat)) := [(144, ip_cT_144), (145, ip_cT_145), (146, ip_cT_146), (147, ip_cT_147), (148, ip_cT_148), (149, ip_cT_149), (150, ip_cT_150), (151, ip_cT_151), (152, ip_cT_152), (153, ip_cT_153), (154, ip_cT_154), (155, ip_cT_155), (156, ip_cT_156), (157, ip_cT_157), (158, ip_cT_158), (159, ip_cT_159)]
theorem ip_dz_144 : ∀ q ∈ ip_cTz_144, (q.2.all (ip_chk q.1)) = true := List.forall_mem_cons.mpr ⟨ip_dj_144, List.forall_mem_cons.mpr ⟨ip_dj_145, List.forall_mem_cons.mpr ⟨ip_dj_146, List.forall_mem_cons.mpr ⟨ip_dj_147, List.forall_mem_cons.mpr ⟨ip_dj_148, List.forall_mem_cons.mpr ⟨ip_dj_149, List.forall_mem_cons.mpr ⟨ip_dj_150, List.forall_mem_cons.mpr ⟨ip_dj_151, List.forall_mem_cons.mpr ⟨ip_dj_152, List.forall_mem_cons.mpr ⟨ip_dj_153, List.forall_mem_cons.mpr ⟨ip_dj_154, List.forall_mem_cons.mpr ⟨ip_dj_155, List.forall_mem_cons.mpr ⟨ip_dj_156, List.forall_mem_cons.mpr ⟨ip_dj_157, List.forall_mem_cons.mpr ⟨ip_dj_158, List.forall_mem_cons.mpr ⟨ip_dj_159, fun _ h => absurd h List.not_mem_nil⟩⟩⟩⟩⟩⟩⟩⟩⟩⟩⟩⟩⟩⟩⟩⟩
def ip_cTz_160 : List (Nat × List (Nat × Instr × Nat × Nat)) := [(160, ip_cT_160), (161, ip_cT_161), (162, ip_cT_162), (163, ip_cT_163), (164, ip_cT_164), (165, ip_cT_165), (166, ip_cT_166), (167, ip_cT_167), (168, ip_cT_168), (169, ip_cT_169), (170, ip_cT_170), (171, ip_cT_171), (172, ip_cT_172), (173, ip_cT_173), (174, ip_cT_174), (175, ip_cT_175)]
theorem ip_dz_160 : ∀ q ∈ ip_cTz_160, (q.2.all (ip_chk q.1)) = true := List.forall_mem_cons.mpr ⟨ip_dj_160, List.forall_mem_cons.mpr ⟨ip_dj_161, List.forall_mem_cons.mpr ⟨ip_dj_162, List.forall_mem_cons.mpr ⟨ip_dj_163, List.forall_mem_cons.mpr ⟨ip_dj_164, List.forall_mem_cons.mpr ⟨ip_dj_165, List.forall_mem_cons.mpr ⟨ip_dj_166, List.forall_mem_cons.mpr ⟨ip_dj_167, List.forall_mem_cons.mpr ⟨ip_dj_168, List.forall_mem_cons.mpr ⟨ip_dj_169, List.forall_mem_cons.mpr ⟨ip_dj_170, List.forall_mem_cons.mpr ⟨ip_dj_171, List.forall_mem_cons.mpr ⟨ip_dj_172, List.forall_mem_cons.mpr ⟨ip_dj_173, List.forall_mem_cons.mpr ⟨ip_dj_174, List.forall_mem_cons.mpr ⟨ip_dj_175, fun _ h => absurd h List.not_mem_nil⟩⟩⟩⟩⟩⟩⟩⟩⟩⟩⟩⟩⟩⟩⟩⟩
def ip_cTz_176 : List (Nat × List (Nat × Instr × Nat × Nat)) := [(176, ip_cT_176), (177, ip_cT_177), (178, ip_cT_178), (179, ip_cT_179), (180, ip_cT_180), (181, ip_cT_181), (182, ip_cT_182), (183, ip_cT_183), (184, ip_cT_184), (185, ip_cT_185), (186, ip_cT_186), (187, ip_cT_187), (188, ip_cT_188), (189, ip_cT_189), (190, ip_cT_190), (191, ip_cT_191)]
theorem ip_dz_176 : ∀ q ∈ ip_cTz_176, (q.2.all (ip_chk q.1)) = true := List.forall_mem_cons.mpr ⟨ip_dj_176, List.forall_mem_cons.mpr ⟨ip_dj_177, List.forall_mem_cons.mpr ⟨ip_dj_178, List.forall_mem_cons.mpr ⟨ip_dj_179, List.forall_mem_cons.mpr ⟨ip_dj_180, List.forall_mem_cons.mpr ⟨ip_dj_181, List.forall_mem_cons.mpr ⟨ip_dj_182, List.forall_mem_cons.mpr ⟨ip_dj_183, List.forall_mem_cons.mpr ⟨ip_dj_184, List.forall_mem_cons.mpr ⟨ip_dj_185, List.forall_mem_cons.mpr ⟨ip_dj_186, List.forall_mem_cons.mpr ⟨ip_dj_187, List.forall_mem_cons.mpr ⟨ip_dj_188, List.forall_mem_cons.mpr ⟨ip_dj_189, List.forall_mem_cons.mpr ⟨ip_dj_190, List.forall_mem_cons.mpr ⟨ip_dj_191, fun _ h => absurd h List.not_mem_nil⟩⟩⟩⟩⟩⟩⟩⟩⟩⟩⟩⟩⟩⟩⟩⟩
def ip_cTz_192 : List (Nat × List (Nat × Instr × Nat × Nat)) := [(192, ip_cT_192), (193, ip_cT_193), (194, ip_cT_194), (195, ip_cT_195), (196, ip_cT_196), (197, ip_cT_197), (198, ip_cT_198), (199, ip_cT_199), (200, ip_cT_200), (201, ip_cT_201), (202, ip_cT_202), (203, ip_cT_203), (204, ip_cT_204), (205, ip_cT_205), (206, ip_cT_206), (207, ip_cT_207)]
theorem ip_dz_192 : ∀ q ∈ ip_cTz_192, (q.2.all (ip_chk q.1)) = true := List.forall_mem_cons.mpr ⟨ip_dj_192, List.forall_mem_cons.mpr ⟨ip_dj_193, List.forall_mem_cons.mpr ⟨ip_dj_194, List.forall_mem_cons.mpr ⟨ip_dj_195, List.forall_mem_cons.mpr ⟨ip_dj_196, List.forall_mem_cons.mpr ⟨ip_dj_197, List.forall_mem_cons.mpr ⟨ip_dj_198, List.forall_mem_cons.mpr ⟨ip_dj_199, List.forall_mem_cons.mpr ⟨ip_dj_200, List.forall_mem_cons.mpr ⟨ip_dj_201, List.forall_mem_cons.mpr ⟨ip_dj_202, List.forall_mem_cons.mpr ⟨ip_dj_203, List.forall_mem_cons.mpr ⟨ip_dj_204, List.forall_mem_cons.mpr ⟨ip_dj_205, List.forall_mem_cons.mpr ⟨ip_dj_206, List.forall_mem_cons.mpr ⟨ip_dj_207, fun _ h => absurd h List.not_mem_nil⟩⟩⟩⟩⟩⟩⟩⟩⟩⟩⟩⟩⟩⟩⟩⟩
def ip_cTz_208 : List (Nat × List (Nat × Instr × Nat × Nat)) := [(208, ip_cT_208), (209, ip_cT_209), (210, ip_cT_210), (211, ip_cT_211), (212, ip_cT_212), (213, ip_cT_213), (214, ip_cT_214), (215, ip_cT_215), (216, ip_cT_216), (217, ip_cT_217), (218, ip_cT_218), (219, ip_cT_219), (220, ip_cT_220), (221, ip_cT_221), (222, ip_cT_222), (223, ip_cT_223)]
theorem ip_dz_208 : ∀ q ∈ ip_cTz_208, (q.2.all (ip_chk q.1)) = true := List.forall_mem_cons.mpr ⟨ip_dj_208, List.forall_mem_cons.mpr ⟨ip_dj_209, List.forall_mem_cons.mpr ⟨ip_dj_210, List.forall_mem_cons.mpr ⟨ip_dj_211, List.forall_mem_cons.mpr ⟨ip_dj_212, List.forall_mem_cons.mpr ⟨ip_dj_213, List.forall_mem_cons.mpr ⟨ip_dj_214, List.forall_mem_cons.mpr ⟨ip_dj_215, List.forall_mem_cons.mpr ⟨ip_dj_216, List.forall_mem_cons.mpr ⟨ip_dj_217, List.forall_mem_cons.mpr ⟨ip_dj_218, List.forall_mem_cons.mpr ⟨ip_dj_219, List.forall_mem_cons.mpr ⟨ip_dj_220, List.forall_mem_cons.mpr ⟨ip_dj_221, List.forall_mem_cons.mpr ⟨ip_dj_222, List.forall_mem_cons.mpr ⟨ip_dj_223, fun _ h => absurd h List.not_mem_nil⟩⟩⟩⟩⟩⟩⟩⟩⟩⟩⟩⟩⟩⟩⟩⟩
def ip_cTz_224 : List (Nat × List (Nat × Instr × Nat × Nat)) := [(224, ip_cT_224), (225, ip_cT_225), (226, ip_cT_226), (227, ip_cT_227), (228, ip_cT_228), (229, ip_cT_229), (230, ip_cT_230), (231, ip_cT_231), (232, ip_cT_232), (233, ip_cT_233), (234, ip_cT_234), (235, ip_cT_235), (236, ip_cT_236), (237, ip_cT_237), (238, ip_cT_238), (239, ip_cT_239)]
theorem ip_dz_224 : ∀ q ∈ ip_cTz_224, (q.2.all (ip_chk q.1)) = true := List.forall_mem_cons.mpr ⟨ip_dj_224, List.forall_mem_cons.mpr ⟨ip_dj_225, List.forall_mem_cons.mpr ⟨ip_dj_226, List.forall_mem_cons.mpr ⟨ip_dj_227, List.forall_mem_cons.mpr ⟨ip_dj_228, List.forall_mem_cons.mpr ⟨ip_dj_229, List.forall_mem_cons.mpr ⟨ip_dj_230, List.forall_mem_cons.mpr ⟨ip_dj_231, List.forall_mem_cons.mpr ⟨ip_dj_232, List.forall_mem_cons.mpr ⟨ip_dj_233, List.forall_mem_cons.mpr ⟨ip_dj_234, List.forall_mem_cons.mpr ⟨ip_dj_235, List.forall_mem_cons.mpr ⟨ip_dj_236, List.forall_mem_cons.mpr ⟨ip_dj_237, List.forall_mem_cons.mpr ⟨ip_dj_238, List.forall_mem_cons.mpr ⟨ip_dj_239, fun _ h => absurd h List.not_mem_nil⟩⟩⟩⟩⟩⟩⟩⟩⟩⟩⟩⟩⟩⟩⟩⟩
def ip_cTz_240 : List (Nat × List (Nat × Instr × Nat × Nat)) := [(240, ip_cT_240), (241, ip_cT_241), (242, ip_cT_242), (243, ip_cT_243), (244, ip_cT_244)]
theorem ip_dz_240 : ∀ q ∈ ip_cTz_240, (q.2.all (ip_chk q.1)) = true := List.forall_mem_cons.mpr ⟨ip_dj_240, List.forall_mem_cons.mpr ⟨ip_dj_241, List.forall_mem_cons.mpr ⟨ip_dj_242, List.forall_mem_cons.mpr ⟨ip_dj_243, List.forall_mem_cons.mpr ⟨ip_dj_244, fun _ h => absurd h List.not_mem_nil⟩⟩⟩⟩⟩
set_option maxRecDepth 100000 in
theorem ip_cTz_eq : ip_cTz = ip_cTz_0 ++ ip_cTz_16 ++ ip_cTz_32 ++ ip_cTz_48 ++ ip_cTz_64 ++ ip_cTz_80 ++ ip_cTz_96 ++ ip_cTz_112 ++ ip_cTz_128 ++ ip_cTz_144 ++ ip_cTz_160 ++ ip_cTz_176 ++ ip_cTz_192 ++ ip_cTz_208 ++ ip_cTz_224 ++ ip_cTz_240 := rfl
theorem ip_dz : ∀ q ∈ ip_cTz, (q.2.all (ip_chk q.1)) = true := by
  intro q hq
  rw [ip_cTz_eq] at hq
  simp only [List.mem_append] at hq
  rcases hq with (((((((((((((((h | h) | h) | h) | h) | h) | h) | h) | h) | h) | h) | h) | h) | h) | h) | h)
  · exact ip_dz_0 q h
  · exact ip_dz_16 q h
  · exact ip_dz_32 q h
  · exact ip_dz_48 q h
  · exact ip_dz_64 q h
  · exact ip_dz_80 q h
  · exact ip_dz_96 q h
  · exact ip_dz_112 q h
  · exact ip_dz_128 q h
  · exact ip_dz_144 q h
  · exact ip_dz_160 q h
  · exact ip_dz_176 q h
  · exact ip_dz_192 q h
  · exact ip_dz_208 q h
  · exact ip_dz_224 q h
  · exact ip_dz_240 q h
set_option maxRecDepth 100000 in
theorem ip_cT_z : ip_cT.zipIdx = ip_cTz.map (fun q => (q.2, q.1)) := rfl
end
section
/-! ===== the machine does what the interpreter says: lists, worlds, locals ===== -/
theorem sd_lookup {β : Type} : ∀ (l : List (Nat × β)) (k : Nat) (b : β), l.lookup k = some b → (k, b) ∈ l
  | [], k, b, h => by simp at h
  | (a, c) :: l, k, b, h => by
    by_cases e : k = a
    · subst e
      simp at h
      subst h
      exact List.mem_cons_self
    · have e2 : (k == a) = false := by simpa using e
      simp [List.lookup_cons, e2] at h
      exact List.mem_cons_of_mem _ (sd_lookup l k b h)
theorem sd_row {j pc : Nat} {q : Instr × Nat × Nat} (h : ip_fetch j pc = some q) : ip_chk j (pc, q.1, q.2.1, q.2.2) = true := by
  unfold ip_fetch at h
  rw [List.getD_eq_getElem?_getD] at h
  cases hl : ip_cT[j]? with
  | none =>
    rw [hl] at h
    cases h
  | some l =>
    rw [hl] at h
    have hm : (l, j) ∈ ip_cT.zipIdx := List.mem_zipIdx_iff_getElem?.mpr hl
    rw [ip_cT_z] at hm
    obtain ⟨q', hq', e⟩ := List.mem_map.mp hm
    cases q'
    cases e
    exact List.all_eq_true.mp (ip_dz _ hq') _ (sd_lookup _ pc q h)
theorem sd_dec {j pc : Nat} {q : Instr × Nat × Nat} (h : ip_fetch j pc = some q) : decode (ip_mB j).2.1 pc = .ok (q.1, q.2.1) ∧ (ip_isw q.1 = true ∨ q.2.1 = ip_ln q.1) ∧ ip_lk j pc q.2.2 q.1 = true := by
  have h1 := sd_row h
  simp only [ip_chk, Bool.and_eq_true, Bool.or_eq_true, decide_eq_true_eq] at h1
  exact ⟨h1.1.1, h1.1.2, h1.2⟩
def sd_v (ad : Nat → Nat) (vz : Value) : Value → Value
  | .ref a => if a = ip_EX + 50 then vz else .ref (ad a)
  | v => v
def sd_fv (ad : Nat → Nat) (F : ip_F) (G : ip_G) (k f : Nat) : Nat → Value
  | 0 => .int (F k f)
  | 1 => .long (G k f)
  | 2 => .null
  | d + 3 => .ref (ad d)
def sd_ro (ad : Nat → Nat) : Nat → Option Nat
  | 0 => none
  | d + 1 => some (ad d)
def sd_rw (ad : Nat → Nat) (l : List Nat) (i : Nat) : Option Nat := (l[i]?).bind (sd_ro ad)
def sd_e (ad : Nat → Nat) (dA : Nat → ClassId) (F : ip_F) (G : ip_G) (k : Nat) : ip_Sh → va_E
  | (1, t, n :: _) => .inl (dA t, n, .inl (F k))
  | (2, t, l) => .inl (dA t, l.length, .inr (.inr (.inr (.inr (sd_rw ad l)))))
  | (3, ci, l) => .inr (ci, l.mapIdx (fun f d => sd_fv ad F G k f d))
  | _ => .inr (99, [])
def sd_w (ad : Nat → Nat) (dA : Nat → ClassId) (M : ip_M) : va_W := M.1.mapIdx fun k q => (ad k, sd_e ad dA M.2.1 M.2.2 k q)
theorem sd_wk (ad : Nat → Nat) (dA : Nat → ClassId) (M : ip_M) (k : Nat) : (sd_w ad dA M)[k]? = (M.1[k]?).map fun q => (ad k, sd_e ad dA M.2.1 M.2.2 k q) := by
  simp [sd_w, List.getElem?_mapIdx]
theorem sd_wk' {ad : Nat → Nat} {dA : Nat → ClassId} {M : ip_M} {k : Nat} {q : ip_Sh} (h : M.1[k]? = some q) : (sd_w ad dA M)[k]? = some (ad k, sd_e ad dA M.2.1 M.2.2 k q) := by
  rw [sd_wk, h]; rfl
theorem sd_fv_congr {ad : Nat → Nat} {F F' : ip_F} {G G' : ip_G} {k : Nat} (hF : F' k = F k) (hG : G' k = G k) (f d : Nat) : sd_fv ad F' G' k f d = sd_fv ad F G k f d := by
  match d with
  | 0 => simp [sd_fv, hF]
  | 1 => simp [sd_fv, hG]
  | 2 => rfl
  | d + 3 => rfl
theorem sd_e_congr {ad : Nat → Nat} {dA : Nat → ClassId} {F F' : ip_F} {G G' : ip_G} {k : Nat} (hF : F' k = F k) (hG : G' k = G k) (q : ip_Sh) : sd_e ad dA F' G' k q = sd_e ad dA F G k q := by
  have h1 : (fun f d => sd_fv ad F' G' k f d) = (fun f d => sd_fv ad F G k f d) := funext fun f => funext fun d => sd_fv_congr hF hG f d
  obtain ⟨t, a, l⟩ := q
  unfold sd_e
  split <;> simp_all
theorem sd_set {ad : Nat → Nat} {dA : Nat → ClassId} {M : ip_M} {k : Nat} {q0 q' : ip_Sh} {F' : ip_F} {G' : ip_G} (h : M.1[k]? = some q0) (hF : ∀ a, a ≠ k → F' a = M.2.1 a) (hG : ∀ a, a ≠ k → G' a = M.2.2 a) :
    sd_w ad dA (M.1.set k q', F', G') = (sd_w ad dA M).set k (ad k, sd_e ad dA F' G' k q') := by
  have hl : k < M.1.length := (List.getElem?_eq_some_iff.mp h).1
  have hl2 : k < (sd_w ad dA M).length := by simpa [sd_w] using hl
  apply List.ext_getElem?
  intro i
  by_cases hi : i = k
  · subst hi
    have e2 : ((sd_w ad dA M).set i (ad i, sd_e ad dA F' G' i q'))[i]? = some (ad i, sd_e ad dA F' G' i q') := List.getElem?_set_self hl2
    rw [e2, sd_wk]
    have e1 : (M.1.set i q')[i]? = some q' := List.getElem?_set_self hl
    simp only [e1, Option.map_some]
  · have e2 : ((sd_w ad dA M).set k (ad k, sd_e ad dA F' G' k q'))[i]? = (sd_w ad dA M)[i]? := List.getElem?_set_ne (Ne.symm hi)
    rw [e2, sd_wk, sd_wk]
    have e1 : (M.1.set k q')[i]? = M.1[i]? := List.getElem?_set_ne (Ne.symm hi)
    simp only [e1]
    congr 1
    funext q
    rw [sd_e_congr (hF i hi) (hG i hi)]
theorem sd_set' {ad : Nat → Nat} {dA : Nat → ClassId} {M : ip_M} {k : Nat} {q0 : ip_Sh} {F' : ip_F} {G' : ip_G} (h : M.1[k]? = some q0) (hF : ∀ a, a ≠ k → F' a = M.2.1 a) (hG : ∀ a, a ≠ k → G' a = M.2.2 a) :
    sd_w ad dA (M.1, F', G') = (sd_w ad dA M).set k (ad k, sd_e ad dA F' G' k q0) := by
  rw [← sd_set (q' := q0) h hF hG]
  congr 1
  have hl : k < M.1.length := (List.getElem?_eq_some_iff.mp h).1
  rw [show M.1.set k q0 = M.1 from ?_]
  apply List.ext_getElem?
  intro i
  by_cases hi : i = k
  · subst hi
    rw [List.getElem?_set_self hl, h]
  · rw [List.getElem?_set_ne (Ne.symm hi)]
/-- addresses that agree on the cells there are, and on what lies outside -/
def sd_ag (n : Nat) (ad ad' : Nat → Nat) : Prop := (∀ k, k < n → ad' k = ad k) ∧ ∀ k, ip_EX ≤ k → ad' k = ad k
theorem sd_ag.rf {n : Nat} {ad : Nat → Nat} : sd_ag n ad ad := ⟨fun _ _ => rfl, fun _ _ => rfl⟩
theorem sd_ag.tr {n n' : Nat} {a b c : Nat → Nat} (h : sd_ag n a b) (h' : sd_ag n' b c) (hn : n ≤ n') : sd_ag n a c := ⟨fun k hk => (h'.1 k (by omega)).trans (h.1 k hk), fun k hk => (h'.2 k hk).trans (h.2 k hk)⟩
theorem sd_e_ad {ad ad' : Nat → Nat} {dA : Nat → ClassId} {F : ip_F} {G : ip_G} {k n : Nat} {q : ip_Sh} (hq : ip_wfs n q = true) (ha : ∀ i, i < n → ad' i = ad i) : sd_e ad' dA F G k q = sd_e ad dA F G k q := by
  match q, hq with
  | (0, a, l), _ => rfl
  | (1, a, []), _ => rfl
  | (1, a, n :: l), _ => rfl
  | (2, t, l), hq =>
    have h2 : ∀ d ∈ l, d ≤ n := by simpa [ip_wfs] using hq
    have : sd_rw ad' l = sd_rw ad l := by
      funext i
      unfold sd_rw
      cases hi : l[i]? with
      | none => rfl
      | some d =>
        have := h2 d (List.mem_of_getElem? hi)
        match d, this with
        | 0, _ => rfl
        | d + 1, h => simp [sd_ro, ha d (by omega)]
    show (Sum.inl (dA t, l.length, Sum.inr (Sum.inr (Sum.inr (Sum.inr (sd_rw ad' l))))) : va_E) = Sum.inl (dA t, l.length, Sum.inr (Sum.inr (Sum.inr (Sum.inr (sd_rw ad l)))))
    rw [this]
  | (3, ci, l), hq =>
    have h2 : ∀ d ∈ l, d < n + 3 := by simpa [ip_wfs] using hq
    show (Sum.inr (ci, l.mapIdx (fun f d => sd_fv ad' F G k f d)) : va_E) = Sum.inr (ci, l.mapIdx (fun f d => sd_fv ad F G k f d))
    congr 2
    apply List.ext_getElem?
    intro i
    rw [List.getElem?_mapIdx, List.getElem?_mapIdx]
    cases hi : l[i]? with
    | none => rfl
    | some d =>
      have := h2 d (List.mem_of_getElem? hi)
      match d, this with
      | 0, _ => rfl
      | 1, _ => rfl
      | 2, _ => rfl
      | d + 3, h => simp [sd_fv, ha d (by omega)]
  | (t + 4, a, l), _ => rfl
/-- new cells behind the old ones -/
theorem sd_app {ad ad' : Nat → Nat} {dA : Nat → ClassId} {M : ip_M} {F' : ip_F} {G' : ip_G} {qs : List ip_Sh} (hw : M.1.all (ip_wfs M.1.length) = true) (ha : ∀ i, i < M.1.length → ad' i = ad i) (hF : ∀ a, a < M.1.length → F' a = M.2.1 a) (hG : ∀ a, a < M.1.length → G' a = M.2.2 a) :
    sd_w ad' dA (M.1 ++ qs, F', G') = sd_w ad dA M ++ qs.mapIdx (fun i q => (ad' (M.1.length + i), sd_e ad' dA F' G' (M.1.length + i) q)) := by
  have hlen : (sd_w ad dA M).length = M.1.length := by simp [sd_w]
  apply List.ext_getElem?
  intro i
  by_cases hi : i < M.1.length
  · have e2 : (sd_w ad dA M ++ qs.mapIdx (fun i q => (ad' (M.1.length + i), sd_e ad' dA F' G' (M.1.length + i) q)))[i]? = (sd_w ad dA M)[i]? := List.getElem?_append_left (Nat.lt_of_lt_of_eq hi hlen.symm)
    have e1 : (M.1 ++ qs)[i]? = M.1[i]? := List.getElem?_append_left hi
    rw [e2, sd_wk, sd_wk]
    simp only [e1]
    cases hq : M.1[i]? with
    | none => rfl
    | some q =>
      have hq2 := List.all_eq_true.mp hw q (List.mem_of_getElem? hq)
      simp only [Option.map_some]
      rw [sd_e_congr (hF i hi) (hG i hi), sd_e_ad hq2 ha, ha i hi]
  · have hi2 : M.1.length ≤ i := Nat.le_of_not_lt hi
    have e2 : (sd_w ad dA M ++ qs.mapIdx (fun i q => (ad' (M.1.length + i), sd_e ad' dA F' G' (M.1.length + i) q)))[i]? = (qs.mapIdx (fun i q => (ad' (M.1.length + i), sd_e ad' dA F' G' (M.1.length + i) q)))[i - M.1.length]? := by
      rw [← hlen]
      exact List.getElem?_append_right (by rw [hlen]; exact hi2)
    have e1 : (M.1 ++ qs)[i]? = qs[i - M.1.length]? := List.getElem?_append_right hi2
    rw [e2, sd_wk, List.getElem?_mapIdx]
    simp only [e1]
    have e : M.1.length + (i - M.1.length) = i := by omega
    rw [e]
theorem sd_v_ad {ad ad' : Nat → Nat} {vz v : Value} {n : Nat} (hv : ip_wfv n v = true) (ha : sd_ag n ad ad') : sd_v ad' vz v = sd_v ad vz v := by
  cases v with
  | ref a =>
    simp only [ip_wfv, Bool.or_eq_true, decide_eq_true_eq] at hv
    have : ad' a = ad a := by
      rcases hv with h | h
      · exact ha.1 a h
      · exact ha.2 a h
    simp [sd_v, this]
  | _ => rfl
theorem sd_S_ad {ad ad' : Nat → Nat} {vz : Value} {n : Nat} {S : List Value} (hv : S.all (ip_wfv n) = true) (ha : sd_ag n ad ad') : S.map (sd_v ad' vz) = S.map (sd_v ad vz) :=
  List.map_congr_left fun v h => sd_v_ad (List.all_eq_true.mp hv v h) ha
theorem sd_v_ref {ad : Nat → Nat} {vz : Value} {k : Nat} (h : k ≠ ip_EX + 50) : sd_v ad vz (.ref k) = .ref (ad k) := by simp [sd_v, h]
theorem sd_v_cat {ad : Nat → Nat} {vz : Value} (hz : vz = .null ∨ ∃ a, vz = .ref a) (v : Value) : (sd_v ad vz v).category = v.category := by
  cases v with
  | ref a =>
    show (if a = ip_EX + 50 then vz else Value.ref (ad a)).category = 1
    split
    · rcases hz with rfl | ⟨b, rfl⟩ <;> rfl
    · rfl
  | _ => rfl
theorem sd_cat {ad : Nat → Nat} {vz : Value} (hz : vz = .null ∨ ∃ a, vz = .ref a) (S : List Value) : ((S.map (sd_v ad vz)).map fun v => v.category).sum = ip_cat S := by
  unfold ip_cat
  rw [List.map_map]
  congr 1
  apply List.map_congr_left
  intro v _
  exact sd_v_cat hz v
/-! locals -/
def sd_isF : Value → Bool
  | .float _ => true
  | _ => false
def sd_al (ad : Nat → Nat) (vz : Value) (L : List Value) : List (Nat × Value) := (L.mapIdx fun k v => (k, v)).filterMap fun q => if sd_isF q.2 then none else some (q.1, sd_v ad vz q.2)
theorem sd_al_mem {ad : Nat → Nat} {vz : Value} {L : List Value} {k : Nat} {v : Value} (h : L[k]? = some v) (hf : sd_isF v = false) : (k, sd_v ad vz v) ∈ sd_al ad vz L := by
  refine List.mem_filterMap.mpr ⟨(k, v), ?_, by simp [hf]⟩
  exact List.mem_of_getElem? (i := k) (by rw [List.getElem?_mapIdx, h]; rfl)
theorem sd_al_of {ad : Nat → Nat} {vz : Value} {L : List Value} {q : Nat × Value} (h : q ∈ sd_al ad vz L) : ∃ (k : Nat) (v : Value), L[k]? = some v ∧ sd_isF v = false ∧ q = (k, sd_v ad vz v) := by
  obtain ⟨⟨k, v⟩, h1, h2⟩ := List.mem_filterMap.mp h
  obtain ⟨i, hi⟩ := List.getElem?_of_mem h1
  rw [List.getElem?_mapIdx] at hi
  cases hL : L[i]? with
  | none => rw [hL] at hi; cases hi
  | some w =>
    rw [hL] at hi
    cases hi
    by_cases hf : sd_isF v = true
    · simp [hf] at h2
    · have hf : sd_isF v = false := by simpa using hf
      simp [hf] at h2
      exact ⟨_, v, hL, hf, h2.symm⟩
theorem sd_sto_get : ∀ (L : List Value) (i : Nat) (v : Value) (k : Nat), (ip_sto L i v)[k]? = if k = i then (L[k]?).map (fun _ => v) else if k + 1 = i then (L[k]?).map ip_unl else L[k]?
  | [], i, v, k => by simp [ip_sto]
  | a :: l, 0, v, k => by
    cases k with
    | zero => simp [ip_sto]
    | succ k => simp [ip_sto]
  | a :: l, 1, v, k => by
    cases k with
    | zero => simp [ip_sto]
    | succ k =>
      have h := sd_sto_get l 0 v k
      simp only [ip_sto, List.getElem?_cons_succ, h]
      cases k <;> simp
  | a :: l, i + 2, v, k => by
    cases k with
    | zero => simp [ip_sto]
    | succ k =>
      have h := sd_sto_get l (i + 1) v k
      simp only [ip_sto, List.getElem?_cons_succ, h]
      simp [Nat.add_right_cancel_iff]
theorem sd_unl {v : Value} (h : sd_isF (ip_unl v) = false) : ip_unl v = v ∧ v.category ≠ 2 ∧ sd_isF v = false := by
  cases v <;> simp_all [ip_unl, sd_isF, Value.category]
theorem sd_st1 {ad : Nat → Nat} {vz : Value} {L : List Value} {i nL : Nat} {v x : Value} {ls' : Array Slot} (hz : vz = .null ∨ ∃ a, vz = .ref a) (hx : x = sd_v ad vz v)
    (h : lv_has ls' nL ((i, x) :: (sd_al ad vz L).filter (fun q => !(q.1 == i) && !(q.1 + 1 == i && q.2.category == 2)))) : lv_has ls' nL (sd_al ad vz (ip_sto L i v)) := by
  refine ⟨h.1, h.2.1, fun q hq => ?_⟩
  obtain ⟨k, w, h1, h2, rfl⟩ := sd_al_of hq
  rw [sd_sto_get] at h1
  by_cases hk : k = i
  · subst hk
    simp only [if_pos rfl] at h1
    cases hL : L[k]? with
    | none => rw [hL] at h1; cases h1
    | some u =>
      rw [hL] at h1
      cases h1
      rw [← hx]
      exact h.2.2 (k, x) List.mem_cons_self
  · simp only [if_neg hk] at h1
    have go : L[k]? = some w → ¬ (k + 1 = i ∧ w.category = 2) → ls'[k]? = some (.val (sd_v ad vz w)) := fun e e2 => by
      refine h.2.2 (k, sd_v ad vz w) (List.mem_cons_of_mem _ (List.mem_filter.mpr ⟨sd_al_mem e h2, ?_⟩))
      simp only [sd_v_cat hz, Bool.and_eq_true, Bool.not_eq_true', beq_eq_false_iff_ne, Bool.and_eq_false_iff]
      refine ⟨hk, ?_⟩
      by_cases a : k + 1 = i
      · exact Or.inr fun c => e2 ⟨a, c⟩
      · exact Or.inl a
    by_cases hk2 : k + 1 = i
    · simp only [if_pos hk2] at h1
      cases hL : L[k]? with
      | none => rw [hL] at h1; cases h1
      | some u =>
        rw [hL] at h1
        simp only [Option.map_some, Option.some.injEq] at h1
        subst h1
        obtain ⟨e1, e2, e3⟩ := sd_unl h2
        rw [e1] at go ⊢
        exact go hL fun z => e2 z.2
    · simp only [if_neg hk2] at h1
      exact go h1 fun z => hk2 z.1
theorem sd_st2 {ad : Nat → Nat} {vz : Value} {L : List Value} {i nL : Nat} {v x : Value} {ls' : Array Slot} (hz : vz = .null ∨ ∃ a, vz = .ref a) (hx : x = sd_v ad vz v)
    (h : lv_has ls' nL ((i, x) :: (sd_al ad vz L).filter (fun q => !(q.1 == i) && (!(q.1 == i + 1) && !(q.1 + 1 == i && q.2.category == 2))))) : lv_has ls' nL (sd_al ad vz (ip_sto2 L i v)) := by
  refine ⟨h.1, h.2.1, fun q hq => ?_⟩
  obtain ⟨k, w, h1, h2, rfl⟩ := sd_al_of hq
  unfold ip_sto2 at h1
  by_cases hk1 : k = i + 1
  · subst hk1
    rw [List.getElem?_set] at h1
    simp only [if_true] at h1
    split at h1
    · cases h1; cases h2
    · cases h1
  · rw [List.getElem?_set_ne (Ne.symm hk1), sd_sto_get] at h1
    by_cases hk : k = i
    · subst hk
      simp only [if_pos rfl] at h1
      cases hL : L[k]? with
      | none => rw [hL] at h1; cases h1
      | some u =>
        rw [hL] at h1
        cases h1
        rw [← hx]
        exact h.2.2 (k, x) List.mem_cons_self
    · simp only [if_neg hk] at h1
      have go : L[k]? = some w → ¬ (k + 1 = i ∧ w.category = 2) → ls'[k]? = some (.val (sd_v ad vz w)) := fun e e2 => by
        refine h.2.2 (k, sd_v ad vz w) (List.mem_cons_of_mem _ (List.mem_filter.mpr ⟨sd_al_mem e h2, ?_⟩))
        simp only [sd_v_cat hz, Bool.and_eq_true, Bool.not_eq_true', beq_eq_false_iff_ne, Bool.and_eq_false_iff]
        refine ⟨hk, hk1, ?_⟩
        by_cases a : k + 1 = i
        · exact Or.inr fun c => e2 ⟨a, c⟩
        · exact Or.inl a
      by_cases hk2 : k + 1 = i
      · simp only [if_pos hk2] at h1
        cases hL : L[k]? with
        | none => rw [hL] at h1; cases h1
        | some u =>
          rw [hL] at h1
          simp only [Option.map_some, Option.some.injEq] at h1
          subst h1
          obtain ⟨e1, e2, e3⟩ := sd_unl h2
          rw [e1] at go ⊢
          exact go hL fun z => e2 z.2
      · simp only [if_neg hk2] at h1
        exact go h1 fun z => hk2 z.1
/-- a load -/
theorem sd_ld {ad : Nat → Nat} {vz : Value} {L : List Value} {k nL : Nat} {v : Value} {ls : Array Slot} (h : lv_has ls nL (sd_al ad vz L)) (hk : L[k]? = some v) (hf : sd_isF v = false) : ls[k]? = some (.val (sd_v ad vz v)) := h.2.2 _ (sd_al_mem hk hf)
theorem sd_arg_len (ad : Nat → Nat) (vz : Value) : ∀ (as : List Value), as.all ip_okv = true → (vz = .null ∨ ∃ a, vz = .ref a) → (lg_sl (as.map (sd_v ad vz))).length = (ip_arg as).length
  | [], _, _ => rfl
  | v :: r, h, hz => by
    simp only [List.all_cons, Bool.and_eq_true] at h
    have ih := sd_arg_len ad vz r h.2 hz
    have hc : ∀ w : Value, w.category ≠ 2 → (lg_sl (w :: r.map (sd_v ad vz))).length = (ip_arg r).length + 1 := fun w hw => by
      have e : lg_sl (w :: r.map (sd_v ad vz)) = (if w.category = 2 then [Slot.val w, Slot.second] else [Slot.val w]) ++ lg_sl (r.map (sd_v ad vz)) := rfl
      rw [e, if_neg hw, List.length_append, ih, List.length_singleton]
      omega
    cases v with
    | long x =>
      have e : lg_sl ((Value.long x :: r).map (sd_v ad vz)) = [Slot.val (Value.long x), Slot.second] ++ lg_sl (r.map (sd_v ad vz)) := rfl
      rw [e, List.length_append, ih]
      show 2 + (ip_arg r).length = (ip_arg r).length + 1 + 1
      omega
    | int x =>
      rw [List.map_cons, hc _ (by simp [sd_v, Value.category])]
      rfl
    | ref a =>
      rw [List.map_cons, hc _ (by rw [sd_v_cat hz]; simp [Value.category])]
      rfl
    | _ => simp [ip_okv] at h
theorem sd_arg_at (ad : Nat → Nat) (vz : Value) (hz : vz = .null ∨ ∃ a, vz = .ref a) : ∀ (as : List Value) (i k : Nat) (w : Value), as.all ip_okv = true → (ip_arg as)[k]? = some w → sd_isF w = false → (i + k, sd_v ad vz w) ∈ lv_args i (as.map (sd_v ad vz))
  | [], i, k, w, _, h, _ => by simp [ip_arg] at h
  | v :: r, i, k, w, ho, h, hf => by
    simp only [List.all_cons, Bool.and_eq_true] at ho
    have one : v.category ≠ 2 → ip_arg (v :: r) = v :: ip_arg r → (i + k, sd_v ad vz w) ∈ lv_args i ((v :: r).map (sd_v ad vz)) := fun hc e => by
      rw [e] at h
      rw [List.map_cons]
      unfold lv_args
      cases k with
      | zero =>
        simp only [List.getElem?_cons_zero, Option.some.injEq] at h
        subst h
        exact List.mem_cons_self
      | succ k =>
        rw [List.getElem?_cons_succ] at h
        rw [if_neg (by rw [sd_v_cat hz]; exact hc)]
        have := sd_arg_at ad vz hz r (i + 1) k w ho.2 h hf
        rw [show i + (k + 1) = i + 1 + k by omega]
        exact List.mem_cons_of_mem _ this
    cases v with
    | long x =>
      rw [List.map_cons]
      unfold lv_args
      simp only [ip_arg] at h
      match k, h with
      | 0, h =>
        simp only [List.getElem?_cons_zero, Option.some.injEq] at h
        subst h
        exact List.mem_cons_self
      | 1, h =>
        simp only [List.getElem?_cons_succ, List.getElem?_cons_zero, Option.some.injEq] at h
        subst h
        cases hf
      | k + 2, h =>
        rw [List.getElem?_cons_succ, List.getElem?_cons_succ] at h
        have := sd_arg_at ad vz hz r (i + 2) k w ho.2 h hf
        rw [show i + (k + 2) = i + 2 + k by omega]
        refine List.mem_cons_of_mem _ ?_
        rw [if_pos (by simp [sd_v, Value.category])]
        exact this
    | int x => exact one (by simp [Value.category]) rfl
    | ref a => exact one (by simp [Value.category]) rfl
    | _ => simp [ip_okv] at ho
theorem sd_entry {ad : Nat → Nat} {vz : Value} (hz : vz = .null ∨ ∃ a, vz = .ref a) {as : List Value} {n : Nat} (ho : as.all ip_okv = true) (hl : (ip_arg as).length ≤ n) :
    lv_has ((lg_sl (as.map (sd_v ad vz)) ++ List.replicate (n - (lg_sl (as.map (sd_v ad vz))).length) Slot.unset).toArray) n (sd_al ad vz (ip_loc n as)) := by
  have h := lv_entry (as.map (sd_v ad vz)) (n := n) (by rw [sd_arg_len ad vz as ho hz]; exact hl)
  refine ⟨h.1, h.2.1, fun q hq => ?_⟩
  obtain ⟨k, w, h1, h2, rfl⟩ := sd_al_of hq
  unfold ip_loc at h1
  by_cases hk : k < (ip_arg as).length
  · rw [List.getElem?_append_left hk] at h1
    have := sd_arg_at ad vz hz as 0 k w ho h1 h2
    rw [Nat.zero_add] at this
    exact h.2.2 _ this
  · rw [List.getElem?_append_right (by omega)] at h1
    have := List.eq_of_mem_replicate (List.mem_of_getElem? h1)
    subst this
    cases h2
end
section
/-! ===== the surroundings of a frame; what touches the stack alone ===== -/
def sd_t (dA : Nat → ClassId) : List (ClassId × FieldType) := [(dA 0, .int), (dA 1, .boolean), (dA 2, .byte), (dA 3, .array .int)]
def sd_V (D : va_G) (dA : Nat → ClassId) (ad : Nat → Nat) (vz : Value) (A : Nat → Prop) (U : State) (H : Heap) : Prop :=
  va_K D vwCl (sd_t dA) U ∧ (∀ w ∈ ip_nst, va_Nw w U) ∧ (Jvm.Cond.arrayOver (.array .int)).before #[] U = true ∧ (vz = .null ∨ ∃ a, vz = .ref a) ∧
  vk_S 5 ip_lenL ip_bytL (fun i => ad (ip_EX + 1 + i)) (fun i => ad (ip_EX + 11 + i)) A U H ∧
  (∀ i, i < 5 → vk_R "HandedSlips$Reader" (125 + 2 * i) (ip_strs.getD i "") (ad (ip_EX + 1 + i)) U) ∧
  va_Z "java/lang/String" "COMPACT_STRINGS" "Z" (.int 1) A U H ∧ va_Z "jdk/internal/util/Preconditions" "SIOOBE_FORMATTER" "Ljava/util/function/BiFunction;" vz A U H
theorem sd_AO_moved {u U : State} (hvm : u.vm.Alike U.vm) (h : (Jvm.Cond.arrayOver (.array .int)).before #[] u = true) : (Jvm.Cond.arrayOver (.array .int)).before #[] U = true := by
  have h' := h
  unfold Cond.before Cond.holds at h'
  simp only [Cond.value, beq_iff_eq] at h'
  cases hc : u.vm.findClass (FieldType.array .int).toString with
  | none => simp [hc] at h'
  | some comp =>
    simp only [hc, Option.bind_some, Option.bind_eq_some_iff, Option.map_eq_some_iff] at h'
    obtain ⟨c, hi, k, hk, hb⟩ := h'
    obtain ⟨k', hk', he⟩ := hvm.2.2 _ _ hk
    have hi2 : (U.vm.classes.findIdx? fun (x : Class) => match x.kind with | .array component _ => component == comp | _ => false) = some c := by
      have b1 := va_idx_bare U.vm comp
      have b2 := va_idx_bare u.vm comp
      first | rw [hvm.bare_eq] at b2 | rw [← hvm.bare_eq] at b2
      exact b1.symm.trans (b2.trans hi)
    have f1 : U.vm.findClass (FieldType.array .int).toString = some comp := by rw [hvm.findClass]; exact hc
    unfold Cond.before Cond.holds
    simp only [Cond.value]
    rw [f1, Option.bind_some]
    refine (congrArg (fun o : Option Nat => (o.bind (fun c => (U.vm.classes[c]?).map fun (k : Class) => match k.kind with | .array _ ty => decide (ty = FieldType.array .int) && decide (U.vm.findClass ("[" ++ (FieldType.array .int).toString) = some c) | _ => false) == some true)) hi2).trans ?_
    have hkk : k'.kind = k.kind := by rw [he]
    simp only [Option.bind_some, hk', Option.map_some, hkk, hvm.findClass]
    rw [beq_iff_eq]
    exact congrArg some hb
theorem sd_Nw {s U : State} (hW : s.WarmedH U.vm) (h : ∀ w ∈ ip_nst, va_Nw w s) : ∀ w ∈ ip_nst, va_Nw w U := by
  intro w hw
  have h1 := h w hw
  have h2 := (List.mem_filter.mp hw).2
  cases w <;> first | exact va_Nw.warmF hW h1 | exact va_Nw.warmM hW h1 | (simp [ip_isN] at h2)
theorem sd_V.move {D : va_G} {dA : Nat → ClassId} {ad : Nat → Nat} {vz : Value} {A B : Nat → Prop} {s U : State} {H H1 : Heap} (hW : s.WarmedH U.vm) (hH : ∀ a : Nat, a < H.size → ¬ A a → H1[a]? = H[a]?) (hAB : ∀ q, B q → A q) (h : sd_V D dA ad vz A s H) : sd_V D dA ad vz B U H1 := by
  obtain ⟨h1, h2, h3, h4, h5, h6, h7, h8⟩ := h
  exact ⟨h1.moved hW.alike, sd_Nw hW h2, sd_AO_moved hW.alike h3, h4, ((h5.moved hW.alike).kept hH).narrow hAB, fun i hi => (h6 i hi).warm hW, ((h7.moved hW.alike).kept hH).narrow hAB, ((h8.moved hW.alike).kept hH).narrow hAB⟩
theorem sd_V.ads {D : va_G} {dA : Nat → ClassId} {ad ad' : Nat → Nat} {vz : Value} {A : Nat → Prop} {U : State} {H : Heap} {n : Nat} (ha : sd_ag n ad ad') (h : sd_V D dA ad vz A U H) : sd_V D dA ad' vz A U H := by
  obtain ⟨h1, h2, h3, h4, h5, h6, h7, h8⟩ := h
  have e1 : (fun i => ad' (ip_EX + 1 + i)) = (fun i => ad (ip_EX + 1 + i)) := funext fun i => ha.2 _ (by omega)
  have e2 : (fun i => ad' (ip_EX + 11 + i)) = (fun i => ad (ip_EX + 11 + i)) := funext fun i => ha.2 _ (by omega)
  exact ⟨h1, h2, h3, h4, by rw [e1, e2]; exact h5, fun i hi => by rw [ha.2 _ (by omega)]; exact h6 i hi, h7, h8⟩
def sd_Tp (top : ip_Top) (ad : Nat → Nat) (A : Nat → Prop) (s : State) : Prop := match top with
  | none => True
  | some (L, xs) => va_X (ad ip_EX) L xs s s.heap ∧ ad ip_EX < s.heap.size ∧ ¬ A (ad ip_EX)
theorem sd_Tp.ads {top : ip_Top} {ad ad' : Nat → Nat} {A : Nat → Prop} {s : State} {n : Nat} (ha : sd_ag n ad ad') (h : sd_Tp top ad A s) : sd_Tp top ad' A s := by
  unfold sd_Tp at h ⊢
  split at h
  · trivial
  · rename_i L xs
    rw [ha.2 _ (Nat.le_refl _)]
    exact h
def sd_C (p : Program) (s : State) (m : MethodId) (meth : Method) (c : Code) (args : Array Value) (R : Room) (j : Nat) : Prop :=
  p.tables.exec = Jvm.exec ∧ c.code = (ip_mB j).2.1 ∧ c.maxLocals = (ip_mB j).2.2.1 ∧ s.vm.findClass (ip_own j) = some m.cls ∧ (∀ w ∈ ip_good, w.before args s = true) ∧ ((ip_mB j).1.name = "<init>" → meth.name = "<init>") ∧
  R.frames = (ip_mI j).2.2.2.1 ∧ R.locals = (ip_mI j).2.2.2.2.1 ∧ R.cells = (ip_mI j).2.2.2.2.2.1 ∧ R.slots = (ip_mI j).2.2.2.2.2.2
section SDW
variable {p : Program} {l : Launch} {e : Env} {R : Room} {s : State} {m : MethodId} {args : Array Value} {below : List Frame} {meth : Method} {c : Code} {H : Heap} {locs : List Loc} {cells slots : Nat} {Q : State → Prop}
variable {D : va_G} {dA : Nat → ClassId} {ad : Nat → Nat} {vz : Value} {A : Nat → Prop} {ls : Array Slot} {j pc len aux : Nat}
/-- the stack's own instructions -/
theorem sd_stk (hC : sd_C p s m meth c args R j) (hV : sd_V D dA ad vz A s s.heap) {ins : Instr} (hdec : decode (ip_mB j).2.1 pc = .ok (ins, len)) (hlen : ip_isw ins = true ∨ len = ip_ln ins) (hlk : ip_lk j pc aux ins = true) {S S' : List Value} (h : ip_st j aux S ins = some S')
    (k : W p l e R s m args below meth c H locs cells slots Q (F0 m (pc + len) ls (S'.map (sd_v ad vz)))) : W p l e R s m args below meth c H locs cells slots Q (F0 m pc ls (S.map (sd_v ad vz))) := by
  obtain ⟨hx, hb, hml, hown, hts, -⟩ := hC
  have hz := hV.2.2.2.1
  cases ins with
  | iconst n => cases h; cases hlen with | inl q => cases q | inr q => subst q; exact lv_iconst hx hb hdec rfl k
  | bipush n => cases h; cases hlen with | inl q => cases q | inr q => subst q; exact lv_bipush hx hb hdec rfl k
  | sipush n => cases h; cases hlen with | inl q => cases q | inr q => subst q; exact lv_sipush hx hb hdec rfl k
  | lconst n => cases h; cases hlen with | inl q => cases q | inr q => subst q; exact lv_lconst hx hb hdec rfl k
  | iadd =>
    cases hlen with | inl q => cases q | inr q => subst q; simp only [ip_st] at h; split at h <;> first | (cases h; exact lv_iadd hx hb hdec k) | cases h
  | isub =>
    cases hlen with | inl q => cases q | inr q => subst q; simp only [ip_st] at h; split at h <;> first | (cases h; exact lv_isub hx hb hdec k) | cases h
  | imul =>
    cases hlen with | inl q => cases q | inr q => subst q; simp only [ip_st] at h; split at h <;> first | (cases h; exact lv_imul hx hb hdec k) | cases h
  | idiv =>
    cases hlen with | inl q => cases q | inr q => subst q; simp only [ip_st] at h; split at h <;> first | (split at h <;> first | (cases h; rename_i hne; exact lv_idiv hx hb hdec hne k) | cases h) | cases h
  | irem =>
    cases hlen with | inl q => cases q | inr q => subst q; simp only [ip_st] at h; split at h <;> first | (split at h <;> first | (cases h; rename_i hne; exact lv_irem hx hb hdec hne k) | cases h) | cases h
  | iand =>
    cases hlen with | inl q => cases q | inr q => subst q; simp only [ip_st] at h; split at h <;> first | (cases h; exact lv_iand hx hb hdec k) | cases h
  | ior =>
    cases hlen with | inl q => cases q | inr q => subst q; simp only [ip_st] at h; split at h <;> first | (cases h; exact lv_ior hx hb hdec k) | cases h
  | ixor =>
    cases hlen with | inl q => cases q | inr q => subst q; simp only [ip_st] at h; split at h <;> first | (cases h; exact lv_ixor hx hb hdec k) | cases h
  | ishl =>
    cases hlen with | inl q => cases q | inr q => subst q; simp only [ip_st] at h; split at h <;> first | (cases h; exact lv_ishl hx hb hdec k) | cases h
  | ishr =>
    cases hlen with | inl q => cases q | inr q => subst q; simp only [ip_st] at h; split at h <;> first | (cases h; exact lv_ishr hx hb hdec k) | cases h
  | iushr =>
    cases hlen with | inl q => cases q | inr q => subst q; simp only [ip_st] at h; split at h <;> first | (cases h; exact lv_iushr hx hb hdec rfl k) | cases h
  | ladd =>
    cases hlen with | inl q => cases q | inr q => subst q; simp only [ip_st] at h; split at h <;> first | (cases h; exact lv_ladd hx hb hdec k) | cases h
  | lmul =>
    cases hlen with | inl q => cases q | inr q => subst q; simp only [ip_st] at h; split at h <;> first | (cases h; exact lv_lmul hx hb hdec k) | cases h
  | ldiv =>
    cases hlen with | inl q => cases q | inr q => subst q; simp only [ip_st] at h; split at h <;> first | (split at h <;> first | (cases h; rename_i hne; exact lv_ldiv hx hb hdec hne k) | cases h) | cases h
  | lrem =>
    cases hlen with | inl q => cases q | inr q => subst q; simp only [ip_st] at h; split at h <;> first | (split at h <;> first | (cases h; rename_i hne; exact lv_lrem hx hb hdec hne k) | cases h) | cases h
  | lcmp =>
    cases hlen with | inl q => cases q | inr q => subst q; simp only [ip_st] at h; split at h <;> first | (cases h; exact W.lcmp hx hb hdec k) | cases h
  | i2l =>
    cases hlen with | inl q => cases q | inr q => subst q; simp only [ip_st] at h; split at h <;> first | (cases h; exact lv_i2l hx hb hdec rfl k) | cases h
  | l2i =>
    cases hlen with | inl q => cases q | inr q => subst q; simp only [ip_st] at h; split at h <;> first | (cases h; exact lv_l2i hx hb hdec rfl k) | cases h
  | i2b =>
    cases hlen with | inl q => cases q | inr q => subst q; simp only [ip_st] at h; split at h <;> first | (cases h; exact lv_i2b hx hb hdec rfl k) | cases h
  | i2c =>
    cases hlen with | inl q => cases q | inr q => subst q; simp only [ip_st] at h; split at h <;> first | (cases h; exact lv_i2c hx hb hdec rfl k) | cases h
  | dup =>
    cases hlen with | inl q => cases q | inr q => subst q; simp only [ip_st] at h; split at h <;> first | (split at h <;> first | (cases h; rename_i hc; exact lv_dup hx hb hdec ((sd_v_cat hz _).trans hc) k) | cases h) | cases h
  | dup2 =>
    cases hlen with
    | inl q => cases q
    | inr q =>
      subst q
      simp only [ip_st] at h
      split at h
      · split at h
        · cases h
          rename_i hc
          exact lv_dup2_11 hx hb hdec ((sd_v_cat hz _).trans hc.1) ((sd_v_cat hz _).trans hc.2) k
        · split at h
          · cases h
            rename_i hc
            exact lv_dup2_2 hx hb hdec ((sd_v_cat hz _).trans hc) k
          · cases h
      · cases h
  | pop =>
    cases hlen with | inl q => cases q | inr q => subst q; simp only [ip_st] at h; split at h <;> first | (split at h <;> first | (cases h; rename_i hc; exact lv_pop hx hb hdec ((sd_v_cat hz _).trans hc) k) | cases h) | cases h
  | ldc idx =>
    cases hlen with
    | inl q => cases q
    | inr q =>
      subst q
      simp only [ip_st] at h
      simp only [ip_lk] at hlk
      split at h
      · rename_i h1000
        simp only [if_pos h1000, Bool.and_eq_true, beq_iff_eq, decide_eq_true_eq] at hlk
        split at h
        · cases h
          rename_i h5
          have hr := hV.2.2.2.2.2.1 (aux - 1000) (by omega)
          rw [← hlk.1, ← hlk.2] at hr
          rw [List.map_cons, sd_v_ref (by omega)] at k
          exact va_ldcS hx hb hown hr hdec k
        · cases h
      · rename_i h1000
        simp only [if_neg h1000, decide_eq_true_eq] at hlk
        cases hq : ip_KI[aux]? with
        | none => rw [hq] at h; cases h
        | some q =>
          rw [hq] at h hlk
          cases h
          simp only [Option.map_some, Option.some.injEq, Prod.mk.injEq] at hlk
          have hc := List.all_eq_true.mp ip_KIok q (List.mem_of_getElem? hq)
          simp only [decide_eq_true_eq] at hc
          have hm := ip_good_mem (List.mem_of_getElem? hc) rfl
          rw [hlk.1, hlk.2] at hm
          exact lv_ldc hx hb hown (hts _ hm) hdec k
  | ldc_w idx =>
    cases hlen with
    | inl q => cases q
    | inr q =>
      subst q
      simp only [ip_st] at h
      simp only [ip_lk, decide_eq_true_eq] at hlk
      cases hq : ip_KI[aux]? with
      | none => rw [hq] at h; cases h
      | some q =>
        rw [hq] at h hlk
        cases h
        simp only [Option.map_some, Option.some.injEq, Prod.mk.injEq] at hlk
        have hc := List.all_eq_true.mp ip_KIok q (List.mem_of_getElem? hq)
        simp only [decide_eq_true_eq] at hc
        have hm := ip_good_mem (List.mem_of_getElem? hc) rfl
        rw [hlk.1, hlk.2] at hm
        exact lv_ldcw hx hb hown (hts _ hm) hdec k
  | ldc2_w idx =>
    cases hlen with
    | inl q => cases q
    | inr q =>
      subst q
      simp only [ip_st] at h
      simp only [ip_lk, decide_eq_true_eq] at hlk
      cases hq : ip_KL[aux]? with
      | none => rw [hq] at h; cases h
      | some q =>
        rw [hq] at h hlk
        cases h
        simp only [Option.map_some, Option.some.injEq, Prod.mk.injEq] at hlk
        have hc := List.all_eq_true.mp ip_KLok q (List.mem_of_getElem? hq)
        simp only [decide_eq_true_eq] at hc
        have hm := ip_good_mem (List.mem_of_getElem? hc) rfl
        rw [hlk.1, hlk.2] at hm
        exact lv_ldc2 hx hb hown (hts _ hm) hdec k
  | _ => simp [ip_st] at h
end SDW
end
section
/-! ===== the machine does what the interpreter says: the whole run ===== -/
def sd_rt (j pc : Nat) (r : Option Value) (st : List Value) (ad : Nat → Nat) (vz : Value) : Prop :=
  (decode (ip_mB j).2.1 pc = .ok (.return_, 1) ∧ r = none ∧ st = [] ∧ (ip_mB j).2.2.2 = none) ∨
  (decode (ip_mB j).2.1 pc = .ok (.ireturn, 1) ∧ ∃ (x : Int32) (ty : FieldType), r = some (.int x) ∧ st = [.int x] ∧ (ip_mB j).2.2.2 = some ty ∧ narrow ty (.int x) = .int x) ∨
  (decode (ip_mB j).2.1 pc = .ok (.lreturn, 1) ∧ ∃ x : Int64, r = some (.long x) ∧ st = [.long x] ∧ (ip_mB j).2.2.2 = some .long) ∨
  (decode (ip_mB j).2.1 pc = .ok (.areturn, 1) ∧ ∃ (a : Nat) (ty : FieldType), r = some (.ref a) ∧ st = [sd_v ad vz (.ref a)] ∧ (ip_mB j).2.2.2 = some ty ∧ ((∃ n, ty = .object n) ∨ ∃ t, ty = .array t))
def sd_P (D : va_G) (dA : Nat → ClassId) (ad : Nat → Nat) (A : Nat → Prop) (s : State) (H : Heap) (locs : List Loc) (sz0 : Nat) (M : ip_M) : Prop :=
  va_P D vwCl (sd_w ad dA M) H ∧ va_D A (sd_w ad dA M) ∧ va_S A s.heap H locs ∧ sz0 ≤ M.1.length ∧ M.1.length ≤ ip_EX
def sd_H (p : Program) (l : Launch) (e : Env) (R : Room) (s : State) (m : MethodId) (args : Array Value) (below : List Frame) (meth : Method) (c : Code) (D : va_G) (dA : Nat → ClassId) (vz : Value) (A : Nat → Prop) (Q : State → Prop) (j sz0 : Nat) (ad : Nat → Nat) (res : ip_R) : Prop :=
  ∀ (ad' : Nat → Nat) (H' : Heap) (locs' : List Loc) (pc' : Nat) (ls' : Array Slot) (st' : List Value), sd_ag sz0 ad ad' → ((ip_mI j).2.2.2.2.2.1 = 0 → ad' = ad) → sd_P D dA ad' A s H' locs' sz0 res.2 → sd_rt j pc' res.1 st' ad' vz →
    W p l e R s m args below meth c H' locs' (ip_mI j).2.2.2.2.2.1 (ip_mI j).2.2.2.2.2.2 Q (F0 m pc' ls' st')
def sd_Snd (l : Launch) (D : va_G) (dA : Nat → ClassId) (vz : Value) (n : Nat) : Prop :=
  ∀ (top : ip_Top) (j pc : Nat) (L S : List Value) (M : ip_M) (cs : Nat × Nat) (res : ip_R), ip_run top n j pc L S M cs = some res →
  ∀ (p : Program) (e : Env) (R : Room) (s : State) (m : MethodId) (args : Array Value) (below : List Frame) (meth : Method) (c : Code) (A : Nat → Prop) (Q : State → Prop) (ad : Nat → Nat) (H : Heap) (locs : List Loc) (ls : Array Slot) (sz0 : Nat),
    sd_C p s m meth c args R j → sd_V D dA ad vz A s s.heap → sd_Tp top ad A s → (∀ q : Nat, s.heap.size ≤ q → A q) → lv_has ls (ip_mB j).2.2.1 (sd_al ad vz L) → sd_P D dA ad A s H locs sz0 M → sd_H p l e R s m args below meth c D dA vz A Q j sz0 ad res →
    W p l e R s m args below meth c H locs cs.1 cs.2 Q (F0 m pc ls (S.map (sd_v ad vz)))
theorem sd_H.step {p : Program} {l : Launch} {e : Env} {R : Room} {s : State} {m : MethodId} {args : Array Value} {below : List Frame} {meth : Method} {c : Code} {D : va_G} {dA : Nat → ClassId} {vz : Value} {A : Nat → Prop} {Q : State → Prop} {j sz0 n : Nat} {ad ad' : Nat → Nat} {res : ip_R}
    (h : sd_H p l e R s m args below meth c D dA vz A Q j sz0 ad res) (ha : sd_ag n ad ad') (hn : sz0 ≤ n) (hm : (ip_mI j).2.2.2.2.2.1 = 0 → ad' = ad) : sd_H p l e R s m args below meth c D dA vz A Q j sz0 ad' res :=
  fun ad2 H' locs' pc' ls' st' h1 h2 h3 h4 => h ad2 H' locs' pc' ls' st' ⟨fun k hk => (h1.1 k hk).trans (ha.1 k (by omega)), fun k hk => (h1.2 k hk).trans (ha.2 k hk)⟩ (fun z => (h2 z).trans (hm z)) h3 h4
/-- a method's contract: from its arguments and the world M to its answer and the world behind it -/
def sd_Pre (D : va_G) (dA : Nat → ClassId) (vz : Value) (ad : Nat → Nat) (M : ip_M) (as : List Value) (sz : Nat) : Array Value → State → Prop :=
  va_Pc (as.map (sd_v ad vz)) (fun U => U.heap.size = sz ∧ va_P D vwCl (sd_w ad dA M) U.heap ∧ va_D (fun _ => True) (sd_w ad dA M) ∧ sd_V D dA ad vz (va_A (sd_w ad dA M) sz) U U.heap)
def sd_Post (D : va_G) (dA : Nat → ClassId) (vz : Value) (ad : Nat → Nat) (M : ip_M) (sz mc : Nat) (res : ip_R) : Array Value → State → Outcome → State → Prop := fun _ st o t =>
  ∃ ad' : Nat → Nat, sd_ag M.1.length ad ad' ∧ (mc = 0 → ad' = ad) ∧ M.1.length ≤ res.2.1.length ∧ res.2.1.length ≤ ip_EX ∧ o = .returned (res.1.map (sd_v ad' vz)) ∧ va_P D vwCl (sd_w ad' dA res.2) t.heap ∧ va_D (va_A (sd_w ad dA M) sz) (sd_w ad' dA res.2) ∧ va_F (va_A (sd_w ad dA M) sz) st t
def sd_ws (i : Nat) : List Jvm.Cond := Jvm.Cond.code (ip_mB i).1 (ip_mB i).2.1 (ip_mB i).2.2.1 (ip_mB i).2.2.2 :: ip_good
def sd_rm (i : Nat) : Room := { frames := (ip_mI i).2.2.2.1, cells := (ip_mI i).2.2.2.2.2.1, slots := (ip_mI i).2.2.2.2.2.2, locals := (ip_mI i).2.2.2.2.1 }
theorem sd_met {l : Launch} {D : va_G} {dA : Nat → ClassId} {vz : Value} {n : Nat} (IH : sd_Snd l D dA vz n) {i : Nat} (hi : i < ip_mi.length) (h0 : 0 < i) {as : List Value} {M : ip_M} {res : ip_R} (h : ip_run none n i 0 (ip_loc (ip_mB i).2.2.1 as) [] M (0, 0) = some res)
    (ho : as.all ip_okv = true) (hl : (ip_arg as).length ≤ (ip_mB i).2.2.1) (hM : M.1.length ≤ ip_EX) (ad : Nat → Nat) (sz : Nat) :
    Met l (ip_mB i).1 (sd_ws i) (sd_rm i) (sd_Pre D dA vz ad M as sz) (sd_Post D dA vz ad M sz (ip_mI i).2.2.2.2.2.1 res) (ip_mI i).2.2.2.2.2.1 (ip_mI i).2.2.2.2.2.2 (va_A (sd_w ad dA M) sz) := by
  have hnm := ip_w_name1 i hi h0
  have hown2 := ip_w_name2 (ip_mI i).1 (ip_w_name3 i hi)
  refine Met.ofW (cc := (ip_mB i).2.1) (maxL := (ip_mB i).2.2.1) (ret := (ip_mB i).2.2.2) (by rw [hnm]; exact hown2.1) rfl ?_
  intro p e s m args below meth c s₁ B hml hv
  obtain ⟨rfl, hsz, hP, hD0, hV⟩ := hv
  have hts := atoms_spec (ws := sd_ws i) B.pre
  have hz := hV.2.2.2.1
  subst hsz
  have hown : s.vm.findClass (ip_own i) = some m.cls := by rw [← hnm]; exact findClass_of_methodNamed B.named
  have hC : sd_C p s m meth c ((as.map (sd_v ad vz)).toArray) (headSpec (sd_ws i) (sd_rm i)).room i :=
    ⟨B.exec, B.bytes, hml, hown, fun w hw => hts w (List.mem_cons_of_mem _ hw), fun q => by rw [← q]; exact (name_of_methodNamed B.named B.method).1, rfl, rfl, rfl, rfl⟩
  rw [lg_entry_eq]
  have hl0 := sd_entry (ad := ad) (n := (ip_mB i).2.2.1) hz ho hl
  generalize (lg_sl (as.map (sd_v ad vz)) ++ List.replicate ((ip_mB i).2.2.1 - (lg_sl (as.map (sd_v ad vz))).length) Slot.unset).toArray = ls at hl0 ⊢
  refine IH none i 0 _ [] M (0, 0) res h p e _ s m _ below meth c (va_A (sd_w ad dA M) s.heap.size) _ ad s.heap [] ls M.1.length hC hV trivial (fun q hq => Or.inr hq) hl0 ⟨hP, hD0.self, va_S.rf, Nat.le_refl _, hM⟩ ?_
  intro ad' H' locs' pc' ls' st' ha1 ha2 ⟨g1, g2, g3, g4, g5⟩ hrt
  have post : ∀ (r : Option Value) (t : State), r = res.1.map (sd_v ad' vz) → t.heap = H' → sd_Post D dA vz ad M s.heap.size (ip_mI i).2.2.2.2.2.1 res ((as.map (sd_v ad vz)).toArray) s (.returned r) t := fun r t hr ht =>
    ⟨ad', ha1, ha2, g4, g5, by rw [hr], by rw [ht]; exact g1, g2, g3.F ht⟩
  have hr := B.returns
  rcases hrt with ⟨hd, h1, rfl, h3⟩ | ⟨hd, x, ty, h1, rfl, h3, h4⟩ | ⟨hd, x, h1, rfl, h3⟩ | ⟨hd, a, ty, h1, rfl, h3, h4⟩
  · exact W.vret B.exec B.bytes (hr.trans h3) (fun t ht _ => post none t (by rw [h1]; rfl) ht) g3.2.2 hd B.notSynchronized
  · exact W.zret B.exec B.bytes (hr.trans h3) h4 (fun t ht _ => post _ t (by rw [h1]; rfl) ht) g3.2.2 hd B.notSynchronized
  · exact W.lret B.exec B.bytes (hr.trans h3) (fun t ht _ => post _ t (by rw [h1]; rfl) ht) g3.2.2 hd B.notSynchronized
  · refine W.aret B.exec B.bytes (hr.trans h3) h4 ?_ (fun t ht _ => post _ t (by rw [h1]; rfl) ht) g3.2.2 hd B.notSynchronized
    show (if a = ip_EX + 50 then vz else Value.ref (ad' a)) = Value.null ∨ ∃ b, (if a = ip_EX + 50 then vz else Value.ref (ad' a)) = Value.ref b
    split
    · exact hz
    · exact Or.inr ⟨_, rfl⟩
section SDC
variable {p : Program} {l : Launch} {e : Env} {R : Room} {s : State} {m : MethodId} {args : Array Value} {below : List Frame} {meth : Method} {c : Code} {H : Heap} {locs : List Loc} {cells slots : Nat} {Q : State → Prop}
variable {D : va_G} {dA : Nat → ClassId} {ad : Nat → Nat} {vz : Value} {A : Nat → Prop} {ls : Array Slot} {j pc len aux sz0 : Nat}
theorem sd_good {i : Nat} (hi : i < ip_mi.length) (h0 : 0 < i) : GoodIn ip_good (sd_ws i) := by
  intro w hw
  have hm : w ∈ ip_good := by
    rcases List.mem_cons.mp hw with rfl | h
    · exact ip_w_code i hi h0
    · exact h
  exact ⟨hm, good_of_word (List.mem_filter.mp hm).2⟩
theorem sd_blind {M : ip_M} {as : List Value} {sz : Nat} : FrameBlind (sd_Pre D dA vz ad M as sz) := by
  intro a U g mk q
  obtain ⟨q0, q1, qP, qD, qV⟩ := q
  refine ⟨q0, q1, qP, qD, ?_⟩
  exact qV.move (s := U) (U := U.calling g mk a) (State.WarmedH.refl U) (fun _ _ _ => rfl) (fun _ h => h)
/-- what the caller's surroundings give the callee's -/
theorem sd_into {M : ip_M} {as : List Value} (hV : sd_V D dA ad vz A s s.heap) (hA : ∀ q : Nat, s.heap.size ≤ q → A q) (hP : sd_P D dA ad A s H locs sz0 M) :
    (∀ q, va_A (sd_w ad dA M) H.size q → A q) ∧ ∀ U : State, U.heap = H → s.WarmedH U.vm → sd_Pre D dA vz ad M as H.size (as.map (sd_v ad vz)).toArray U := by
  obtain ⟨h1, h2, h3, h4, h5⟩ := hP
  have hF : ∀ q, va_A (sd_w ad dA M) H.size q → A q := fun q h => by
    rcases h with ⟨k, e, h⟩ | h
    · exact h2.2 k (q, e) h
    · exact hA q (Nat.le_trans h3.1 h)
  refine ⟨hF, fun U hU hW => ⟨rfl, by rw [hU], by rw [hU]; exact h1, h2.weaken (fun _ _ _ _ => trivial), ?_⟩⟩
  refine hV.move hW (fun a ha hn => ?_) hF
  rw [hU]
  exact h3.2.1 a ha hn
/-- behind a call -/
theorem sd_back {top : ip_Top} {n i : Nat} {as rest L : List Value} {M : ip_M} {res r1 : ip_R} {cs : Nat × Nat} (IH : sd_Snd l D dA vz n)
    (hC : sd_C p s m meth c args R j) (hV : sd_V D dA ad vz A s s.heap) (hT : sd_Tp top ad A s) (hA : ∀ q : Nat, s.heap.size ≤ q → A q) (hl : lv_has ls (ip_mB j).2.2.1 (sd_al ad vz L)) (hP : sd_P D dA ad A s H locs sz0 M) (hH : sd_H p l e R s m args below meth c D dA vz A Q j sz0 ad res)
    (hmc : (ip_mI j).2.2.2.2.2.1 = 0 → (ip_mI i).2.2.2.2.2.1 = 0) (hwf : (ip_mI i).2.2.2.2.2.1 = 0 ∨ ip_wf M L (as ++ rest) = true)
    {av : Array Value} (hr : va_Run p l e R s m args below meth c H locs cs.1 cs.2 (ip_mI i).2.2.2.2.2.1 (ip_mI i).2.2.2.2.2.2 (F0 m pc ls ((as.reverse ++ rest).map (sd_v ad vz))) (rest.map (sd_v ad vz)) (sd_Post D dA vz ad M H.size (ip_mI i).2.2.2.2.2.1 r1 av) (va_A (sd_w ad dA M) H.size))
    (hrun : ip_run top n j (pc + 3) L (r1.1.toList ++ rest) r1.2 (cs.1 + (ip_mI i).2.2.2.2.2.1, cs.2 + (ip_mI i).2.2.2.2.2.2) = some res) :
    W p l e R s m args below meth c H locs cs.1 cs.2 Q (F0 m pc ls ((as.reverse ++ rest).map (sd_v ad vz))) := by
  obtain ⟨hF, -⟩ := sd_into (as := as) hV hA hP
  obtain ⟨hP1, hP2, hP3, hP4, hP5⟩ := hP
  intro T hTH X
  obtain ⟨v, st₀, t, T', L2, h0, X', hL, e1, e2, ⟨ad', g1, g2, g3, g4, g5, g6, g7, g8⟩, st⟩ := hr T hTH X
  cases g5
  have hS1 : va_S A s.heap T'.heap (locs ++ L2) := by
    rw [e1]
    refine ⟨Nat.le_trans hP3.1 (by rw [← h0]; exact g8.1), fun q q1 q2 => ?_, fun q hq => ?_⟩
    · rw [g8.2 q (by rw [h0]; exact Nat.lt_of_lt_of_le q1 hP3.1) (fun z => q2 (hF q z)), h0]
      exact hP3.2.1 q q1 q2
    · rcases List.mem_append.mp hq with h | h
      · exact hP3.2.2 q h
      · exact hF _ (hL q h)
  have hwl : ∀ v ∈ L, sd_v ad' vz v = sd_v ad vz v := fun v hv => by
    rcases hwf with h | h
    · rw [g2 h]
    · simp only [ip_wf, Bool.and_eq_true] at h
      exact sd_v_ad (List.all_eq_true.mp h.1.2 v hv) g1
  have hwr : rest.map (sd_v ad' vz) = rest.map (sd_v ad vz) := by
    rcases hwf with h | h
    · rw [g2 h]
    · simp only [ip_wf, Bool.and_eq_true, List.all_append] at h
      exact sd_S_ad h.2.2 g1
  have hl' : lv_has ls (ip_mB j).2.2.1 (sd_al ad' vz L) := by
    refine ⟨hl.1, hl.2.1, fun q hq => ?_⟩
    obtain ⟨k, w, q1, q2, rfl⟩ := sd_al_of hq
    rw [hwl w (List.mem_of_getElem? q1)]
    exact sd_ld hl q1 q2
  have key := IH top j (pc + 3) L (r1.1.toList ++ rest) r1.2 _ res hrun p e R s m args below meth c A Q ad' T'.heap (locs ++ L2) ls sz0 hC (hV.ads g1) (hT.ads g1) hA hl' ⟨by rw [e1]; exact g6, g7.weaken (fun _ q _ h => hF q.1 h), hS1, Nat.le_trans hP4 g3, g4⟩ (hH.step g1 hP4 (fun z => g2 (hmc z)))
  obtain ⟨t2, a1, b1⟩ := key T' rfl X'
  refine ⟨t2, st t2 ?_, b1⟩
  have es : (r1.1.toList ++ rest).map (sd_v ad' vz) = (r1.1.map (sd_v ad' vz)).toList ++ rest.map (sd_v ad vz) := by
    rw [List.map_append, hwr]
    congr 1
    cases r1.1 <;> rfl
  rw [es] at a1
  exact a1
end SDC
end
section
/-! ===== the machine does what the interpreter says: fields and arrays ===== -/
theorem sd_FL {j idx aux : Nat} (h : ip_FL.any (fun e => decide (e.1 = (ip_mI j).1 ∧ e.2.1 = idx ∧ e.2.2.1 = aux)) = true) : ∃ (r : vw_C), vwCl[aux / 64]? = some r ∧ aux % 64 < r.2.2 ∧ (r.2.1 (aux % 64)).1 = r.1 ∧
    (Jvm.Cond.fieldLinkNest (ip_own j) idx r.1 (r.2.1 (aux % 64)).2.1 (r.2.1 (aux % 64)).2.2.1 "HandedSlips" ∈ lw_tbl ∨ Jvm.Cond.fieldLink (ip_own j) idx r.1 (r.2.1 (aux % 64)).2.1 (r.2.1 (aux % 64)).2.2.1 ∈ lw_tbl) := by
  obtain ⟨e, he, h1⟩ := List.any_eq_true.mp h
  simp only [decide_eq_true_eq] at h1
  obtain ⟨e1, e2, e3⟩ := h1
  have h2 := List.all_eq_true.mp ip_FLok e he
  obtain ⟨oc, ix, ax, ps, nest⟩ := e
  dsimp only at e1 e2 e3
  subst e1 e2 e3
  unfold ip_flc at h2
  dsimp only at h2
  cases hr : vwCl[ax / 64]? with
  | none => rw [hr] at h2; cases h2
  | some r =>
    rw [hr] at h2
    simp only [Bool.and_eq_true, decide_eq_true_eq] at h2
    refine ⟨r, rfl, h2.1.1, h2.1.2, ?_⟩
    have hm := List.mem_of_getElem? h2.2
    cases nest with
    | true => exact Or.inl hm
    | false => exact Or.inr hm
theorem sd_lt {D : va_G} {dA : Nat → ClassId} {ad : Nat → Nat} {A : Nat → Prop} {s : State} {H : Heap} {locs : List Loc} {sz0 : Nat} {M : ip_M} (hP : sd_P D dA ad A s H locs sz0 M) {k : Nat} {q : ip_Sh} (h : M.1[k]? = some q) : k ≠ ip_EX + 50 := by
  have := (List.getElem?_eq_some_iff.mp h).1
  have := hP.2.2.2.2
  omega
section SDF
variable {p : Program} {l : Launch} {e : Env} {R : Room} {s : State} {m : MethodId} {args : Array Value} {below : List Frame} {meth : Method} {c : Code} {H : Heap} {locs : List Loc} {cells slots : Nat} {Q : State → Prop}
variable {D : va_G} {dA : Nat → ClassId} {ad : Nat → Nat} {vz : Value} {A : Nat → Prop} {ls : Array Slot} {j pc aux sz0 idx : Nat} {M : ip_M} {k : Nat} {rest : List Value}
theorem sd_getf (hC : sd_C p s m meth c args R j) (hV : sd_V D dA ad vz A s s.heap) (hP : sd_P D dA ad A s H locs sz0 M) (hdec : decode (ip_mB j).2.1 pc = .ok (.getfield idx, 3)) (ha : aux < 100000) (hlk : ip_lk j pc aux (.getfield idx) = true) {v : Value} (h : ip_gf M k aux = some v)
    (kk : W p l e R s m args below meth c H locs cells slots Q (F0 m (pc + 3) ls (sd_v ad vz v :: rest))) : W p l e R s m args below meth c H locs cells slots Q (F0 m pc ls (sd_v ad vz (.ref k) :: rest)) := by
  obtain ⟨hx, hb, hml, hown, hts, -⟩ := hC
  simp only [ip_lk, if_pos ha] at hlk
  obtain ⟨⟨C, T, N⟩, hr, hN, hT1, hlink⟩ := sd_FL hlk
  dsimp only at hN hT1 hlink
  unfold ip_gf at h
  split at h
  · rename_i ci lf hk
    split at h
    · rename_i hci
      subst hci
      cases hd : lf[aux % 64]? with
      | none => rw [hd] at h; cases h
      | some d =>
        rw [hd] at h
        simp only [Option.bind_some] at h
        rw [sd_v_ref (sd_lt hP hk)]
        have he := sd_wk' (ad := ad) (dA := dA) hk
        have hfs : (lf.mapIdx (fun f d => sd_fv ad M.2.1 M.2.2 k f d))[aux % 64]? = some (sd_v ad vz v) := by
          rw [List.getElem?_mapIdx, hd]
          simp only [Option.map_some, Option.some.injEq]
          match d, h with
          | 0, h => simp only [ip_fd, Option.some.injEq] at h; subst h; rfl
          | 1, h => simp only [ip_fd, Option.some.injEq] at h; subst h; rfl
          | 2, h => cases h
          | d + 3, h =>
            simp only [ip_fd] at h
            split at h
            · cases h
              rename_i hlt
              rw [sd_v_ref (by omega)]
              rfl
            · cases h
        have hin : ∀ w ∈ u_ws C T N, w ∈ ip_good := fun w hw => by
          have h1 := ip_cl_in _ _ hr w hw
          refine ip_good_mem h1 ?_
          obtain ⟨i, -, rfl⟩ := List.mem_map.mp hw
          unfold u_lay
          split <;> rfl
        have hsame : ∀ x, s.fieldFound? (T (aux % 64)).1 (T (aux % 64)).2.1 (T (aux % 64)).2.2.1 = some x → s.fieldFound? C (T (aux % 64)).2.1 (T (aux % 64)).2.2.1 = some x := fun x hx => by rw [hT1] at hx; exact hx
        rcases hlink with hlink | hlink
        · exact va_getN (ref := C) (host := "HandedSlips") hx hb hts hin hown hV.1 hP.1 k he hr (aux % 64) hN (va_Nw.use rfl (hV.2.1 _ (ip_nst_mem hlink rfl))) hsame hfs hdec kk
        · exact va_get (ref := C) hx hb hts hin hown hV.1 hP.1 k he hr (aux % 64) hN (hts _ (ip_good_mem hlink rfl)) hsame hfs hdec kk
    · cases h
  · cases h
theorem sd_getS (hC : sd_C p s m meth c args R j) (hV : sd_V D dA ad vz A s s.heap) (hP : sd_P D dA ad A s H locs sz0 M) (hdec : decode (ip_mB j).2.1 pc = .ok (.getfield idx, 3)) (ha : ¬ aux < 100000) (hlk : ip_lk j pc aux (.getfield idx) = true) (hk : ip_EX + 1 ≤ k) (hk2 : k < ip_EX + 6)
    (kk : W p l e R s m args below meth c H locs cells slots Q (F0 m (pc + 3) ls (sd_v ad vz (if aux = 100000 then .ref (k + 10) else .int 0) :: rest))) : W p l e R s m args below meth c H locs cells slots Q (F0 m pc ls (sd_v ad vz (.ref k) :: rest)) := by
  obtain ⟨hx, hb, hml, hown, hts, -⟩ := hC
  simp only [ip_lk, if_neg ha, decide_eq_true_eq] at hlk
  obtain ⟨ho, hi⟩ := hlk
  rw [ho] at hown
  rw [sd_v_ref (by omega)]
  have hS := (hV.2.2.2.2.1).1 (k - (ip_EX + 1)) (by omega)
  have e1 : ip_EX + 1 + (k - (ip_EX + 1)) = k := by omega
  have e2 : ip_EX + 11 + (k - (ip_EX + 1)) = k + 10 := by omega
  dsimp only at hS
  rw [e1, e2] at hS
  rcases hi with ⟨h1, h2⟩ | ⟨h1, h2⟩
  · subst h1 h2
    rw [if_pos rfl, sd_v_ref (by omega)] at kk
    exact vk_getf hx hb hS.2.2.1 hP.2.2.1 hown (hts _ (ip_good_mem ip_w_str.1 rfl)) (fun _ h => h) hdec kk
  · subst h1 h2
    rw [if_neg (by decide)] at kk
    exact vk_getf hx hb hS.2.1 hP.2.2.1 hown (hts _ (ip_good_mem ip_w_str.2.1 rfl)) (fun _ h => h) hdec kk
theorem sd_gets (hC : sd_C p s m meth c args R j) (hV : sd_V D dA ad vz A s s.heap) (hP : sd_P D dA ad A s H locs sz0 M) (hdec : decode (ip_mB j).2.1 pc = .ok (.getstatic idx, 3)) (hlk : ip_lk j pc aux (.getstatic idx) = true)
    (kk : W p l e R s m args below meth c H locs cells slots Q (F0 m (pc + 3) ls ((if aux = 0 then .int 1 else vz) :: rest))) : W p l e R s m args below meth c H locs cells slots Q (F0 m pc ls rest) := by
  obtain ⟨hx, hb, hml, hown, hts, -⟩ := hC
  simp only [ip_lk, decide_eq_true_eq] at hlk
  obtain ⟨ho, hi⟩ := hlk
  rw [ho] at hown
  rcases hi with ⟨h1, h2⟩ | ⟨h1, h2⟩
  · subst h1 h2
    rw [if_pos rfl] at kk
    exact va_gets hx hb hV.2.2.2.2.2.2.1 hP.2.2.1 hown (hts _ (ip_good_mem ip_w_str.2.2.1 rfl)) (fun _ h => h) hdec kk
  · subst h1 h2
    rw [if_neg (by decide)] at kk
    exact va_gets hx hb hV.2.2.2.2.2.2.2 hP.2.2.1 hown (hts _ (ip_good_mem ip_w_str.2.2.2 rfl)) (fun _ h => h) hdec kk
theorem sd_fs {lf : List Nat} {f d0 d' : Nat} {F F' : ip_F} {G G' : ip_G} (hf : lf[f]? = some d0) (hF : ∀ b, b ≠ f → F' k b = F k b) (hG : ∀ b, b ≠ f → G' k b = G k b) :
    (lf.set f d').mapIdx (fun f d => sd_fv ad F' G' k f d) = (lf.mapIdx (fun f d => sd_fv ad F G k f d)).set f (sd_fv ad F' G' k f d') := by
  have hl : f < lf.length := (List.getElem?_eq_some_iff.mp hf).1
  apply List.ext_getElem?
  intro i
  rw [List.getElem?_mapIdx]
  by_cases hi : i = f
  · subst hi
    rw [List.getElem?_set_self hl, List.getElem?_set_self (by simpa using hl)]
    rfl
  · rw [List.getElem?_set_ne (Ne.symm hi), List.getElem?_set_ne (Ne.symm hi), List.getElem?_mapIdx]
    cases lf[i]? with
    | none => rfl
    | some d =>
      simp only [Option.map_some, Option.some.injEq]
      match d with
      | 0 => simp [sd_fv, hF i hi]
      | 1 => simp [sd_fv, hG i hi]
      | 2 => rfl
      | d + 3 => rfl
theorem sd_putf (hC : sd_C p s m meth c args R j) (hV : sd_V D dA ad vz A s s.heap) (hP : sd_P D dA ad A s H locs sz0 M) (hdec : decode (ip_mB j).2.1 pc = .ok (.putfield idx, 3)) (hlk : ip_lk j pc aux (.putfield idx) = true) {v : Value} {M' : ip_M} (h : ip_pf M k aux v = some M')
    (kk : ∀ (H1 : Heap) (locs1 : List Loc), sd_P D dA ad A s H1 locs1 sz0 M' → W p l e R s m args below meth c H1 locs1 cells slots Q (F0 m (pc + 3) ls rest)) : W p l e R s m args below meth c H locs cells slots Q (F0 m pc ls (sd_v ad vz v :: sd_v ad vz (.ref k) :: rest)) := by
  obtain ⟨hx, hb, hml, hown, hts, hin0, -⟩ := hC
  obtain ⟨g1, g2, g3, g4, g5⟩ := hP
  have hP : sd_P D dA ad A s H locs sz0 M := ⟨g1, g2, g3, g4, g5⟩
  simp only [ip_lk] at hlk
  obtain ⟨en, hen, h1⟩ := List.any_eq_true.mp hlk
  simp only [Bool.and_eq_true, decide_eq_true_eq] at h1
  obtain ⟨⟨e1, e2, e3⟩, hfin⟩ := h1
  have h2 := List.all_eq_true.mp ip_FLok en hen
  obtain ⟨oc, ix, ax, ps, nest⟩ := en
  dsimp only at e1 e2 e3 hfin
  subst e1 e2 e3
  unfold ip_flc at h2
  dsimp only at h2
  cases hr : vwCl[ax / 64]? with
  | none => rw [hr] at h2; cases h2
  | some r =>
    rw [hr] at h2 hfin
    obtain ⟨C, T, N⟩ := r
    simp only [Bool.and_eq_true, decide_eq_true_eq] at h2
    obtain ⟨⟨hN, hT1⟩, hps⟩ := h2
    have hlink := List.mem_of_getElem? hps
    obtain ⟨hty, hnm⟩ := ip_cl_ty _ _ hr
    dsimp only at hty hnm
    have hin : ∀ w ∈ u_ws C T N, w ∈ ip_good := fun w hw => by
      have h1 := ip_cl_in _ _ hr w hw
      refine ip_good_mem h1 ?_
      obtain ⟨i, -, rfl⟩ := List.mem_map.mp hw
      unfold u_lay
      split <;> rfl
    have hsame : ∀ x, s.fieldFound? (T (ax % 64)).1 (T (ax % 64)).2.1 (T (ax % 64)).2.2.1 = some x → s.fieldFound? C (T (ax % 64)).2.1 (T (ax % 64)).2.2.1 = some x := fun x hx => by rw [hT1] at hx; exact hx
    unfold ip_pf at h
    split at h
    · rename_i ci lf hk
      split at h
      · rename_i hci
        subst hci
        cases hd : lf[ax % 64]? with
        | none => rw [hd] at h; cases h
        | some d =>
          rw [hd] at h
          simp only [Option.bind_some] at h
          rw [sd_v_ref (sd_lt hP hk)]
          have he := sd_wk' (ad := ad) (dA := dA) hk
          have hl : ax % 64 < (lf.mapIdx (fun f d => sd_fv ad M.2.1 M.2.2 k f d)).length := by simpa using (List.getElem?_eq_some_iff.mp hd).1
          -- the value fits, and the world behind is M''s
          have main : ∀ (ty : FieldType), ip_ty (ax / 64) (ax % 64) = ty → narrow ty (sd_v ad vz v) = sd_v ad vz v → fits ty (sd_v ad vz v) = true →
              sd_w ad dA M' = (sd_w ad dA M).set k (ad k, .inr (ax / 64, (lf.mapIdx (fun f d => sd_fv ad M.2.1 M.2.2 k f d)).set (ax % 64) (sd_v ad vz v))) → M'.1.length = M.1.length →
              W p l e R s m args below meth c H locs cells slots Q (F0 m pc ls (sd_v ad vz v :: .ref (ad k) :: rest)) := fun ty ety hn hf hw hlen => by
            have kk' : ∀ (H1 : Heap) (locs1 : List Loc), va_P D vwCl ((sd_w ad dA M).set k (ad k, .inr (ax / 64, (lf.mapIdx (fun f d => sd_fv ad M.2.1 M.2.2 k f d)).set (ax % 64) (sd_v ad vz v)))) H1 → va_D A ((sd_w ad dA M).set k (ad k, .inr (ax / 64, (lf.mapIdx (fun f d => sd_fv ad M.2.1 M.2.2 k f d)).set (ax % 64) (sd_v ad vz v)))) → va_S A s.heap H1 locs1 → W p l e R s m args below meth c H1 locs1 cells slots Q (F0 m (pc + 3) ls rest) := fun H1 locs1 q1 q2 q3 =>
              kk H1 locs1 ⟨by rw [hw]; exact q1, by rw [hw]; exact q2, q3, by rw [hlen]; exact g4, by rw [hlen]; exact g5⟩
            have hty2 := hty (ax % 64) hN
            rw [ety] at hty2
            cases hff : (T (ax % 64)).2.2.2 with
            | true =>
              simp only [hff, Bool.not_true, Bool.false_or, Bool.and_eq_true, decide_eq_true_eq, Bool.not_eq_true'] at hfin
              obtain ⟨⟨hi1, hi2⟩, hi3⟩ := hfin
              subst hi3
              simp only [if_neg Bool.false_ne_true] at hlink
              exact va_putF (ref := C) hx hb hts hin (ip_ty (ax / 64)) hty hnm hown hV.1 g1 g2 g3 k he hr (ax % 64) hN (hts _ (ip_good_mem hlink rfl)) hsame hff (hin0 hi1) (hT1.trans hi2.symm) hty2 hn hf hl hdec kk'
            | false =>
              cases nest with
              | true =>
                simp only [if_true] at hlink
                exact va_putN (ref := C) (host := "HandedSlips") hx hb hts hin (ip_ty (ax / 64)) hty hnm hown hV.1 g1 g2 g3 k he hr (ax % 64) hN (va_Nw.use rfl (hV.2.1 _ (ip_nst_mem hlink rfl))) hsame hff hty2 hn hf hl hdec kk'
              | false =>
                simp only [if_neg Bool.false_ne_true] at hlink
                exact va_put (ref := C) hx hb hts hin (ip_ty (ax / 64)) hty hnm hown hV.1 g1 g2 g3 k he hr (ax % 64) hN (hts _ (ip_good_mem hlink rfl)) hsame hff hty2 hn hf hl hdec kk'
          unfold ip_pv at h
          split at h
          · rename_i x ety
            split at h
            · rename_i hd0
              subst hd0
              cases h
              refine main _ ety rfl rfl ?_ rfl
              rw [sd_set' hk (fun a ha => by funext b; simp [ip_u, ha]) (fun a _ => rfl)]
              congr 2
              have := sd_fs (ad := ad) (k := k) (d' := 0) (F := M.2.1) (F' := ip_u M.2.1 k (ax % 64) x) (G := M.2.2) (G' := M.2.2) hd (fun b hb => by simp [ip_u, hb]) (fun _ _ => rfl)
              have hset : lf.set (ax % 64) 0 = lf := by
                apply List.ext_getElem?
                intro i
                by_cases hi : i = ax % 64
                · subst hi
                  rw [List.getElem?_set_self (by simpa using hl), hd]
                · rw [List.getElem?_set_ne (Ne.symm hi)]
              rw [hset] at this
              show (Sum.inr (ax / 64, lf.mapIdx (fun f d => sd_fv ad (ip_u M.2.1 k (ax % 64) x) M.2.2 k f d)) : va_E) = _
              rw [this]
              simp [sd_fv, ip_u, sd_v]
            · cases h
          · rename_i x ety
            split at h
            · rename_i hd0
              subst hd0
              cases h
              refine main _ ety rfl rfl ?_ rfl
              rw [sd_set' hk (fun a _ => rfl) (fun a ha => by funext b; simp [ip_ul, ha])]
              congr 2
              have := sd_fs (ad := ad) (k := k) (d' := 1) (F := M.2.1) (F' := M.2.1) (G := M.2.2) (G' := ip_ul M.2.2 k (ax % 64) x) hd (fun _ _ => rfl) (fun b hb => by simp [ip_ul, hb])
              have hset : lf.set (ax % 64) 1 = lf := by
                apply List.ext_getElem?
                intro i
                by_cases hi : i = ax % 64
                · subst hi
                  rw [List.getElem?_set_self (by simpa using hl), hd]
                · rw [List.getElem?_set_ne (Ne.symm hi)]
              rw [hset] at this
              show (Sum.inr (ax / 64, lf.mapIdx (fun f d => sd_fv ad M.2.1 (ip_ul M.2.2 k (ax % 64) x) k f d)) : va_E) = _
              rw [this]
              simp [sd_fv, ip_ul, sd_v]
            · cases h
          · rename_i nm r ety
            split at h
            · rename_i hd0
              cases h
              have hrr : sd_v ad vz (.ref r) = .ref (ad r) := sd_v_ref (Nat.ne_of_lt (Nat.lt_of_lt_of_le hd0.2 (Nat.le_trans g5 (Nat.le_add_right _ _))))
              refine main _ ety (by rw [hrr]; rfl) (by rw [hrr]; rfl) ?_ (by simp)
              rw [sd_set hk (fun a _ => rfl) (fun a _ => rfl)]
              congr 2
              have := sd_fs (ad := ad) (k := k) (d' := r + 3) (F := M.2.1) (F' := M.2.1) (G := M.2.2) (G' := M.2.2) hd (fun _ _ => rfl) (fun _ _ => rfl)
              show (Sum.inr (ax / 64, (lf.set (ax % 64) (r + 3)).mapIdx (fun f d => sd_fv ad M.2.1 M.2.2 k f d)) : va_E) = _
              rw [this, hrr]
              rfl
            · cases h
          · rename_i nm r ety
            split at h
            · rename_i hd0
              cases h
              have hrr : sd_v ad vz (.ref r) = .ref (ad r) := sd_v_ref (Nat.ne_of_lt (Nat.lt_of_lt_of_le hd0.2 (Nat.le_trans g5 (Nat.le_add_right _ _))))
              refine main _ ety (by rw [hrr]; rfl) (by rw [hrr]; rfl) ?_ (by simp)
              rw [sd_set hk (fun a _ => rfl) (fun a _ => rfl)]
              congr 2
              have := sd_fs (ad := ad) (k := k) (d' := r + 3) (F := M.2.1) (F' := M.2.1) (G := M.2.2) (G' := M.2.2) hd (fun _ _ => rfl) (fun _ _ => rfl)
              show (Sum.inr (ax / 64, (lf.set (ax % 64) (r + 3)).mapIdx (fun f d => sd_fv ad M.2.1 M.2.2 k f d)) : va_E) = _
              rw [this, hrr]
              rfl
            · cases h
          · cases h
      · cases h
    · cases h
end SDF
end
section
/-! ===== the machine does what the interpreter says: arrays ===== -/
theorem sd_eu {ad : Nat → Nat} {dA : Nat → ClassId} {F : ip_F} {G : ip_G} {k t n i : Nat} {q : List Nat} {x : Int32} : sd_e ad dA (ip_u F k i x) G k (1, t, n :: q) = .inl (dA t, n, .inl (upd (F k) i x)) := by
  have : ip_u F k i x k = upd (F k) i x := by funext b; simp [ip_u, upd]
  show (Sum.inl (dA t, n, Sum.inl (ip_u F k i x k)) : va_E) = _
  rw [this]
section SDA
variable {p : Program} {l : Launch} {e : Env} {R : Room} {s : State} {m : MethodId} {args : Array Value} {below : List Frame} {meth : Method} {c : Code} {H : Heap} {locs : List Loc} {cells slots : Nat} {Q : State → Prop}
variable {D : va_G} {dA : Nat → ClassId} {ad : Nat → Nat} {vz : Value} {A : Nat → Prop} {ls : Array Slot} {j pc aux sz0 idx : Nat} {M : ip_M} {k : Nat} {rest : List Value}
theorem sd_ia {t : Nat} {i : Int32} (h : ip_ia M t k i = true) : ∃ (n : Nat) (q : List Nat), M.1[k]? = some (1, t, n :: q) ∧ vp_in i n := by
  unfold ip_ia at h
  split at h
  · rename_i t' n q hk
    simp only [Bool.and_eq_true, decide_eq_true_eq, Bool.not_eq_true', decide_eq_false_iff_not] at h
    obtain ⟨h1, h2⟩ := h
    subst h1
    exact ⟨n, q, hk, h2⟩
  · cases h
theorem sd_ial {top : ip_Top} (hC : sd_C p s m meth c args R j) (hV : sd_V D dA ad vz A s s.heap) (hT : sd_Tp top ad A s) (hP : sd_P D dA ad A s H locs sz0 M) (hdec : decode (ip_mB j).2.1 pc = .ok (.iaload, 1)) {i : Int32} {v : Value} (h : ip_ial top M k i = some v)
    (kk : W p l e R s m args below meth c H locs cells slots Q (F0 m (pc + 1) ls (sd_v ad vz v :: rest))) : W p l e R s m args below meth c H locs cells slots Q (F0 m pc ls (.int i :: sd_v ad vz (.ref k) :: rest)) := by
  obtain ⟨hx, hb, -⟩ := hC
  unfold ip_ial at h
  split at h
  · rename_i hi
    cases h
    obtain ⟨n, q, hk, hin⟩ := sd_ia hi
    rw [sd_v_ref (sd_lt hP hk)]
    exact va_iald hx hb hV.1 hP.1 k 0 (sd_wk' hk) rfl hin hdec kk
  · split at h
    · rename_i hk
      subst hk
      cases top with
      | none => cases h
      | some q =>
        obtain ⟨L, xs⟩ := q
        simp only [Option.bind_some] at h
        split at h
        · cases h
        · rename_i hin
          cases h
          rw [sd_v_ref (by omega)]
          exact va_sld hx hb hT.1 hT.2.1 hT.2.2 hP.2.2.1 hin hdec kk
    · cases h
theorem sd_bal (hC : sd_C p s m meth c args R j) (hV : sd_V D dA ad vz A s s.heap) (hP : sd_P D dA ad A s H locs sz0 M) (hdec : decode (ip_mB j).2.1 pc = .ok (.baload, 1)) {i : Int32} {v : Value} (h : ip_bal M k i = some v)
    (kk : W p l e R s m args below meth c H locs cells slots Q (F0 m (pc + 1) ls (sd_v ad vz v :: rest))) : W p l e R s m args below meth c H locs cells slots Q (F0 m pc ls (.int i :: sd_v ad vz (.ref k) :: rest)) := by
  obtain ⟨hx, hb, -⟩ := hC
  unfold ip_bal at h
  split at h
  · rename_i hi
    cases h
    simp only [Bool.or_eq_true] at hi
    rcases hi with hi | hi
    · obtain ⟨n, q, hk, hin⟩ := sd_ia hi
      rw [sd_v_ref (sd_lt hP hk)]
      exact va_zald hx hb hV.1 hP.1 k 1 (sd_wk' hk) rfl hin hdec kk
    · obtain ⟨n, q, hk, hin⟩ := sd_ia hi
      rw [sd_v_ref (sd_lt hP hk)]
      exact va_bald hx hb hV.1 hP.1 k 2 (sd_wk' hk) rfl hin hdec kk
  · split at h
    · rename_i hk
      split at h
      · cases h
      · rename_i hin
        cases h
        rw [sd_v_ref (by omega)]
        have hS := ((hV.2.2.2.2.1).1 (k - (ip_EX + 11)) (by omega)).2.2.2
        dsimp only at hS
        rw [show ip_EX + 11 + (k - (ip_EX + 11)) = k by omega] at hS
        exact va_tb hx hb hS hP.2.2.1 hin rfl hdec kk
    · cases h
theorem sd_aal (hC : sd_C p s m meth c args R j) (hV : sd_V D dA ad vz A s s.heap) (hP : sd_P D dA ad A s H locs sz0 M) (hdec : decode (ip_mB j).2.1 pc = .ok (.aaload, 1)) {i : Int32} {v : Value} (h : ip_aa M k i = some v)
    (kk : W p l e R s m args below meth c H locs cells slots Q (F0 m (pc + 1) ls (sd_v ad vz v :: rest))) : W p l e R s m args below meth c H locs cells slots Q (F0 m pc ls (.int i :: sd_v ad vz (.ref k) :: rest)) := by
  obtain ⟨hx, hb, -⟩ := hC
  unfold ip_aa at h
  split at h
  · rename_i lf hk
    split at h
    · cases h
    · rename_i hi0
      cases hd : lf[i.toNatClampNeg]? with
      | none => rw [hd] at h; cases h
      | some d =>
        rw [hd] at h
        simp only [Option.bind_some] at h
        have hlt : i.toNatClampNeg < lf.length := (List.getElem?_eq_some_iff.mp hd).1
        match d, h with
        | 0, h => cases h
        | d + 1, h =>
          simp only at h
          split at h
          · rename_i hdx
            cases h
            rw [sd_v_ref (sd_lt hP hk)]
            rw [sd_v_ref (by omega)] at kk
            have hin : vp_in i lf.length := fun q => by
              rcases q with q | q
              · exact hi0 q
              · omega
            have hcell := hP.1 k _ (sd_wk' (ad := ad) (dA := dA) hk)
            have hread : sd_rw ad lf i.toNatClampNeg = some (ad d) := by simp [sd_rw, hd, sd_ro]
            exact W.aald (v := .ref (ad d)) (ty := .array .int) hx hb hcell ((hV.1.2 3 _ rfl).1 lf.length (fun j => va_rf (sd_rw ad lf j))) rfl (fun q => by cases q) (by show ¬ (i < 0 ∨ (arrV _ _ _).slots.size ≤ _); rw [arrV_size]; exact hin) (by show (arrV _ _ _).slots[_]? = _; rw [arrV_read _ _ hlt, hread]; rfl) rfl rfl hdec kk
          · cases h
  · cases h
theorem sd_ias (hC : sd_C p s m meth c args R j) (hV : sd_V D dA ad vz A s s.heap) (hP : sd_P D dA ad A s H locs sz0 M) (hdec : decode (ip_mB j).2.1 pc = .ok (.iastore, 1)) {i x : Int32} (h : ip_ia M 0 k i = true)
    (kk : ∀ (H1 : Heap) (locs1 : List Loc), sd_P D dA ad A s H1 locs1 sz0 (M.1, ip_u M.2.1 k i.toNatClampNeg x, M.2.2) → W p l e R s m args below meth c H1 locs1 cells slots Q (F0 m (pc + 1) ls rest)) : W p l e R s m args below meth c H locs cells slots Q (F0 m pc ls (.int x :: .int i :: sd_v ad vz (.ref k) :: rest)) := by
  obtain ⟨hx, hb, -⟩ := hC
  obtain ⟨n, q, hk, hin⟩ := sd_ia h
  rw [sd_v_ref (sd_lt hP hk)]
  obtain ⟨g1, g2, g3, g4, g5⟩ := hP
  have hw : sd_w ad dA (M.1, ip_u M.2.1 k i.toNatClampNeg x, M.2.2) = (sd_w ad dA M).set k (ad k, .inl (dA 0, n, .inl (upd (M.2.1 k) i.toNatClampNeg x))) := by
    rw [sd_set' hk (fun a ha => by funext b; simp [ip_u, ha]) (fun a _ => rfl), sd_eu]
  refine va_iast hx hb hV.1 g1 g2 g3 k 0 (sd_wk' hk) rfl hin hdec fun H1 locs1 q1 q2 q3 => ?_
  exact kk H1 locs1 ⟨by rw [hw]; exact q1, by rw [hw]; exact q2, q3, g4, g5⟩
theorem sd_bas (hC : sd_C p s m meth c args R j) (hV : sd_V D dA ad vz A s s.heap) (hP : sd_P D dA ad A s H locs sz0 M) (hdec : decode (ip_mB j).2.1 pc = .ok (.bastore, 1)) {i x : Int32} {M' : ip_M} (h : ip_bas M k i x = some M')
    (kk : ∀ (H1 : Heap) (locs1 : List Loc), sd_P D dA ad A s H1 locs1 sz0 M' → W p l e R s m args below meth c H1 locs1 cells slots Q (F0 m (pc + 1) ls rest)) : W p l e R s m args below meth c H locs cells slots Q (F0 m pc ls (.int x :: .int i :: sd_v ad vz (.ref k) :: rest)) := by
  obtain ⟨hx, hb, -⟩ := hC
  unfold ip_bas at h
  split at h
  · rename_i hi
    cases h
    obtain ⟨n, q, hk, hin⟩ := sd_ia hi
    rw [sd_v_ref (sd_lt hP hk)]
    obtain ⟨g1, g2, g3, g4, g5⟩ := hP
    have hw : sd_w ad dA (M.1, ip_u M.2.1 k i.toNatClampNeg (vp_nar .boolean x), M.2.2) = (sd_w ad dA M).set k (ad k, .inl (dA 1, n, .inl (upd (M.2.1 k) i.toNatClampNeg (vp_nar .boolean x)))) := by
      rw [sd_set' hk (fun a ha => by funext b; simp [ip_u, ha]) (fun a _ => rfl), sd_eu]
    refine va_zast hx hb hV.1 g1 g2 g3 k 1 (sd_wk' hk) rfl hin hdec fun H1 locs1 q1 q2 q3 => ?_
    exact kk H1 locs1 ⟨by rw [hw]; exact q1, by rw [hw]; exact q2, q3, g4, g5⟩
  · split at h
    · rename_i hi
      cases h
      obtain ⟨n, q, hk, hin⟩ := sd_ia hi
      rw [sd_v_ref (sd_lt hP hk)]
      obtain ⟨g1, g2, g3, g4, g5⟩ := hP
      have hw : sd_w ad dA (M.1, ip_u M.2.1 k i.toNatClampNeg (vp_nar .byte x), M.2.2) = (sd_w ad dA M).set k (ad k, .inl (dA 2, n, .inl (upd (M.2.1 k) i.toNatClampNeg (vp_nar .byte x)))) := by
        rw [sd_set' hk (fun a ha => by funext b; simp [ip_u, ha]) (fun a _ => rfl), sd_eu]
      refine va_bast hx hb hV.1 g1 g2 g3 k 2 (sd_wk' hk) rfl hin hdec fun H1 locs1 q1 q2 q3 => ?_
      exact kk H1 locs1 ⟨by rw [hw]; exact q1, by rw [hw]; exact q2, q3, g4, g5⟩
    · cases h
theorem sd_len {top : ip_Top} (hC : sd_C p s m meth c args R j) (hV : sd_V D dA ad vz A s s.heap) (hT : sd_Tp top ad A s) (hP : sd_P D dA ad A s H locs sz0 M) (hdec : decode (ip_mB j).2.1 pc = .ok (.arraylength, 1)) {v : Int32} (h : ip_len top M k = some v)
    (kk : W p l e R s m args below meth c H locs cells slots Q (F0 m (pc + 1) ls (.int v :: rest))) : W p l e R s m args below meth c H locs cells slots Q (F0 m pc ls (sd_v ad vz (.ref k) :: rest)) := by
  obtain ⟨hx, hb, -⟩ := hC
  unfold ip_len at h
  split at h
  · rename_i t n q hk
    split at h
    · rename_i ht
      cases h
      rw [sd_v_ref (sd_lt hP hk)]
      match t, ht, hk with
      | 0, _, hk => exact va_alen hx hb hV.1 hP.1 k 0 (sd_wk' hk) rfl rfl hdec kk
      | 1, _, hk => exact va_alen hx hb hV.1 hP.1 k 1 (sd_wk' hk) rfl rfl hdec kk
      | 2, _, hk => exact va_alen hx hb hV.1 hP.1 k 2 (sd_wk' hk) rfl rfl hdec kk
    · cases h
  · rename_i lf hk
    cases h
    rw [sd_v_ref (sd_lt hP hk)]
    exact va_alen hx hb hV.1 hP.1 k 3 (sd_wk' hk) rfl rfl hdec kk
  · cases h
  · split at h
    · rename_i hk
      subst hk
      cases top with
      | none => cases h
      | some q =>
        obtain ⟨L, xs⟩ := q
        simp only [Option.map_some, Option.some.injEq] at h
        subst h
        rw [sd_v_ref (by omega)]
        exact va_slen hx hb hT.1 hT.2.1 hT.2.2 hP.2.2.1 hdec kk
    · split at h
      · rename_i hk
        have h := Option.some.inj h
        subst h
        rw [sd_v_ref (by omega)]
        have hS := ((hV.2.2.2.2.1).1 (k - (ip_EX + 11)) (by omega)).2.2.2
        dsimp only at hS
        rw [show ip_EX + 11 + (k - (ip_EX + 11)) = k by omega] at hS
        exact va_tlen hx hb hS hP.2.2.1 rfl hdec kk
      · cases h
theorem sd_copy (hC : sd_C p s m meth c args R j) (hV : sd_V D dA ad vz A s s.heap) (hls : ls.size = (ip_mB j).2.2.1) (hP : sd_P D dA ad A s H locs sz0 M) (hdec : decode (ip_mB j).2.1 pc = .ok (.invokestatic idx, 3)) (hlk : ip_AL.any (fun e => decide (e.1 = (ip_mI j).1 ∧ e.2.1 = idx)) = true) {S : List Value} {q : List Value × ip_M} (h : ip_copy j S M = some q)
    (kk : ∀ (H1 : Heap) (locs1 : List Loc), sd_P D dA ad A s H1 locs1 sz0 q.2 → W p l e R s m args below meth c H1 locs1 cells slots Q (F0 m (pc + 3) ls (q.1.map (sd_v ad vz)))) : W p l e R s m args below meth c H locs cells slots Q (F0 m pc ls (S.map (sd_v ad vz))) := by
  obtain ⟨hx, hb, hml, hown, hts, -, hfr, hlo, -⟩ := hC
  obtain ⟨en, hen, h1⟩ := List.any_eq_true.mp hlk
  simp only [decide_eq_true_eq] at h1
  obtain ⟨e1, e2⟩ := h1
  have h2 := List.all_eq_true.mp ip_ALok en hen
  simp only [decide_eq_true_eq] at h2
  have hm := ip_good_mem (List.mem_of_getElem? h2) rfl
  rw [e1, e2] at hm
  unfold ip_copy at h
  split at h
  · rename_i n dp d sp a rest
    split at h
    · rename_i n0 q0 n1 q1 ha hd
      split at h
      · rename_i hc
        cases h
        obtain ⟨c1, c2, c3, c4, c5⟩ := hc
        simp only [List.map_cons]
        rw [sd_v_ref (sd_lt hP ha), sd_v_ref (sd_lt hP hd)]
        obtain ⟨g1, g2, g3, g4, g5⟩ := hP
        have hw : sd_w ad dA (M.1, ip_ur M.2.1 d (va_cpy (M.2.1 a) (M.2.1 d) sp.toNatClampNeg dp.toNatClampNeg n.toNatClampNeg), M.2.2) = (sd_w ad dA M).set d (ad d, .inl (dA 0, n1, .inl (va_cpy (M.2.1 a) (M.2.1 d) sp.toNatClampNeg dp.toNatClampNeg n.toNatClampNeg))) := by
          rw [sd_set' hd (fun a ha => by funext b; simp [ip_ur, ha]) (fun a _ => rfl)]
          congr 2
          simp [sd_e, ip_ur]
        have hw8 : nativeFrameWords "java/lang/System" "arraycopy" 5 = 7 := by decide
        refine va_copyi (ty := .int) hx hb (hml.trans hls.symm) hown (hts _ hm) (hts _ (ip_good_mem ip_w_acp.1 rfl)) (hts _ (ip_good_mem ip_w_acp.2.1 rfl)) (hts _ (ip_good_mem ip_w_acp.2.2 rfl)) hV.1 g1 g2 g3 a d 0 0 (sd_wk' ha) (sd_wk' hd) rfl rfl rfl (fun z => c1 (Or.inl z)) (fun z => c1 (Or.inr (Or.inl z))) (fun z => c1 (Or.inr (Or.inr z))) c2 c3 (fun _ _ => rfl) (by rw [hfr]; exact c4) (by rw [sd_cat hV.2.2.2.1, hw8, hlo]; omega) hdec fun H1 locs1 q1 q2 q3 => ?_
        exact kk H1 locs1 ⟨by rw [hw]; exact q1, by rw [hw]; exact q2, q3, g4, g5⟩
      · cases h
    · cases h
  · cases h
end SDA
end
section
/-! ===== the machine does what the interpreter says: new cells, calls ===== -/
theorem sd_al_ad {ad ad' : Nat → Nat} {vz : Value} {n : Nat} {L : List Value} {ls : Array Slot} {nL : Nat} (hv : L.all (ip_wfv n) = true) (ha : sd_ag n ad ad') (hl : lv_has ls nL (sd_al ad vz L)) : lv_has ls nL (sd_al ad' vz L) := by
  refine ⟨hl.1, hl.2.1, fun q hq => ?_⟩
  obtain ⟨k, w, q1, q2, rfl⟩ := sd_al_of hq
  rw [sd_v_ad (List.all_eq_true.mp hv w (List.mem_of_getElem? q1)) ha]
  exact sd_ld hl q1 q2
theorem sd_wf {M : ip_M} {L S : List Value} (h : ip_wf M L S = true) : M.1.length < ip_EX ∧ M.1.all (ip_wfs M.1.length) = true ∧ L.all (ip_wfv M.1.length) = true ∧ S.all (ip_wfv M.1.length) = true := by
  simp only [ip_wf, Bool.and_eq_true, decide_eq_true_eq] at h
  exact ⟨h.1.1.1, h.1.1.2, h.1.2, h.2⟩
section SDN
variable {p : Program} {l : Launch} {e : Env} {R : Room} {s : State} {m : MethodId} {args : Array Value} {below : List Frame} {meth : Method} {c : Code} {H : Heap} {locs : List Loc} {cells slots : Nat} {Q : State → Prop}
variable {D : va_G} {dA : Nat → ClassId} {ad : Nat → Nat} {vz : Value} {A : Nat → Prop} {ls : Array Slot} {j pc aux sz0 idx : Nat} {M : ip_M} {L : List Value}
/-- what a step that makes cells hands on -/
def sd_Go (p : Program) (l : Launch) (e : Env) (R : Room) (s : State) (m : MethodId) (args : Array Value) (below : List Frame) (meth : Method) (c : Code) (D : va_G) (dA : Nat → ClassId) (vz : Value) (A : Nat → Prop) (Q : State → Prop) (ls : Array Slot) (j pc sz0 : Nat) (M : ip_M) (ad : Nat → Nat) (L S : List Value) (M' : ip_M) (cs' : Nat × Nat) : Prop :=
  ∀ (ad' : Nat → Nat) (H1 : Heap) (locs1 : List Loc), sd_ag M.1.length ad ad' → lv_has ls (ip_mB j).2.2.1 (sd_al ad' vz L) → sd_P D dA ad' A s H1 locs1 sz0 M' → W p l e R s m args below meth c H1 locs1 cs'.1 cs'.2 Q (F0 m pc ls (S.map (sd_v ad' vz)))
theorem sd_new {cs : Nat × Nat} (hC : sd_C p s m meth c args R j) (hV : sd_V D dA ad vz A s s.heap) (hA : ∀ q : Nat, s.heap.size ≤ q → A q) (hl : lv_has ls (ip_mB j).2.2.1 (sd_al ad vz L)) (hP : sd_P D dA ad A s H locs sz0 M) (hdec : decode (ip_mB j).2.1 pc = .ok (.new idx, 3)) (hlk : ip_lk j pc aux (.new idx) = true)
    {S : List Value} {q : ip_M × (Nat × Nat)} (h : ip_newO j aux L S M cs = some q) (kk : sd_Go p l e R s m args below meth c D dA vz A Q ls j (pc + 3) sz0 M ad L (.ref M.1.length :: S) q.1 q.2) : W p l e R s m args below meth c H locs cs.1 cs.2 Q (F0 m pc ls (S.map (sd_v ad vz))) := by
  obtain ⟨hx, hb, hml, hown, hts, -, hfr, hlo, hce, hsl⟩ := hC
  obtain ⟨g1, g2, g3, g4, g5⟩ := hP
  unfold ip_newO at h
  split at h
  · rename_i hc
    cases h
    simp only [Bool.and_eq_true, decide_eq_true_eq] at hc
    obtain ⟨⟨⟨hwf, c1⟩, c2⟩, c3⟩ := hc
    obtain ⟨w1, w2, w3, w4⟩ := sd_wf hwf
    simp only [ip_lk] at hlk
    obtain ⟨en, hen, h1⟩ := List.any_eq_true.mp hlk
    simp only [decide_eq_true_eq] at h1
    obtain ⟨e1, e2, e3⟩ := h1
    have h2 := List.all_eq_true.mp ip_NLok en hen
    obtain ⟨oc, ix, ci, p1, p2, p3⟩ := en
    dsimp only at e1 e2 e3
    subst e1 e2 e3
    unfold ip_nlc at h2
    dsimp only at h2
    cases hr : vwCl[ci]? with
    | none => rw [hr] at h2; cases h2
    | some r =>
      rw [hr] at h2
      obtain ⟨C, T, N⟩ := r
      simp only [Bool.and_eq_true, decide_eq_true_eq] at h2
      obtain ⟨⟨l1, l2⟩, l3⟩ := h2
      have m1 := ip_good_mem (List.mem_of_getElem? l1) rfl
      have m2 := ip_good_mem (List.mem_of_getElem? l2) rfl
      have m3 := ip_good_mem (List.mem_of_getElem? l3) rfl
      obtain ⟨hty, hnm⟩ := ip_cl_ty _ _ hr
      dsimp only at hty hnm
      have hlen : (ip_dfl ci).length = N := by rw [ip_dfl_len ci c3, hr]; rfl
      have hdfl : ∀ k, k < N → (ip_dfl ci)[k]? = some (match ip_ty ci k with | .int => 0 | .long => 1 | _ => 2) := fun k hk => by
        unfold ip_dfl
        rw [hr]
        simp only
        rw [List.getElem?_map, List.getElem?_range hk]
        rfl
      have hok : ∀ k, k < N → (match ip_ty ci k with | .int => true | .long => true | .object _ => true | .array _ => true | _ => false) = true := fun k hk => ip_ty_ok ci c3 k (by rw [hr]; exact hk)
      have hin : ∀ w ∈ u_ws C T N, w ∈ ip_good := fun w hw => by
        have h1 := ip_cl_in _ _ hr w hw
        refine ip_good_mem h1 ?_
        obtain ⟨i, -, rfl⟩ := List.mem_map.mp hw
        unfold u_lay
        split <;> rfl
      rw [hlen] at c2 kk
      refine va_new (ci := ci) (fs := (ip_dfl ci).mapIdx (fun f d => sd_fv ad (fun _ _ => 0) (fun _ _ => 0) 0 f d)) hx hb hts hin (ip_ty ci) hty hown (hts _ m1) (hts _ m2) (hts _ m3) hV.1 g1 g2 g3 hA hr (fun k hk => ?_) (by rw [hce]; exact c1) (by rw [hsl]; exact c2) hdec fun q H1 q1 q2 q3 => ?_
      · unfold vp_V
        rw [List.getD_eq_getElem?_getD, List.getElem?_mapIdx, hdfl k hk]
        have := hok k hk
        cases hkt : ip_ty ci k <;> rw [hkt] at this <;> first | rfl | cases this
      · have hag : sd_ag M.1.length ad (fun k => if k = M.1.length then q else ad k) := ⟨fun k hk => if_neg (by omega), fun k hk => if_neg (by omega)⟩
        have hw : sd_w (fun k => if k = M.1.length then q else ad k) dA (M.1 ++ [(3, ci, ip_dfl ci)], ip_ur M.2.1 M.1.length (fun _ => 0), ip_ur M.2.2 M.1.length (fun _ => 0)) = sd_w ad dA M ++ [(q, .inr (ci, (ip_dfl ci).mapIdx (fun f d => sd_fv ad (fun _ _ => 0) (fun _ _ => 0) 0 f d)))] := by
          rw [sd_app w2 hag.1 (fun a ha => by simp [ip_ur, Nat.ne_of_lt ha]) (fun a ha => by simp [ip_ur, Nat.ne_of_lt ha])]
          congr 1
          simp only [List.mapIdx_cons, List.mapIdx_nil, Nat.add_zero, if_true]
          congr 2
          show (Sum.inr (ci, (ip_dfl ci).mapIdx _) : va_E) = _
          congr 2
          apply List.ext_getElem?
          intro i
          rw [List.getElem?_mapIdx, List.getElem?_mapIdx]
          by_cases hi : i < N
          · rw [hdfl i hi]
            have := hok i hi
            cases hkt : ip_ty ci i <;> rw [hkt] at this <;> first | (cases this; done) | simp [sd_fv, ip_ur]
          · rw [List.getElem?_eq_none (by omega)]
            rfl
        have := kk _ H1 locs hag (sd_al_ad w3 hag hl) ⟨by rw [hw]; exact q1, by rw [hw]; exact q2, q3, by simp; omega, by simp; omega⟩
        simp only [List.map_cons] at this
        rw [sd_v_ref (by omega), if_pos rfl, sd_S_ad w4 hag] at this
        exact this
  · cases h
theorem sd_newa {cs : Nat × Nat} {t : ArrayType} {n : Int32} (hC : sd_C p s m meth c args R j) (hV : sd_V D dA ad vz A s s.heap) (hA : ∀ q : Nat, s.heap.size ≤ q → A q) (hl : lv_has ls (ip_mB j).2.2.1 (sd_al ad vz L)) (hP : sd_P D dA ad A s H locs sz0 M) (hdec : decode (ip_mB j).2.1 pc = .ok (.newarray t, 2))
    {S : List Value} {q : ip_M × (Nat × Nat)} (hn : ¬ n < 0) (h : ip_newA j (ip_atyp t) n.toNatClampNeg L S M cs = some q) (kk : sd_Go p l e R s m args below meth c D dA vz A Q ls j (pc + 2) sz0 M ad L (.ref M.1.length :: S) q.1 q.2) : W p l e R s m args below meth c H locs cs.1 cs.2 Q (F0 m pc ls (.int n :: S.map (sd_v ad vz))) := by
  obtain ⟨hx, hb, hml, hown, hts, -, hfr, hlo, hce, hsl⟩ := hC
  obtain ⟨g1, g2, g3, g4, g5⟩ := hP
  unfold ip_newA at h
  split at h
  · rename_i hc
    cases h
    simp only [Bool.and_eq_true, decide_eq_true_eq] at hc
    obtain ⟨⟨⟨⟨hwf, c1⟩, c2⟩, c3⟩, c4⟩ := hc
    obtain ⟨w1, w2, w3, w4⟩ := sd_wf hwf
    have main : ∀ (ty : FieldType), newarray.typeOf t = ty → (Jvm.Cond.arrayClass ty).before args s = true → defaultValue ty = .int 0 → componentBytes ty ≤ 4 → (sd_t dA)[ip_atyp t]? = some (dA (ip_atyp t), ty) → (∀ u cA, va_RA u cA ty = (u.vm.findClass ("[" ++ ty.toString) = some cA)) → W p l e R s m args below meth c H locs cs.1 cs.2 Q (F0 m pc ls (.int n :: S.map (sd_v ad vz))) := fun ty e1 e2 e3 e4 e5 e6 => by
      refine va_newa (ty := ty) (a0 := (n.toNatClampNeg, .inl (fun _ => 0))) hx hb (by rw [e1]; exact e2) e1 hV.1 g1 g2 g3 hA (fun cA => by rw [e3]; rfl) hn rfl (Nat.le_trans (Nat.mul_le_mul c3 e4) (by decide)) (by rw [hce]; exact c1) (by rw [hsl]; exact c2) hdec fun q cA H1 q0 q1 q2 q3 => ?_
      have hA1 : cA = dA (ip_atyp t) := by
        have r1 := (q0.2 (sd_t dA).length (cA, ty) (by simp)).2
        have r2 := (hV.1.2 _ _ e5).2
        rw [e6] at r1 r2
        exact Option.some.inj (r1.symm.trans r2)
      subst hA1
      have hag : sd_ag M.1.length ad (fun k => if k = M.1.length then q else ad k) := ⟨fun k hk => if_neg (by omega), fun k hk => if_neg (by omega)⟩
      have hw : sd_w (fun k => if k = M.1.length then q else ad k) dA (M.1 ++ [(1, ip_atyp t, [n.toNatClampNeg])], ip_ur M.2.1 M.1.length (fun _ => 0), M.2.2) = sd_w ad dA M ++ [(q, .inl (dA (ip_atyp t), n.toNatClampNeg, .inl (fun _ => 0)))] := by
        rw [sd_app w2 hag.1 (fun a ha => by simp [ip_ur, Nat.ne_of_lt ha]) (fun a ha => rfl)]
        congr 1
        simp [sd_e, ip_ur]
      have := kk _ H1 locs hag (sd_al_ad w3 hag hl) ⟨by rw [hw]; exact q1, by rw [hw]; exact q2, q3, by simp; omega, by simp; omega⟩
      simp only [List.map_cons] at this
      rw [sd_v_ref (by omega), if_pos rfl, sd_S_ad w4 hag] at this
      exact this
    cases t with
    | int => exact main .int rfl (hts _ (ip_good_mem ip_w_arr.1 rfl)) rfl (by decide) rfl (fun _ _ => rfl)
    | boolean => exact main .boolean rfl (hts _ (ip_good_mem ip_w_arr.2.1 rfl)) rfl (by decide) rfl (fun _ _ => rfl)
    | byte => exact main .byte rfl (hts _ (ip_good_mem ip_w_arr.2.2.1 rfl)) rfl (by decide) rfl (fun _ _ => rfl)
    | _ => simp [ip_atyp] at c4
  · cases h
theorem sd_newm {cs : Nat × Nat} {n k : Int32} (hC : sd_C p s m meth c args R j) (hV : sd_V D dA ad vz A s s.heap) (hA : ∀ q : Nat, s.heap.size ≤ q → A q) (hl : lv_has ls (ip_mB j).2.2.1 (sd_al ad vz L)) (hP : sd_P D dA ad A s H locs sz0 M) (hdec : decode (ip_mB j).2.1 pc = .ok (.multianewarray idx 2, 4)) (hlk : ip_lk j pc aux (.multianewarray idx 2) = true)
    {S : List Value} {q : ip_M × (Nat × Nat)} (hn : ¬ n < 0) (hk : ¬ k < 0) (h : ip_newM j n.toNatClampNeg k.toNatClampNeg L S M cs = some q) (kk : sd_Go p l e R s m args below meth c D dA vz A Q ls j (pc + 4) sz0 M ad L (.ref M.1.length :: S) q.1 q.2) : W p l e R s m args below meth c H locs cs.1 cs.2 Q (F0 m pc ls (.int k :: .int n :: S.map (sd_v ad vz))) := by
  obtain ⟨hx, hb, hml, hown, hts, -, hfr, hlo, hce, hsl⟩ := hC
  obtain ⟨g1, g2, g3, g4, g5⟩ := hP
  unfold ip_newM at h
  split at h
  · rename_i hc
    cases h
    simp only [Bool.and_eq_true, decide_eq_true_eq] at hc
    obtain ⟨⟨⟨⟨⟨hwf, c1⟩, c2⟩, c3⟩, c4⟩, c5⟩ := hc
    obtain ⟨w1, w2, w3, w4⟩ := sd_wf hwf
    simp only [ip_lk] at hlk
    obtain ⟨en, hen, h1⟩ := List.any_eq_true.mp hlk
    simp only [decide_eq_true_eq] at h1
    obtain ⟨e1, e2⟩ := h1
    have h2 := List.all_eq_true.mp ip_MNok en hen
    simp only [decide_eq_true_eq] at h2
    have m1 := ip_good_mem (List.mem_of_getElem? h2) rfl
    rw [e1, e2] at m1
    have hcy : s.vm.findClass (FieldType.array .int).toString = some (dA 0) := (hV.1.2 0 _ rfl).2
    refine va_mna (X := sd_w ad dA M) (L := []) (f := fun _ => .inr (0, [])) (ty := .int) (cy := dA 0) (z := (k.toNatClampNeg, .inl (fun _ => 0))) hx hb hown (hts _ m1) ?_ (hts _ (ip_good_mem ip_w_arr.1 rfl)) hcy hV.1 (by simpa [va_pl] using g1) (by simpa [va_pl] using g2) g3 hA hn hk rfl rfl (by omega) (by show k.toNatClampNeg * 4 ≤ _; omega) (by omega) rfl rfl (by rw [hce]; omega) (by rw [hsl]; omega) (fun cc => arrV_new cc _ _) hdec fun q r cA H1 r1 r2 q0 q1 q2 q3 => ?_
    · have h3 := hV.2.2.1
      exact h3
    · have hA1 : cA = dA 3 := by
        have r1 := (q0.2 (sd_t dA).length (cA, .array .int) (by simp)).2
        have r2 := (hV.1.2 3 _ rfl).2
        exact Option.some.inj ((show s.vm.findClass _ = some cA from r1).symm.trans (show s.vm.findClass _ = some (dA 3) from r2))
      subst hA1
      have hag : sd_ag M.1.length ad (fun i => if i = M.1.length then q else if M.1.length < i ∧ i < M.1.length + 1 + n.toNatClampNeg then r (i - M.1.length - 1) else ad i) :=
        ⟨fun i hi => by dsimp only; rw [if_neg (by omega), if_neg (by omega)], fun i hi => by dsimp only; rw [if_neg (by omega), if_neg (by omega)]⟩
      have hw : sd_w (fun i => if i = M.1.length then q else if M.1.length < i ∧ i < M.1.length + 1 + n.toNatClampNeg then r (i - M.1.length - 1) else ad i) dA (M.1 ++ ((2, 3, (List.range n.toNatClampNeg).map fun i => M.1.length + 2 + i) :: List.replicate n.toNatClampNeg (1, 0, [k.toNatClampNeg])), (fun a b => if M.1.length ≤ a then 0 else M.2.1 a b), M.2.2) =
          (sd_w ad dA M ++ [(q, .inl (dA 3, n.toNatClampNeg, .inr (.inr (.inr (.inr (fun i => if i < n.toNatClampNeg then some (r i) else none))))))]) ++ va_pl ([] ++ (List.range n.toNatClampNeg).map r) (vr_up (fun _ => .inr (0, [])) ((List.range n.toNatClampNeg).map r) (.inl (dA 0, (k.toNatClampNeg, .inl (fun _ => 0))))) := by
        rw [sd_app w2 hag.1 (fun a ha => by funext b; simp [Nat.not_le.mpr ha]) (fun a ha => rfl), List.append_assoc]
        congr 1
        rw [List.mapIdx_cons, List.singleton_append, List.nil_append]
        congr 1
        · simp only [Nat.add_zero, if_true]
          congr 1
          show (Sum.inl (dA 3, ((List.range n.toNatClampNeg).map fun i => M.1.length + 2 + i).length, Sum.inr (Sum.inr (Sum.inr (Sum.inr (sd_rw _ _))))) : va_E) = _
          rw [List.length_map, List.length_range]
          congr 7
          funext i
          unfold sd_rw
          by_cases hi : i < n.toNatClampNeg
          · rw [List.getElem?_map, List.getElem?_range hi, if_pos hi]
            show sd_ro _ (M.1.length + 2 + i) = _
            rw [show M.1.length + 2 + i = (M.1.length + 1 + i) + 1 by omega]
            show some (if _ then _ else _) = _
            rw [if_neg (by omega), if_pos (by omega)]
            congr 2
            omega
          · rw [List.getElem?_map, List.getElem?_eq_none (by rw [List.length_range]; omega), if_neg hi]
            rfl
        · apply List.ext_getElem?
          intro i
          rw [List.getElem?_mapIdx]
          unfold va_pl
          rw [List.getElem?_map, List.getElem?_map]
          by_cases hi : i < n.toNatClampNeg
          · rw [List.getElem?_replicate_of_lt hi, List.getElem?_range hi]
            simp only [Option.map_some, Option.some.injEq]
            rw [vr_up_in (List.mem_map.mpr ⟨i, List.mem_range.mpr hi, rfl⟩)]
            rw [if_neg (by omega), if_pos (by omega)]
            congr 1
            · congr 1
              omega
            · show (Sum.inl (dA 0, k.toNatClampNeg, Sum.inl (fun b => if M.1.length ≤ M.1.length + (i + 1) then 0 else _)) : va_E) = _
              congr 4
              funext b
              rw [if_pos (by omega)]
          · rw [List.getElem?_eq_none (by rw [List.length_replicate]; omega), List.getElem?_eq_none (by rw [List.length_range]; omega)]
            rfl
      have := kk _ H1 locs hag (sd_al_ad w3 hag hl) ⟨by rw [hw]; exact q1, by rw [hw]; exact q2, q3, by simp; omega, by simp; omega⟩
      simp only [List.map_cons] at this
      rw [sd_v_ref (by omega), if_pos rfl, sd_S_ad w4 hag] at this
      exact this
  · cases h
end SDN
end
section
/-! ===== the machine does what the interpreter says: calls, and all together ===== -/
theorem sd_ML {j idx i kind : Nat} (h : ip_ML.any (fun e => decide (e.1 = (ip_mI j).1 ∧ e.2.1 = idx ∧ e.2.2.1 = i ∧ e.2.2.2.1 = kind)) = true) : i < ip_mi.length ∧ 0 < i ∧
    ((∃ host, kind ≠ 0 ∧ Jvm.Cond.methodLinkNest (ip_own j) idx (ip_mB i).1 host ∈ ip_nst) ∨ Jvm.Cond.methodLink (ip_own j) idx (ip_mB i).1 ∈ ip_good) ∧
    (kind = 1 → Jvm.Cond.static (ip_mB i).1 ∈ ip_good) ∧ (kind ≠ 1 → Jvm.Cond.instanceMethod (ip_mB i).1 ∈ ip_good) ∧ Jvm.Cond.initialized (ip_mB i).1.cls ∈ ip_good ∧
    (kind = 0 → Jvm.Cond.selects (ip_mB i).1.cls (ip_mB i).1 (ip_mB i).1 ∈ ip_good ∧ (((ip_mI i).2.1 = 98 ∧ (ip_mB i).1.cls = "java/lang/String") ∨ ((ip_mI i).2.1 ≠ 98 ∧ (vwCl[(ip_mI i).2.1]?).map (fun r => r.1) = some (ip_mB i).1.cls))) ∧
    (kind = 2 → (ip_mB i).1.name = "<init>" ∧ (ip_mB i).2.2.2 = none) ∧
    (parseMethodDescriptor (ip_mB i).1.desc).map (fun d => d.parameters.length) = some (if kind = 1 then (ip_mI i).2.2.1 else (ip_mI i).2.2.1 - 1) ∧ (kind ≠ 1 → 1 ≤ (ip_mI i).2.2.1) := by
  obtain ⟨e, he, h1⟩ := List.any_eq_true.mp h
  simp only [decide_eq_true_eq] at h1
  obtain ⟨e1, e2, e3, e4⟩ := h1
  have h2 := List.all_eq_true.mp ip_MLok e he
  obtain ⟨oc, ix, ii, kd, p1, p2, p3, p4, nest⟩ := e
  dsimp only at e1 e2 e3 e4
  subst e1 e2 e3 e4
  simp only [ip_mlc, Bool.and_eq_true, Bool.or_eq_true, decide_eq_true_eq] at h2
  obtain ⟨⟨⟨⟨⟨⟨⟨⟨⟨a1, a2⟩, a0⟩, a3⟩, a4⟩, a5⟩, a6⟩, a7⟩, a8⟩, a9⟩ := h2
  refine ⟨a1, a2, ?_, fun hk => ?_, fun hk => ?_, ?_, fun hk => ?_, fun hk => ?_, a8, fun hk => a9.resolve_left hk⟩
  · have hm := List.mem_of_getElem? a3
    cases nest with
    | true =>
      simp only [if_true] at hm
      refine Or.inl ⟨"HandedSlips", ?_, ip_nst_mem hm rfl⟩
      rcases a0 with q | q
      · exact q
      · cases q
    | false =>
      simp only [if_neg Bool.false_ne_true] at hm
      exact Or.inr (ip_good_mem hm rfl)
  · rw [if_pos hk] at a4
    exact ip_good_mem (List.mem_of_getElem? a4) rfl
  · rw [if_neg hk] at a4
    exact ip_good_mem (List.mem_of_getElem? a4) rfl
  · exact ip_good_mem (List.mem_of_getElem? a5) rfl
  · rcases a6 with q | q
    · exact absurd hk q
    · refine ⟨ip_good_mem (List.mem_of_getElem? q.1) rfl, ?_⟩
      have q2 := q.2
      split at q2
      · rename_i h98
        exact Or.inl ⟨h98, by simpa using q2⟩
      · rename_i h98
        exact Or.inr ⟨h98, by simpa using q2⟩
  · rcases a7 with q | q
    · exact absurd hk q
    · exact q
section SDK
variable {p : Program} {l : Launch} {e : Env} {R : Room} {s : State} {m : MethodId} {args : Array Value} {below : List Frame} {meth : Method} {c : Code} {H : Heap} {locs : List Loc} {cells slots : Nat} {Q : State → Prop}
variable {D : va_G} {dA : Nat → ClassId} {ad : Nat → Nat} {vz : Value} {A : Nat → Prop} {ls : Array Slot} {j pc aux sz0 idx : Nat} {M : ip_M} {L : List Value}
/-- a call, of any of the three kinds -/
theorem sd_call {top : ip_Top} {n i kind : Nat} {as rest : List Value} {res : ip_R} {cs : Nat × Nat} (IH : sd_Snd l D dA vz n)
    (hC : sd_C p s m meth c args R j) (hV : sd_V D dA ad vz A s s.heap) (hT : sd_Tp top ad A s) (hA : ∀ q : Nat, s.heap.size ≤ q → A q) (hl : lv_has ls (ip_mB j).2.2.1 (sd_al ad vz L)) (hP : sd_P D dA ad A s H locs sz0 M) (hH : sd_H p l e R s m args below meth c D dA vz A Q j sz0 ad res)
    (hlk : ip_ML.any (fun e => decide (e.1 = (ip_mI j).1 ∧ e.2.1 = idx ∧ e.2.2.1 = i ∧ e.2.2.2.1 = kind)) = true) (hlen : as.length = (ip_mI i).2.2.1)
    (hdec : (kind = 0 ∧ decode (ip_mB j).2.1 pc = .ok (.invokevirtual idx, 3) ∧ ∃ (k : Nat) (as' : List Value), as = .ref k :: as' ∧ ip_rcv M i k = true) ∨ (kind = 1 ∧ decode (ip_mB j).2.1 pc = .ok (.invokestatic idx, 3)) ∨ (kind = 2 ∧ decode (ip_mB j).2.1 pc = .ok (.invokespecial idx, 3) ∧ ∃ (k : Nat) (as' : List Value), as = .ref k :: as' ∧ k ≠ ip_EX + 50))
    (h : ip_call (fun pc' L' S' M' cs' => ip_run top n j pc' L' S' M' cs') (fun i L' M' => ip_run none n i 0 L' [] M' (0, 0)) j pc i L as rest M cs = some res) :
    W p l e R s m args below meth c H locs cs.1 cs.2 Q (F0 m pc ls ((as.reverse ++ rest).map (sd_v ad vz))) := by
  obtain ⟨a1, a2, a3, a4, a5, a6, a7, a8, a9, a10⟩ := sd_ML hlk
  have hC0 := hC
  obtain ⟨hx, hb, hml, hown, hts, -, hfr, hlo, hce, hsl⟩ := hC
  have hz := hV.2.2.2.1
  unfold ip_call at h
  split at h
  · rename_i hc
    simp only [Bool.and_eq_true, Bool.or_eq_true, decide_eq_true_eq] at hc
    obtain ⟨⟨⟨hmay, hok⟩, hal⟩, hwf⟩ := hc
    obtain ⟨r1, h1, h2⟩ := Option.bind_eq_some_iff.mp h
    unfold ip_may at hmay
    simp only [Bool.and_eq_true, decide_eq_true_eq] at hmay
    obtain ⟨⟨⟨⟨m1, m2⟩, m3⟩, m4⟩, m5⟩ := hmay
    have hM := sd_met IH a1 a2 h1 hok hal hP.2.2.2.2 ad H.size
    have hin := sd_into (as := as) hV hA hP
    have hS : CallFix p m c (ip_mB j).2.1 (ip_mB j).2.2.1 s args ip_good (ip_own j) := ⟨hx, hb, hml, hown, hts⟩
    have hnm := ip_w_name1 i a1 a2
    have hown2 := ip_w_name2 (ip_mI i).1 (ip_w_name3 i a1)
    have hMH : (ip_mB i).1.cls ≠ "java/lang/invoke/MethodHandle" ∧ (ip_mB i).1.cls ≠ "java/lang/invoke/VarHandle" := by rw [hnm]; exact hown2.2
    have hR : (sd_rm i).frames + 1 ≤ R.frames ∧ 8 + ((ip_mB i).2.2.1 + 11) + (sd_rm i).locals ≤ R.locals := ⟨by rw [hfr]; exact m1, by rw [hlo]; exact m2⟩
    have hf : cs.1 + (ip_mI i).2.2.2.2.2.1 ≤ R.cells ∧ cs.2 + (ip_mI i).2.2.2.2.2.2 ≤ R.slots := ⟨by rw [hce]; exact m3, by rw [hsl]; exact m4⟩
    have hW8 : 2 * (F0 m pc ls ((as.reverse ++ rest).map (sd_v ad vz))).monitorRoom + ((rest.map (sd_v ad vz)).map fun v => v.category).sum ≤ 8 := lv_room (by rw [sd_cat hz]; exact m5)
    have hblind : FrameBlind (sd_Pre D dA vz ad M as H.size) := sd_blind
    have hmc0 : (ip_mI j).2.2.2.2.2.1 = 0 → (ip_mI i).2.2.2.2.2.1 = 0 := fun z => by omega
    refine sd_back IH hC0 hV hT hA hl hP hH hmc0 hwf (av := (as.map (sd_v ad vz)).toArray) ?_ h2
    have hgood := sd_good a1 a2
    rcases hdec with ⟨rfl, hd, k, as', rfl, hrc⟩ | ⟨rfl, hd⟩ | ⟨rfl, hd, k, as', rfl, hne⟩
    · have hkne : k ≠ ip_EX + 50 := by
        intro z
        subst z
        unfold ip_rcv at hrc
        split at hrc
        · rename_i hk
          exact sd_lt hP hk rfl
        · cases hrc
        · simp only [decide_eq_true_eq] at hrc
          omega
      have hrcv : ∃ cellB : Cell, H[ad k]? = some cellB ∧ cellB.vm.isStatics = false ∧ s.vm.findClass (ip_mB i).1.cls = some cellB.cls := by
        unfold ip_rcv at hrc
        split at hrc
        · rename_i ci lf hk
          simp only [decide_eq_true_eq] at hrc
          rcases (a7 rfl).2 with ⟨h98, -⟩ | ⟨h98, hcl⟩
          · rw [h98] at hrc
            subst hrc
            obtain ⟨q', g1, -⟩ := hP.1 k _ (sd_wk' (ad := ad) (dA := dA) hk)
            cases g1
          · rw [← hrc] at hcl
            cases hr : vwCl[ci]? with
            | none => rw [hr] at hcl; cases hcl
            | some r =>
              rw [hr] at hcl
              simp only [Option.map_some, Option.some.injEq] at hcl
              rw [← hcl]
              exact va_recv hV.1 hP.1 hr (sd_wk' hk)
        · cases hrc
        · simp only [decide_eq_true_eq] at hrc
          rcases (a7 rfl).2 with ⟨-, hst⟩ | ⟨h98, -⟩
          · rw [hst]
            have := vk_recv hV.2.2.2.2.1 (i := k - (ip_EX + 1)) (by omega) hP.2.2.1
            rw [show ip_EX + 1 + (k - (ip_EX + 1)) = k by omega] at this
            exact this
          · exact absurd hrc.1 h98
      rcases a3 with ⟨host, q, -⟩ | a3
      · exact absurd rfl q
      · have hG : GoodIn ip_good (wsV (ip_own j) idx (ip_mB i).1.cls (ip_mB i).1 (sd_ws i)) := by
          intro w hw
          unfold wsV at hw
          rcases List.mem_append.mp hw with hw | hw
          · simp only [List.mem_cons, List.not_mem_nil, or_false] at hw
            rcases hw with rfl | rfl | rfl | rfl
            · exact ⟨a3, Or.inl rfl⟩
            · exact ⟨a5 (by decide), Or.inl rfl⟩
            · exact ⟨(a7 rfl).1, Or.inl rfl⟩
            · exact ⟨a6, Or.inl rfl⟩
          · exact hgood w hw
        have hk2 : sd_v ad vz (.ref k) = .ref (ad k) := sd_v_ref hkne
        have := va_runV (l := l) (e := e) (below := below) (meth := meth) (locs := locs) (As := as'.map (sd_v ad vz)) (rest := rest.map (sd_v ad vz)) (g := F0 m pc ls (((Value.ref k :: as').reverse ++ rest).map (sd_v ad vz))) hS hM (cwV ((ip_mI i).2.2.1 - 1) hts hG rfl rfl rfl ⟨rfl, hMH.1, hMH.2, by rw [a9, if_neg (by decide)]⟩ hR) (b := ad k) ⟨hblind, hrcv, fun U hU hW => by have := hin.2 U hU hW; rw [List.map_cons, hk2] at this; exact this⟩ rfl (by rw [List.length_map]; have := a10 (by decide); simp only [List.length_cons] at hlen; omega) hl.1 (by simp [List.map_append, List.map_reverse, hk2]) hW8 hd hf
        rw [List.map_cons, hk2]
        exact this
    · rcases a3 with ⟨host, -, a3⟩ | a3
      · have := va_runSN (l := l) (e := e) (below := below) (meth := meth) (locs := locs) (As := as.map (sd_v ad vz)) (rest := rest.map (sd_v ad vz)) (g := F0 m pc ls ((as.reverse ++ rest).map (sd_v ad vz))) hS hM ⟨va_cnB (ip_mI i).2.2.1 hts hgood rfl rfl rfl (hV.2.1 _ a3) (hts _ a6) ⟨hMH.1, hMH.2, by rw [a9, if_pos rfl]⟩ hR, hts _ (a4 rfl), trivial⟩ ⟨hblind, hin.2⟩ rfl (by rw [List.length_map]; exact hlen) hl.1 (by simp [List.map_append, List.map_reverse]) hW8 hd hf
        exact this
      · have hG : GoodIn ip_good (va_wsS (ip_own j) idx (ip_mB i).1 (sd_ws i)) := by
          intro w hw
          unfold va_wsS at hw
          rcases List.mem_append.mp hw with hw | hw
          · simp only [List.mem_cons, List.not_mem_nil, or_false] at hw
            rcases hw with rfl | rfl | rfl
            · exact ⟨a3, Or.inl rfl⟩
            · exact ⟨a4 rfl, Or.inl rfl⟩
            · exact ⟨a6, Or.inl rfl⟩
          · exact hgood w hw
        have := va_runS (l := l) (e := e) (below := below) (meth := meth) (locs := locs) (As := as.map (sd_v ad vz)) (rest := rest.map (sd_v ad vz)) (g := F0 m pc ls ((as.reverse ++ rest).map (sd_v ad vz))) hS hM (va_cwS (ip_mI i).2.2.1 hts hG rfl rfl rfl ⟨hMH.1, hMH.2, by rw [a9, if_pos rfl]⟩ hR) ⟨hblind, hin.2⟩ rfl (by rw [List.length_map]; exact hlen) hl.1 (by simp [List.map_append, List.map_reverse]) hW8 hd hf
        exact this
    · have hk2 : sd_v ad vz (.ref k) = .ref (ad k) := sd_v_ref hne
      obtain ⟨b1, b2⟩ := a8 rfl
      have hn2 : (as'.map (sd_v ad vz)).length = (ip_mI i).2.2.1 - 1 := by
        rw [List.length_map]
        have := a10 (by decide)
        simp only [List.length_cons] at hlen
        omega
      have hPc : PreS s H (sd_Pre D dA vz ad M (.ref k :: as') H.size) (.ref (ad k) :: as'.map (sd_v ad vz)) := ⟨hblind, fun U hU hW => by have := hin.2 U hU hW; rw [List.map_cons, hk2] at this; exact this⟩
      have hws : sd_ws i = Jvm.Cond.code (ip_mB i).1 (ip_mB i).2.1 (ip_mB i).2.2.1 none :: ip_good := by unfold sd_ws; rw [b2]
      rcases a3 with ⟨host, -, a3⟩ | a3
      · have := va_runIN (l := l) (e := e) (below := below) (meth := meth) (locs := locs) (As := as'.map (sd_v ad vz)) (rest := rest.map (sd_v ad vz)) (b := ad k) (g := F0 m pc ls (((Value.ref k :: as').reverse ++ rest).map (sd_v ad vz))) hS hM ⟨va_cnB ((ip_mI i).2.2.1 - 1) hts hgood hws rfl rfl (hV.2.1 _ a3) (hts _ a6) ⟨hMH.1, hMH.2, by rw [a9, if_neg (by decide)]⟩ hR, b1, hts _ (a5 (by decide))⟩ hPc rfl hn2 hl.1 (by simp [List.map_append, List.map_reverse, hk2]) hW8 hd hf
        rw [List.map_cons, hk2]
        exact this
      · have := va_runI (l := l) (e := e) (below := below) (meth := meth) (locs := locs) (As := as'.map (sd_v ad vz)) (rest := rest.map (sd_v ad vz)) (b := ad k) (g := F0 m pc ls (((Value.ref k :: as').reverse ++ rest).map (sd_v ad vz))) hS hM (cwI ((ip_mI i).2.2.1 - 1) hts hgood hws rfl rfl (hts _ a6) (hts _ a3) (hts _ (a5 (by decide))) b1 ⟨hMH.1, hMH.2, by rw [a9, if_neg (by decide)]⟩ hR) hPc rfl hn2 hl.1 (by simp [List.map_append, List.map_reverse, hk2]) hW8 hd hf
        rw [List.map_cons, hk2]
        exact this
  · cases h
end SDK
section SDZ
variable {p : Program} {l : Launch} {e : Env} {R : Room} {s : State} {m : MethodId} {args : Array Value} {below : List Frame} {meth : Method} {c : Code} {H : Heap} {locs : List Loc} {cells slots : Nat} {Q : State → Prop} {cc : ByteArray} {pc : Nat} {ls : Array Slot} {rest : List Value}
theorem sd_aload {w : Value} (hw : w = .null ∨ ∃ a, w = .ref a) (hx : p.tables.exec = Jvm.exec) (hb : c.code = cc) {k : Fin 4} (hdg : decode cc pc = .ok (.aload_n k, 1)) (hl : ls[k.val]? = some (.val w))
    (kk : W p l e R s m args below meth c H locs cells slots Q (F0 m (pc + 1) ls (w :: rest))) : W p l e R s m args below meth c H locs cells slots Q (F0 m pc ls rest) := by
  rcases hw with rfl | ⟨a, rfl⟩
  · exact lv_aload_nN hx hb hdg rfl hl kk
  · exact lv_aload_n hx hb hdg rfl hl kk
theorem sd_astore {w : Value} (hw : w = .null ∨ ∃ a, w = .ref a) (hx : p.tables.exec = Jvm.exec) (hb : c.code = cc) {k : Fin 4} {nL : Nat} {lv : List (Nat × Value)} (hdg : decode cc pc = .ok (.astore_n k, 1)) (h : lv_has ls nL lv) (hn : k.val < nL)
    (kk : ∀ ls' : Array Slot, lv_has ls' nL ((k.val, w) :: lv.filter (fun q => !(q.1 == k.val) && !(q.1 + 1 == k.val && q.2.category == 2))) → W p l e R s m args below meth c H locs cells slots Q (F0 m (pc + 1) ls' rest)) : W p l e R s m args below meth c H locs cells slots Q (F0 m pc ls (w :: rest)) := by
  rcases hw with rfl | ⟨a, rfl⟩
  · exact lv_astore_nN hx hb hdg rfl h hn rfl kk
  · exact lv_astore_n hx hb hdg rfl h hn rfl kk
end SDZ
theorem sd_isR {ad : Nat → Nat} {vz : Value} (hz : vz = .null ∨ ∃ a, vz = .ref a) (a : Nat) : sd_v ad vz (.ref a) = .null ∨ ∃ b, sd_v ad vz (.ref a) = .ref b := by
  show (if a = ip_EX + 50 then vz else Value.ref (ad a)) = Value.null ∨ ∃ b, (if a = ip_EX + 50 then vz else Value.ref (ad a)) = Value.ref b
  split
  · exact hz
  · exact Or.inr ⟨_, rfl⟩
theorem sd_take {S as : List Value} {n : Nat} (h : (S.take n).reverse = as) : S = as.reverse ++ S.drop n := by
  rw [← h, List.reverse_reverse, List.take_append_drop]
theorem sd_tkl {S as : List Value} {n : Nat} (hn : ¬ S.length < n) (h : (S.take n).reverse = as) : as.length = n := by
  rw [← h, List.length_reverse, List.length_take]
  omega
theorem sd_sw {pc t : Nat} {d lo hi : Int} {offs : Array Int} {v : Int32} (h : ip_sw pc d lo hi offs v = some t) : ((v.toInt < lo ∨ hi < v.toInt) ∧ (pc : Int) + d = (t : Int)) ∨ (¬ (v.toInt < lo ∨ hi < v.toInt) ∧ ∃ o, offs[(v.toInt - lo).toNat]? = some o ∧ (pc : Int) + o = (t : Int)) := by
  by_cases ho : v.toInt < lo ∨ hi < v.toInt
  · simp only [ip_sw, if_pos ho] at h
    by_cases hn : (pc : Int) + d < 0
    · rw [if_pos hn] at h
      cases h
    · rw [if_neg hn] at h
      have := Option.some.inj h
      exact Or.inl ⟨ho, by omega⟩
  · simp only [ip_sw, if_neg ho] at h
    cases hof : offs[(v.toInt - lo).toNat]? with
    | none =>
      rw [hof] at h
      simp at h
    | some o =>
      rw [hof] at h
      dsimp only at h
      by_cases hn : (pc : Int) + o < 0
      · rw [if_pos hn] at h
        cases h
      · rw [if_neg hn] at h
        have := Option.some.inj h
        exact Or.inr ⟨ho, o, rfl, by omega⟩
theorem sd_vEX {ad : Nat → Nat} {vz : Value} : sd_v ad vz (.ref (ip_EX + 50)) = vz := by simp [sd_v]
theorem sd_ln {ins : Instr} {len : Nat} (h : ip_isw ins = true ∨ len = ip_ln ins) (hn : ip_isw ins = false) : len = ip_ln ins := by
  rcases h with h | h
  · rw [hn] at h; cases h
  · exact h
set_option maxHeartbeats 4000000 in
/-- THE MACHINE DOES WHAT THE INTERPRETER SAYS -/
theorem sd_sound (l : Launch) (D : va_G) (dA : Nat → ClassId) (vz : Value) : ∀ n, sd_Snd l D dA vz n := by
  intro n
  induction n with
  | zero =>
    intro top j pc L S M cs res h
    cases h
  | succ n IH =>
    intro top j pc L S M cs res h p e R s m args below meth c A Q ad H locs ls sz0 hC hV hT hA hl hP hH
    rw [ip_run] at h
    cases hq : ip_fetch j pc with
    | none => rw [hq] at h; cases h
    | some q =>
      rw [hq] at h
      simp only [Option.bind_some] at h
      obtain ⟨ins, len, aux⟩ := q
      obtain ⟨hdec, hlen, hlk⟩ := sd_dec hq
      dsimp only at h hdec hlen hlk
      have hz := hV.2.2.2.1
      obtain ⟨hx, hb, hml, hown, hts, -⟩ := id hC
      -- on at the next place, with these locals, stack and world
      have go : ∀ (pc' : Nat) (L' S' : List Value) (M' : ip_M) (ls' : Array Slot) (H' : Heap) (locs' : List Loc), ip_run top n j pc' L' S' M' cs = some res → lv_has ls' (ip_mB j).2.2.1 (sd_al ad vz L') → sd_P D dA ad A s H' locs' sz0 M' → W p l e R s m args below meth c H' locs' cs.1 cs.2 Q (F0 m pc' ls' (S'.map (sd_v ad vz))) :=
        fun pc' L' S' M' ls' H' locs' q1 q2 q3 => IH top j pc' L' S' M' cs res q1 p e R s m args below meth c A Q ad H' locs' ls' sz0 hC hV hT hA q2 q3 hH
      have goN : ∀ (pc' : Nat) (S' : List Value) (M' : ip_M) (cs' : Nat × Nat), ip_run top n j pc' L S' M' cs' = some res → (ip_mI j).2.2.2.2.2.1 ≠ 0 → sd_Go p l e R s m args below meth c D dA vz A Q ls j pc' sz0 M ad L S' M' cs' :=
        fun pc' S' M' cs' q1 q0 ad' H1 locs1 q2 q3 q4 => IH top j pc' L S' M' cs' res q1 p e R s m args below meth c A Q ad' H1 locs1 ls sz0 hC (hV.ads q2) (hT.ads q2) hA q3 q4 (hH.step q2 hP.2.2.2.1 (fun z => absurd z q0))
      have stk : ∀ S', ip_st j aux S ins = some S' → ip_run top n j (pc + len) L S' M cs = some res → W p l e R s m args below meth c H locs cs.1 cs.2 Q (F0 m pc ls (S.map (sd_v ad vz))) :=
        fun S' h1 h2 => sd_stk hC hV hdec hlen hlk h1 (go _ _ _ _ _ _ _ h2 hl hP)
      have ends : ip_ends j cs = true → ∀ (v : Option Value), res = (v, M) → (∀ st', S.map (sd_v ad vz) = st' → sd_rt j pc v st' ad vz) → W p l e R s m args below meth c H locs cs.1 cs.2 Q (F0 m pc ls (S.map (sd_v ad vz))) := fun he v hv hr => by
        simp only [ip_ends, Bool.and_eq_true, decide_eq_true_eq] at he
        subst hv
        exact W.widen he.1 he.2 (hH ad H locs pc ls _ sd_ag.rf (fun _ => rfl) hP (hr _ rfl))
      cases ins with
      | aload_n k =>
        have := sd_ln hlen rfl; subst this
        obtain ⟨v, h1, h2⟩ := Option.bind_eq_some_iff.mp h
        unfold ip_ldA at h1
        split at h1
        · rename_i a ha
          cases h1
          exact sd_aload (sd_isR hz a) hx hb hdec (sd_ld hl ha rfl) (go _ _ _ _ _ _ _ h2 hl hP)
        · cases h1
      | iload_n k =>
        have := sd_ln hlen rfl; subst this
        obtain ⟨v, h1, h2⟩ := Option.bind_eq_some_iff.mp h
        unfold ip_ldI at h1
        split at h1
        · rename_i a ha
          cases h1
          exact lv_iload_n hx hb hdec rfl (sd_ld hl ha rfl) (go _ _ _ _ _ _ _ h2 hl hP)
        · cases h1
      | iload k =>
        have := sd_ln hlen rfl; subst this
        obtain ⟨v, h1, h2⟩ := Option.bind_eq_some_iff.mp h
        unfold ip_ldI at h1
        split at h1
        · rename_i a ha
          cases h1
          exact lv_iload hx hb hdec (sd_ld hl ha rfl) (go _ _ _ _ _ _ _ h2 hl hP)
        · cases h1
      | lload_n k =>
        have := sd_ln hlen rfl; subst this
        obtain ⟨v, h1, h2⟩ := Option.bind_eq_some_iff.mp h
        unfold ip_ldL at h1
        split at h1
        · rename_i a ha
          cases h1
          exact lv_lload_n hx hb hdec rfl (sd_ld hl ha rfl) (go _ _ _ _ _ _ _ h2 hl hP)
        · cases h1
      | lload k =>
        have := sd_ln hlen rfl; subst this
        obtain ⟨v, h1, h2⟩ := Option.bind_eq_some_iff.mp h
        unfold ip_ldL at h1
        split at h1
        · rename_i a ha
          cases h1
          exact lv_lload hx hb hdec (sd_ld hl ha rfl) (go _ _ _ _ _ _ _ h2 hl hP)
        · cases h1
      | istore_n k =>
        have := sd_ln hlen rfl; subst this
        simp only [ip_ex] at h
        simp only [ip_lk, decide_eq_true_eq] at hlk
        split at h
        · exact lv_istore_n hx hb hdec rfl hl hlk rfl fun ls' hl' => go _ _ _ _ _ _ _ h (sd_st1 hz rfl hl') hP
        · cases h
      | istore k =>
        have := sd_ln hlen rfl; subst this
        simp only [ip_ex] at h
        simp only [ip_lk, decide_eq_true_eq] at hlk
        split at h
        · exact lv_istore hx hb hdec hl hlk rfl fun ls' hl' => go _ _ _ _ _ _ _ h (sd_st1 hz rfl hl') hP
        · cases h
      | astore_n k =>
        have := sd_ln hlen rfl; subst this
        simp only [ip_ex] at h
        simp only [ip_lk, decide_eq_true_eq] at hlk
        split at h
        · exact sd_astore (sd_isR hz _) hx hb hdec hl hlk fun ls' hl' => go _ _ _ _ _ _ _ h (sd_st1 hz rfl hl') hP
        · cases h
      | lstore_n k =>
        have := sd_ln hlen rfl; subst this
        simp only [ip_ex] at h
        simp only [ip_lk, decide_eq_true_eq] at hlk
        split at h
        · exact lv_lstore_n hx hb hdec rfl hl hlk rfl fun ls' hl' => go _ _ _ _ _ _ _ h (sd_st2 hz rfl hl') hP
        · cases h
      | lstore k =>
        have := sd_ln hlen rfl; subst this
        simp only [ip_ex] at h
        simp only [ip_lk, decide_eq_true_eq] at hlk
        split at h
        · exact lv_lstore hx hb hdec hl hlk rfl fun ls' hl' => go _ _ _ _ _ _ _ h (sd_st2 hz rfl hl') hP
        · cases h
      | iinc k n =>
        have := sd_ln hlen rfl; subst this
        simp only [ip_ex] at h
        simp only [ip_lk, decide_eq_true_eq] at hlk
        split at h
        · rename_i v hv
          obtain ⟨ix, hix⟩ := List.getElem?_of_mem (sd_al_mem (ad := ad) (vz := vz) hv rfl)
          exact lv_iinc hx hb hdec hl hix rfl hlk rfl fun ls' hl' => go _ _ _ _ _ _ _ h (sd_st1 hz rfl hl') hP
        · cases h
      | goto off =>
        have := sd_ln hlen rfl; subst this
        simp only [ip_lk, decide_eq_true_eq] at hlk
        exact lv_goto hx hb hdec hlk (go _ _ _ _ _ _ _ h hl hP)
      | if_icmp cd off =>
        have := sd_ln hlen rfl; subst this
        simp only [ip_ex] at h
        simp only [ip_lk, decide_eq_true_eq] at hlk
        split at h
        · rename_i y v r
          unfold ip_if at h
          have ht : ip_cmp v y cd → W p l e R s m args below meth c H locs cs.1 cs.2 Q (F0 m aux ls (r.map (sd_v ad vz))) := fun hc => go _ _ _ _ _ _ _ (by rw [if_pos hc] at h; exact h) hl hP
          have hf : ¬ ip_cmp v y cd → W p l e R s m args below meth c H locs cs.1 cs.2 Q (F0 m (pc + 3) ls (r.map (sd_v ad vz))) := fun hc => go _ _ _ _ _ _ _ (by rw [if_neg hc] at h; exact h) hl hP
          cases cd with
          | eq => exact lv_icmp_eq hx hb hdec hlk ht hf
          | ne => exact lv_icmp_ne hx hb hdec hlk ht (fun hc => hf (fun z => z hc))
          | lt => exact lv_icmp_lt hx hb hdec hlk ht hf
          | ge => exact lv_icmp_ge hx hb hdec hlk ht hf
          | gt => exact lv_icmp_gt hx hb hdec hlk ht hf
          | le => exact lv_icmp_le hx hb hdec hlk ht hf
        · cases h
      | ifCond cd off =>
        have := sd_ln hlen rfl; subst this
        simp only [ip_ex] at h
        simp only [ip_lk, decide_eq_true_eq] at hlk
        split at h
        · rename_i v r
          unfold ip_if at h
          have ht : ip_cmp v 0 cd → W p l e R s m args below meth c H locs cs.1 cs.2 Q (F0 m aux ls (r.map (sd_v ad vz))) := fun hc => go _ _ _ _ _ _ _ (by rw [if_pos hc] at h; exact h) hl hP
          have hf : ¬ ip_cmp v 0 cd → W p l e R s m args below meth c H locs cs.1 cs.2 Q (F0 m (pc + 3) ls (r.map (sd_v ad vz))) := fun hc => go _ _ _ _ _ _ _ (by rw [if_neg hc] at h; exact h) hl hP
          cases cd with
          | eq => exact lv_if_eq hx hb hdec hlk ht hf
          | ne => exact lv_if_ne hx hb hdec hlk ht (fun hc => hf (fun z => z hc))
          | lt => exact lv_if_lt hx hb hdec hlk ht hf
          | ge => exact lv_if_ge hx hb hdec hlk ht hf
          | gt => exact lv_if_gt hx hb hdec hlk ht hf
          | le => exact lv_if_le hx hb hdec hlk ht hf
        · cases h
      | tableswitch d lo hi offs =>
        simp only [ip_ex] at h
        split at h
        · rename_i v r
          obtain ⟨t, h1, h2⟩ := Option.bind_eq_some_iff.mp h
          have k := go _ _ _ _ _ _ _ h2 hl hP
          rcases sd_sw h1 with ⟨ho, e1⟩ | ⟨ho, o, e1, e2⟩
          · exact lv_tableOut hx hb hdec ho e1 k
          · exact lv_tableIn hx hb hdec (fun z => ho (Or.inl z)) (fun z => ho (Or.inr z)) e1 e2 k
        · cases h
      | getfield idx =>
        have := sd_ln hlen rfl; subst this
        simp only [ip_ex] at h
        split at h
        · rename_i k r
          split at h
          · rename_i ha
            obtain ⟨v, h1, h2⟩ := Option.bind_eq_some_iff.mp h
            exact sd_getf hC hV hP hdec ha hlk h1 (go _ _ _ _ _ _ _ h2 hl hP)
          · rename_i ha
            split at h
            · rename_i hk
              exact sd_getS hC hV hP hdec ha hlk hk.2.1 hk.2.2.1 (go _ _ _ _ _ _ _ h hl hP)
            · cases h
        · cases h
      | putfield idx =>
        have := sd_ln hlen rfl; subst this
        simp only [ip_ex] at h
        split at h
        · rename_i v k r
          split at h
          · rename_i ha
            obtain ⟨M', h1, h2⟩ := Option.bind_eq_some_iff.mp h
            exact sd_putf hC hV hP hdec hlk h1 fun H1 locs1 hP1 => go _ _ _ _ _ _ _ h2 hl hP1
          · cases h
        · cases h
      | getstatic idx =>
        have := sd_ln hlen rfl; subst this
        simp only [ip_ex] at h
        split at h
        · rename_i ha
          subst ha
          exact sd_gets hC hV hP hdec hlk (go _ _ _ _ _ _ _ h hl hP)
        · rename_i ha0
          split at h
          · rename_i ha
            subst ha
            have k := go _ _ _ _ _ _ _ h hl hP
            rw [List.map_cons, sd_vEX] at k
            exact sd_gets hC hV hP hdec hlk k
          · cases h
      | iaload =>
        have := sd_ln hlen rfl; subst this
        simp only [ip_ex] at h
        split at h
        · obtain ⟨v, h1, h2⟩ := Option.bind_eq_some_iff.mp h
          exact sd_ial hC hV hT hP hdec h1 (go _ _ _ _ _ _ _ h2 hl hP)
        · cases h
      | baload =>
        have := sd_ln hlen rfl; subst this
        simp only [ip_ex] at h
        split at h
        · obtain ⟨v, h1, h2⟩ := Option.bind_eq_some_iff.mp h
          exact sd_bal hC hV hP hdec h1 (go _ _ _ _ _ _ _ h2 hl hP)
        · cases h
      | aaload =>
        have := sd_ln hlen rfl; subst this
        simp only [ip_ex] at h
        split at h
        · obtain ⟨v, h1, h2⟩ := Option.bind_eq_some_iff.mp h
          exact sd_aal hC hV hP hdec h1 (go _ _ _ _ _ _ _ h2 hl hP)
        · cases h
      | iastore =>
        have := sd_ln hlen rfl; subst this
        simp only [ip_ex] at h
        split at h
        · split at h
          · rename_i hi
            exact sd_ias hC hV hP hdec hi fun H1 locs1 hP1 => go _ _ _ _ _ _ _ h hl hP1
          · cases h
        · cases h
      | bastore =>
        have := sd_ln hlen rfl; subst this
        simp only [ip_ex] at h
        split at h
        · obtain ⟨M', h1, h2⟩ := Option.bind_eq_some_iff.mp h
          exact sd_bas hC hV hP hdec h1 fun H1 locs1 hP1 => go _ _ _ _ _ _ _ h2 hl hP1
        · cases h
      | arraylength =>
        have := sd_ln hlen rfl; subst this
        simp only [ip_ex] at h
        split at h
        · obtain ⟨v, h1, h2⟩ := Option.bind_eq_some_iff.mp h
          exact sd_len hC hV hT hP hdec h1 (go _ _ _ _ _ _ _ h2 hl hP)
        · cases h
      | new idx =>
        have := sd_ln hlen rfl; subst this
        obtain ⟨q, h1, h2⟩ := Option.bind_eq_some_iff.mp h
        have hne : (ip_mI j).2.2.2.2.2.1 ≠ 0 := by
          intro z
          unfold ip_newO at h1
          split at h1
          · rename_i hc
            simp only [Bool.and_eq_true, decide_eq_true_eq] at hc
            omega
          · cases h1
        exact sd_new hC hV hA hl hP hdec hlk h1 (goN _ _ _ _ h2 hne)
      | newarray t =>
        have := sd_ln hlen rfl; subst this
        simp only [ip_ex] at h
        split at h
        · split at h
          · cases h
          · rename_i hn
            obtain ⟨q, h1, h2⟩ := Option.bind_eq_some_iff.mp h
            have hne : (ip_mI j).2.2.2.2.2.1 ≠ 0 := by
              intro z
              unfold ip_newA at h1
              split at h1
              · rename_i hc
                simp only [Bool.and_eq_true, decide_eq_true_eq] at hc
                omega
              · cases h1
            exact sd_newa hC hV hA hl hP hdec hn h1 (goN _ _ _ _ h2 hne)
        · cases h
      | multianewarray idx dm =>
        have := sd_ln hlen rfl; subst this
        match dm, hdec, hlk, h with
        | 0, _, _, h => cases h
        | 1, _, _, h => cases h
        | 2, hdec, hlk, h =>
          simp only [ip_ex] at h
          split at h
          · split at h
            · cases h
            · rename_i hn
              obtain ⟨q, h1, h2⟩ := Option.bind_eq_some_iff.mp h
              have hne : (ip_mI j).2.2.2.2.2.1 ≠ 0 := by
                intro z
                unfold ip_newM at h1
                split at h1
                · rename_i hc
                  simp only [Bool.and_eq_true, decide_eq_true_eq] at hc
                  omega
                · cases h1
              exact sd_newm hC hV hA hl hP hdec hlk (fun z => hn (Or.inl z)) (fun z => hn (Or.inr z)) h1 (goN _ _ _ _ h2 hne)
          · cases h
        | dm + 3, _, _, h => cases h
      | invokevirtual idx =>
        have := sd_ln hlen rfl; subst this
        simp only [ip_ex] at h
        split at h
        · cases h
        · rename_i hn
          split at h
          · rename_i k as hS
            split at h
            · rename_i hr
              rw [show S.map (sd_v ad vz) = ((Value.ref k :: as).reverse ++ S.drop (ip_mI aux).2.2.1).map (sd_v ad vz) by rw [← sd_take hS]]
              exact sd_call IH hC hV hT hA hl hP hH hlk (sd_tkl hn hS) (Or.inl ⟨rfl, hdec, k, as, rfl, hr⟩) h
            · cases h
          · cases h
      | invokestatic idx =>
        have := sd_ln hlen rfl; subst this
        simp only [ip_ex] at h
        simp only [ip_lk] at hlk
        split at h
        · rename_i ha
          rw [if_pos ha] at hlk
          obtain ⟨q, h1, h2⟩ := Option.bind_eq_some_iff.mp h
          exact sd_copy hC hV hl.1 hP hdec hlk h1 fun H1 locs1 hP1 => go _ _ _ _ _ _ _ h2 hl hP1
        · rename_i ha
          rw [if_neg ha] at hlk
          split at h
          · rename_i ha2
            rw [if_pos ha2] at hlk
            split at h
            · rename_i y v r
              split at h
              · rename_i hc
                obtain ⟨en, hen, h1⟩ := List.any_eq_true.mp hlk
                simp only [decide_eq_true_eq] at h1
                obtain ⟨e1, e2, e3⟩ := h1
                have h2 := List.all_eq_true.mp ip_XLok en hen
                simp only [decide_eq_true_eq] at h2
                rw [e1, e2, e3] at h2
                obtain ⟨c1, c2, c3⟩ := hc
                simp only [ip_ends, Bool.and_eq_true, decide_eq_true_eq] at c3
                obtain ⟨-, -, -, -, -, -, hfr, hlo, hce, hsl⟩ := id hC
                have k := go _ _ _ _ _ _ _ h hl hP
                obtain ⟨w1, w2, w3, w4, w5⟩ := ip_w_mth
                rcases ha2 with ha2 | ha2
                · subst ha2
                  rw [if_pos rfl] at h2
                  have hm := ip_good_mem (List.mem_of_getElem? h2) rfl
                  rw [if_pos rfl] at k
                  exact va_mmax hx hb (hml.trans hl.1.symm) hown (hts _ hm) (hts _ (ip_good_mem w1 rfl)) (hts _ (ip_good_mem w3 rfl)) (hts _ (ip_good_mem w4 rfl)) (by rw [hfr]; exact c1) (by rw [sd_cat hz, hlo]; exact c2) (by rw [hce]; exact c3.1) (by rw [hsl]; exact c3.2) hdec k
                · subst ha2
                  rw [if_neg (by decide)] at h2
                  have hm := ip_good_mem (List.mem_of_getElem? h2) rfl
                  rw [if_neg (by decide)] at k
                  exact va_mmin hx hb (hml.trans hl.1.symm) hown (hts _ hm) (hts _ (ip_good_mem w2 rfl)) (hts _ (ip_good_mem w3 rfl)) (hts _ (ip_good_mem w5 rfl)) (by rw [hfr]; exact c1) (by rw [sd_cat hz, hlo]; exact c2) (by rw [hce]; exact c3.1) (by rw [hsl]; exact c3.2) hdec k
              · cases h
            · cases h
          · rename_i ha2
            rw [if_neg ha2] at hlk
            split at h
            · cases h
            · rename_i hn
              rw [show S.map (sd_v ad vz) = (((S.take (ip_mI aux).2.2.1).reverse).reverse ++ S.drop (ip_mI aux).2.2.1).map (sd_v ad vz) by rw [← sd_take rfl]]
              exact sd_call IH hC hV hT hA hl hP hH hlk (sd_tkl hn rfl) (Or.inr (Or.inl ⟨rfl, hdec⟩)) h
      | invokespecial idx =>
        have := sd_ln hlen rfl; subst this
        simp only [ip_ex] at h
        simp only [ip_lk] at hlk
        split at h
        · rename_i ha
          rw [if_pos ha] at hlk
          split at h
          · rename_i k r
            split at h
            · rename_i hc
              obtain ⟨en, hen, h1⟩ := List.any_eq_true.mp hlk
              simp only [decide_eq_true_eq] at h1
              obtain ⟨e1, e2⟩ := h1
              have h2 := List.all_eq_true.mp ip_OLok en hen
              simp only [decide_eq_true_eq] at h2
              have hm := ip_good_mem (List.mem_of_getElem? h2) rfl
              rw [e1, e2] at hm
              obtain ⟨-, -, -, -, -, -, hfr, hlo, hce, hsl⟩ := id hC
              have kk := go _ _ _ _ _ _ _ h hl hP
              rw [List.map_cons, sd_v_ref hc.2.2]
              exact W.objInit hx hb hown (hts _ hm) (hts _ (ip_good_mem ip_w_obj.1 rfl)) (hts _ (ip_good_mem ip_w_obj.2 rfl)) rfl (by rw [hml]; exact hl.1) rfl hdec (by rw [hfr]; exact hc.1) (by rw [sd_cat hz, hlo]; have := hc.2.1; simpa using this) kk
            · cases h
          · cases h
        · rename_i ha
          rw [if_neg ha] at hlk
          split at h
          · cases h
          · rename_i hn
            split at h
            · rename_i k as hS
              split at h
              · rename_i hk
                rw [show S.map (sd_v ad vz) = ((Value.ref k :: as).reverse ++ S.drop (ip_mI aux).2.2.1).map (sd_v ad vz) by rw [← sd_take hS]]
                exact sd_call IH hC hV hT hA hl hP hH hlk (sd_tkl hn hS) (Or.inr (Or.inr ⟨rfl, hdec, k, as, rfl, hk⟩)) h
              · cases h
            · cases h
      | return_ =>
        simp only [ip_ex] at h
        split at h
        · rename_i hc
          obtain ⟨c1, c2, c3⟩ := hc
          have hS := List.length_eq_zero_iff.mp c1
          subst hS
          exact ends c3 none (Option.some.inj h).symm fun st' hst => Or.inl ⟨by have := sd_ln hlen rfl; rw [this] at hdec; exact hdec, rfl, hst.symm, c2⟩
        · cases h
      | ireturn =>
        simp only [ip_ex] at h
        split at h
        · rename_i v
          split at h
          · rename_i ty hty
            split at h
            · rename_i hc
              exact ends hc.2 _ (Option.some.inj h).symm fun st' hst => Or.inr (Or.inl ⟨by have := sd_ln hlen rfl; rw [this] at hdec; exact hdec, v, ty, rfl, hst.symm, hty, hc.1⟩)
            · cases h
          · cases h
        · cases h
      | lreturn =>
        simp only [ip_ex] at h
        split at h
        · rename_i v
          split at h
          · rename_i hc
            exact ends hc.2 _ (Option.some.inj h).symm fun st' hst => Or.inr (Or.inr (Or.inl ⟨by have := sd_ln hlen rfl; rw [this] at hdec; exact hdec, v, rfl, hst.symm, hc.1⟩))
          · cases h
        · cases h
      | areturn =>
        simp only [ip_ex] at h
        split at h
        · rename_i v
          split at h
          · rename_i nm hty
            split at h
            · rename_i hc
              exact ends hc _ (Option.some.inj h).symm fun st' hst => Or.inr (Or.inr (Or.inr ⟨by have := sd_ln hlen rfl; rw [this] at hdec; exact hdec, v, _, rfl, hst.symm, hty, Or.inl ⟨_, rfl⟩⟩))
            · cases h
          · rename_i nm hty
            split at h
            · rename_i hc
              exact ends hc _ (Option.some.inj h).symm fun st' hst => Or.inr (Or.inr (Or.inr ⟨by have := sd_ln hlen rfl; rw [this] at hdec; exact hdec, v, _, rfl, hst.symm, hty, Or.inr ⟨_, rfl⟩⟩))
            · cases h
          · cases h
        · cases h
      | _ =>
        simp only [ip_ex] at h
        obtain ⟨S', h1, h2⟩ := Option.bind_eq_some_iff.mp h
        exact stk S' h1 h2
end
section
/-! ===== runs as predicates: wp j pc L S M Q: from place pc of method j the run ends, its answer and world having Q ===== -/
def wp (j pc : Nat) (L S : List Value) (M : ip_M) (Q : Option Value → ip_M → Prop) : Prop := ∃ (n : Nat) (r : ip_R), ip_run none n j pc L S M (0, 0) = some r ∧ Q r.1 r.2
theorem wp_bmono {α : Type} {o o' : Option α} {f g : α → Option ip_R} {r : ip_R} (ho : ∀ a, o = some a → o' = some a) (hfg : ∀ a r, f a = some r → g a = some r) (h : o.bind f = some r) : o'.bind g = some r := by
  obtain ⟨a, h1, h2⟩ := Option.bind_eq_some_iff.mp h
  rw [ho a h1]
  exact hfg a r h2
theorem wp_exmono {top : ip_Top} {rec rec' : Nat → List Value → List Value → ip_M → Nat × Nat → Option ip_R} {cal cal' : Nat → List Value → ip_M → Option ip_R}
    (hr : ∀ pc L S M cs r, rec pc L S M cs = some r → rec' pc L S M cs = some r) (hc : ∀ i L M r, cal i L M = some r → cal' i L M = some r) {j pc len aux : Nat} {L S : List Value} {M : ip_M} {cs : Nat × Nat} {ins : Instr} {r : ip_R}
    (h : ip_ex top rec cal j pc len aux L S M cs ins = some r) : ip_ex top rec' cal' j pc len aux L S M cs ins = some r := by
  have hcall : ∀ i as rest, ip_call rec cal j pc i L as rest M cs = some r → ip_call rec' cal' j pc i L as rest M cs = some r := by
    intro i as rest h
    unfold ip_call at h ⊢
    split at h
    · rename_i hcnd
      rw [if_pos hcnd]
      exact wp_bmono (hc _ _ _) (fun a r => hr _ _ _ _ _ _) h
    · cases h
  have hif : ∀ (x y : Int32) (c : Jvm.ClassFile.Cond) (a b a' b' : Option ip_R), (a = some r → a' = some r) → (b = some r → b' = some r) → ip_if x y c a b = some r → ip_if x y c a' b' = some r := by
    intro x y c a b a' b' ha hb h
    unfold ip_if at h ⊢
    split at h
    · rename_i hcnd
      rw [if_pos hcnd]
      exact ha h
    · rename_i hcnd
      rw [if_neg hcnd]
      exact hb h
  cases ins with
  | invokevirtual idx =>
    simp only [ip_ex] at h ⊢
    split at h
    · cases h
    · rename_i hn
      rw [if_neg hn]
      split at h
      · split at h
        · rename_i hcnd
          rw [if_pos hcnd]
          exact hcall _ _ _ h
        · cases h
      · cases h
  | invokestatic idx =>
    simp only [ip_ex] at h ⊢
    split at h
    · rename_i ha
      rw [if_pos ha]
      exact wp_bmono (fun _ z => z) (fun a r => hr _ _ _ _ _ _) h
    · rename_i ha
      rw [if_neg ha]
      split at h
      · rename_i ha2
        rw [if_pos ha2]
        split at h
        · split at h
          · rename_i hcnd
            rw [if_pos hcnd]
            exact hr _ _ _ _ _ _ h
          · cases h
        · cases h
      · rename_i ha2
        rw [if_neg ha2]
        split at h
        · cases h
        · rename_i hn
          rw [if_neg hn]
          exact hcall _ _ _ h
  | invokespecial idx =>
    simp only [ip_ex] at h ⊢
    split at h
    · rename_i ha
      rw [if_pos ha]
      split at h
      · split at h
        · rename_i hcnd
          rw [if_pos hcnd]
          exact hr _ _ _ _ _ _ h
        · cases h
      · cases h
    · rename_i ha
      rw [if_neg ha]
      split at h
      · cases h
      · rename_i hn
        rw [if_neg hn]
        split at h
        · split at h
          · rename_i hcnd
            rw [if_pos hcnd]
            exact hcall _ _ _ h
          · cases h
        · cases h
  | if_icmp cd off =>
    simp only [ip_ex] at h ⊢
    split at h
    · exact hif _ _ _ _ _ _ _ (hr _ _ _ _ _ _) (hr _ _ _ _ _ _) h
    · cases h
  | ifCond cd off =>
    simp only [ip_ex] at h ⊢
    split at h
    · exact hif _ _ _ _ _ _ _ (hr _ _ _ _ _ _) (hr _ _ _ _ _ _) h
    · cases h
  | goto off => exact hr _ _ _ _ _ _ h
  | multianewarray idx dm =>
    match dm, h with
    | 0, h => cases h
    | 1, h => cases h
    | 2, h =>
      simp only [ip_ex] at h ⊢
      split at h
      · split at h
        · cases h
        · rename_i hn
          rw [if_neg hn]
          exact wp_bmono (fun _ z => z) (fun a r => hr _ _ _ _ _ _) h
      · cases h
    | dm + 3, h => cases h
  | newarray t =>
    simp only [ip_ex] at h ⊢
    split at h
    · split at h
      · cases h
      · rename_i hn
        rw [if_neg hn]
        exact wp_bmono (fun _ z => z) (fun a r => hr _ _ _ _ _ _) h
    · cases h
  | getfield idx =>
    simp only [ip_ex] at h ⊢
    split at h
    · split at h
      · rename_i ha
        rw [if_pos ha]
        exact wp_bmono (fun _ z => z) (fun a r => hr _ _ _ _ _ _) h
      · rename_i ha
        rw [if_neg ha]
        split at h
        · rename_i hcnd
          rw [if_pos hcnd]
          exact hr _ _ _ _ _ _ h
        · cases h
    · cases h
  | putfield idx =>
    simp only [ip_ex] at h ⊢
    split at h
    · split at h
      · rename_i ha
        rw [if_pos ha]
        exact wp_bmono (fun _ z => z) (fun a r => hr _ _ _ _ _ _) h
      · cases h
    · cases h
  | getstatic idx =>
    simp only [ip_ex] at h ⊢
    split at h
    · rename_i ha
      rw [if_pos ha]
      exact hr _ _ _ _ _ _ h
    · rename_i ha
      rw [if_neg ha]
      split at h
      · rename_i ha2
        rw [if_pos ha2]
        exact hr _ _ _ _ _ _ h
      · cases h
  | iastore =>
    simp only [ip_ex] at h ⊢
    split at h
    · split at h
      · rename_i ha
        rw [if_pos ha]
        exact hr _ _ _ _ _ _ h
      · cases h
    · cases h
  | istore k =>
    simp only [ip_ex] at h ⊢
    split at h <;> first | exact hr _ _ _ _ _ _ h | cases h
  | istore_n k =>
    simp only [ip_ex] at h ⊢
    split at h <;> first | exact hr _ _ _ _ _ _ h | cases h
  | astore_n k =>
    simp only [ip_ex] at h ⊢
    split at h <;> first | exact hr _ _ _ _ _ _ h | cases h
  | lstore k =>
    simp only [ip_ex] at h ⊢
    split at h <;> first | exact hr _ _ _ _ _ _ h | cases h
  | lstore_n k =>
    simp only [ip_ex] at h ⊢
    split at h <;> first | exact hr _ _ _ _ _ _ h | cases h
  | iinc k n =>
    simp only [ip_ex] at h ⊢
    split at h <;> first | exact hr _ _ _ _ _ _ h | cases h
  | return_ => exact h
  | ireturn => exact h
  | lreturn => exact h
  | areturn => exact h
  | iaload =>
    simp only [ip_ex] at h ⊢
    split at h <;> first | exact wp_bmono (fun _ z => z) (fun a r => hr _ _ _ _ _ _) h | cases h
  | baload =>
    simp only [ip_ex] at h ⊢
    split at h <;> first | exact wp_bmono (fun _ z => z) (fun a r => hr _ _ _ _ _ _) h | cases h
  | aaload =>
    simp only [ip_ex] at h ⊢
    split at h <;> first | exact wp_bmono (fun _ z => z) (fun a r => hr _ _ _ _ _ _) h | cases h
  | bastore =>
    simp only [ip_ex] at h ⊢
    split at h <;> first | exact wp_bmono (fun _ z => z) (fun a r => hr _ _ _ _ _ _) h | cases h
  | arraylength =>
    simp only [ip_ex] at h ⊢
    split at h <;> first | exact wp_bmono (fun _ z => z) (fun a r => hr _ _ _ _ _ _) h | cases h
  | tableswitch d lo hi offs =>
    simp only [ip_ex] at h ⊢
    split at h <;> first | exact wp_bmono (fun _ z => z) (fun a r => hr _ _ _ _ _ _) h | cases h
  | _ =>
    simp only [ip_ex] at h ⊢
    exact wp_bmono (fun _ z => z) (fun a r => hr _ _ _ _ _ _) h
theorem wp_mono1 : ∀ (n : Nat) (top : ip_Top) (j pc : Nat) (L S : List Value) (M : ip_M) (cs : Nat × Nat) (r : ip_R), ip_run top n j pc L S M cs = some r → ip_run top (n + 1) j pc L S M cs = some r := by
  intro n
  induction n with
  | zero => intro top j pc L S M cs r h; cases h
  | succ n ih =>
    intro top j pc L S M cs r h
    rw [ip_run] at h ⊢
    cases hq : ip_fetch j pc with
    | none => rw [hq] at h; cases h
    | some q =>
      rw [hq] at h
      exact wp_exmono (fun pc L S M cs r h => ih top j pc L S M cs r h) (fun i L M r h => ih none i 0 L [] M (0, 0) r h) h
theorem wp_mono {n m : Nat} (hnm : n ≤ m) {top : ip_Top} {j pc : Nat} {L S : List Value} {M : ip_M} {cs : Nat × Nat} {r : ip_R} (h : ip_run top n j pc L S M cs = some r) : ip_run top m j pc L S M cs = some r := by
  induction hnm with
  | refl => exact h
  | step _ ih => exact wp_mono1 _ _ _ _ _ _ _ _ _ ih
end
section
/-! ===== the rules of wp ===== -/
theorem wp_nx {j pc j' pc' : Nat} {L S L' S' : List Value} {M M' : ip_M} {Q : Option Value → ip_M → Prop} {k : Nat} (h : ∀ n, ip_run none (n + (k + 1)) j pc L S M (0, 0) = ip_run none n j' pc' L' S' M' (0, 0)) : wp j pc L S M Q ↔ wp j' pc' L' S' M' Q := by
  constructor
  · rintro ⟨n, r, h1, h2⟩
    refine ⟨n, r, ?_, h2⟩
    rw [← h]
    exact wp_mono (by omega) h1
  · rintro ⟨n, r, h1, h2⟩
    exact ⟨n + (k + 1), r, by rw [h]; exact h1, h2⟩
theorem wp_if {j pc pc1 pc2 : Nat} {L S S' : List Value} {M : ip_M} {Q : Option Value → ip_M → Prop} {x y : Int32} {c : Jvm.ClassFile.Cond} (h : ∀ n, ip_run none (n + 1) j pc L S M (0, 0) = ip_if x y c (ip_run none n j pc1 L S' M (0, 0)) (ip_run none n j pc2 L S' M (0, 0))) :
    wp j pc L S M Q ↔ (ip_cmp x y c ∧ wp j pc1 L S' M Q) ∨ (¬ ip_cmp x y c ∧ wp j pc2 L S' M Q) := by
  constructor
  · rintro ⟨n, r, h1, h2⟩
    cases n with
    | zero => cases h1
    | succ n =>
      rw [h] at h1
      unfold ip_if at h1
      split at h1
      · rename_i hc
        exact Or.inl ⟨hc, n, r, h1, h2⟩
      · rename_i hc
        exact Or.inr ⟨hc, n, r, h1, h2⟩
  · rintro (⟨hc, n, r, h1, h2⟩ | ⟨hc, n, r, h1, h2⟩)
    · exact ⟨n + 1, r, by rw [h, ip_if, if_pos hc]; exact h1, h2⟩
    · exact ⟨n + 1, r, by rw [h, ip_if, if_neg hc]; exact h1, h2⟩
theorem wp_bind {α : Type} {j pc : Nat} {L S : List Value} {M : ip_M} {Q : Option Value → ip_M → Prop} {o : Option α} {j' pc' : Nat} {L' : α → List Value} {S' : α → List Value} {M' : α → ip_M} (h : ∀ n, ip_run none (n + 1) j pc L S M (0, 0) = o.bind fun a => ip_run none n j' pc' (L' a) (S' a) (M' a) (0, 0)) :
    wp j pc L S M Q ↔ ∃ a, o = some a ∧ wp j' pc' (L' a) (S' a) (M' a) Q := by
  constructor
  · rintro ⟨n, r, h1, h2⟩
    cases n with
    | zero => cases h1
    | succ n =>
      rw [h] at h1
      obtain ⟨a, e1, e2⟩ := Option.bind_eq_some_iff.mp h1
      exact ⟨a, e1, n, r, e2, h2⟩
  · rintro ⟨a, e1, n, r, e2, h2⟩
    exact ⟨n + 1, r, by rw [h, e1]; exact e2, h2⟩
theorem wp_cond {c : Prop} [Decidable c] {j pc : Nat} {L S : List Value} {M : ip_M} {Q : Option Value → ip_M → Prop} {j' pc' : Nat} {L' S' : List Value} {M' : ip_M} (h : ∀ n, ip_run none (n + 1) j pc L S M (0, 0) = if c then ip_run none n j' pc' L' S' M' (0, 0) else none) :
    wp j pc L S M Q ↔ c ∧ wp j' pc' L' S' M' Q := by
  constructor
  · rintro ⟨n, r, h1, h2⟩
    cases n with
    | zero => cases h1
    | succ n =>
      rw [h] at h1
      split at h1
      · rename_i hc
        exact ⟨hc, n, r, h1, h2⟩
      · cases h1
  · rintro ⟨hc, n, r, h1, h2⟩
    exact ⟨n + 1, r, by rw [h, if_pos hc]; exact h1, h2⟩
/-- a division: none by 0 -/
theorem wp_ncond {c : Prop} [Decidable c] {j pc : Nat} {L S : List Value} {M : ip_M} {Q : Option Value → ip_M → Prop} {j' pc' : Nat} {L' S' : List Value} {M' : ip_M} (h : ∀ n, ip_run none (n + 1) j pc L S M (0, 0) = (if c then none else some S').bind fun S' => ip_run none n j' pc' L' S' M' (0, 0)) :
    wp j pc L S M Q ↔ ¬ c ∧ wp j' pc' L' S' M' Q := by
  constructor
  · rintro ⟨n, r, h1, h2⟩
    cases n with
    | zero => cases h1
    | succ n =>
      rw [h] at h1
      split at h1
      · cases h1
      · rename_i hc
        exact ⟨hc, n, r, h1, h2⟩
  · rintro ⟨hc, n, r, h1, h2⟩
    exact ⟨n + 1, r, by rw [h, if_neg hc]; exact h1, h2⟩
theorem wp_ret {j pc : Nat} {L S : List Value} {M : ip_M} {Q : Option Value → ip_M → Prop} {v : Option Value} (h : ∀ n, ip_run none (n + 1) j pc L S M (0, 0) = some (v, M)) : wp j pc L S M Q ↔ Q v M := by
  constructor
  · rintro ⟨n, r, h1, h2⟩
    cases n with
    | zero => cases h1
    | succ n =>
      rw [h] at h1
      cases h1
      exact h2
  · intro hq
    exact ⟨0 + 1, _, h 0, hq⟩
theorem wp_retc {c : Prop} [Decidable c] {j pc : Nat} {L S : List Value} {M : ip_M} {Q : Option Value → ip_M → Prop} {v : Option Value} (h : ∀ n, ip_run none (n + 1) j pc L S M (0, 0) = if c then some (v, M) else none) : wp j pc L S M Q ↔ c ∧ Q v M := by
  constructor
  · rintro ⟨n, r, h1, h2⟩
    cases n with
    | zero => cases h1
    | succ n =>
      rw [h] at h1
      split at h1
      · rename_i hc
        cases h1
        exact ⟨hc, h2⟩
      · cases h1
  · rintro ⟨hc, hq⟩
    exact ⟨0 + 1, _, by rw [h, if_pos hc], hq⟩
theorem wp_call {j pc i pc' : Nat} {L S Li rest : List Value} {M : ip_M} {Q : Option Value → ip_M → Prop} (h : ∀ n, ip_run none (n + 1) j pc L S M (0, 0) = (ip_run none n i 0 Li [] M (0, 0)).bind fun r => ip_run none n j pc' L (r.1.toList ++ rest) r.2 (0, 0)) :
    wp j pc L S M Q ↔ wp i 0 Li [] M (fun v M' => wp j pc' L (v.toList ++ rest) M' Q) := by
  constructor
  · rintro ⟨n, r, h1, h2⟩
    cases n with
    | zero => cases h1
    | succ n =>
      rw [h] at h1
      obtain ⟨a, e1, e2⟩ := Option.bind_eq_some_iff.mp h1
      exact ⟨n, a, e1, n, r, e2, h2⟩
  · rintro ⟨n, a, e1, n', r, e2, h2⟩
    refine ⟨max n n' + 1, r, ?_, h2⟩
    rw [h, wp_mono (Nat.le_max_left n n') e1]
    exact wp_mono (Nat.le_max_right n n') e2
theorem wp_callc {c : Prop} [Decidable c] {j pc i pc' : Nat} {L S Li rest : List Value} {M : ip_M} {Q : Option Value → ip_M → Prop} (h : ∀ n, ip_run none (n + 1) j pc L S M (0, 0) = if c then (ip_run none n i 0 Li [] M (0, 0)).bind fun r => ip_run none n j pc' L (r.1.toList ++ rest) r.2 (0, 0) else none) :
    wp j pc L S M Q ↔ c ∧ wp i 0 Li [] M (fun v M' => wp j pc' L (v.toList ++ rest) M' Q) := by
  constructor
  · rintro ⟨n, r, h1, h2⟩
    cases n with
    | zero => cases h1
    | succ n =>
      rw [h] at h1
      split at h1
      · rename_i hc
        obtain ⟨a, e1, e2⟩ := Option.bind_eq_some_iff.mp h1
        exact ⟨hc, n, a, e1, n, r, e2, h2⟩
      · cases h1
  · rintro ⟨hc, n, a, e1, n', r, e2, h2⟩
    refine ⟨max n n' + 1, r, ?_, h2⟩
    rw [h, if_pos hc, wp_mono (Nat.le_max_left n n') e1]
    exact wp_mono (Nat.le_max_right n n') e2
/-- a callee's answers, then on -/
theorem wp_seq {j pc : Nat} {L S : List Value} {M : ip_M} {P Q : Option Value → ip_M → Prop} (h : wp j pc L S M P) (hk : ∀ v M', P v M' → Q v M') : wp j pc L S M Q := by
  obtain ⟨n, r, h1, h2⟩ := h
  exact ⟨n, r, h1, hk _ _ h2⟩
end
section
/-! ===== the rules of wp, one an instruction that asks something ===== -/
section WPR
variable {j pc pc' : Nat} {L S S' : List Value} {sh : List ip_Sh} {F : ip_F} {G : ip_G} {Q : Option Value → ip_M → Prop}
theorem wp_N {j pc j' pc' : Nat} {L S L' S' : List Value} {M M' : ip_M} {Q : Option Value → ip_M → Prop} (k : Nat) (h : ∀ n, ip_run none (n + (k + 1)) j pc L S M (0, 0) = ip_run none n j' pc' L' S' M' (0, 0)) (hk : wp j' pc' L' S' M' Q) : wp j pc L S M Q := (wp_nx h).2 hk
theorem wp_I {M : ip_M} {pc1 pc2 : Nat} {x y : Int32} (c : Jvm.ClassFile.Cond) (h : ∀ n, ip_run none (n + 1) j pc L S M (0, 0) = ip_if x y c (ip_run none n j pc1 L S' M (0, 0)) (ip_run none n j pc2 L S' M (0, 0)))
    (h1 : ip_cmp x y c → wp j pc1 L S' M Q) (h2 : ¬ ip_cmp x y c → wp j pc2 L S' M Q) : wp j pc L S M Q := by
  rw [wp_if h]
  by_cases hc : ip_cmp x y c
  · exact Or.inl ⟨hc, h1 hc⟩
  · exact Or.inr ⟨hc, h2 hc⟩
theorem wp_join {pc : Nat} {M : ip_M} {a b : Int32} {c : Prop} [Decidable c] (h : wp j pc L (.int (if c then a else b) :: S) M Q) : (c → wp j pc L (.int a :: S) M Q) ∧ (¬ c → wp j pc L (.int b :: S) M Q) := by
  constructor
  · intro hc
    rw [if_pos hc] at h
    exact h
  · intro hc
    rw [if_neg hc] at h
    exact h
theorem ip_ia_of {t k n : Nat} {l : List Nat} {i : Int32} (hs : sh[k]? = some (1, t, n :: l)) (hin : vp_in i n) : ip_ia (sh, F, G) t k i = true := by
  unfold ip_ia
  rw [show ((sh, F, G) : ip_M).1[k]? = some (1, t, n :: l) from hs]
  simp only [decide_true, Bool.true_and, Bool.not_eq_true', decide_eq_false_iff_not]
  exact hin
theorem wp_ial {k n m : Nat} {l : List Nat} {i : Int32} (hf : ip_fetch j pc = some (.iaload, 1, 0)) (hs : sh[k]? = some (1, 0, n :: l)) (hm : i.toNatClampNeg = m) (hin : vp_in i n) (h : wp j (pc + 1) L (.int (F k m) :: S) (sh, F, G) Q) : wp j pc L (.int i :: .ref k :: S) (sh, F, G) Q := by
  refine wp_N 0 (fun n9 => ?_) h
  rw [ip_run, hf]
  simp only [Option.bind_some, ip_ex, ip_ial, ip_ia_of (F := F) (G := G) hs hin, if_true, hm]
theorem wp_bal {k n m t : Nat} {l : List Nat} {i : Int32} (hf : ip_fetch j pc = some (.baload, 1, 0)) (hs : sh[k]? = some (1, t, n :: l)) (ht : t = 1 ∨ t = 2) (hm : i.toNatClampNeg = m) (hin : vp_in i n) (h : wp j (pc + 1) L (.int (F k m) :: S) (sh, F, G) Q) : wp j pc L (.int i :: .ref k :: S) (sh, F, G) Q := by
  refine wp_N 0 (fun n9 => ?_) h
  rw [ip_run, hf]
  have h1 : (ip_ia (sh, F, G) 1 k i || ip_ia (sh, F, G) 2 k i) = true := by
    rcases ht with rfl | rfl
    · rw [ip_ia_of (F := F) (G := G) hs hin]
      rfl
    · rw [ip_ia_of (F := F) (G := G) hs hin, Bool.or_true]
  simp only [Option.bind_some, ip_ex, ip_bal, h1, if_true, hm]
theorem wp_ias {k n m : Nat} {l : List Nat} {i x : Int32} (hf : ip_fetch j pc = some (.iastore, 1, 0)) (hs : sh[k]? = some (1, 0, n :: l)) (hm : i.toNatClampNeg = m) (hin : vp_in i n) (h : wp j (pc + 1) L S (sh, ip_u F k m x, G) Q) : wp j pc L (.int x :: .int i :: .ref k :: S) (sh, F, G) Q := by
  refine wp_N 0 (fun n9 => ?_) h
  rw [ip_run, hf]
  simp only [Option.bind_some, ip_ex, ip_ia_of (F := F) (G := G) hs hin, if_true, hm]
theorem wp_bas1 {k n m : Nat} {l : List Nat} {i x : Int32} (hf : ip_fetch j pc = some (.bastore, 1, 0)) (hs : sh[k]? = some (1, 1, n :: l)) (hm : i.toNatClampNeg = m) (hin : vp_in i n) (h : wp j (pc + 1) L S (sh, ip_u F k m (vp_nar .boolean x), G) Q) : wp j pc L (.int x :: .int i :: .ref k :: S) (sh, F, G) Q := by
  refine wp_N 0 (fun n9 => ?_) h
  rw [ip_run, hf]
  simp only [Option.bind_some, ip_ex, ip_bas, ip_ia_of (F := F) (G := G) hs hin, if_true, hm]
theorem wp_bas2 {k n m : Nat} {l : List Nat} {i x : Int32} (hf : ip_fetch j pc = some (.bastore, 1, 0)) (hs : sh[k]? = some (1, 2, n :: l)) (hm : i.toNatClampNeg = m) (hin : vp_in i n) (h : wp j (pc + 1) L S (sh, ip_u F k m (vp_nar .byte x), G) Q) : wp j pc L (.int x :: .int i :: .ref k :: S) (sh, F, G) Q := by
  refine wp_N 0 (fun n9 => ?_) h
  rw [ip_run, hf]
  have h1 : ip_ia (sh, F, G) 1 k i = false := by
    unfold ip_ia
    rw [show ((sh, F, G) : ip_M).1[k]? = some (1, 2, n :: l) from hs]
    rfl
  simp only [Option.bind_some, ip_ex, ip_bas, h1, ip_ia_of (F := F) (G := G) hs hin, if_true, if_neg Bool.false_ne_true, hm]
/-- a row out of a grid whose rows lie one behind another, from cell b on -/
theorem wp_aal {k n b m : Nat} {l : List Nat} {i : Int32} (hf : ip_fetch j pc = some (.aaload, 1, 0)) (hs : sh[k]? = some (2, 3, l)) (hl : ∀ i, i < n → l[i]? = some (b + i + 1)) (hb : b + n < ip_EX) (hm : i.toNatClampNeg = m) (hin : vp_in i n) (h : wp j (pc + 1) L (.ref (b + m) :: S) (sh, F, G) Q) : wp j pc L (.int i :: .ref k :: S) (sh, F, G) Q := by
  refine wp_N 0 (fun n9 => ?_) h
  have hlt : i.toNatClampNeg < n := Nat.not_le.mp fun q => hin (Or.inr q)
  have h0 : ¬ i < 0 := fun q => hin (Or.inl q)
  rw [ip_run, hf]
  have : ip_aa (sh, F, G) k i = some (.ref (b + m)) := by
    unfold ip_aa
    rw [show ((sh, F, G) : ip_M).1[k]? = some (2, 3, l) from hs]
    simp only [if_neg h0]
    rw [hl _ hlt, hm]
    simp only [Option.bind_some]
    rw [if_pos (by omega)]
  simp only [Option.bind_some, ip_ex, this]
theorem wp_len {k t n : Nat} {l : List Nat} (hf : ip_fetch j pc = some (.arraylength, 1, 0)) (hs : sh[k]? = some (1, t, n :: l)) (ht : t < 3) (h : wp j (pc + 1) L (.int (Int32.ofNat n) :: S) (sh, F, G) Q) : wp j pc L (.ref k :: S) (sh, F, G) Q := by
  refine wp_N 0 (fun n9 => ?_) h
  rw [ip_run, hf]
  have : ip_len none (sh, F, G) k = some (Int32.ofNat n) := by
    unfold ip_len
    rw [show ((sh, F, G) : ip_M).1[k]? = some (1, t, n :: l) from hs]
    simp only [if_pos ht]
  simp only [Option.bind_some, ip_ex]
  rw [this]
  rfl
theorem ip_gf_of {k ci f d aux : Nat} {l : List Nat} (hs : sh[k]? = some (3, ci, l)) (ha : aux / 64 = ci) (hf' : aux % 64 = f) (hd : l[f]? = some d) : ip_gf (sh, F, G) k aux = ip_fd F G k f d := by
  unfold ip_gf
  rw [show ((sh, F, G) : ip_M).1[k]? = some (3, ci, l) from hs]
  subst hf'
  simp only [ha, if_true, hd, Option.bind_some]
theorem wp_getI {k ci f aux idx : Nat} {l : List Nat} (hf : ip_fetch j pc = some (.getfield idx, 3, aux)) (hs : sh[k]? = some (3, ci, l)) (ha : aux / 64 = ci) (hf' : aux % 64 = f) (hd : l[f]? = some 0) (hx : aux < 100000) (h : wp j (pc + 3) L (.int (F k f) :: S) (sh, F, G) Q) : wp j pc L (.ref k :: S) (sh, F, G) Q := by
  refine wp_N 0 (fun n9 => ?_) h
  rw [ip_run, hf]
  simp only [Option.bind_some, ip_ex, if_pos hx, ip_gf_of (F := F) (G := G) hs ha hf' hd, ip_fd]
theorem wp_getR {k ci f aux idx r : Nat} {l : List Nat} (hf : ip_fetch j pc = some (.getfield idx, 3, aux)) (hs : sh[k]? = some (3, ci, l)) (ha : aux / 64 = ci) (hf' : aux % 64 = f) (hd : l[f]? = some (r + 3)) (hr : r < ip_EX) (hx : aux < 100000) (h : wp j (pc + 3) L (.ref r :: S) (sh, F, G) Q) : wp j pc L (.ref k :: S) (sh, F, G) Q := by
  refine wp_N 0 (fun n9 => ?_) h
  rw [ip_run, hf]
  simp only [Option.bind_some, ip_ex, if_pos hx, ip_gf_of (F := F) (G := G) hs ha hf' hd, ip_fd, if_pos hr]
theorem wp_putI {k ci f aux idx : Nat} {l : List Nat} {x : Int32} (hf : ip_fetch j pc = some (.putfield idx, 3, aux)) (hs : sh[k]? = some (3, ci, l)) (ha : aux / 64 = ci) (hf' : aux % 64 = f) (hd : l[f]? = some 0) (ht : ip_ty ci f = .int) (hx : aux < 100000) (h : wp j (pc + 3) L S (sh, ip_u F k f x, G) Q) : wp j pc L (.int x :: .ref k :: S) (sh, F, G) Q := by
  refine wp_N 0 (fun n9 => ?_) h
  rw [ip_run, hf]
  have : ip_pf (sh, F, G) k aux (.int x) = some (sh, ip_u F k f x, G) := by
    unfold ip_pf
    rw [show ((sh, F, G) : ip_M).1[k]? = some (3, ci, l) from hs]
    subst hf'
    simp only [ha, if_true, hd, Option.bind_some, ht, ip_pv]
  simp only [Option.bind_some, ip_ex, if_pos hx, this]
theorem wp_cpy {a d n0 n1 idx sp' dp' n' : Nat} {l0 l1 : List Nat} {sp dp n : Int32} (hf : ip_fetch j pc = some (.invokestatic idx, 3, 9998)) (h0 : sh[a]? = some (1, 0, n0 :: l0)) (h1 : sh[d]? = some (1, 0, n1 :: l1)) (hm : 1 ≤ (ip_mI j).2.2.2.1 ∧ ip_cat S + 18 ≤ (ip_mI j).2.2.2.2.1) (hn : ¬ (sp < 0 ∨ dp < 0 ∨ n < 0)) (e1 : sp.toNatClampNeg = sp') (e2 : dp.toNatClampNeg = dp') (e3 : n.toNatClampNeg = n') (hc : sp' + n' ≤ n0) (hd : dp' + n' ≤ n1)
    (h : wp j (pc + 3) L S (sh, ip_ur F d (va_cpy (F a) (F d) sp' dp' n'), G) Q) : wp j pc L (.int n :: .int dp :: .ref d :: .int sp :: .ref a :: S) (sh, F, G) Q := by
  refine wp_N 0 (fun n9 => ?_) h
  rw [ip_run, hf]
  have : ip_copy j (.int n :: .int dp :: .ref d :: .int sp :: .ref a :: S) (sh, F, G) = some (S, (sh, ip_ur F d (va_cpy (F a) (F d) sp' dp' n'), G)) := by
    unfold ip_copy
    simp only
    rw [h0, h1]
    simp only
    rw [if_pos ⟨hn, by rw [e1, e3]; exact hc, by rw [e2, e3]; exact hd, hm.1, hm.2⟩, e1, e2, e3]
  simp only [Option.bind_some, ip_ex, if_true, this]
theorem wp_C {M : ip_M} {i : Nat} {Li rest : List Value} (h : ∀ n, ip_run none (n + 1) j pc L S M (0, 0) = (ip_run none n i 0 Li [] M (0, 0)).bind fun r => ip_run none n j pc' L (r.1.toList ++ rest) r.2 (0, 0)) (hk : wp i 0 Li [] M (fun v M' => wp j pc' L (v.toList ++ rest) M' Q)) : wp j pc L S M Q := (wp_call h).2 hk
/-- a call of a method on an object that isn't told by a number -/
theorem wp_CV {i k ci idx : Nat} {as lf : List Value} {l : List Nat} (hf : ip_fetch j pc = some (.invokevirtual idx, 3, i)) (hs : sh[k]? = some (3, ci, l)) (hci : (ip_mI i).2.1 = ci) (hS : (ip_mI i).2.2.1 = (as.length + 1)) (hok : as.all ip_okv = true) (hl : (ip_arg (.ref k :: as)).length ≤ (ip_mB i).2.2.1) (hmay : ip_may j i (0, 0) S = true) (hal : (ip_mI i).2.2.2.2.2.1 = 0 ∧ (ip_mI i).2.2.2.2.2.2 = 0) (hlf : ip_loc (ip_mB i).2.2.1 (.ref k :: as) = lf)
    (hk : wp i 0 lf [] (sh, F, G) (fun v M' => wp j (pc + 3) L (v.toList ++ S) M' Q)) : wp j pc L (as.reverse ++ .ref k :: S) (sh, F, G) Q := by
  refine wp_C (fun n9 => ?_) hk
  rw [ip_run, hf]
  have hlen : (as.reverse ++ Value.ref k :: S).length = as.length + 1 + S.length := by simp; omega
  have e0 : as.reverse ++ Value.ref k :: S = (as.reverse ++ [Value.ref k]) ++ S := by simp
  have e1 : (as.reverse ++ Value.ref k :: S).take (as.length + 1) = as.reverse ++ [.ref k] := by
    rw [e0, List.take_left' (by simp)]
  have e2 : (as.reverse ++ Value.ref k :: S).drop (as.length + 1) = S := by
    rw [e0, List.drop_left' (by simp)]
  simp only [Option.bind_some, ip_ex, hS]
  rw [if_neg (by rw [hlen]; omega), e1, e2]
  simp only [List.reverse_append, List.reverse_cons, List.reverse_nil, List.nil_append, List.singleton_append, List.reverse_reverse]
  have hr : ip_rcv (sh, F, G) i k = true := by
    unfold ip_rcv
    rw [show ((sh, F, G) : ip_M).1[k]? = some (3, ci, l) from hs]
    simp [hci]
  rw [if_pos hr]
  unfold ip_call
  rw [if_pos (by simp [hmay, hok, hl, hal.1, ip_okv]), hlf, hal.1, hal.2]
theorem wp_RI {M : ip_M} {v : Int32} (hf : ip_fetch j pc = some (.ireturn, 1, 0)) (hr : (ip_mB j).2.2.2 = some .int) (h : Q (some (.int v)) M) : wp j pc L [.int v] M Q := by
  refine (wp_ret (fun n9 => ?_)).2 h
  rw [ip_run, hf]
  simp only [Option.bind_some, ip_ex, hr]
  rw [if_pos ⟨rfl, by simp [ip_ends]⟩]
theorem wp_RZ {M : ip_M} {v : Int32} (hf : ip_fetch j pc = some (.ireturn, 1, 0)) (hr : (ip_mB j).2.2.2 = some .boolean) (hv : v &&& 1 = v) (h : Q (some (.int v)) M) : wp j pc L [.int v] M Q := by
  refine (wp_ret (fun n9 => ?_)).2 h
  rw [ip_run, hf]
  simp only [Option.bind_some, ip_ex, hr]
  rw [if_pos ⟨by simp only [narrow, hv], by simp [ip_ends]⟩]
theorem wp_RV {M : ip_M} (hf : ip_fetch j pc = some (.return_, 1, 0)) (hr : (ip_mB j).2.2.2 = none) (h : Q none M) : wp j pc L [] M Q := by
  refine (wp_ret (fun n9 => ?_)).2 h
  rw [ip_run, hf]
  simp only [Option.bind_some, ip_ex, hr]
  rw [if_pos (by simp [ip_ends])]
theorem wp_RL {M : ip_M} {v : Int64} (hf : ip_fetch j pc = some (.lreturn, 1, 0)) (hr : (ip_mB j).2.2.2 = some .long) (h : Q (some (.long v)) M) : wp j pc L [.long v] M Q := by
  refine (wp_ret (fun n9 => ?_)).2 h
  rw [ip_run, hf]
  simp only [Option.bind_some, ip_ex, hr]
  rw [if_pos (by simp [ip_ends])]
theorem wp_RA {M : ip_M} {v : Nat} {nm : String} (hf : ip_fetch j pc = some (.areturn, 1, 0)) (hr : (ip_mB j).2.2.2 = some (.object nm)) (h : Q (some (.ref v)) M) : wp j pc L [.ref v] M Q := by
  refine (wp_ret (fun n9 => ?_)).2 h
  rw [ip_run, hf]
  simp only [Option.bind_some, ip_ex, hr]
  rw [if_pos (by simp [ip_ends])]
theorem wp_D {M : ip_M} {S' : List Value} {k : Nat} {d : Int64} (hd : ¬ d = 0) (h : ∀ n, ip_run none (n + 1) j pc L S M (0, 0) = (if d = 0 then none else some S').bind fun S' => ip_run none n j pc' L S' M (0, 0)) (hk : wp j pc' L S' M Q) : wp j pc L S M Q := by
  refine wp_N 0 (fun n9 => ?_) hk
  rw [h, if_neg hd]
  rfl
/-- a switch: where it goes, from where its number lies -/
theorem wp_S {M : ip_M} {x : Int32} {d lo hi : Int} {offs : Array Int} {t : Nat} (h : ∀ n, ip_run none (n + 1) j pc L S M (0, 0) = (ip_sw pc d lo hi offs x).bind fun t => ip_run none n j t L S' M (0, 0)) (ht : ip_sw pc d lo hi offs x = some t) (hk : wp j t L S' M Q) : wp j pc L S M Q := by
  refine wp_N 0 (fun n9 => ?_) hk
  rw [h, ht]
  rfl
theorem wp_Sd {pc : Nat} {d lo hi : Int} {offs : Array Int} {x : Int32} {t : Nat} (hx : x.toInt < lo ∨ hi < x.toInt) (ht : (pc : Int) + d = (t : Int)) : ip_sw pc d lo hi offs x = some t := by
  simp only [ip_sw, if_pos hx]
  rw [if_neg (by omega)]
  congr 1
  omega
end WPR
theorem vp_lt {i : Int32} {n : Nat} (h : vp_in i n) : i.toNatClampNeg < n := Nat.not_le.mp fun q => h (Or.inr q)
theorem in_out {x : Int32} {n : Nat} (h : ∀ i, i < n → ¬ x = Int32.ofInt i) (hn : n < 1000) : x.toInt < 0 ∨ (n : Int) ≤ x.toInt := by
  rcases Int.lt_or_le x.toInt 0 with h0 | h0
  · exact Or.inl h0
  · rcases Int.lt_or_le x.toInt n with h1 | h1
    · exfalso
      refine h x.toInt.toNat (by omega) ?_
      rw [Int.toNat_of_nonneg h0, Int32.ofInt_toInt]
    · exact Or.inr h1
end
section
/-! ===== the shape of memory behind the two constructors: cells 0 .. 192 the class, 193 .. 212 the reference; t: what the reader's text is ===== -/
def hs (t : Nat) : List ip_Sh := [(3, 9, [4, 24, 44, 64, 65, 67, 91, 127, 195, 1, 1]), (3, 8, [5, 6, 8, 18, 20, 22, 0]), (1, 0, [6]), (3, 6, [7]), (1, 0, [25]), (3, 1, [9, 0]), (2, 3, [8, 9, 10, 11, 12, 13, 14, 15]), (1, 0, [25]), (1, 0, [25]), (1, 0, [25]), (1, 0, [25]), (1, 0, [25]), (1, 0, [25]), (1, 0, [25]), (1, 0, [25]), (3, 4, [19, 0]), (1, 0, [24]), (3, 4, [21, 0]), (1, 0, [24]), (3, 4, [23, 0]), (1, 0, [24]), (3, 8, [25, 26, 28, 38, 40, 42, 0]), (1, 0, [6]), (3, 6, [27]), (1, 0, [25]), (3, 1, [29, 0]), (2, 3, [28, 29, 30, 31, 32, 33, 34, 35]), (1, 0, [25]), (1, 0, [25]), (1, 0, [25]), (1, 0, [25]), (1, 0, [25]), (1, 0, [25]), (1, 0, [25]), (1, 0, [25]), (3, 4, [39, 0]), (1, 0, [24]), (3, 4, [41, 0]), (1, 0, [24]), (3, 4, [43, 0]), (1, 0, [24]), (3, 8, [45, 46, 48, 58, 60, 62, 0]), (1, 0, [6]), (3, 6, [47]), (1, 0, [25]), (3, 1, [49, 0]), (2, 3, [48, 49, 50, 51, 52, 53, 54, 55]), (1, 0, [25]), (1, 0, [25]), (1, 0, [25]), (1, 0, [25]), (1, 0, [25]), (1, 0, [25]), (1, 0, [25]), (1, 0, [25]), (3, 4, [59, 0]), (1, 0, [24]), (3, 4, [61, 0]), (1, 0, [24]), (3, 4, [63, 0]), (1, 0, [24]), (1, 1, [2]), (3, 7, [66, 0]), (1, 2, [150]), (3, 3, [68, 88, t + 3, 0, 0, 0, 0]), (3, 8, [69, 70, 72, 82, 84, 86, 0]), (1, 0, [6]), (3, 6, [71]), (1, 0, [25]), (3, 1, [73, 0]), (2, 3, [72, 73, 74, 75, 76, 77, 78, 79]), (1, 0, [25]), (1, 0, [25]), (1, 0, [25]), (1, 0, [25]), (1, 0, [25]), (1, 0, [25]), (1, 0, [25]), (1, 0, [25]), (3, 4, [83, 0]), (1, 0, [24]), (3, 4, [85, 0]), (1, 0, [24]), (3, 4, [87, 0]), (1, 0, [24]), (1, 0, [6]), (3, 7, [90, 0]), (1, 2, [150]), (3, 5, [92, 122, 124, 125, 126]), (3, 2, [93, 106, 119, 120, 121, 0]), (2, 3, [92, 93, 94, 95, 96, 97, 98, 99, 100, 101, 102, 103]), (1, 0, [6]), (1, 0, [6]), (1, 0, [6]), (1, 0, [6]), (1, 0, [6]), (1, 0, [6]), (1, 0, [6]), (1, 0, [6]), (1, 0, [6]), (1, 0, [6]), (1, 0, [6]), (1, 0, [6]), (2, 3, [105, 106, 107, 108, 109, 110, 111, 112, 113, 114, 115, 116]), (1, 0, [6]), (1, 0, [6]), (1, 0, [6]), (1, 0, [6]), (1, 0, [6]), (1, 0, [6]), (1, 0, [6]), (1, 0, [6]), (1, 0, [6]), (1, 0, [6]), (1, 0, [6]), (1, 0, [6]), (1, 0, [12]), (1, 0, [12]), (1, 0, [6]), (3, 6, [123]), (1, 0, [25]), (1, 0, [6]), (1, 0, [4]), (1, 0, [4]), (3, 0, [128, 129, 194, 0]), (1, 0, [64]), (2, 3, [128, 129, 130, 131, 132, 133, 134, 135, 136, 137, 138, 139, 140, 141, 142, 143, 144, 145, 146, 147, 148, 149, 150, 151, 152, 153, 154, 155, 156, 157, 158, 159, 160, 161, 162, 163, 164, 165, 166, 167, 168, 169, 170, 171, 172, 173, 174, 175, 176, 177, 178, 179, 180, 181, 182, 183, 184, 185, 186, 187, 188, 189, 190, 191]), (1, 0, [12]), (1, 0, [12]), (1, 0, [12]), (1, 0, [12]), (1, 0, [12]), (1, 0, [12]), (1, 0, [12]), (1, 0, [12]), (1, 0, [12]), (1, 0, [12]), (1, 0, [12]), (1, 0, [12]), (1, 0, [12]), (1, 0, [12]), (1, 0, [12]), (1, 0, [12]), (1, 0, [12]), (1, 0, [12]), (1, 0, [12]), (1, 0, [12]), (1, 0, [12]), (1, 0, [12]), (1, 0, [12]), (1, 0, [12]), (1, 0, [12]), (1, 0, [12]), (1, 0, [12]), (1, 0, [12]), (1, 0, [12]), (1, 0, [12]), (1, 0, [12]), (1, 0, [12]), (1, 0, [12]), (1, 0, [12]), (1, 0, [12]), (1, 0, [12]), (1, 0, [12]), (1, 0, [12]), (1, 0, [12]), (1, 0, [12]), (1, 0, [12]), (1, 0, [12]), (1, 0, [12]), (1, 0, [12]), (1, 0, [12]), (1, 0, [12]), (1, 0, [12]), (1, 0, [12]), (1, 0, [12]), (1, 0, [12]), (1, 0, [12]), (1, 0, [12]), (1, 0, [12]), (1, 0, [12]), (1, 0, [12]), (1, 0, [12]), (1, 0, [12]), (1, 0, [12]), (1, 0, [12]), (1, 0, [12]), (1, 0, [12]), (1, 0, [12]), (1, 0, [12]), (1, 0, [12]), (1, 0, [7]), (1, 0, [3]), (3, 10, [197, 0, 0, 0, 0, 0, 198, 199, 200, 201, 202, 203, 204, 205, 206, 0, 0, 0, 207, 208, 209, 210, 0, 211, 212, 213, 1, 1, 214, 215, 1]), (1, 0, [3]), (1, 0, [6]), (1, 0, [6]), (1, 0, [6]), (1, 0, [6]), (1, 0, [6]), (1, 0, [8]), (1, 0, [18]), (1, 0, [24]), (1, 0, [150]), (1, 0, [300]), (1, 0, [6]), (1, 0, [12]), (1, 0, [200]), (1, 0, [25]), (1, 0, [6]), (1, 0, [64]), (1, 0, [600]), (1, 0, [2])]
set_option maxRecDepth 10000 in
theorem hs_len (t : Nat) : (hs t).length = 213 := rfl
abbrev ok7 (t k : Nat) : Prop := (hs t)[k]? = some (3, 6, [k + 4]) ∧ (hs t)[k + 1]? = some (1, 0, [25])
abbrev ok4 (t k : Nat) : Prop := (hs t)[k]? = some (3, 4, [k + 4, 0]) ∧ (hs t)[k + 1]? = some (1, 0, [24])
abbrev ok9 (t k : Nat) : Prop := (hs t)[k]? = some (3, 7, [k + 4, 0]) ∧ (hs t)[k + 1]? = some (1, 2, [150])
abbrev ok1 (t k : Nat) : Prop := (hs t)[k]? = some (3, 1, [k + 4, 0]) ∧ (hs t)[k + 1]? = some (2, 3, [k + 3, k + 4, k + 5, k + 6, k + 7, k + 8, k + 9, k + 10]) ∧ (∀ i, i < 8 → (hs t)[k + 2 + i]? = some (1, 0, [25])) ∧ k < 1000
abbrev ok10 (t k : Nat) : Prop := (hs t)[k]? = some (3, 8, [k + 4, k + 5, k + 7, k + 17, k + 19, k + 21, 0]) ∧ (hs t)[k + 1]? = some (1, 0, [6]) ∧ ok7 t (k + 2) ∧ ok1 t (k + 4) ∧ ok4 t (k + 14) ∧ ok4 t (k + 16) ∧ ok4 t (k + 18)
theorem hs_8 (t k : Nat) (h : (List.range 8).all (fun i => decide ((hs t)[k + 2 + i]? = some (1, 0, [25]))) = true) : ∀ i, i < 8 → (hs t)[k + 2 + i]? = some (1, 0, [25]) := by
  intro i hi
  have := List.all_eq_true.mp h i (List.mem_range.mpr hi)
  simpa using this
theorem ok10_1 (t : Nat) : ok10 t 1 := ⟨rfl, rfl, ⟨rfl, rfl⟩, ⟨rfl, rfl, hs_8 t 5 rfl, by decide⟩, ⟨rfl, rfl⟩, ⟨rfl, rfl⟩, ⟨rfl, rfl⟩⟩
theorem ok10_21 (t : Nat) : ok10 t 21 := ⟨rfl, rfl, ⟨rfl, rfl⟩, ⟨rfl, rfl, hs_8 t 25 rfl, by decide⟩, ⟨rfl, rfl⟩, ⟨rfl, rfl⟩, ⟨rfl, rfl⟩⟩
theorem ok10_41 (t : Nat) : ok10 t 41 := ⟨rfl, rfl, ⟨rfl, rfl⟩, ⟨rfl, rfl, hs_8 t 45 rfl, by decide⟩, ⟨rfl, rfl⟩, ⟨rfl, rfl⟩, ⟨rfl, rfl⟩⟩
theorem ok10_65 (t : Nat) : ok10 t 65 := ⟨rfl, rfl, ⟨rfl, rfl⟩, ⟨rfl, rfl, hs_8 t 69 rfl, by decide⟩, ⟨rfl, rfl⟩, ⟨rfl, rfl⟩, ⟨rfl, rfl⟩⟩
theorem ok7_3 (t : Nat) : ok7 t 3 := ⟨rfl, rfl⟩
theorem ok7_23 (t : Nat) : ok7 t 23 := ⟨rfl, rfl⟩
theorem ok7_43 (t : Nat) : ok7 t 43 := ⟨rfl, rfl⟩
theorem ok7_67 (t : Nat) : ok7 t 67 := ⟨rfl, rfl⟩
theorem ok7_119 (t : Nat) : ok7 t 119 := ⟨rfl, rfl⟩
theorem hs_r91 (t : Nat) : ∀ i, i < 12 → (hs t)[91 + i]? = some (1, 0, [6]) := by
  intro i hi
  have h : (List.range 12).all (fun i => decide ((hs t)[91 + i]? = some (1, 0, [6]))) = true := rfl
  have := List.all_eq_true.mp h i (List.mem_range.mpr hi)
  simpa using this
theorem hs_g91 : ∀ i, i < 12 → ([92, 93, 94, 95, 96, 97, 98, 99, 100, 101, 102, 103] : List Nat)[i]? = some (91 + i + 1) := by decide
theorem hs_r104 (t : Nat) : ∀ i, i < 12 → (hs t)[104 + i]? = some (1, 0, [6]) := by
  intro i hi
  have h : (List.range 12).all (fun i => decide ((hs t)[104 + i]? = some (1, 0, [6]))) = true := rfl
  have := List.all_eq_true.mp h i (List.mem_range.mpr hi)
  simpa using this
theorem hs_g104 : ∀ i, i < 12 → ([105, 106, 107, 108, 109, 110, 111, 112, 113, 114, 115, 116] : List Nat)[i]? = some (104 + i + 1) := by decide
theorem hs_r127 (t : Nat) : ∀ i, i < 64 → (hs t)[127 + i]? = some (1, 0, [12]) := by
  intro i hi
  have h : (List.range 64).all (fun i => decide ((hs t)[127 + i]? = some (1, 0, [12]))) = true := rfl
  have := List.all_eq_true.mp h i (List.mem_range.mpr hi)
  simpa using this
theorem hs_g127 : ∀ i, i < 64 → ([128, 129, 130, 131, 132, 133, 134, 135, 136, 137, 138, 139, 140, 141, 142, 143, 144, 145, 146, 147, 148, 149, 150, 151, 152, 153, 154, 155, 156, 157, 158, 159, 160, 161, 162, 163, 164, 165, 166, 167, 168, 169, 170, 171, 172, 173, 174, 175, 176, 177, 178, 179, 180, 181, 182, 183, 184, 185, 186, 187, 188, 189, 190, 191] : List Nat)[i]? = some (127 + i + 1) := by decide
theorem hs_gk (k : Nat) : ∀ i, i < 8 → ([k + 3, k + 4, k + 5, k + 6, k + 7, k + 8, k + 9, k + 10] : List Nat)[i]? = some (k + 2 + i + 1) := by
  intro i hi
  match i, hi with
  | 0, _ => rfl
  | 1, _ => rfl
  | 2, _ => rfl
  | 3, _ => rfl
  | 4, _ => rfl
  | 5, _ => rfl
  | 6, _ => rfl
  | 7, _ => rfl
end
section
/-! ===== what the regions of code ask of the shape ===== -/
theorem hs_lt {t k : Nat} {x : ip_Sh} (h : (hs t)[k]? = some x) : k < ip_EX := by
  have h1 : k < (hs t).length := by
    rcases Nat.lt_or_ge k (hs t).length with q | q
    · exact q
    · rw [List.getElem?_eq_none q] at h
      cases h
  rw [hs_len] at h1
  unfold ip_EX
  omega
theorem hs_b8 {k : Nat} (h : k < 1000) : k + 2 + 8 < ip_EX := by
  unfold ip_EX
  omega
theorem in_out2 {x : Int32} {lo n : Nat} (h : ∀ i : Nat, i < n → ¬ x = Int32.ofInt ((lo : Int) + i)) (hn : n < 1000) (hl : lo < 1000) : x.toInt < lo ∨ (lo : Int) + n ≤ x.toInt := by
  rcases Int.lt_or_le x.toInt lo with h0 | h0
  · exact Or.inl h0
  · rcases Int.lt_or_le x.toInt (lo + n) with h1 | h1
    · exfalso
      refine h (x.toInt - lo).toNat (by omega) ?_
      rw [Int.toNat_of_nonneg (by omega), show (lo : Int) + (x.toInt - lo) = x.toInt by omega, Int32.ofInt_toInt]
    · exact Or.inr h1
theorem vp_d {i : Int32} {n : Nat} (h : decide (i < 0 ∨ n ≤ i.toNatClampNeg) = false) : vp_in i n := of_decide_eq_false h
theorem wp_inc {j pc k : Nat} {L L' S : List Value} {M : ip_M} {Q : Option Value → ip_M → Prop} {v : Int32} {n : Int} (hf : ip_fetch j pc = some (.iinc k n, 3, 0)) (hL : L[k]? = some (.int v)) (hL' : ip_sto L k (.int (v + Int32.ofInt n)) = L') (h : wp j (pc + 3) L' S M Q) : wp j pc L S M Q := by
  refine wp_N 0 (fun n9 => ?_) h
  rw [ip_run, hf]
  simp only [Option.bind_some, ip_ex, hL, hL']
section WPL
variable {j pc : Nat} {L S : List Value} {M : ip_M} {Q : Option Value → ip_M → Prop}
theorem wp_ladd {x y : Int64} (hf : ip_fetch j pc = some (.ladd, 1, 0)) (h : wp j (pc + 1) L (.long (x + y) :: S) M Q) : wp j pc L (.long y :: .long x :: S) M Q := by
  refine wp_N 0 (fun n9 => ?_) h
  rw [ip_run, hf]
  rfl
theorem wp_lmul {x y : Int64} (hf : ip_fetch j pc = some (.lmul, 1, 0)) (h : wp j (pc + 1) L (.long (x * y) :: S) M Q) : wp j pc L (.long y :: .long x :: S) M Q := by
  refine wp_N 0 (fun n9 => ?_) h
  rw [ip_run, hf]
  rfl
theorem wp_ldiv {x y : Int64} (hf : ip_fetch j pc = some (.ldiv, 1, 0)) (hy : ¬ y = 0) (h : wp j (pc + 1) L (.long (x / y) :: S) M Q) : wp j pc L (.long y :: .long x :: S) M Q := by
  refine wp_N 0 (fun n9 => ?_) h
  rw [ip_run, hf]
  simp only [Option.bind_some, ip_ex, ip_st, if_neg hy]
theorem wp_lrem {x y : Int64} (hf : ip_fetch j pc = some (.lrem, 1, 0)) (hy : ¬ y = 0) (h : wp j (pc + 1) L (.long (x - x / y * y) :: S) M Q) : wp j pc L (.long y :: .long x :: S) M Q := by
  refine wp_N 0 (fun n9 => ?_) h
  rw [ip_run, hf]
  simp only [Option.bind_some, ip_ex, ip_st, if_neg hy]
theorem wp_idiv {x y : Int32} (hf : ip_fetch j pc = some (.idiv, 1, 0)) (hy : ¬ y = 0) (h : wp j (pc + 1) L (.int (x / y) :: S) M Q) : wp j pc L (.int y :: .int x :: S) M Q := by
  refine wp_N 0 (fun n9 => ?_) h
  rw [ip_run, hf]
  simp only [Option.bind_some, ip_ex, ip_st, if_neg hy]
theorem wp_irem {x y : Int32} (hf : ip_fetch j pc = some (.irem, 1, 0)) (hy : ¬ y = 0) (h : wp j (pc + 1) L (.int (x - x / y * y) :: S) M Q) : wp j pc L (.int y :: .int x :: S) M Q := by
  refine wp_N 0 (fun n9 => ?_) h
  rw [ip_run, hf]
  simp only [Option.bind_some, ip_ex, ip_st, if_neg hy]
theorem wp_l2i {x : Int64} (hf : ip_fetch j pc = some (.l2i, 1, 0)) (h : wp j (pc + 1) L (.int x.toInt32 :: S) M Q) : wp j pc L (.long x :: S) M Q := by
  refine wp_N 0 (fun n9 => ?_) h
  rw [ip_run, hf]
  rfl
theorem wp_ldc2 {idx aux : Nat} {q : _} {v : Int64} (hf : ip_fetch j pc = some (.ldc2_w idx, 3, aux)) (hq : ip_KL[aux]? = some q) (hv : q.2.2.1 = v) (h : wp j (pc + 3) L (.long v :: S) M Q) : wp j pc L S M Q := by
  subst hv
  refine wp_N 0 (fun n9 => ?_) h
  rw [ip_run, hf]
  simp only [Option.bind_some, ip_ex, ip_st, hq, Option.map_some]
end WPL
theorem wp_icmp {j pc pc1 : Nat} {L S : List Value} {M : ip_M} {Q : Option Value → ip_M → Prop} {x y : Int32} {c : Jvm.ClassFile.Cond} {off : Int} (hf : ip_fetch j pc = some (.if_icmp c off, 3, pc1)) (h1 : ip_cmp x y c → wp j pc1 L S M Q) (h2 : ¬ ip_cmp x y c → wp j (pc + 3) L S M Q) : wp j pc L (.int y :: .int x :: S) M Q := by
  refine wp_I c (fun n9 => ?_) h1 h2
  rw [ip_run, hf]
  rfl
theorem wp_ifc {j pc pc1 : Nat} {L S : List Value} {M : ip_M} {Q : Option Value → ip_M → Prop} {x : Int32} {c : Jvm.ClassFile.Cond} {off : Int} (hf : ip_fetch j pc = some (.ifCond c off, 3, pc1)) (h1 : ip_cmp x 0 c → wp j pc1 L S M Q) (h2 : ¬ ip_cmp x 0 c → wp j (pc + 3) L S M Q) : wp j pc L (.int x :: S) M Q := by
  refine wp_I c (fun n9 => ?_) h1 h2
  rw [ip_run, hf]
  rfl
end
section
theorem rg60_36 {t : Nat} {F : ip_F} {G : ip_G} {Q : Option Value → ip_M → Prop} {a2 a3 a6 a7 : Int32} {b4 : Int64} {v5 v8 : Value} (h : (a3 ≤ a7 → Q (some (.int a6)) (hs t, F, G)) ∧ (a7 < a3 → ((F 1 6) ≤ (((((b4 * (1103515245 : Int64)) + (12345 : Int64)) - ((b4 * (1103515245 : Int64)) + (12345 : Int64)) / (2147483648 : Int64) * (2147483648 : Int64)) / (65536 : Int64)) - ((((b4 * (1103515245 : Int64)) + (12345 : Int64)) - ((b4 * (1103515245 : Int64)) + (12345 : Int64)) / (2147483648 : Int64) * (2147483648 : Int64)) / (65536 : Int64)) / (6 : Int64) * (6 : Int64)).toInt32 → wp 60 101 [.ref 88, .ref 1, .int a2, .int a3, .long (((b4 * (1103515245 : Int64)) + (12345 : Int64)) - ((b4 * (1103515245 : Int64)) + (12345 : Int64)) / (2147483648 : Int64) * (2147483648 : Int64)), .float 0, .int a6, .int a7, .int (((((b4 * (1103515245 : Int64)) + (12345 : Int64)) - ((b4 * (1103515245 : Int64)) + (12345 : Int64)) / (2147483648 : Int64) * (2147483648 : Int64)) / (65536 : Int64)) - ((((b4 * (1103515245 : Int64)) + (12345 : Int64)) - ((b4 * (1103515245 : Int64)) + (12345 : Int64)) / (2147483648 : Int64) * (2147483648 : Int64)) / (65536 : Int64)) / (6 : Int64) * (6 : Int64)).toInt32] [] (hs t, F, G) Q) ∧ ((((((b4 * (1103515245 : Int64)) + (12345 : Int64)) - ((b4 * (1103515245 : Int64)) + (12345 : Int64)) / (2147483648 : Int64) * (2147483648 : Int64)) / (65536 : Int64)) - ((((b4 * (1103515245 : Int64)) + (12345 : Int64)) - ((b4 * (1103515245 : Int64)) + (12345 : Int64)) / (2147483648 : Int64) * (2147483648 : Int64)) / (65536 : Int64)) / (6 : Int64) * (6 : Int64)).toInt32 < (F 1 6) → wp 74 0 [.ref 119, .int (((((b4 * (1103515245 : Int64)) + (12345 : Int64)) - ((b4 * (1103515245 : Int64)) + (12345 : Int64)) / (2147483648 : Int64) * (2147483648 : Int64)) / (65536 : Int64)) - ((((b4 * (1103515245 : Int64)) + (12345 : Int64)) - ((b4 * (1103515245 : Int64)) + (12345 : Int64)) / (2147483648 : Int64) * (2147483648 : Int64)) / (65536 : Int64)) / (6 : Int64) * (6 : Int64)).toInt32, .int (((((b4 * (1103515245 : Int64)) + (12345 : Int64)) - ((b4 * (1103515245 : Int64)) + (12345 : Int64)) / (2147483648 : Int64) * (2147483648 : Int64)) / (1048576 : Int64)) - ((((b4 * (1103515245 : Int64)) + (12345 : Int64)) - ((b4 * (1103515245 : Int64)) + (12345 : Int64)) / (2147483648 : Int64) * (2147483648 : Int64)) / (1048576 : Int64)) / (6 : Int64) * (6 : Int64)).toInt32, .int (0 : Int32)] [] (hs t, F, G) (fun v M' => wp 60 101 [.ref 88, .ref 1, .int a2, .int a3, .long (((b4 * (1103515245 : Int64)) + (12345 : Int64)) - ((b4 * (1103515245 : Int64)) + (12345 : Int64)) / (2147483648 : Int64) * (2147483648 : Int64)), .float 0, .int a6, .int a7, .int (((((b4 * (1103515245 : Int64)) + (12345 : Int64)) - ((b4 * (1103515245 : Int64)) + (12345 : Int64)) / (2147483648 : Int64) * (2147483648 : Int64)) / (65536 : Int64)) - ((((b4 * (1103515245 : Int64)) + (12345 : Int64)) - ((b4 * (1103515245 : Int64)) + (12345 : Int64)) / (2147483648 : Int64) * (2147483648 : Int64)) / (65536 : Int64)) / (6 : Int64) * (6 : Int64)).toInt32] (v.toList ++ []) M' Q)))) : wp 60 36 [.ref 88, .ref 1, .int a2, .int a3, .long b4, v5, .int a6, .int a7, v8] [] (hs t, F, G) Q := by
  refine wp_N (j' := 60) (pc' := 39) (L' := [.ref 88, .ref 1, .int a2, .int a3, .long b4, v5, .int a6, .int a7, v8]) (S' := [.int a3, .int a7]) (M' := (hs t, F, G)) 1 (fun _ => rfl) ?_
  refine wp_icmp (pc1 := 144) (c := .ge) rfl (fun hc => ?_) (fun hc => ?_)
  · replace h := h.1 hc
    refine wp_N (j' := 60) (pc' := 146) (L' := [.ref 88, .ref 1, .int a2, .int a3, .long b4, v5, .int a6, .int a7, v8]) (S' := [.int a6]) (M' := (hs t, F, G)) 0 (fun _ => rfl) ?_
    exact wp_RI rfl rfl h
  · replace h := h.2 (Int32.not_le.mp hc)
    refine wp_N (j' := 60) (pc' := 44) (L' := [.ref 88, .ref 1, .int a2, .int a3, .long b4, v5, .int a6, .int a7, v8]) (S' := [.long b4]) (M' := (hs t, F, G)) 0 (fun _ => rfl) ?_
    refine wp_ldc2 (v := (1103515245 : Int64)) rfl rfl rfl ?_
    refine wp_lmul rfl ?_
    refine wp_ldc2 (v := (12345 : Int64)) rfl rfl rfl ?_
    refine wp_ladd rfl ?_
    refine wp_ldc2 (v := (2147483648 : Int64)) rfl rfl rfl ?_
    refine wp_lrem rfl (by decide) ?_
    refine wp_N (j' := 60) (pc' := 60) (L' := [.ref 88, .ref 1, .int a2, .int a3, .long (((b4 * (1103515245 : Int64)) + (12345 : Int64)) - ((b4 * (1103515245 : Int64)) + (12345 : Int64)) / (2147483648 : Int64) * (2147483648 : Int64)), .float 0, .int a6, .int a7, v8]) (S' := [.long (((b4 * (1103515245 : Int64)) + (12345 : Int64)) - ((b4 * (1103515245 : Int64)) + (12345 : Int64)) / (2147483648 : Int64) * (2147483648 : Int64))]) (M' := (hs t, F, G)) 1 (fun n9 => (show ∀ (z0 : Int64), ip_run none (n9 + 2) 60 56 [.ref 88, .ref 1, .int a2, .int a3, .long b4, v5, .int a6, .int a7, v8] [.long z0] (hs t, F, G) (0, 0) = ip_run none n9 60 60 [.ref 88, .ref 1, .int a2, .int a3, .long z0, .float 0, .int a6, .int a7, v8] [.long z0] (hs t, F, G) (0, 0) from fun _ => rfl) (((b4 * (1103515245 : Int64)) + (12345 : Int64)) - ((b4 * (1103515245 : Int64)) + (12345 : Int64)) / (2147483648 : Int64) * (2147483648 : Int64))) ?_
    refine wp_ldc2 (v := (65536 : Int64)) rfl rfl rfl ?_
    refine wp_ldiv rfl (by decide) ?_
    refine wp_ldc2 (v := (6 : Int64)) rfl rfl rfl ?_
    refine wp_lrem rfl (by decide) ?_
    refine wp_l2i rfl ?_
    refine wp_N (j' := 60) (pc' := 77) (L' := [.ref 88, .ref 1, .int a2, .int a3, .long (((b4 * (1103515245 : Int64)) + (12345 : Int64)) - ((b4 * (1103515245 : Int64)) + (12345 : Int64)) / (2147483648 : Int64) * (2147483648 : Int64)), .float 0, .int a6, .int a7, .int (((((b4 * (1103515245 : Int64)) + (12345 : Int64)) - ((b4 * (1103515245 : Int64)) + (12345 : Int64)) / (2147483648 : Int64) * (2147483648 : Int64)) / (65536 : Int64)) - ((((b4 * (1103515245 : Int64)) + (12345 : Int64)) - ((b4 * (1103515245 : Int64)) + (12345 : Int64)) / (2147483648 : Int64) * (2147483648 : Int64)) / (65536 : Int64)) / (6 : Int64) * (6 : Int64)).toInt32]) (S' := [.int (F 1 6), .int (((((b4 * (1103515245 : Int64)) + (12345 : Int64)) - ((b4 * (1103515245 : Int64)) + (12345 : Int64)) / (2147483648 : Int64) * (2147483648 : Int64)) / (65536 : Int64)) - ((((b4 * (1103515245 : Int64)) + (12345 : Int64)) - ((b4 * (1103515245 : Int64)) + (12345 : Int64)) / (2147483648 : Int64) * (2147483648 : Int64)) / (65536 : Int64)) / (6 : Int64) * (6 : Int64)).toInt32]) (M' := (hs t, F, G)) 3 (fun n9 => (show ∀ (z0 : Int32) (z1 : Int64), ip_run none (n9 + 4) 60 69 [.ref 88, .ref 1, .int a2, .int a3, .long z1, .float 0, .int a6, .int a7, v8] [.int z0] (hs t, F, G) (0, 0) = ip_run none n9 60 77 [.ref 88, .ref 1, .int a2, .int a3, .long z1, .float 0, .int a6, .int a7, .int z0] [.int (F 1 6), .int z0] (hs t, F, G) (0, 0) from fun _ _ => rfl) (((((b4 * (1103515245 : Int64)) + (12345 : Int64)) - ((b4 * (1103515245 : Int64)) + (12345 : Int64)) / (2147483648 : Int64) * (2147483648 : Int64)) / (65536 : Int64)) - ((((b4 * (1103515245 : Int64)) + (12345 : Int64)) - ((b4 * (1103515245 : Int64)) + (12345 : Int64)) / (2147483648 : Int64) * (2147483648 : Int64)) / (65536 : Int64)) / (6 : Int64) * (6 : Int64)).toInt32 (((b4 * (1103515245 : Int64)) + (12345 : Int64)) - ((b4 * (1103515245 : Int64)) + (12345 : Int64)) / (2147483648 : Int64) * (2147483648 : Int64))) ?_
    refine wp_icmp (pc1 := 101) (c := .ge) rfl (fun hc => ?_) (fun hc => ?_)
    · replace h := h.1 hc
      exact h
    · replace h := h.2 (Int32.not_le.mp hc)
      refine wp_N (j' := 60) (pc' := 88) (L' := [.ref 88, .ref 1, .int a2, .int a3, .long (((b4 * (1103515245 : Int64)) + (12345 : Int64)) - ((b4 * (1103515245 : Int64)) + (12345 : Int64)) / (2147483648 : Int64) * (2147483648 : Int64)), .float 0, .int a6, .int a7, .int (((((b4 * (1103515245 : Int64)) + (12345 : Int64)) - ((b4 * (1103515245 : Int64)) + (12345 : Int64)) / (2147483648 : Int64) * (2147483648 : Int64)) / (65536 : Int64)) - ((((b4 * (1103515245 : Int64)) + (12345 : Int64)) - ((b4 * (1103515245 : Int64)) + (12345 : Int64)) / (2147483648 : Int64) * (2147483648 : Int64)) / (65536 : Int64)) / (6 : Int64) * (6 : Int64)).toInt32]) (S' := [.long (((b4 * (1103515245 : Int64)) + (12345 : Int64)) - ((b4 * (1103515245 : Int64)) + (12345 : Int64)) / (2147483648 : Int64) * (2147483648 : Int64)), .int (((((b4 * (1103515245 : Int64)) + (12345 : Int64)) - ((b4 * (1103515245 : Int64)) + (12345 : Int64)) / (2147483648 : Int64) * (2147483648 : Int64)) / (65536 : Int64)) - ((((b4 * (1103515245 : Int64)) + (12345 : Int64)) - ((b4 * (1103515245 : Int64)) + (12345 : Int64)) / (2147483648 : Int64) * (2147483648 : Int64)) / (65536 : Int64)) / (6 : Int64) * (6 : Int64)).toInt32, .ref 119]) (M' := (hs t, F, G)) 3 (fun n9 => (show ∀ (z0 : Int32) (z1 : Int64), ip_run none (n9 + 4) 60 80 [.ref 88, .ref 1, .int a2, .int a3, .long z1, .float 0, .int a6, .int a7, .int z0] [] (hs t, F, G) (0, 0) = ip_run none n9 60 88 [.ref 88, .ref 1, .int a2, .int a3, .long z1, .float 0, .int a6, .int a7, .int z0] [.long z1, .int z0, .ref 119] (hs t, F, G) (0, 0) from fun _ _ => rfl) (((((b4 * (1103515245 : Int64)) + (12345 : Int64)) - ((b4 * (1103515245 : Int64)) + (12345 : Int64)) / (2147483648 : Int64) * (2147483648 : Int64)) / (65536 : Int64)) - ((((b4 * (1103515245 : Int64)) + (12345 : Int64)) - ((b4 * (1103515245 : Int64)) + (12345 : Int64)) / (2147483648 : Int64) * (2147483648 : Int64)) / (65536 : Int64)) / (6 : Int64) * (6 : Int64)).toInt32 (((b4 * (1103515245 : Int64)) + (12345 : Int64)) - ((b4 * (1103515245 : Int64)) + (12345 : Int64)) / (2147483648 : Int64) * (2147483648 : Int64))) ?_
      refine wp_ldc2 (v := (1048576 : Int64)) rfl rfl rfl ?_
      refine wp_ldiv rfl (by decide) ?_
      refine wp_ldc2 (v := (6 : Int64)) rfl rfl rfl ?_
      refine wp_lrem rfl (by decide) ?_
      refine wp_l2i rfl ?_
      refine wp_N (j' := 60) (pc' := 98) (L' := [.ref 88, .ref 1, .int a2, .int a3, .long (((b4 * (1103515245 : Int64)) + (12345 : Int64)) - ((b4 * (1103515245 : Int64)) + (12345 : Int64)) / (2147483648 : Int64) * (2147483648 : Int64)), .float 0, .int a6, .int a7, .int (((((b4 * (1103515245 : Int64)) + (12345 : Int64)) - ((b4 * (1103515245 : Int64)) + (12345 : Int64)) / (2147483648 : Int64) * (2147483648 : Int64)) / (65536 : Int64)) - ((((b4 * (1103515245 : Int64)) + (12345 : Int64)) - ((b4 * (1103515245 : Int64)) + (12345 : Int64)) / (2147483648 : Int64) * (2147483648 : Int64)) / (65536 : Int64)) / (6 : Int64) * (6 : Int64)).toInt32]) (S' := [.int (0 : Int32), .int (((((b4 * (1103515245 : Int64)) + (12345 : Int64)) - ((b4 * (1103515245 : Int64)) + (12345 : Int64)) / (2147483648 : Int64) * (2147483648 : Int64)) / (1048576 : Int64)) - ((((b4 * (1103515245 : Int64)) + (12345 : Int64)) - ((b4 * (1103515245 : Int64)) + (12345 : Int64)) / (2147483648 : Int64) * (2147483648 : Int64)) / (1048576 : Int64)) / (6 : Int64) * (6 : Int64)).toInt32, .int (((((b4 * (1103515245 : Int64)) + (12345 : Int64)) - ((b4 * (1103515245 : Int64)) + (12345 : Int64)) / (2147483648 : Int64) * (2147483648 : Int64)) / (65536 : Int64)) - ((((b4 * (1103515245 : Int64)) + (12345 : Int64)) - ((b4 * (1103515245 : Int64)) + (12345 : Int64)) / (2147483648 : Int64) * (2147483648 : Int64)) / (65536 : Int64)) / (6 : Int64) * (6 : Int64)).toInt32, .ref 119]) (M' := (hs t, F, G)) 0 (fun n9 => (show ∀ (z0 : Int32) (z1 : Int32) (z2 : Int64), ip_run none (n9 + 1) 60 97 [.ref 88, .ref 1, .int a2, .int a3, .long z2, .float 0, .int a6, .int a7, .int z1] [.int z0, .int z1, .ref 119] (hs t, F, G) (0, 0) = ip_run none n9 60 98 [.ref 88, .ref 1, .int a2, .int a3, .long z2, .float 0, .int a6, .int a7, .int z1] [.int (0 : Int32), .int z0, .int z1, .ref 119] (hs t, F, G) (0, 0) from fun _ _ _ => rfl) (((((b4 * (1103515245 : Int64)) + (12345 : Int64)) - ((b4 * (1103515245 : Int64)) + (12345 : Int64)) / (2147483648 : Int64) * (2147483648 : Int64)) / (1048576 : Int64)) - ((((b4 * (1103515245 : Int64)) + (12345 : Int64)) - ((b4 * (1103515245 : Int64)) + (12345 : Int64)) / (2147483648 : Int64) * (2147483648 : Int64)) / (1048576 : Int64)) / (6 : Int64) * (6 : Int64)).toInt32 (((((b4 * (1103515245 : Int64)) + (12345 : Int64)) - ((b4 * (1103515245 : Int64)) + (12345 : Int64)) / (2147483648 : Int64) * (2147483648 : Int64)) / (65536 : Int64)) - ((((b4 * (1103515245 : Int64)) + (12345 : Int64)) - ((b4 * (1103515245 : Int64)) + (12345 : Int64)) / (2147483648 : Int64) * (2147483648 : Int64)) / (65536 : Int64)) / (6 : Int64) * (6 : Int64)).toInt32 (((b4 * (1103515245 : Int64)) + (12345 : Int64)) - ((b4 * (1103515245 : Int64)) + (12345 : Int64)) / (2147483648 : Int64) * (2147483648 : Int64))) ?_
      refine wp_C (i := 74) (pc' := 101) (Li := [.ref 119, .int (((((b4 * (1103515245 : Int64)) + (12345 : Int64)) - ((b4 * (1103515245 : Int64)) + (12345 : Int64)) / (2147483648 : Int64) * (2147483648 : Int64)) / (65536 : Int64)) - ((((b4 * (1103515245 : Int64)) + (12345 : Int64)) - ((b4 * (1103515245 : Int64)) + (12345 : Int64)) / (2147483648 : Int64) * (2147483648 : Int64)) / (65536 : Int64)) / (6 : Int64) * (6 : Int64)).toInt32, .int (((((b4 * (1103515245 : Int64)) + (12345 : Int64)) - ((b4 * (1103515245 : Int64)) + (12345 : Int64)) / (2147483648 : Int64) * (2147483648 : Int64)) / (1048576 : Int64)) - ((((b4 * (1103515245 : Int64)) + (12345 : Int64)) - ((b4 * (1103515245 : Int64)) + (12345 : Int64)) / (2147483648 : Int64) * (2147483648 : Int64)) / (1048576 : Int64)) / (6 : Int64) * (6 : Int64)).toInt32, .int (0 : Int32)]) (rest := []) (fun n9 => (show ∀ (z0 : Int32) (z1 : Int32) (z2 : Int64), ip_run none (n9 + 1) 60 98 [.ref 88, .ref 1, .int a2, .int a3, .long z2, .float 0, .int a6, .int a7, .int z1] [.int (0 : Int32), .int z0, .int z1, .ref 119] (hs t, F, G) (0, 0) = (ip_run none n9 74 0 [.ref 119, .int z1, .int z0, .int (0 : Int32)] [] (hs t, F, G) (0, 0)).bind fun r => ip_run none n9 60 101 [.ref 88, .ref 1, .int a2, .int a3, .long z2, .float 0, .int a6, .int a7, .int z1] (r.1.toList ++ []) r.2 (0, 0) from fun _ _ _ => rfl) (((((b4 * (1103515245 : Int64)) + (12345 : Int64)) - ((b4 * (1103515245 : Int64)) + (12345 : Int64)) / (2147483648 : Int64) * (2147483648 : Int64)) / (1048576 : Int64)) - ((((b4 * (1103515245 : Int64)) + (12345 : Int64)) - ((b4 * (1103515245 : Int64)) + (12345 : Int64)) / (2147483648 : Int64) * (2147483648 : Int64)) / (1048576 : Int64)) / (6 : Int64) * (6 : Int64)).toInt32 (((((b4 * (1103515245 : Int64)) + (12345 : Int64)) - ((b4 * (1103515245 : Int64)) + (12345 : Int64)) / (2147483648 : Int64) * (2147483648 : Int64)) / (65536 : Int64)) - ((((b4 * (1103515245 : Int64)) + (12345 : Int64)) - ((b4 * (1103515245 : Int64)) + (12345 : Int64)) / (2147483648 : Int64) * (2147483648 : Int64)) / (65536 : Int64)) / (6 : Int64) * (6 : Int64)).toInt32 (((b4 * (1103515245 : Int64)) + (12345 : Int64)) - ((b4 * (1103515245 : Int64)) + (12345 : Int64)) / (2147483648 : Int64) * (2147483648 : Int64))) h
theorem rg48_0 {t : Nat} {F : ip_F} {G : ip_G} {Q : Option Value → ip_M → Prop} {k : Nat} {a3 : Int32} {b1 : Int64} (hk : ok4 t k) (h : wp 48 6 [.ref k, .long b1, .float 0, .int a3, .long b1, .float 0, .int (0 : Int32), .float 0] [] (hs t, F, G) Q) : wp 48 0 [.ref k, .long b1, .float 0, .int a3, .float 0, .float 0, .float 0, .float 0] [] (hs t, F, G) Q := by
  refine wp_N (j' := 48) (pc' := 6) (L' := [.ref k, .long b1, .float 0, .int a3, .long b1, .float 0, .int (0 : Int32), .float 0]) (S' := []) (M' := (hs t, F, G)) 3 (fun _ => rfl) ?_
  exact h
theorem rg58_0 {t : Nat} {F : ip_F} {G : ip_G} {Q : Option Value → ip_M → Prop} {a2 : Int32} (h : wp 79 0 [.ref 3, .float 0, .float 0] [] (hs t, F, G) (fun v M' => wp 58 7 [.ref 88, .ref 1, .int a2, .float 0, .float 0, .float 0, .float 0, .float 0, .float 0] (v.toList ++ []) M' Q)) : wp 58 0 [.ref 88, .ref 1, .int a2, .float 0, .float 0, .float 0, .float 0, .float 0, .float 0] [] (hs t, F, G) Q := by
  refine wp_N (j' := 58) (pc' := 4) (L' := [.ref 88, .ref 1, .int a2, .float 0, .float 0, .float 0, .float 0, .float 0, .float 0]) (S' := [.ref 3]) (M' := (hs t, F, G)) 1 (fun _ => rfl) ?_
  refine wp_C (i := 79) (pc' := 7) (Li := [.ref 3, .float 0, .float 0]) (rest := []) (fun _ => rfl) h
end
