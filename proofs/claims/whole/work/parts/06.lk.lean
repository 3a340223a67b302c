/-! what each row of the tables says, decided once -/
def ip_own (j : Nat) : String := ip_ocN.getD (ip_mI j).1 ""
def ip_flc (e : Nat × Nat × Nat × Nat × Bool) : Bool := match vwCl[e.2.2.1 / 64]? with
  | some r => decide (e.2.2.1 % 64 < r.2.2) && decide ((r.2.1 (e.2.2.1 % 64)).1 = r.1) && decide (lw_tbl[e.2.2.2.1]? = some (if e.2.2.2.2 then Jvm.Cond.fieldLinkNest (ip_ocN.getD e.1 "") e.2.1 r.1 (r.2.1 (e.2.2.1 % 64)).2.1 (r.2.1 (e.2.2.1 % 64)).2.2.1 "HandedSlips" else Jvm.Cond.fieldLink (ip_ocN.getD e.1 "") e.2.1 r.1 (r.2.1 (e.2.2.1 % 64)).2.1 (r.2.1 (e.2.2.1 % 64)).2.2.1))
  | none => false
def ip_mlc (e : Nat × Nat × Nat × Nat × Nat × Nat × Nat × Nat × Bool) : Bool := match e with
  | (oc, idx, i, kind, p1, p2, p3, p4, nest) =>
    decide (i < ip_mi.length) && decide (0 < i) && (decide (kind ≠ 0) || !nest) && decide (lw_tbl[p1]? = some (if nest then Jvm.Cond.methodLinkNest (ip_ocN.getD oc "") idx (ip_mB i).1 "HandedSlips" else Jvm.Cond.methodLink (ip_ocN.getD oc "") idx (ip_mB i).1)) &&
    decide (lw_tbl[p2]? = some (if kind = 1 then Jvm.Cond.static (ip_mB i).1 else Jvm.Cond.instanceMethod (ip_mB i).1)) &&
    decide (lw_tbl[if kind = 0 then p4 else p3]? = some (Jvm.Cond.initialized (ip_mB i).1.cls)) &&
    (decide (kind ≠ 0) || (decide (lw_tbl[p3]? = some (Jvm.Cond.selects (ip_mB i).1.cls (ip_mB i).1 (ip_mB i).1)) && (if (ip_mI i).2.1 = 98 then decide ((ip_mB i).1.cls = "java/lang/String") else decide ((vwCl[(ip_mI i).2.1]?).map (fun r => r.1) = some (ip_mB i).1.cls)))) &&
    (decide (kind ≠ 2) || (decide ((ip_mB i).1.name = "<init>") && decide ((ip_mB i).2.2.2 = none))) &&
    decide ((parseMethodDescriptor (ip_mB i).1.desc).map (fun d => d.parameters.length) = some (if kind = 1 then (ip_mI i).2.2.1 else (ip_mI i).2.2.1 - 1)) && (decide (kind = 1) || decide (1 ≤ (ip_mI i).2.2.1))
def ip_nlc (e : Nat × Nat × Nat × Nat × Nat × Nat) : Bool := match e with
  | (oc, idx, ci, p1, p2, p3) => match vwCl[ci]? with
    | some r => decide (lw_tbl[p1]? = some (Jvm.Cond.classLink (ip_ocN.getD oc "") idx r.1)) && decide (lw_tbl[p2]? = some (Jvm.Cond.instantiable r.1 r.2.2)) && decide (lw_tbl[p3]? = some (Jvm.Cond.initialized r.1))
    | none => false
theorem ip_ty_ok : ∀ ci, ci < vwCl.length → ∀ k, k < ((vwCl[ci]?).map (fun r => r.2.2)).getD 0 → (match ip_ty ci k with | .int => true | .long => true | .object _ => true | .array _ => true | _ => false) = true := by decide +kernel
theorem ip_dfl_len : ∀ ci, ci < vwCl.length → (ip_dfl ci).length = ((vwCl[ci]?).map (fun r => r.2.2)).getD 0 := by decide +kernel
theorem ip_FLok : (ip_FL.all ip_flc) = true := by decide +kernel
theorem ip_MLok_0 : (ip_ML_0.all ip_mlc) = true := by decide +kernel
theorem ip_MLok_1 : (ip_ML_1.all ip_mlc) = true := by decide +kernel
theorem ip_MLok_2 : (ip_ML_2.all ip_mlc) = true := by decide +kernel
theorem ip_MLok_3 : (ip_ML_3.all ip_mlc) = true := by decide +kernel
theorem ip_MLok_4 : (ip_ML_4.all ip_mlc) = true := by decide +kernel
theorem ip_MLok_5 : (ip_ML_5.all ip_mlc) = true := by decide +kernel
theorem ip_MLok_6 : (ip_ML_6.all ip_mlc) = true := by decide +kernel
theorem ip_MLok_7 : (ip_ML_7.all ip_mlc) = true := by decide +kernel
theorem ip_MLok_8 : (ip_ML_8.all ip_mlc) = true := by decide +kernel
theorem ip_MLok_9 : (ip_ML_9.all ip_mlc) = true := by decide +kernel
theorem ip_MLok_10 : (ip_ML_10.all ip_mlc) = true := by decide +kernel
theorem ip_MLok_11 : (ip_ML_11.all ip_mlc) = true := by decide +kernel
theorem ip_MLok : (ip_ML.all ip_mlc) = true := by simp only [ip_ML, List.all_append, ip_MLok_0, ip_MLok_1, ip_MLok_2, ip_MLok_3, ip_MLok_4, ip_MLok_5, ip_MLok_6, ip_MLok_7, ip_MLok_8, ip_MLok_9, ip_MLok_10, ip_MLok_11, Bool.and_self]
theorem ip_NLok : (ip_NL.all ip_nlc) = true := by decide +kernel
theorem ip_OLok : (ip_OL.all fun e => decide (lw_tbl[e.2.2]? = some (Jvm.Cond.methodLink (ip_ocN.getD e.1 "") e.2.1 objectInit))) = true := by decide +kernel
theorem ip_ALok : (ip_AL.all fun e => decide (lw_tbl[e.2.2]? = some (Jvm.Cond.methodLink (ip_ocN.getD e.1 "") e.2.1 arraycopyName))) = true := by decide +kernel
theorem ip_XLok : (ip_XL.all fun e => decide (lw_tbl[e.2.2.2]? = some (Jvm.Cond.methodLink (ip_ocN.getD e.1 "") e.2.1 (if e.2.2.1 = 9997 then Lib.Math.max.name else Lib.Math.min.name)))) = true := by decide +kernel
theorem ip_w_mth : Jvm.Cond.static Lib.Math.max.name ∈ lw_tbl ∧ Jvm.Cond.static Lib.Math.min.name ∈ lw_tbl ∧ Jvm.Cond.initialized "java/lang/Math" ∈ lw_tbl ∧ Jvm.Cond.code Lib.Math.max.name Lib.Math.max.code 2 (some .int) ∈ lw_tbl ∧ Jvm.Cond.code Lib.Math.min.name Lib.Math.min.code 2 (some .int) ∈ lw_tbl := by decide +kernel
theorem ip_SRok : (ip_SR.all fun e => decide (lw_tbl[e.2.2.2]? = some (Jvm.Cond.stringRef (ip_ocN.getD e.1 "") e.2.1 (ip_strs.getD e.2.2.1 "")))) = true := by decide +kernel
theorem ip_KIok : (ip_KI.all fun e => decide (lw_tbl[e.2.2.2]? = some (Jvm.Cond.constant (ip_ocN.getD e.1 "") e.2.1 e.2.2.1))) = true := by decide +kernel
theorem ip_KLok : (ip_KL.all fun e => decide (lw_tbl[e.2.2.2]? = some (Jvm.Cond.constantLong (ip_ocN.getD e.1 "") e.2.1 e.2.2.1))) = true := by decide +kernel
theorem ip_MNok : (ip_MN.all fun e => decide (lw_tbl[e.2.2]? = some (Jvm.Cond.classLink (ip_ocN.getD e.1 "") e.2.1 ("[" ++ (FieldType.array .int).toString)))) = true := by decide +kernel
theorem ip_w_obj : Jvm.Cond.instanceMethod objectInit ∈ lw_tbl ∧ Jvm.Cond.code objectInit ⟨#[0xb1]⟩ 1 none ∈ lw_tbl := by decide +kernel
theorem ip_w_acp : Jvm.Cond.native arraycopyName ∈ lw_tbl ∧ Jvm.Cond.static arraycopyName ∈ lw_tbl ∧ Jvm.Cond.initialized "java/lang/System" ∈ lw_tbl := by decide +kernel
theorem ip_w_str : Jvm.Cond.fieldLink "java/lang/String" 9 "java/lang/String" "value" "[B" ∈ lw_tbl ∧ Jvm.Cond.fieldLink "java/lang/String" 15 "java/lang/String" "coder" "B" ∈ lw_tbl ∧ Jvm.Cond.fieldLink "java/lang/String" 38 "java/lang/String" "COMPACT_STRINGS" "Z" ∈ lw_tbl ∧ Jvm.Cond.fieldLink "java/lang/String" 1053 "jdk/internal/util/Preconditions" "SIOOBE_FORMATTER" "Ljava/util/function/BiFunction;" ∈ lw_tbl := by decide +kernel
theorem ip_w_arr : Jvm.Cond.arrayClass .int ∈ lw_tbl ∧ Jvm.Cond.arrayClass .boolean ∈ lw_tbl ∧ Jvm.Cond.arrayClass .byte ∈ lw_tbl ∧ Jvm.Cond.arrayOver (.array .int) ∈ lw_tbl := by decide +kernel
def ip_good : List Jvm.Cond := lw_tbl.filter goodWord
theorem ip_good_mem {w : Jvm.Cond} (h : w ∈ lw_tbl) (hg : goodWord w = true) : w ∈ ip_good := List.mem_filter.mpr ⟨h, hg⟩
def ip_isN : Jvm.Cond → Bool
  | .fieldLinkNest _ _ _ _ _ _ => true
  | .methodLinkNest _ _ _ _ => true
  | _ => false
def ip_nst : List Jvm.Cond := lw_tbl.filter ip_isN
theorem ip_nst_mem {w : Jvm.Cond} (h : w ∈ lw_tbl) (hg : ip_isN w = true) : w ∈ ip_nst := List.mem_filter.mpr ⟨h, hg⟩
set_option maxRecDepth 20000 in
theorem ip_wc_1 : lw_tbl[305]? = some (Jvm.Cond.code yX0_init cX0_init 1 none) := rfl
set_option maxRecDepth 20000 in
theorem ip_wc_2 : lw_tbl[803]? = some (Jvm.Cond.code yX0_findSets cX0_findSets 5 none) := rfl
set_option maxRecDepth 20000 in
theorem ip_wc_3 : lw_tbl[812]? = some (Jvm.Cond.code yX0_agrees cX0_agrees 4 (some (FieldType.boolean))) := rfl
set_option maxRecDepth 20000 in
theorem ip_wc_4 : lw_tbl[822]? = some (Jvm.Cond.code yX0_addSet cX0_addSet 3 none) := rfl
set_option maxRecDepth 20000 in
theorem ip_wc_5 : lw_tbl[827]? = some (Jvm.Cond.code yX0_ropesInAll cX0_ropesInAll 3 (some (FieldType.int))) := rfl
set_option maxRecDepth 20000 in
theorem ip_wc_6 : lw_tbl[831]? = some (Jvm.Cond.code yX0_ropesInSome cX0_ropesInSome 3 (some (FieldType.int))) := rfl
set_option maxRecDepth 20000 in
theorem ip_wc_7 : lw_tbl[839]? = some (Jvm.Cond.code yX0_tellingRow cX0_tellingRow 5 (some (FieldType.int))) := rfl
set_option maxRecDepth 20000 in
theorem ip_wc_8 : lw_tbl[843]? = some (Jvm.Cond.code yX0_mostAlike cX0_mostAlike 6 (some (FieldType.int))) := rfl
set_option maxRecDepth 20000 in
theorem ip_wc_9 : lw_tbl[864]? = some (Jvm.Cond.code yX0_slipKinds cX0_slipKinds 7 (some (FieldType.int))) := rfl
set_option maxRecDepth 20000 in
theorem ip_wc_10 : lw_tbl[873]? = some (Jvm.Cond.code yX0_lookingPlace cX0_lookingPlace 6 (some (FieldType.int))) := rfl
set_option maxRecDepth 20000 in
theorem ip_wc_11 : lw_tbl[877]? = some (Jvm.Cond.code yX0_mostComingAlike cX0_mostComingAlike 6 (some (FieldType.int))) := rfl
set_option maxRecDepth 20000 in
theorem ip_wc_12 : lw_tbl[885]? = some (Jvm.Cond.code yX0_ringerKinds cX0_ringerKinds 7 (some (FieldType.int))) := rfl
set_option maxRecDepth 20000 in
theorem ip_wc_13 : lw_tbl[893]? = some (Jvm.Cond.code yX0_askingYears cX0_askingYears 6 (some (FieldType.int))) := rfl
set_option maxRecDepth 20000 in
theorem ip_wc_14 : lw_tbl[896]? = some (Jvm.Cond.code yX0_greaterPart cX0_greaterPart 6 (some (FieldType.int))) := rfl
set_option maxRecDepth 20000 in
theorem ip_wc_15 : lw_tbl[131]? = some (Jvm.Cond.code yX1_init cX1_init 1 none) := rfl
set_option maxRecDepth 20000 in
theorem ip_wc_16 : lw_tbl[378]? = some (Jvm.Cond.code yX1_letGo cX1_letGo 1 none) := rfl
set_option maxRecDepth 20000 in
theorem ip_wc_17 : lw_tbl[583]? = some (Jvm.Cond.code yX1_keep cX1_keep 2 none) := rfl
set_option maxRecDepth 20000 in
theorem ip_wc_18 : lw_tbl[587]? = some (Jvm.Cond.code yX1_dropOldest cX1_dropOldest 2 none) := rfl
set_option maxRecDepth 20000 in
theorem ip_wc_19 : lw_tbl[695]? = some (Jvm.Cond.code yX1_restore cX1_restore 2 none) := rfl
set_option maxRecDepth 20000 in
theorem ip_wc_20 : lw_tbl[556]? = some (Jvm.Cond.code yX1_copyHistory cX1_copyHistory 3 none) := rfl
set_option maxRecDepth 20000 in
theorem ip_wc_21 : lw_tbl[257]? = some (Jvm.Cond.code yX2_init cX2_init 1 none) := rfl
set_option maxRecDepth 20000 in
theorem ip_wc_22 : lw_tbl[623]? = some (Jvm.Cond.code yX2_mean cX2_mean 5 none) := rfl
set_option maxRecDepth 20000 in
theorem ip_wc_23 : lw_tbl[633]? = some (Jvm.Cond.code yX2_swapPairs cX2_swapPairs 7 none) := rfl
set_option maxRecDepth 20000 in
theorem ip_wc_24 : lw_tbl[909]? = some (Jvm.Cond.code yX2_lend cX2_lend 4 none) := rfl
set_option maxRecDepth 20000 in
theorem ip_wc_25 : lw_tbl[654]? = some (Jvm.Cond.code yX2_ring cX2_ring 5 none) := rfl
set_option maxRecDepth 20000 in
theorem ip_wc_26 : lw_tbl[663]? = some (Jvm.Cond.code yX2_makeSlip cX2_makeSlip 7 none) := rfl
set_option maxRecDepth 20000 in
theorem ip_wc_27 : lw_tbl[667]? = some (Jvm.Cond.code yX2_placeOf cX2_placeOf 4 (some (FieldType.int))) := rfl
set_option maxRecDepth 20000 in
theorem ip_wc_28 : lw_tbl[628]? = some (Jvm.Cond.code yX2_numberOf cX2_numberOf 4 (some (FieldType.int))) := rfl
set_option maxRecDepth 20000 in
theorem ip_wc_29 : lw_tbl[687]? = some (Jvm.Cond.code yX2_rowLike cX2_rowLike 3 (some (FieldType.int))) := rfl
set_option maxRecDepth 20000 in
theorem ip_wc_30 : lw_tbl[683]? = some (Jvm.Cond.code yX2_firstRepeat cX2_firstRepeat 2 (some (FieldType.int))) := rfl
set_option maxRecDepth 20000 in
theorem ip_wc_31 : lw_tbl[679]? = some (Jvm.Cond.code yX2_isTrue cX2_isTrue 1 (some (FieldType.boolean))) := rfl
set_option maxRecDepth 20000 in
theorem ip_wc_32 : lw_tbl[949]? = some (Jvm.Cond.code yX2_rowsAstray cX2_rowsAstray 3 (some (FieldType.int))) := rfl
set_option maxRecDepth 20000 in
theorem ip_wc_33 : lw_tbl[913]? = some (Jvm.Cond.code yX2_rowsAstrayOf cX2_rowsAstrayOf 4 (some (FieldType.int))) := rfl
set_option maxRecDepth 20000 in
theorem ip_wc_34 : lw_tbl[218]? = some (Jvm.Cond.code yX3_init cX3_init 1 none) := rfl
set_option maxRecDepth 20000 in
theorem ip_wc_35 : lw_tbl[411]? = some (Jvm.Cond.code yX3_parse cX3_parse 3 (some (FieldType.int))) := rfl
set_option maxRecDepth 20000 in
theorem ip_wc_36 : lw_tbl[498]? = some (Jvm.Cond.code yX3_readItem cX3_readItem 5 (some (FieldType.boolean))) := rfl
set_option maxRecDepth 20000 in
theorem ip_wc_37 : lw_tbl[501]? = some (Jvm.Cond.code yX3_numbersOf cX3_numbersOf 1 (some (FieldType.int))) := rfl
set_option maxRecDepth 20000 in
theorem ip_wc_38 : lw_tbl[505]? = some (Jvm.Cond.code yX3_standsAt cX3_standsAt 3 (some (FieldType.boolean))) := rfl
set_option maxRecDepth 20000 in
theorem ip_wc_39 : lw_tbl[512]? = some (Jvm.Cond.code yX3_apply cX3_apply 2 none) := rfl
set_option maxRecDepth 20000 in
theorem ip_wc_40 : lw_tbl[416]? = some (Jvm.Cond.code yX3_nextToken cX3_nextToken 2 none) := rfl
set_option maxRecDepth 20000 in
theorem ip_wc_41 : lw_tbl[420]? = some (Jvm.Cond.code yX3_skip cX3_skip 5 (some (FieldType.int))) := rfl
set_option maxRecDepth 20000 in
theorem ip_wc_42 : lw_tbl[429]? = some (Jvm.Cond.code yX3_itemSpelled cX3_itemSpelled 2 (some (FieldType.int))) := rfl
set_option maxRecDepth 20000 in
theorem ip_wc_43 : lw_tbl[432]? = some (Jvm.Cond.code yX3_wordOf cX3_wordOf 1 (some ((FieldType.object "java/lang/String")))) := rfl
set_option maxRecDepth 20000 in
theorem ip_wc_44 : lw_tbl[494]? = some (Jvm.Cond.code yX3_numberSpelled cX3_numberSpelled 3 (some (FieldType.int))) := rfl
set_option maxRecDepth 20000 in
theorem ip_wc_45 : lw_tbl[147]? = some (Jvm.Cond.code yX4_init cX4_init 1 none) := rfl
set_option maxRecDepth 20000 in
theorem ip_wc_46 : lw_tbl[795]? = some (Jvm.Cond.code yX4_append cX4_append 6 (some (FieldType.int))) := rfl
set_option maxRecDepth 20000 in
theorem ip_wc_47 : lw_tbl[816]? = some (Jvm.Cond.code yX4_cell cX4_cell 4 (some (FieldType.int))) := rfl
set_option maxRecDepth 20000 in
theorem ip_wc_48 : lw_tbl[989]? = some (Jvm.Cond.code yX4_mixInto cX4_mixInto 8 (some (FieldType.long))) := rfl
set_option maxRecDepth 20000 in
theorem ip_wc_49 : lw_tbl[382]? = some (Jvm.Cond.code yX4_forgetAll cX4_forgetAll 2 (some (FieldType.int))) := rfl
set_option maxRecDepth 20000 in
theorem ip_wc_50 : lw_tbl[561]? = some (Jvm.Cond.code yX4_copyRecords cX4_copyRecords 2 none) := rfl
set_option maxRecDepth 20000 in
theorem ip_wc_51 : lw_tbl[650]? = some (Jvm.Cond.code yX5_makes cX5_makes 5 (some (FieldType.boolean))) := rfl
set_option maxRecDepth 20000 in
theorem ip_wc_52 : lw_tbl[251]? = some (Jvm.Cond.code yX6_init cX6_init 1 none) := rfl
set_option maxRecDepth 20000 in
theorem ip_wc_53 : lw_tbl[739]? = some (Jvm.Cond.code yX6_leastMend cX6_leastMend 6 (some (FieldType.int))) := rfl
set_option maxRecDepth 20000 in
theorem ip_wc_54 : lw_tbl[757]? = some (Jvm.Cond.code yX6_leastMethod cX6_leastMethod 5 (some (FieldType.int))) := rfl
set_option maxRecDepth 20000 in
theorem ip_wc_55 : lw_tbl[768]? = some (Jvm.Cond.code yX6_advanceTrial cX6_advanceTrial 3 (some (FieldType.boolean))) := rfl
set_option maxRecDepth 20000 in
theorem ip_wc_56 : lw_tbl[763]? = some (Jvm.Cond.code yX6_trialNumber cX6_trialNumber 3 (some (FieldType.int))) := rfl
set_option maxRecDepth 20000 in
theorem ip_wc_57 : lw_tbl[776]? = some (Jvm.Cond.code yX6_yearsUntilTrue cX6_yearsUntilTrue 3 (some (FieldType.int))) := rfl
set_option maxRecDepth 20000 in
theorem ip_wc_58 : lw_tbl[925]? = some (Jvm.Cond.code yX6_trueWeight cX6_trueWeight 9 (some (FieldType.long))) := rfl
set_option maxRecDepth 20000 in
theorem ip_wc_59 : lw_tbl[905]? = some (Jvm.Cond.code yX6_restingPairs cX6_restingPairs 8 (some (FieldType.int))) := rfl
set_option maxRecDepth 20000 in
theorem ip_wc_60 : lw_tbl[938]? = some (Jvm.Cond.code yX6_weddingRows cX6_weddingRows 9 (some (FieldType.int))) := rfl
set_option maxRecDepth 20000 in
theorem ip_wc_61 : lw_tbl[115]? = some (Jvm.Cond.code yX7_init cX7_init 1 none) := rfl
set_option maxRecDepth 20000 in
theorem ip_wc_62 : lw_tbl[120]? = some (Jvm.Cond.code yX7_untell cX7_untell 2 none) := rfl
set_option maxRecDepth 20000 in
theorem ip_wc_63 : lw_tbl[551]? = some (Jvm.Cond.code yX7_copyRopes cX7_copyRopes 2 none) := rfl
set_option maxRecDepth 20000 in
theorem ip_wc_64 : lw_tbl[579]? = some (Jvm.Cond.code yX7_cell cX7_cell 3 (some (FieldType.int))) := rfl
set_option maxRecDepth 20000 in
theorem ip_wc_65 : lw_tbl[523]? = some (Jvm.Cond.code yX7_setCell cX7_setCell 4 none) := rfl
set_option maxRecDepth 20000 in
theorem ip_wc_66 : lw_tbl[596]? = some (Jvm.Cond.code yX7_slipKind cX7_slipKind 2 (some (FieldType.int))) := rfl
set_option maxRecDepth 20000 in
theorem ip_wc_67 : lw_tbl[658]? = some (Jvm.Cond.code yX7_slipRow cX7_slipRow 2 (some (FieldType.int))) := rfl
set_option maxRecDepth 20000 in
theorem ip_wc_68 : lw_tbl[646]? = some (Jvm.Cond.code yX7_ringerKind cX7_ringerKind 2 (some (FieldType.int))) := rfl
set_option maxRecDepth 20000 in
theorem ip_wc_69 : lw_tbl[609]? = some (Jvm.Cond.code yX7_yearsOf cX7_yearsOf 2 (some (FieldType.int))) := rfl
set_option maxRecDepth 20000 in
theorem ip_wc_70 : lw_tbl[535]? = some (Jvm.Cond.code yX7_townYear cX7_townYear 1 (some (FieldType.int))) := rfl
set_option maxRecDepth 20000 in
theorem ip_wc_71 : lw_tbl[575]? = some (Jvm.Cond.code yX7_hasSlip cX7_hasSlip 2 (some (FieldType.boolean))) := rfl
set_option maxRecDepth 20000 in
theorem ip_wc_72 : lw_tbl[519]? = some (Jvm.Cond.code yX7_putSlip cX7_putSlip 4 none) := rfl
set_option maxRecDepth 20000 in
theorem ip_wc_73 : lw_tbl[600]? = some (Jvm.Cond.code yX7_takeSlip cX7_takeSlip 2 none) := rfl
set_option maxRecDepth 20000 in
theorem ip_wc_74 : lw_tbl[527]? = some (Jvm.Cond.code yX7_seat cX7_seat 4 none) := rfl
set_option maxRecDepth 20000 in
theorem ip_wc_75 : lw_tbl[539]? = some (Jvm.Cond.code yX7_passYear cX7_passYear 2 none) := rfl
set_option maxRecDepth 20000 in
theorem ip_wc_76 : lw_tbl[531]? = some (Jvm.Cond.code yX7_passYears cX7_passYears 3 none) := rfl
set_option maxRecDepth 20000 in
theorem ip_wc_77 : lw_tbl[641]? = some (Jvm.Cond.code yX7_makesSlip cX7_makesSlip 2 (some (FieldType.boolean))) := rfl
set_option maxRecDepth 20000 in
theorem ip_wc_78 : lw_tbl[807]? = some (Jvm.Cond.code yX7_slipBits cX7_slipBits 3 (some (FieldType.int))) := rfl
set_option maxRecDepth 20000 in
theorem ip_wc_79 : lw_tbl[637]? = some (Jvm.Cond.code yX7_madeBits cX7_madeBits 3 (some (FieldType.int))) := rfl
set_option maxRecDepth 20000 in
theorem ip_wc_80 : lw_tbl[729]? = some (Jvm.Cond.code yX7_madeInRow cX7_madeInRow 4 (some (FieldType.int))) := rfl
set_option maxRecDepth 20000 in
theorem ip_wc_81 : lw_tbl[725]? = some (Jvm.Cond.code yX7_fullestRow cX7_fullestRow 5 (some (FieldType.int))) := rfl
set_option maxRecDepth 20000 in
theorem ip_wc_82 : lw_tbl[670]? = some (Jvm.Cond.code yX8_placeTold cX8_placeTold 6 (some (FieldType.int))) := rfl
set_option maxRecDepth 20000 in
theorem ip_wc_83 : lw_tbl[201]? = some (Jvm.Cond.code yX9_init cX9_init 1 none) := rfl
set_option maxRecDepth 20000 in
theorem ip_wc_84 : lw_tbl[403]? = some (Jvm.Cond.code yX9_empty cX9_empty 2 (some (FieldType.int))) := rfl
set_option maxRecDepth 20000 in
theorem ip_wc_85 : lw_tbl[395]? = some (Jvm.Cond.code yX9_append cX9_append 2 none) := rfl
set_option maxRecDepth 20000 in
theorem ip_wc_86 : lw_tbl[424]? = some (Jvm.Cond.code yX9_byteAt cX9_byteAt 2 (some (FieldType.int))) := rfl
set_option maxRecDepth 20000 in
theorem ip_wc_87 : lw_tbl[441]? = some (Jvm.Cond.code yX9_spells cX9_spells 5 (some (FieldType.boolean))) := rfl
set_option maxRecDepth 20000 in
theorem ip_wc_88 : lw_tbl[109]? = some (Jvm.Cond.code yX10_init cX10_init 1 none) := rfl
set_option maxRecDepth 20000 in
theorem ip_wc_89 : lw_tbl[370]? = some (Jvm.Cond.code yX10_begin cX10_begin 2 none) := rfl
set_option maxRecDepth 20000 in
theorem ip_wc_90 : lw_tbl[546]? = some (Jvm.Cond.code yX10_copyTower cX10_copyTower 2 none) := rfl
set_option maxRecDepth 20000 in
theorem ip_wc_91 : lw_tbl[101]? = some (Jvm.Cond.code yX11_init cX11_init 1 none) := rfl
set_option maxRecDepth 20000 in
theorem ip_wc_92 : lw_tbl[359]? = some (Jvm.Cond.code yX11_tower cX11_tower 3 (some (FieldType.int))) := rfl
set_option maxRecDepth 20000 in
theorem ip_wc_93 : lw_tbl[386]? = some (Jvm.Cond.code yX11_method cX11_method 4 (some (FieldType.int))) := rfl
set_option maxRecDepth 20000 in
theorem ip_wc_94 : lw_tbl[391]? = some (Jvm.Cond.code yX11_type cX11_type 2 (some (FieldType.int))) := rfl
set_option maxRecDepth 20000 in
theorem ip_wc_95 : lw_tbl[399]? = some (Jvm.Cond.code yX11_clear cX11_clear 1 (some (FieldType.int))) := rfl
set_option maxRecDepth 20000 in
theorem ip_wc_96 : lw_tbl[407]? = some (Jvm.Cond.code yX11_read cX11_read 2 (some (FieldType.int))) := rfl
set_option maxRecDepth 20000 in
theorem ip_wc_97 : lw_tbl[566]? = some (Jvm.Cond.code yX11_slips cX11_slips 5 (some (FieldType.int))) := rfl
set_option maxRecDepth 20000 in
theorem ip_wc_98 : lw_tbl[592]? = some (Jvm.Cond.code yX11_drops cX11_drops 3 (some (FieldType.int))) := rfl
set_option maxRecDepth 20000 in
theorem ip_wc_99 : lw_tbl[605]? = some (Jvm.Cond.code yX11_hands cX11_hands 4 (some (FieldType.int))) := rfl
set_option maxRecDepth 20000 in
theorem ip_wc_100 : lw_tbl[614]? = some (Jvm.Cond.code yX11_year cX11_year 2 (some (FieldType.int))) := rfl
set_option maxRecDepth 20000 in
theorem ip_wc_101 : lw_tbl[691]? = some (Jvm.Cond.code yX11_undo cX11_undo 1 (some (FieldType.int))) := rfl
set_option maxRecDepth 20000 in
theorem ip_wc_102 : lw_tbl[700]? = some (Jvm.Cond.code yX11_of cX11_of 3 (some (FieldType.int))) := rfl
set_option maxRecDepth 20000 in
theorem ip_wc_103 : lw_tbl[711]? = some (Jvm.Cond.code yX11_row cX11_row 4 (some (FieldType.int))) := rfl
set_option maxRecDepth 20000 in
theorem ip_wc_104 : lw_tbl[715]? = some (Jvm.Cond.code yX11_repeats cX11_repeats 4 (some (FieldType.int))) := rfl
set_option maxRecDepth 20000 in
theorem ip_wc_105 : lw_tbl[721]? = some (Jvm.Cond.code yX11_clash cX11_clash 3 (some (FieldType.int))) := rfl
set_option maxRecDepth 20000 in
theorem ip_wc_106 : lw_tbl[735]? = some (Jvm.Cond.code yX11_mend cX11_mend 1 (some (FieldType.int))) := rfl
set_option maxRecDepth 20000 in
theorem ip_wc_107 : lw_tbl[753]? = some (Jvm.Cond.code yX11_compose cX11_compose 1 (some (FieldType.int))) := rfl
set_option maxRecDepth 20000 in
theorem ip_wc_108 : lw_tbl[772]? = some (Jvm.Cond.code yX11_when cX11_when 1 (some (FieldType.int))) := rfl
set_option maxRecDepth 20000 in
theorem ip_wc_109 : lw_tbl[782]? = some (Jvm.Cond.code yX11_clean cX11_clean 1 (some (FieldType.int))) := rfl
set_option maxRecDepth 20000 in
theorem ip_wc_110 : lw_tbl[786]? = some (Jvm.Cond.code yX11_heard cX11_heard 3 (some (FieldType.int))) := rfl
set_option maxRecDepth 20000 in
theorem ip_wc_111 : lw_tbl[799]? = some (Jvm.Cond.code yX11_who cX11_who 2 (some (FieldType.int))) := rfl
set_option maxRecDepth 20000 in
theorem ip_wc_112 : lw_tbl[835]? = some (Jvm.Cond.code yX11_tell cX11_tell 1 (some (FieldType.int))) := rfl
set_option maxRecDepth 20000 in
theorem ip_wc_113 : lw_tbl[848]? = some (Jvm.Cond.code yX11_note cX11_note 4 (some (FieldType.int))) := rfl
set_option maxRecDepth 20000 in
theorem ip_wc_114 : lw_tbl[852]? = some (Jvm.Cond.code yX11_mark cX11_mark 5 (some (FieldType.int))) := rfl
set_option maxRecDepth 20000 in
theorem ip_wc_115 : lw_tbl[856]? = some (Jvm.Cond.code yX11_forget cX11_forget 3 (some (FieldType.int))) := rfl
set_option maxRecDepth 20000 in
theorem ip_wc_116 : lw_tbl[861]? = some (Jvm.Cond.code yX11_is cX11_is 2 (some (FieldType.int))) := rfl
set_option maxRecDepth 20000 in
theorem ip_wc_117 : lw_tbl[869]? = some (Jvm.Cond.code yX11_look cX11_look 2 (some (FieldType.int))) := rfl
set_option maxRecDepth 20000 in
theorem ip_wc_118 : lw_tbl[882]? = some (Jvm.Cond.code yX11_kinds cX11_kinds 2 (some (FieldType.int))) := rfl
set_option maxRecDepth 20000 in
theorem ip_wc_119 : lw_tbl[890]? = some (Jvm.Cond.code yX11_ask cX11_ask 2 (some (FieldType.int))) := rfl
set_option maxRecDepth 20000 in
theorem ip_wc_120 : lw_tbl[901]? = some (Jvm.Cond.code yX11_lends cX11_lends 3 (some (FieldType.int))) := rfl
set_option maxRecDepth 20000 in
theorem ip_wc_121 : lw_tbl[917]? = some (Jvm.Cond.code yX11_odds cX11_odds 8 (some (FieldType.int))) := rfl
set_option maxRecDepth 20000 in
theorem ip_wc_122 : lw_tbl[933]? = some (Jvm.Cond.code yX11_weddings cX11_weddings 3 (some (FieldType.int))) := rfl
set_option maxRecDepth 20000 in
theorem ip_wc_123 : lw_tbl[953]? = some (Jvm.Cond.code yX11_part cX11_part 2 (some (FieldType.long))) := rfl
set_option maxRecDepth 20000 in
theorem ip_wc_124 : lw_tbl[957]? = some (Jvm.Cond.code yX11_image cX11_image 2 (some (FieldType.int))) := rfl
set_option maxRecDepth 20000 in
theorem ip_wc_125 : lw_tbl[965]? = some (Jvm.Cond.code yX11_from cX11_from 2 (some (FieldType.int))) := rfl
set_option maxRecDepth 20000 in
theorem ip_wc_126 : lw_tbl[969]? = some (Jvm.Cond.code yX11_status cX11_status 2 (some (FieldType.int))) := rfl
set_option maxRecDepth 20000 in
theorem ip_wc_127 : lw_tbl[973]? = some (Jvm.Cond.code yX11_count cX11_count 2 (some (FieldType.int))) := rfl
set_option maxRecDepth 20000 in
theorem ip_wc_128 : lw_tbl[983]? = some (Jvm.Cond.code yX11_digest cX11_digest 5 (some (FieldType.long))) := rfl
set_option maxRecDepth 20000 in
theorem ip_wc_129 : lw_tbl[362]? = some (Jvm.Cond.code yX11_within cX11_within 3 (some (FieldType.boolean))) := rfl
set_option maxRecDepth 20000 in
theorem ip_wc_130 : lw_tbl[570]? = some (Jvm.Cond.code yX11_isRope cX11_isRope 2 (some (FieldType.boolean))) := rfl
set_option maxRecDepth 20000 in
theorem ip_wc_131 : lw_tbl[508]? = some (Jvm.Cond.code yX11_isKind cX11_isKind 1 (some (FieldType.boolean))) := rfl
set_option maxRecDepth 20000 in
theorem ip_wc_132 : lw_tbl[790]? = some (Jvm.Cond.code yX11_isRow cX11_isRow 6 (some (FieldType.boolean))) := rfl
set_option maxRecDepth 20000 in
theorem ip_wc_133 : lw_tbl[366]? = some (Jvm.Cond.code yX11_refuse cX11_refuse 3 (some (FieldType.int))) := rfl
set_option maxRecDepth 20000 in
theorem ip_wc_134 : lw_tbl[961]? = some (Jvm.Cond.code yX11_imageAt cX11_imageAt 2 (some ((FieldType.object "HandedSlips$Tower")))) := rfl
set_option maxRecDepth 20000 in
theorem ip_wc_135 : lw_tbl[619]? = some (Jvm.Cond.code yX11_ringNow cX11_ringNow 2 (some ((FieldType.object "HandedSlips$Peal")))) := rfl
set_option maxRecDepth 20000 in
theorem ip_wc_136 : lw_tbl[704]? = some (Jvm.Cond.code yX11_ropeFact cX11_ropeFact 3 (some (FieldType.int))) := rfl
set_option maxRecDepth 20000 in
theorem ip_wc_137 : lw_tbl[977]? = some (Jvm.Cond.code yX11_howMany cX11_howMany 2 (some (FieldType.int))) := rfl
set_option maxRecDepth 20000 in
theorem ip_wc_138 : lw_tbl[921]? = some (Jvm.Cond.code yX11_power cX11_power 6 (some (FieldType.long))) := rfl
set_option maxRecDepth 20000 in
theorem ip_wc_139 : lw_tbl[929]? = some (Jvm.Cond.code yX11_commonDivisor cX11_commonDivisor 11 (some (FieldType.long))) := rfl
set_option maxRecDepth 20000 in
theorem ip_wc_140 : lw_tbl[1106]? = some (Jvm.Cond.code yX12_bad cX12_bad 1 (some (FieldType.int))) := rfl
set_option maxRecDepth 20000 in
theorem ip_wc_141 : lw_tbl[1231]? = some (Jvm.Cond.code yX12_no cX12_no 1 (some (FieldType.int))) := rfl
set_option maxRecDepth 20000 in
theorem ip_wc_142 : lw_tbl[1118]? = some (Jvm.Cond.code yX12_full cX12_full 1 (some (FieldType.int))) := rfl
set_option maxRecDepth 20000 in
theorem ip_wc_143 : lw_tbl[1102]? = some (Jvm.Cond.code yX12_in cX12_in 3 (some (FieldType.boolean))) := rfl
set_option maxRecDepth 20000 in
theorem ip_wc_144 : lw_tbl[1273]? = some (Jvm.Cond.code yX12_has cX12_has 2 (some (FieldType.boolean))) := rfl
set_option maxRecDepth 20000 in
theorem ip_wc_145 : lw_tbl[1203]? = some (Jvm.Cond.code yX12_lesser cX12_lesser 2 (some (FieldType.int))) := rfl
set_option maxRecDepth 20000 in
theorem ip_wc_146 : lw_tbl[1283]? = some (Jvm.Cond.code yX12_greater cX12_greater 2 (some (FieldType.int))) := rfl
set_option maxRecDepth 20000 in
theorem ip_wc_147 : lw_tbl[1327]? = some (Jvm.Cond.code yX12_bits cX12_bits 3 (some (FieldType.int))) := rfl
set_option maxRecDepth 20000 in
theorem ip_wc_148 : lw_tbl[996]? = some (Jvm.Cond.code yX12_init cX12_init 1 none) := rfl
set_option maxRecDepth 20000 in
theorem ip_wc_149 : lw_tbl[1001]? = some (Jvm.Cond.code yX12_begin cX12_begin 3 none) := rfl
set_option maxRecDepth 20000 in
theorem ip_wc_150 : lw_tbl[1219]? = some (Jvm.Cond.code yX12_isRope cX12_isRope 2 (some (FieldType.boolean))) := rfl
set_option maxRecDepth 20000 in
theorem ip_wc_151 : lw_tbl[1099]? = some (Jvm.Cond.code yX12_tower cX12_tower 3 (some (FieldType.int))) := rfl
set_option maxRecDepth 20000 in
theorem ip_wc_152 : lw_tbl[1110]? = some (Jvm.Cond.code yX12_method cX12_method 4 (some (FieldType.int))) := rfl
set_option maxRecDepth 20000 in
theorem ip_wc_153 : lw_tbl[1114]? = some (Jvm.Cond.code yX12_type cX12_type 2 (some (FieldType.int))) := rfl
set_option maxRecDepth 20000 in
theorem ip_wc_154 : lw_tbl[1122]? = some (Jvm.Cond.code yX12_clear cX12_clear 2 (some (FieldType.int))) := rfl
set_option maxRecDepth 20000 in
theorem ip_wc_155 : lw_tbl[1150]? = some (Jvm.Cond.code yX12_here cX12_here 1 (some (FieldType.int))) := rfl
set_option maxRecDepth 20000 in
theorem ip_wc_156 : lw_tbl[1146]? = some (Jvm.Cond.code yX12_skip cX12_skip 1 none) := rfl
set_option maxRecDepth 20000 in
theorem ip_wc_157 : lw_tbl[1161]? = some (Jvm.Cond.code yX12_isLetter cX12_isLetter 1 (some (FieldType.boolean))) := rfl
set_option maxRecDepth 20000 in
theorem ip_wc_158 : lw_tbl[1172]? = some (Jvm.Cond.code yX12_isFigure cX12_isFigure 1 (some (FieldType.boolean))) := rfl
set_option maxRecDepth 20000 in
theorem ip_wc_159 : lw_tbl[1158]? = some (Jvm.Cond.code yX12_wordSize cX12_wordSize 2 (some (FieldType.int))) := rfl
set_option maxRecDepth 20000 in
theorem ip_wc_160 : lw_tbl[1165]? = some (Jvm.Cond.code yX12_letter cX12_letter 2 (some (FieldType.int))) := rfl
set_option maxRecDepth 20000 in
theorem ip_wc_161 : lw_tbl[1154]? = some (Jvm.Cond.code yX12_wordHere cX12_wordHere 2 (some (FieldType.int))) := rfl
set_option maxRecDepth 20000 in
theorem ip_wc_162 : lw_tbl[1169]? = some (Jvm.Cond.code yX12_number cX12_number 5 (some (FieldType.boolean))) := rfl
set_option maxRecDepth 20000 in
theorem ip_wc_163 : lw_tbl[1176]? = some (Jvm.Cond.code yX12_ends cX12_ends 1 (some (FieldType.boolean))) := rfl
set_option maxRecDepth 20000 in
theorem ip_wc_164 : lw_tbl[1184]? = some (Jvm.Cond.code yX12_readsMethod cX12_readsMethod 2 (some (FieldType.boolean))) := rfl
set_option maxRecDepth 20000 in
theorem ip_wc_165 : lw_tbl[1188]? = some (Jvm.Cond.code yX12_readsSlip cX12_readsSlip 2 (some (FieldType.boolean))) := rfl
set_option maxRecDepth 20000 in
theorem ip_wc_166 : lw_tbl[1192]? = some (Jvm.Cond.code yX12_readsRinger cX12_readsRinger 2 (some (FieldType.boolean))) := rfl
set_option maxRecDepth 20000 in
theorem ip_wc_167 : lw_tbl[1196]? = some (Jvm.Cond.code yX12_readsYears cX12_readsYears 3 (some (FieldType.boolean))) := rfl
set_option maxRecDepth 20000 in
theorem ip_wc_168 : lw_tbl[1180]? = some (Jvm.Cond.code yX12_readsItem cX12_readsItem 2 (some (FieldType.boolean))) := rfl
set_option maxRecDepth 20000 in
theorem ip_wc_169 : lw_tbl[1142]? = some (Jvm.Cond.code yX12_readsFirst cX12_readsFirst 1 (some (FieldType.boolean))) := rfl
set_option maxRecDepth 20000 in
theorem ip_wc_170 : lw_tbl[1138]? = some (Jvm.Cond.code yX12_readsTower cX12_readsTower 2 (some (FieldType.int))) := rfl
set_option maxRecDepth 20000 in
theorem ip_wc_171 : lw_tbl[1126]? = some (Jvm.Cond.code yX12_read cX12_read 2 (some (FieldType.int))) := rfl
set_option maxRecDepth 20000 in
theorem ip_wc_172 : lw_tbl[1280]? = some (Jvm.Cond.code yX12_placeBy cX12_placeBy 6 (some (FieldType.int))) := rfl
set_option maxRecDepth 20000 in
theorem ip_wc_173 : lw_tbl[1246]? = some (Jvm.Cond.code yX12_makesBy cX12_makesBy 3 (some (FieldType.boolean))) := rfl
set_option maxRecDepth 20000 in
theorem ip_wc_174 : lw_tbl[1355]? = some (Jvm.Cond.code yX12_slipped cX12_slipped 3 (some (FieldType.int))) := rfl
set_option maxRecDepth 20000 in
theorem ip_wc_175 : lw_tbl[1243]? = some (Jvm.Cond.code yX12_made cX12_made 3 (some (FieldType.int))) := rfl
set_option maxRecDepth 20000 in
theorem ip_wc_176 : lw_tbl[1270]? = some (Jvm.Cond.code yX12_swaps cX12_swaps 3 none) := rfl
set_option maxRecDepth 20000 in
theorem ip_wc_177 : lw_tbl[1266]? = some (Jvm.Cond.code yX12_setMeant cX12_setMeant 5 none) := rfl
set_option maxRecDepth 20000 in
theorem ip_wc_178 : lw_tbl[1277]? = some (Jvm.Cond.code yX12_slides cX12_slides 5 none) := rfl
set_option maxRecDepth 20000 in
theorem ip_wc_179 : lw_tbl[1262]? = some (Jvm.Cond.code yX12_setRung cX12_setRung 4 none) := rfl
set_option maxRecDepth 20000 in
theorem ip_wc_180 : lw_tbl[1287]? = some (Jvm.Cond.code yX12_told cX12_told 3 (some (FieldType.int))) := rfl
set_option maxRecDepth 20000 in
theorem ip_wc_181 : lw_tbl[1311]? = some (Jvm.Cond.code yX12_meant cX12_meant 2 (some (FieldType.int))) := rfl
set_option maxRecDepth 20000 in
theorem ip_wc_182 : lw_tbl[1258]? = some (Jvm.Cond.code yX12_rung cX12_rung 3 (some (FieldType.int))) := rfl
set_option maxRecDepth 20000 in
theorem ip_wc_183 : lw_tbl[1254]? = some (Jvm.Cond.code yX12_setRungs cX12_setRungs 3 none) := rfl
set_option maxRecDepth 20000 in
theorem ip_wc_184 : lw_tbl[1291]? = some (Jvm.Cond.code yX12_earlier cX12_earlier 3 (some (FieldType.int))) := rfl
set_option maxRecDepth 20000 in
theorem ip_wc_185 : lw_tbl[1250]? = some (Jvm.Cond.code yX12_isTrue cX12_isTrue 4 (some (FieldType.boolean))) := rfl
set_option maxRecDepth 20000 in
theorem ip_wc_186 : lw_tbl[1439]? = some (Jvm.Cond.code yX12_otherwise cX12_otherwise 4 (some (FieldType.int))) := rfl
set_option maxRecDepth 20000 in
theorem ip_wc_187 : lw_tbl[1134]? = some (Jvm.Cond.code yX12_lays cX12_lays 4 none) := rfl
set_option maxRecDepth 20000 in
theorem ip_wc_188 : lw_tbl[1211]? = some (Jvm.Cond.code yX12_takes cX12_takes 4 none) := rfl
set_option maxRecDepth 20000 in
theorem ip_wc_189 : lw_tbl[1223]? = some (Jvm.Cond.code yX12_notes cX12_notes 2 none) := rfl
set_option maxRecDepth 20000 in
theorem ip_wc_190 : lw_tbl[1200]? = some (Jvm.Cond.code yX12_passes cX12_passes 2 none) := rfl
set_option maxRecDepth 20000 in
theorem ip_wc_191 : lw_tbl[1215]? = some (Jvm.Cond.code yX12_slips cX12_slips 5 (some (FieldType.int))) := rfl
set_option maxRecDepth 20000 in
theorem ip_wc_192 : lw_tbl[1227]? = some (Jvm.Cond.code yX12_drops cX12_drops 3 (some (FieldType.int))) := rfl
set_option maxRecDepth 20000 in
theorem ip_wc_193 : lw_tbl[1235]? = some (Jvm.Cond.code yX12_hands cX12_hands 4 (some (FieldType.int))) := rfl
set_option maxRecDepth 20000 in
theorem ip_wc_194 : lw_tbl[1239]? = some (Jvm.Cond.code yX12_year cX12_year 3 (some (FieldType.int))) := rfl
set_option maxRecDepth 20000 in
theorem ip_wc_195 : lw_tbl[1295]? = some (Jvm.Cond.code yX12_undo cX12_undo 1 (some (FieldType.int))) := rfl
set_option maxRecDepth 20000 in
theorem ip_wc_196 : lw_tbl[1303]? = some (Jvm.Cond.code yX12_ropeTells cX12_ropeTells 3 (some (FieldType.int))) := rfl
set_option maxRecDepth 20000 in
theorem ip_wc_197 : lw_tbl[1299]? = some (Jvm.Cond.code yX12_of cX12_of 3 (some (FieldType.int))) := rfl
set_option maxRecDepth 20000 in
theorem ip_wc_198 : lw_tbl[1307]? = some (Jvm.Cond.code yX12_row cX12_row 3 (some (FieldType.int))) := rfl
set_option maxRecDepth 20000 in
theorem ip_wc_199 : lw_tbl[1315]? = some (Jvm.Cond.code yX12_repeats cX12_repeats 3 (some (FieldType.int))) := rfl
set_option maxRecDepth 20000 in
theorem ip_wc_200 : lw_tbl[1319]? = some (Jvm.Cond.code yX12_clash cX12_clash 8 (some (FieldType.int))) := rfl
set_option maxRecDepth 20000 in
theorem ip_wc_201 : lw_tbl[1323]? = some (Jvm.Cond.code yX12_mend cX12_mend 6 (some (FieldType.int))) := rfl
set_option maxRecDepth 20000 in
theorem ip_wc_202 : lw_tbl[1331]? = some (Jvm.Cond.code yX12_compose cX12_compose 6 (some (FieldType.int))) := rfl
set_option maxRecDepth 20000 in
theorem ip_wc_203 : lw_tbl[1335]? = some (Jvm.Cond.code yX12_when cX12_when 3 (some (FieldType.int))) := rfl
set_option maxRecDepth 20000 in
theorem ip_wc_204 : lw_tbl[1339]? = some (Jvm.Cond.code yX12_clean cX12_clean 1 (some (FieldType.int))) := rfl
set_option maxRecDepth 20000 in
theorem ip_wc_205 : lw_tbl[1347]? = some (Jvm.Cond.code yX12_areBells cX12_areBells 6 (some (FieldType.boolean))) := rfl
set_option maxRecDepth 20000 in
theorem ip_wc_206 : lw_tbl[1343]? = some (Jvm.Cond.code yX12_heard cX12_heard 3 (some (FieldType.int))) := rfl
set_option maxRecDepth 20000 in
theorem ip_wc_207 : lw_tbl[1359]? = some (Jvm.Cond.code yX12_isHeard cX12_isHeard 4 (some (FieldType.boolean))) := rfl
set_option maxRecDepth 20000 in
theorem ip_wc_208 : lw_tbl[1351]? = some (Jvm.Cond.code yX12_who cX12_who 7 (some (FieldType.int))) := rfl
set_option maxRecDepth 20000 in
theorem ip_wc_209 : lw_tbl[1367]? = some (Jvm.Cond.code yX12_alikeIn cX12_alikeIn 8 (some (FieldType.int))) := rfl
set_option maxRecDepth 20000 in
theorem ip_wc_210 : lw_tbl[1363]? = some (Jvm.Cond.code yX12_tell cX12_tell 5 (some (FieldType.int))) := rfl
set_option maxRecDepth 20000 in
theorem ip_wc_211 : lw_tbl[1371]? = some (Jvm.Cond.code yX12_note cX12_note 4 (some (FieldType.int))) := rfl
set_option maxRecDepth 20000 in
theorem ip_wc_212 : lw_tbl[1375]? = some (Jvm.Cond.code yX12_mark cX12_mark 5 (some (FieldType.int))) := rfl
set_option maxRecDepth 20000 in
theorem ip_wc_213 : lw_tbl[1379]? = some (Jvm.Cond.code yX12_forget cX12_forget 3 (some (FieldType.int))) := rfl
set_option maxRecDepth 20000 in
theorem ip_wc_214 : lw_tbl[1387]? = some (Jvm.Cond.code yX12_slipKinds cX12_slipKinds 7 (some (FieldType.int))) := rfl
set_option maxRecDepth 20000 in
theorem ip_wc_215 : lw_tbl[1395]? = some (Jvm.Cond.code yX12_ringerKinds cX12_ringerKinds 7 (some (FieldType.int))) := rfl
set_option maxRecDepth 20000 in
theorem ip_wc_216 : lw_tbl[1383]? = some (Jvm.Cond.code yX12_is cX12_is 2 (some (FieldType.int))) := rfl
set_option maxRecDepth 20000 in
theorem ip_wc_217 : lw_tbl[1391]? = some (Jvm.Cond.code yX12_kinds cX12_kinds 2 (some (FieldType.int))) := rfl
set_option maxRecDepth 20000 in
theorem ip_wc_218 : lw_tbl[1399]? = some (Jvm.Cond.code yX12_look cX12_look 10 (some (FieldType.int))) := rfl
set_option maxRecDepth 20000 in
theorem ip_wc_219 : lw_tbl[1403]? = some (Jvm.Cond.code yX12_ask cX12_ask 9 (some (FieldType.int))) := rfl
set_option maxRecDepth 20000 in
theorem ip_wc_220 : lw_tbl[1415]? = some (Jvm.Cond.code yX12_placeIn cX12_placeIn 3 (some (FieldType.int))) := rfl
set_option maxRecDepth 20000 in
theorem ip_wc_221 : lw_tbl[1411]? = some (Jvm.Cond.code yX12_gets cX12_gets 11 (some (FieldType.int))) := rfl
set_option maxRecDepth 20000 in
theorem ip_wc_222 : lw_tbl[1407]? = some (Jvm.Cond.code yX12_lends cX12_lends 6 (some (FieldType.int))) := rfl
set_option maxRecDepth 20000 in
theorem ip_wc_223 : lw_tbl[1424]? = some (Jvm.Cond.code yX12_lay cX12_lay 11 none) := rfl
set_option maxRecDepth 20000 in
theorem ip_wc_224 : lw_tbl[1419]? = some (Jvm.Cond.code yX12_odds cX12_odds 11 (some (FieldType.int))) := rfl
set_option maxRecDepth 20000 in
theorem ip_wc_225 : lw_tbl[1428]? = some (Jvm.Cond.code yX12_weddings cX12_weddings 8 (some (FieldType.int))) := rfl
set_option maxRecDepth 20000 in
theorem ip_wc_226 : lw_tbl[1443]? = some (Jvm.Cond.code yX12_part cX12_part 2 (some (FieldType.long))) := rfl
set_option maxRecDepth 20000 in
theorem ip_wc_227 : lw_tbl[1130]? = some (Jvm.Cond.code yX12_layAll cX12_layAll 4 none) := rfl
set_option maxRecDepth 20000 in
theorem ip_wc_228 : lw_tbl[1207]? = some (Jvm.Cond.code yX12_takeAll cX12_takeAll 4 none) := rfl
set_option maxRecDepth 20000 in
theorem ip_wc_229 : lw_tbl[1447]? = some (Jvm.Cond.code yX12_image cX12_image 2 (some (FieldType.int))) := rfl
set_option maxRecDepth 20000 in
theorem ip_wc_230 : lw_tbl[1451]? = some (Jvm.Cond.code yX12_from cX12_from 2 (some (FieldType.int))) := rfl
set_option maxRecDepth 20000 in
theorem ip_wc_231 : lw_tbl[1455]? = some (Jvm.Cond.code yX12_status cX12_status 2 (some (FieldType.int))) := rfl
set_option maxRecDepth 20000 in
theorem ip_wc_232 : lw_tbl[1463]? = some (Jvm.Cond.code yX12_countOf cX12_countOf 2 (some (FieldType.int))) := rfl
set_option maxRecDepth 20000 in
theorem ip_wc_233 : lw_tbl[1459]? = some (Jvm.Cond.code yX12_count cX12_count 2 (some (FieldType.int))) := rfl
set_option maxRecDepth 20000 in
theorem ip_wc_234 : lw_tbl[1472]? = some (Jvm.Cond.code yX12_mix cX12_mix 3 none) := rfl
set_option maxRecDepth 20000 in
theorem ip_wc_235 : lw_tbl[1467]? = some (Jvm.Cond.code yX12_digest cX12_digest 3 (some (FieldType.long))) := rfl
set_option maxRecDepth 20000 in
theorem ip_wc_236 : lw_tbl[744]? = some (Jvm.Cond.code yJ6_bitCount_0f7a4 cJ6_bitCount_0f7a4 1 (some (FieldType.int))) := rfl
set_option maxRecDepth 20000 in
theorem ip_wc_237 : lw_tbl[445]? = some (Jvm.Cond.code yJ0_length_8abf5 cJ0_length_8abf5 1 (some (FieldType.int))) := rfl
set_option maxRecDepth 20000 in
theorem ip_wc_238 : lw_tbl[456]? = some (Jvm.Cond.code yJ0_charAt_5068e cJ0_charAt_5068e 2 (some (FieldType.char))) := rfl
set_option maxRecDepth 20000 in
theorem ip_wc_239 : lw_tbl[449]? = some (Jvm.Cond.code yJ0_coder_7d493 cJ0_coder_7d493 1 (some (FieldType.byte))) := rfl
set_option maxRecDepth 20000 in
theorem ip_wc_240 : lw_tbl[460]? = some (Jvm.Cond.code yJ0_isLatin1_aae02 cJ0_isLatin1_aae02 1 (some (FieldType.boolean))) := rfl
set_option maxRecDepth 20000 in
theorem ip_wc_241 : lw_tbl[466]? = some (Jvm.Cond.code yJ0_checkIndex_df160 cJ0_checkIndex_df160 2 none) := rfl
set_option maxRecDepth 20000 in
theorem ip_wc_242 : lw_tbl[463]? = some (Jvm.Cond.code yJ1_charAt_3b067 cJ1_charAt_3b067 2 (some (FieldType.char))) := rfl
set_option maxRecDepth 20000 in
theorem ip_wc_243 : lw_tbl[373]? = some (Jvm.Cond.code yJ7_fill_53178 cJ7_fill_53178 4 none) := rfl
set_option maxRecDepth 20000 in
theorem ip_wc_244 : lw_tbl[471]? = some (Jvm.Cond.code yJ3_checkIndex_8e157 cJ3_checkIndex_8e157 3 (some (FieldType.int))) := rfl
def ip_js : List Nat := [1, 2, 3, 4, 5, 6, 7, 8, 9, 10, 11, 12, 13, 14, 15, 16, 17, 18, 19, 20, 21, 22, 23, 24, 25, 26, 27, 28, 29, 30, 31, 32, 33, 34, 35, 36, 37, 38, 39, 40, 41, 42, 43, 44, 45, 46, 47, 48, 49, 50, 51, 52, 53, 54, 55, 56, 57, 58, 59, 60, 61, 62, 63, 64, 65, 66, 67, 68, 69, 70, 71, 72, 73, 74, 75, 76, 77, 78, 79, 80, 81, 82, 83, 84, 85, 86, 87, 88, 89, 90, 91, 92, 93, 94, 95, 96, 97, 98, 99, 100, 101, 102, 103, 104, 105, 106, 107, 108, 109, 110, 111, 112, 113, 114, 115, 116, 117, 118, 119, 120, 121, 122, 123, 124, 125, 126, 127, 128, 129, 130, 131, 132, 133, 134, 135, 136, 137, 138, 139, 140, 141, 142, 143, 144, 145, 146, 147, 148, 149, 150, 151, 152, 153, 154, 155, 156, 157, 158, 159, 160, 161, 162, 163, 164, 165, 166, 167, 168, 169, 170, 171, 172, 173, 174, 175, 176, 177, 178, 179, 180, 181, 182, 183, 184, 185, 186, 187, 188, 189, 190, 191, 192, 193, 194, 195, 196, 197, 198, 199, 200, 201, 202, 203, 204, 205, 206, 207, 208, 209, 210, 211, 212, 213, 214, 215, 216, 217, 218, 219, 220, 221, 222, 223, 224, 225, 226, 227, 228, 229, 230, 231, 232, 233, 234, 235, 236, 237, 238, 239, 240, 241, 242, 243, 244]
theorem ip_js_mem : ∀ i, i < ip_mi.length → 0 < i → i ∈ ip_js := by decide +kernel
theorem ip_wcg_1 : ∀ i ∈ [1, 2, 3, 4, 5, 6, 7, 8, 9, 10, 11, 12, 13, 14, 15, 16], Jvm.Cond.code (ip_mB i).1 (ip_mB i).2.1 (ip_mB i).2.2.1 (ip_mB i).2.2.2 ∈ ip_good := List.forall_mem_cons.mpr ⟨ip_good_mem (List.mem_of_getElem? ip_wc_1) rfl, List.forall_mem_cons.mpr ⟨ip_good_mem (List.mem_of_getElem? ip_wc_2) rfl, List.forall_mem_cons.mpr ⟨ip_good_mem (List.mem_of_getElem? ip_wc_3) rfl, List.forall_mem_cons.mpr ⟨ip_good_mem (List.mem_of_getElem? ip_wc_4) rfl, List.forall_mem_cons.mpr ⟨ip_good_mem (List.mem_of_getElem? ip_wc_5) rfl, List.forall_mem_cons.mpr ⟨ip_good_mem (List.mem_of_getElem? ip_wc_6) rfl, List.forall_mem_cons.mpr ⟨ip_good_mem (List.mem_of_getElem? ip_wc_7) rfl, List.forall_mem_cons.mpr ⟨ip_good_mem (List.mem_of_getElem? ip_wc_8) rfl, List.forall_mem_cons.mpr ⟨ip_good_mem (List.mem_of_getElem? ip_wc_9) rfl, List.forall_mem_cons.mpr ⟨ip_good_mem (List.mem_of_getElem? ip_wc_10) rfl, List.forall_mem_cons.mpr ⟨ip_good_mem (List.mem_of_getElem? ip_wc_11) rfl, List.forall_mem_cons.mpr ⟨ip_good_mem (List.mem_of_getElem? ip_wc_12) rfl, List.forall_mem_cons.mpr ⟨ip_good_mem (List.mem_of_getElem? ip_wc_13) rfl, List.forall_mem_cons.mpr ⟨ip_good_mem (List.mem_of_getElem? ip_wc_14) rfl, List.forall_mem_cons.mpr ⟨ip_good_mem (List.mem_of_getElem? ip_wc_15) rfl, List.forall_mem_cons.mpr ⟨ip_good_mem (List.mem_of_getElem? ip_wc_16) rfl, fun _ h => absurd h List.not_mem_nil⟩⟩⟩⟩⟩⟩⟩⟩⟩⟩⟩⟩⟩⟩⟩⟩
theorem ip_wcg_17 : ∀ i ∈ [17, 18, 19, 20, 21, 22, 23, 24, 25, 26, 27, 28, 29, 30, 31, 32], Jvm.Cond.code (ip_mB i).1 (ip_mB i).2.1 (ip_mB i).2.2.1 (ip_mB i).2.2.2 ∈ ip_good := List.forall_mem_cons.mpr ⟨ip_good_mem (List.mem_of_getElem? ip_wc_17) rfl, List.forall_mem_cons.mpr ⟨ip_good_mem (List.mem_of_getElem? ip_wc_18) rfl, List.forall_mem_cons.mpr ⟨ip_good_mem (List.mem_of_getElem? ip_wc_19) rfl, List.forall_mem_cons.mpr ⟨ip_good_mem (List.mem_of_getElem? ip_wc_20) rfl, List.forall_mem_cons.mpr ⟨ip_good_mem (List.mem_of_getElem? ip_wc_21) rfl, List.forall_mem_cons.mpr ⟨ip_good_mem (List.mem_of_getElem? ip_wc_22) rfl, List.forall_mem_cons.mpr ⟨ip_good_mem (List.mem_of_getElem? ip_wc_23) rfl, List.forall_mem_cons.mpr ⟨ip_good_mem (List.mem_of_getElem? ip_wc_24) rfl, List.forall_mem_cons.mpr ⟨ip_good_mem (List.mem_of_getElem? ip_wc_25) rfl, List.forall_mem_cons.mpr ⟨ip_good_mem (List.mem_of_getElem? ip_wc_26) rfl, List.forall_mem_cons.mpr ⟨ip_good_mem (List.mem_of_getElem? ip_wc_27) rfl, List.forall_mem_cons.mpr ⟨ip_good_mem (List.mem_of_getElem? ip_wc_28) rfl, List.forall_mem_cons.mpr ⟨ip_good_mem (List.mem_of_getElem? ip_wc_29) rfl, List.forall_mem_cons.mpr ⟨ip_good_mem (List.mem_of_getElem? ip_wc_30) rfl, List.forall_mem_cons.mpr ⟨ip_good_mem (List.mem_of_getElem? ip_wc_31) rfl, List.forall_mem_cons.mpr ⟨ip_good_mem (List.mem_of_getElem? ip_wc_32) rfl, fun _ h => absurd h List.not_mem_nil⟩⟩⟩⟩⟩⟩⟩⟩⟩⟩⟩⟩⟩⟩⟩⟩
theorem ip_wcg_33 : ∀ i ∈ [33, 34, 35, 36, 37, 38, 39, 40, 41, 42, 43, 44, 45, 46, 47, 48], Jvm.Cond.code (ip_mB i).1 (ip_mB i).2.1 (ip_mB i).2.2.1 (ip_mB i).2.2.2 ∈ ip_good := List.forall_mem_cons.mpr ⟨ip_good_mem (List.mem_of_getElem? ip_wc_33) rfl, List.forall_mem_cons.mpr ⟨ip_good_mem (List.mem_of_getElem? ip_wc_34) rfl, List.forall_mem_cons.mpr ⟨ip_good_mem (List.mem_of_getElem? ip_wc_35) rfl, List.forall_mem_cons.mpr ⟨ip_good_mem (List.mem_of_getElem? ip_wc_36) rfl, List.forall_mem_cons.mpr ⟨ip_good_mem (List.mem_of_getElem? ip_wc_37) rfl, List.forall_mem_cons.mpr ⟨ip_good_mem (List.mem_of_getElem? ip_wc_38) rfl, List.forall_mem_cons.mpr ⟨ip_good_mem (List.mem_of_getElem? ip_wc_39) rfl, List.forall_mem_cons.mpr ⟨ip_good_mem (List.mem_of_getElem? ip_wc_40) rfl, List.forall_mem_cons.mpr ⟨ip_good_mem (List.mem_of_getElem? ip_wc_41) rfl, List.forall_mem_cons.mpr ⟨ip_good_mem (List.mem_of_getElem? ip_wc_42) rfl, List.forall_mem_cons.mpr ⟨ip_good_mem (List.mem_of_getElem? ip_wc_43) rfl, List.forall_mem_cons.mpr ⟨ip_good_mem (List.mem_of_getElem? ip_wc_44) rfl, List.forall_mem_cons.mpr ⟨ip_good_mem (List.mem_of_getElem? ip_wc_45) rfl, List.forall_mem_cons.mpr ⟨ip_good_mem (List.mem_of_getElem? ip_wc_46) rfl, List.forall_mem_cons.mpr ⟨ip_good_mem (List.mem_of_getElem? ip_wc_47) rfl, List.forall_mem_cons.mpr ⟨ip_good_mem (List.mem_of_getElem? ip_wc_48) rfl, fun _ h => absurd h List.not_mem_nil⟩⟩⟩⟩⟩⟩⟩⟩⟩⟩⟩⟩⟩⟩⟩⟩
theorem ip_wcg_49 : ∀ i ∈ [49, 50, 51, 52, 53, 54, 55, 56, 57, 58, 59, 60, 61, 62, 63, 64], Jvm.Cond.code (ip_mB i).1 (ip_mB i).2.1 (ip_mB i).2.2.1 (ip_mB i).2.2.2 ∈ ip_good := List.forall_mem_cons.mpr ⟨ip_good_mem (List.mem_of_getElem? ip_wc_49) rfl, List.forall_mem_cons.mpr ⟨ip_good_mem (List.mem_of_getElem? ip_wc_50) rfl, List.forall_mem_cons.mpr ⟨ip_good_mem (List.mem_of_getElem? ip_wc_51) rfl, List.forall_mem_cons.mpr ⟨ip_good_mem (List.mem_of_getElem? ip_wc_52) rfl, List.forall_mem_cons.mpr ⟨ip_good_mem (List.mem_of_getElem? ip_wc_53) rfl, List.forall_mem_cons.mpr ⟨ip_good_mem (List.mem_of_getElem? ip_wc_54) rfl, List.forall_mem_cons.mpr ⟨ip_good_mem (List.mem_of_getElem? ip_wc_55) rfl, List.forall_mem_cons.mpr ⟨ip_good_mem (List.mem_of_getElem? ip_wc_56) rfl, List.forall_mem_cons.mpr ⟨ip_good_mem (List.mem_of_getElem? ip_wc_57) rfl, List.forall_mem_cons.mpr ⟨ip_good_mem (List.mem_of_getElem? ip_wc_58) rfl, List.forall_mem_cons.mpr ⟨ip_good_mem (List.mem_of_getElem? ip_wc_59) rfl, List.forall_mem_cons.mpr ⟨ip_good_mem (List.mem_of_getElem? ip_wc_60) rfl, List.forall_mem_cons.mpr ⟨ip_good_mem (List.mem_of_getElem? ip_wc_61) rfl, List.forall_mem_cons.mpr ⟨ip_good_mem (List.mem_of_getElem? ip_wc_62) rfl, List.forall_mem_cons.mpr ⟨ip_good_mem (List.mem_of_getElem? ip_wc_63) rfl, List.forall_mem_cons.mpr ⟨ip_good_mem (List.mem_of_getElem? ip_wc_64) rfl, fun _ h => absurd h List.not_mem_nil⟩⟩⟩⟩⟩⟩⟩⟩⟩⟩⟩⟩⟩⟩⟩⟩
theorem ip_wcg_65 : ∀ i ∈ [65, 66, 67, 68, 69, 70, 71, 72, 73, 74, 75, 76, 77, 78, 79, 80], Jvm.Cond.code (ip_mB i).1 (ip_mB i).2.1 (ip_mB i).2.2.1 (ip_mB i).2.2.2 ∈ ip_good := List.forall_mem_cons.mpr ⟨ip_good_mem (List.mem_of_getElem? ip_wc_65) rfl, List.forall_mem_cons.mpr ⟨ip_good_mem (List.mem_of_getElem? ip_wc_66) rfl, List.forall_mem_cons.mpr ⟨ip_good_mem (List.mem_of_getElem? ip_wc_67) rfl, List.forall_mem_cons.mpr ⟨ip_good_mem (List.mem_of_getElem? ip_wc_68) rfl, List.forall_mem_cons.mpr ⟨ip_good_mem (List.mem_of_getElem? ip_wc_69) rfl, List.forall_mem_cons.mpr ⟨ip_good_mem (List.mem_of_getElem? ip_wc_70) rfl, List.forall_mem_cons.mpr ⟨ip_good_mem (List.mem_of_getElem? ip_wc_71) rfl, List.forall_mem_cons.mpr ⟨ip_good_mem (List.mem_of_getElem? ip_wc_72) rfl, List.forall_mem_cons.mpr ⟨ip_good_mem (List.mem_of_getElem? ip_wc_73) rfl, List.forall_mem_cons.mpr ⟨ip_good_mem (List.mem_of_getElem? ip_wc_74) rfl, List.forall_mem_cons.mpr ⟨ip_good_mem (List.mem_of_getElem? ip_wc_75) rfl, List.forall_mem_cons.mpr ⟨ip_good_mem (List.mem_of_getElem? ip_wc_76) rfl, List.forall_mem_cons.mpr ⟨ip_good_mem (List.mem_of_getElem? ip_wc_77) rfl, List.forall_mem_cons.mpr ⟨ip_good_mem (List.mem_of_getElem? ip_wc_78) rfl, List.forall_mem_cons.mpr ⟨ip_good_mem (List.mem_of_getElem? ip_wc_79) rfl, List.forall_mem_cons.mpr ⟨ip_good_mem (List.mem_of_getElem? ip_wc_80) rfl, fun _ h => absurd h List.not_mem_nil⟩⟩⟩⟩⟩⟩⟩⟩⟩⟩⟩⟩⟩⟩⟩⟩
theorem ip_wcg_81 : ∀ i ∈ [81, 82, 83, 84, 85, 86, 87, 88, 89, 90, 91, 92, 93, 94, 95, 96], Jvm.Cond.code (ip_mB i).1 (ip_mB i).2.1 (ip_mB i).2.2.1 (ip_mB i).2.2.2 ∈ ip_good := List.forall_mem_cons.mpr ⟨ip_good_mem (List.mem_of_getElem? ip_wc_81) rfl, List.forall_mem_cons.mpr ⟨ip_good_mem (List.mem_of_getElem? ip_wc_82) rfl, List.forall_mem_cons.mpr ⟨ip_good_mem (List.mem_of_getElem? ip_wc_83) rfl, List.forall_mem_cons.mpr ⟨ip_good_mem (List.mem_of_getElem? ip_wc_84) rfl, List.forall_mem_cons.mpr ⟨ip_good_mem (List.mem_of_getElem? ip_wc_85) rfl, List.forall_mem_cons.mpr ⟨ip_good_mem (List.mem_of_getElem? ip_wc_86) rfl, List.forall_mem_cons.mpr ⟨ip_good_mem (List.mem_of_getElem? ip_wc_87) rfl, List.forall_mem_cons.mpr ⟨ip_good_mem (List.mem_of_getElem? ip_wc_88) rfl, List.forall_mem_cons.mpr ⟨ip_good_mem (List.mem_of_getElem? ip_wc_89) rfl, List.forall_mem_cons.mpr ⟨ip_good_mem (List.mem_of_getElem? ip_wc_90) rfl, List.forall_mem_cons.mpr ⟨ip_good_mem (List.mem_of_getElem? ip_wc_91) rfl, List.forall_mem_cons.mpr ⟨ip_good_mem (List.mem_of_getElem? ip_wc_92) rfl, List.forall_mem_cons.mpr ⟨ip_good_mem (List.mem_of_getElem? ip_wc_93) rfl, List.forall_mem_cons.mpr ⟨ip_good_mem (List.mem_of_getElem? ip_wc_94) rfl, List.forall_mem_cons.mpr ⟨ip_good_mem (List.mem_of_getElem? ip_wc_95) rfl, List.forall_mem_cons.mpr ⟨ip_good_mem (List.mem_of_getElem? ip_wc_96) rfl, fun _ h => absurd h List.not_mem_nil⟩⟩⟩⟩⟩⟩⟩⟩⟩⟩⟩⟩⟩⟩⟩⟩
theorem ip_wcg_97 : ∀ i ∈ [97, 98, 99, 100, 101, 102, 103, 104, 105, 106, 107, 108, 109, 110, 111, 112], Jvm.Cond.code (ip_mB i).1 (ip_mB i).2.1 (ip_mB i).2.2.1 (ip_mB i).2.2.2 ∈ ip_good := List.forall_mem_cons.mpr ⟨ip_good_mem (List.mem_of_getElem? ip_wc_97) rfl, List.forall_mem_cons.mpr ⟨ip_good_mem (List.mem_of_getElem? ip_wc_98) rfl, List.forall_mem_cons.mpr ⟨ip_good_mem (List.mem_of_getElem? ip_wc_99) rfl, List.forall_mem_cons.mpr ⟨ip_good_mem (List.mem_of_getElem? ip_wc_100) rfl, List.forall_mem_cons.mpr ⟨ip_good_mem (List.mem_of_getElem? ip_wc_101) rfl, List.forall_mem_cons.mpr ⟨ip_good_mem (List.mem_of_getElem? ip_wc_102) rfl, List.forall_mem_cons.mpr ⟨ip_good_mem (List.mem_of_getElem? ip_wc_103) rfl, List.forall_mem_cons.mpr ⟨ip_good_mem (List.mem_of_getElem? ip_wc_104) rfl, List.forall_mem_cons.mpr ⟨ip_good_mem (List.mem_of_getElem? ip_wc_105) rfl, List.forall_mem_cons.mpr ⟨ip_good_mem (List.mem_of_getElem? ip_wc_106) rfl, List.forall_mem_cons.mpr ⟨ip_good_mem (List.mem_of_getElem? ip_wc_107) rfl, List.forall_mem_cons.mpr ⟨ip_good_mem (List.mem_of_getElem? ip_wc_108) rfl, List.forall_mem_cons.mpr ⟨ip_good_mem (List.mem_of_getElem? ip_wc_109) rfl, List.forall_mem_cons.mpr ⟨ip_good_mem (List.mem_of_getElem? ip_wc_110) rfl, List.forall_mem_cons.mpr ⟨ip_good_mem (List.mem_of_getElem? ip_wc_111) rfl, List.forall_mem_cons.mpr ⟨ip_good_mem (List.mem_of_getElem? ip_wc_112) rfl, fun _ h => absurd h List.not_mem_nil⟩⟩⟩⟩⟩⟩⟩⟩⟩⟩⟩⟩⟩⟩⟩⟩
theorem ip_wcg_113 : ∀ i ∈ [113, 114, 115, 116, 117, 118, 119, 120, 121, 122, 123, 124, 125, 126, 127, 128], Jvm.Cond.code (ip_mB i).1 (ip_mB i).2.1 (ip_mB i).2.2.1 (ip_mB i).2.2.2 ∈ ip_good := List.forall_mem_cons.mpr ⟨ip_good_mem (List.mem_of_getElem? ip_wc_113) rfl, List.forall_mem_cons.mpr ⟨ip_good_mem (List.mem_of_getElem? ip_wc_114) rfl, List.forall_mem_cons.mpr ⟨ip_good_mem (List.mem_of_getElem? ip_wc_115) rfl, List.forall_mem_cons.mpr ⟨ip_good_mem (List.mem_of_getElem? ip_wc_116) rfl, List.forall_mem_cons.mpr ⟨ip_good_mem (List.mem_of_getElem? ip_wc_117) rfl, List.forall_mem_cons.mpr ⟨ip_good_mem (List.mem_of_getElem? ip_wc_118) rfl, List.forall_mem_cons.mpr ⟨ip_good_mem (List.mem_of_getElem? ip_wc_119) rfl, List.forall_mem_cons.mpr ⟨ip_good_mem (List.mem_of_getElem? ip_wc_120) rfl, List.forall_mem_cons.mpr ⟨ip_good_mem (List.mem_of_getElem? ip_wc_121) rfl, List.forall_mem_cons.mpr ⟨ip_good_mem (List.mem_of_getElem? ip_wc_122) rfl, List.forall_mem_cons.mpr ⟨ip_good_mem (List.mem_of_getElem? ip_wc_123) rfl, List.forall_mem_cons.mpr ⟨ip_good_mem (List.mem_of_getElem? ip_wc_124) rfl, List.forall_mem_cons.mpr ⟨ip_good_mem (List.mem_of_getElem? ip_wc_125) rfl, List.forall_mem_cons.mpr ⟨ip_good_mem (List.mem_of_getElem? ip_wc_126) rfl, List.forall_mem_cons.mpr ⟨ip_good_mem (List.mem_of_getElem? ip_wc_127) rfl, List.forall_mem_cons.mpr ⟨ip_good_mem (List.mem_of_getElem? ip_wc_128) rfl, fun _ h => absurd h List.not_mem_nil⟩⟩⟩⟩⟩⟩⟩⟩⟩⟩⟩⟩⟩⟩⟩⟩
theorem ip_wcg_129 : ∀ i ∈ [129, 130, 131, 132, 133, 134, 135, 136, 137, 138, 139, 140, 141, 142, 143, 144], Jvm.Cond.code (ip_mB i).1 (ip_mB i).2.1 (ip_mB i).2.2.1 (ip_mB i).2.2.2 ∈ ip_good := List.forall_mem_cons.mpr ⟨ip_good_mem (List.mem_of_getElem? ip_wc_129) rfl, List.forall_mem_cons.mpr ⟨ip_good_mem (List.mem_of_getElem? ip_wc_130) rfl, List.forall_mem_cons.mpr ⟨ip_good_mem (List.mem_of_getElem? ip_wc_131) rfl, List.forall_mem_cons.mpr ⟨ip_good_mem (List.mem_of_getElem? ip_wc_132) rfl, List.forall_mem_cons.mpr ⟨ip_good_mem (List.mem_of_getElem? ip_wc_133) rfl, List.forall_mem_cons.mpr ⟨ip_good_mem (List.mem_of_getElem? ip_wc_134) rfl, List.forall_mem_cons.mpr ⟨ip_good_mem (List.mem_of_getElem? ip_wc_135) rfl, List.forall_mem_cons.mpr ⟨ip_good_mem (List.mem_of_getElem? ip_wc_136) rfl, List.forall_mem_cons.mpr ⟨ip_good_mem (List.mem_of_getElem? ip_wc_137) rfl, List.forall_mem_cons.mpr ⟨ip_good_mem (List.mem_of_getElem? ip_wc_138) rfl, List.forall_mem_cons.mpr ⟨ip_good_mem (List.mem_of_getElem? ip_wc_139) rfl, List.forall_mem_cons.mpr ⟨ip_good_mem (List.mem_of_getElem? ip_wc_140) rfl, List.forall_mem_cons.mpr ⟨ip_good_mem (List.mem_of_getElem? ip_wc_141) rfl, List.forall_mem_cons.mpr ⟨ip_good_mem (List.mem_of_getElem? ip_wc_142) rfl, List.forall_mem_cons.mpr ⟨ip_good_mem (List.mem_of_getElem? ip_wc_143) rfl, List.forall_mem_cons.mpr ⟨ip_good_mem (List.mem_of_getElem? ip_wc_144) rfl, fun _ h => absurd h List.not_mem_nil⟩⟩⟩⟩⟩⟩⟩⟩⟩⟩⟩⟩⟩⟩⟩⟩
theorem ip_wcg_145 : ∀ i ∈ [145, 146, 147, 148, 149, 150, 151, 152, 153, 154, 155, 156, 157, 158, 159, 160], Jvm.Cond.code (ip_mB i).1 (ip_mB i).2.1 (ip_mB i).2.2.1 (ip_mB i).2.2.2 ∈ ip_good := List.forall_mem_cons.mpr ⟨ip_good_mem (List.mem_of_getElem? ip_wc_145) rfl, List.forall_mem_cons.mpr ⟨ip_good_mem (List.mem_of_getElem? ip_wc_146) rfl, List.forall_mem_cons.mpr ⟨ip_good_mem (List.mem_of_getElem? ip_wc_147) rfl, List.forall_mem_cons.mpr ⟨ip_good_mem (List.mem_of_getElem? ip_wc_148) rfl, List.forall_mem_cons.mpr ⟨ip_good_mem (List.mem_of_getElem? ip_wc_149) rfl, List.forall_mem_cons.mpr ⟨ip_good_mem (List.mem_of_getElem? ip_wc_150) rfl, List.forall_mem_cons.mpr ⟨ip_good_mem (List.mem_of_getElem? ip_wc_151) rfl, List.forall_mem_cons.mpr ⟨ip_good_mem (List.mem_of_getElem? ip_wc_152) rfl, List.forall_mem_cons.mpr ⟨ip_good_mem (List.mem_of_getElem? ip_wc_153) rfl, List.forall_mem_cons.mpr ⟨ip_good_mem (List.mem_of_getElem? ip_wc_154) rfl, List.forall_mem_cons.mpr ⟨ip_good_mem (List.mem_of_getElem? ip_wc_155) rfl, List.forall_mem_cons.mpr ⟨ip_good_mem (List.mem_of_getElem? ip_wc_156) rfl, List.forall_mem_cons.mpr ⟨ip_good_mem (List.mem_of_getElem? ip_wc_157) rfl, List.forall_mem_cons.mpr ⟨ip_good_mem (List.mem_of_getElem? ip_wc_158) rfl, List.forall_mem_cons.mpr ⟨ip_good_mem (List.mem_of_getElem? ip_wc_159) rfl, List.forall_mem_cons.mpr ⟨ip_good_mem (List.mem_of_getElem? ip_wc_160) rfl, fun _ h => absurd h List.not_mem_nil⟩⟩⟩⟩⟩⟩⟩⟩⟩⟩⟩⟩⟩⟩⟩⟩
theorem ip_wcg_161 : ∀ i ∈ [161, 162, 163, 164, 165, 166, 167, 168, 169, 170, 171, 172, 173, 174, 175, 176], Jvm.Cond.code (ip_mB i).1 (ip_mB i).2.1 (ip_mB i).2.2.1 (ip_mB i).2.2.2 ∈ ip_good := List.forall_mem_cons.mpr ⟨ip_good_mem (List.mem_of_getElem? ip_wc_161) rfl, List.forall_mem_cons.mpr ⟨ip_good_mem (List.mem_of_getElem? ip_wc_162) rfl, List.forall_mem_cons.mpr ⟨ip_good_mem (List.mem_of_getElem? ip_wc_163) rfl, List.forall_mem_cons.mpr ⟨ip_good_mem (List.mem_of_getElem? ip_wc_164) rfl, List.forall_mem_cons.mpr ⟨ip_good_mem (List.mem_of_getElem? ip_wc_165) rfl, List.forall_mem_cons.mpr ⟨ip_good_mem (List.mem_of_getElem? ip_wc_166) rfl, List.forall_mem_cons.mpr ⟨ip_good_mem (List.mem_of_getElem? ip_wc_167) rfl, List.forall_mem_cons.mpr ⟨ip_good_mem (List.mem_of_getElem? ip_wc_168) rfl, List.forall_mem_cons.mpr ⟨ip_good_mem (List.mem_of_getElem? ip_wc_169) rfl, List.forall_mem_cons.mpr ⟨ip_good_mem (List.mem_of_getElem? ip_wc_170) rfl, List.forall_mem_cons.mpr ⟨ip_good_mem (List.mem_of_getElem? ip_wc_171) rfl, List.forall_mem_cons.mpr ⟨ip_good_mem (List.mem_of_getElem? ip_wc_172) rfl, List.forall_mem_cons.mpr ⟨ip_good_mem (List.mem_of_getElem? ip_wc_173) rfl, List.forall_mem_cons.mpr ⟨ip_good_mem (List.mem_of_getElem? ip_wc_174) rfl, List.forall_mem_cons.mpr ⟨ip_good_mem (List.mem_of_getElem? ip_wc_175) rfl, List.forall_mem_cons.mpr ⟨ip_good_mem (List.mem_of_getElem? ip_wc_176) rfl, fun _ h => absurd h List.not_mem_nil⟩⟩⟩⟩⟩⟩⟩⟩⟩⟩⟩⟩⟩⟩⟩⟩
theorem ip_wcg_177 : ∀ i ∈ [177, 178, 179, 180, 181, 182, 183, 184, 185, 186, 187, 188, 189, 190, 191, 192], Jvm.Cond.code (ip_mB i).1 (ip_mB i).2.1 (ip_mB i).2.2.1 (ip_mB i).2.2.2 ∈ ip_good := List.forall_mem_cons.mpr ⟨ip_good_mem (List.mem_of_getElem? ip_wc_177) rfl, List.forall_mem_cons.mpr ⟨ip_good_mem (List.mem_of_getElem? ip_wc_178) rfl, List.forall_mem_cons.mpr ⟨ip_good_mem (List.mem_of_getElem? ip_wc_179) rfl, List.forall_mem_cons.mpr ⟨ip_good_mem (List.mem_of_getElem? ip_wc_180) rfl, List.forall_mem_cons.mpr ⟨ip_good_mem (List.mem_of_getElem? ip_wc_181) rfl, List.forall_mem_cons.mpr ⟨ip_good_mem (List.mem_of_getElem? ip_wc_182) rfl, List.forall_mem_cons.mpr ⟨ip_good_mem (List.mem_of_getElem? ip_wc_183) rfl, List.forall_mem_cons.mpr ⟨ip_good_mem (List.mem_of_getElem? ip_wc_184) rfl, List.forall_mem_cons.mpr ⟨ip_good_mem (List.mem_of_getElem? ip_wc_185) rfl, List.forall_mem_cons.mpr ⟨ip_good_mem (List.mem_of_getElem? ip_wc_186) rfl, List.forall_mem_cons.mpr ⟨ip_good_mem (List.mem_of_getElem? ip_wc_187) rfl, List.forall_mem_cons.mpr ⟨ip_good_mem (List.mem_of_getElem? ip_wc_188) rfl, List.forall_mem_cons.mpr ⟨ip_good_mem (List.mem_of_getElem? ip_wc_189) rfl, List.forall_mem_cons.mpr ⟨ip_good_mem (List.mem_of_getElem? ip_wc_190) rfl, List.forall_mem_cons.mpr ⟨ip_good_mem (List.mem_of_getElem? ip_wc_191) rfl, List.forall_mem_cons.mpr ⟨ip_good_mem (List.mem_of_getElem? ip_wc_192) rfl, fun _ h => absurd h List.not_mem_nil⟩⟩⟩⟩⟩⟩⟩⟩⟩⟩⟩⟩⟩⟩⟩⟩
theorem ip_wcg_193 : ∀ i ∈ [193, 194, 195, 196, 197, 198, 199, 200, 201, 202, 203, 204, 205, 206, 207, 208], Jvm.Cond.code (ip_mB i).1 (ip_mB i).2.1 (ip_mB i).2.2.1 (ip_mB i).2.2.2 ∈ ip_good := List.forall_mem_cons.mpr ⟨ip_good_mem (List.mem_of_getElem? ip_wc_193) rfl, List.forall_mem_cons.mpr ⟨ip_good_mem (List.mem_of_getElem? ip_wc_194) rfl, List.forall_mem_cons.mpr ⟨ip_good_mem (List.mem_of_getElem? ip_wc_195) rfl, List.forall_mem_cons.mpr ⟨ip_good_mem (List.mem_of_getElem? ip_wc_196) rfl, List.forall_mem_cons.mpr ⟨ip_good_mem (List.mem_of_getElem? ip_wc_197) rfl, List.forall_mem_cons.mpr ⟨ip_good_mem (List.mem_of_getElem? ip_wc_198) rfl, List.forall_mem_cons.mpr ⟨ip_good_mem (List.mem_of_getElem? ip_wc_199) rfl, List.forall_mem_cons.mpr ⟨ip_good_mem (List.mem_of_getElem? ip_wc_200) rfl, List.forall_mem_cons.mpr ⟨ip_good_mem (List.mem_of_getElem? ip_wc_201) rfl, List.forall_mem_cons.mpr ⟨ip_good_mem (List.mem_of_getElem? ip_wc_202) rfl, List.forall_mem_cons.mpr ⟨ip_good_mem (List.mem_of_getElem? ip_wc_203) rfl, List.forall_mem_cons.mpr ⟨ip_good_mem (List.mem_of_getElem? ip_wc_204) rfl, List.forall_mem_cons.mpr ⟨ip_good_mem (List.mem_of_getElem? ip_wc_205) rfl, List.forall_mem_cons.mpr ⟨ip_good_mem (List.mem_of_getElem? ip_wc_206) rfl, List.forall_mem_cons.mpr ⟨ip_good_mem (List.mem_of_getElem? ip_wc_207) rfl, List.forall_mem_cons.mpr ⟨ip_good_mem (List.mem_of_getElem? ip_wc_208) rfl, fun _ h => absurd h List.not_mem_nil⟩⟩⟩⟩⟩⟩⟩⟩⟩⟩⟩⟩⟩⟩⟩⟩
theorem ip_wcg_209 : ∀ i ∈ [209, 210, 211, 212, 213, 214, 215, 216, 217, 218, 219, 220, 221, 222, 223, 224], Jvm.Cond.code (ip_mB i).1 (ip_mB i).2.1 (ip_mB i).2.2.1 (ip_mB i).2.2.2 ∈ ip_good := List.forall_mem_cons.mpr ⟨ip_good_mem (List.mem_of_getElem? ip_wc_209) rfl, List.forall_mem_cons.mpr ⟨ip_good_mem (List.mem_of_getElem? ip_wc_210) rfl, List.forall_mem_cons.mpr ⟨ip_good_mem (List.mem_of_getElem? ip_wc_211) rfl, List.forall_mem_cons.mpr ⟨ip_good_mem (List.mem_of_getElem? ip_wc_212) rfl, List.forall_mem_cons.mpr ⟨ip_good_mem (List.mem_of_getElem? ip_wc_213) rfl, List.forall_mem_cons.mpr ⟨ip_good_mem (List.mem_of_getElem? ip_wc_214) rfl, List.forall_mem_cons.mpr ⟨ip_good_mem (List.mem_of_getElem? ip_wc_215) rfl, List.forall_mem_cons.mpr ⟨ip_good_mem (List.mem_of_getElem? ip_wc_216) rfl, List.forall_mem_cons.mpr ⟨ip_good_mem (List.mem_of_getElem? ip_wc_217) rfl, List.forall_mem_cons.mpr ⟨ip_good_mem (List.mem_of_getElem? ip_wc_218) rfl, List.forall_mem_cons.mpr ⟨ip_good_mem (List.mem_of_getElem? ip_wc_219) rfl, List.forall_mem_cons.mpr ⟨ip_good_mem (List.mem_of_getElem? ip_wc_220) rfl, List.forall_mem_cons.mpr ⟨ip_good_mem (List.mem_of_getElem? ip_wc_221) rfl, List.forall_mem_cons.mpr ⟨ip_good_mem (List.mem_of_getElem? ip_wc_222) rfl, List.forall_mem_cons.mpr ⟨ip_good_mem (List.mem_of_getElem? ip_wc_223) rfl, List.forall_mem_cons.mpr ⟨ip_good_mem (List.mem_of_getElem? ip_wc_224) rfl, fun _ h => absurd h List.not_mem_nil⟩⟩⟩⟩⟩⟩⟩⟩⟩⟩⟩⟩⟩⟩⟩⟩
theorem ip_wcg_225 : ∀ i ∈ [225, 226, 227, 228, 229, 230, 231, 232, 233, 234, 235, 236, 237, 238, 239, 240], Jvm.Cond.code (ip_mB i).1 (ip_mB i).2.1 (ip_mB i).2.2.1 (ip_mB i).2.2.2 ∈ ip_good := List.forall_mem_cons.mpr ⟨ip_good_mem (List.mem_of_getElem? ip_wc_225) rfl, List.forall_mem_cons.mpr ⟨ip_good_mem (List.mem_of_getElem? ip_wc_226) rfl, List.forall_mem_cons.mpr ⟨ip_good_mem (List.mem_of_getElem? ip_wc_227) rfl, List.forall_mem_cons.mpr ⟨ip_good_mem (List.mem_of_getElem? ip_wc_228) rfl, List.forall_mem_cons.mpr ⟨ip_good_mem (List.mem_of_getElem? ip_wc_229) rfl, List.forall_mem_cons.mpr ⟨ip_good_mem (List.mem_of_getElem? ip_wc_230) rfl, List.forall_mem_cons.mpr ⟨ip_good_mem (List.mem_of_getElem? ip_wc_231) rfl, List.forall_mem_cons.mpr ⟨ip_good_mem (List.mem_of_getElem? ip_wc_232) rfl, List.forall_mem_cons.mpr ⟨ip_good_mem (List.mem_of_getElem? ip_wc_233) rfl, List.forall_mem_cons.mpr ⟨ip_good_mem (List.mem_of_getElem? ip_wc_234) rfl, List.forall_mem_cons.mpr ⟨ip_good_mem (List.mem_of_getElem? ip_wc_235) rfl, List.forall_mem_cons.mpr ⟨ip_good_mem (List.mem_of_getElem? ip_wc_236) rfl, List.forall_mem_cons.mpr ⟨ip_good_mem (List.mem_of_getElem? ip_wc_237) rfl, List.forall_mem_cons.mpr ⟨ip_good_mem (List.mem_of_getElem? ip_wc_238) rfl, List.forall_mem_cons.mpr ⟨ip_good_mem (List.mem_of_getElem? ip_wc_239) rfl, List.forall_mem_cons.mpr ⟨ip_good_mem (List.mem_of_getElem? ip_wc_240) rfl, fun _ h => absurd h List.not_mem_nil⟩⟩⟩⟩⟩⟩⟩⟩⟩⟩⟩⟩⟩⟩⟩⟩
theorem ip_wcg_241 : ∀ i ∈ [241, 242, 243, 244], Jvm.Cond.code (ip_mB i).1 (ip_mB i).2.1 (ip_mB i).2.2.1 (ip_mB i).2.2.2 ∈ ip_good := List.forall_mem_cons.mpr ⟨ip_good_mem (List.mem_of_getElem? ip_wc_241) rfl, List.forall_mem_cons.mpr ⟨ip_good_mem (List.mem_of_getElem? ip_wc_242) rfl, List.forall_mem_cons.mpr ⟨ip_good_mem (List.mem_of_getElem? ip_wc_243) rfl, List.forall_mem_cons.mpr ⟨ip_good_mem (List.mem_of_getElem? ip_wc_244) rfl, fun _ h => absurd h List.not_mem_nil⟩⟩⟩⟩
set_option maxRecDepth 100000 in
theorem ip_js_eq : ip_js = ([1, 2, 3, 4, 5, 6, 7, 8, 9, 10, 11, 12, 13, 14, 15, 16] : List Nat) ++ ([17, 18, 19, 20, 21, 22, 23, 24, 25, 26, 27, 28, 29, 30, 31, 32] : List Nat) ++ ([33, 34, 35, 36, 37, 38, 39, 40, 41, 42, 43, 44, 45, 46, 47, 48] : List Nat) ++ ([49, 50, 51, 52, 53, 54, 55, 56, 57, 58, 59, 60, 61, 62, 63, 64] : List Nat) ++ ([65, 66, 67, 68, 69, 70, 71, 72, 73, 74, 75, 76, 77, 78, 79, 80] : List Nat) ++ ([81, 82, 83, 84, 85, 86, 87, 88, 89, 90, 91, 92, 93, 94, 95, 96] : List Nat) ++ ([97, 98, 99, 100, 101, 102, 103, 104, 105, 106, 107, 108, 109, 110, 111, 112] : List Nat) ++ ([113, 114, 115, 116, 117, 118, 119, 120, 121, 122, 123, 124, 125, 126, 127, 128] : List Nat) ++ ([129, 130, 131, 132, 133, 134, 135, 136, 137, 138, 139, 140, 141, 142, 143, 144] : List Nat) ++ ([145, 146, 147, 148, 149, 150, 151, 152, 153, 154, 155, 156, 157, 158, 159, 160] : List Nat) ++ ([161, 162, 163, 164, 165, 166, 167, 168, 169, 170, 171, 172, 173, 174, 175, 176] : List Nat) ++ ([177, 178, 179, 180, 181, 182, 183, 184, 185, 186, 187, 188, 189, 190, 191, 192] : List Nat) ++ ([193, 194, 195, 196, 197, 198, 199, 200, 201, 202, 203, 204, 205, 206, 207, 208] : List Nat) ++ ([209, 210, 211, 212, 213, 214, 215, 216, 217, 218, 219, 220, 221, 222, 223, 224] : List Nat) ++ ([225, 226, 227, 228, 229, 230, 231, 232, 233, 234, 235, 236, 237, 238, 239, 240] : List Nat) ++ ([241, 242, 243, 244] : List Nat) := rfl
theorem ip_w_code : ∀ i, i < ip_mi.length → 0 < i → Jvm.Cond.code (ip_mB i).1 (ip_mB i).2.1 (ip_mB i).2.2.1 (ip_mB i).2.2.2 ∈ ip_good := by
  intro i h1 h2
  have h := ip_js_mem i h1 h2
  rw [ip_js_eq] at h
  rw [List.mem_append, List.mem_append, List.mem_append, List.mem_append, List.mem_append, List.mem_append, List.mem_append, List.mem_append, List.mem_append, List.mem_append, List.mem_append, List.mem_append, List.mem_append, List.mem_append, List.mem_append] at h
  rcases h with (((((((((((((((h | h) | h) | h) | h) | h) | h) | h) | h) | h) | h) | h) | h) | h) | h) | h)
  · exact ip_wcg_1 i h
  · exact ip_wcg_17 i h
  · exact ip_wcg_33 i h
  · exact ip_wcg_49 i h
  · exact ip_wcg_65 i h
  · exact ip_wcg_81 i h
  · exact ip_wcg_97 i h
  · exact ip_wcg_113 i h
  · exact ip_wcg_129 i h
  · exact ip_wcg_145 i h
  · exact ip_wcg_161 i h
  · exact ip_wcg_177 i h
  · exact ip_wcg_193 i h
  · exact ip_wcg_209 i h
  · exact ip_wcg_225 i h
  · exact ip_wcg_241 i h
theorem ip_w_name1 : ∀ i, i < ip_mi.length → 0 < i → (ip_mB i).1.cls = ip_own i := by decide +kernel
theorem ip_w_name2 : ∀ i, i < ip_ocN.length → plainName (ip_ocN.getD i "") = true ∧ ip_ocN.getD i "" ≠ "java/lang/invoke/MethodHandle" ∧ ip_ocN.getD i "" ≠ "java/lang/invoke/VarHandle" := by decide
theorem ip_w_name3 : ∀ i, i < ip_mi.length → (ip_mI i).1 < ip_ocN.length := by decide +kernel

/-- an instruction's length, where a row of the kit wants one -/
def ip_ln : Instr → Nat
  | .bipush _ => 2
  | .sipush _ => 3
  | .ldc _ => 2
  | .ldc_w _ => 3
  | .ldc2_w _ => 3
  | .iload _ => 2
  | .lload _ => 2
  | .istore _ => 2
  | .lstore _ => 2
  | .iinc _ _ => 3
  | .goto _ => 3
  | .if_icmp _ _ => 3
  | .ifCond _ _ => 3
  | .getfield _ => 3
  | .putfield _ => 3
  | .getstatic _ => 3
  | .invokevirtual _ => 3
  | .invokestatic _ => 3
  | .invokespecial _ => 3
  | .new _ => 3
  | .newarray _ => 2
  | .multianewarray _ _ => 4
  | _ => 1
def ip_isw : Instr → Bool
  | .tableswitch _ _ _ _ => true
  | _ => false
def ip_lk (j pc aux : Nat) : Instr → Bool
  | .getfield idx => if aux < 100000 then ip_FL.any (fun e => decide (e.1 = (ip_mI j).1 ∧ e.2.1 = idx ∧ e.2.2.1 = aux)) else decide (ip_own j = "java/lang/String" ∧ ((aux = 100000 ∧ idx = 9) ∨ (aux = 100001 ∧ idx = 15)))
  | .putfield idx => ip_FL.any (fun e => decide (e.1 = (ip_mI j).1 ∧ e.2.1 = idx ∧ e.2.2.1 = aux) && (match vwCl[aux / 64]? with
      | some r => !(r.2.1 (aux % 64)).2.2.2 || (decide ((ip_mB j).1.name = "<init>" ∧ ip_own j = r.1) && !e.2.2.2.2)
      | none => false))
  | .getstatic idx => decide (ip_own j = "java/lang/String" ∧ ((aux = 0 ∧ idx = 38) ∨ (aux = 1 ∧ idx = 1053)))
  | .invokevirtual idx => ip_ML.any (fun e => decide (e.1 = (ip_mI j).1 ∧ e.2.1 = idx ∧ e.2.2.1 = aux ∧ e.2.2.2.1 = 0))
  | .invokestatic idx => if aux = 9998 then ip_AL.any (fun e => decide (e.1 = (ip_mI j).1 ∧ e.2.1 = idx)) else if aux = 9997 ∨ aux = 9996 then ip_XL.any (fun e => decide (e.1 = (ip_mI j).1 ∧ e.2.1 = idx ∧ e.2.2.1 = aux)) else ip_ML.any (fun e => decide (e.1 = (ip_mI j).1 ∧ e.2.1 = idx ∧ e.2.2.1 = aux ∧ e.2.2.2.1 = 1))
  | .invokespecial idx => if aux = 9999 then ip_OL.any (fun e => decide (e.1 = (ip_mI j).1 ∧ e.2.1 = idx)) else ip_ML.any (fun e => decide (e.1 = (ip_mI j).1 ∧ e.2.1 = idx ∧ e.2.2.1 = aux ∧ e.2.2.2.1 = 2))
  | .new idx => ip_NL.any (fun e => decide (e.1 = (ip_mI j).1 ∧ e.2.1 = idx ∧ e.2.2.1 = aux))
  | .multianewarray idx _ => ip_MN.any (fun e => decide (e.1 = (ip_mI j).1 ∧ e.2.1 = idx))
  | .goto off => decide ((pc : Int) + off = (aux : Int))
  | .if_icmp _ off => decide ((pc : Int) + off = (aux : Int))
  | .ifCond _ off => decide ((pc : Int) + off = (aux : Int))
  | .ldc idx => if 1000 ≤ aux then ip_own j == "HandedSlips$Reader" && decide (idx = 125 + 2 * (aux - 1000)) else decide ((ip_KI[aux]?).map (fun e => (e.1, e.2.1)) = some ((ip_mI j).1, idx))
  | .ldc_w idx => decide ((ip_KI[aux]?).map (fun e => (e.1, e.2.1)) = some ((ip_mI j).1, idx))
  | .ldc2_w idx => decide ((ip_KL[aux]?).map (fun e => (e.1, e.2.1)) = some ((ip_mI j).1, idx))
  | .istore i => decide (i < (ip_mB j).2.2.1)
  | .istore_n i => decide (i.val < (ip_mB j).2.2.1)
  | .astore_n i => decide (i.val < (ip_mB j).2.2.1)
  | .iinc i _ => decide (i < (ip_mB j).2.2.1)
  | .lstore i => decide (i + 1 < (ip_mB j).2.2.1)
  | .lstore_n i => decide (i.val + 1 < (ip_mB j).2.2.1)
  | _ => true
def ip_chk (j : Nat) (e : Nat × Instr × Nat × Nat) : Bool := decide (decode (ip_mB j).2.1 e.1 = .ok (e.2.1, e.2.2.1)) && (ip_isw e.2.1 || decide (e.2.2.1 = ip_ln e.2.1)) && ip_lk j e.1 e.2.2.2 e.2.1

