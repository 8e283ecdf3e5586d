theorem tb_1 : ∀ w ∈ tables_1_1, w ∈ tables_1 := fun w h => List.mem_append_left _ h
theorem tb_2 : ∀ w ∈ tables_1_2, w ∈ tables_1 := fun w h => List.mem_append_right _ (List.mem_append_left _ h)
theorem tb_3 : ∀ w ∈ tables_1_3, w ∈ tables_1 := fun w h => List.mem_append_right _ (List.mem_append_right _ (List.mem_append_left _ h))
theorem tb_4 : ∀ w ∈ tables_1_4, w ∈ tables_1 := fun w h => List.mem_append_right _ (List.mem_append_right _ (List.mem_append_right _ (List.mem_append_left _ h)))
theorem tb_5 : ∀ w ∈ tables_1_5, w ∈ tables_1 := fun w h => List.mem_append_right _ (List.mem_append_right _ (List.mem_append_right _ (List.mem_append_right _ (List.mem_append_left _ h))))
theorem tb_6 : ∀ w ∈ tables_1_6, w ∈ tables_1 := fun w h => List.mem_append_right _ (List.mem_append_right _ (List.mem_append_right _ (List.mem_append_right _ (List.mem_append_right _ (List.mem_append_left _ h)))))
theorem tb_7 : ∀ w ∈ tables_1_7, w ∈ tables_1 := fun w h => List.mem_append_right _ (List.mem_append_right _ (List.mem_append_right _ (List.mem_append_right _ (List.mem_append_right _ (List.mem_append_right _ (List.mem_append_left _ h))))))
theorem tb_8 : ∀ w ∈ tables_1_8, w ∈ tables_1 := fun w h => List.mem_append_right _ (List.mem_append_right _ (List.mem_append_right _ (List.mem_append_right _ (List.mem_append_right _ (List.mem_append_right _ (List.mem_append_right _ (List.mem_append_left _ h)))))))
theorem tb_9 : ∀ w ∈ tables_1_9, w ∈ tables_1 := fun w h => List.mem_append_right _ (List.mem_append_right _ (List.mem_append_right _ (List.mem_append_right _ (List.mem_append_right _ (List.mem_append_right _ (List.mem_append_right _ (List.mem_append_right _ (List.mem_append_left _ h))))))))
theorem tb_10 : ∀ w ∈ tables_1_10, w ∈ tables_1 := fun w h => List.mem_append_right _ (List.mem_append_right _ (List.mem_append_right _ (List.mem_append_right _ (List.mem_append_right _ (List.mem_append_right _ (List.mem_append_right _ (List.mem_append_right _ (List.mem_append_right _ (h)))))))))
set_option maxRecDepth 100000 in
theorem wd_0 : (Jvm.Cond.initialized "FlowApplyLaw") ∈ fa_wG := fa_it (tb_1 _ (List.mem_of_getElem? (i := 0) rfl)) rfl
set_option maxRecDepth 100000 in
theorem wd_1 : (Jvm.Cond.initialized "FlowApply") ∈ fa_wG := fa_it (tb_1 _ (List.mem_of_getElem? (i := 1) rfl)) rfl
set_option maxRecDepth 100000 in
theorem wd_2 : (Jvm.Cond.initialized "FlowApply$Row") ∈ fa_wG := fa_it (tb_1 _ (List.mem_of_getElem? (i := 2) rfl)) rfl
set_option maxRecDepth 100000 in
theorem wd_3 : (Jvm.Cond.initialized "java/lang/Math") ∈ fa_wG := fa_it (tb_1 _ (List.mem_of_getElem? (i := 3) rfl)) rfl
set_option maxRecDepth 100000 in
theorem wd_4 : (Jvm.Cond.initialized "FlowApply$Reader") ∈ fa_wG := fa_it (tb_1 _ (List.mem_of_getElem? (i := 4) rfl)) rfl
set_option maxRecDepth 100000 in
theorem wd_5 : (Jvm.Cond.initialized "FlowApply$Program") ∈ fa_wG := fa_it (tb_1 _ (List.mem_of_getElem? (i := 5) rfl)) rfl
set_option maxRecDepth 100000 in
theorem wd_6 : (Jvm.Cond.initialized "FlowApply$Writer") ∈ fa_wG := fa_it (tb_1 _ (List.mem_of_getElem? (i := 6) rfl)) rfl
set_option maxRecDepth 100000 in
theorem wd_7 : (Jvm.Cond.initialized "FlowApply$Machine") ∈ fa_wG := fa_it (tb_1 _ (List.mem_of_getElem? (i := 7) rfl)) rfl
set_option maxRecDepth 100000 in
theorem wd_8 : (Jvm.Cond.initialized "FlowApply$Scene") ∈ fa_wG := fa_it (tb_1 _ (List.mem_of_getElem? (i := 8) rfl)) rfl
set_option maxRecDepth 100000 in
theorem wd_9 : (Jvm.Cond.initialized "FlowApply$Typing") ∈ fa_wG := fa_it (tb_1 _ (List.mem_of_getElem? (i := 9) rfl)) rfl
set_option maxRecDepth 100000 in
theorem wd_10 : (Jvm.Cond.initialized "FlowApply$Flow") ∈ fa_wG := fa_it (tb_1 _ (List.mem_of_getElem? (i := 10) rfl)) rfl
set_option maxRecDepth 100000 in
theorem wd_11 : (Jvm.Cond.initialized "FlowApply$Groups") ∈ fa_wG := fa_it (tb_1 _ (List.mem_of_getElem? (i := 11) rfl)) rfl
set_option maxRecDepth 100000 in
theorem wd_12 : (Jvm.Cond.initialized "java/lang/Integer") ∈ fa_wG := fa_it (tb_1 _ (List.mem_of_getElem? (i := 12) rfl)) rfl
set_option maxRecDepth 100000 in
theorem wd_13 : (Jvm.Cond.initialized "FlowApplyModel") ∈ fa_wG := fa_it (tb_1 _ (List.mem_of_getElem? (i := 13) rfl)) rfl
set_option maxRecDepth 100000 in
theorem wd_14 : (Jvm.Cond.initialized "java/lang/Throwable") ∈ fa_wG := fa_it (tb_1 _ (List.mem_of_getElem? (i := 14) rfl)) rfl
set_option maxRecDepth 100000 in
theorem wd_15 : (Jvm.Cond.initialized "java/lang/Exception") ∈ fa_wG := fa_it (tb_1 _ (List.mem_of_getElem? (i := 15) rfl)) rfl
set_option maxRecDepth 100000 in
theorem wd_16 : (Jvm.Cond.initialized "java/lang/RuntimeException") ∈ fa_wG := fa_it (tb_1 _ (List.mem_of_getElem? (i := 16) rfl)) rfl
set_option maxRecDepth 100000 in
theorem wd_17 : (Jvm.Cond.initialized "java/lang/IllegalArgumentException") ∈ fa_wG := fa_it (tb_1 _ (List.mem_of_getElem? (i := 17) rfl)) rfl
set_option maxRecDepth 100000 in
theorem wd_18 : (Jvm.Cond.initialized "java/lang/IllegalStateException") ∈ fa_wG := fa_it (tb_1 _ (List.mem_of_getElem? (i := 18) rfl)) rfl
set_option maxRecDepth 100000 in
theorem wd_19 : (Jvm.Cond.initialized "java/lang/IndexOutOfBoundsException") ∈ fa_wG := fa_it (tb_1 _ (List.mem_of_getElem? (i := 19) rfl)) rfl
set_option maxRecDepth 100000 in
theorem wd_20 : (Jvm.Cond.initialized "java/util/NoSuchElementException") ∈ fa_wG := fa_it (tb_1 _ (List.mem_of_getElem? (i := 20) rfl)) rfl
set_option maxRecDepth 100000 in
theorem wd_21 : (Jvm.Cond.initialized "java/lang/System") ∈ fa_wG := fa_it (tb_1 _ (List.mem_of_getElem? (i := 21) rfl)) rfl
set_option maxRecDepth 100000 in
theorem wd_22 : (Jvm.Cond.initialized "java/lang/String") ∈ fa_wG := fa_it (tb_1 _ (List.mem_of_getElem? (i := 22) rfl)) rfl
set_option maxRecDepth 100000 in
theorem wd_23 : (Jvm.Cond.initialized "java/lang/StringLatin1") ∈ fa_wG := fa_it (tb_1 _ (List.mem_of_getElem? (i := 23) rfl)) rfl
set_option maxRecDepth 100000 in
theorem wd_24 : (Jvm.Cond.initialized "jdk/internal/util/Preconditions") ∈ fa_wG := fa_it (tb_1 _ (List.mem_of_getElem? (i := 24) rfl)) rfl
set_option maxRecDepth 100000 in
theorem wd_25 : (Jvm.Cond.initialized "java/lang/StringUTF16") ∈ fa_wG := fa_it (tb_1 _ (List.mem_of_getElem? (i := 25) rfl)) rfl
set_option maxRecDepth 100000 in
theorem wd_26 : (Jvm.Cond.classLink "FlowApplyLaw" (8 : Nat) "FlowApply") ∈ fa_wG := fa_it (tb_1 _ (List.mem_of_getElem? (i := 26) rfl)) rfl
set_option maxRecDepth 100000 in
theorem wd_27 : (Jvm.Cond.instantiable "FlowApply" (9 : Nat)) ∈ fa_wG := fa_it (tb_1 _ (List.mem_of_getElem? (i := 27) rfl)) rfl
set_option maxRecDepth 100000 in
theorem wd_28 : (Jvm.Cond.methodLink "FlowApplyLaw" (61 : Nat) ({ cls := "FlowApply", name := "<init>", desc := "()V" } : Jvm.MethodName)) ∈ fa_wG := fa_it (tb_1 _ (List.mem_of_getElem? (i := 28) rfl)) rfl
set_option maxRecDepth 100000 in
theorem wd_29 : (Jvm.Cond.instanceMethod ({ cls := "FlowApply", name := "<init>", desc := "()V" } : Jvm.MethodName)) ∈ fa_wG := fa_it (tb_1 _ (List.mem_of_getElem? (i := 29) rfl)) rfl
set_option maxRecDepth 100000 in
theorem wd_30 : (Jvm.Cond.code ({ cls := "FlowApply", name := "<init>", desc := "()V" } : Jvm.MethodName) prog_1_method_1_code (1 : Nat) (Option.none : Option Jvm.ClassFile.FieldType)) ∈ fa_wG := fa_it (tb_1 _ (List.mem_of_getElem? (i := 30) rfl)) rfl
set_option maxRecDepth 100000 in
theorem wd_31 : (Jvm.Cond.methodLink "FlowApply" (3 : Nat) ({ cls := "java/lang/Object", name := "<init>", desc := "()V" } : Jvm.MethodName)) ∈ fa_wG := fa_it (tb_1 _ (List.mem_of_getElem? (i := 31) rfl)) rfl
set_option maxRecDepth 100000 in
theorem wd_32 : (Jvm.Cond.instanceMethod ({ cls := "java/lang/Object", name := "<init>", desc := "()V" } : Jvm.MethodName)) ∈ fa_wG := fa_it (tb_1 _ (List.mem_of_getElem? (i := 32) rfl)) rfl
set_option maxRecDepth 100000 in
theorem wd_33 : (Jvm.Cond.code ({ cls := "java/lang/Object", name := "<init>", desc := "()V" } : Jvm.MethodName) object_method_1_code (1 : Nat) (Option.none : Option Jvm.ClassFile.FieldType)) ∈ fa_wG := fa_it (tb_1 _ (List.mem_of_getElem? (i := 33) rfl)) rfl
set_option maxRecDepth 100000 in
theorem wd_34 : (Jvm.Cond.classLink "FlowApply" (9 : Nat) "FlowApply$Row") ∈ fa_wG := fa_it (tb_1 _ (List.mem_of_getElem? (i := 34) rfl)) rfl
set_option maxRecDepth 100000 in
theorem wd_35 : (Jvm.Cond.instantiable "FlowApply$Row" (2 : Nat)) ∈ fa_wG := fa_it (tb_1 _ (List.mem_of_getElem? (i := 35) rfl)) rfl
set_option maxRecDepth 100000 in
theorem wd_36 : (Jvm.Cond.methodLink "FlowApply" (11 : Nat) ({ cls := "FlowApply$Row", name := "<init>", desc := "(I)V" } : Jvm.MethodName)) ∈ fa_wG := fa_it (tb_1 _ (List.mem_of_getElem? (i := 36) rfl)) rfl
set_option maxRecDepth 100000 in
theorem wd_37 : (Jvm.Cond.instanceMethod ({ cls := "FlowApply$Row", name := "<init>", desc := "(I)V" } : Jvm.MethodName)) ∈ fa_wG := fa_it (tb_1 _ (List.mem_of_getElem? (i := 37) rfl)) rfl
set_option maxRecDepth 100000 in
theorem wd_38 : (Jvm.Cond.code ({ cls := "FlowApply$Row", name := "<init>", desc := "(I)V" } : Jvm.MethodName) prog_7_method_1_code (2 : Nat) (Option.none : Option Jvm.ClassFile.FieldType)) ∈ fa_wG := fa_it (tb_1 _ (List.mem_of_getElem? (i := 38) rfl)) rfl
set_option maxRecDepth 100000 in
theorem wd_39 : (Jvm.Cond.methodLink "FlowApply$Row" (3 : Nat) ({ cls := "java/lang/Object", name := "<init>", desc := "()V" } : Jvm.MethodName)) ∈ fa_wG := fa_it (tb_1 _ (List.mem_of_getElem? (i := 39) rfl)) rfl
set_option maxRecDepth 100000 in
theorem wd_40 : (Jvm.Cond.methodLink "FlowApply$Row" (15 : Nat) ({ cls := "java/lang/Math", name := "max", desc := "(II)I" } : Jvm.MethodName)) ∈ fa_wG := fa_it (tb_1 _ (List.mem_of_getElem? (i := 40) rfl)) rfl
set_option maxRecDepth 100000 in
theorem wd_41 : (Jvm.Cond.static ({ cls := "java/lang/Math", name := "max", desc := "(II)I" } : Jvm.MethodName)) ∈ fa_wG := fa_it (tb_1 _ (List.mem_of_getElem? (i := 41) rfl)) rfl
set_option maxRecDepth 100000 in
theorem wd_42 : (Jvm.Cond.code ({ cls := "java/lang/Math", name := "max", desc := "(II)I" } : Jvm.MethodName) prog_21_method_65_code (2 : Nat) (Option.some Jvm.ClassFile.FieldType.int)) ∈ fa_wG := fa_it (tb_1 _ (List.mem_of_getElem? (i := 42) rfl)) rfl
set_option maxRecDepth 100000 in
theorem wd_43 : (Jvm.Cond.fieldLink "FlowApply$Row" (21 : Nat) "FlowApply$Row" "cells" "[I") ∈ fa_wG := fa_it (tb_1 _ (List.mem_of_getElem? (i := 43) rfl)) rfl
set_option maxRecDepth 100000 in
theorem wd_44 : (Jvm.Cond.fieldLink "FlowApply$Row" (9 : Nat) "FlowApply$Row" "size" "I") ∈ fa_wG := fa_it (tb_1 _ (List.mem_of_getElem? (i := 44) rfl)) rfl
set_option maxRecDepth 100000 in
theorem wd_45 : (Jvm.Cond.laysFinal "FlowApply$Row" "FlowApply$Row" "cells" "[I") ∈ fa_wG := fa_it (tb_1 _ (List.mem_of_getElem? (i := 45) rfl)) rfl
set_option maxRecDepth 100000 in
theorem wd_47 : (Jvm.Cond.lays "FlowApply$Row" "FlowApply$Row" "size" "I") ∈ fa_wG := fa_it (tb_1 _ (List.mem_of_getElem? (i := 47) rfl)) rfl
set_option maxRecDepth 100000 in
theorem wd_50 : (Jvm.Cond.arrayClass Jvm.ClassFile.FieldType.int) ∈ fa_wG := fa_it (tb_1 _ (List.mem_of_getElem? (i := 50) rfl)) rfl
set_option maxRecDepth 100000 in
theorem wd_51 : (Jvm.Cond.classLink "FlowApply" (24 : Nat) "FlowApply$Reader") ∈ fa_wG := fa_it (tb_1 _ (List.mem_of_getElem? (i := 51) rfl)) rfl
set_option maxRecDepth 100000 in
theorem wd_52 : (Jvm.Cond.instantiable "FlowApply$Reader" (13 : Nat)) ∈ fa_wG := fa_it (tb_1 _ (List.mem_of_getElem? (i := 52) rfl)) rfl
set_option maxRecDepth 100000 in
theorem wd_53 : (Jvm.Cond.methodLink "FlowApply" (26 : Nat) ({ cls := "FlowApply$Reader", name := "<init>", desc := "(LFlowApply$Row;)V" } : Jvm.MethodName)) ∈ fa_wG := fa_it (tb_1 _ (List.mem_of_getElem? (i := 53) rfl)) rfl
set_option maxRecDepth 100000 in
theorem wd_54 : (Jvm.Cond.instanceMethod ({ cls := "FlowApply$Reader", name := "<init>", desc := "(LFlowApply$Row;)V" } : Jvm.MethodName)) ∈ fa_wG := fa_it (tb_1 _ (List.mem_of_getElem? (i := 54) rfl)) rfl
set_option maxRecDepth 100000 in
theorem wd_55 : (Jvm.Cond.code ({ cls := "FlowApply$Reader", name := "<init>", desc := "(LFlowApply$Row;)V" } : Jvm.MethodName) prog_6_method_1_code (2 : Nat) (Option.none : Option Jvm.ClassFile.FieldType)) ∈ fa_wG := fa_it (tb_1 _ (List.mem_of_getElem? (i := 55) rfl)) rfl
set_option maxRecDepth 100000 in
theorem wd_56 : (Jvm.Cond.methodLink "FlowApply$Reader" (3 : Nat) ({ cls := "java/lang/Object", name := "<init>", desc := "()V" } : Jvm.MethodName)) ∈ fa_wG := fa_it (tb_1 _ (List.mem_of_getElem? (i := 56) rfl)) rfl
set_option maxRecDepth 100000 in
theorem wd_57 : (Jvm.Cond.classLink "FlowApply$Reader" (9 : Nat) "FlowApply$Program") ∈ fa_wG := fa_it (tb_1 _ (List.mem_of_getElem? (i := 57) rfl)) rfl
set_option maxRecDepth 100000 in
theorem wd_58 : (Jvm.Cond.instantiable "FlowApply$Program" (17 : Nat)) ∈ fa_wG := fa_it (tb_1 _ (List.mem_of_getElem? (i := 58) rfl)) rfl
set_option maxRecDepth 100000 in
theorem wd_59 : (Jvm.Cond.methodLinkNest "FlowApply$Reader" (11 : Nat) ({ cls := "FlowApply$Program", name := "<init>", desc := "()V" } : Jvm.MethodName) "FlowApply") ∈ fa_nest := List.mem_of_getElem? (i := 0) (by decide +kernel)
set_option maxRecDepth 100000 in
theorem wd_60 : (Jvm.Cond.instanceMethod ({ cls := "FlowApply$Program", name := "<init>", desc := "()V" } : Jvm.MethodName)) ∈ fa_wG := fa_it (tb_1 _ (List.mem_of_getElem? (i := 60) rfl)) rfl
set_option maxRecDepth 100000 in
theorem wd_61 : (Jvm.Cond.code ({ cls := "FlowApply$Program", name := "<init>", desc := "()V" } : Jvm.MethodName) prog_5_method_1_code (1 : Nat) (Option.none : Option Jvm.ClassFile.FieldType)) ∈ fa_wG := fa_it (tb_1 _ (List.mem_of_getElem? (i := 61) rfl)) rfl
set_option maxRecDepth 100000 in
theorem wd_62 : (Jvm.Cond.methodLink "FlowApply$Program" (3 : Nat) ({ cls := "java/lang/Object", name := "<init>", desc := "()V" } : Jvm.MethodName)) ∈ fa_wG := fa_it (tb_1 _ (List.mem_of_getElem? (i := 62) rfl)) rfl
set_option maxRecDepth 100000 in
theorem wd_63 : (Jvm.Cond.classLink "FlowApply$Program" (9 : Nat) "FlowApply$Row") ∈ fa_wG := fa_it (tb_1 _ (List.mem_of_getElem? (i := 63) rfl)) rfl
set_option maxRecDepth 100000 in
theorem wd_64 : (Jvm.Cond.methodLink "FlowApply$Program" (11 : Nat) ({ cls := "FlowApply$Row", name := "<init>", desc := "(I)V" } : Jvm.MethodName)) ∈ fa_wG := fa_it (tb_1 _ (List.mem_of_getElem? (i := 64) rfl)) rfl
set_option maxRecDepth 100000 in
theorem wd_65 : (Jvm.Cond.fieldLink "FlowApply$Program" (14 : Nat) "FlowApply$Program" "kinds" "LFlowApply$Row;") ∈ fa_wG := fa_it (tb_1 _ (List.mem_of_getElem? (i := 65) rfl)) rfl
set_option maxRecDepth 100000 in
theorem wd_66 : (Jvm.Cond.fieldLink "FlowApply$Program" (20 : Nat) "FlowApply$Program" "values" "LFlowApply$Row;") ∈ fa_wG := fa_it (tb_1 _ (List.mem_of_getElem? (i := 66) rfl)) rfl
set_option maxRecDepth 100000 in
theorem wd_67 : (Jvm.Cond.fieldLink "FlowApply$Program" (23 : Nat) "FlowApply$Program" "owners" "LFlowApply$Row;") ∈ fa_wG := fa_it (tb_1 _ (List.mem_of_getElem? (i := 67) rfl)) rfl
set_option maxRecDepth 100000 in
theorem wd_68 : (Jvm.Cond.fieldLink "FlowApply$Program" (26 : Nat) "FlowApply$Program" "starts" "LFlowApply$Row;") ∈ fa_wG := fa_it (tb_1 _ (List.mem_of_getElem? (i := 68) rfl)) rfl
set_option maxRecDepth 100000 in
theorem wd_69 : (Jvm.Cond.fieldLink "FlowApply$Program" (29 : Nat) "FlowApply$Program" "parts" "LFlowApply$Row;") ∈ fa_wG := fa_it (tb_1 _ (List.mem_of_getElem? (i := 69) rfl)) rfl
set_option maxRecDepth 100000 in
theorem wd_70 : (Jvm.Cond.fieldLink "FlowApply$Program" (32 : Nat) "FlowApply$Program" "siteThings" "LFlowApply$Row;") ∈ fa_wG := fa_it (tb_1 _ (List.mem_of_getElem? (i := 70) rfl)) rfl
set_option maxRecDepth 100000 in
theorem wd_71 : (Jvm.Cond.fieldLinkNest "FlowApply$Groups" (71 : Nat) "FlowApply$Program" "siteThings" "LFlowApply$Row;" "FlowApply") ∈ fa_nest := List.mem_of_getElem? (i := 1) (by decide +kernel)
set_option maxRecDepth 100000 in
theorem wd_72 : (Jvm.Cond.fieldLinkNest "FlowApply$Flow" (124 : Nat) "FlowApply$Program" "siteThings" "LFlowApply$Row;" "FlowApply") ∈ fa_nest := List.mem_of_getElem? (i := 2) (by decide +kernel)
set_option maxRecDepth 100000 in
theorem wd_73 : (Jvm.Cond.fieldLinkNest "FlowApply" (242 : Nat) "FlowApply$Program" "siteThings" "LFlowApply$Row;" "FlowApply") ∈ fa_nest := List.mem_of_getElem? (i := 3) (by decide +kernel)
set_option maxRecDepth 100000 in
theorem wd_74 : (Jvm.Cond.fieldLink "FlowApply$Program" (35 : Nat) "FlowApply$Program" "varNames" "LFlowApply$Row;") ∈ fa_wG := fa_it (tb_1 _ (List.mem_of_getElem? (i := 74) rfl)) rfl
set_option maxRecDepth 100000 in
theorem wd_75 : (Jvm.Cond.fieldLinkNest "FlowApply$Writer" (69 : Nat) "FlowApply$Program" "varNames" "LFlowApply$Row;" "FlowApply") ∈ fa_nest := List.mem_of_getElem? (i := 4) (by decide +kernel)
set_option maxRecDepth 100000 in
theorem wd_76 : (Jvm.Cond.fieldLinkNest "FlowApply" (206 : Nat) "FlowApply$Program" "varNames" "LFlowApply$Row;" "FlowApply") ∈ fa_nest := List.mem_of_getElem? (i := 5) (by decide +kernel)
set_option maxRecDepth 100000 in
theorem wd_77 : (Jvm.Cond.fieldLinkNest "FlowApply$Reader" (128 : Nat) "FlowApply$Program" "varNames" "LFlowApply$Row;" "FlowApply") ∈ fa_nest := List.mem_of_getElem? (i := 6) (by decide +kernel)
set_option maxRecDepth 100000 in
theorem wd_78 : (Jvm.Cond.fieldLink "FlowApply$Program" (38 : Nat) "FlowApply$Program" "binders" "LFlowApply$Row;") ∈ fa_wG := fa_it (tb_1 _ (List.mem_of_getElem? (i := 78) rfl)) rfl
set_option maxRecDepth 100000 in
theorem wd_79 : (Jvm.Cond.fieldLink "FlowApply$Program" (41 : Nat) "FlowApply$Program" "globalNames" "LFlowApply$Row;") ∈ fa_wG := fa_it (tb_1 _ (List.mem_of_getElem? (i := 79) rfl)) rfl
set_option maxRecDepth 100000 in
theorem wd_80 : (Jvm.Cond.fieldLinkNest "FlowApply$Writer" (60 : Nat) "FlowApply$Program" "globalNames" "LFlowApply$Row;" "FlowApply") ∈ fa_nest := List.mem_of_getElem? (i := 7) (by decide +kernel)
set_option maxRecDepth 100000 in
theorem wd_81 : (Jvm.Cond.fieldLinkNest "FlowApply$Reader" (106 : Nat) "FlowApply$Program" "globalNames" "LFlowApply$Row;" "FlowApply") ∈ fa_nest := List.mem_of_getElem? (i := 8) (by decide +kernel)
set_option maxRecDepth 100000 in
theorem wd_82 : (Jvm.Cond.fieldLink "FlowApply$Program" (44 : Nat) "FlowApply$Program" "bodies" "LFlowApply$Row;") ∈ fa_wG := fa_it (tb_1 _ (List.mem_of_getElem? (i := 82) rfl)) rfl
set_option maxRecDepth 100000 in
theorem wd_83 : (Jvm.Cond.fieldLinkNest "FlowApply$Typing" (70 : Nat) "FlowApply$Program" "bodies" "LFlowApply$Row;" "FlowApply") ∈ fa_nest := List.mem_of_getElem? (i := 9) (by decide +kernel)
set_option maxRecDepth 100000 in
theorem wd_84 : (Jvm.Cond.fieldLinkNest "FlowApply$Writer" (74 : Nat) "FlowApply$Program" "bodies" "LFlowApply$Row;" "FlowApply") ∈ fa_nest := List.mem_of_getElem? (i := 10) (by decide +kernel)
set_option maxRecDepth 100000 in
theorem wd_85 : (Jvm.Cond.fieldLinkNest "FlowApply$Flow" (112 : Nat) "FlowApply$Program" "bodies" "LFlowApply$Row;" "FlowApply") ∈ fa_nest := List.mem_of_getElem? (i := 11) (by decide +kernel)
set_option maxRecDepth 100000 in
theorem wd_86 : (Jvm.Cond.fieldLinkNest "FlowApply$Reader" (121 : Nat) "FlowApply$Program" "bodies" "LFlowApply$Row;" "FlowApply") ∈ fa_nest := List.mem_of_getElem? (i := 12) (by decide +kernel)
set_option maxRecDepth 100000 in
theorem wd_87 : (Jvm.Cond.fieldLinkNest "FlowApply$Machine" (196 : Nat) "FlowApply$Program" "bodies" "LFlowApply$Row;" "FlowApply") ∈ fa_nest := List.mem_of_getElem? (i := 13) (by decide +kernel)
set_option maxRecDepth 100000 in
theorem wd_88 : (Jvm.Cond.fieldLink "FlowApply$Program" (47 : Nat) "FlowApply$Program" "newFunctions" "LFlowApply$Row;") ∈ fa_wG := fa_it (tb_1 _ (List.mem_of_getElem? (i := 88) rfl)) rfl
set_option maxRecDepth 100000 in
theorem wd_89 : (Jvm.Cond.fieldLink "FlowApply$Program" (50 : Nat) "FlowApply$Program" "newThings" "LFlowApply$Row;") ∈ fa_wG := fa_it (tb_1 _ (List.mem_of_getElem? (i := 89) rfl)) rfl
set_option maxRecDepth 100000 in
theorem wd_90 : (Jvm.Cond.fieldLink "FlowApply$Program" (53 : Nat) "FlowApply$Program" "newSites" "LFlowApply$Row;") ∈ fa_wG := fa_it (tb_1 _ (List.mem_of_getElem? (i := 90) rfl)) rfl
set_option maxRecDepth 100000 in
theorem wd_91 : (Jvm.Cond.fieldLink "FlowApply$Program" (56 : Nat) "FlowApply$Program" "globals" "I") ∈ fa_wG := fa_it (tb_1 _ (List.mem_of_getElem? (i := 91) rfl)) rfl
set_option maxRecDepth 100000 in
theorem wd_92 : (Jvm.Cond.fieldLinkNest "FlowApply$Typing" (62 : Nat) "FlowApply$Program" "globals" "I" "FlowApply") ∈ fa_nest := List.mem_of_getElem? (i := 14) (by decide +kernel)
set_option maxRecDepth 100000 in
theorem wd_93 : (Jvm.Cond.fieldLinkNest "FlowApply$Reader" (81 : Nat) "FlowApply$Program" "globals" "I" "FlowApply") ∈ fa_nest := List.mem_of_getElem? (i := 15) (by decide +kernel)
set_option maxRecDepth 100000 in
theorem wd_94 : (Jvm.Cond.fieldLinkNest "FlowApply$Writer" (49 : Nat) "FlowApply$Program" "globals" "I" "FlowApply") ∈ fa_nest := List.mem_of_getElem? (i := 16) (by decide +kernel)
set_option maxRecDepth 100000 in
theorem wd_95 : (Jvm.Cond.fieldLinkNest "FlowApply" (131 : Nat) "FlowApply$Program" "globals" "I" "FlowApply") ∈ fa_nest := List.mem_of_getElem? (i := 17) (by decide +kernel)
set_option maxRecDepth 100000 in
theorem wd_96 : (Jvm.Cond.fieldLink "FlowApply$Program" (60 : Nat) "FlowApply$Program" "functions" "I") ∈ fa_wG := fa_it (tb_1 _ (List.mem_of_getElem? (i := 96) rfl)) rfl
set_option maxRecDepth 100000 in
theorem wd_97 : (Jvm.Cond.fieldLinkNest "FlowApply$Groups" (30 : Nat) "FlowApply$Program" "functions" "I" "FlowApply") ∈ fa_nest := List.mem_of_getElem? (i := 18) (by decide +kernel)
set_option maxRecDepth 100000 in
theorem wd_98 : (Jvm.Cond.fieldLinkNest "FlowApply$Typing" (86 : Nat) "FlowApply$Program" "functions" "I" "FlowApply") ∈ fa_nest := List.mem_of_getElem? (i := 19) (by decide +kernel)
set_option maxRecDepth 100000 in
theorem wd_99 : (Jvm.Cond.fieldLinkNest "FlowApply$Writer" (108 : Nat) "FlowApply$Program" "functions" "I" "FlowApply") ∈ fa_nest := List.mem_of_getElem? (i := 20) (by decide +kernel)
set_option maxRecDepth 100000 in
theorem wd_100 : (Jvm.Cond.fieldLinkNest "FlowApply$Flow" (106 : Nat) "FlowApply$Program" "functions" "I" "FlowApply") ∈ fa_nest := List.mem_of_getElem? (i := 21) (by decide +kernel)
set_option maxRecDepth 100000 in
theorem wd_101 : (Jvm.Cond.fieldLinkNest "FlowApply" (121 : Nat) "FlowApply$Program" "functions" "I" "FlowApply") ∈ fa_nest := List.mem_of_getElem? (i := 22) (by decide +kernel)
set_option maxRecDepth 100000 in
theorem wd_102 : (Jvm.Cond.fieldLink "FlowApply$Program" (63 : Nat) "FlowApply$Program" "sites" "I") ∈ fa_wG := fa_it (tb_1 _ (List.mem_of_getElem? (i := 102) rfl)) rfl
set_option maxRecDepth 100000 in
theorem wd_103 : (Jvm.Cond.fieldLinkNest "FlowApply$Groups" (68 : Nat) "FlowApply$Program" "sites" "I" "FlowApply") ∈ fa_nest := List.mem_of_getElem? (i := 23) (by decide +kernel)
set_option maxRecDepth 100000 in
theorem wd_104 : (Jvm.Cond.fieldLinkNest "FlowApply$Flow" (121 : Nat) "FlowApply$Program" "sites" "I" "FlowApply") ∈ fa_nest := List.mem_of_getElem? (i := 24) (by decide +kernel)
set_option maxRecDepth 100000 in
theorem wd_105 : (Jvm.Cond.fieldLinkNest "FlowApply" (237 : Nat) "FlowApply$Program" "sites" "I" "FlowApply") ∈ fa_nest := List.mem_of_getElem? (i := 25) (by decide +kernel)
set_option maxRecDepth 100000 in
theorem wd_106 : (Jvm.Cond.fieldLinkNest "FlowApply$Reader" (176 : Nat) "FlowApply$Program" "sites" "I" "FlowApply") ∈ fa_nest := List.mem_of_getElem? (i := 26) (by decide +kernel)
set_option maxRecDepth 100000 in
theorem wd_107 : (Jvm.Cond.fieldLink "FlowApply$Program" (66 : Nat) "FlowApply$Program" "main" "I") ∈ fa_wG := fa_it (tb_1 _ (List.mem_of_getElem? (i := 107) rfl)) rfl
set_option maxRecDepth 100000 in
theorem wd_108 : (Jvm.Cond.fieldLinkNest "FlowApply$Reader" (75 : Nat) "FlowApply$Program" "main" "I" "FlowApply") ∈ fa_nest := List.mem_of_getElem? (i := 27) (by decide +kernel)
set_option maxRecDepth 100000 in
theorem wd_109 : (Jvm.Cond.fieldLinkNest "FlowApply$Machine" (86 : Nat) "FlowApply$Program" "main" "I" "FlowApply") ∈ fa_nest := List.mem_of_getElem? (i := 28) (by decide +kernel)
set_option maxRecDepth 100000 in
theorem wd_110 : (Jvm.Cond.fieldLinkNest "FlowApply$Writer" (83 : Nat) "FlowApply$Program" "main" "I" "FlowApply") ∈ fa_nest := List.mem_of_getElem? (i := 29) (by decide +kernel)
set_option maxRecDepth 100000 in
theorem wd_111 : (Jvm.Cond.fieldLinkNest "FlowApply$Flow" (118 : Nat) "FlowApply$Program" "main" "I" "FlowApply") ∈ fa_nest := List.mem_of_getElem? (i := 30) (by decide +kernel)
set_option maxRecDepth 100000 in
theorem wd_112 : (Jvm.Cond.fieldLinkNest "FlowApply" (231 : Nat) "FlowApply$Program" "main" "I" "FlowApply") ∈ fa_nest := List.mem_of_getElem? (i := 31) (by decide +kernel)
set_option maxRecDepth 100000 in
theorem wd_113 : (Jvm.Cond.laysFinal "FlowApply$Program" "FlowApply$Program" "kinds" "LFlowApply$Row;") ∈ fa_wG := fa_it (tb_1 _ (List.mem_of_getElem? (i := 113) rfl)) rfl
set_option maxRecDepth 100000 in
theorem wd_115 : (Jvm.Cond.laysFinal "FlowApply$Program" "FlowApply$Program" "values" "LFlowApply$Row;") ∈ fa_wG := fa_it (tb_1 _ (List.mem_of_getElem? (i := 115) rfl)) rfl
set_option maxRecDepth 100000 in
theorem wd_117 : (Jvm.Cond.laysFinal "FlowApply$Program" "FlowApply$Program" "owners" "LFlowApply$Row;") ∈ fa_wG := fa_it (tb_1 _ (List.mem_of_getElem? (i := 117) rfl)) rfl
set_option maxRecDepth 100000 in
theorem wd_119 : (Jvm.Cond.laysFinal "FlowApply$Program" "FlowApply$Program" "starts" "LFlowApply$Row;") ∈ fa_wG := fa_it (tb_1 _ (List.mem_of_getElem? (i := 119) rfl)) rfl
set_option maxRecDepth 100000 in
theorem wd_121 : (Jvm.Cond.laysFinal "FlowApply$Program" "FlowApply$Program" "parts" "LFlowApply$Row;") ∈ fa_wG := fa_it (tb_1 _ (List.mem_of_getElem? (i := 121) rfl)) rfl
set_option maxRecDepth 100000 in
theorem wd_123 : (Jvm.Cond.laysFinal "FlowApply$Program" "FlowApply$Program" "siteThings" "LFlowApply$Row;") ∈ fa_wG := fa_it (tb_1 _ (List.mem_of_getElem? (i := 123) rfl)) rfl
set_option maxRecDepth 100000 in
theorem wd_125 : (Jvm.Cond.laysFinal "FlowApply$Program" "FlowApply$Program" "varNames" "LFlowApply$Row;") ∈ fa_wG := fa_it (tb_1 _ (List.mem_of_getElem? (i := 125) rfl)) rfl
set_option maxRecDepth 100000 in
theorem wd_127 : (Jvm.Cond.laysFinal "FlowApply$Program" "FlowApply$Program" "binders" "LFlowApply$Row;") ∈ fa_wG := fa_it (tb_1 _ (List.mem_of_getElem? (i := 127) rfl)) rfl
set_option maxRecDepth 100000 in
theorem wd_129 : (Jvm.Cond.laysFinal "FlowApply$Program" "FlowApply$Program" "globalNames" "LFlowApply$Row;") ∈ fa_wG := fa_it (tb_1 _ (List.mem_of_getElem? (i := 129) rfl)) rfl
set_option maxRecDepth 100000 in
theorem wd_131 : (Jvm.Cond.laysFinal "FlowApply$Program" "FlowApply$Program" "bodies" "LFlowApply$Row;") ∈ fa_wG := fa_it (tb_1 _ (List.mem_of_getElem? (i := 131) rfl)) rfl
set_option maxRecDepth 100000 in
theorem wd_133 : (Jvm.Cond.laysFinal "FlowApply$Program" "FlowApply$Program" "newFunctions" "LFlowApply$Row;") ∈ fa_wG := fa_it (tb_1 _ (List.mem_of_getElem? (i := 133) rfl)) rfl
set_option maxRecDepth 100000 in
theorem wd_135 : (Jvm.Cond.laysFinal "FlowApply$Program" "FlowApply$Program" "newThings" "LFlowApply$Row;") ∈ fa_wG := fa_it (tb_1 _ (List.mem_of_getElem? (i := 135) rfl)) rfl
set_option maxRecDepth 100000 in
theorem wd_137 : (Jvm.Cond.laysFinal "FlowApply$Program" "FlowApply$Program" "newSites" "LFlowApply$Row;") ∈ fa_wG := fa_it (tb_1 _ (List.mem_of_getElem? (i := 137) rfl)) rfl
set_option maxRecDepth 100000 in
theorem wd_139 : (Jvm.Cond.lays "FlowApply$Program" "FlowApply$Program" "globals" "I") ∈ fa_wG := fa_it (tb_1 _ (List.mem_of_getElem? (i := 139) rfl)) rfl
set_option maxRecDepth 100000 in
theorem wd_141 : (Jvm.Cond.lays "FlowApply$Program" "FlowApply$Program" "functions" "I") ∈ fa_wG := fa_it (tb_1 _ (List.mem_of_getElem? (i := 141) rfl)) rfl
set_option maxRecDepth 100000 in
theorem wd_143 : (Jvm.Cond.lays "FlowApply$Program" "FlowApply$Program" "sites" "I") ∈ fa_wG := fa_it (tb_1 _ (List.mem_of_getElem? (i := 143) rfl)) rfl
set_option maxRecDepth 100000 in
theorem wd_145 : (Jvm.Cond.lays "FlowApply$Program" "FlowApply$Program" "main" "I") ∈ fa_wG := fa_it (tb_1 _ (List.mem_of_getElem? (i := 145) rfl)) rfl
set_option maxRecDepth 100000 in
theorem wd_148 : (Jvm.Cond.classLink "FlowApply$Reader" (18 : Nat) "FlowApply$Row") ∈ fa_wG := fa_it (tb_1 _ (List.mem_of_getElem? (i := 148) rfl)) rfl
set_option maxRecDepth 100000 in
theorem wd_149 : (Jvm.Cond.methodLink "FlowApply$Reader" (20 : Nat) ({ cls := "FlowApply$Row", name := "<init>", desc := "(I)V" } : Jvm.MethodName)) ∈ fa_wG := fa_it (tb_1 _ (List.mem_of_getElem? (i := 149) rfl)) rfl
set_option maxRecDepth 100000 in
theorem wd_150 : (Jvm.Cond.fieldLink "FlowApply$Reader" (12 : Nat) "FlowApply$Reader" "raw" "LFlowApply$Program;") ∈ fa_wG := fa_it (tb_1 _ (List.mem_of_getElem? (i := 150) rfl)) rfl
set_option maxRecDepth 100000 in
theorem wd_151 : (Jvm.Cond.fieldLinkNest "FlowApply" (100 : Nat) "FlowApply$Reader" "raw" "LFlowApply$Program;" "FlowApply") ∈ fa_nest := List.mem_of_getElem? (i := 32) (by decide +kernel)
set_option maxRecDepth 100000 in
theorem wd_152 : (Jvm.Cond.fieldLink "FlowApply$Reader" (58 : Nat) "FlowApply$Reader" "text" "LFlowApply$Row;") ∈ fa_wG := fa_it (tb_1 _ (List.mem_of_getElem? (i := 152) rfl)) rfl
set_option maxRecDepth 100000 in
theorem wd_153 : (Jvm.Cond.fieldLink "FlowApply$Reader" (23 : Nat) "FlowApply$Reader" "scope" "LFlowApply$Row;") ∈ fa_wG := fa_it (tb_1 _ (List.mem_of_getElem? (i := 153) rfl)) rfl
set_option maxRecDepth 100000 in
theorem wd_154 : (Jvm.Cond.fieldLink "FlowApply$Reader" (27 : Nat) "FlowApply$Reader" "place" "I") ∈ fa_wG := fa_it (tb_1 _ (List.mem_of_getElem? (i := 154) rfl)) rfl
set_option maxRecDepth 100000 in
theorem wd_155 : (Jvm.Cond.fieldLink "FlowApply$Reader" (31 : Nat) "FlowApply$Reader" "token" "I") ∈ fa_wG := fa_it (tb_1 _ (List.mem_of_getElem? (i := 155) rfl)) rfl
set_option maxRecDepth 100000 in
theorem wd_156 : (Jvm.Cond.fieldLink "FlowApply$Reader" (34 : Nat) "FlowApply$Reader" "tokenStart" "I") ∈ fa_wG := fa_it (tb_1 _ (List.mem_of_getElem? (i := 156) rfl)) rfl
set_option maxRecDepth 100000 in
theorem wd_157 : (Jvm.Cond.fieldLink "FlowApply$Reader" (37 : Nat) "FlowApply$Reader" "tokenValue" "I") ∈ fa_wG := fa_it (tb_1 _ (List.mem_of_getElem? (i := 157) rfl)) rfl
set_option maxRecDepth 100000 in
theorem wd_158 : (Jvm.Cond.fieldLink "FlowApply$Reader" (40 : Nat) "FlowApply$Reader" "wrongAt" "I") ∈ fa_wG := fa_it (tb_1 _ (List.mem_of_getElem? (i := 158) rfl)) rfl
set_option maxRecDepth 100000 in
theorem wd_159 : (Jvm.Cond.fieldLink "FlowApply$Reader" (43 : Nat) "FlowApply$Reader" "nested" "I") ∈ fa_wG := fa_it (tb_1 _ (List.mem_of_getElem? (i := 159) rfl)) rfl
set_option maxRecDepth 100000 in
theorem wd_160 : (Jvm.Cond.fieldLink "FlowApply$Reader" (46 : Nat) "FlowApply$Reader" "things" "I") ∈ fa_wG := fa_it (tb_1 _ (List.mem_of_getElem? (i := 160) rfl)) rfl
set_option maxRecDepth 100000 in
theorem wd_161 : (Jvm.Cond.fieldLink "FlowApply$Reader" (49 : Nat) "FlowApply$Reader" "lambdas" "I") ∈ fa_wG := fa_it (tb_1 _ (List.mem_of_getElem? (i := 161) rfl)) rfl
set_option maxRecDepth 100000 in
theorem wd_162 : (Jvm.Cond.fieldLink "FlowApply$Reader" (52 : Nat) "FlowApply$Reader" "lets" "I") ∈ fa_wG := fa_it (tb_1 _ (List.mem_of_getElem? (i := 162) rfl)) rfl
set_option maxRecDepth 100000 in
theorem wd_163 : (Jvm.Cond.fieldLink "FlowApply$Reader" (55 : Nat) "FlowApply$Reader" "owner" "I") ∈ fa_wG := fa_it (tb_1 _ (List.mem_of_getElem? (i := 163) rfl)) rfl
set_option maxRecDepth 100000 in
theorem wd_164 : (Jvm.Cond.laysFinal "FlowApply$Reader" "FlowApply$Reader" "raw" "LFlowApply$Program;") ∈ fa_wG := fa_it (tb_1 _ (List.mem_of_getElem? (i := 164) rfl)) rfl
set_option maxRecDepth 100000 in
theorem wd_166 : (Jvm.Cond.laysFinal "FlowApply$Reader" "FlowApply$Reader" "text" "LFlowApply$Row;") ∈ fa_wG := fa_it (tb_1 _ (List.mem_of_getElem? (i := 166) rfl)) rfl
set_option maxRecDepth 100000 in
theorem wd_168 : (Jvm.Cond.laysFinal "FlowApply$Reader" "FlowApply$Reader" "scope" "LFlowApply$Row;") ∈ fa_wG := fa_it (tb_1 _ (List.mem_of_getElem? (i := 168) rfl)) rfl
set_option maxRecDepth 100000 in
theorem wd_170 : (Jvm.Cond.lays "FlowApply$Reader" "FlowApply$Reader" "place" "I") ∈ fa_wG := fa_it (tb_1 _ (List.mem_of_getElem? (i := 170) rfl)) rfl
set_option maxRecDepth 100000 in
theorem wd_172 : (Jvm.Cond.lays "FlowApply$Reader" "FlowApply$Reader" "token" "I") ∈ fa_wG := fa_it (tb_1 _ (List.mem_of_getElem? (i := 172) rfl)) rfl
set_option maxRecDepth 100000 in
theorem wd_174 : (Jvm.Cond.lays "FlowApply$Reader" "FlowApply$Reader" "tokenStart" "I") ∈ fa_wG := fa_it (tb_1 _ (List.mem_of_getElem? (i := 174) rfl)) rfl
set_option maxRecDepth 100000 in
theorem wd_176 : (Jvm.Cond.lays "FlowApply$Reader" "FlowApply$Reader" "tokenValue" "I") ∈ fa_wG := fa_it (tb_1 _ (List.mem_of_getElem? (i := 176) rfl)) rfl
set_option maxRecDepth 100000 in
theorem wd_178 : (Jvm.Cond.lays "FlowApply$Reader" "FlowApply$Reader" "wrongAt" "I") ∈ fa_wG := fa_it (tb_1 _ (List.mem_of_getElem? (i := 178) rfl)) rfl
set_option maxRecDepth 100000 in
theorem wd_180 : (Jvm.Cond.lays "FlowApply$Reader" "FlowApply$Reader" "nested" "I") ∈ fa_wG := fa_it (tb_1 _ (List.mem_of_getElem? (i := 180) rfl)) rfl
set_option maxRecDepth 100000 in
theorem wd_182 : (Jvm.Cond.lays "FlowApply$Reader" "FlowApply$Reader" "things" "I") ∈ fa_wG := fa_it (tb_1 _ (List.mem_of_getElem? (i := 182) rfl)) rfl
set_option maxRecDepth 100000 in
theorem wd_184 : (Jvm.Cond.lays "FlowApply$Reader" "FlowApply$Reader" "lambdas" "I") ∈ fa_wG := fa_it (tb_1 _ (List.mem_of_getElem? (i := 184) rfl)) rfl
set_option maxRecDepth 100000 in
theorem wd_186 : (Jvm.Cond.lays "FlowApply$Reader" "FlowApply$Reader" "lets" "I") ∈ fa_wG := fa_it (tb_1 _ (List.mem_of_getElem? (i := 186) rfl)) rfl
set_option maxRecDepth 100000 in
theorem wd_188 : (Jvm.Cond.lays "FlowApply$Reader" "FlowApply$Reader" "owner" "I") ∈ fa_wG := fa_it (tb_1 _ (List.mem_of_getElem? (i := 188) rfl)) rfl
set_option maxRecDepth 100000 in
theorem wd_191 : (Jvm.Cond.classLink "FlowApply" (33 : Nat) "FlowApply$Writer") ∈ fa_wG := fa_it (tb_1 _ (List.mem_of_getElem? (i := 191) rfl)) rfl
set_option maxRecDepth 100000 in
theorem wd_192 : (Jvm.Cond.instantiable "FlowApply$Writer" (5 : Nat)) ∈ fa_wG := fa_it (tb_1 _ (List.mem_of_getElem? (i := 192) rfl)) rfl
set_option maxRecDepth 100000 in
theorem wd_193 : (Jvm.Cond.methodLink "FlowApply" (35 : Nat) ({ cls := "FlowApply$Writer", name := "<init>", desc := "(LFlowApply$Row;)V" } : Jvm.MethodName)) ∈ fa_wG := fa_it (tb_1 _ (List.mem_of_getElem? (i := 193) rfl)) rfl
set_option maxRecDepth 100000 in
theorem wd_194 : (Jvm.Cond.instanceMethod ({ cls := "FlowApply$Writer", name := "<init>", desc := "(LFlowApply$Row;)V" } : Jvm.MethodName)) ∈ fa_wG := fa_it (tb_1 _ (List.mem_of_getElem? (i := 194) rfl)) rfl
set_option maxRecDepth 100000 in
theorem wd_195 : (Jvm.Cond.code ({ cls := "FlowApply$Writer", name := "<init>", desc := "(LFlowApply$Row;)V" } : Jvm.MethodName) prog_10_method_1_code (2 : Nat) (Option.none : Option Jvm.ClassFile.FieldType)) ∈ fa_wG := fa_it (tb_1 _ (List.mem_of_getElem? (i := 195) rfl)) rfl
set_option maxRecDepth 100000 in
theorem wd_196 : (Jvm.Cond.methodLink "FlowApply$Writer" (3 : Nat) ({ cls := "java/lang/Object", name := "<init>", desc := "()V" } : Jvm.MethodName)) ∈ fa_wG := fa_it (tb_1 _ (List.mem_of_getElem? (i := 196) rfl)) rfl
set_option maxRecDepth 100000 in
theorem wd_197 : (Jvm.Cond.classLink "FlowApply$Writer" (9 : Nat) "FlowApply$Row") ∈ fa_wG := fa_it (tb_1 _ (List.mem_of_getElem? (i := 197) rfl)) rfl
set_option maxRecDepth 100000 in
theorem wd_198 : (Jvm.Cond.methodLink "FlowApply$Writer" (13 : Nat) ({ cls := "FlowApply$Row", name := "<init>", desc := "(I)V" } : Jvm.MethodName)) ∈ fa_wG := fa_it (tb_1 _ (List.mem_of_getElem? (i := 198) rfl)) rfl
set_option maxRecDepth 100000 in
theorem wd_199 : (Jvm.Cond.fieldLink "FlowApply$Writer" (30 : Nat) "FlowApply$Writer" "out" "LFlowApply$Row;") ∈ fa_wG := fa_it (tb_1 _ (List.mem_of_getElem? (i := 199) rfl)) rfl
set_option maxRecDepth 100000 in
theorem wd_200 : (Jvm.Cond.fieldLink "FlowApply$Writer" (16 : Nat) "FlowApply$Writer" "waiting" "LFlowApply$Row;") ∈ fa_wG := fa_it (tb_1 _ (List.mem_of_getElem? (i := 200) rfl)) rfl
set_option maxRecDepth 100000 in
theorem wd_201 : (Jvm.Cond.fieldLink "FlowApply$Writer" (20 : Nat) "FlowApply$Writer" "openTypes" "LFlowApply$Row;") ∈ fa_wG := fa_it (tb_1 _ (List.mem_of_getElem? (i := 201) rfl)) rfl
set_option maxRecDepth 100000 in
theorem wd_202 : (Jvm.Cond.fieldLink "FlowApply$Writer" (23 : Nat) "FlowApply$Writer" "fields" "LFlowApply$Row;") ∈ fa_wG := fa_it (tb_1 _ (List.mem_of_getElem? (i := 202) rfl)) rfl
set_option maxRecDepth 100000 in
theorem wd_203 : (Jvm.Cond.fieldLink "FlowApply$Writer" (26 : Nat) "FlowApply$Writer" "formSplit" "I") ∈ fa_wG := fa_it (tb_1 _ (List.mem_of_getElem? (i := 203) rfl)) rfl
set_option maxRecDepth 100000 in
theorem wd_204 : (Jvm.Cond.laysFinal "FlowApply$Writer" "FlowApply$Writer" "out" "LFlowApply$Row;") ∈ fa_wG := fa_it (tb_1 _ (List.mem_of_getElem? (i := 204) rfl)) rfl
set_option maxRecDepth 100000 in
theorem wd_206 : (Jvm.Cond.laysFinal "FlowApply$Writer" "FlowApply$Writer" "waiting" "LFlowApply$Row;") ∈ fa_wG := fa_it (tb_1 _ (List.mem_of_getElem? (i := 206) rfl)) rfl
set_option maxRecDepth 100000 in
theorem wd_208 : (Jvm.Cond.laysFinal "FlowApply$Writer" "FlowApply$Writer" "openTypes" "LFlowApply$Row;") ∈ fa_wG := fa_it (tb_1 _ (List.mem_of_getElem? (i := 208) rfl)) rfl
set_option maxRecDepth 100000 in
theorem wd_210 : (Jvm.Cond.laysFinal "FlowApply$Writer" "FlowApply$Writer" "fields" "LFlowApply$Row;") ∈ fa_wG := fa_it (tb_1 _ (List.mem_of_getElem? (i := 210) rfl)) rfl
set_option maxRecDepth 100000 in
theorem wd_212 : (Jvm.Cond.lays "FlowApply$Writer" "FlowApply$Writer" "formSplit" "I") ∈ fa_wG := fa_it (tb_1 _ (List.mem_of_getElem? (i := 212) rfl)) rfl
set_option maxRecDepth 100000 in
theorem wd_215 : (Jvm.Cond.classLink "FlowApply" (40 : Nat) "FlowApply$Machine") ∈ fa_wG := fa_it (tb_1 _ (List.mem_of_getElem? (i := 215) rfl)) rfl
set_option maxRecDepth 100000 in
theorem wd_216 : (Jvm.Cond.instantiable "FlowApply$Machine" (12 : Nat)) ∈ fa_wG := fa_it (tb_1 _ (List.mem_of_getElem? (i := 216) rfl)) rfl
set_option maxRecDepth 100000 in
theorem wd_217 : (Jvm.Cond.methodLink "FlowApply" (42 : Nat) ({ cls := "FlowApply$Machine", name := "<init>", desc := "()V" } : Jvm.MethodName)) ∈ fa_wG := fa_it (tb_1 _ (List.mem_of_getElem? (i := 217) rfl)) rfl
set_option maxRecDepth 100000 in
theorem wd_218 : (Jvm.Cond.instanceMethod ({ cls := "FlowApply$Machine", name := "<init>", desc := "()V" } : Jvm.MethodName)) ∈ fa_wG := fa_it (tb_1 _ (List.mem_of_getElem? (i := 218) rfl)) rfl
set_option maxRecDepth 100000 in
theorem wd_219 : (Jvm.Cond.code ({ cls := "FlowApply$Machine", name := "<init>", desc := "()V" } : Jvm.MethodName) prog_4_method_1_code (1 : Nat) (Option.none : Option Jvm.ClassFile.FieldType)) ∈ fa_wG := fa_it (tb_1 _ (List.mem_of_getElem? (i := 219) rfl)) rfl
set_option maxRecDepth 100000 in
theorem wd_220 : (Jvm.Cond.methodLink "FlowApply$Machine" (3 : Nat) ({ cls := "java/lang/Object", name := "<init>", desc := "()V" } : Jvm.MethodName)) ∈ fa_wG := fa_it (tb_1 _ (List.mem_of_getElem? (i := 220) rfl)) rfl
set_option maxRecDepth 100000 in
theorem wd_221 : (Jvm.Cond.classLink "FlowApply$Machine" (9 : Nat) "FlowApply$Row") ∈ fa_wG := fa_it (tb_1 _ (List.mem_of_getElem? (i := 221) rfl)) rfl
set_option maxRecDepth 100000 in
theorem wd_222 : (Jvm.Cond.methodLink "FlowApply$Machine" (11 : Nat) ({ cls := "FlowApply$Row", name := "<init>", desc := "(I)V" } : Jvm.MethodName)) ∈ fa_wG := fa_it (tb_1 _ (List.mem_of_getElem? (i := 222) rfl)) rfl
set_option maxRecDepth 100000 in
theorem wd_223 : (Jvm.Cond.methodLink "FlowApply$Machine" (54 : Nat) ({ cls := "FlowApply$Row", name := "refill", desc := "(II)V" } : Jvm.MethodName)) ∈ fa_wG := fa_it (tb_1 _ (List.mem_of_getElem? (i := 223) rfl)) rfl
set_option maxRecDepth 100000 in
theorem wd_224 : (Jvm.Cond.instanceMethod ({ cls := "FlowApply$Row", name := "refill", desc := "(II)V" } : Jvm.MethodName)) ∈ fa_wG := fa_it (tb_1 _ (List.mem_of_getElem? (i := 224) rfl)) rfl
set_option maxRecDepth 100000 in
theorem wd_225 : (Jvm.Cond.selects "FlowApply$Row" ({ cls := "FlowApply$Row", name := "refill", desc := "(II)V" } : Jvm.MethodName) ({ cls := "FlowApply$Row", name := "refill", desc := "(II)V" } : Jvm.MethodName)) ∈ fa_wG := fa_it (tb_1 _ (List.mem_of_getElem? (i := 225) rfl)) rfl
set_option maxRecDepth 100000 in
theorem wd_226 : (Jvm.Cond.code ({ cls := "FlowApply$Row", name := "refill", desc := "(II)V" } : Jvm.MethodName) prog_7_method_11_code (4 : Nat) (Option.none : Option Jvm.ClassFile.FieldType)) ∈ fa_wG := fa_it (tb_1 _ (List.mem_of_getElem? (i := 226) rfl)) rfl
set_option maxRecDepth 100000 in
theorem wd_227 : (Jvm.Cond.methodLink "FlowApply$Row" (33 : Nat) ({ cls := "FlowApply$Row", name := "clear", desc := "()V" } : Jvm.MethodName)) ∈ fa_wG := fa_it (tb_1 _ (List.mem_of_getElem? (i := 227) rfl)) rfl
set_option maxRecDepth 100000 in
theorem wd_228 : (Jvm.Cond.instanceMethod ({ cls := "FlowApply$Row", name := "clear", desc := "()V" } : Jvm.MethodName)) ∈ fa_wG := fa_it (tb_1 _ (List.mem_of_getElem? (i := 228) rfl)) rfl
set_option maxRecDepth 100000 in
theorem wd_229 : (Jvm.Cond.selects "FlowApply$Row" ({ cls := "FlowApply$Row", name := "clear", desc := "()V" } : Jvm.MethodName) ({ cls := "FlowApply$Row", name := "clear", desc := "()V" } : Jvm.MethodName)) ∈ fa_wG := fa_it (tb_1 _ (List.mem_of_getElem? (i := 229) rfl)) rfl
set_option maxRecDepth 100000 in
theorem wd_230 : (Jvm.Cond.code ({ cls := "FlowApply$Row", name := "clear", desc := "()V" } : Jvm.MethodName) prog_7_method_10_code (1 : Nat) (Option.none : Option Jvm.ClassFile.FieldType)) ∈ fa_wG := fa_it (tb_1 _ (List.mem_of_getElem? (i := 230) rfl)) rfl
set_option maxRecDepth 100000 in
theorem wd_231 : (Jvm.Cond.methodLink "FlowApply$Row" (36 : Nat) ({ cls := "FlowApply$Row", name := "add", desc := "(I)V" } : Jvm.MethodName)) ∈ fa_wG := fa_it (tb_1 _ (List.mem_of_getElem? (i := 231) rfl)) rfl
set_option maxRecDepth 100000 in
theorem wd_232 : (Jvm.Cond.instanceMethod ({ cls := "FlowApply$Row", name := "add", desc := "(I)V" } : Jvm.MethodName)) ∈ fa_wG := fa_it (tb_1 _ (List.mem_of_getElem? (i := 232) rfl)) rfl
set_option maxRecDepth 100000 in
theorem wd_233 : (Jvm.Cond.selects "FlowApply$Row" ({ cls := "FlowApply$Row", name := "add", desc := "(I)V" } : Jvm.MethodName) ({ cls := "FlowApply$Row", name := "add", desc := "(I)V" } : Jvm.MethodName)) ∈ fa_wG := fa_it (tb_1 _ (List.mem_of_getElem? (i := 233) rfl)) rfl
set_option maxRecDepth 100000 in
theorem wd_234 : (Jvm.Cond.code ({ cls := "FlowApply$Row", name := "add", desc := "(I)V" } : Jvm.MethodName) prog_7_method_5_code (2 : Nat) (Option.none : Option Jvm.ClassFile.FieldType)) ∈ fa_wG := fa_it (tb_1 _ (List.mem_of_getElem? (i := 234) rfl)) rfl
set_option maxRecDepth 100000 in
theorem wd_235 : (Jvm.Cond.fieldLink "FlowApply$Machine" (14 : Nat) "FlowApply$Machine" "frames" "LFlowApply$Row;") ∈ fa_wG := fa_it (tb_1 _ (List.mem_of_getElem? (i := 235) rfl)) rfl
set_option maxRecDepth 100000 in
theorem wd_236 : (Jvm.Cond.fieldLink "FlowApply$Machine" (20 : Nat) "FlowApply$Machine" "tasks" "LFlowApply$Row;") ∈ fa_wG := fa_it (tb_1 _ (List.mem_of_getElem? (i := 236) rfl)) rfl
set_option maxRecDepth 100000 in
theorem wd_237 : (Jvm.Cond.fieldLink "FlowApply$Machine" (23 : Nat) "FlowApply$Machine" "values" "LFlowApply$Row;") ∈ fa_wG := fa_it (tb_1 _ (List.mem_of_getElem? (i := 237) rfl)) rfl
set_option maxRecDepth 100000 in
theorem wd_238 : (Jvm.Cond.fieldLink "FlowApply$Machine" (26 : Nat) "FlowApply$Machine" "inside" "LFlowApply$Row;") ∈ fa_wG := fa_it (tb_1 _ (List.mem_of_getElem? (i := 238) rfl)) rfl
set_option maxRecDepth 100000 in
theorem wd_239 : (Jvm.Cond.fieldLink "FlowApply$Machine" (29 : Nat) "FlowApply$Machine" "framesInside" "LFlowApply$Row;") ∈ fa_wG := fa_it (tb_1 _ (List.mem_of_getElem? (i := 239) rfl)) rfl
set_option maxRecDepth 100000 in
theorem wd_240 : (Jvm.Cond.fieldLink "FlowApply$Machine" (32 : Nat) "FlowApply$Machine" "performed" "I") ∈ fa_wG := fa_it (tb_2 _ (List.mem_of_getElem? (i := 0) rfl)) rfl
set_option maxRecDepth 100000 in
theorem wd_241 : (Jvm.Cond.fieldLink "FlowApply$Machine" (36 : Nat) "FlowApply$Machine" "applicable" "I") ∈ fa_wG := fa_it (tb_2 _ (List.mem_of_getElem? (i := 1) rfl)) rfl
set_option maxRecDepth 100000 in
theorem wd_242 : (Jvm.Cond.fieldLink "FlowApply$Machine" (39 : Nat) "FlowApply$Machine" "ending" "I") ∈ fa_wG := fa_it (tb_2 _ (List.mem_of_getElem? (i := 2) rfl)) rfl
set_option maxRecDepth 100000 in
theorem wd_243 : (Jvm.Cond.fieldLinkNest "FlowApply" (301 : Nat) "FlowApply$Machine" "ending" "I" "FlowApply") ∈ fa_nest := List.mem_of_getElem? (i := 33) (by decide +kernel)
set_option maxRecDepth 100000 in
theorem wd_244 : (Jvm.Cond.fieldLink "FlowApply$Machine" (42 : Nat) "FlowApply$Machine" "result" "I") ∈ fa_wG := fa_it (tb_2 _ (List.mem_of_getElem? (i := 4) rfl)) rfl
set_option maxRecDepth 100000 in
theorem wd_245 : (Jvm.Cond.fieldLinkNest "FlowApply" (304 : Nat) "FlowApply$Machine" "result" "I" "FlowApply") ∈ fa_nest := List.mem_of_getElem? (i := 34) (by decide +kernel)
set_option maxRecDepth 100000 in
theorem wd_246 : (Jvm.Cond.fieldLink "FlowApply$Machine" (45 : Nat) "FlowApply$Machine" "steps" "I") ∈ fa_wG := fa_it (tb_2 _ (List.mem_of_getElem? (i := 6) rfl)) rfl
set_option maxRecDepth 100000 in
theorem wd_247 : (Jvm.Cond.fieldLinkNest "FlowApply" (307 : Nat) "FlowApply$Machine" "steps" "I" "FlowApply") ∈ fa_nest := List.mem_of_getElem? (i := 35) (by decide +kernel)
set_option maxRecDepth 100000 in
theorem wd_248 : (Jvm.Cond.fieldLink "FlowApply$Machine" (48 : Nat) "FlowApply$Machine" "deep" "I") ∈ fa_wG := fa_it (tb_2 _ (List.mem_of_getElem? (i := 8) rfl)) rfl
set_option maxRecDepth 100000 in
theorem wd_249 : (Jvm.Cond.fieldLinkNest "FlowApply" (310 : Nat) "FlowApply$Machine" "deep" "I" "FlowApply") ∈ fa_nest := List.mem_of_getElem? (i := 36) (by decide +kernel)
set_option maxRecDepth 100000 in
theorem wd_250 : (Jvm.Cond.fieldLink "FlowApply$Machine" (51 : Nat) "FlowApply$Machine" "entered" "I") ∈ fa_wG := fa_it (tb_2 _ (List.mem_of_getElem? (i := 10) rfl)) rfl
set_option maxRecDepth 100000 in
theorem wd_251 : (Jvm.Cond.fieldLinkNest "FlowApply" (313 : Nat) "FlowApply$Machine" "entered" "I" "FlowApply") ∈ fa_nest := List.mem_of_getElem? (i := 37) (by decide +kernel)
set_option maxRecDepth 100000 in
theorem wd_252 : (Jvm.Cond.laysFinal "FlowApply$Machine" "FlowApply$Machine" "frames" "LFlowApply$Row;") ∈ fa_wG := fa_it (tb_2 _ (List.mem_of_getElem? (i := 12) rfl)) rfl
set_option maxRecDepth 100000 in
theorem wd_254 : (Jvm.Cond.laysFinal "FlowApply$Machine" "FlowApply$Machine" "tasks" "LFlowApply$Row;") ∈ fa_wG := fa_it (tb_2 _ (List.mem_of_getElem? (i := 14) rfl)) rfl
set_option maxRecDepth 100000 in
theorem wd_256 : (Jvm.Cond.laysFinal "FlowApply$Machine" "FlowApply$Machine" "values" "LFlowApply$Row;") ∈ fa_wG := fa_it (tb_2 _ (List.mem_of_getElem? (i := 16) rfl)) rfl
set_option maxRecDepth 100000 in
theorem wd_258 : (Jvm.Cond.laysFinal "FlowApply$Machine" "FlowApply$Machine" "inside" "LFlowApply$Row;") ∈ fa_wG := fa_it (tb_2 _ (List.mem_of_getElem? (i := 18) rfl)) rfl
set_option maxRecDepth 100000 in
theorem wd_260 : (Jvm.Cond.laysFinal "FlowApply$Machine" "FlowApply$Machine" "framesInside" "LFlowApply$Row;") ∈ fa_wG := fa_it (tb_2 _ (List.mem_of_getElem? (i := 20) rfl)) rfl
set_option maxRecDepth 100000 in
theorem wd_262 : (Jvm.Cond.lays "FlowApply$Machine" "FlowApply$Machine" "performed" "I") ∈ fa_wG := fa_it (tb_2 _ (List.mem_of_getElem? (i := 22) rfl)) rfl
set_option maxRecDepth 100000 in
theorem wd_264 : (Jvm.Cond.lays "FlowApply$Machine" "FlowApply$Machine" "applicable" "I") ∈ fa_wG := fa_it (tb_2 _ (List.mem_of_getElem? (i := 24) rfl)) rfl
set_option maxRecDepth 100000 in
theorem wd_266 : (Jvm.Cond.lays "FlowApply$Machine" "FlowApply$Machine" "ending" "I") ∈ fa_wG := fa_it (tb_2 _ (List.mem_of_getElem? (i := 26) rfl)) rfl
set_option maxRecDepth 100000 in
theorem wd_268 : (Jvm.Cond.lays "FlowApply$Machine" "FlowApply$Machine" "result" "I") ∈ fa_wG := fa_it (tb_2 _ (List.mem_of_getElem? (i := 28) rfl)) rfl
set_option maxRecDepth 100000 in
theorem wd_270 : (Jvm.Cond.lays "FlowApply$Machine" "FlowApply$Machine" "steps" "I") ∈ fa_wG := fa_it (tb_2 _ (List.mem_of_getElem? (i := 30) rfl)) rfl
set_option maxRecDepth 100000 in
theorem wd_272 : (Jvm.Cond.lays "FlowApply$Machine" "FlowApply$Machine" "deep" "I") ∈ fa_wG := fa_it (tb_2 _ (List.mem_of_getElem? (i := 32) rfl)) rfl
set_option maxRecDepth 100000 in
theorem wd_274 : (Jvm.Cond.lays "FlowApply$Machine" "FlowApply$Machine" "entered" "I") ∈ fa_wG := fa_it (tb_2 _ (List.mem_of_getElem? (i := 34) rfl)) rfl
set_option maxRecDepth 100000 in
theorem wd_277 : (Jvm.Cond.classLink "FlowApply" (47 : Nat) "FlowApply$Scene") ∈ fa_wG := fa_it (tb_2 _ (List.mem_of_getElem? (i := 37) rfl)) rfl
set_option maxRecDepth 100000 in
theorem wd_278 : (Jvm.Cond.instantiable "FlowApply$Scene" (4 : Nat)) ∈ fa_wG := fa_it (tb_2 _ (List.mem_of_getElem? (i := 38) rfl)) rfl
set_option maxRecDepth 100000 in
theorem wd_279 : (Jvm.Cond.methodLinkNest "FlowApply" (49 : Nat) ({ cls := "FlowApply$Scene", name := "<init>", desc := "()V" } : Jvm.MethodName) "FlowApply") ∈ fa_nest := List.mem_of_getElem? (i := 38) (by decide +kernel)
set_option maxRecDepth 100000 in
theorem wd_280 : (Jvm.Cond.instanceMethod ({ cls := "FlowApply$Scene", name := "<init>", desc := "()V" } : Jvm.MethodName)) ∈ fa_wG := fa_it (tb_2 _ (List.mem_of_getElem? (i := 40) rfl)) rfl
set_option maxRecDepth 100000 in
theorem wd_281 : (Jvm.Cond.code ({ cls := "FlowApply$Scene", name := "<init>", desc := "()V" } : Jvm.MethodName) prog_8_method_1_code (1 : Nat) (Option.none : Option Jvm.ClassFile.FieldType)) ∈ fa_wG := fa_it (tb_2 _ (List.mem_of_getElem? (i := 41) rfl)) rfl
set_option maxRecDepth 100000 in
theorem wd_282 : (Jvm.Cond.methodLink "FlowApply$Scene" (1 : Nat) ({ cls := "java/lang/Object", name := "<init>", desc := "()V" } : Jvm.MethodName)) ∈ fa_wG := fa_it (tb_2 _ (List.mem_of_getElem? (i := 42) rfl)) rfl
set_option maxRecDepth 100000 in
theorem wd_283 : (Jvm.Cond.classLink "FlowApply$Scene" (7 : Nat) "FlowApply$Program") ∈ fa_wG := fa_it (tb_2 _ (List.mem_of_getElem? (i := 43) rfl)) rfl
set_option maxRecDepth 100000 in
theorem wd_284 : (Jvm.Cond.methodLinkNest "FlowApply$Scene" (9 : Nat) ({ cls := "FlowApply$Program", name := "<init>", desc := "()V" } : Jvm.MethodName) "FlowApply") ∈ fa_nest := List.mem_of_getElem? (i := 39) (by decide +kernel)
set_option maxRecDepth 100000 in
theorem wd_285 : (Jvm.Cond.classLink "FlowApply$Scene" (16 : Nat) "FlowApply$Typing") ∈ fa_wG := fa_it (tb_2 _ (List.mem_of_getElem? (i := 45) rfl)) rfl
set_option maxRecDepth 100000 in
theorem wd_286 : (Jvm.Cond.instantiable "FlowApply$Typing" (9 : Nat)) ∈ fa_wG := fa_it (tb_2 _ (List.mem_of_getElem? (i := 46) rfl)) rfl
set_option maxRecDepth 100000 in
theorem wd_287 : (Jvm.Cond.methodLinkNest "FlowApply$Scene" (18 : Nat) ({ cls := "FlowApply$Typing", name := "<init>", desc := "()V" } : Jvm.MethodName) "FlowApply") ∈ fa_nest := List.mem_of_getElem? (i := 40) (by decide +kernel)
set_option maxRecDepth 100000 in
theorem wd_288 : (Jvm.Cond.instanceMethod ({ cls := "FlowApply$Typing", name := "<init>", desc := "()V" } : Jvm.MethodName)) ∈ fa_wG := fa_it (tb_2 _ (List.mem_of_getElem? (i := 48) rfl)) rfl
set_option maxRecDepth 100000 in
theorem wd_289 : (Jvm.Cond.code ({ cls := "FlowApply$Typing", name := "<init>", desc := "()V" } : Jvm.MethodName) prog_9_method_1_code (1 : Nat) (Option.none : Option Jvm.ClassFile.FieldType)) ∈ fa_wG := fa_it (tb_2 _ (List.mem_of_getElem? (i := 49) rfl)) rfl
set_option maxRecDepth 100000 in
theorem wd_290 : (Jvm.Cond.methodLink "FlowApply$Typing" (3 : Nat) ({ cls := "java/lang/Object", name := "<init>", desc := "()V" } : Jvm.MethodName)) ∈ fa_wG := fa_it (tb_2 _ (List.mem_of_getElem? (i := 50) rfl)) rfl
set_option maxRecDepth 100000 in
theorem wd_291 : (Jvm.Cond.classLink "FlowApply$Typing" (9 : Nat) "FlowApply$Row") ∈ fa_wG := fa_it (tb_2 _ (List.mem_of_getElem? (i := 51) rfl)) rfl
set_option maxRecDepth 100000 in
theorem wd_292 : (Jvm.Cond.methodLink "FlowApply$Typing" (11 : Nat) ({ cls := "FlowApply$Row", name := "<init>", desc := "(I)V" } : Jvm.MethodName)) ∈ fa_wG := fa_it (tb_2 _ (List.mem_of_getElem? (i := 52) rfl)) rfl
set_option maxRecDepth 100000 in
theorem wd_293 : (Jvm.Cond.fieldLink "FlowApply$Typing" (14 : Nat) "FlowApply$Typing" "links" "LFlowApply$Row;") ∈ fa_wG := fa_it (tb_2 _ (List.mem_of_getElem? (i := 53) rfl)) rfl
set_option maxRecDepth 100000 in
theorem wd_294 : (Jvm.Cond.fieldLink "FlowApply$Typing" (20 : Nat) "FlowApply$Typing" "takes" "LFlowApply$Row;") ∈ fa_wG := fa_it (tb_2 _ (List.mem_of_getElem? (i := 54) rfl)) rfl
set_option maxRecDepth 100000 in
theorem wd_295 : (Jvm.Cond.fieldLink "FlowApply$Typing" (23 : Nat) "FlowApply$Typing" "gives" "LFlowApply$Row;") ∈ fa_wG := fa_it (tb_2 _ (List.mem_of_getElem? (i := 55) rfl)) rfl
set_option maxRecDepth 100000 in
theorem wd_296 : (Jvm.Cond.fieldLink "FlowApply$Typing" (26 : Nat) "FlowApply$Typing" "shapes" "LFlowApply$Row;") ∈ fa_wG := fa_it (tb_2 _ (List.mem_of_getElem? (i := 56) rfl)) rfl
set_option maxRecDepth 100000 in
theorem wd_297 : (Jvm.Cond.fieldLink "FlowApply$Typing" (29 : Nat) "FlowApply$Typing" "ofThing" "LFlowApply$Row;") ∈ fa_wG := fa_it (tb_2 _ (List.mem_of_getElem? (i := 57) rfl)) rfl
set_option maxRecDepth 100000 in
theorem wd_298 : (Jvm.Cond.fieldLinkNest "FlowApply$Machine" (110 : Nat) "FlowApply$Typing" "ofThing" "LFlowApply$Row;" "FlowApply") ∈ fa_nest := List.mem_of_getElem? (i := 41) (by decide +kernel)
set_option maxRecDepth 100000 in
theorem wd_299 : (Jvm.Cond.fieldLinkNest "FlowApply" (228 : Nat) "FlowApply$Typing" "ofThing" "LFlowApply$Row;" "FlowApply") ∈ fa_nest := List.mem_of_getElem? (i := 42) (by decide +kernel)
set_option maxRecDepth 100000 in
theorem wd_300 : (Jvm.Cond.fieldLink "FlowApply$Typing" (32 : Nat) "FlowApply$Typing" "ofVar" "LFlowApply$Row;") ∈ fa_wG := fa_it (tb_2 _ (List.mem_of_getElem? (i := 60) rfl)) rfl
set_option maxRecDepth 100000 in
theorem wd_301 : (Jvm.Cond.fieldLink "FlowApply$Typing" (35 : Nat) "FlowApply$Typing" "ofFunction" "LFlowApply$Row;") ∈ fa_wG := fa_it (tb_2 _ (List.mem_of_getElem? (i := 61) rfl)) rfl
set_option maxRecDepth 100000 in
theorem wd_302 : (Jvm.Cond.fieldLinkNest "FlowApply" (219 : Nat) "FlowApply$Typing" "ofFunction" "LFlowApply$Row;" "FlowApply") ∈ fa_nest := List.mem_of_getElem? (i := 43) (by decide +kernel)
set_option maxRecDepth 100000 in
theorem wd_303 : (Jvm.Cond.fieldLink "FlowApply$Typing" (38 : Nat) "FlowApply$Typing" "pairs" "LFlowApply$Row;") ∈ fa_wG := fa_it (tb_2 _ (List.mem_of_getElem? (i := 63) rfl)) rfl
set_option maxRecDepth 100000 in
theorem wd_304 : (Jvm.Cond.fieldLink "FlowApply$Typing" (41 : Nat) "FlowApply$Typing" "clash" "Z") ∈ fa_wG := fa_it (tb_2 _ (List.mem_of_getElem? (i := 64) rfl)) rfl
set_option maxRecDepth 100000 in
theorem wd_305 : (Jvm.Cond.laysFinal "FlowApply$Typing" "FlowApply$Typing" "links" "LFlowApply$Row;") ∈ fa_wG := fa_it (tb_2 _ (List.mem_of_getElem? (i := 65) rfl)) rfl
set_option maxRecDepth 100000 in
theorem wd_307 : (Jvm.Cond.laysFinal "FlowApply$Typing" "FlowApply$Typing" "takes" "LFlowApply$Row;") ∈ fa_wG := fa_it (tb_2 _ (List.mem_of_getElem? (i := 67) rfl)) rfl
set_option maxRecDepth 100000 in
theorem wd_309 : (Jvm.Cond.laysFinal "FlowApply$Typing" "FlowApply$Typing" "gives" "LFlowApply$Row;") ∈ fa_wG := fa_it (tb_2 _ (List.mem_of_getElem? (i := 69) rfl)) rfl
set_option maxRecDepth 100000 in
theorem wd_311 : (Jvm.Cond.laysFinal "FlowApply$Typing" "FlowApply$Typing" "shapes" "LFlowApply$Row;") ∈ fa_wG := fa_it (tb_2 _ (List.mem_of_getElem? (i := 71) rfl)) rfl
set_option maxRecDepth 100000 in
theorem wd_313 : (Jvm.Cond.laysFinal "FlowApply$Typing" "FlowApply$Typing" "ofThing" "LFlowApply$Row;") ∈ fa_wG := fa_it (tb_2 _ (List.mem_of_getElem? (i := 73) rfl)) rfl
set_option maxRecDepth 100000 in
theorem wd_315 : (Jvm.Cond.laysFinal "FlowApply$Typing" "FlowApply$Typing" "ofVar" "LFlowApply$Row;") ∈ fa_wG := fa_it (tb_2 _ (List.mem_of_getElem? (i := 75) rfl)) rfl
set_option maxRecDepth 100000 in
theorem wd_317 : (Jvm.Cond.laysFinal "FlowApply$Typing" "FlowApply$Typing" "ofFunction" "LFlowApply$Row;") ∈ fa_wG := fa_it (tb_2 _ (List.mem_of_getElem? (i := 77) rfl)) rfl
set_option maxRecDepth 100000 in
theorem wd_319 : (Jvm.Cond.laysFinal "FlowApply$Typing" "FlowApply$Typing" "pairs" "LFlowApply$Row;") ∈ fa_wG := fa_it (tb_2 _ (List.mem_of_getElem? (i := 79) rfl)) rfl
set_option maxRecDepth 100000 in
theorem wd_321 : (Jvm.Cond.lays "FlowApply$Typing" "FlowApply$Typing" "clash" "Z") ∈ fa_wG := fa_it (tb_2 _ (List.mem_of_getElem? (i := 81) rfl)) rfl
set_option maxRecDepth 100000 in
theorem wd_324 : (Jvm.Cond.classLink "FlowApply$Scene" (23 : Nat) "FlowApply$Flow") ∈ fa_wG := fa_it (tb_2 _ (List.mem_of_getElem? (i := 84) rfl)) rfl
set_option maxRecDepth 100000 in
theorem wd_325 : (Jvm.Cond.instantiable "FlowApply$Flow" (8 : Nat)) ∈ fa_wG := fa_it (tb_2 _ (List.mem_of_getElem? (i := 85) rfl)) rfl
set_option maxRecDepth 100000 in
theorem wd_326 : (Jvm.Cond.methodLinkNest "FlowApply$Scene" (25 : Nat) ({ cls := "FlowApply$Flow", name := "<init>", desc := "()V" } : Jvm.MethodName) "FlowApply") ∈ fa_nest := List.mem_of_getElem? (i := 44) (by decide +kernel)
set_option maxRecDepth 100000 in
theorem wd_327 : (Jvm.Cond.instanceMethod ({ cls := "FlowApply$Flow", name := "<init>", desc := "()V" } : Jvm.MethodName)) ∈ fa_wG := fa_it (tb_2 _ (List.mem_of_getElem? (i := 87) rfl)) rfl
set_option maxRecDepth 100000 in
theorem wd_328 : (Jvm.Cond.code ({ cls := "FlowApply$Flow", name := "<init>", desc := "()V" } : Jvm.MethodName) prog_2_method_1_code (1 : Nat) (Option.none : Option Jvm.ClassFile.FieldType)) ∈ fa_wG := fa_it (tb_2 _ (List.mem_of_getElem? (i := 88) rfl)) rfl
set_option maxRecDepth 100000 in
theorem wd_329 : (Jvm.Cond.methodLink "FlowApply$Flow" (3 : Nat) ({ cls := "java/lang/Object", name := "<init>", desc := "()V" } : Jvm.MethodName)) ∈ fa_wG := fa_it (tb_2 _ (List.mem_of_getElem? (i := 89) rfl)) rfl
set_option maxRecDepth 100000 in
theorem wd_330 : (Jvm.Cond.classLink "FlowApply$Flow" (9 : Nat) "FlowApply$Row") ∈ fa_wG := fa_it (tb_2 _ (List.mem_of_getElem? (i := 90) rfl)) rfl
set_option maxRecDepth 100000 in
theorem wd_331 : (Jvm.Cond.methodLink "FlowApply$Flow" (11 : Nat) ({ cls := "FlowApply$Row", name := "<init>", desc := "(I)V" } : Jvm.MethodName)) ∈ fa_wG := fa_it (tb_2 _ (List.mem_of_getElem? (i := 91) rfl)) rfl
set_option maxRecDepth 100000 in
theorem wd_332 : (Jvm.Cond.fieldLink "FlowApply$Flow" (14 : Nat) "FlowApply$Flow" "comes" "LFlowApply$Row;") ∈ fa_wG := fa_it (tb_2 _ (List.mem_of_getElem? (i := 92) rfl)) rfl
set_option maxRecDepth 100000 in
theorem wd_333 : (Jvm.Cond.fieldLinkNest "FlowApply" (251 : Nat) "FlowApply$Flow" "comes" "LFlowApply$Row;" "FlowApply") ∈ fa_nest := List.mem_of_getElem? (i := 45) (by decide +kernel)
set_option maxRecDepth 100000 in
theorem wd_334 : (Jvm.Cond.fieldLink "FlowApply$Flow" (20 : Nat) "FlowApply$Flow" "held" "LFlowApply$Row;") ∈ fa_wG := fa_it (tb_2 _ (List.mem_of_getElem? (i := 94) rfl)) rfl
set_option maxRecDepth 100000 in
theorem wd_335 : (Jvm.Cond.fieldLinkNest "FlowApply" (154 : Nat) "FlowApply$Flow" "held" "LFlowApply$Row;" "FlowApply") ∈ fa_nest := List.mem_of_getElem? (i := 46) (by decide +kernel)
set_option maxRecDepth 100000 in
theorem wd_336 : (Jvm.Cond.fieldLink "FlowApply$Flow" (23 : Nat) "FlowApply$Flow" "calls" "LFlowApply$Row;") ∈ fa_wG := fa_it (tb_2 _ (List.mem_of_getElem? (i := 96) rfl)) rfl
set_option maxRecDepth 100000 in
theorem wd_337 : (Jvm.Cond.fieldLinkNest "FlowApply" (177 : Nat) "FlowApply$Flow" "calls" "LFlowApply$Row;" "FlowApply") ∈ fa_nest := List.mem_of_getElem? (i := 47) (by decide +kernel)
set_option maxRecDepth 100000 in
theorem wd_338 : (Jvm.Cond.fieldLink "FlowApply$Flow" (26 : Nat) "FlowApply$Flow" "reached" "LFlowApply$Row;") ∈ fa_wG := fa_it (tb_2 _ (List.mem_of_getElem? (i := 98) rfl)) rfl
set_option maxRecDepth 100000 in
theorem wd_339 : (Jvm.Cond.fieldLink "FlowApply$Flow" (29 : Nat) "FlowApply$Flow" "rings" "LFlowApply$Row;") ∈ fa_wG := fa_it (tb_2 _ (List.mem_of_getElem? (i := 99) rfl)) rfl
set_option maxRecDepth 100000 in
theorem wd_340 : (Jvm.Cond.fieldLinkNest "FlowApply" (332 : Nat) "FlowApply$Flow" "rings" "LFlowApply$Row;" "FlowApply") ∈ fa_nest := List.mem_of_getElem? (i := 48) (by decide +kernel)
set_option maxRecDepth 100000 in
theorem wd_341 : (Jvm.Cond.fieldLink "FlowApply$Flow" (32 : Nat) "FlowApply$Flow" "made" "I") ∈ fa_wG := fa_it (tb_2 _ (List.mem_of_getElem? (i := 101) rfl)) rfl
set_option maxRecDepth 100000 in
theorem wd_342 : (Jvm.Cond.fieldLinkNest "FlowApply$Groups" (36 : Nat) "FlowApply$Flow" "made" "I" "FlowApply") ∈ fa_nest := List.mem_of_getElem? (i := 49) (by decide +kernel)
set_option maxRecDepth 100000 in
theorem wd_343 : (Jvm.Cond.fieldLinkNest "FlowApply" (138 : Nat) "FlowApply$Flow" "made" "I" "FlowApply") ∈ fa_nest := List.mem_of_getElem? (i := 50) (by decide +kernel)
set_option maxRecDepth 100000 in
theorem wd_344 : (Jvm.Cond.fieldLink "FlowApply$Flow" (36 : Nat) "FlowApply$Flow" "called" "I") ∈ fa_wG := fa_it (tb_2 _ (List.mem_of_getElem? (i := 104) rfl)) rfl
set_option maxRecDepth 100000 in
theorem wd_345 : (Jvm.Cond.fieldLinkNest "FlowApply$Machine" (71 : Nat) "FlowApply$Flow" "called" "I" "FlowApply") ∈ fa_nest := List.mem_of_getElem? (i := 51) (by decide +kernel)
set_option maxRecDepth 100000 in
theorem wd_346 : (Jvm.Cond.fieldLinkNest "FlowApply$Writer" (103 : Nat) "FlowApply$Flow" "called" "I" "FlowApply") ∈ fa_nest := List.mem_of_getElem? (i := 52) (by decide +kernel)
set_option maxRecDepth 100000 in
theorem wd_347 : (Jvm.Cond.fieldLinkNest "FlowApply" (151 : Nat) "FlowApply$Flow" "called" "I" "FlowApply") ∈ fa_nest := List.mem_of_getElem? (i := 53) (by decide +kernel)
set_option maxRecDepth 100000 in
theorem wd_348 : (Jvm.Cond.fieldLink "FlowApply$Flow" (39 : Nat) "FlowApply$Flow" "changed" "Z") ∈ fa_wG := fa_it (tb_2 _ (List.mem_of_getElem? (i := 108) rfl)) rfl
set_option maxRecDepth 100000 in
theorem wd_349 : (Jvm.Cond.laysFinal "FlowApply$Flow" "FlowApply$Flow" "comes" "LFlowApply$Row;") ∈ fa_wG := fa_it (tb_2 _ (List.mem_of_getElem? (i := 109) rfl)) rfl
set_option maxRecDepth 100000 in
theorem wd_351 : (Jvm.Cond.laysFinal "FlowApply$Flow" "FlowApply$Flow" "held" "LFlowApply$Row;") ∈ fa_wG := fa_it (tb_2 _ (List.mem_of_getElem? (i := 111) rfl)) rfl
set_option maxRecDepth 100000 in
theorem wd_353 : (Jvm.Cond.laysFinal "FlowApply$Flow" "FlowApply$Flow" "calls" "LFlowApply$Row;") ∈ fa_wG := fa_it (tb_2 _ (List.mem_of_getElem? (i := 113) rfl)) rfl
set_option maxRecDepth 100000 in
theorem wd_355 : (Jvm.Cond.laysFinal "FlowApply$Flow" "FlowApply$Flow" "reached" "LFlowApply$Row;") ∈ fa_wG := fa_it (tb_2 _ (List.mem_of_getElem? (i := 115) rfl)) rfl
set_option maxRecDepth 100000 in
theorem wd_357 : (Jvm.Cond.laysFinal "FlowApply$Flow" "FlowApply$Flow" "rings" "LFlowApply$Row;") ∈ fa_wG := fa_it (tb_2 _ (List.mem_of_getElem? (i := 117) rfl)) rfl
set_option maxRecDepth 100000 in
theorem wd_359 : (Jvm.Cond.lays "FlowApply$Flow" "FlowApply$Flow" "made" "I") ∈ fa_wG := fa_it (tb_2 _ (List.mem_of_getElem? (i := 119) rfl)) rfl
set_option maxRecDepth 100000 in
theorem wd_361 : (Jvm.Cond.lays "FlowApply$Flow" "FlowApply$Flow" "called" "I") ∈ fa_wG := fa_it (tb_2 _ (List.mem_of_getElem? (i := 121) rfl)) rfl
set_option maxRecDepth 100000 in
theorem wd_363 : (Jvm.Cond.lays "FlowApply$Flow" "FlowApply$Flow" "changed" "Z") ∈ fa_wG := fa_it (tb_2 _ (List.mem_of_getElem? (i := 123) rfl)) rfl
set_option maxRecDepth 100000 in
theorem wd_366 : (Jvm.Cond.classLink "FlowApply$Scene" (30 : Nat) "FlowApply$Groups") ∈ fa_wG := fa_it (tb_2 _ (List.mem_of_getElem? (i := 126) rfl)) rfl
set_option maxRecDepth 100000 in
theorem wd_367 : (Jvm.Cond.instantiable "FlowApply$Groups" (3 : Nat)) ∈ fa_wG := fa_it (tb_2 _ (List.mem_of_getElem? (i := 127) rfl)) rfl
set_option maxRecDepth 100000 in
theorem wd_368 : (Jvm.Cond.methodLinkNest "FlowApply$Scene" (32 : Nat) ({ cls := "FlowApply$Groups", name := "<init>", desc := "()V" } : Jvm.MethodName) "FlowApply") ∈ fa_nest := List.mem_of_getElem? (i := 54) (by decide +kernel)
set_option maxRecDepth 100000 in
theorem wd_369 : (Jvm.Cond.instanceMethod ({ cls := "FlowApply$Groups", name := "<init>", desc := "()V" } : Jvm.MethodName)) ∈ fa_wG := fa_it (tb_2 _ (List.mem_of_getElem? (i := 129) rfl)) rfl
set_option maxRecDepth 100000 in
theorem wd_370 : (Jvm.Cond.code ({ cls := "FlowApply$Groups", name := "<init>", desc := "()V" } : Jvm.MethodName) prog_3_method_1_code (1 : Nat) (Option.none : Option Jvm.ClassFile.FieldType)) ∈ fa_wG := fa_it (tb_2 _ (List.mem_of_getElem? (i := 130) rfl)) rfl
set_option maxRecDepth 100000 in
theorem wd_371 : (Jvm.Cond.methodLink "FlowApply$Groups" (3 : Nat) ({ cls := "java/lang/Object", name := "<init>", desc := "()V" } : Jvm.MethodName)) ∈ fa_wG := fa_it (tb_2 _ (List.mem_of_getElem? (i := 131) rfl)) rfl
set_option maxRecDepth 100000 in
theorem wd_372 : (Jvm.Cond.classLink "FlowApply$Groups" (9 : Nat) "FlowApply$Row") ∈ fa_wG := fa_it (tb_2 _ (List.mem_of_getElem? (i := 132) rfl)) rfl
set_option maxRecDepth 100000 in
theorem wd_373 : (Jvm.Cond.methodLink "FlowApply$Groups" (11 : Nat) ({ cls := "FlowApply$Row", name := "<init>", desc := "(I)V" } : Jvm.MethodName)) ∈ fa_wG := fa_it (tb_2 _ (List.mem_of_getElem? (i := 133) rfl)) rfl
set_option maxRecDepth 100000 in
theorem wd_374 : (Jvm.Cond.fieldLink "FlowApply$Groups" (14 : Nat) "FlowApply$Groups" "sets" "LFlowApply$Row;") ∈ fa_wG := fa_it (tb_2 _ (List.mem_of_getElem? (i := 134) rfl)) rfl
set_option maxRecDepth 100000 in
theorem wd_375 : (Jvm.Cond.fieldLink "FlowApply$Groups" (20 : Nat) "FlowApply$Groups" "manies" "LFlowApply$Row;") ∈ fa_wG := fa_it (tb_2 _ (List.mem_of_getElem? (i := 135) rfl)) rfl
set_option maxRecDepth 100000 in
theorem wd_376 : (Jvm.Cond.fieldLink "FlowApply$Groups" (23 : Nat) "FlowApply$Groups" "mates" "LFlowApply$Row;") ∈ fa_wG := fa_it (tb_2 _ (List.mem_of_getElem? (i := 136) rfl)) rfl
set_option maxRecDepth 100000 in
theorem wd_377 : (Jvm.Cond.laysFinal "FlowApply$Groups" "FlowApply$Groups" "sets" "LFlowApply$Row;") ∈ fa_wG := fa_it (tb_2 _ (List.mem_of_getElem? (i := 137) rfl)) rfl
set_option maxRecDepth 100000 in
theorem wd_379 : (Jvm.Cond.laysFinal "FlowApply$Groups" "FlowApply$Groups" "manies" "LFlowApply$Row;") ∈ fa_wG := fa_it (tb_2 _ (List.mem_of_getElem? (i := 139) rfl)) rfl
set_option maxRecDepth 100000 in
theorem wd_381 : (Jvm.Cond.laysFinal "FlowApply$Groups" "FlowApply$Groups" "mates" "LFlowApply$Row;") ∈ fa_wG := fa_it (tb_2 _ (List.mem_of_getElem? (i := 141) rfl)) rfl
set_option maxRecDepth 100000 in
theorem wd_384 : (Jvm.Cond.fieldLink "FlowApply$Scene" (10 : Nat) "FlowApply$Scene" "program" "LFlowApply$Program;") ∈ fa_wG := fa_it (tb_2 _ (List.mem_of_getElem? (i := 144) rfl)) rfl
set_option maxRecDepth 100000 in
theorem wd_385 : (Jvm.Cond.fieldLinkNest "FlowApply" (61 : Nat) "FlowApply$Scene" "program" "LFlowApply$Program;" "FlowApply") ∈ fa_nest := List.mem_of_getElem? (i := 55) (by decide +kernel)
set_option maxRecDepth 100000 in
theorem wd_386 : (Jvm.Cond.fieldLinkNest "FlowApply$Machine" (82 : Nat) "FlowApply$Scene" "program" "LFlowApply$Program;" "FlowApply") ∈ fa_nest := List.mem_of_getElem? (i := 56) (by decide +kernel)
set_option maxRecDepth 100000 in
theorem wd_387 : (Jvm.Cond.fieldLinkNest "FlowApply$Writer" (43 : Nat) "FlowApply$Scene" "program" "LFlowApply$Program;" "FlowApply") ∈ fa_nest := List.mem_of_getElem? (i := 57) (by decide +kernel)
set_option maxRecDepth 100000 in
theorem wd_388 : (Jvm.Cond.fieldLink "FlowApply$Scene" (19 : Nat) "FlowApply$Scene" "typing" "LFlowApply$Typing;") ∈ fa_wG := fa_it (tb_2 _ (List.mem_of_getElem? (i := 148) rfl)) rfl
set_option maxRecDepth 100000 in
theorem wd_389 : (Jvm.Cond.fieldLinkNest "FlowApply$Machine" (106 : Nat) "FlowApply$Scene" "typing" "LFlowApply$Typing;" "FlowApply") ∈ fa_nest := List.mem_of_getElem? (i := 58) (by decide +kernel)
set_option maxRecDepth 100000 in
theorem wd_390 : (Jvm.Cond.fieldLinkNest "FlowApply" (215 : Nat) "FlowApply$Scene" "typing" "LFlowApply$Typing;" "FlowApply") ∈ fa_nest := List.mem_of_getElem? (i := 59) (by decide +kernel)
set_option maxRecDepth 100000 in
theorem wd_391 : (Jvm.Cond.fieldLink "FlowApply$Scene" (26 : Nat) "FlowApply$Scene" "flow" "LFlowApply$Flow;") ∈ fa_wG := fa_it (tb_2 _ (List.mem_of_getElem? (i := 151) rfl)) rfl
set_option maxRecDepth 100000 in
theorem wd_392 : (Jvm.Cond.fieldLinkNest "FlowApply$Machine" (67 : Nat) "FlowApply$Scene" "flow" "LFlowApply$Flow;" "FlowApply") ∈ fa_nest := List.mem_of_getElem? (i := 60) (by decide +kernel)
set_option maxRecDepth 100000 in
theorem wd_393 : (Jvm.Cond.fieldLinkNest "FlowApply$Writer" (99 : Nat) "FlowApply$Scene" "flow" "LFlowApply$Flow;" "FlowApply") ∈ fa_nest := List.mem_of_getElem? (i := 61) (by decide +kernel)
set_option maxRecDepth 100000 in
theorem wd_394 : (Jvm.Cond.fieldLinkNest "FlowApply" (134 : Nat) "FlowApply$Scene" "flow" "LFlowApply$Flow;" "FlowApply") ∈ fa_nest := List.mem_of_getElem? (i := 62) (by decide +kernel)
set_option maxRecDepth 100000 in
theorem wd_395 : (Jvm.Cond.fieldLink "FlowApply$Scene" (33 : Nat) "FlowApply$Scene" "groups" "LFlowApply$Groups;") ∈ fa_wG := fa_it (tb_2 _ (List.mem_of_getElem? (i := 155) rfl)) rfl
set_option maxRecDepth 100000 in
theorem wd_396 : (Jvm.Cond.fieldLinkNest "FlowApply$Machine" (61 : Nat) "FlowApply$Scene" "groups" "LFlowApply$Groups;" "FlowApply") ∈ fa_nest := List.mem_of_getElem? (i := 63) (by decide +kernel)
set_option maxRecDepth 100000 in
theorem wd_397 : (Jvm.Cond.fieldLinkNest "FlowApply$Writer" (86 : Nat) "FlowApply$Scene" "groups" "LFlowApply$Groups;" "FlowApply") ∈ fa_nest := List.mem_of_getElem? (i := 64) (by decide +kernel)
set_option maxRecDepth 100000 in
theorem wd_398 : (Jvm.Cond.fieldLinkNest "FlowApply" (167 : Nat) "FlowApply$Scene" "groups" "LFlowApply$Groups;" "FlowApply") ∈ fa_nest := List.mem_of_getElem? (i := 65) (by decide +kernel)
set_option maxRecDepth 100000 in
theorem wd_399 : (Jvm.Cond.laysFinal "FlowApply$Scene" "FlowApply$Scene" "program" "LFlowApply$Program;") ∈ fa_wG := fa_it (tb_2 _ (List.mem_of_getElem? (i := 159) rfl)) rfl
set_option maxRecDepth 100000 in
theorem wd_401 : (Jvm.Cond.laysFinal "FlowApply$Scene" "FlowApply$Scene" "typing" "LFlowApply$Typing;") ∈ fa_wG := fa_it (tb_2 _ (List.mem_of_getElem? (i := 161) rfl)) rfl
set_option maxRecDepth 100000 in
theorem wd_403 : (Jvm.Cond.laysFinal "FlowApply$Scene" "FlowApply$Scene" "flow" "LFlowApply$Flow;") ∈ fa_wG := fa_it (tb_2 _ (List.mem_of_getElem? (i := 163) rfl)) rfl
set_option maxRecDepth 100000 in
theorem wd_405 : (Jvm.Cond.laysFinal "FlowApply$Scene" "FlowApply$Scene" "groups" "LFlowApply$Groups;") ∈ fa_wG := fa_it (tb_2 _ (List.mem_of_getElem? (i := 165) rfl)) rfl
set_option maxRecDepth 100000 in
theorem wd_408 : (Jvm.Cond.methodLink "FlowApply" (65 : Nat) ({ cls := "FlowApply$Program", name := "makeDead", desc := "()V" } : Jvm.MethodName)) ∈ fa_wG := fa_it (tb_2 _ (List.mem_of_getElem? (i := 168) rfl)) rfl
set_option maxRecDepth 100000 in
theorem wd_409 : (Jvm.Cond.instanceMethod ({ cls := "FlowApply$Program", name := "makeDead", desc := "()V" } : Jvm.MethodName)) ∈ fa_wG := fa_it (tb_2 _ (List.mem_of_getElem? (i := 169) rfl)) rfl
set_option maxRecDepth 100000 in
theorem wd_410 : (Jvm.Cond.selects "FlowApply$Program" ({ cls := "FlowApply$Program", name := "makeDead", desc := "()V" } : Jvm.MethodName) ({ cls := "FlowApply$Program", name := "makeDead", desc := "()V" } : Jvm.MethodName)) ∈ fa_wG := fa_it (tb_2 _ (List.mem_of_getElem? (i := 170) rfl)) rfl
set_option maxRecDepth 100000 in
theorem wd_411 : (Jvm.Cond.code ({ cls := "FlowApply$Program", name := "makeDead", desc := "()V" } : Jvm.MethodName) prog_5_method_3_code (1 : Nat) (Option.none : Option Jvm.ClassFile.FieldType)) ∈ fa_wG := fa_it (tb_2 _ (List.mem_of_getElem? (i := 171) rfl)) rfl
set_option maxRecDepth 100000 in
theorem wd_412 : (Jvm.Cond.methodLink "FlowApply$Program" (76 : Nat) ({ cls := "FlowApply$Program", name := "clear", desc := "()V" } : Jvm.MethodName)) ∈ fa_wG := fa_it (tb_2 _ (List.mem_of_getElem? (i := 172) rfl)) rfl
set_option maxRecDepth 100000 in
theorem wd_413 : (Jvm.Cond.instanceMethod ({ cls := "FlowApply$Program", name := "clear", desc := "()V" } : Jvm.MethodName)) ∈ fa_wG := fa_it (tb_2 _ (List.mem_of_getElem? (i := 173) rfl)) rfl
set_option maxRecDepth 100000 in
theorem wd_414 : (Jvm.Cond.selects "FlowApply$Program" ({ cls := "FlowApply$Program", name := "clear", desc := "()V" } : Jvm.MethodName) ({ cls := "FlowApply$Program", name := "clear", desc := "()V" } : Jvm.MethodName)) ∈ fa_wG := fa_it (tb_2 _ (List.mem_of_getElem? (i := 174) rfl)) rfl
set_option maxRecDepth 100000 in
theorem wd_415 : (Jvm.Cond.code ({ cls := "FlowApply$Program", name := "clear", desc := "()V" } : Jvm.MethodName) prog_5_method_2_code (1 : Nat) (Option.none : Option Jvm.ClassFile.FieldType)) ∈ fa_wG := fa_it (tb_2 _ (List.mem_of_getElem? (i := 175) rfl)) rfl
set_option maxRecDepth 100000 in
theorem wd_416 : (Jvm.Cond.methodLink "FlowApply$Program" (69 : Nat) ({ cls := "FlowApply$Row", name := "clear", desc := "()V" } : Jvm.MethodName)) ∈ fa_wG := fa_it (tb_2 _ (List.mem_of_getElem? (i := 176) rfl)) rfl
set_option maxRecDepth 100000 in
theorem wd_417 : (Jvm.Cond.methodLink "FlowApply$Program" (72 : Nat) ({ cls := "FlowApply$Row", name := "refill", desc := "(II)V" } : Jvm.MethodName)) ∈ fa_wG := fa_it (tb_2 _ (List.mem_of_getElem? (i := 177) rfl)) rfl
set_option maxRecDepth 100000 in
theorem wd_418 : (Jvm.Cond.methodLink "FlowApply$Program" (77 : Nat) ({ cls := "FlowApply$Program", name := "add", desc := "(IIIIII)I" } : Jvm.MethodName)) ∈ fa_wG := fa_it (tb_2 _ (List.mem_of_getElem? (i := 178) rfl)) rfl
set_option maxRecDepth 100000 in
theorem wd_419 : (Jvm.Cond.instanceMethod ({ cls := "FlowApply$Program", name := "add", desc := "(IIIIII)I" } : Jvm.MethodName)) ∈ fa_wG := fa_it (tb_2 _ (List.mem_of_getElem? (i := 179) rfl)) rfl
set_option maxRecDepth 100000 in
theorem wd_420 : (Jvm.Cond.selects "FlowApply$Program" ({ cls := "FlowApply$Program", name := "add", desc := "(IIIIII)I" } : Jvm.MethodName) ({ cls := "FlowApply$Program", name := "add", desc := "(IIIIII)I" } : Jvm.MethodName)) ∈ fa_wG := fa_it (tb_2 _ (List.mem_of_getElem? (i := 180) rfl)) rfl
set_option maxRecDepth 100000 in
theorem wd_421 : (Jvm.Cond.code ({ cls := "FlowApply$Program", name := "add", desc := "(IIIIII)I" } : Jvm.MethodName) prog_5_method_10_code (8 : Nat) (Option.some Jvm.ClassFile.FieldType.int)) ∈ fa_wG := fa_it (tb_2 _ (List.mem_of_getElem? (i := 181) rfl)) rfl
set_option maxRecDepth 100000 in
theorem wd_422 : (Jvm.Cond.methodLink "FlowApply$Program" (81 : Nat) ({ cls := "FlowApply$Row", name := "size", desc := "()I" } : Jvm.MethodName)) ∈ fa_wG := fa_it (tb_2 _ (List.mem_of_getElem? (i := 182) rfl)) rfl
set_option maxRecDepth 100000 in
theorem wd_423 : (Jvm.Cond.instanceMethod ({ cls := "FlowApply$Row", name := "size", desc := "()I" } : Jvm.MethodName)) ∈ fa_wG := fa_it (tb_2 _ (List.mem_of_getElem? (i := 183) rfl)) rfl
set_option maxRecDepth 100000 in
theorem wd_424 : (Jvm.Cond.selects "FlowApply$Row" ({ cls := "FlowApply$Row", name := "size", desc := "()I" } : Jvm.MethodName) ({ cls := "FlowApply$Row", name := "size", desc := "()I" } : Jvm.MethodName)) ∈ fa_wG := fa_it (tb_2 _ (List.mem_of_getElem? (i := 184) rfl)) rfl
set_option maxRecDepth 100000 in
theorem wd_425 : (Jvm.Cond.code ({ cls := "FlowApply$Row", name := "size", desc := "()I" } : Jvm.MethodName) prog_7_method_2_code (1 : Nat) (Option.some Jvm.ClassFile.FieldType.int)) ∈ fa_wG := fa_it (tb_2 _ (List.mem_of_getElem? (i := 185) rfl)) rfl
set_option maxRecDepth 100000 in
theorem wd_426 : (Jvm.Cond.methodLink "FlowApply$Program" (92 : Nat) ({ cls := "FlowApply$Row", name := "add", desc := "(I)V" } : Jvm.MethodName)) ∈ fa_wG := fa_it (tb_2 _ (List.mem_of_getElem? (i := 186) rfl)) rfl
set_option maxRecDepth 100000 in
theorem wd_427 : (Jvm.Cond.methodLink "FlowApply$Program" (85 : Nat) ({ cls := "FlowApply$Row", name := "at", desc := "(I)I" } : Jvm.MethodName)) ∈ fa_wG := fa_it (tb_2 _ (List.mem_of_getElem? (i := 187) rfl)) rfl
set_option maxRecDepth 100000 in
theorem wd_428 : (Jvm.Cond.instanceMethod ({ cls := "FlowApply$Row", name := "at", desc := "(I)I" } : Jvm.MethodName)) ∈ fa_wG := fa_it (tb_2 _ (List.mem_of_getElem? (i := 188) rfl)) rfl
set_option maxRecDepth 100000 in
theorem wd_429 : (Jvm.Cond.selects "FlowApply$Row" ({ cls := "FlowApply$Row", name := "at", desc := "(I)I" } : Jvm.MethodName) ({ cls := "FlowApply$Row", name := "at", desc := "(I)I" } : Jvm.MethodName)) ∈ fa_wG := fa_it (tb_2 _ (List.mem_of_getElem? (i := 189) rfl)) rfl
set_option maxRecDepth 100000 in
theorem wd_430 : (Jvm.Cond.code ({ cls := "FlowApply$Row", name := "at", desc := "(I)I" } : Jvm.MethodName) prog_7_method_3_code (2 : Nat) (Option.some Jvm.ClassFile.FieldType.int)) ∈ fa_wG := fa_it (tb_2 _ (List.mem_of_getElem? (i := 190) rfl)) rfl
set_option maxRecDepth 100000 in
theorem wd_431 : (Jvm.Cond.methodLink "FlowApply$Program" (94 : Nat) ({ cls := "FlowApply$Row", name := "set", desc := "(II)V" } : Jvm.MethodName)) ∈ fa_wG := fa_it (tb_2 _ (List.mem_of_getElem? (i := 191) rfl)) rfl
set_option maxRecDepth 100000 in
theorem wd_432 : (Jvm.Cond.instanceMethod ({ cls := "FlowApply$Row", name := "set", desc := "(II)V" } : Jvm.MethodName)) ∈ fa_wG := fa_it (tb_2 _ (List.mem_of_getElem? (i := 192) rfl)) rfl
set_option maxRecDepth 100000 in
theorem wd_433 : (Jvm.Cond.selects "FlowApply$Row" ({ cls := "FlowApply$Row", name := "set", desc := "(II)V" } : Jvm.MethodName) ({ cls := "FlowApply$Row", name := "set", desc := "(II)V" } : Jvm.MethodName)) ∈ fa_wG := fa_it (tb_2 _ (List.mem_of_getElem? (i := 193) rfl)) rfl
set_option maxRecDepth 100000 in
theorem wd_434 : (Jvm.Cond.code ({ cls := "FlowApply$Row", name := "set", desc := "(II)V" } : Jvm.MethodName) prog_7_method_6_code (3 : Nat) (Option.none : Option Jvm.ClassFile.FieldType)) ∈ fa_wG := fa_it (tb_2 _ (List.mem_of_getElem? (i := 194) rfl)) rfl
set_option maxRecDepth 100000 in
theorem wd_435 : (Jvm.Cond.methodLink "FlowApply" (70 : Nat) ({ cls := "FlowApply$Scene", name := "settle", desc := "()Z" } : Jvm.MethodName)) ∈ fa_wG := fa_it (tb_2 _ (List.mem_of_getElem? (i := 195) rfl)) rfl
set_option maxRecDepth 100000 in
theorem wd_436 : (Jvm.Cond.instanceMethod ({ cls := "FlowApply$Scene", name := "settle", desc := "()Z" } : Jvm.MethodName)) ∈ fa_wG := fa_it (tb_2 _ (List.mem_of_getElem? (i := 196) rfl)) rfl
set_option maxRecDepth 100000 in
theorem wd_437 : (Jvm.Cond.selects "FlowApply$Scene" ({ cls := "FlowApply$Scene", name := "settle", desc := "()Z" } : Jvm.MethodName) ({ cls := "FlowApply$Scene", name := "settle", desc := "()Z" } : Jvm.MethodName)) ∈ fa_wG := fa_it (tb_2 _ (List.mem_of_getElem? (i := 197) rfl)) rfl
set_option maxRecDepth 100000 in
theorem wd_438 : (Jvm.Cond.code ({ cls := "FlowApply$Scene", name := "settle", desc := "()Z" } : Jvm.MethodName) prog_8_method_2_code (1 : Nat) (Option.some Jvm.ClassFile.FieldType.boolean)) ∈ fa_wG := fa_it (tb_2 _ (List.mem_of_getElem? (i := 198) rfl)) rfl
set_option maxRecDepth 100000 in
theorem wd_439 : (Jvm.Cond.methodLink "FlowApply$Scene" (37 : Nat) ({ cls := "FlowApply$Typing", name := "infer", desc := "(LFlowApply$Program;)Z" } : Jvm.MethodName)) ∈ fa_wG := fa_it (tb_2 _ (List.mem_of_getElem? (i := 199) rfl)) rfl
set_option maxRecDepth 100000 in
theorem wd_440 : (Jvm.Cond.instanceMethod ({ cls := "FlowApply$Typing", name := "infer", desc := "(LFlowApply$Program;)Z" } : Jvm.MethodName)) ∈ fa_wG := fa_it (tb_2 _ (List.mem_of_getElem? (i := 200) rfl)) rfl
set_option maxRecDepth 100000 in
theorem wd_441 : (Jvm.Cond.selects "FlowApply$Typing" ({ cls := "FlowApply$Typing", name := "infer", desc := "(LFlowApply$Program;)Z" } : Jvm.MethodName) ({ cls := "FlowApply$Typing", name := "infer", desc := "(LFlowApply$Program;)Z" } : Jvm.MethodName)) ∈ fa_wG := fa_it (tb_2 _ (List.mem_of_getElem? (i := 201) rfl)) rfl
set_option maxRecDepth 100000 in
theorem wd_442 : (Jvm.Cond.code ({ cls := "FlowApply$Typing", name := "infer", desc := "(LFlowApply$Program;)Z" } : Jvm.MethodName) prog_9_method_2_code (3 : Nat) (Option.some Jvm.ClassFile.FieldType.boolean)) ∈ fa_wG := fa_it (tb_2 _ (List.mem_of_getElem? (i := 202) rfl)) rfl
set_option maxRecDepth 100000 in
theorem wd_443 : (Jvm.Cond.methodLink "FlowApply$Typing" (45 : Nat) ({ cls := "FlowApply$Typing", name := "clear", desc := "(LFlowApply$Program;)V" } : Jvm.MethodName)) ∈ fa_wG := fa_it (tb_2 _ (List.mem_of_getElem? (i := 203) rfl)) rfl
set_option maxRecDepth 100000 in
theorem wd_445 : (Jvm.Cond.instanceMethod ({ cls := "FlowApply$Typing", name := "clear", desc := "(LFlowApply$Program;)V" } : Jvm.MethodName)) ∈ fa_wG := fa_it (tb_2 _ (List.mem_of_getElem? (i := 205) rfl)) rfl
set_option maxRecDepth 100000 in
theorem wd_446 : (Jvm.Cond.code ({ cls := "FlowApply$Typing", name := "clear", desc := "(LFlowApply$Program;)V" } : Jvm.MethodName) prog_9_method_3_code (3 : Nat) (Option.none : Option Jvm.ClassFile.FieldType)) ∈ fa_wG := fa_it (tb_2 _ (List.mem_of_getElem? (i := 206) rfl)) rfl
set_option maxRecDepth 100000 in
theorem wd_447 : (Jvm.Cond.methodLink "FlowApply$Typing" (81 : Nat) ({ cls := "FlowApply$Row", name := "clear", desc := "()V" } : Jvm.MethodName)) ∈ fa_wG := fa_it (tb_2 _ (List.mem_of_getElem? (i := 207) rfl)) rfl
set_option maxRecDepth 100000 in
theorem wd_448 : (Jvm.Cond.methodLink "FlowApply$Typing" (83 : Nat) ({ cls := "FlowApply$Typing", name := "open", desc := "()I" } : Jvm.MethodName)) ∈ fa_wG := fa_it (tb_2 _ (List.mem_of_getElem? (i := 208) rfl)) rfl
set_option maxRecDepth 100000 in
theorem wd_450 : (Jvm.Cond.instanceMethod ({ cls := "FlowApply$Typing", name := "open", desc := "()I" } : Jvm.MethodName)) ∈ fa_wG := fa_it (tb_2 _ (List.mem_of_getElem? (i := 210) rfl)) rfl
set_option maxRecDepth 100000 in
theorem wd_451 : (Jvm.Cond.code ({ cls := "FlowApply$Typing", name := "open", desc := "()I" } : Jvm.MethodName) prog_9_method_4_code (1 : Nat) (Option.some Jvm.ClassFile.FieldType.int)) ∈ fa_wG := fa_it (tb_2 _ (List.mem_of_getElem? (i := 211) rfl)) rfl
set_option maxRecDepth 100000 in
theorem wd_452 : (Jvm.Cond.methodLink "FlowApply$Typing" (89 : Nat) ({ cls := "FlowApply$Typing", name := "arrow", desc := "(II)I" } : Jvm.MethodName)) ∈ fa_wG := fa_it (tb_2 _ (List.mem_of_getElem? (i := 212) rfl)) rfl
set_option maxRecDepth 100000 in
theorem wd_454 : (Jvm.Cond.instanceMethod ({ cls := "FlowApply$Typing", name := "arrow", desc := "(II)I" } : Jvm.MethodName)) ∈ fa_wG := fa_it (tb_2 _ (List.mem_of_getElem? (i := 214) rfl)) rfl
set_option maxRecDepth 100000 in
theorem wd_455 : (Jvm.Cond.code ({ cls := "FlowApply$Typing", name := "arrow", desc := "(II)I" } : Jvm.MethodName) prog_9_method_5_code (4 : Nat) (Option.some Jvm.ClassFile.FieldType.int)) ∈ fa_wG := fa_it (tb_2 _ (List.mem_of_getElem? (i := 215) rfl)) rfl
set_option maxRecDepth 100000 in
theorem wd_456 : (Jvm.Cond.methodLink "FlowApply$Typing" (93 : Nat) ({ cls := "FlowApply$Row", name := "size", desc := "()I" } : Jvm.MethodName)) ∈ fa_wG := fa_it (tb_2 _ (List.mem_of_getElem? (i := 216) rfl)) rfl
set_option maxRecDepth 100000 in
theorem wd_457 : (Jvm.Cond.methodLink "FlowApply$Typing" (59 : Nat) ({ cls := "FlowApply$Row", name := "add", desc := "(I)V" } : Jvm.MethodName)) ∈ fa_wG := fa_it (tb_2 _ (List.mem_of_getElem? (i := 217) rfl)) rfl
set_option maxRecDepth 100000 in
theorem wd_458 : (Jvm.Cond.methodLink "FlowApply$Typing" (66 : Nat) ({ cls := "FlowApply$Row", name := "at", desc := "(I)I" } : Jvm.MethodName)) ∈ fa_wG := fa_it (tb_2 _ (List.mem_of_getElem? (i := 218) rfl)) rfl
set_option maxRecDepth 100000 in
theorem wd_459 : (Jvm.Cond.methodLink "FlowApply$Typing" (49 : Nat) ({ cls := "FlowApply$Program", name := "things", desc := "()I" } : Jvm.MethodName)) ∈ fa_wG := fa_it (tb_2 _ (List.mem_of_getElem? (i := 219) rfl)) rfl
set_option maxRecDepth 100000 in
theorem wd_460 : (Jvm.Cond.instanceMethod ({ cls := "FlowApply$Program", name := "things", desc := "()I" } : Jvm.MethodName)) ∈ fa_wG := fa_it (tb_2 _ (List.mem_of_getElem? (i := 220) rfl)) rfl
set_option maxRecDepth 100000 in
theorem wd_461 : (Jvm.Cond.selects "FlowApply$Program" ({ cls := "FlowApply$Program", name := "things", desc := "()I" } : Jvm.MethodName) ({ cls := "FlowApply$Program", name := "things", desc := "()I" } : Jvm.MethodName)) ∈ fa_wG := fa_it (tb_2 _ (List.mem_of_getElem? (i := 221) rfl)) rfl
set_option maxRecDepth 100000 in
theorem wd_462 : (Jvm.Cond.code ({ cls := "FlowApply$Program", name := "things", desc := "()I" } : Jvm.MethodName) prog_5_method_4_code (1 : Nat) (Option.some Jvm.ClassFile.FieldType.int)) ∈ fa_wG := fa_it (tb_2 _ (List.mem_of_getElem? (i := 222) rfl)) rfl
set_option maxRecDepth 100000 in
theorem wd_463 : (Jvm.Cond.methodLink "FlowApply$Typing" (55 : Nat) ({ cls := "FlowApply$Typing", name := "typed", desc := "(LFlowApply$Program;I)I" } : Jvm.MethodName)) ∈ fa_wG := fa_it (tb_2 _ (List.mem_of_getElem? (i := 223) rfl)) rfl
set_option maxRecDepth 100000 in
theorem wd_465 : (Jvm.Cond.instanceMethod ({ cls := "FlowApply$Typing", name := "typed", desc := "(LFlowApply$Program;I)I" } : Jvm.MethodName)) ∈ fa_wG := fa_it (tb_2 _ (List.mem_of_getElem? (i := 225) rfl)) rfl
set_option maxRecDepth 100000 in
theorem wd_466 : (Jvm.Cond.code ({ cls := "FlowApply$Typing", name := "typed", desc := "(LFlowApply$Program;I)I" } : Jvm.MethodName) prog_9_method_6_code (6 : Nat) (Option.some Jvm.ClassFile.FieldType.int)) ∈ fa_wG := fa_it (tb_2 _ (List.mem_of_getElem? (i := 226) rfl)) rfl
set_option maxRecDepth 100000 in
theorem wd_467 : (Jvm.Cond.methodLink "FlowApply$Typing" (96 : Nat) ({ cls := "FlowApply$Program", name := "part", desc := "(II)I" } : Jvm.MethodName)) ∈ fa_wG := fa_it (tb_2 _ (List.mem_of_getElem? (i := 227) rfl)) rfl
set_option maxRecDepth 100000 in
theorem wd_468 : (Jvm.Cond.instanceMethod ({ cls := "FlowApply$Program", name := "part", desc := "(II)I" } : Jvm.MethodName)) ∈ fa_wG := fa_it (tb_2 _ (List.mem_of_getElem? (i := 228) rfl)) rfl
set_option maxRecDepth 100000 in
theorem wd_469 : (Jvm.Cond.selects "FlowApply$Program" ({ cls := "FlowApply$Program", name := "part", desc := "(II)I" } : Jvm.MethodName) ({ cls := "FlowApply$Program", name := "part", desc := "(II)I" } : Jvm.MethodName)) ∈ fa_wG := fa_it (tb_2 _ (List.mem_of_getElem? (i := 229) rfl)) rfl
set_option maxRecDepth 100000 in
theorem wd_470 : (Jvm.Cond.code ({ cls := "FlowApply$Program", name := "part", desc := "(II)I" } : Jvm.MethodName) prog_5_method_8_code (3 : Nat) (Option.some Jvm.ClassFile.FieldType.int)) ∈ fa_wG := fa_it (tb_2 _ (List.mem_of_getElem? (i := 230) rfl)) rfl
set_option maxRecDepth 100000 in
theorem wd_471 : (Jvm.Cond.methodLink "FlowApply$Typing" (99 : Nat) ({ cls := "FlowApply$Program", name := "kind", desc := "(I)I" } : Jvm.MethodName)) ∈ fa_wG := fa_it (tb_2 _ (List.mem_of_getElem? (i := 231) rfl)) rfl
set_option maxRecDepth 100000 in
theorem wd_472 : (Jvm.Cond.instanceMethod ({ cls := "FlowApply$Program", name := "kind", desc := "(I)I" } : Jvm.MethodName)) ∈ fa_wG := fa_it (tb_2 _ (List.mem_of_getElem? (i := 232) rfl)) rfl
set_option maxRecDepth 100000 in
theorem wd_473 : (Jvm.Cond.selects "FlowApply$Program" ({ cls := "FlowApply$Program", name := "kind", desc := "(I)I" } : Jvm.MethodName) ({ cls := "FlowApply$Program", name := "kind", desc := "(I)I" } : Jvm.MethodName)) ∈ fa_wG := fa_it (tb_2 _ (List.mem_of_getElem? (i := 233) rfl)) rfl
set_option maxRecDepth 100000 in
theorem wd_474 : (Jvm.Cond.code ({ cls := "FlowApply$Program", name := "kind", desc := "(I)I" } : Jvm.MethodName) prog_5_method_5_code (2 : Nat) (Option.some Jvm.ClassFile.FieldType.int)) ∈ fa_wG := fa_it (tb_2 _ (List.mem_of_getElem? (i := 234) rfl)) rfl
set_option maxRecDepth 100000 in
theorem wd_475 : (Jvm.Cond.methodLink "FlowApply$Typing" (102 : Nat) ({ cls := "FlowApply$Program", name := "value", desc := "(I)I" } : Jvm.MethodName)) ∈ fa_wG := fa_it (tb_2 _ (List.mem_of_getElem? (i := 235) rfl)) rfl
set_option maxRecDepth 100000 in
theorem wd_476 : (Jvm.Cond.instanceMethod ({ cls := "FlowApply$Program", name := "value", desc := "(I)I" } : Jvm.MethodName)) ∈ fa_wG := fa_it (tb_2 _ (List.mem_of_getElem? (i := 236) rfl)) rfl
set_option maxRecDepth 100000 in
theorem wd_477 : (Jvm.Cond.selects "FlowApply$Program" ({ cls := "FlowApply$Program", name := "value", desc := "(I)I" } : Jvm.MethodName) ({ cls := "FlowApply$Program", name := "value", desc := "(I)I" } : Jvm.MethodName)) ∈ fa_wG := fa_it (tb_2 _ (List.mem_of_getElem? (i := 237) rfl)) rfl
set_option maxRecDepth 100000 in
theorem wd_478 : (Jvm.Cond.code ({ cls := "FlowApply$Program", name := "value", desc := "(I)I" } : Jvm.MethodName) prog_5_method_6_code (2 : Nat) (Option.some Jvm.ClassFile.FieldType.int)) ∈ fa_wG := fa_it (tb_2 _ (List.mem_of_getElem? (i := 238) rfl)) rfl
set_option maxRecDepth 100000 in
theorem wd_479 : (Jvm.Cond.methodLink "FlowApply$Typing" (73 : Nat) ({ cls := "FlowApply$Typing", name := "unify", desc := "(II)V" } : Jvm.MethodName)) ∈ fa_wG := fa_it (tb_2 _ (List.mem_of_getElem? (i := 239) rfl)) rfl
set_option maxRecDepth 100000 in
theorem wd_481 : (Jvm.Cond.instanceMethod ({ cls := "FlowApply$Typing", name := "unify", desc := "(II)V" } : Jvm.MethodName)) ∈ fa_wG := fa_it (tb_3 _ (List.mem_of_getElem? (i := 1) rfl)) rfl
set_option maxRecDepth 100000 in
theorem wd_482 : (Jvm.Cond.code ({ cls := "FlowApply$Typing", name := "unify", desc := "(II)V" } : Jvm.MethodName) prog_9_method_12_code (6 : Nat) (Option.none : Option Jvm.ClassFile.FieldType)) ∈ fa_wG := fa_it (tb_3 _ (List.mem_of_getElem? (i := 2) rfl)) rfl
set_option maxRecDepth 100000 in
theorem wd_483 : (Jvm.Cond.constant "FlowApply$Typing" (108 : Nat) (1000000 : Int32)) ∈ fa_wG := fa_it (tb_3 _ (List.mem_of_getElem? (i := 3) rfl)) rfl
set_option maxRecDepth 100000 in
theorem wd_484 : (Jvm.Cond.methodLink "FlowApply$Typing" (109 : Nat) ({ cls := "FlowApply$Row", name := "drop", desc := "()I" } : Jvm.MethodName)) ∈ fa_wG := fa_it (tb_3 _ (List.mem_of_getElem? (i := 4) rfl)) rfl
set_option maxRecDepth 100000 in
theorem wd_485 : (Jvm.Cond.instanceMethod ({ cls := "FlowApply$Row", name := "drop", desc := "()I" } : Jvm.MethodName)) ∈ fa_wG := fa_it (tb_3 _ (List.mem_of_getElem? (i := 5) rfl)) rfl
set_option maxRecDepth 100000 in
theorem wd_486 : (Jvm.Cond.selects "FlowApply$Row" ({ cls := "FlowApply$Row", name := "drop", desc := "()I" } : Jvm.MethodName) ({ cls := "FlowApply$Row", name := "drop", desc := "()I" } : Jvm.MethodName)) ∈ fa_wG := fa_it (tb_3 _ (List.mem_of_getElem? (i := 6) rfl)) rfl
set_option maxRecDepth 100000 in
theorem wd_487 : (Jvm.Cond.code ({ cls := "FlowApply$Row", name := "drop", desc := "()I" } : Jvm.MethodName) prog_7_method_7_code (2 : Nat) (Option.some Jvm.ClassFile.FieldType.int)) ∈ fa_wG := fa_it (tb_3 _ (List.mem_of_getElem? (i := 7) rfl)) rfl
set_option maxRecDepth 100000 in
theorem wd_488 : (Jvm.Cond.methodLink "FlowApply$Row" (25 : Nat) ({ cls := "FlowApply$Row", name := "at", desc := "(I)I" } : Jvm.MethodName)) ∈ fa_wG := fa_it (tb_3 _ (List.mem_of_getElem? (i := 8) rfl)) rfl
set_option maxRecDepth 100000 in
theorem wd_489 : (Jvm.Cond.methodLink "FlowApply$Row" (29 : Nat) ({ cls := "FlowApply$Row", name := "cut", desc := "(I)V" } : Jvm.MethodName)) ∈ fa_wG := fa_it (tb_3 _ (List.mem_of_getElem? (i := 9) rfl)) rfl
set_option maxRecDepth 100000 in
theorem wd_490 : (Jvm.Cond.instanceMethod ({ cls := "FlowApply$Row", name := "cut", desc := "(I)V" } : Jvm.MethodName)) ∈ fa_wG := fa_it (tb_3 _ (List.mem_of_getElem? (i := 10) rfl)) rfl
set_option maxRecDepth 100000 in
theorem wd_491 : (Jvm.Cond.selects "FlowApply$Row" ({ cls := "FlowApply$Row", name := "cut", desc := "(I)V" } : Jvm.MethodName) ({ cls := "FlowApply$Row", name := "cut", desc := "(I)V" } : Jvm.MethodName)) ∈ fa_wG := fa_it (tb_3 _ (List.mem_of_getElem? (i := 11) rfl)) rfl
set_option maxRecDepth 100000 in
theorem wd_492 : (Jvm.Cond.code ({ cls := "FlowApply$Row", name := "cut", desc := "(I)V" } : Jvm.MethodName) prog_7_method_9_code (2 : Nat) (Option.none : Option Jvm.ClassFile.FieldType)) ∈ fa_wG := fa_it (tb_3 _ (List.mem_of_getElem? (i := 12) rfl)) rfl
set_option maxRecDepth 100000 in
theorem wd_493 : (Jvm.Cond.methodLink "FlowApply$Typing" (105 : Nat) ({ cls := "FlowApply$Typing", name := "root", desc := "(I)I" } : Jvm.MethodName)) ∈ fa_wG := fa_it (tb_3 _ (List.mem_of_getElem? (i := 13) rfl)) rfl
set_option maxRecDepth 100000 in
theorem wd_494 : (Jvm.Cond.instanceMethod ({ cls := "FlowApply$Typing", name := "root", desc := "(I)I" } : Jvm.MethodName)) ∈ fa_wG := fa_it (tb_3 _ (List.mem_of_getElem? (i := 14) rfl)) rfl
set_option maxRecDepth 100000 in
theorem wd_495 : (Jvm.Cond.selects "FlowApply$Typing" ({ cls := "FlowApply$Typing", name := "root", desc := "(I)I" } : Jvm.MethodName) ({ cls := "FlowApply$Typing", name := "root", desc := "(I)I" } : Jvm.MethodName)) ∈ fa_wG := fa_it (tb_3 _ (List.mem_of_getElem? (i := 15) rfl)) rfl
set_option maxRecDepth 100000 in
theorem wd_496 : (Jvm.Cond.code ({ cls := "FlowApply$Typing", name := "root", desc := "(I)I" } : Jvm.MethodName) prog_9_method_7_code (4 : Nat) (Option.some Jvm.ClassFile.FieldType.int)) ∈ fa_wG := fa_it (tb_3 _ (List.mem_of_getElem? (i := 16) rfl)) rfl
set_option maxRecDepth 100000 in
theorem wd_497 : (Jvm.Cond.methodLink "FlowApply$Typing" (112 : Nat) ({ cls := "FlowApply$Typing", name := "isOpen", desc := "(I)Z" } : Jvm.MethodName)) ∈ fa_wG := fa_it (tb_3 _ (List.mem_of_getElem? (i := 17) rfl)) rfl
set_option maxRecDepth 100000 in
theorem wd_499 : (Jvm.Cond.instanceMethod ({ cls := "FlowApply$Typing", name := "isOpen", desc := "(I)Z" } : Jvm.MethodName)) ∈ fa_wG := fa_it (tb_3 _ (List.mem_of_getElem? (i := 19) rfl)) rfl
set_option maxRecDepth 100000 in
theorem wd_500 : (Jvm.Cond.code ({ cls := "FlowApply$Typing", name := "isOpen", desc := "(I)Z" } : Jvm.MethodName) prog_9_method_13_code (2 : Nat) (Option.some Jvm.ClassFile.FieldType.boolean)) ∈ fa_wG := fa_it (tb_3 _ (List.mem_of_getElem? (i := 20) rfl)) rfl
set_option maxRecDepth 100000 in
theorem wd_501 : (Jvm.Cond.methodLink "FlowApply$Typing" (116 : Nat) ({ cls := "FlowApply$Row", name := "set", desc := "(II)V" } : Jvm.MethodName)) ∈ fa_wG := fa_it (tb_3 _ (List.mem_of_getElem? (i := 21) rfl)) rfl
set_option maxRecDepth 100000 in
theorem wd_502 : (Jvm.Cond.methodLink "FlowApply$Typing" (119 : Nat) ({ cls := "FlowApply$Typing", name := "isArrow", desc := "(I)Z" } : Jvm.MethodName)) ∈ fa_wG := fa_it (tb_3 _ (List.mem_of_getElem? (i := 22) rfl)) rfl
set_option maxRecDepth 100000 in
theorem wd_503 : (Jvm.Cond.instanceMethod ({ cls := "FlowApply$Typing", name := "isArrow", desc := "(I)Z" } : Jvm.MethodName)) ∈ fa_wG := fa_it (tb_3 _ (List.mem_of_getElem? (i := 23) rfl)) rfl
set_option maxRecDepth 100000 in
theorem wd_504 : (Jvm.Cond.selects "FlowApply$Typing" ({ cls := "FlowApply$Typing", name := "isArrow", desc := "(I)Z" } : Jvm.MethodName) ({ cls := "FlowApply$Typing", name := "isArrow", desc := "(I)Z" } : Jvm.MethodName)) ∈ fa_wG := fa_it (tb_3 _ (List.mem_of_getElem? (i := 24) rfl)) rfl
set_option maxRecDepth 100000 in
theorem wd_505 : (Jvm.Cond.code ({ cls := "FlowApply$Typing", name := "isArrow", desc := "(I)Z" } : Jvm.MethodName) prog_9_method_9_code (2 : Nat) (Option.some Jvm.ClassFile.FieldType.boolean)) ∈ fa_wG := fa_it (tb_3 _ (List.mem_of_getElem? (i := 25) rfl)) rfl
set_option maxRecDepth 100000 in
theorem wd_506 : (Jvm.Cond.methodLink "FlowApply$Typing" (77 : Nat) ({ cls := "FlowApply$Typing", name := "nameShapes", desc := "()Z" } : Jvm.MethodName)) ∈ fa_wG := fa_it (tb_3 _ (List.mem_of_getElem? (i := 26) rfl)) rfl
set_option maxRecDepth 100000 in
theorem wd_508 : (Jvm.Cond.instanceMethod ({ cls := "FlowApply$Typing", name := "nameShapes", desc := "()Z" } : Jvm.MethodName)) ∈ fa_wG := fa_it (tb_3 _ (List.mem_of_getElem? (i := 28) rfl)) rfl
set_option maxRecDepth 100000 in
theorem wd_509 : (Jvm.Cond.code ({ cls := "FlowApply$Typing", name := "nameShapes", desc := "()Z" } : Jvm.MethodName) prog_9_method_14_code (4 : Nat) (Option.some Jvm.ClassFile.FieldType.boolean)) ∈ fa_wG := fa_it (tb_3 _ (List.mem_of_getElem? (i := 29) rfl)) rfl
set_option maxRecDepth 100000 in
theorem wd_510 : (Jvm.Cond.methodLink "FlowApply$Typing" (122 : Nat) ({ cls := "FlowApply$Row", name := "refill", desc := "(II)V" } : Jvm.MethodName)) ∈ fa_wG := fa_it (tb_3 _ (List.mem_of_getElem? (i := 30) rfl)) rfl
set_option maxRecDepth 100000 in
theorem wd_511 : (Jvm.Cond.methodLink "FlowApply$Typing" (125 : Nat) ({ cls := "FlowApply$Typing", name := "shapeOf", desc := "(I)I" } : Jvm.MethodName)) ∈ fa_wG := fa_it (tb_3 _ (List.mem_of_getElem? (i := 31) rfl)) rfl
set_option maxRecDepth 100000 in
theorem wd_513 : (Jvm.Cond.instanceMethod ({ cls := "FlowApply$Typing", name := "shapeOf", desc := "(I)I" } : Jvm.MethodName)) ∈ fa_wG := fa_it (tb_3 _ (List.mem_of_getElem? (i := 33) rfl)) rfl
set_option maxRecDepth 100000 in
theorem wd_514 : (Jvm.Cond.code ({ cls := "FlowApply$Typing", name := "shapeOf", desc := "(I)I" } : Jvm.MethodName) prog_9_method_15_code (5 : Nat) (Option.some Jvm.ClassFile.FieldType.int)) ∈ fa_wG := fa_it (tb_3 _ (List.mem_of_getElem? (i := 34) rfl)) rfl
set_option maxRecDepth 100000 in
theorem wd_515 : (Jvm.Cond.methodLink "FlowApply$Scene" (41 : Nat) ({ cls := "FlowApply$Flow", name := "solve", desc := "(LFlowApply$Program;)V" } : Jvm.MethodName)) ∈ fa_wG := fa_it (tb_3 _ (List.mem_of_getElem? (i := 35) rfl)) rfl
set_option maxRecDepth 100000 in
theorem wd_516 : (Jvm.Cond.instanceMethod ({ cls := "FlowApply$Flow", name := "solve", desc := "(LFlowApply$Program;)V" } : Jvm.MethodName)) ∈ fa_wG := fa_it (tb_3 _ (List.mem_of_getElem? (i := 36) rfl)) rfl
set_option maxRecDepth 100000 in
theorem wd_517 : (Jvm.Cond.selects "FlowApply$Flow" ({ cls := "FlowApply$Flow", name := "solve", desc := "(LFlowApply$Program;)V" } : Jvm.MethodName) ({ cls := "FlowApply$Flow", name := "solve", desc := "(LFlowApply$Program;)V" } : Jvm.MethodName)) ∈ fa_wG := fa_it (tb_3 _ (List.mem_of_getElem? (i := 37) rfl)) rfl
set_option maxRecDepth 100000 in
theorem wd_518 : (Jvm.Cond.code ({ cls := "FlowApply$Flow", name := "solve", desc := "(LFlowApply$Program;)V" } : Jvm.MethodName) prog_2_method_2_code (4 : Nat) (Option.none : Option Jvm.ClassFile.FieldType)) ∈ fa_wG := fa_it (tb_3 _ (List.mem_of_getElem? (i := 38) rfl)) rfl
set_option maxRecDepth 100000 in
theorem wd_519 : (Jvm.Cond.methodLink "FlowApply$Flow" (43 : Nat) ({ cls := "FlowApply$Program", name := "things", desc := "()I" } : Jvm.MethodName)) ∈ fa_wG := fa_it (tb_3 _ (List.mem_of_getElem? (i := 39) rfl)) rfl
set_option maxRecDepth 100000 in
theorem wd_520 : (Jvm.Cond.methodLink "FlowApply$Flow" (49 : Nat) ({ cls := "FlowApply$Row", name := "refill", desc := "(II)V" } : Jvm.MethodName)) ∈ fa_wG := fa_it (tb_3 _ (List.mem_of_getElem? (i := 40) rfl)) rfl
set_option maxRecDepth 100000 in
theorem wd_521 : (Jvm.Cond.constant "FlowApply$Flow" (53 : Nat) (1000000 : Int32)) ∈ fa_wG := fa_it (tb_3 _ (List.mem_of_getElem? (i := 41) rfl)) rfl
set_option maxRecDepth 100000 in
theorem wd_522 : (Jvm.Cond.methodLink "FlowApply$Flow" (54 : Nat) ({ cls := "FlowApply$Program", name := "owner", desc := "(I)I" } : Jvm.MethodName)) ∈ fa_wG := fa_it (tb_3 _ (List.mem_of_getElem? (i := 42) rfl)) rfl
set_option maxRecDepth 100000 in
theorem wd_523 : (Jvm.Cond.instanceMethod ({ cls := "FlowApply$Program", name := "owner", desc := "(I)I" } : Jvm.MethodName)) ∈ fa_wG := fa_it (tb_3 _ (List.mem_of_getElem? (i := 43) rfl)) rfl
set_option maxRecDepth 100000 in
theorem wd_524 : (Jvm.Cond.selects "FlowApply$Program" ({ cls := "FlowApply$Program", name := "owner", desc := "(I)I" } : Jvm.MethodName) ({ cls := "FlowApply$Program", name := "owner", desc := "(I)I" } : Jvm.MethodName)) ∈ fa_wG := fa_it (tb_3 _ (List.mem_of_getElem? (i := 44) rfl)) rfl
set_option maxRecDepth 100000 in
theorem wd_525 : (Jvm.Cond.code ({ cls := "FlowApply$Program", name := "owner", desc := "(I)I" } : Jvm.MethodName) prog_5_method_7_code (2 : Nat) (Option.some Jvm.ClassFile.FieldType.int)) ∈ fa_wG := fa_it (tb_3 _ (List.mem_of_getElem? (i := 45) rfl)) rfl
set_option maxRecDepth 100000 in
theorem wd_526 : (Jvm.Cond.methodLink "FlowApply$Flow" (58 : Nat) ({ cls := "FlowApply$Flow", name := "looked", desc := "(I)Z" } : Jvm.MethodName)) ∈ fa_wG := fa_it (tb_3 _ (List.mem_of_getElem? (i := 46) rfl)) rfl
set_option maxRecDepth 100000 in
theorem wd_527 : (Jvm.Cond.instanceMethod ({ cls := "FlowApply$Flow", name := "looked", desc := "(I)Z" } : Jvm.MethodName)) ∈ fa_wG := fa_it (tb_3 _ (List.mem_of_getElem? (i := 47) rfl)) rfl
set_option maxRecDepth 100000 in
theorem wd_528 : (Jvm.Cond.selects "FlowApply$Flow" ({ cls := "FlowApply$Flow", name := "looked", desc := "(I)Z" } : Jvm.MethodName) ({ cls := "FlowApply$Flow", name := "looked", desc := "(I)Z" } : Jvm.MethodName)) ∈ fa_wG := fa_it (tb_3 _ (List.mem_of_getElem? (i := 48) rfl)) rfl
set_option maxRecDepth 100000 in
theorem wd_529 : (Jvm.Cond.code ({ cls := "FlowApply$Flow", name := "looked", desc := "(I)Z" } : Jvm.MethodName) prog_2_method_3_code (2 : Nat) (Option.some Jvm.ClassFile.FieldType.boolean)) ∈ fa_wG := fa_it (tb_3 _ (List.mem_of_getElem? (i := 49) rfl)) rfl
set_option maxRecDepth 100000 in
theorem wd_530 : (Jvm.Cond.methodLinkNest "FlowApply$Flow" (76 : Nat) ({ cls := "FlowApply", name := "hasBit", desc := "(II)Z" } : Jvm.MethodName) "FlowApply") ∈ fa_nest := List.mem_of_getElem? (i := 66) (by decide +kernel)
set_option maxRecDepth 100000 in
theorem wd_531 : (Jvm.Cond.static ({ cls := "FlowApply", name := "hasBit", desc := "(II)Z" } : Jvm.MethodName)) ∈ fa_wG := fa_it (tb_3 _ (List.mem_of_getElem? (i := 51) rfl)) rfl
set_option maxRecDepth 100000 in
theorem wd_532 : (Jvm.Cond.code ({ cls := "FlowApply", name := "hasBit", desc := "(II)Z" } : Jvm.MethodName) prog_1_method_35_code (2 : Nat) (Option.some Jvm.ClassFile.FieldType.boolean)) ∈ fa_wG := fa_it (tb_3 _ (List.mem_of_getElem? (i := 52) rfl)) rfl
set_option maxRecDepth 100000 in
theorem wd_533 : (Jvm.Cond.methodLink "FlowApply$Flow" (62 : Nat) ({ cls := "FlowApply$Flow", name := "look", desc := "(LFlowApply$Program;I)V" } : Jvm.MethodName)) ∈ fa_wG := fa_it (tb_3 _ (List.mem_of_getElem? (i := 53) rfl)) rfl
set_option maxRecDepth 100000 in
theorem wd_535 : (Jvm.Cond.instanceMethod ({ cls := "FlowApply$Flow", name := "look", desc := "(LFlowApply$Program;I)V" } : Jvm.MethodName)) ∈ fa_wG := fa_it (tb_3 _ (List.mem_of_getElem? (i := 55) rfl)) rfl
set_option maxRecDepth 100000 in
theorem wd_536 : (Jvm.Cond.code ({ cls := "FlowApply$Flow", name := "look", desc := "(LFlowApply$Program;I)V" } : Jvm.MethodName) prog_2_method_4_code (4 : Nat) (Option.none : Option Jvm.ClassFile.FieldType)) ∈ fa_wG := fa_it (tb_3 _ (List.mem_of_getElem? (i := 56) rfl)) rfl
set_option maxRecDepth 100000 in
theorem wd_537 : (Jvm.Cond.methodLink "FlowApply$Flow" (80 : Nat) ({ cls := "FlowApply$Program", name := "kind", desc := "(I)I" } : Jvm.MethodName)) ∈ fa_wG := fa_it (tb_3 _ (List.mem_of_getElem? (i := 57) rfl)) rfl
set_option maxRecDepth 100000 in
theorem wd_538 : (Jvm.Cond.methodLink "FlowApply$Flow" (83 : Nat) ({ cls := "FlowApply$Program", name := "value", desc := "(I)I" } : Jvm.MethodName)) ∈ fa_wG := fa_it (tb_3 _ (List.mem_of_getElem? (i := 58) rfl)) rfl
set_option maxRecDepth 100000 in
theorem wd_539 : (Jvm.Cond.methodLink "FlowApply$Flow" (86 : Nat) ({ cls := "FlowApply$Row", name := "bits", desc := "(I)I" } : Jvm.MethodName)) ∈ fa_wG := fa_it (tb_3 _ (List.mem_of_getElem? (i := 59) rfl)) rfl
set_option maxRecDepth 100000 in
theorem wd_540 : (Jvm.Cond.instanceMethod ({ cls := "FlowApply$Row", name := "bits", desc := "(I)I" } : Jvm.MethodName)) ∈ fa_wG := fa_it (tb_3 _ (List.mem_of_getElem? (i := 60) rfl)) rfl
set_option maxRecDepth 100000 in
theorem wd_541 : (Jvm.Cond.selects "FlowApply$Row" ({ cls := "FlowApply$Row", name := "bits", desc := "(I)I" } : Jvm.MethodName) ({ cls := "FlowApply$Row", name := "bits", desc := "(I)I" } : Jvm.MethodName)) ∈ fa_wG := fa_it (tb_3 _ (List.mem_of_getElem? (i := 61) rfl)) rfl
set_option maxRecDepth 100000 in
theorem wd_542 : (Jvm.Cond.code ({ cls := "FlowApply$Row", name := "bits", desc := "(I)I" } : Jvm.MethodName) prog_7_method_4_code (2 : Nat) (Option.some Jvm.ClassFile.FieldType.int)) ∈ fa_wG := fa_it (tb_3 _ (List.mem_of_getElem? (i := 62) rfl)) rfl
set_option maxRecDepth 100000 in
theorem wd_543 : (Jvm.Cond.methodLinkNest "FlowApply$Flow" (89 : Nat) ({ cls := "FlowApply", name := "bit", desc := "(I)I" } : Jvm.MethodName) "FlowApply") ∈ fa_nest := List.mem_of_getElem? (i := 67) (by decide +kernel)
set_option maxRecDepth 100000 in
theorem wd_544 : (Jvm.Cond.static ({ cls := "FlowApply", name := "bit", desc := "(I)I" } : Jvm.MethodName)) ∈ fa_wG := fa_it (tb_3 _ (List.mem_of_getElem? (i := 64) rfl)) rfl
set_option maxRecDepth 100000 in
theorem wd_545 : (Jvm.Cond.code ({ cls := "FlowApply", name := "bit", desc := "(I)I" } : Jvm.MethodName) prog_1_method_34_code (1 : Nat) (Option.some Jvm.ClassFile.FieldType.int)) ∈ fa_wG := fa_it (tb_3 _ (List.mem_of_getElem? (i := 65) rfl)) rfl
set_option maxRecDepth 100000 in
theorem wd_546 : (Jvm.Cond.methodLink "FlowApply$Flow" (92 : Nat) ({ cls := "FlowApply$Program", name := "part", desc := "(II)I" } : Jvm.MethodName)) ∈ fa_wG := fa_it (tb_3 _ (List.mem_of_getElem? (i := 66) rfl)) rfl
set_option maxRecDepth 100000 in
theorem wd_547 : (Jvm.Cond.methodLink "FlowApply$Flow" (96 : Nat) ({ cls := "FlowApply$Flow", name := "hold", desc := "(II)V" } : Jvm.MethodName)) ∈ fa_wG := fa_it (tb_3 _ (List.mem_of_getElem? (i := 67) rfl)) rfl
set_option maxRecDepth 100000 in
theorem wd_549 : (Jvm.Cond.instanceMethod ({ cls := "FlowApply$Flow", name := "hold", desc := "(II)V" } : Jvm.MethodName)) ∈ fa_wG := fa_it (tb_3 _ (List.mem_of_getElem? (i := 69) rfl)) rfl
set_option maxRecDepth 100000 in
theorem wd_550 : (Jvm.Cond.code ({ cls := "FlowApply$Flow", name := "hold", desc := "(II)V" } : Jvm.MethodName) prog_2_method_6_code (4 : Nat) (Option.none : Option Jvm.ClassFile.FieldType)) ∈ fa_wG := fa_it (tb_3 _ (List.mem_of_getElem? (i := 70) rfl)) rfl
set_option maxRecDepth 100000 in
theorem wd_551 : (Jvm.Cond.methodLink "FlowApply$Flow" (103 : Nat) ({ cls := "FlowApply$Row", name := "set", desc := "(II)V" } : Jvm.MethodName)) ∈ fa_wG := fa_it (tb_3 _ (List.mem_of_getElem? (i := 71) rfl)) rfl
set_option maxRecDepth 100000 in
theorem wd_552 : (Jvm.Cond.methodLink "FlowApply$Flow" (99 : Nat) ({ cls := "FlowApply$Flow", name := "lookAtSite", desc := "(LFlowApply$Program;I)I" } : Jvm.MethodName)) ∈ fa_wG := fa_it (tb_3 _ (List.mem_of_getElem? (i := 72) rfl)) rfl
set_option maxRecDepth 100000 in
theorem wd_554 : (Jvm.Cond.instanceMethod ({ cls := "FlowApply$Flow", name := "lookAtSite", desc := "(LFlowApply$Program;I)I" } : Jvm.MethodName)) ∈ fa_wG := fa_it (tb_3 _ (List.mem_of_getElem? (i := 74) rfl)) rfl
set_option maxRecDepth 100000 in
theorem wd_555 : (Jvm.Cond.code ({ cls := "FlowApply$Flow", name := "lookAtSite", desc := "(LFlowApply$Program;I)I" } : Jvm.MethodName) prog_2_method_5_code (6 : Nat) (Option.some Jvm.ClassFile.FieldType.int)) ∈ fa_wG := fa_it (tb_3 _ (List.mem_of_getElem? (i := 75) rfl)) rfl
set_option maxRecDepth 100000 in
theorem wd_556 : (Jvm.Cond.methodLink "FlowApply$Flow" (109 : Nat) ({ cls := "FlowApply$Flow", name := "comesOfBody", desc := "(LFlowApply$Program;I)I" } : Jvm.MethodName)) ∈ fa_wG := fa_it (tb_3 _ (List.mem_of_getElem? (i := 76) rfl)) rfl
set_option maxRecDepth 100000 in
theorem wd_557 : (Jvm.Cond.instanceMethod ({ cls := "FlowApply$Flow", name := "comesOfBody", desc := "(LFlowApply$Program;I)I" } : Jvm.MethodName)) ∈ fa_wG := fa_it (tb_3 _ (List.mem_of_getElem? (i := 77) rfl)) rfl
set_option maxRecDepth 100000 in
theorem wd_558 : (Jvm.Cond.selects "FlowApply$Flow" ({ cls := "FlowApply$Flow", name := "comesOfBody", desc := "(LFlowApply$Program;I)I" } : Jvm.MethodName) ({ cls := "FlowApply$Flow", name := "comesOfBody", desc := "(LFlowApply$Program;I)I" } : Jvm.MethodName)) ∈ fa_wG := fa_it (tb_3 _ (List.mem_of_getElem? (i := 78) rfl)) rfl
set_option maxRecDepth 100000 in
theorem wd_559 : (Jvm.Cond.code ({ cls := "FlowApply$Flow", name := "comesOfBody", desc := "(LFlowApply$Program;I)I" } : Jvm.MethodName) prog_2_method_8_code (3 : Nat) (Option.some Jvm.ClassFile.FieldType.int)) ∈ fa_wG := fa_it (tb_3 _ (List.mem_of_getElem? (i := 79) rfl)) rfl
set_option maxRecDepth 100000 in
theorem wd_560 : (Jvm.Cond.methodLink "FlowApply$Flow" (115 : Nat) ({ cls := "FlowApply$Row", name := "at", desc := "(I)I" } : Jvm.MethodName)) ∈ fa_wG := fa_it (tb_3 _ (List.mem_of_getElem? (i := 80) rfl)) rfl
set_option maxRecDepth 100000 in
theorem wd_561 : (Jvm.Cond.methodLink "FlowApply$Flow" (66 : Nat) ({ cls := "FlowApply$Flow", name := "listCalls", desc := "(LFlowApply$Program;)V" } : Jvm.MethodName)) ∈ fa_wG := fa_it (tb_3 _ (List.mem_of_getElem? (i := 81) rfl)) rfl
set_option maxRecDepth 100000 in
theorem wd_563 : (Jvm.Cond.instanceMethod ({ cls := "FlowApply$Flow", name := "listCalls", desc := "(LFlowApply$Program;)V" } : Jvm.MethodName)) ∈ fa_wG := fa_it (tb_3 _ (List.mem_of_getElem? (i := 83) rfl)) rfl
set_option maxRecDepth 100000 in
theorem wd_564 : (Jvm.Cond.code ({ cls := "FlowApply$Flow", name := "listCalls", desc := "(LFlowApply$Program;)V" } : Jvm.MethodName) prog_2_method_10_code (5 : Nat) (Option.none : Option Jvm.ClassFile.FieldType)) ∈ fa_wG := fa_it (tb_3 _ (List.mem_of_getElem? (i := 84) rfl)) rfl
set_option maxRecDepth 100000 in
theorem wd_565 : (Jvm.Cond.methodLink "FlowApply$Flow" (127 : Nat) ({ cls := "FlowApply$Flow", name := "applied", desc := "(LFlowApply$Program;I)I" } : Jvm.MethodName)) ∈ fa_wG := fa_it (tb_3 _ (List.mem_of_getElem? (i := 85) rfl)) rfl
set_option maxRecDepth 100000 in
theorem wd_566 : (Jvm.Cond.instanceMethod ({ cls := "FlowApply$Flow", name := "applied", desc := "(LFlowApply$Program;I)I" } : Jvm.MethodName)) ∈ fa_wG := fa_it (tb_3 _ (List.mem_of_getElem? (i := 86) rfl)) rfl
set_option maxRecDepth 100000 in
theorem wd_567 : (Jvm.Cond.selects "FlowApply$Flow" ({ cls := "FlowApply$Flow", name := "applied", desc := "(LFlowApply$Program;I)I" } : Jvm.MethodName) ({ cls := "FlowApply$Flow", name := "applied", desc := "(LFlowApply$Program;I)I" } : Jvm.MethodName)) ∈ fa_wG := fa_it (tb_3 _ (List.mem_of_getElem? (i := 87) rfl)) rfl
set_option maxRecDepth 100000 in
theorem wd_568 : (Jvm.Cond.code ({ cls := "FlowApply$Flow", name := "applied", desc := "(LFlowApply$Program;I)I" } : Jvm.MethodName) prog_2_method_7_code (3 : Nat) (Option.some Jvm.ClassFile.FieldType.int)) ∈ fa_wG := fa_it (tb_3 _ (List.mem_of_getElem? (i := 88) rfl)) rfl
set_option maxRecDepth 100000 in
theorem wd_569 : (Jvm.Cond.methodLink "FlowApply$Flow" (70 : Nat) ({ cls := "FlowApply$Flow", name := "closeCalls", desc := "(LFlowApply$Program;)V" } : Jvm.MethodName)) ∈ fa_wG := fa_it (tb_3 _ (List.mem_of_getElem? (i := 89) rfl)) rfl
set_option maxRecDepth 100000 in
theorem wd_571 : (Jvm.Cond.instanceMethod ({ cls := "FlowApply$Flow", name := "closeCalls", desc := "(LFlowApply$Program;)V" } : Jvm.MethodName)) ∈ fa_wG := fa_it (tb_3 _ (List.mem_of_getElem? (i := 91) rfl)) rfl
set_option maxRecDepth 100000 in
theorem wd_572 : (Jvm.Cond.code ({ cls := "FlowApply$Flow", name := "closeCalls", desc := "(LFlowApply$Program;)V" } : Jvm.MethodName) prog_2_method_11_code (4 : Nat) (Option.none : Option Jvm.ClassFile.FieldType)) ∈ fa_wG := fa_it (tb_3 _ (List.mem_of_getElem? (i := 92) rfl)) rfl
set_option maxRecDepth 100000 in
theorem wd_573 : (Jvm.Cond.methodLink "FlowApply$Flow" (130 : Nat) ({ cls := "FlowApply$Row", name := "clear", desc := "()V" } : Jvm.MethodName)) ∈ fa_wG := fa_it (tb_3 _ (List.mem_of_getElem? (i := 93) rfl)) rfl
set_option maxRecDepth 100000 in
theorem wd_574 : (Jvm.Cond.methodLink "FlowApply$Flow" (133 : Nat) ({ cls := "FlowApply$Row", name := "add", desc := "(I)V" } : Jvm.MethodName)) ∈ fa_wG := fa_it (tb_3 _ (List.mem_of_getElem? (i := 94) rfl)) rfl
set_option maxRecDepth 100000 in
theorem wd_575 : (Jvm.Cond.methodLink "FlowApply$Flow" (73 : Nat) ({ cls := "FlowApply$Flow", name := "listRings", desc := "(LFlowApply$Program;)V" } : Jvm.MethodName)) ∈ fa_wG := fa_it (tb_3 _ (List.mem_of_getElem? (i := 95) rfl)) rfl
set_option maxRecDepth 100000 in
theorem wd_577 : (Jvm.Cond.instanceMethod ({ cls := "FlowApply$Flow", name := "listRings", desc := "(LFlowApply$Program;)V" } : Jvm.MethodName)) ∈ fa_wG := fa_it (tb_3 _ (List.mem_of_getElem? (i := 97) rfl)) rfl
set_option maxRecDepth 100000 in
theorem wd_578 : (Jvm.Cond.code ({ cls := "FlowApply$Flow", name := "listRings", desc := "(LFlowApply$Program;)V" } : Jvm.MethodName) prog_2_method_12_code (3 : Nat) (Option.none : Option Jvm.ClassFile.FieldType)) ∈ fa_wG := fa_it (tb_3 _ (List.mem_of_getElem? (i := 98) rfl)) rfl
set_option maxRecDepth 100000 in
theorem wd_579 : (Jvm.Cond.methodLink "FlowApply$Flow" (136 : Nat) ({ cls := "FlowApply$Flow", name := "ringOf", desc := "(I)I" } : Jvm.MethodName)) ∈ fa_wG := fa_it (tb_3 _ (List.mem_of_getElem? (i := 99) rfl)) rfl
set_option maxRecDepth 100000 in
theorem wd_580 : (Jvm.Cond.instanceMethod ({ cls := "FlowApply$Flow", name := "ringOf", desc := "(I)I" } : Jvm.MethodName)) ∈ fa_wG := fa_it (tb_3 _ (List.mem_of_getElem? (i := 100) rfl)) rfl
set_option maxRecDepth 100000 in
theorem wd_581 : (Jvm.Cond.selects "FlowApply$Flow" ({ cls := "FlowApply$Flow", name := "ringOf", desc := "(I)I" } : Jvm.MethodName) ({ cls := "FlowApply$Flow", name := "ringOf", desc := "(I)I" } : Jvm.MethodName)) ∈ fa_wG := fa_it (tb_3 _ (List.mem_of_getElem? (i := 101) rfl)) rfl
set_option maxRecDepth 100000 in
theorem wd_582 : (Jvm.Cond.code ({ cls := "FlowApply$Flow", name := "ringOf", desc := "(I)I" } : Jvm.MethodName) prog_2_method_14_code (3 : Nat) (Option.some Jvm.ClassFile.FieldType.int)) ∈ fa_wG := fa_it (tb_3 _ (List.mem_of_getElem? (i := 102) rfl)) rfl
set_option maxRecDepth 100000 in
theorem wd_583 : (Jvm.Cond.methodLink "FlowApply$Flow" (142 : Nat) ({ cls := "FlowApply$Row", name := "size", desc := "()I" } : Jvm.MethodName)) ∈ fa_wG := fa_it (tb_3 _ (List.mem_of_getElem? (i := 103) rfl)) rfl
set_option maxRecDepth 100000 in
theorem wd_584 : (Jvm.Cond.methodLink "FlowApply$Flow" (139 : Nat) ({ cls := "FlowApply$Flow", name := "ringFrom", desc := "(LFlowApply$Program;I)I" } : Jvm.MethodName)) ∈ fa_wG := fa_it (tb_3 _ (List.mem_of_getElem? (i := 104) rfl)) rfl
set_option maxRecDepth 100000 in
theorem wd_586 : (Jvm.Cond.instanceMethod ({ cls := "FlowApply$Flow", name := "ringFrom", desc := "(LFlowApply$Program;I)I" } : Jvm.MethodName)) ∈ fa_wG := fa_it (tb_3 _ (List.mem_of_getElem? (i := 106) rfl)) rfl
set_option maxRecDepth 100000 in
theorem wd_587 : (Jvm.Cond.code ({ cls := "FlowApply$Flow", name := "ringFrom", desc := "(LFlowApply$Program;I)I" } : Jvm.MethodName) prog_2_method_13_code (5 : Nat) (Option.some Jvm.ClassFile.FieldType.int)) ∈ fa_wG := fa_it (tb_3 _ (List.mem_of_getElem? (i := 107) rfl)) rfl
set_option maxRecDepth 100000 in
theorem wd_588 : (Jvm.Cond.methodLink "FlowApply$Scene" (45 : Nat) ({ cls := "FlowApply$Groups", name := "sort", desc := "(LFlowApply$Program;LFlowApply$Typing;LFlowApply$Flow;)V" } : Jvm.MethodName)) ∈ fa_wG := fa_it (tb_3 _ (List.mem_of_getElem? (i := 108) rfl)) rfl
set_option maxRecDepth 100000 in
theorem wd_589 : (Jvm.Cond.instanceMethod ({ cls := "FlowApply$Groups", name := "sort", desc := "(LFlowApply$Program;LFlowApply$Typing;LFlowApply$Flow;)V" } : Jvm.MethodName)) ∈ fa_wG := fa_it (tb_3 _ (List.mem_of_getElem? (i := 109) rfl)) rfl
set_option maxRecDepth 100000 in
theorem wd_590 : (Jvm.Cond.selects "FlowApply$Groups" ({ cls := "FlowApply$Groups", name := "sort", desc := "(LFlowApply$Program;LFlowApply$Typing;LFlowApply$Flow;)V" } : Jvm.MethodName) ({ cls := "FlowApply$Groups", name := "sort", desc := "(LFlowApply$Program;LFlowApply$Typing;LFlowApply$Flow;)V" } : Jvm.MethodName)) ∈ fa_wG := fa_it (tb_3 _ (List.mem_of_getElem? (i := 110) rfl)) rfl
set_option maxRecDepth 100000 in
theorem wd_591 : (Jvm.Cond.code ({ cls := "FlowApply$Groups", name := "sort", desc := "(LFlowApply$Program;LFlowApply$Typing;LFlowApply$Flow;)V" } : Jvm.MethodName) prog_3_method_2_code (4 : Nat) (Option.none : Option Jvm.ClassFile.FieldType)) ∈ fa_wG := fa_it (tb_3 _ (List.mem_of_getElem? (i := 111) rfl)) rfl
set_option maxRecDepth 100000 in
theorem wd_592 : (Jvm.Cond.methodLink "FlowApply$Groups" (26 : Nat) ({ cls := "FlowApply$Row", name := "refill", desc := "(II)V" } : Jvm.MethodName)) ∈ fa_wG := fa_it (tb_3 _ (List.mem_of_getElem? (i := 112) rfl)) rfl
set_option maxRecDepth 100000 in
theorem wd_593 : (Jvm.Cond.methodLink "FlowApply$Groups" (41 : Nat) ({ cls := "FlowApply$Groups", name := "number", desc := "(II)V" } : Jvm.MethodName)) ∈ fa_wG := fa_it (tb_3 _ (List.mem_of_getElem? (i := 113) rfl)) rfl
set_option maxRecDepth 100000 in
theorem wd_595 : (Jvm.Cond.instanceMethod ({ cls := "FlowApply$Groups", name := "number", desc := "(II)V" } : Jvm.MethodName)) ∈ fa_wG := fa_it (tb_3 _ (List.mem_of_getElem? (i := 115) rfl)) rfl
set_option maxRecDepth 100000 in
theorem wd_596 : (Jvm.Cond.code ({ cls := "FlowApply$Groups", name := "number", desc := "(II)V" } : Jvm.MethodName) prog_3_method_5_code (4 : Nat) (Option.none : Option Jvm.ClassFile.FieldType)) ∈ fa_wG := fa_it (tb_3 _ (List.mem_of_getElem? (i := 116) rfl)) rfl
set_option maxRecDepth 100000 in
theorem wd_597 : (Jvm.Cond.methodLink "FlowApply$Groups" (84 : Nat) ({ cls := "FlowApply$Row", name := "size", desc := "()I" } : Jvm.MethodName)) ∈ fa_wG := fa_it (tb_3 _ (List.mem_of_getElem? (i := 117) rfl)) rfl
set_option maxRecDepth 100000 in
theorem wd_598 : (Jvm.Cond.methodLinkNest "FlowApply$Groups" (52 : Nat) ({ cls := "FlowApply", name := "hasBit", desc := "(II)Z" } : Jvm.MethodName) "FlowApply") ∈ fa_nest := List.mem_of_getElem? (i := 68) (by decide +kernel)
set_option maxRecDepth 100000 in
theorem wd_599 : (Jvm.Cond.methodLink "FlowApply$Groups" (81 : Nat) ({ cls := "FlowApply$Row", name := "bits", desc := "(I)I" } : Jvm.MethodName)) ∈ fa_wG := fa_it (tb_3 _ (List.mem_of_getElem? (i := 119) rfl)) rfl
set_option maxRecDepth 100000 in
theorem wd_600 : (Jvm.Cond.methodLinkNest "FlowApply$Groups" (88 : Nat) ({ cls := "FlowApply", name := "lowest", desc := "(I)I" } : Jvm.MethodName) "FlowApply") ∈ fa_nest := List.mem_of_getElem? (i := 69) (by decide +kernel)
set_option maxRecDepth 100000 in
theorem wd_601 : (Jvm.Cond.static ({ cls := "FlowApply", name := "lowest", desc := "(I)I" } : Jvm.MethodName)) ∈ fa_wG := fa_it (tb_3 _ (List.mem_of_getElem? (i := 121) rfl)) rfl
set_option maxRecDepth 100000 in
theorem wd_602 : (Jvm.Cond.code ({ cls := "FlowApply", name := "lowest", desc := "(I)I" } : Jvm.MethodName) prog_1_method_36_code (1 : Nat) (Option.some Jvm.ClassFile.FieldType.int)) ∈ fa_wG := fa_it (tb_3 _ (List.mem_of_getElem? (i := 122) rfl)) rfl
set_option maxRecDepth 100000 in
theorem wd_603 : (Jvm.Cond.methodLink "FlowApply" (355 : Nat) ({ cls := "java/lang/Integer", name := "numberOfTrailingZeros", desc := "(I)I" } : Jvm.MethodName)) ∈ fa_wG := fa_it (tb_3 _ (List.mem_of_getElem? (i := 123) rfl)) rfl
set_option maxRecDepth 100000 in
theorem wd_604 : (Jvm.Cond.static ({ cls := "java/lang/Integer", name := "numberOfTrailingZeros", desc := "(I)I" } : Jvm.MethodName)) ∈ fa_wG := fa_it (tb_3 _ (List.mem_of_getElem? (i := 124) rfl)) rfl
set_option maxRecDepth 100000 in
theorem wd_605 : (Jvm.Cond.code ({ cls := "java/lang/Integer", name := "numberOfTrailingZeros", desc := "(I)I" } : Jvm.MethodName) prog_20_method_48_code (2 : Nat) (Option.some Jvm.ClassFile.FieldType.int)) ∈ fa_wG := fa_it (tb_3 _ (List.mem_of_getElem? (i := 125) rfl)) rfl
set_option maxRecDepth 100000 in
theorem wd_606 : (Jvm.Cond.constant "java/lang/Integer" (264 : Nat) (65536 : Int32)) ∈ fa_wG := fa_it (tb_3 _ (List.mem_of_getElem? (i := 126) rfl)) rfl
set_option maxRecDepth 100000 in
theorem wd_607 : (Jvm.Cond.methodLink "FlowApply$Groups" (91 : Nat) ({ cls := "FlowApply$Groups", name := "many", desc := "(I)I" } : Jvm.MethodName)) ∈ fa_wG := fa_it (tb_3 _ (List.mem_of_getElem? (i := 127) rfl)) rfl
set_option maxRecDepth 100000 in
theorem wd_608 : (Jvm.Cond.instanceMethod ({ cls := "FlowApply$Groups", name := "many", desc := "(I)I" } : Jvm.MethodName)) ∈ fa_wG := fa_it (tb_3 _ (List.mem_of_getElem? (i := 128) rfl)) rfl
set_option maxRecDepth 100000 in
theorem wd_609 : (Jvm.Cond.selects "FlowApply$Groups" ({ cls := "FlowApply$Groups", name := "many", desc := "(I)I" } : Jvm.MethodName) ({ cls := "FlowApply$Groups", name := "many", desc := "(I)I" } : Jvm.MethodName)) ∈ fa_wG := fa_it (tb_3 _ (List.mem_of_getElem? (i := 129) rfl)) rfl
set_option maxRecDepth 100000 in
theorem wd_610 : (Jvm.Cond.code ({ cls := "FlowApply$Groups", name := "many", desc := "(I)I" } : Jvm.MethodName) prog_3_method_6_code (2 : Nat) (Option.some Jvm.ClassFile.FieldType.int)) ∈ fa_wG := fa_it (tb_3 _ (List.mem_of_getElem? (i := 130) rfl)) rfl
set_option maxRecDepth 100000 in
theorem wd_611 : (Jvm.Cond.methodLink "FlowApply$Groups" (65 : Nat) ({ cls := "FlowApply$Row", name := "set", desc := "(II)V" } : Jvm.MethodName)) ∈ fa_wG := fa_it (tb_3 _ (List.mem_of_getElem? (i := 131) rfl)) rfl
set_option maxRecDepth 100000 in
theorem wd_612 : (Jvm.Cond.methodLink "FlowApply$Groups" (44 : Nat) ({ cls := "FlowApply$Groups", name := "mateByType", desc := "(LFlowApply$Program;LFlowApply$Typing;I)V" } : Jvm.MethodName)) ∈ fa_wG := fa_it (tb_3 _ (List.mem_of_getElem? (i := 132) rfl)) rfl
set_option maxRecDepth 100000 in
theorem wd_614 : (Jvm.Cond.instanceMethod ({ cls := "FlowApply$Groups", name := "mateByType", desc := "(LFlowApply$Program;LFlowApply$Typing;I)V" } : Jvm.MethodName)) ∈ fa_wG := fa_it (tb_3 _ (List.mem_of_getElem? (i := 134) rfl)) rfl
set_option maxRecDepth 100000 in
theorem wd_615 : (Jvm.Cond.code ({ cls := "FlowApply$Groups", name := "mateByType", desc := "(LFlowApply$Program;LFlowApply$Typing;I)V" } : Jvm.MethodName) prog_3_method_3_code (7 : Nat) (Option.none : Option Jvm.ClassFile.FieldType)) ∈ fa_wG := fa_it (tb_3 _ (List.mem_of_getElem? (i := 135) rfl)) rfl
set_option maxRecDepth 100000 in
theorem wd_616 : (Jvm.Cond.methodLink "FlowApply$Groups" (56 : Nat) ({ cls := "FlowApply$Typing", name := "same", desc := "(II)Z" } : Jvm.MethodName)) ∈ fa_wG := fa_it (tb_3 _ (List.mem_of_getElem? (i := 136) rfl)) rfl
set_option maxRecDepth 100000 in
theorem wd_617 : (Jvm.Cond.instanceMethod ({ cls := "FlowApply$Typing", name := "same", desc := "(II)Z" } : Jvm.MethodName)) ∈ fa_wG := fa_it (tb_3 _ (List.mem_of_getElem? (i := 137) rfl)) rfl
set_option maxRecDepth 100000 in
theorem wd_618 : (Jvm.Cond.selects "FlowApply$Typing" ({ cls := "FlowApply$Typing", name := "same", desc := "(II)Z" } : Jvm.MethodName) ({ cls := "FlowApply$Typing", name := "same", desc := "(II)Z" } : Jvm.MethodName)) ∈ fa_wG := fa_it (tb_3 _ (List.mem_of_getElem? (i := 138) rfl)) rfl
set_option maxRecDepth 100000 in
theorem wd_619 : (Jvm.Cond.code ({ cls := "FlowApply$Typing", name := "same", desc := "(II)Z" } : Jvm.MethodName) prog_9_method_16_code (3 : Nat) (Option.some Jvm.ClassFile.FieldType.boolean)) ∈ fa_wG := fa_it (tb_3 _ (List.mem_of_getElem? (i := 139) rfl)) rfl
set_option maxRecDepth 100000 in
theorem wd_620 : (Jvm.Cond.methodLinkNest "FlowApply$Groups" (61 : Nat) ({ cls := "FlowApply", name := "bit", desc := "(I)I" } : Jvm.MethodName) "FlowApply") ∈ fa_nest := List.mem_of_getElem? (i := 70) (by decide +kernel)
set_option maxRecDepth 100000 in
theorem wd_621 : (Jvm.Cond.methodLink "FlowApply$Groups" (48 : Nat) ({ cls := "FlowApply$Groups", name := "mateBySites", desc := "(LFlowApply$Program;LFlowApply$Flow;)V" } : Jvm.MethodName)) ∈ fa_wG := fa_it (tb_3 _ (List.mem_of_getElem? (i := 141) rfl)) rfl
set_option maxRecDepth 100000 in
theorem wd_623 : (Jvm.Cond.instanceMethod ({ cls := "FlowApply$Groups", name := "mateBySites", desc := "(LFlowApply$Program;LFlowApply$Flow;)V" } : Jvm.MethodName)) ∈ fa_wG := fa_it (tb_3 _ (List.mem_of_getElem? (i := 143) rfl)) rfl
set_option maxRecDepth 100000 in
theorem wd_624 : (Jvm.Cond.code ({ cls := "FlowApply$Groups", name := "mateBySites", desc := "(LFlowApply$Program;LFlowApply$Flow;)V" } : Jvm.MethodName) prog_3_method_4_code (6 : Nat) (Option.none : Option Jvm.ClassFile.FieldType)) ∈ fa_wG := fa_it (tb_3 _ (List.mem_of_getElem? (i := 144) rfl)) rfl
set_option maxRecDepth 100000 in
theorem wd_625 : (Jvm.Cond.methodLink "FlowApply$Groups" (74 : Nat) ({ cls := "FlowApply$Row", name := "at", desc := "(I)I" } : Jvm.MethodName)) ∈ fa_wG := fa_it (tb_3 _ (List.mem_of_getElem? (i := 145) rfl)) rfl
set_option maxRecDepth 100000 in
theorem wd_626 : (Jvm.Cond.methodLink "FlowApply$Groups" (77 : Nat) ({ cls := "FlowApply$Flow", name := "applied", desc := "(LFlowApply$Program;I)I" } : Jvm.MethodName)) ∈ fa_wG := fa_it (tb_3 _ (List.mem_of_getElem? (i := 146) rfl)) rfl
set_option maxRecDepth 100000 in
theorem wd_627 : (Jvm.Cond.fieldLink "FlowApply" (14 : Nat) "FlowApply" "tape" "LFlowApply$Row;") ∈ fa_wG := fa_it (tb_3 _ (List.mem_of_getElem? (i := 147) rfl)) rfl
set_option maxRecDepth 100000 in
theorem wd_628 : (Jvm.Cond.fieldLink "FlowApply" (18 : Nat) "FlowApply" "shown" "LFlowApply$Row;") ∈ fa_wG := fa_it (tb_3 _ (List.mem_of_getElem? (i := 148) rfl)) rfl
set_option maxRecDepth 100000 in
theorem wd_629 : (Jvm.Cond.fieldLink "FlowApply" (21 : Nat) "FlowApply" "fields" "LFlowApply$Row;") ∈ fa_wG := fa_it (tb_3 _ (List.mem_of_getElem? (i := 149) rfl)) rfl
set_option maxRecDepth 100000 in
theorem wd_630 : (Jvm.Cond.fieldLink "FlowApply" (29 : Nat) "FlowApply" "reader" "LFlowApply$Reader;") ∈ fa_wG := fa_it (tb_3 _ (List.mem_of_getElem? (i := 150) rfl)) rfl
set_option maxRecDepth 100000 in
theorem wd_631 : (Jvm.Cond.fieldLink "FlowApply" (36 : Nat) "FlowApply" "writer" "LFlowApply$Writer;") ∈ fa_wG := fa_it (tb_3 _ (List.mem_of_getElem? (i := 151) rfl)) rfl
set_option maxRecDepth 100000 in
theorem wd_632 : (Jvm.Cond.fieldLink "FlowApply" (43 : Nat) "FlowApply" "machine" "LFlowApply$Machine;") ∈ fa_wG := fa_it (tb_3 _ (List.mem_of_getElem? (i := 152) rfl)) rfl
set_option maxRecDepth 100000 in
theorem wd_633 : (Jvm.Cond.fieldLink "FlowApply" (50 : Nat) "FlowApply" "now" "LFlowApply$Scene;") ∈ fa_wG := fa_it (tb_3 _ (List.mem_of_getElem? (i := 153) rfl)) rfl
set_option maxRecDepth 100000 in
theorem wd_634 : (Jvm.Cond.fieldLink "FlowApply" (54 : Nat) "FlowApply" "spare" "LFlowApply$Scene;") ∈ fa_wG := fa_it (tb_3 _ (List.mem_of_getElem? (i := 154) rfl)) rfl
set_option maxRecDepth 100000 in
theorem wd_635 : (Jvm.Cond.fieldLink "FlowApply" (57 : Nat) "FlowApply" "faultAt" "I") ∈ fa_wG := fa_it (tb_3 _ (List.mem_of_getElem? (i := 155) rfl)) rfl
set_option maxRecDepth 100000 in
theorem wd_636 : (Jvm.Cond.laysFinal "FlowApply" "FlowApply" "tape" "LFlowApply$Row;") ∈ fa_wG := fa_it (tb_3 _ (List.mem_of_getElem? (i := 156) rfl)) rfl
set_option maxRecDepth 100000 in
theorem wd_638 : (Jvm.Cond.laysFinal "FlowApply" "FlowApply" "shown" "LFlowApply$Row;") ∈ fa_wG := fa_it (tb_3 _ (List.mem_of_getElem? (i := 158) rfl)) rfl
set_option maxRecDepth 100000 in
theorem wd_640 : (Jvm.Cond.laysFinal "FlowApply" "FlowApply" "fields" "LFlowApply$Row;") ∈ fa_wG := fa_it (tb_3 _ (List.mem_of_getElem? (i := 160) rfl)) rfl
set_option maxRecDepth 100000 in
theorem wd_642 : (Jvm.Cond.laysFinal "FlowApply" "FlowApply" "reader" "LFlowApply$Reader;") ∈ fa_wG := fa_it (tb_3 _ (List.mem_of_getElem? (i := 162) rfl)) rfl
set_option maxRecDepth 100000 in
theorem wd_644 : (Jvm.Cond.laysFinal "FlowApply" "FlowApply" "writer" "LFlowApply$Writer;") ∈ fa_wG := fa_it (tb_3 _ (List.mem_of_getElem? (i := 164) rfl)) rfl
set_option maxRecDepth 100000 in
theorem wd_646 : (Jvm.Cond.laysFinal "FlowApply" "FlowApply" "machine" "LFlowApply$Machine;") ∈ fa_wG := fa_it (tb_3 _ (List.mem_of_getElem? (i := 166) rfl)) rfl
set_option maxRecDepth 100000 in
theorem wd_648 : (Jvm.Cond.lays "FlowApply" "FlowApply" "now" "LFlowApply$Scene;") ∈ fa_wG := fa_it (tb_3 _ (List.mem_of_getElem? (i := 168) rfl)) rfl
set_option maxRecDepth 100000 in
theorem wd_650 : (Jvm.Cond.lays "FlowApply" "FlowApply" "spare" "LFlowApply$Scene;") ∈ fa_wG := fa_it (tb_3 _ (List.mem_of_getElem? (i := 170) rfl)) rfl
set_option maxRecDepth 100000 in
theorem wd_652 : (Jvm.Cond.lays "FlowApply" "FlowApply" "faultAt" "I") ∈ fa_wG := fa_it (tb_3 _ (List.mem_of_getElem? (i := 172) rfl)) rfl
set_option maxRecDepth 100000 in
theorem wd_655 : (Jvm.Cond.methodLink "FlowApplyLaw" (65 : Nat) ({ cls := "FlowApply", name := "feed", desc := "(IIIII)I" } : Jvm.MethodName)) ∈ fa_wG := fa_it (tb_3 _ (List.mem_of_getElem? (i := 175) rfl)) rfl
set_option maxRecDepth 100000 in
theorem wd_656 : (Jvm.Cond.instanceMethod ({ cls := "FlowApply", name := "feed", desc := "(IIIII)I" } : Jvm.MethodName)) ∈ fa_wG := fa_it (tb_3 _ (List.mem_of_getElem? (i := 176) rfl)) rfl
set_option maxRecDepth 100000 in
theorem wd_657 : (Jvm.Cond.selects "FlowApply" ({ cls := "FlowApply", name := "feed", desc := "(IIIII)I" } : Jvm.MethodName) ({ cls := "FlowApply", name := "feed", desc := "(IIIII)I" } : Jvm.MethodName)) ∈ fa_wG := fa_it (tb_3 _ (List.mem_of_getElem? (i := 177) rfl)) rfl
set_option maxRecDepth 100000 in
theorem wd_658 : (Jvm.Cond.code ({ cls := "FlowApply", name := "feed", desc := "(IIIII)I" } : Jvm.MethodName) prog_1_method_2_code (6 : Nat) (Option.some Jvm.ClassFile.FieldType.int)) ∈ fa_wG := fa_it (tb_3 _ (List.mem_of_getElem? (i := 178) rfl)) rfl
set_option maxRecDepth 100000 in
theorem wd_659 : (Jvm.Cond.methodLink "FlowApply" (74 : Nat) ({ cls := "FlowApply$Row", name := "size", desc := "()I" } : Jvm.MethodName)) ∈ fa_wG := fa_it (tb_3 _ (List.mem_of_getElem? (i := 179) rfl)) rfl
set_option maxRecDepth 100000 in
theorem wd_660 : (Jvm.Cond.methodLink "FlowApply" (78 : Nat) ({ cls := "FlowApply", name := "feedNumber", desc := "(I)V" } : Jvm.MethodName)) ∈ fa_wG := fa_it (tb_3 _ (List.mem_of_getElem? (i := 180) rfl)) rfl
set_option maxRecDepth 100000 in
theorem wd_662 : (Jvm.Cond.instanceMethod ({ cls := "FlowApply", name := "feedNumber", desc := "(I)V" } : Jvm.MethodName)) ∈ fa_wG := fa_it (tb_3 _ (List.mem_of_getElem? (i := 182) rfl)) rfl
set_option maxRecDepth 100000 in
theorem wd_663 : (Jvm.Cond.code ({ cls := "FlowApply", name := "feedNumber", desc := "(I)V" } : Jvm.MethodName) prog_1_method_3_code (3 : Nat) (Option.none : Option Jvm.ClassFile.FieldType)) ∈ fa_wG := fa_it (tb_3 _ (List.mem_of_getElem? (i := 183) rfl)) rfl
set_option maxRecDepth 100000 in
theorem wd_664 : (Jvm.Cond.methodLink "FlowApply" (81 : Nat) ({ cls := "FlowApply$Row", name := "add", desc := "(I)V" } : Jvm.MethodName)) ∈ fa_wG := fa_it (tb_3 _ (List.mem_of_getElem? (i := 184) rfl)) rfl
set_option maxRecDepth 100000 in
theorem wd_665 : (Jvm.Cond.methodLink "FlowApplyLaw" (70 : Nat) ({ cls := "FlowApply", name := "end", desc := "(I)Z" } : Jvm.MethodName)) ∈ fa_wG := fa_it (tb_3 _ (List.mem_of_getElem? (i := 185) rfl)) rfl
set_option maxRecDepth 100000 in
theorem wd_666 : (Jvm.Cond.instanceMethod ({ cls := "FlowApply", name := "end", desc := "(I)Z" } : Jvm.MethodName)) ∈ fa_wG := fa_it (tb_3 _ (List.mem_of_getElem? (i := 186) rfl)) rfl
set_option maxRecDepth 100000 in
theorem wd_667 : (Jvm.Cond.selects "FlowApply" ({ cls := "FlowApply", name := "end", desc := "(I)Z" } : Jvm.MethodName) ({ cls := "FlowApply", name := "end", desc := "(I)Z" } : Jvm.MethodName)) ∈ fa_wG := fa_it (tb_3 _ (List.mem_of_getElem? (i := 187) rfl)) rfl
set_option maxRecDepth 100000 in
theorem wd_668 : (Jvm.Cond.code ({ cls := "FlowApply", name := "end", desc := "(I)Z" } : Jvm.MethodName) prog_1_method_4_code (2 : Nat) (Option.some Jvm.ClassFile.FieldType.boolean)) ∈ fa_wG := fa_it (tb_3 _ (List.mem_of_getElem? (i := 188) rfl)) rfl
set_option maxRecDepth 100000 in
theorem wd_669 : (Jvm.Cond.methodLink "FlowApply" (84 : Nat) ({ cls := "FlowApply$Row", name := "cut", desc := "(I)V" } : Jvm.MethodName)) ∈ fa_wG := fa_it (tb_3 _ (List.mem_of_getElem? (i := 189) rfl)) rfl
set_option maxRecDepth 100000 in
theorem wd_670 : (Jvm.Cond.methodLink "FlowApplyLaw" (84 : Nat) ({ cls := "FlowApply", name := "fault", desc := "()I" } : Jvm.MethodName)) ∈ fa_wG := fa_it (tb_3 _ (List.mem_of_getElem? (i := 190) rfl)) rfl
set_option maxRecDepth 100000 in
theorem wd_671 : (Jvm.Cond.instanceMethod ({ cls := "FlowApply", name := "fault", desc := "()I" } : Jvm.MethodName)) ∈ fa_wG := fa_it (tb_3 _ (List.mem_of_getElem? (i := 191) rfl)) rfl
set_option maxRecDepth 100000 in
theorem wd_672 : (Jvm.Cond.selects "FlowApply" ({ cls := "FlowApply", name := "fault", desc := "()I" } : Jvm.MethodName) ({ cls := "FlowApply", name := "fault", desc := "()I" } : Jvm.MethodName)) ∈ fa_wG := fa_it (tb_3 _ (List.mem_of_getElem? (i := 192) rfl)) rfl
set_option maxRecDepth 100000 in
theorem wd_673 : (Jvm.Cond.code ({ cls := "FlowApply", name := "fault", desc := "()I" } : Jvm.MethodName) prog_1_method_7_code (1 : Nat) (Option.some Jvm.ClassFile.FieldType.int)) ∈ fa_wG := fa_it (tb_3 _ (List.mem_of_getElem? (i := 193) rfl)) rfl
set_option maxRecDepth 100000 in
theorem wd_674 : (Jvm.Cond.methodLink "FlowApplyLaw" (99 : Nat) ({ cls := "FlowApply", name := "typeOfMain", desc := "()I" } : Jvm.MethodName)) ∈ fa_wG := fa_it (tb_3 _ (List.mem_of_getElem? (i := 194) rfl)) rfl
set_option maxRecDepth 100000 in
theorem wd_675 : (Jvm.Cond.instanceMethod ({ cls := "FlowApply", name := "typeOfMain", desc := "()I" } : Jvm.MethodName)) ∈ fa_wG := fa_it (tb_3 _ (List.mem_of_getElem? (i := 195) rfl)) rfl
set_option maxRecDepth 100000 in
theorem wd_676 : (Jvm.Cond.selects "FlowApply" ({ cls := "FlowApply", name := "typeOfMain", desc := "()I" } : Jvm.MethodName) ({ cls := "FlowApply", name := "typeOfMain", desc := "()I" } : Jvm.MethodName)) ∈ fa_wG := fa_it (tb_3 _ (List.mem_of_getElem? (i := 196) rfl)) rfl
set_option maxRecDepth 100000 in
theorem wd_677 : (Jvm.Cond.code ({ cls := "FlowApply", name := "typeOfMain", desc := "()I" } : Jvm.MethodName) prog_1_method_13_code (1 : Nat) (Option.some Jvm.ClassFile.FieldType.int)) ∈ fa_wG := fa_it (tb_3 _ (List.mem_of_getElem? (i := 197) rfl)) rfl
set_option maxRecDepth 100000 in
theorem wd_678 : (Jvm.Cond.methodLink "FlowApply" (209 : Nat) ({ cls := "FlowApply$Row", name := "at", desc := "(I)I" } : Jvm.MethodName)) ∈ fa_wG := fa_it (tb_3 _ (List.mem_of_getElem? (i := 198) rfl)) rfl
set_option maxRecDepth 100000 in
theorem wd_679 : (Jvm.Cond.methodLink "FlowApply" (224 : Nat) ({ cls := "FlowApply$Writer", name := "showType", desc := "(LFlowApply$Typing;I)I" } : Jvm.MethodName)) ∈ fa_wG := fa_it (tb_3 _ (List.mem_of_getElem? (i := 199) rfl)) rfl
set_option maxRecDepth 100000 in
theorem wd_680 : (Jvm.Cond.instanceMethod ({ cls := "FlowApply$Writer", name := "showType", desc := "(LFlowApply$Typing;I)I" } : Jvm.MethodName)) ∈ fa_wG := fa_it (tb_3 _ (List.mem_of_getElem? (i := 200) rfl)) rfl
set_option maxRecDepth 100000 in
theorem wd_681 : (Jvm.Cond.selects "FlowApply$Writer" ({ cls := "FlowApply$Writer", name := "showType", desc := "(LFlowApply$Typing;I)I" } : Jvm.MethodName) ({ cls := "FlowApply$Writer", name := "showType", desc := "(LFlowApply$Typing;I)I" } : Jvm.MethodName)) ∈ fa_wG := fa_it (tb_3 _ (List.mem_of_getElem? (i := 201) rfl)) rfl
set_option maxRecDepth 100000 in
theorem wd_682 : (Jvm.Cond.code ({ cls := "FlowApply$Writer", name := "showType", desc := "(LFlowApply$Typing;I)I" } : Jvm.MethodName) prog_10_method_18_code (5 : Nat) (Option.some Jvm.ClassFile.FieldType.int)) ∈ fa_wG := fa_it (tb_3 _ (List.mem_of_getElem? (i := 202) rfl)) rfl
set_option maxRecDepth 100000 in
theorem wd_683 : (Jvm.Cond.methodLink "FlowApply$Writer" (33 : Nat) ({ cls := "FlowApply$Row", name := "clear", desc := "()V" } : Jvm.MethodName)) ∈ fa_wG := fa_it (tb_3 _ (List.mem_of_getElem? (i := 203) rfl)) rfl
set_option maxRecDepth 100000 in
theorem wd_684 : (Jvm.Cond.methodLink "FlowApply$Writer" (141 : Nat) ({ cls := "FlowApply$Row", name := "add", desc := "(I)V" } : Jvm.MethodName)) ∈ fa_wG := fa_it (tb_3 _ (List.mem_of_getElem? (i := 204) rfl)) rfl
set_option maxRecDepth 100000 in
theorem wd_685 : (Jvm.Cond.constant "FlowApply$Writer" (144 : Nat) (1000000 : Int32)) ∈ fa_wG := fa_it (tb_3 _ (List.mem_of_getElem? (i := 205) rfl)) rfl
set_option maxRecDepth 100000 in
theorem wd_686 : (Jvm.Cond.methodLink "FlowApply$Writer" (39 : Nat) ({ cls := "FlowApply$Row", name := "size", desc := "()I" } : Jvm.MethodName)) ∈ fa_wG := fa_it (tb_3 _ (List.mem_of_getElem? (i := 206) rfl)) rfl
set_option maxRecDepth 100000 in
theorem wd_687 : (Jvm.Cond.methodLink "FlowApply$Writer" (145 : Nat) ({ cls := "FlowApply$Row", name := "drop", desc := "()I" } : Jvm.MethodName)) ∈ fa_wG := fa_it (tb_3 _ (List.mem_of_getElem? (i := 207) rfl)) rfl
set_option maxRecDepth 100000 in
theorem wd_688 : (Jvm.Cond.methodLink "FlowApply$Writer" (226 : Nat) ({ cls := "FlowApply$Typing", name := "root", desc := "(I)I" } : Jvm.MethodName)) ∈ fa_wG := fa_it (tb_3 _ (List.mem_of_getElem? (i := 208) rfl)) rfl
set_option maxRecDepth 100000 in
theorem wd_689 : (Jvm.Cond.methodLink "FlowApply$Writer" (231 : Nat) ({ cls := "FlowApply$Writer", name := "putType", desc := "(LFlowApply$Typing;I)V" } : Jvm.MethodName)) ∈ fa_wG := fa_it (tb_3 _ (List.mem_of_getElem? (i := 209) rfl)) rfl
set_option maxRecDepth 100000 in
theorem wd_691 : (Jvm.Cond.instanceMethod ({ cls := "FlowApply$Writer", name := "putType", desc := "(LFlowApply$Typing;I)V" } : Jvm.MethodName)) ∈ fa_wG := fa_it (tb_3 _ (List.mem_of_getElem? (i := 211) rfl)) rfl
set_option maxRecDepth 100000 in
theorem wd_692 : (Jvm.Cond.code ({ cls := "FlowApply$Writer", name := "putType", desc := "(LFlowApply$Typing;I)V" } : Jvm.MethodName) prog_10_method_19_code (3 : Nat) (Option.none : Option Jvm.ClassFile.FieldType)) ∈ fa_wG := fa_it (tb_3 _ (List.mem_of_getElem? (i := 212) rfl)) rfl
set_option maxRecDepth 100000 in
theorem wd_693 : (Jvm.Cond.methodLink "FlowApply$Writer" (235 : Nat) ({ cls := "FlowApply$Typing", name := "isInt", desc := "(I)Z" } : Jvm.MethodName)) ∈ fa_wG := fa_it (tb_3 _ (List.mem_of_getElem? (i := 213) rfl)) rfl
set_option maxRecDepth 100000 in
theorem wd_694 : (Jvm.Cond.instanceMethod ({ cls := "FlowApply$Typing", name := "isInt", desc := "(I)Z" } : Jvm.MethodName)) ∈ fa_wG := fa_it (tb_3 _ (List.mem_of_getElem? (i := 214) rfl)) rfl
set_option maxRecDepth 100000 in
theorem wd_695 : (Jvm.Cond.selects "FlowApply$Typing" ({ cls := "FlowApply$Typing", name := "isInt", desc := "(I)Z" } : Jvm.MethodName) ({ cls := "FlowApply$Typing", name := "isInt", desc := "(I)Z" } : Jvm.MethodName)) ∈ fa_wG := fa_it (tb_3 _ (List.mem_of_getElem? (i := 215) rfl)) rfl
set_option maxRecDepth 100000 in
theorem wd_696 : (Jvm.Cond.code ({ cls := "FlowApply$Typing", name := "isInt", desc := "(I)Z" } : Jvm.MethodName) prog_9_method_8_code (2 : Nat) (Option.some Jvm.ClassFile.FieldType.boolean)) ∈ fa_wG := fa_it (tb_3 _ (List.mem_of_getElem? (i := 216) rfl)) rfl
set_option maxRecDepth 100000 in
theorem wd_697 : (Jvm.Cond.methodLink "FlowApply$Writer" (239 : Nat) ({ cls := "FlowApply$Typing", name := "isArrow", desc := "(I)Z" } : Jvm.MethodName)) ∈ fa_wG := fa_it (tb_3 _ (List.mem_of_getElem? (i := 217) rfl)) rfl
set_option maxRecDepth 100000 in
theorem wd_698 : (Jvm.Cond.methodLink "FlowApply$Writer" (242 : Nat) ({ cls := "FlowApply$Typing", name := "given", desc := "(I)I" } : Jvm.MethodName)) ∈ fa_wG := fa_it (tb_3 _ (List.mem_of_getElem? (i := 218) rfl)) rfl
set_option maxRecDepth 100000 in
theorem wd_699 : (Jvm.Cond.instanceMethod ({ cls := "FlowApply$Typing", name := "given", desc := "(I)I" } : Jvm.MethodName)) ∈ fa_wG := fa_it (tb_3 _ (List.mem_of_getElem? (i := 219) rfl)) rfl
set_option maxRecDepth 100000 in
theorem wd_700 : (Jvm.Cond.selects "FlowApply$Typing" ({ cls := "FlowApply$Typing", name := "given", desc := "(I)I" } : Jvm.MethodName) ({ cls := "FlowApply$Typing", name := "given", desc := "(I)I" } : Jvm.MethodName)) ∈ fa_wG := fa_it (tb_3 _ (List.mem_of_getElem? (i := 220) rfl)) rfl
set_option maxRecDepth 100000 in
theorem wd_701 : (Jvm.Cond.code ({ cls := "FlowApply$Typing", name := "given", desc := "(I)I" } : Jvm.MethodName) prog_9_method_11_code (2 : Nat) (Option.some Jvm.ClassFile.FieldType.int)) ∈ fa_wG := fa_it (tb_3 _ (List.mem_of_getElem? (i := 221) rfl)) rfl
set_option maxRecDepth 100000 in
theorem wd_702 : (Jvm.Cond.methodLink "FlowApply$Writer" (245 : Nat) ({ cls := "FlowApply$Typing", name := "taken", desc := "(I)I" } : Jvm.MethodName)) ∈ fa_wG := fa_it (tb_3 _ (List.mem_of_getElem? (i := 222) rfl)) rfl
set_option maxRecDepth 100000 in
theorem wd_703 : (Jvm.Cond.instanceMethod ({ cls := "FlowApply$Typing", name := "taken", desc := "(I)I" } : Jvm.MethodName)) ∈ fa_wG := fa_it (tb_3 _ (List.mem_of_getElem? (i := 223) rfl)) rfl
set_option maxRecDepth 100000 in
theorem wd_704 : (Jvm.Cond.selects "FlowApply$Typing" ({ cls := "FlowApply$Typing", name := "taken", desc := "(I)I" } : Jvm.MethodName) ({ cls := "FlowApply$Typing", name := "taken", desc := "(I)I" } : Jvm.MethodName)) ∈ fa_wG := fa_it (tb_3 _ (List.mem_of_getElem? (i := 224) rfl)) rfl
set_option maxRecDepth 100000 in
theorem wd_705 : (Jvm.Cond.code ({ cls := "FlowApply$Typing", name := "taken", desc := "(I)I" } : Jvm.MethodName) prog_9_method_10_code (2 : Nat) (Option.some Jvm.ClassFile.FieldType.int)) ∈ fa_wG := fa_it (tb_3 _ (List.mem_of_getElem? (i := 225) rfl)) rfl
set_option maxRecDepth 100000 in
theorem wd_706 : (Jvm.Cond.methodLink "FlowApply$Writer" (248 : Nat) ({ cls := "FlowApply$Row", name := "placeOf", desc := "(I)I" } : Jvm.MethodName)) ∈ fa_wG := fa_it (tb_3 _ (List.mem_of_getElem? (i := 226) rfl)) rfl
set_option maxRecDepth 100000 in
theorem wd_707 : (Jvm.Cond.instanceMethod ({ cls := "FlowApply$Row", name := "placeOf", desc := "(I)I" } : Jvm.MethodName)) ∈ fa_wG := fa_it (tb_3 _ (List.mem_of_getElem? (i := 227) rfl)) rfl
set_option maxRecDepth 100000 in
theorem wd_708 : (Jvm.Cond.selects "FlowApply$Row" ({ cls := "FlowApply$Row", name := "placeOf", desc := "(I)I" } : Jvm.MethodName) ({ cls := "FlowApply$Row", name := "placeOf", desc := "(I)I" } : Jvm.MethodName)) ∈ fa_wG := fa_it (tb_3 _ (List.mem_of_getElem? (i := 228) rfl)) rfl
set_option maxRecDepth 100000 in
theorem wd_709 : (Jvm.Cond.code ({ cls := "FlowApply$Row", name := "placeOf", desc := "(I)I" } : Jvm.MethodName) prog_7_method_13_code (3 : Nat) (Option.some Jvm.ClassFile.FieldType.int)) ∈ fa_wG := fa_it (tb_3 _ (List.mem_of_getElem? (i := 229) rfl)) rfl
set_option maxRecDepth 100000 in
theorem wd_710 : (Jvm.Cond.methodLink "FlowApply$Writer" (251 : Nat) ({ cls := "java/lang/Math", name := "min", desc := "(II)I" } : Jvm.MethodName)) ∈ fa_wG := fa_it (tb_3 _ (List.mem_of_getElem? (i := 230) rfl)) rfl
set_option maxRecDepth 100000 in
theorem wd_711 : (Jvm.Cond.static ({ cls := "java/lang/Math", name := "min", desc := "(II)I" } : Jvm.MethodName)) ∈ fa_wG := fa_it (tb_3 _ (List.mem_of_getElem? (i := 231) rfl)) rfl
set_option maxRecDepth 100000 in
theorem wd_712 : (Jvm.Cond.code ({ cls := "java/lang/Math", name := "min", desc := "(II)I" } : Jvm.MethodName) prog_21_method_69_code (2 : Nat) (Option.some Jvm.ClassFile.FieldType.int)) ∈ fa_wG := fa_it (tb_3 _ (List.mem_of_getElem? (i := 232) rfl)) rfl
set_option maxRecDepth 100000 in
theorem wd_713 : (Jvm.Cond.methodLink "FlowApplyLaw" (125 : Nat) ({ cls := "FlowApply", name := "back", desc := "()I" } : Jvm.MethodName)) ∈ fa_wG := fa_it (tb_3 _ (List.mem_of_getElem? (i := 233) rfl)) rfl
set_option maxRecDepth 100000 in
theorem wd_714 : (Jvm.Cond.instanceMethod ({ cls := "FlowApply", name := "back", desc := "()I" } : Jvm.MethodName)) ∈ fa_wG := fa_it (tb_3 _ (List.mem_of_getElem? (i := 234) rfl)) rfl
set_option maxRecDepth 100000 in
theorem wd_715 : (Jvm.Cond.selects "FlowApply" ({ cls := "FlowApply", name := "back", desc := "()I" } : Jvm.MethodName) ({ cls := "FlowApply", name := "back", desc := "()I" } : Jvm.MethodName)) ∈ fa_wG := fa_it (tb_3 _ (List.mem_of_getElem? (i := 235) rfl)) rfl
set_option maxRecDepth 100000 in
theorem wd_716 : (Jvm.Cond.code ({ cls := "FlowApply", name := "back", desc := "()I" } : Jvm.MethodName) prog_1_method_23_code (1 : Nat) (Option.some Jvm.ClassFile.FieldType.int)) ∈ fa_wG := fa_it (tb_3 _ (List.mem_of_getElem? (i := 236) rfl)) rfl
set_option maxRecDepth 100000 in
theorem wd_717 : (Jvm.Cond.methodLink "FlowApply" (325 : Nat) ({ cls := "FlowApply", name := "makeBack", desc := "()V" } : Jvm.MethodName)) ∈ fa_wG := fa_it (tb_3 _ (List.mem_of_getElem? (i := 237) rfl)) rfl
set_option maxRecDepth 100000 in
theorem wd_719 : (Jvm.Cond.instanceMethod ({ cls := "FlowApply", name := "makeBack", desc := "()V" } : Jvm.MethodName)) ∈ fa_wG := fa_it (tb_3 _ (List.mem_of_getElem? (i := 239) rfl)) rfl
set_option maxRecDepth 100000 in
theorem wd_720 : (Jvm.Cond.code ({ cls := "FlowApply", name := "makeBack", desc := "()V" } : Jvm.MethodName) prog_1_method_24_code (1 : Nat) (Option.none : Option Jvm.ClassFile.FieldType)) ∈ fa_wG := fa_it (tb_4 _ (List.mem_of_getElem? (i := 0) rfl)) rfl
set_option maxRecDepth 100000 in
theorem wd_721 : (Jvm.Cond.methodLink "FlowApply" (106 : Nat) ({ cls := "FlowApply$Program", name := "copy", desc := "(LFlowApply$Program;II)V" } : Jvm.MethodName)) ∈ fa_wG := fa_it (tb_4 _ (List.mem_of_getElem? (i := 1) rfl)) rfl
set_option maxRecDepth 100000 in
theorem wd_722 : (Jvm.Cond.instanceMethod ({ cls := "FlowApply$Program", name := "copy", desc := "(LFlowApply$Program;II)V" } : Jvm.MethodName)) ∈ fa_wG := fa_it (tb_4 _ (List.mem_of_getElem? (i := 2) rfl)) rfl
set_option maxRecDepth 100000 in
theorem wd_723 : (Jvm.Cond.selects "FlowApply$Program" ({ cls := "FlowApply$Program", name := "copy", desc := "(LFlowApply$Program;II)V" } : Jvm.MethodName) ({ cls := "FlowApply$Program", name := "copy", desc := "(LFlowApply$Program;II)V" } : Jvm.MethodName)) ∈ fa_wG := fa_it (tb_4 _ (List.mem_of_getElem? (i := 3) rfl)) rfl
set_option maxRecDepth 100000 in
theorem wd_724 : (Jvm.Cond.code ({ cls := "FlowApply$Program", name := "copy", desc := "(LFlowApply$Program;II)V" } : Jvm.MethodName) prog_5_method_12_code (5 : Nat) (Option.none : Option Jvm.ClassFile.FieldType)) ∈ fa_wG := fa_it (tb_4 _ (List.mem_of_getElem? (i := 4) rfl)) rfl
set_option maxRecDepth 100000 in
theorem wd_725 : (Jvm.Cond.methodLink "FlowApply$Program" (106 : Nat) ({ cls := "FlowApply$Program", name := "numberFunctions", desc := "(LFlowApply$Program;I)V" } : Jvm.MethodName)) ∈ fa_wG := fa_it (tb_4 _ (List.mem_of_getElem? (i := 5) rfl)) rfl
set_option maxRecDepth 100000 in
theorem wd_727 : (Jvm.Cond.instanceMethod ({ cls := "FlowApply$Program", name := "numberFunctions", desc := "(LFlowApply$Program;I)V" } : Jvm.MethodName)) ∈ fa_wG := fa_it (tb_4 _ (List.mem_of_getElem? (i := 7) rfl)) rfl
set_option maxRecDepth 100000 in
theorem wd_728 : (Jvm.Cond.code ({ cls := "FlowApply$Program", name := "numberFunctions", desc := "(LFlowApply$Program;I)V" } : Jvm.MethodName) prog_5_method_13_code (4 : Nat) (Option.none : Option Jvm.ClassFile.FieldType)) ∈ fa_wG := fa_it (tb_4 _ (List.mem_of_getElem? (i := 8) rfl)) rfl
set_option maxRecDepth 100000 in
theorem wd_729 : (Jvm.Cond.methodLinkNest "FlowApply$Program" (127 : Nat) ({ cls := "FlowApply", name := "hasBit", desc := "(II)Z" } : Jvm.MethodName) "FlowApply") ∈ fa_nest := List.mem_of_getElem? (i := 71) (by decide +kernel)
set_option maxRecDepth 100000 in
theorem wd_730 : (Jvm.Cond.methodLink "FlowApply$Program" (110 : Nat) ({ cls := "FlowApply$Program", name := "markThings", desc := "(LFlowApply$Program;I)V" } : Jvm.MethodName)) ∈ fa_wG := fa_it (tb_4 _ (List.mem_of_getElem? (i := 10) rfl)) rfl
set_option maxRecDepth 100000 in
theorem wd_732 : (Jvm.Cond.instanceMethod ({ cls := "FlowApply$Program", name := "markThings", desc := "(LFlowApply$Program;I)V" } : Jvm.MethodName)) ∈ fa_wG := fa_it (tb_4 _ (List.mem_of_getElem? (i := 12) rfl)) rfl
set_option maxRecDepth 100000 in
theorem wd_733 : (Jvm.Cond.code ({ cls := "FlowApply$Program", name := "markThings", desc := "(LFlowApply$Program;I)V" } : Jvm.MethodName) prog_5_method_14_code (5 : Nat) (Option.none : Option Jvm.ClassFile.FieldType)) ∈ fa_wG := fa_it (tb_4 _ (List.mem_of_getElem? (i := 13) rfl)) rfl
set_option maxRecDepth 100000 in
theorem wd_734 : (Jvm.Cond.methodLink "FlowApply$Program" (117 : Nat) ({ cls := "FlowApply$Program", name := "things", desc := "()I" } : Jvm.MethodName)) ∈ fa_wG := fa_it (tb_4 _ (List.mem_of_getElem? (i := 14) rfl)) rfl
set_option maxRecDepth 100000 in
theorem wd_735 : (Jvm.Cond.methodLink "FlowApply$Program" (131 : Nat) ({ cls := "FlowApply$Program", name := "losesBody", desc := "(LFlowApply$Program;II)Z" } : Jvm.MethodName)) ∈ fa_wG := fa_it (tb_4 _ (List.mem_of_getElem? (i := 15) rfl)) rfl
set_option maxRecDepth 100000 in
theorem wd_736 : (Jvm.Cond.static ({ cls := "FlowApply$Program", name := "losesBody", desc := "(LFlowApply$Program;II)Z" } : Jvm.MethodName)) ∈ fa_wG := fa_it (tb_4 _ (List.mem_of_getElem? (i := 16) rfl)) rfl
set_option maxRecDepth 100000 in
theorem wd_737 : (Jvm.Cond.code ({ cls := "FlowApply$Program", name := "losesBody", desc := "(LFlowApply$Program;II)Z" } : Jvm.MethodName) prog_5_method_15_code (3 : Nat) (Option.some Jvm.ClassFile.FieldType.boolean)) ∈ fa_wG := fa_it (tb_4 _ (List.mem_of_getElem? (i := 17) rfl)) rfl
set_option maxRecDepth 100000 in
theorem wd_738 : (Jvm.Cond.methodLink "FlowApply$Program" (135 : Nat) ({ cls := "FlowApply$Program", name := "part", desc := "(II)I" } : Jvm.MethodName)) ∈ fa_wG := fa_it (tb_4 _ (List.mem_of_getElem? (i := 18) rfl)) rfl
set_option maxRecDepth 100000 in
theorem wd_739 : (Jvm.Cond.methodLink "FlowApply$Program" (113 : Nat) ({ cls := "FlowApply$Program", name := "numberSites", desc := "(LFlowApply$Program;)V" } : Jvm.MethodName)) ∈ fa_wG := fa_it (tb_4 _ (List.mem_of_getElem? (i := 19) rfl)) rfl
set_option maxRecDepth 100000 in
theorem wd_741 : (Jvm.Cond.instanceMethod ({ cls := "FlowApply$Program", name := "numberSites", desc := "(LFlowApply$Program;)V" } : Jvm.MethodName)) ∈ fa_wG := fa_it (tb_4 _ (List.mem_of_getElem? (i := 21) rfl)) rfl
set_option maxRecDepth 100000 in
theorem wd_742 : (Jvm.Cond.code ({ cls := "FlowApply$Program", name := "numberSites", desc := "(LFlowApply$Program;)V" } : Jvm.MethodName) prog_5_method_16_code (3 : Nat) (Option.none : Option Jvm.ClassFile.FieldType)) ∈ fa_wG := fa_it (tb_4 _ (List.mem_of_getElem? (i := 22) rfl)) rfl
set_option maxRecDepth 100000 in
theorem wd_743 : (Jvm.Cond.methodLink "FlowApply$Program" (120 : Nat) ({ cls := "FlowApply$Program", name := "copyThing", desc := "(LFlowApply$Program;II)I" } : Jvm.MethodName)) ∈ fa_wG := fa_it (tb_4 _ (List.mem_of_getElem? (i := 23) rfl)) rfl
set_option maxRecDepth 100000 in
theorem wd_745 : (Jvm.Cond.instanceMethod ({ cls := "FlowApply$Program", name := "copyThing", desc := "(LFlowApply$Program;II)I" } : Jvm.MethodName)) ∈ fa_wG := fa_it (tb_4 _ (List.mem_of_getElem? (i := 25) rfl)) rfl
set_option maxRecDepth 100000 in
theorem wd_746 : (Jvm.Cond.code ({ cls := "FlowApply$Program", name := "copyThing", desc := "(LFlowApply$Program;II)I" } : Jvm.MethodName) prog_5_method_17_code (7 : Nat) (Option.some Jvm.ClassFile.FieldType.int)) ∈ fa_wG := fa_it (tb_4 _ (List.mem_of_getElem? (i := 26) rfl)) rfl
set_option maxRecDepth 100000 in
theorem wd_747 : (Jvm.Cond.methodLink "FlowApply$Program" (138 : Nat) ({ cls := "FlowApply$Program", name := "kind", desc := "(I)I" } : Jvm.MethodName)) ∈ fa_wG := fa_it (tb_4 _ (List.mem_of_getElem? (i := 27) rfl)) rfl
set_option maxRecDepth 100000 in
theorem wd_748 : (Jvm.Cond.methodLink "FlowApply$Program" (141 : Nat) ({ cls := "FlowApply$Program", name := "value", desc := "(I)I" } : Jvm.MethodName)) ∈ fa_wG := fa_it (tb_4 _ (List.mem_of_getElem? (i := 28) rfl)) rfl
set_option maxRecDepth 100000 in
theorem wd_749 : (Jvm.Cond.methodLink "FlowApply$Program" (144 : Nat) ({ cls := "FlowApply$Program", name := "newValue", desc := "(II)I" } : Jvm.MethodName)) ∈ fa_wG := fa_it (tb_4 _ (List.mem_of_getElem? (i := 29) rfl)) rfl
set_option maxRecDepth 100000 in
theorem wd_751 : (Jvm.Cond.instanceMethod ({ cls := "FlowApply$Program", name := "newValue", desc := "(II)I" } : Jvm.MethodName)) ∈ fa_wG := fa_it (tb_4 _ (List.mem_of_getElem? (i := 31) rfl)) rfl
set_option maxRecDepth 100000 in
theorem wd_752 : (Jvm.Cond.code ({ cls := "FlowApply$Program", name := "newValue", desc := "(II)I" } : Jvm.MethodName) prog_5_method_18_code (3 : Nat) (Option.some Jvm.ClassFile.FieldType.int)) ∈ fa_wG := fa_it (tb_4 _ (List.mem_of_getElem? (i := 32) rfl)) rfl
set_option maxRecDepth 100000 in
theorem wd_753 : (Jvm.Cond.methodLink "FlowApply$Program" (89 : Nat) ({ cls := "FlowApply$Program", name := "owner", desc := "(I)I" } : Jvm.MethodName)) ∈ fa_wG := fa_it (tb_4 _ (List.mem_of_getElem? (i := 33) rfl)) rfl
set_option maxRecDepth 100000 in
theorem wd_754 : (Jvm.Cond.methodLink "FlowApply$Program" (124 : Nat) ({ cls := "FlowApply$Program", name := "copyGlobals", desc := "(LFlowApply$Program;I)V" } : Jvm.MethodName)) ∈ fa_wG := fa_it (tb_4 _ (List.mem_of_getElem? (i := 34) rfl)) rfl
set_option maxRecDepth 100000 in
theorem wd_756 : (Jvm.Cond.instanceMethod ({ cls := "FlowApply$Program", name := "copyGlobals", desc := "(LFlowApply$Program;I)V" } : Jvm.MethodName)) ∈ fa_wG := fa_it (tb_4 _ (List.mem_of_getElem? (i := 36) rfl)) rfl
set_option maxRecDepth 100000 in
theorem wd_757 : (Jvm.Cond.code ({ cls := "FlowApply$Program", name := "copyGlobals", desc := "(LFlowApply$Program;I)V" } : Jvm.MethodName) prog_5_method_19_code (5 : Nat) (Option.none : Option Jvm.ClassFile.FieldType)) ∈ fa_wG := fa_it (tb_4 _ (List.mem_of_getElem? (i := 37) rfl)) rfl
set_option maxRecDepth 100000 in
theorem wd_758 : (Jvm.Cond.methodLink "FlowApply" (328 : Nat) ({ cls := "FlowApply$Writer", name := "showProgram", desc := "(LFlowApply$Scene;)I" } : Jvm.MethodName)) ∈ fa_wG := fa_it (tb_4 _ (List.mem_of_getElem? (i := 38) rfl)) rfl
set_option maxRecDepth 100000 in
theorem wd_759 : (Jvm.Cond.instanceMethod ({ cls := "FlowApply$Writer", name := "showProgram", desc := "(LFlowApply$Scene;)I" } : Jvm.MethodName)) ∈ fa_wG := fa_it (tb_4 _ (List.mem_of_getElem? (i := 39) rfl)) rfl
set_option maxRecDepth 100000 in
theorem wd_760 : (Jvm.Cond.selects "FlowApply$Writer" ({ cls := "FlowApply$Writer", name := "showProgram", desc := "(LFlowApply$Scene;)I" } : Jvm.MethodName) ({ cls := "FlowApply$Writer", name := "showProgram", desc := "(LFlowApply$Scene;)I" } : Jvm.MethodName)) ∈ fa_wG := fa_it (tb_4 _ (List.mem_of_getElem? (i := 40) rfl)) rfl
set_option maxRecDepth 100000 in
theorem wd_761 : (Jvm.Cond.code ({ cls := "FlowApply$Writer", name := "showProgram", desc := "(LFlowApply$Scene;)I" } : Jvm.MethodName) prog_10_method_3_code (4 : Nat) (Option.some Jvm.ClassFile.FieldType.int)) ∈ fa_wG := fa_it (tb_4 _ (List.mem_of_getElem? (i := 41) rfl)) rfl
set_option maxRecDepth 100000 in
theorem wd_763 : (Jvm.Cond.methodLink "FlowApply$Writer" (56 : Nat) ({ cls := "FlowApply$Writer", name := "putText", desc := "(Ljava/lang/String;)V" } : Jvm.MethodName)) ∈ fa_wG := fa_it (tb_4 _ (List.mem_of_getElem? (i := 43) rfl)) rfl
set_option maxRecDepth 100000 in
theorem wd_765 : (Jvm.Cond.instanceMethod ({ cls := "FlowApply$Writer", name := "putText", desc := "(Ljava/lang/String;)V" } : Jvm.MethodName)) ∈ fa_wG := fa_it (tb_4 _ (List.mem_of_getElem? (i := 45) rfl)) rfl
set_option maxRecDepth 100000 in
theorem wd_766 : (Jvm.Cond.code ({ cls := "FlowApply$Writer", name := "putText", desc := "(Ljava/lang/String;)V" } : Jvm.MethodName) prog_10_method_15_code (3 : Nat) (Option.none : Option Jvm.ClassFile.FieldType)) ∈ fa_wG := fa_it (tb_4 _ (List.mem_of_getElem? (i := 46) rfl)) rfl
set_option maxRecDepth 100000 in
theorem wd_767 : (Jvm.Cond.methodLink "FlowApply$Writer" (217 : Nat) ({ cls := "java/lang/String", name := "length", desc := "()I" } : Jvm.MethodName)) ∈ fa_wG := fa_it (tb_4 _ (List.mem_of_getElem? (i := 47) rfl)) rfl
set_option maxRecDepth 100000 in
theorem wd_768 : (Jvm.Cond.instanceMethod ({ cls := "java/lang/String", name := "length", desc := "()I" } : Jvm.MethodName)) ∈ fa_wG := fa_it (tb_4 _ (List.mem_of_getElem? (i := 48) rfl)) rfl
set_option maxRecDepth 100000 in
theorem wd_769 : (Jvm.Cond.selects "java/lang/String" ({ cls := "java/lang/String", name := "length", desc := "()I" } : Jvm.MethodName) ({ cls := "java/lang/String", name := "length", desc := "()I" } : Jvm.MethodName)) ∈ fa_wG := fa_it (tb_4 _ (List.mem_of_getElem? (i := 49) rfl)) rfl
set_option maxRecDepth 100000 in
theorem wd_770 : (Jvm.Cond.code ({ cls := "java/lang/String", name := "length", desc := "()I" } : Jvm.MethodName) prog_23_method_54_code (1 : Nat) (Option.some Jvm.ClassFile.FieldType.int)) ∈ fa_wG := fa_it (tb_4 _ (List.mem_of_getElem? (i := 50) rfl)) rfl
set_option maxRecDepth 100000 in
theorem wd_771 : (Jvm.Cond.methodLink "java/lang/String" (335 : Nat) ({ cls := "java/lang/String", name := "coder", desc := "()B" } : Jvm.MethodName)) ∈ fa_wG := fa_it (tb_4 _ (List.mem_of_getElem? (i := 51) rfl)) rfl
set_option maxRecDepth 100000 in
theorem wd_772 : (Jvm.Cond.instanceMethod ({ cls := "java/lang/String", name := "coder", desc := "()B" } : Jvm.MethodName)) ∈ fa_wG := fa_it (tb_4 _ (List.mem_of_getElem? (i := 52) rfl)) rfl
set_option maxRecDepth 100000 in
theorem wd_773 : (Jvm.Cond.selects "java/lang/String" ({ cls := "java/lang/String", name := "coder", desc := "()B" } : Jvm.MethodName) ({ cls := "java/lang/String", name := "coder", desc := "()B" } : Jvm.MethodName)) ∈ fa_wG := fa_it (tb_4 _ (List.mem_of_getElem? (i := 53) rfl)) rfl
set_option maxRecDepth 100000 in
theorem wd_774 : (Jvm.Cond.code ({ cls := "java/lang/String", name := "coder", desc := "()B" } : Jvm.MethodName) prog_23_method_152_code (1 : Nat) (Option.some Jvm.ClassFile.FieldType.byte)) ∈ fa_wG := fa_it (tb_4 _ (List.mem_of_getElem? (i := 54) rfl)) rfl
set_option maxRecDepth 100000 in
theorem wd_775 : (Jvm.Cond.fieldLink "java/lang/String" (38 : Nat) "java/lang/String" "COMPACT_STRINGS" "Z") ∈ fa_wG := fa_it (tb_4 _ (List.mem_of_getElem? (i := 55) rfl)) rfl
set_option maxRecDepth 100000 in
theorem wd_777 : (Jvm.Cond.methodLink "FlowApply$Writer" (222 : Nat) ({ cls := "java/lang/String", name := "charAt", desc := "(I)C" } : Jvm.MethodName)) ∈ fa_wG := fa_it (tb_4 _ (List.mem_of_getElem? (i := 57) rfl)) rfl
set_option maxRecDepth 100000 in
theorem wd_778 : (Jvm.Cond.instanceMethod ({ cls := "java/lang/String", name := "charAt", desc := "(I)C" } : Jvm.MethodName)) ∈ fa_wG := fa_it (tb_4 _ (List.mem_of_getElem? (i := 58) rfl)) rfl
set_option maxRecDepth 100000 in
theorem wd_779 : (Jvm.Cond.selects "java/lang/String" ({ cls := "java/lang/String", name := "charAt", desc := "(I)C" } : Jvm.MethodName) ({ cls := "java/lang/String", name := "charAt", desc := "(I)C" } : Jvm.MethodName)) ∈ fa_wG := fa_it (tb_4 _ (List.mem_of_getElem? (i := 59) rfl)) rfl
set_option maxRecDepth 100000 in
theorem wd_780 : (Jvm.Cond.code ({ cls := "java/lang/String", name := "charAt", desc := "(I)C" } : Jvm.MethodName) prog_23_method_56_code (2 : Nat) (Option.some Jvm.ClassFile.FieldType.char)) ∈ fa_wG := fa_it (tb_4 _ (List.mem_of_getElem? (i := 60) rfl)) rfl
set_option maxRecDepth 100000 in
theorem wd_781 : (Jvm.Cond.methodLink "java/lang/String" (492 : Nat) ({ cls := "java/lang/String", name := "isLatin1", desc := "()Z" } : Jvm.MethodName)) ∈ fa_wG := fa_it (tb_4 _ (List.mem_of_getElem? (i := 61) rfl)) rfl
set_option maxRecDepth 100000 in
theorem wd_782 : (Jvm.Cond.instanceMethod ({ cls := "java/lang/String", name := "isLatin1", desc := "()Z" } : Jvm.MethodName)) ∈ fa_wG := fa_it (tb_4 _ (List.mem_of_getElem? (i := 62) rfl)) rfl
set_option maxRecDepth 100000 in
theorem wd_783 : (Jvm.Cond.selects "java/lang/String" ({ cls := "java/lang/String", name := "isLatin1", desc := "()Z" } : Jvm.MethodName) ({ cls := "java/lang/String", name := "isLatin1", desc := "()Z" } : Jvm.MethodName)) ∈ fa_wG := fa_it (tb_4 _ (List.mem_of_getElem? (i := 63) rfl)) rfl
set_option maxRecDepth 100000 in
theorem wd_784 : (Jvm.Cond.code ({ cls := "java/lang/String", name := "isLatin1", desc := "()Z" } : Jvm.MethodName) prog_23_method_154_code (1 : Nat) (Option.some Jvm.ClassFile.FieldType.boolean)) ∈ fa_wG := fa_it (tb_4 _ (List.mem_of_getElem? (i := 64) rfl)) rfl
set_option maxRecDepth 100000 in
theorem wd_785 : (Jvm.Cond.methodLink "java/lang/String" (495 : Nat) ({ cls := "java/lang/StringLatin1", name := "charAt", desc := "([BI)C" } : Jvm.MethodName)) ∈ fa_wG := fa_it (tb_4 _ (List.mem_of_getElem? (i := 65) rfl)) rfl
set_option maxRecDepth 100000 in
theorem wd_786 : (Jvm.Cond.static ({ cls := "java/lang/StringLatin1", name := "charAt", desc := "([BI)C" } : Jvm.MethodName)) ∈ fa_wG := fa_it (tb_4 _ (List.mem_of_getElem? (i := 66) rfl)) rfl
set_option maxRecDepth 100000 in
theorem wd_787 : (Jvm.Cond.code ({ cls := "java/lang/StringLatin1", name := "charAt", desc := "([BI)C" } : Jvm.MethodName) prog_24_method_2_code (2 : Nat) (Option.some Jvm.ClassFile.FieldType.char)) ∈ fa_wG := fa_it (tb_4 _ (List.mem_of_getElem? (i := 67) rfl)) rfl
set_option maxRecDepth 100000 in
theorem wd_788 : (Jvm.Cond.methodLink "java/lang/StringLatin1" (9 : Nat) ({ cls := "java/lang/String", name := "checkIndex", desc := "(II)V" } : Jvm.MethodName)) ∈ fa_wG := fa_it (tb_4 _ (List.mem_of_getElem? (i := 68) rfl)) rfl
set_option maxRecDepth 100000 in
theorem wd_789 : (Jvm.Cond.static ({ cls := "java/lang/String", name := "checkIndex", desc := "(II)V" } : Jvm.MethodName)) ∈ fa_wG := fa_it (tb_4 _ (List.mem_of_getElem? (i := 69) rfl)) rfl
set_option maxRecDepth 100000 in
theorem wd_790 : (Jvm.Cond.code ({ cls := "java/lang/String", name := "checkIndex", desc := "(II)V" } : Jvm.MethodName) prog_23_method_155_code (2 : Nat) (Option.none : Option Jvm.ClassFile.FieldType)) ∈ fa_wG := fa_it (tb_4 _ (List.mem_of_getElem? (i := 70) rfl)) rfl
set_option maxRecDepth 100000 in
theorem wd_791 : (Jvm.Cond.fieldLink "java/lang/String" (1053 : Nat) "jdk/internal/util/Preconditions" "SIOOBE_FORMATTER" "Ljava/util/function/BiFunction;") ∈ fa_wG := fa_it (tb_4 _ (List.mem_of_getElem? (i := 71) rfl)) rfl
set_option maxRecDepth 100000 in
theorem wd_793 : (Jvm.Cond.methodLink "java/lang/String" (1059 : Nat) ({ cls := "jdk/internal/util/Preconditions", name := "checkIndex", desc := "(IILjava/util/function/BiFunction;)I" } : Jvm.MethodName)) ∈ fa_wG := fa_it (tb_4 _ (List.mem_of_getElem? (i := 73) rfl)) rfl
set_option maxRecDepth 100000 in
theorem wd_794 : (Jvm.Cond.static ({ cls := "jdk/internal/util/Preconditions", name := "checkIndex", desc := "(IILjava/util/function/BiFunction;)I" } : Jvm.MethodName)) ∈ fa_wG := fa_it (tb_4 _ (List.mem_of_getElem? (i := 74) rfl)) rfl
set_option maxRecDepth 100000 in
theorem wd_795 : (Jvm.Cond.code ({ cls := "jdk/internal/util/Preconditions", name := "checkIndex", desc := "(IILjava/util/function/BiFunction;)I" } : Jvm.MethodName) prog_31_method_11_code (3 : Nat) (Option.some Jvm.ClassFile.FieldType.int)) ∈ fa_wG := fa_it (tb_4 _ (List.mem_of_getElem? (i := 75) rfl)) rfl
set_option maxRecDepth 100000 in
theorem wd_796 : (Jvm.Cond.methodLink "java/lang/String" (498 : Nat) ({ cls := "java/lang/StringUTF16", name := "charAt", desc := "([BI)C" } : Jvm.MethodName)) ∈ fa_wG := fa_it (tb_4 _ (List.mem_of_getElem? (i := 76) rfl)) rfl
set_option maxRecDepth 100000 in
theorem wd_797 : (Jvm.Cond.static ({ cls := "java/lang/StringUTF16", name := "charAt", desc := "([BI)C" } : Jvm.MethodName)) ∈ fa_wG := fa_it (tb_4 _ (List.mem_of_getElem? (i := 77) rfl)) rfl
set_option maxRecDepth 100000 in
theorem wd_798 : (Jvm.Cond.code ({ cls := "java/lang/StringUTF16", name := "charAt", desc := "([BI)C" } : Jvm.MethodName) prog_25_method_83_code (2 : Nat) (Option.some Jvm.ClassFile.FieldType.char)) ∈ fa_wG := fa_it (tb_4 _ (List.mem_of_getElem? (i := 78) rfl)) rfl
set_option maxRecDepth 100000 in
theorem wd_799 : (Jvm.Cond.methodLink "java/lang/StringUTF16" (67 : Nat) ({ cls := "java/lang/StringUTF16", name := "checkIndex", desc := "(I[B)V" } : Jvm.MethodName)) ∈ fa_wG := fa_it (tb_4 _ (List.mem_of_getElem? (i := 79) rfl)) rfl
set_option maxRecDepth 100000 in
theorem wd_800 : (Jvm.Cond.static ({ cls := "java/lang/StringUTF16", name := "checkIndex", desc := "(I[B)V" } : Jvm.MethodName)) ∈ fa_wG := fa_it (tb_4 _ (List.mem_of_getElem? (i := 80) rfl)) rfl
set_option maxRecDepth 100000 in
theorem wd_801 : (Jvm.Cond.code ({ cls := "java/lang/StringUTF16", name := "checkIndex", desc := "(I[B)V" } : Jvm.MethodName) prog_25_method_91_code (2 : Nat) (Option.none : Option Jvm.ClassFile.FieldType)) ∈ fa_wG := fa_it (tb_4 _ (List.mem_of_getElem? (i := 81) rfl)) rfl
set_option maxRecDepth 100000 in
theorem wd_802 : (Jvm.Cond.methodLink "java/lang/StringUTF16" (48 : Nat) ({ cls := "java/lang/StringUTF16", name := "length", desc := "([B)I" } : Jvm.MethodName)) ∈ fa_wG := fa_it (tb_4 _ (List.mem_of_getElem? (i := 82) rfl)) rfl
set_option maxRecDepth 100000 in
theorem wd_803 : (Jvm.Cond.static ({ cls := "java/lang/StringUTF16", name := "length", desc := "([B)I" } : Jvm.MethodName)) ∈ fa_wG := fa_it (tb_4 _ (List.mem_of_getElem? (i := 83) rfl)) rfl
set_option maxRecDepth 100000 in
theorem wd_804 : (Jvm.Cond.code ({ cls := "java/lang/StringUTF16", name := "length", desc := "([B)I" } : Jvm.MethodName) prog_25_method_6_code (1 : Nat) (Option.some Jvm.ClassFile.FieldType.int)) ∈ fa_wG := fa_it (tb_4 _ (List.mem_of_getElem? (i := 84) rfl)) rfl
set_option maxRecDepth 100000 in
theorem wd_805 : (Jvm.Cond.methodLink "java/lang/StringUTF16" (414 : Nat) ({ cls := "java/lang/String", name := "checkIndex", desc := "(II)V" } : Jvm.MethodName)) ∈ fa_wG := fa_it (tb_4 _ (List.mem_of_getElem? (i := 85) rfl)) rfl
set_option maxRecDepth 100000 in
theorem wd_806 : (Jvm.Cond.methodLink "java/lang/StringUTF16" (71 : Nat) ({ cls := "java/lang/StringUTF16", name := "getChar", desc := "([BI)C" } : Jvm.MethodName)) ∈ fa_wG := fa_it (tb_4 _ (List.mem_of_getElem? (i := 86) rfl)) rfl
set_option maxRecDepth 100000 in
theorem wd_807 : (Jvm.Cond.static ({ cls := "java/lang/StringUTF16", name := "getChar", desc := "([BI)C" } : Jvm.MethodName)) ∈ fa_wG := fa_it (tb_4 _ (List.mem_of_getElem? (i := 87) rfl)) rfl
set_option maxRecDepth 100000 in
theorem wd_808 : (Jvm.Cond.code ({ cls := "java/lang/StringUTF16", name := "getChar", desc := "([BI)C" } : Jvm.MethodName) prog_25_method_5_code (2 : Nat) (Option.some Jvm.ClassFile.FieldType.char)) ∈ fa_wG := fa_it (tb_4 _ (List.mem_of_getElem? (i := 88) rfl)) rfl
set_option maxRecDepth 100000 in
theorem wd_809 : (Jvm.Cond.fieldLink "java/lang/StringUTF16" (44 : Nat) "java/lang/StringUTF16" "$assertionsDisabled" "Z") ∈ fa_wG := fa_it (tb_4 _ (List.mem_of_getElem? (i := 89) rfl)) rfl
set_option maxRecDepth 100000 in
theorem wd_811 : (Jvm.Cond.fieldLink "java/lang/StringUTF16" (59 : Nat) "java/lang/StringUTF16" "HI_BYTE_SHIFT" "I") ∈ fa_wG := fa_it (tb_4 _ (List.mem_of_getElem? (i := 91) rfl)) rfl
set_option maxRecDepth 100000 in
theorem wd_813 : (Jvm.Cond.fieldLink "java/lang/StringUTF16" (63 : Nat) "java/lang/StringUTF16" "LO_BYTE_SHIFT" "I") ∈ fa_wG := fa_it (tb_4 _ (List.mem_of_getElem? (i := 93) rfl)) rfl
set_option maxRecDepth 100000 in
theorem wd_815 : (Jvm.Cond.methodLink "FlowApply$Writer" (63 : Nat) ({ cls := "FlowApply$Row", name := "at", desc := "(I)I" } : Jvm.MethodName)) ∈ fa_wG := fa_it (tb_4 _ (List.mem_of_getElem? (i := 95) rfl)) rfl
set_option maxRecDepth 100000 in
theorem wd_816 : (Jvm.Cond.methodLink "FlowApply$Writer" (36 : Nat) ({ cls := "FlowApply$Writer", name := "putName", desc := "(I)V" } : Jvm.MethodName)) ∈ fa_wG := fa_it (tb_4 _ (List.mem_of_getElem? (i := 96) rfl)) rfl
set_option maxRecDepth 100000 in
theorem wd_818 : (Jvm.Cond.instanceMethod ({ cls := "FlowApply$Writer", name := "putName", desc := "(I)V" } : Jvm.MethodName)) ∈ fa_wG := fa_it (tb_4 _ (List.mem_of_getElem? (i := 98) rfl)) rfl
set_option maxRecDepth 100000 in
theorem wd_819 : (Jvm.Cond.code ({ cls := "FlowApply$Writer", name := "putName", desc := "(I)V" } : Jvm.MethodName) prog_10_method_16_code (3 : Nat) (Option.none : Option Jvm.ClassFile.FieldType)) ∈ fa_wG := fa_it (tb_4 _ (List.mem_of_getElem? (i := 99) rfl)) rfl
set_option maxRecDepth 100000 in
theorem wd_822 : (Jvm.Cond.methodLink "FlowApply$Writer" (77 : Nat) ({ cls := "FlowApply$Writer", name := "putExpression", desc := "(LFlowApply$Scene;I)V" } : Jvm.MethodName)) ∈ fa_wG := fa_it (tb_4 _ (List.mem_of_getElem? (i := 102) rfl)) rfl
set_option maxRecDepth 100000 in
theorem wd_824 : (Jvm.Cond.instanceMethod ({ cls := "FlowApply$Writer", name := "putExpression", desc := "(LFlowApply$Scene;I)V" } : Jvm.MethodName)) ∈ fa_wG := fa_it (tb_4 _ (List.mem_of_getElem? (i := 104) rfl)) rfl
set_option maxRecDepth 100000 in
theorem wd_825 : (Jvm.Cond.code ({ cls := "FlowApply$Writer", name := "putExpression", desc := "(LFlowApply$Scene;I)V" } : Jvm.MethodName) prog_10_method_6_code (8 : Nat) (Option.none : Option Jvm.ClassFile.FieldType)) ∈ fa_wG := fa_it (tb_4 _ (List.mem_of_getElem? (i := 105) rfl)) rfl
set_option maxRecDepth 100000 in
theorem wd_826 : (Jvm.Cond.methodLink "FlowApply$Writer" (148 : Nat) ({ cls := "FlowApply$Writer", name := "putPiece", desc := "(LFlowApply$Scene;II)V" } : Jvm.MethodName)) ∈ fa_wG := fa_it (tb_4 _ (List.mem_of_getElem? (i := 106) rfl)) rfl
set_option maxRecDepth 100000 in
theorem wd_828 : (Jvm.Cond.instanceMethod ({ cls := "FlowApply$Writer", name := "putPiece", desc := "(LFlowApply$Scene;II)V" } : Jvm.MethodName)) ∈ fa_wG := fa_it (tb_4 _ (List.mem_of_getElem? (i := 108) rfl)) rfl
set_option maxRecDepth 100000 in
theorem wd_829 : (Jvm.Cond.code ({ cls := "FlowApply$Writer", name := "putPiece", desc := "(LFlowApply$Scene;II)V" } : Jvm.MethodName) prog_10_method_8_code (6 : Nat) (Option.none : Option Jvm.ClassFile.FieldType)) ∈ fa_wG := fa_it (tb_4 _ (List.mem_of_getElem? (i := 109) rfl)) rfl
set_option maxRecDepth 100000 in
theorem wd_830 : (Jvm.Cond.methodLink "FlowApply$Writer" (162 : Nat) ({ cls := "FlowApply$Program", name := "value", desc := "(I)I" } : Jvm.MethodName)) ∈ fa_wG := fa_it (tb_4 _ (List.mem_of_getElem? (i := 110) rfl)) rfl
set_option maxRecDepth 100000 in
theorem wd_831 : (Jvm.Cond.methodLink "FlowApply$Writer" (156 : Nat) ({ cls := "FlowApply$Program", name := "kind", desc := "(I)I" } : Jvm.MethodName)) ∈ fa_wG := fa_it (tb_4 _ (List.mem_of_getElem? (i := 111) rfl)) rfl
set_option maxRecDepth 100000 in
theorem wd_832 : (Jvm.Cond.methodLink "FlowApply$Writer" (130 : Nat) ({ cls := "FlowApply$Writer", name := "putNumber", desc := "(I)V" } : Jvm.MethodName)) ∈ fa_wG := fa_it (tb_4 _ (List.mem_of_getElem? (i := 112) rfl)) rfl
set_option maxRecDepth 100000 in
theorem wd_834 : (Jvm.Cond.instanceMethod ({ cls := "FlowApply$Writer", name := "putNumber", desc := "(I)V" } : Jvm.MethodName)) ∈ fa_wG := fa_it (tb_4 _ (List.mem_of_getElem? (i := 114) rfl)) rfl
set_option maxRecDepth 100000 in
theorem wd_835 : (Jvm.Cond.code ({ cls := "FlowApply$Writer", name := "putNumber", desc := "(I)V" } : Jvm.MethodName) prog_10_method_17_code (4 : Nat) (Option.none : Option Jvm.ClassFile.FieldType)) ∈ fa_wG := fa_it (tb_4 _ (List.mem_of_getElem? (i := 115) rfl)) rfl
set_option maxRecDepth 100000 in
theorem wd_836 : (Jvm.Cond.methodLink "FlowApply$Writer" (135 : Nat) ({ cls := "FlowApply$Writer", name := "putData", desc := "(LFlowApply$Program;I)V" } : Jvm.MethodName)) ∈ fa_wG := fa_it (tb_4 _ (List.mem_of_getElem? (i := 116) rfl)) rfl
set_option maxRecDepth 100000 in
theorem wd_838 : (Jvm.Cond.instanceMethod ({ cls := "FlowApply$Writer", name := "putData", desc := "(LFlowApply$Program;I)V" } : Jvm.MethodName)) ∈ fa_wG := fa_it (tb_4 _ (List.mem_of_getElem? (i := 118) rfl)) rfl
set_option maxRecDepth 100000 in
theorem wd_839 : (Jvm.Cond.code ({ cls := "FlowApply$Writer", name := "putData", desc := "(LFlowApply$Program;I)V" } : Jvm.MethodName) prog_10_method_10_code (4 : Nat) (Option.none : Option Jvm.ClassFile.FieldType)) ∈ fa_wG := fa_it (tb_4 _ (List.mem_of_getElem? (i := 119) rfl)) rfl
set_option maxRecDepth 100000 in
theorem wd_842 : (Jvm.Cond.methodLink "FlowApply$Writer" (192 : Nat) ({ cls := "FlowApply$Program", name := "listFields", desc := "(ILFlowApply$Row;)V" } : Jvm.MethodName)) ∈ fa_wG := fa_it (tb_4 _ (List.mem_of_getElem? (i := 122) rfl)) rfl
set_option maxRecDepth 100000 in
theorem wd_843 : (Jvm.Cond.instanceMethod ({ cls := "FlowApply$Program", name := "listFields", desc := "(ILFlowApply$Row;)V" } : Jvm.MethodName)) ∈ fa_wG := fa_it (tb_4 _ (List.mem_of_getElem? (i := 123) rfl)) rfl
set_option maxRecDepth 100000 in
theorem wd_844 : (Jvm.Cond.selects "FlowApply$Program" ({ cls := "FlowApply$Program", name := "listFields", desc := "(ILFlowApply$Row;)V" } : Jvm.MethodName) ({ cls := "FlowApply$Program", name := "listFields", desc := "(ILFlowApply$Row;)V" } : Jvm.MethodName)) ∈ fa_wG := fa_it (tb_4 _ (List.mem_of_getElem? (i := 124) rfl)) rfl
set_option maxRecDepth 100000 in
theorem wd_845 : (Jvm.Cond.code ({ cls := "FlowApply$Program", name := "listFields", desc := "(ILFlowApply$Row;)V" } : Jvm.MethodName) prog_5_method_11_code (8 : Nat) (Option.none : Option Jvm.ClassFile.FieldType)) ∈ fa_wG := fa_it (tb_4 _ (List.mem_of_getElem? (i := 125) rfl)) rfl
set_option maxRecDepth 100000 in
theorem wd_846 : (Jvm.Cond.methodLink "FlowApply$Program" (97 : Nat) ({ cls := "java/lang/Math", name := "max", desc := "(II)I" } : Jvm.MethodName)) ∈ fa_wG := fa_it (tb_4 _ (List.mem_of_getElem? (i := 126) rfl)) rfl
set_option maxRecDepth 100000 in
theorem wd_847 : (Jvm.Cond.methodLink "FlowApply$Program" (103 : Nat) ({ cls := "FlowApply$Row", name := "placeOf", desc := "(I)I" } : Jvm.MethodName)) ∈ fa_wG := fa_it (tb_4 _ (List.mem_of_getElem? (i := 127) rfl)) rfl
set_option maxRecDepth 100000 in
theorem wd_851 : (Jvm.Cond.methodLink "FlowApply$Writer" (165 : Nat) ({ cls := "FlowApply$Writer", name := "putLambda", desc := "(LFlowApply$Program;II)V" } : Jvm.MethodName)) ∈ fa_wG := fa_it (tb_4 _ (List.mem_of_getElem? (i := 131) rfl)) rfl
set_option maxRecDepth 100000 in
theorem wd_853 : (Jvm.Cond.instanceMethod ({ cls := "FlowApply$Writer", name := "putLambda", desc := "(LFlowApply$Program;II)V" } : Jvm.MethodName)) ∈ fa_wG := fa_it (tb_4 _ (List.mem_of_getElem? (i := 133) rfl)) rfl
set_option maxRecDepth 100000 in
theorem wd_854 : (Jvm.Cond.code ({ cls := "FlowApply$Writer", name := "putLambda", desc := "(LFlowApply$Program;II)V" } : Jvm.MethodName) prog_10_method_9_code (4 : Nat) (Option.none : Option Jvm.ClassFile.FieldType)) ∈ fa_wG := fa_it (tb_4 _ (List.mem_of_getElem? (i := 134) rfl)) rfl
set_option maxRecDepth 100000 in
theorem wd_857 : (Jvm.Cond.methodLink "FlowApply$Writer" (168 : Nat) ({ cls := "FlowApply$Writer", name := "choicePiece", desc := "(I)Ljava/lang/String;" } : Jvm.MethodName)) ∈ fa_wG := fa_it (tb_4 _ (List.mem_of_getElem? (i := 137) rfl)) rfl
set_option maxRecDepth 100000 in
theorem wd_858 : (Jvm.Cond.static ({ cls := "FlowApply$Writer", name := "choicePiece", desc := "(I)Ljava/lang/String;" } : Jvm.MethodName)) ∈ fa_wG := fa_it (tb_4 _ (List.mem_of_getElem? (i := 138) rfl)) rfl
set_option maxRecDepth 100000 in
theorem wd_859 : (Jvm.Cond.code ({ cls := "FlowApply$Writer", name := "choicePiece", desc := "(I)Ljava/lang/String;" } : Jvm.MethodName) prog_10_method_11_code (1 : Nat) (Option.some (Jvm.ClassFile.FieldType.object "java/lang/String"))) ∈ fa_wG := fa_it (tb_4 _ (List.mem_of_getElem? (i := 139) rfl)) rfl
set_option maxRecDepth 100000 in
theorem wd_863 : (Jvm.Cond.methodLink "FlowApply$Writer" (172 : Nat) ({ cls := "FlowApply$Writer", name := "putLet", desc := "(LFlowApply$Program;II)V" } : Jvm.MethodName)) ∈ fa_wG := fa_it (tb_4 _ (List.mem_of_getElem? (i := 143) rfl)) rfl
set_option maxRecDepth 100000 in
theorem wd_865 : (Jvm.Cond.instanceMethod ({ cls := "FlowApply$Writer", name := "putLet", desc := "(LFlowApply$Program;II)V" } : Jvm.MethodName)) ∈ fa_wG := fa_it (tb_4 _ (List.mem_of_getElem? (i := 145) rfl)) rfl
set_option maxRecDepth 100000 in
theorem wd_866 : (Jvm.Cond.code ({ cls := "FlowApply$Writer", name := "putLet", desc := "(LFlowApply$Program;II)V" } : Jvm.MethodName) prog_10_method_12_code (4 : Nat) (Option.none : Option Jvm.ClassFile.FieldType)) ∈ fa_wG := fa_it (tb_4 _ (List.mem_of_getElem? (i := 146) rfl)) rfl
set_option maxRecDepth 100000 in
theorem wd_869 : (Jvm.Cond.methodLink "FlowApply$Writer" (175 : Nat) ({ cls := "FlowApply$Writer", name := "putOperator", desc := "(II)V" } : Jvm.MethodName)) ∈ fa_wG := fa_it (tb_4 _ (List.mem_of_getElem? (i := 149) rfl)) rfl
set_option maxRecDepth 100000 in
theorem wd_871 : (Jvm.Cond.instanceMethod ({ cls := "FlowApply$Writer", name := "putOperator", desc := "(II)V" } : Jvm.MethodName)) ∈ fa_wG := fa_it (tb_4 _ (List.mem_of_getElem? (i := 151) rfl)) rfl
set_option maxRecDepth 100000 in
theorem wd_872 : (Jvm.Cond.code ({ cls := "FlowApply$Writer", name := "putOperator", desc := "(II)V" } : Jvm.MethodName) prog_10_method_13_code (3 : Nat) (Option.none : Option Jvm.ClassFile.FieldType)) ∈ fa_wG := fa_it (tb_4 _ (List.mem_of_getElem? (i := 152) rfl)) rfl
set_option maxRecDepth 100000 in
theorem wd_873 : (Jvm.Cond.methodLink "FlowApply$Writer" (179 : Nat) ({ cls := "FlowApply$Writer", name := "putSite", desc := "(LFlowApply$Scene;II)V" } : Jvm.MethodName)) ∈ fa_wG := fa_it (tb_4 _ (List.mem_of_getElem? (i := 153) rfl)) rfl
set_option maxRecDepth 100000 in
theorem wd_875 : (Jvm.Cond.instanceMethod ({ cls := "FlowApply$Writer", name := "putSite", desc := "(LFlowApply$Scene;II)V" } : Jvm.MethodName)) ∈ fa_wG := fa_it (tb_4 _ (List.mem_of_getElem? (i := 155) rfl)) rfl
set_option maxRecDepth 100000 in
theorem wd_876 : (Jvm.Cond.code ({ cls := "FlowApply$Writer", name := "putSite", desc := "(LFlowApply$Scene;II)V" } : Jvm.MethodName) prog_10_method_14_code (5 : Nat) (Option.none : Option Jvm.ClassFile.FieldType)) ∈ fa_wG := fa_it (tb_4 _ (List.mem_of_getElem? (i := 156) rfl)) rfl
set_option maxRecDepth 100000 in
theorem wd_877 : (Jvm.Cond.methodLink "FlowApply$Writer" (208 : Nat) ({ cls := "FlowApply$Flow", name := "applied", desc := "(LFlowApply$Program;I)I" } : Jvm.MethodName)) ∈ fa_wG := fa_it (tb_4 _ (List.mem_of_getElem? (i := 157) rfl)) rfl
set_option maxRecDepth 100000 in
theorem wd_880 : (Jvm.Cond.methodLinkNest "FlowApply$Writer" (115 : Nat) ({ cls := "FlowApply", name := "lowest", desc := "(I)I" } : Jvm.MethodName) "FlowApply") ∈ fa_nest := List.mem_of_getElem? (i := 72) (by decide +kernel)
set_option maxRecDepth 100000 in
theorem wd_881 : (Jvm.Cond.methodLink "FlowApply$Writer" (214 : Nat) ({ cls := "FlowApply$Groups", name := "groupOf", desc := "(II)I" } : Jvm.MethodName)) ∈ fa_wG := fa_it (tb_4 _ (List.mem_of_getElem? (i := 161) rfl)) rfl
set_option maxRecDepth 100000 in
theorem wd_882 : (Jvm.Cond.instanceMethod ({ cls := "FlowApply$Groups", name := "groupOf", desc := "(II)I" } : Jvm.MethodName)) ∈ fa_wG := fa_it (tb_4 _ (List.mem_of_getElem? (i := 162) rfl)) rfl
set_option maxRecDepth 100000 in
theorem wd_883 : (Jvm.Cond.selects "FlowApply$Groups" ({ cls := "FlowApply$Groups", name := "groupOf", desc := "(II)I" } : Jvm.MethodName) ({ cls := "FlowApply$Groups", name := "groupOf", desc := "(II)I" } : Jvm.MethodName)) ∈ fa_wG := fa_it (tb_4 _ (List.mem_of_getElem? (i := 163) rfl)) rfl
set_option maxRecDepth 100000 in
theorem wd_884 : (Jvm.Cond.code ({ cls := "FlowApply$Groups", name := "groupOf", desc := "(II)I" } : Jvm.MethodName) prog_3_method_8_code (4 : Nat) (Option.some Jvm.ClassFile.FieldType.int)) ∈ fa_wG := fa_it (tb_4 _ (List.mem_of_getElem? (i := 164) rfl)) rfl
set_option maxRecDepth 100000 in
theorem wd_886 : (Jvm.Cond.methodLink "FlowApply$Writer" (152 : Nat) ({ cls := "FlowApply$Writer", name := "nextPart", desc := "(LFlowApply$Program;II)I" } : Jvm.MethodName)) ∈ fa_wG := fa_it (tb_4 _ (List.mem_of_getElem? (i := 166) rfl)) rfl
set_option maxRecDepth 100000 in
theorem wd_888 : (Jvm.Cond.instanceMethod ({ cls := "FlowApply$Writer", name := "nextPart", desc := "(LFlowApply$Program;II)I" } : Jvm.MethodName)) ∈ fa_wG := fa_it (tb_4 _ (List.mem_of_getElem? (i := 168) rfl)) rfl
set_option maxRecDepth 100000 in
theorem wd_889 : (Jvm.Cond.code ({ cls := "FlowApply$Writer", name := "nextPart", desc := "(LFlowApply$Program;II)I" } : Jvm.MethodName) prog_10_method_7_code (5 : Nat) (Option.some Jvm.ClassFile.FieldType.int)) ∈ fa_wG := fa_it (tb_4 _ (List.mem_of_getElem? (i := 169) rfl)) rfl
set_option maxRecDepth 100000 in
theorem wd_890 : (Jvm.Cond.methodLink "FlowApply$Writer" (159 : Nat) ({ cls := "FlowApply$Program", name := "part", desc := "(II)I" } : Jvm.MethodName)) ∈ fa_wG := fa_it (tb_4 _ (List.mem_of_getElem? (i := 170) rfl)) rfl
set_option maxRecDepth 100000 in
theorem wd_892 : (Jvm.Cond.arrayClass Jvm.ClassFile.FieldType.byte) ∈ fa_wG := fa_it (tb_4 _ (List.mem_of_getElem? (i := 172) rfl)) rfl
set_option maxRecDepth 100000 in
theorem wd_893 : (Jvm.Cond.methodLink "FlowApplyLaw" (129 : Nat) ({ cls := "FlowApply", name := "show", desc := "()I" } : Jvm.MethodName)) ∈ fa_wG := fa_it (tb_4 _ (List.mem_of_getElem? (i := 173) rfl)) rfl
set_option maxRecDepth 100000 in
theorem wd_894 : (Jvm.Cond.instanceMethod ({ cls := "FlowApply", name := "show", desc := "()I" } : Jvm.MethodName)) ∈ fa_wG := fa_it (tb_4 _ (List.mem_of_getElem? (i := 174) rfl)) rfl
set_option maxRecDepth 100000 in
theorem wd_895 : (Jvm.Cond.selects "FlowApply" ({ cls := "FlowApply", name := "show", desc := "()I" } : Jvm.MethodName) ({ cls := "FlowApply", name := "show", desc := "()I" } : Jvm.MethodName)) ∈ fa_wG := fa_it (tb_4 _ (List.mem_of_getElem? (i := 175) rfl)) rfl
set_option maxRecDepth 100000 in
theorem wd_896 : (Jvm.Cond.code ({ cls := "FlowApply", name := "show", desc := "()I" } : Jvm.MethodName) prog_1_method_25_code (1 : Nat) (Option.some Jvm.ClassFile.FieldType.int)) ∈ fa_wG := fa_it (tb_4 _ (List.mem_of_getElem? (i := 176) rfl)) rfl
set_option maxRecDepth 100000 in
theorem wd_897 : (Jvm.Cond.methodLink "FlowApplyLaw" (133 : Nat) ({ cls := "FlowApply", name := "take", desc := "()I" } : Jvm.MethodName)) ∈ fa_wG := fa_it (tb_4 _ (List.mem_of_getElem? (i := 177) rfl)) rfl
set_option maxRecDepth 100000 in
theorem wd_898 : (Jvm.Cond.instanceMethod ({ cls := "FlowApply", name := "take", desc := "()I" } : Jvm.MethodName)) ∈ fa_wG := fa_it (tb_4 _ (List.mem_of_getElem? (i := 178) rfl)) rfl
set_option maxRecDepth 100000 in
theorem wd_899 : (Jvm.Cond.selects "FlowApply" ({ cls := "FlowApply", name := "take", desc := "()I" } : Jvm.MethodName) ({ cls := "FlowApply", name := "take", desc := "()I" } : Jvm.MethodName)) ∈ fa_wG := fa_it (tb_4 _ (List.mem_of_getElem? (i := 179) rfl)) rfl
set_option maxRecDepth 100000 in
theorem wd_900 : (Jvm.Cond.code ({ cls := "FlowApply", name := "take", desc := "()I" } : Jvm.MethodName) prog_1_method_26_code (1 : Nat) (Option.some Jvm.ClassFile.FieldType.int)) ∈ fa_wG := fa_it (tb_4 _ (List.mem_of_getElem? (i := 180) rfl)) rfl
set_option maxRecDepth 100000 in
theorem wd_901 : (Jvm.Cond.methodLink "FlowApply" (115 : Nat) ({ cls := "FlowApply", name := "adopt", desc := "()I" } : Jvm.MethodName)) ∈ fa_wG := fa_it (tb_4 _ (List.mem_of_getElem? (i := 181) rfl)) rfl
set_option maxRecDepth 100000 in
theorem wd_903 : (Jvm.Cond.instanceMethod ({ cls := "FlowApply", name := "adopt", desc := "()I" } : Jvm.MethodName)) ∈ fa_wG := fa_it (tb_4 _ (List.mem_of_getElem? (i := 183) rfl)) rfl
set_option maxRecDepth 100000 in
theorem wd_904 : (Jvm.Cond.code ({ cls := "FlowApply", name := "adopt", desc := "()I" } : Jvm.MethodName) prog_1_method_6_code (2 : Nat) (Option.some Jvm.ClassFile.FieldType.int)) ∈ fa_wG := fa_it (tb_4 _ (List.mem_of_getElem? (i := 184) rfl)) rfl
set_option maxRecDepth 100000 in
theorem wd_905 : (Jvm.Cond.methodLink "FlowApply" (90 : Nat) ({ cls := "FlowApply$Row", name := "clear", desc := "()V" } : Jvm.MethodName)) ∈ fa_wG := fa_it (tb_4 _ (List.mem_of_getElem? (i := 185) rfl)) rfl
set_option maxRecDepth 100000 in
theorem wd_906 : (Jvm.Cond.methodLink "FlowApply" (118 : Nat) ({ cls := "FlowApply$Machine", name := "forget", desc := "()V" } : Jvm.MethodName)) ∈ fa_wG := fa_it (tb_4 _ (List.mem_of_getElem? (i := 186) rfl)) rfl
set_option maxRecDepth 100000 in
theorem wd_907 : (Jvm.Cond.instanceMethod ({ cls := "FlowApply$Machine", name := "forget", desc := "()V" } : Jvm.MethodName)) ∈ fa_wG := fa_it (tb_4 _ (List.mem_of_getElem? (i := 187) rfl)) rfl
set_option maxRecDepth 100000 in
theorem wd_908 : (Jvm.Cond.selects "FlowApply$Machine" ({ cls := "FlowApply$Machine", name := "forget", desc := "()V" } : Jvm.MethodName) ({ cls := "FlowApply$Machine", name := "forget", desc := "()V" } : Jvm.MethodName)) ∈ fa_wG := fa_it (tb_4 _ (List.mem_of_getElem? (i := 188) rfl)) rfl
set_option maxRecDepth 100000 in
theorem wd_909 : (Jvm.Cond.code ({ cls := "FlowApply$Machine", name := "forget", desc := "()V" } : Jvm.MethodName) prog_4_method_3_code (1 : Nat) (Option.none : Option Jvm.ClassFile.FieldType)) ∈ fa_wG := fa_it (tb_4 _ (List.mem_of_getElem? (i := 189) rfl)) rfl
set_option maxRecDepth 100000 in
theorem wd_910 : (Jvm.Cond.methodLink "FlowApplyLaw" (143 : Nat) ({ cls := "FlowApply", name := "octet", desc := "(I)I" } : Jvm.MethodName)) ∈ fa_wG := fa_it (tb_4 _ (List.mem_of_getElem? (i := 190) rfl)) rfl
set_option maxRecDepth 100000 in
theorem wd_911 : (Jvm.Cond.instanceMethod ({ cls := "FlowApply", name := "octet", desc := "(I)I" } : Jvm.MethodName)) ∈ fa_wG := fa_it (tb_4 _ (List.mem_of_getElem? (i := 191) rfl)) rfl
set_option maxRecDepth 100000 in
theorem wd_912 : (Jvm.Cond.selects "FlowApply" ({ cls := "FlowApply", name := "octet", desc := "(I)I" } : Jvm.MethodName) ({ cls := "FlowApply", name := "octet", desc := "(I)I" } : Jvm.MethodName)) ∈ fa_wG := fa_it (tb_4 _ (List.mem_of_getElem? (i := 192) rfl)) rfl
set_option maxRecDepth 100000 in
theorem wd_913 : (Jvm.Cond.code ({ cls := "FlowApply", name := "octet", desc := "(I)I" } : Jvm.MethodName) prog_1_method_29_code (2 : Nat) (Option.some Jvm.ClassFile.FieldType.int)) ∈ fa_wG := fa_it (tb_4 _ (List.mem_of_getElem? (i := 193) rfl)) rfl
set_option maxRecDepth 100000 in
theorem wd_914 : (Jvm.Cond.methodLink "FlowApplyLaw" (147 : Nat) ({ cls := "FlowApply", name := "count", desc := "(I)I" } : Jvm.MethodName)) ∈ fa_wG := fa_it (tb_4 _ (List.mem_of_getElem? (i := 194) rfl)) rfl
set_option maxRecDepth 100000 in
theorem wd_915 : (Jvm.Cond.instanceMethod ({ cls := "FlowApply", name := "count", desc := "(I)I" } : Jvm.MethodName)) ∈ fa_wG := fa_it (tb_4 _ (List.mem_of_getElem? (i := 195) rfl)) rfl
set_option maxRecDepth 100000 in
theorem wd_916 : (Jvm.Cond.selects "FlowApply" ({ cls := "FlowApply", name := "count", desc := "(I)I" } : Jvm.MethodName) ({ cls := "FlowApply", name := "count", desc := "(I)I" } : Jvm.MethodName)) ∈ fa_wG := fa_it (tb_4 _ (List.mem_of_getElem? (i := 196) rfl)) rfl
set_option maxRecDepth 100000 in
theorem wd_917 : (Jvm.Cond.code ({ cls := "FlowApply", name := "count", desc := "(I)I" } : Jvm.MethodName) prog_1_method_30_code (2 : Nat) (Option.some Jvm.ClassFile.FieldType.int)) ∈ fa_wG := fa_it (tb_4 _ (List.mem_of_getElem? (i := 197) rfl)) rfl
set_option maxRecDepth 100000 in
theorem wd_918 : (Jvm.Cond.methodLink "FlowApply" (340 : Nat) ({ cls := "FlowApply$Program", name := "things", desc := "()I" } : Jvm.MethodName)) ∈ fa_wG := fa_it (tb_4 _ (List.mem_of_getElem? (i := 198) rfl)) rfl
set_option maxRecDepth 100000 in
theorem wd_919 : (Jvm.Cond.methodLink "FlowApply" (183 : Nat) ({ cls := "FlowApply$Flow", name := "escapes", desc := "(LFlowApply$Program;)I" } : Jvm.MethodName)) ∈ fa_wG := fa_it (tb_4 _ (List.mem_of_getElem? (i := 199) rfl)) rfl
set_option maxRecDepth 100000 in
theorem wd_920 : (Jvm.Cond.instanceMethod ({ cls := "FlowApply$Flow", name := "escapes", desc := "(LFlowApply$Program;)I" } : Jvm.MethodName)) ∈ fa_wG := fa_it (tb_4 _ (List.mem_of_getElem? (i := 200) rfl)) rfl
set_option maxRecDepth 100000 in
theorem wd_921 : (Jvm.Cond.selects "FlowApply$Flow" ({ cls := "FlowApply$Flow", name := "escapes", desc := "(LFlowApply$Program;)I" } : Jvm.MethodName) ({ cls := "FlowApply$Flow", name := "escapes", desc := "(LFlowApply$Program;)I" } : Jvm.MethodName)) ∈ fa_wG := fa_it (tb_4 _ (List.mem_of_getElem? (i := 201) rfl)) rfl
set_option maxRecDepth 100000 in
theorem wd_922 : (Jvm.Cond.code ({ cls := "FlowApply$Flow", name := "escapes", desc := "(LFlowApply$Program;)I" } : Jvm.MethodName) prog_2_method_9_code (2 : Nat) (Option.some Jvm.ClassFile.FieldType.int)) ∈ fa_wG := fa_it (tb_4 _ (List.mem_of_getElem? (i := 202) rfl)) rfl
set_option maxRecDepth 100000 in
theorem wd_923 : (Jvm.Cond.methodLink "FlowApply" (343 : Nat) ({ cls := "FlowApply$Flow", name := "countLooked", desc := "(LFlowApply$Program;)I" } : Jvm.MethodName)) ∈ fa_wG := fa_it (tb_4 _ (List.mem_of_getElem? (i := 203) rfl)) rfl
set_option maxRecDepth 100000 in
theorem wd_924 : (Jvm.Cond.instanceMethod ({ cls := "FlowApply$Flow", name := "countLooked", desc := "(LFlowApply$Program;)I" } : Jvm.MethodName)) ∈ fa_wG := fa_it (tb_4 _ (List.mem_of_getElem? (i := 204) rfl)) rfl
set_option maxRecDepth 100000 in
theorem wd_925 : (Jvm.Cond.selects "FlowApply$Flow" ({ cls := "FlowApply$Flow", name := "countLooked", desc := "(LFlowApply$Program;)I" } : Jvm.MethodName) ({ cls := "FlowApply$Flow", name := "countLooked", desc := "(LFlowApply$Program;)I" } : Jvm.MethodName)) ∈ fa_wG := fa_it (tb_4 _ (List.mem_of_getElem? (i := 205) rfl)) rfl
set_option maxRecDepth 100000 in
theorem wd_926 : (Jvm.Cond.code ({ cls := "FlowApply$Flow", name := "countLooked", desc := "(LFlowApply$Program;)I" } : Jvm.MethodName) prog_2_method_18_code (4 : Nat) (Option.some Jvm.ClassFile.FieldType.int)) ∈ fa_wG := fa_it (tb_4 _ (List.mem_of_getElem? (i := 206) rfl)) rfl
set_option maxRecDepth 100000 in
theorem wd_927 : (Jvm.Cond.methodLinkNest "FlowApply$Flow" (148 : Nat) ({ cls := "FlowApply", name := "oneIf", desc := "(Z)I" } : Jvm.MethodName) "FlowApply") ∈ fa_nest := List.mem_of_getElem? (i := 73) (by decide +kernel)
set_option maxRecDepth 100000 in
theorem wd_928 : (Jvm.Cond.static ({ cls := "FlowApply", name := "oneIf", desc := "(Z)I" } : Jvm.MethodName)) ∈ fa_wG := fa_it (tb_4 _ (List.mem_of_getElem? (i := 208) rfl)) rfl
set_option maxRecDepth 100000 in
theorem wd_929 : (Jvm.Cond.code ({ cls := "FlowApply", name := "oneIf", desc := "(Z)I" } : Jvm.MethodName) prog_1_method_33_code (1 : Nat) (Option.some Jvm.ClassFile.FieldType.int)) ∈ fa_wG := fa_it (tb_4 _ (List.mem_of_getElem? (i := 209) rfl)) rfl
set_option maxRecDepth 100000 in
theorem wd_930 : (Jvm.Cond.methodLink "FlowApply" (346 : Nat) ({ cls := "FlowApply$Flow", name := "countKnown", desc := "(LFlowApply$Program;)I" } : Jvm.MethodName)) ∈ fa_wG := fa_it (tb_4 _ (List.mem_of_getElem? (i := 210) rfl)) rfl
set_option maxRecDepth 100000 in
theorem wd_931 : (Jvm.Cond.instanceMethod ({ cls := "FlowApply$Flow", name := "countKnown", desc := "(LFlowApply$Program;)I" } : Jvm.MethodName)) ∈ fa_wG := fa_it (tb_4 _ (List.mem_of_getElem? (i := 211) rfl)) rfl
set_option maxRecDepth 100000 in
theorem wd_932 : (Jvm.Cond.selects "FlowApply$Flow" ({ cls := "FlowApply$Flow", name := "countKnown", desc := "(LFlowApply$Program;)I" } : Jvm.MethodName) ({ cls := "FlowApply$Flow", name := "countKnown", desc := "(LFlowApply$Program;)I" } : Jvm.MethodName)) ∈ fa_wG := fa_it (tb_4 _ (List.mem_of_getElem? (i := 212) rfl)) rfl
set_option maxRecDepth 100000 in
theorem wd_933 : (Jvm.Cond.code ({ cls := "FlowApply$Flow", name := "countKnown", desc := "(LFlowApply$Program;)I" } : Jvm.MethodName) prog_2_method_19_code (4 : Nat) (Option.some Jvm.ClassFile.FieldType.int)) ∈ fa_wG := fa_it (tb_4 _ (List.mem_of_getElem? (i := 213) rfl)) rfl
set_option maxRecDepth 100000 in
theorem wd_934 : (Jvm.Cond.methodLink "FlowApply$Flow" (152 : Nat) ({ cls := "java/lang/Integer", name := "bitCount", desc := "(I)I" } : Jvm.MethodName)) ∈ fa_wG := fa_it (tb_4 _ (List.mem_of_getElem? (i := 214) rfl)) rfl
set_option maxRecDepth 100000 in
theorem wd_935 : (Jvm.Cond.static ({ cls := "java/lang/Integer", name := "bitCount", desc := "(I)I" } : Jvm.MethodName)) ∈ fa_wG := fa_it (tb_4 _ (List.mem_of_getElem? (i := 215) rfl)) rfl
set_option maxRecDepth 100000 in
theorem wd_936 : (Jvm.Cond.code ({ cls := "java/lang/Integer", name := "bitCount", desc := "(I)I" } : Jvm.MethodName) prog_20_method_49_code (1 : Nat) (Option.some Jvm.ClassFile.FieldType.int)) ∈ fa_wG := fa_it (tb_4 _ (List.mem_of_getElem? (i := 216) rfl)) rfl
set_option maxRecDepth 100000 in
theorem wd_937 : (Jvm.Cond.constant "java/lang/Integer" (265 : Nat) (1431655765 : Int32)) ∈ fa_wG := fa_it (tb_4 _ (List.mem_of_getElem? (i := 217) rfl)) rfl
set_option maxRecDepth 100000 in
theorem wd_938 : (Jvm.Cond.constant "java/lang/Integer" (266 : Nat) (858993459 : Int32)) ∈ fa_wG := fa_it (tb_4 _ (List.mem_of_getElem? (i := 218) rfl)) rfl
set_option maxRecDepth 100000 in
theorem wd_939 : (Jvm.Cond.constant "java/lang/Integer" (267 : Nat) (252645135 : Int32)) ∈ fa_wG := fa_it (tb_4 _ (List.mem_of_getElem? (i := 219) rfl)) rfl
set_option maxRecDepth 100000 in
theorem wd_940 : (Jvm.Cond.methodLink "FlowApply" (349 : Nat) ({ cls := "FlowApply", name := "countMadeFields", desc := "()I" } : Jvm.MethodName)) ∈ fa_wG := fa_it (tb_4 _ (List.mem_of_getElem? (i := 220) rfl)) rfl
set_option maxRecDepth 100000 in
theorem wd_942 : (Jvm.Cond.instanceMethod ({ cls := "FlowApply", name := "countMadeFields", desc := "()I" } : Jvm.MethodName)) ∈ fa_wG := fa_it (tb_4 _ (List.mem_of_getElem? (i := 222) rfl)) rfl
set_option maxRecDepth 100000 in
theorem wd_943 : (Jvm.Cond.code ({ cls := "FlowApply", name := "countMadeFields", desc := "()I" } : Jvm.MethodName) prog_1_method_31_code (3 : Nat) (Option.some Jvm.ClassFile.FieldType.int)) ∈ fa_wG := fa_it (tb_4 _ (List.mem_of_getElem? (i := 223) rfl)) rfl
set_option maxRecDepth 100000 in
theorem wd_944 : (Jvm.Cond.methodLink "FlowApply" (143 : Nat) ({ cls := "FlowApply", name := "hasBit", desc := "(II)Z" } : Jvm.MethodName)) ∈ fa_wG := fa_it (tb_4 _ (List.mem_of_getElem? (i := 224) rfl)) rfl
set_option maxRecDepth 100000 in
theorem wd_945 : (Jvm.Cond.methodLink "FlowApply" (164 : Nat) ({ cls := "FlowApply", name := "countFields", desc := "(LFlowApply$Program;I)I" } : Jvm.MethodName)) ∈ fa_wG := fa_it (tb_4 _ (List.mem_of_getElem? (i := 225) rfl)) rfl
set_option maxRecDepth 100000 in
theorem wd_947 : (Jvm.Cond.instanceMethod ({ cls := "FlowApply", name := "countFields", desc := "(LFlowApply$Program;I)I" } : Jvm.MethodName)) ∈ fa_wG := fa_it (tb_4 _ (List.mem_of_getElem? (i := 227) rfl)) rfl
set_option maxRecDepth 100000 in
theorem wd_948 : (Jvm.Cond.code ({ cls := "FlowApply", name := "countFields", desc := "(LFlowApply$Program;I)I" } : Jvm.MethodName) prog_1_method_10_code (3 : Nat) (Option.some Jvm.ClassFile.FieldType.int)) ∈ fa_wG := fa_it (tb_4 _ (List.mem_of_getElem? (i := 228) rfl)) rfl
set_option maxRecDepth 100000 in
theorem wd_949 : (Jvm.Cond.methodLink "FlowApply" (200 : Nat) ({ cls := "FlowApply$Program", name := "listFields", desc := "(ILFlowApply$Row;)V" } : Jvm.MethodName)) ∈ fa_wG := fa_it (tb_4 _ (List.mem_of_getElem? (i := 229) rfl)) rfl
set_option maxRecDepth 100000 in
theorem wd_950 : (Jvm.Cond.methodLink "FlowApply" (352 : Nat) ({ cls := "FlowApply", name := "countBackThings", desc := "()I" } : Jvm.MethodName)) ∈ fa_wG := fa_it (tb_4 _ (List.mem_of_getElem? (i := 230) rfl)) rfl
set_option maxRecDepth 100000 in
theorem wd_952 : (Jvm.Cond.instanceMethod ({ cls := "FlowApply", name := "countBackThings", desc := "()I" } : Jvm.MethodName)) ∈ fa_wG := fa_it (tb_4 _ (List.mem_of_getElem? (i := 232) rfl)) rfl
set_option maxRecDepth 100000 in
theorem wd_953 : (Jvm.Cond.code ({ cls := "FlowApply", name := "countBackThings", desc := "()I" } : Jvm.MethodName) prog_1_method_32_code (1 : Nat) (Option.some Jvm.ClassFile.FieldType.int)) ∈ fa_wG := fa_it (tb_4 _ (List.mem_of_getElem? (i := 233) rfl)) rfl
set_option maxRecDepth 100000 in
theorem wd_954 : (Jvm.Cond.methodLink "FlowApplyLaw" (75 : Nat) ({ cls := "FlowApplyLaw", name := "read", desc := "(LFlowApply;[J)I" } : Jvm.MethodName)) ∈ fa_wG := fa_it (tb_4 _ (List.mem_of_getElem? (i := 234) rfl)) rfl
set_option maxRecDepth 100000 in
theorem wd_955 : (Jvm.Cond.static ({ cls := "FlowApplyLaw", name := "read", desc := "(LFlowApply;[J)I" } : Jvm.MethodName)) ∈ fa_wG := fa_it (tb_4 _ (List.mem_of_getElem? (i := 235) rfl)) rfl
set_option maxRecDepth 100000 in
theorem wd_957 : (Jvm.Cond.classLink "FlowApplyLaw" (13 : Nat) "java/lang/IllegalArgumentException") ∈ fa_wG := fa_it (tb_4 _ (List.mem_of_getElem? (i := 237) rfl)) rfl
set_option maxRecDepth 100000 in
theorem wd_958 : (Jvm.Cond.classLink "FlowApplyLaw" (15 : Nat) "java/lang/IllegalStateException") ∈ fa_wG := fa_it (tb_4 _ (List.mem_of_getElem? (i := 238) rfl)) rfl
set_option maxRecDepth 100000 in
theorem wd_959 : (Jvm.Cond.methodLink "FlowApplyLaw" (7 : Nat) ({ cls := "FlowApply", name := "read", desc := "()I" } : Jvm.MethodName)) ∈ fa_wG := fa_it (tb_4 _ (List.mem_of_getElem? (i := 239) rfl)) rfl
set_option maxRecDepth 100000 in
theorem wd_960 : (Jvm.Cond.instanceMethod ({ cls := "FlowApply", name := "read", desc := "()I" } : Jvm.MethodName)) ∈ fa_wG := fa_it (tb_5 _ (List.mem_of_getElem? (i := 0) rfl)) rfl
set_option maxRecDepth 100000 in
theorem wd_961 : (Jvm.Cond.selects "FlowApply" ({ cls := "FlowApply", name := "read", desc := "()I" } : Jvm.MethodName) ({ cls := "FlowApply", name := "read", desc := "()I" } : Jvm.MethodName)) ∈ fa_wG := fa_it (tb_5 _ (List.mem_of_getElem? (i := 1) rfl)) rfl
set_option maxRecDepth 100000 in
theorem wd_962 : (Jvm.Cond.code ({ cls := "FlowApply", name := "read", desc := "()I" } : Jvm.MethodName) prog_1_method_5_code (1 : Nat) (Option.some Jvm.ClassFile.FieldType.int)) ∈ fa_wG := fa_it (tb_5 _ (List.mem_of_getElem? (i := 2) rfl)) rfl
set_option maxRecDepth 100000 in
theorem wd_963 : (Jvm.Cond.methodLink "FlowApply" (87 : Nat) ({ cls := "FlowApply$Reader", name := "parse", desc := "()I" } : Jvm.MethodName)) ∈ fa_wG := fa_it (tb_5 _ (List.mem_of_getElem? (i := 3) rfl)) rfl
set_option maxRecDepth 100000 in
theorem wd_964 : (Jvm.Cond.instanceMethod ({ cls := "FlowApply$Reader", name := "parse", desc := "()I" } : Jvm.MethodName)) ∈ fa_wG := fa_it (tb_5 _ (List.mem_of_getElem? (i := 4) rfl)) rfl
set_option maxRecDepth 100000 in
theorem wd_965 : (Jvm.Cond.selects "FlowApply$Reader" ({ cls := "FlowApply$Reader", name := "parse", desc := "()I" } : Jvm.MethodName) ({ cls := "FlowApply$Reader", name := "parse", desc := "()I" } : Jvm.MethodName)) ∈ fa_wG := fa_it (tb_5 _ (List.mem_of_getElem? (i := 5) rfl)) rfl
set_option maxRecDepth 100000 in
theorem wd_966 : (Jvm.Cond.code ({ cls := "FlowApply$Reader", name := "parse", desc := "()I" } : Jvm.MethodName) prog_6_method_2_code (2 : Nat) (Option.some Jvm.ClassFile.FieldType.int)) ∈ fa_wG := fa_it (tb_5 _ (List.mem_of_getElem? (i := 6) rfl)) rfl
set_option maxRecDepth 100000 in
theorem wd_967 : (Jvm.Cond.methodLink "FlowApply$Reader" (61 : Nat) ({ cls := "FlowApply$Reader", name := "clear", desc := "()V" } : Jvm.MethodName)) ∈ fa_wG := fa_it (tb_5 _ (List.mem_of_getElem? (i := 7) rfl)) rfl
set_option maxRecDepth 100000 in
theorem wd_969 : (Jvm.Cond.instanceMethod ({ cls := "FlowApply$Reader", name := "clear", desc := "()V" } : Jvm.MethodName)) ∈ fa_wG := fa_it (tb_5 _ (List.mem_of_getElem? (i := 9) rfl)) rfl
set_option maxRecDepth 100000 in
theorem wd_970 : (Jvm.Cond.code ({ cls := "FlowApply$Reader", name := "clear", desc := "()V" } : Jvm.MethodName) prog_6_method_4_code (1 : Nat) (Option.none : Option Jvm.ClassFile.FieldType)) ∈ fa_wG := fa_it (tb_5 _ (List.mem_of_getElem? (i := 10) rfl)) rfl
set_option maxRecDepth 100000 in
theorem wd_971 : (Jvm.Cond.methodLink "FlowApply$Reader" (84 : Nat) ({ cls := "FlowApply$Program", name := "clear", desc := "()V" } : Jvm.MethodName)) ∈ fa_wG := fa_it (tb_5 _ (List.mem_of_getElem? (i := 11) rfl)) rfl
set_option maxRecDepth 100000 in
theorem wd_972 : (Jvm.Cond.methodLink "FlowApply$Reader" (85 : Nat) ({ cls := "FlowApply$Row", name := "clear", desc := "()V" } : Jvm.MethodName)) ∈ fa_wG := fa_it (tb_5 _ (List.mem_of_getElem? (i := 12) rfl)) rfl
set_option maxRecDepth 100000 in
theorem wd_973 : (Jvm.Cond.methodLink "FlowApply$Reader" (64 : Nat) ({ cls := "FlowApply$Reader", name := "advance", desc := "()V" } : Jvm.MethodName)) ∈ fa_wG := fa_it (tb_5 _ (List.mem_of_getElem? (i := 13) rfl)) rfl
set_option maxRecDepth 100000 in
theorem wd_975 : (Jvm.Cond.instanceMethod ({ cls := "FlowApply$Reader", name := "advance", desc := "()V" } : Jvm.MethodName)) ∈ fa_wG := fa_it (tb_5 _ (List.mem_of_getElem? (i := 15) rfl)) rfl
set_option maxRecDepth 100000 in
theorem wd_976 : (Jvm.Cond.code ({ cls := "FlowApply$Reader", name := "advance", desc := "()V" } : Jvm.MethodName) prog_6_method_6_code (2 : Nat) (Option.none : Option Jvm.ClassFile.FieldType)) ∈ fa_wG := fa_it (tb_5 _ (List.mem_of_getElem? (i := 16) rfl)) rfl
set_option maxRecDepth 100000 in
theorem wd_977 : (Jvm.Cond.methodLink "FlowApply$Reader" (86 : Nat) ({ cls := "FlowApply$Row", name := "at", desc := "(I)I" } : Jvm.MethodName)) ∈ fa_wG := fa_it (tb_5 _ (List.mem_of_getElem? (i := 17) rfl)) rfl
set_option maxRecDepth 100000 in
theorem wd_978 : (Jvm.Cond.methodLink "FlowApply$Reader" (90 : Nat) ({ cls := "FlowApply$Reader", name := "isBlank", desc := "(I)Z" } : Jvm.MethodName)) ∈ fa_wG := fa_it (tb_5 _ (List.mem_of_getElem? (i := 18) rfl)) rfl
set_option maxRecDepth 100000 in
theorem wd_979 : (Jvm.Cond.static ({ cls := "FlowApply$Reader", name := "isBlank", desc := "(I)Z" } : Jvm.MethodName)) ∈ fa_wG := fa_it (tb_5 _ (List.mem_of_getElem? (i := 19) rfl)) rfl
set_option maxRecDepth 100000 in
theorem wd_980 : (Jvm.Cond.code ({ cls := "FlowApply$Reader", name := "isBlank", desc := "(I)Z" } : Jvm.MethodName) prog_6_method_7_code (1 : Nat) (Option.some Jvm.ClassFile.FieldType.boolean)) ∈ fa_wG := fa_it (tb_5 _ (List.mem_of_getElem? (i := 20) rfl)) rfl
set_option maxRecDepth 100000 in
theorem wd_981 : (Jvm.Cond.methodLink "FlowApply$Reader" (94 : Nat) ({ cls := "FlowApply$Reader", name := "isLetter", desc := "(I)Z" } : Jvm.MethodName)) ∈ fa_wG := fa_it (tb_5 _ (List.mem_of_getElem? (i := 21) rfl)) rfl
set_option maxRecDepth 100000 in
theorem wd_982 : (Jvm.Cond.static ({ cls := "FlowApply$Reader", name := "isLetter", desc := "(I)Z" } : Jvm.MethodName)) ∈ fa_wG := fa_it (tb_5 _ (List.mem_of_getElem? (i := 22) rfl)) rfl
set_option maxRecDepth 100000 in
theorem wd_983 : (Jvm.Cond.code ({ cls := "FlowApply$Reader", name := "isLetter", desc := "(I)Z" } : Jvm.MethodName) prog_6_method_8_code (1 : Nat) (Option.some Jvm.ClassFile.FieldType.boolean)) ∈ fa_wG := fa_it (tb_5 _ (List.mem_of_getElem? (i := 23) rfl)) rfl
set_option maxRecDepth 100000 in
theorem wd_984 : (Jvm.Cond.methodLink "FlowApply$Reader" (97 : Nat) ({ cls := "FlowApply$Reader", name := "isKeyword", desc := "(I)Z" } : Jvm.MethodName)) ∈ fa_wG := fa_it (tb_5 _ (List.mem_of_getElem? (i := 24) rfl)) rfl
set_option maxRecDepth 100000 in
theorem wd_985 : (Jvm.Cond.static ({ cls := "FlowApply$Reader", name := "isKeyword", desc := "(I)Z" } : Jvm.MethodName)) ∈ fa_wG := fa_it (tb_5 _ (List.mem_of_getElem? (i := 25) rfl)) rfl
set_option maxRecDepth 100000 in
theorem wd_986 : (Jvm.Cond.code ({ cls := "FlowApply$Reader", name := "isKeyword", desc := "(I)Z" } : Jvm.MethodName) prog_6_method_11_code (1 : Nat) (Option.some Jvm.ClassFile.FieldType.boolean)) ∈ fa_wG := fa_it (tb_5 _ (List.mem_of_getElem? (i := 26) rfl)) rfl
set_option maxRecDepth 100000 in
theorem wd_987 : (Jvm.Cond.methodLink "FlowApply$Reader" (100 : Nat) ({ cls := "FlowApply$Reader", name := "isDigit", desc := "(I)Z" } : Jvm.MethodName)) ∈ fa_wG := fa_it (tb_5 _ (List.mem_of_getElem? (i := 27) rfl)) rfl
set_option maxRecDepth 100000 in
theorem wd_988 : (Jvm.Cond.static ({ cls := "FlowApply$Reader", name := "isDigit", desc := "(I)Z" } : Jvm.MethodName)) ∈ fa_wG := fa_it (tb_5 _ (List.mem_of_getElem? (i := 28) rfl)) rfl
set_option maxRecDepth 100000 in
theorem wd_989 : (Jvm.Cond.code ({ cls := "FlowApply$Reader", name := "isDigit", desc := "(I)Z" } : Jvm.MethodName) prog_6_method_9_code (1 : Nat) (Option.some Jvm.ClassFile.FieldType.boolean)) ∈ fa_wG := fa_it (tb_5 _ (List.mem_of_getElem? (i := 29) rfl)) rfl
set_option maxRecDepth 100000 in
theorem wd_990 : (Jvm.Cond.methodLink "FlowApply$Reader" (103 : Nat) ({ cls := "FlowApply$Reader", name := "signAt", desc := "(I)I" } : Jvm.MethodName)) ∈ fa_wG := fa_it (tb_5 _ (List.mem_of_getElem? (i := 30) rfl)) rfl
set_option maxRecDepth 100000 in
theorem wd_991 : (Jvm.Cond.static ({ cls := "FlowApply$Reader", name := "signAt", desc := "(I)I" } : Jvm.MethodName)) ∈ fa_wG := fa_it (tb_5 _ (List.mem_of_getElem? (i := 31) rfl)) rfl
set_option maxRecDepth 100000 in
theorem wd_992 : (Jvm.Cond.code ({ cls := "FlowApply$Reader", name := "signAt", desc := "(I)I" } : Jvm.MethodName) prog_6_method_10_code (1 : Nat) (Option.some Jvm.ClassFile.FieldType.int)) ∈ fa_wG := fa_it (tb_5 _ (List.mem_of_getElem? (i := 32) rfl)) rfl
set_option maxRecDepth 100000 in
theorem wd_993 : (Jvm.Cond.constant "FlowApply$Reader" (67 : Nat) (6714734 : Int32)) ∈ fa_wG := fa_it (tb_5 _ (List.mem_of_getElem? (i := 33) rfl)) rfl
set_option maxRecDepth 100000 in
theorem wd_994 : (Jvm.Cond.methodLink "FlowApply$Reader" (68 : Nat) ({ cls := "FlowApply$Reader", name := "global", desc := "()V" } : Jvm.MethodName)) ∈ fa_wG := fa_it (tb_5 _ (List.mem_of_getElem? (i := 34) rfl)) rfl
set_option maxRecDepth 100000 in
theorem wd_996 : (Jvm.Cond.instanceMethod ({ cls := "FlowApply$Reader", name := "global", desc := "()V" } : Jvm.MethodName)) ∈ fa_wG := fa_it (tb_5 _ (List.mem_of_getElem? (i := 36) rfl)) rfl
set_option maxRecDepth 100000 in
theorem wd_997 : (Jvm.Cond.code ({ cls := "FlowApply$Reader", name := "global", desc := "()V" } : Jvm.MethodName) prog_6_method_15_code (2 : Nat) (Option.none : Option Jvm.ClassFile.FieldType)) ∈ fa_wG := fa_it (tb_5 _ (List.mem_of_getElem? (i := 37) rfl)) rfl
set_option maxRecDepth 100000 in
theorem wd_998 : (Jvm.Cond.methodLink "FlowApply$Reader" (78 : Nat) ({ cls := "FlowApply$Reader", name := "fail", desc := "()V" } : Jvm.MethodName)) ∈ fa_wG := fa_it (tb_5 _ (List.mem_of_getElem? (i := 38) rfl)) rfl
set_option maxRecDepth 100000 in
theorem wd_1000 : (Jvm.Cond.instanceMethod ({ cls := "FlowApply$Reader", name := "fail", desc := "()V" } : Jvm.MethodName)) ∈ fa_wG := fa_it (tb_5 _ (List.mem_of_getElem? (i := 40) rfl)) rfl
set_option maxRecDepth 100000 in
theorem wd_1001 : (Jvm.Cond.code ({ cls := "FlowApply$Reader", name := "fail", desc := "()V" } : Jvm.MethodName) prog_6_method_5_code (1 : Nat) (Option.none : Option Jvm.ClassFile.FieldType)) ∈ fa_wG := fa_it (tb_5 _ (List.mem_of_getElem? (i := 41) rfl)) rfl
set_option maxRecDepth 100000 in
theorem wd_1002 : (Jvm.Cond.methodLink "FlowApply$Reader" (109 : Nat) ({ cls := "FlowApply$Row", name := "placeOf", desc := "(I)I" } : Jvm.MethodName)) ∈ fa_wG := fa_it (tb_5 _ (List.mem_of_getElem? (i := 42) rfl)) rfl
set_option maxRecDepth 100000 in
theorem wd_1003 : (Jvm.Cond.methodLink "FlowApply$Reader" (112 : Nat) ({ cls := "FlowApply$Row", name := "add", desc := "(I)V" } : Jvm.MethodName)) ∈ fa_wG := fa_it (tb_5 _ (List.mem_of_getElem? (i := 43) rfl)) rfl
set_option maxRecDepth 100000 in
theorem wd_1004 : (Jvm.Cond.methodLink "FlowApply$Reader" (115 : Nat) ({ cls := "FlowApply$Reader", name := "nameVariable", desc := "(I)V" } : Jvm.MethodName)) ∈ fa_wG := fa_it (tb_5 _ (List.mem_of_getElem? (i := 44) rfl)) rfl
set_option maxRecDepth 100000 in
theorem wd_1006 : (Jvm.Cond.instanceMethod ({ cls := "FlowApply$Reader", name := "nameVariable", desc := "(I)V" } : Jvm.MethodName)) ∈ fa_wG := fa_it (tb_5 _ (List.mem_of_getElem? (i := 46) rfl)) rfl
set_option maxRecDepth 100000 in
theorem wd_1007 : (Jvm.Cond.code ({ cls := "FlowApply$Reader", name := "nameVariable", desc := "(I)V" } : Jvm.MethodName) prog_6_method_16_code (2 : Nat) (Option.none : Option Jvm.ClassFile.FieldType)) ∈ fa_wG := fa_it (tb_5 _ (List.mem_of_getElem? (i := 47) rfl)) rfl
set_option maxRecDepth 100000 in
theorem wd_1008 : (Jvm.Cond.methodLink "FlowApply$Reader" (124 : Nat) ({ cls := "FlowApply$Row", name := "set", desc := "(II)V" } : Jvm.MethodName)) ∈ fa_wG := fa_it (tb_5 _ (List.mem_of_getElem? (i := 48) rfl)) rfl
set_option maxRecDepth 100000 in
theorem wd_1009 : (Jvm.Cond.methodLink "FlowApply$Reader" (118 : Nat) ({ cls := "FlowApply$Reader", name := "expect", desc := "(I)V" } : Jvm.MethodName)) ∈ fa_wG := fa_it (tb_5 _ (List.mem_of_getElem? (i := 49) rfl)) rfl
set_option maxRecDepth 100000 in
theorem wd_1011 : (Jvm.Cond.instanceMethod ({ cls := "FlowApply$Reader", name := "expect", desc := "(I)V" } : Jvm.MethodName)) ∈ fa_wG := fa_it (tb_5 _ (List.mem_of_getElem? (i := 51) rfl)) rfl
set_option maxRecDepth 100000 in
theorem wd_1012 : (Jvm.Cond.code ({ cls := "FlowApply$Reader", name := "expect", desc := "(I)V" } : Jvm.MethodName) prog_6_method_12_code (2 : Nat) (Option.none : Option Jvm.ClassFile.FieldType)) ∈ fa_wG := fa_it (tb_5 _ (List.mem_of_getElem? (i := 52) rfl)) rfl
set_option maxRecDepth 100000 in
theorem wd_1013 : (Jvm.Cond.methodLink "FlowApply$Reader" (71 : Nat) ({ cls := "FlowApply$Reader", name := "expression", desc := "()I" } : Jvm.MethodName)) ∈ fa_wG := fa_it (tb_5 _ (List.mem_of_getElem? (i := 53) rfl)) rfl
set_option maxRecDepth 100000 in
theorem wd_1015 : (Jvm.Cond.instanceMethod ({ cls := "FlowApply$Reader", name := "expression", desc := "()I" } : Jvm.MethodName)) ∈ fa_wG := fa_it (tb_5 _ (List.mem_of_getElem? (i := 55) rfl)) rfl
set_option maxRecDepth 100000 in
theorem wd_1016 : (Jvm.Cond.code ({ cls := "FlowApply$Reader", name := "expression", desc := "()I" } : Jvm.MethodName) prog_6_method_17_code (1 : Nat) (Option.some Jvm.ClassFile.FieldType.int)) ∈ fa_wG := fa_it (tb_5 _ (List.mem_of_getElem? (i := 56) rfl)) rfl
set_option maxRecDepth 100000 in
theorem wd_1017 : (Jvm.Cond.methodLink "FlowApply$Reader" (131 : Nat) ({ cls := "FlowApply$Reader", name := "lambda", desc := "()I" } : Jvm.MethodName)) ∈ fa_wG := fa_it (tb_5 _ (List.mem_of_getElem? (i := 57) rfl)) rfl
set_option maxRecDepth 100000 in
theorem wd_1019 : (Jvm.Cond.instanceMethod ({ cls := "FlowApply$Reader", name := "lambda", desc := "()I" } : Jvm.MethodName)) ∈ fa_wG := fa_it (tb_5 _ (List.mem_of_getElem? (i := 59) rfl)) rfl
set_option maxRecDepth 100000 in
theorem wd_1020 : (Jvm.Cond.code ({ cls := "FlowApply$Reader", name := "lambda", desc := "()I" } : Jvm.MethodName) prog_6_method_18_code (4 : Nat) (Option.some Jvm.ClassFile.FieldType.int)) ∈ fa_wG := fa_it (tb_5 _ (List.mem_of_getElem? (i := 60) rfl)) rfl
set_option maxRecDepth 100000 in
theorem wd_1021 : (Jvm.Cond.methodLink "FlowApply$Reader" (143 : Nat) ({ cls := "FlowApply$Reader", name := "countThing", desc := "()V" } : Jvm.MethodName)) ∈ fa_wG := fa_it (tb_5 _ (List.mem_of_getElem? (i := 61) rfl)) rfl
set_option maxRecDepth 100000 in
theorem wd_1023 : (Jvm.Cond.instanceMethod ({ cls := "FlowApply$Reader", name := "countThing", desc := "()V" } : Jvm.MethodName)) ∈ fa_wG := fa_it (tb_5 _ (List.mem_of_getElem? (i := 63) rfl)) rfl
set_option maxRecDepth 100000 in
theorem wd_1024 : (Jvm.Cond.code ({ cls := "FlowApply$Reader", name := "countThing", desc := "()V" } : Jvm.MethodName) prog_6_method_13_code (1 : Nat) (Option.none : Option Jvm.ClassFile.FieldType)) ∈ fa_wG := fa_it (tb_5 _ (List.mem_of_getElem? (i := 64) rfl)) rfl
set_option maxRecDepth 100000 in
theorem wd_1025 : (Jvm.Cond.methodLink "FlowApply$Reader" (146 : Nat) ({ cls := "FlowApply$Reader", name := "nest", desc := "()Z" } : Jvm.MethodName)) ∈ fa_wG := fa_it (tb_5 _ (List.mem_of_getElem? (i := 65) rfl)) rfl
set_option maxRecDepth 100000 in
theorem wd_1027 : (Jvm.Cond.instanceMethod ({ cls := "FlowApply$Reader", name := "nest", desc := "()Z" } : Jvm.MethodName)) ∈ fa_wG := fa_it (tb_5 _ (List.mem_of_getElem? (i := 67) rfl)) rfl
set_option maxRecDepth 100000 in
theorem wd_1028 : (Jvm.Cond.code ({ cls := "FlowApply$Reader", name := "nest", desc := "()Z" } : Jvm.MethodName) prog_6_method_14_code (1 : Nat) (Option.some Jvm.ClassFile.FieldType.boolean)) ∈ fa_wG := fa_it (tb_5 _ (List.mem_of_getElem? (i := 68) rfl)) rfl
set_option maxRecDepth 100000 in
theorem wd_1029 : (Jvm.Cond.methodLink "FlowApply$Reader" (150 : Nat) ({ cls := "FlowApply$Row", name := "drop", desc := "()I" } : Jvm.MethodName)) ∈ fa_wG := fa_it (tb_5 _ (List.mem_of_getElem? (i := 69) rfl)) rfl
set_option maxRecDepth 100000 in
theorem wd_1030 : (Jvm.Cond.methodLink "FlowApply$Reader" (153 : Nat) ({ cls := "FlowApply$Program", name := "add", desc := "(IIIIII)I" } : Jvm.MethodName)) ∈ fa_wG := fa_it (tb_5 _ (List.mem_of_getElem? (i := 70) rfl)) rfl
set_option maxRecDepth 100000 in
theorem wd_1031 : (Jvm.Cond.methodLink "FlowApply$Reader" (134 : Nat) ({ cls := "FlowApply$Reader", name := "choice", desc := "()I" } : Jvm.MethodName)) ∈ fa_wG := fa_it (tb_5 _ (List.mem_of_getElem? (i := 71) rfl)) rfl
set_option maxRecDepth 100000 in
theorem wd_1033 : (Jvm.Cond.instanceMethod ({ cls := "FlowApply$Reader", name := "choice", desc := "()I" } : Jvm.MethodName)) ∈ fa_wG := fa_it (tb_5 _ (List.mem_of_getElem? (i := 73) rfl)) rfl
set_option maxRecDepth 100000 in
theorem wd_1034 : (Jvm.Cond.code ({ cls := "FlowApply$Reader", name := "choice", desc := "()I" } : Jvm.MethodName) prog_6_method_19_code (4 : Nat) (Option.some Jvm.ClassFile.FieldType.int)) ∈ fa_wG := fa_it (tb_5 _ (List.mem_of_getElem? (i := 74) rfl)) rfl
set_option maxRecDepth 100000 in
theorem wd_1035 : (Jvm.Cond.constant "FlowApply$Reader" (156 : Nat) (1952998766 : Int32)) ∈ fa_wG := fa_it (tb_5 _ (List.mem_of_getElem? (i := 75) rfl)) rfl
set_option maxRecDepth 100000 in
theorem wd_1036 : (Jvm.Cond.constant "FlowApply$Reader" (157 : Nat) (1701606245 : Int32)) ∈ fa_wG := fa_it (tb_5 _ (List.mem_of_getElem? (i := 76) rfl)) rfl
set_option maxRecDepth 100000 in
theorem wd_1037 : (Jvm.Cond.methodLink "FlowApply$Reader" (137 : Nat) ({ cls := "FlowApply$Reader", name := "let", desc := "()I" } : Jvm.MethodName)) ∈ fa_wG := fa_it (tb_5 _ (List.mem_of_getElem? (i := 77) rfl)) rfl
set_option maxRecDepth 100000 in
theorem wd_1039 : (Jvm.Cond.instanceMethod ({ cls := "FlowApply$Reader", name := "let", desc := "()I" } : Jvm.MethodName)) ∈ fa_wG := fa_it (tb_5 _ (List.mem_of_getElem? (i := 79) rfl)) rfl
set_option maxRecDepth 100000 in
theorem wd_1040 : (Jvm.Cond.code ({ cls := "FlowApply$Reader", name := "let", desc := "()I" } : Jvm.MethodName) prog_6_method_20_code (4 : Nat) (Option.some Jvm.ClassFile.FieldType.int)) ∈ fa_wG := fa_it (tb_5 _ (List.mem_of_getElem? (i := 80) rfl)) rfl
set_option maxRecDepth 100000 in
theorem wd_1041 : (Jvm.Cond.methodLink "FlowApply$Reader" (140 : Nat) ({ cls := "FlowApply$Reader", name := "test", desc := "()I" } : Jvm.MethodName)) ∈ fa_wG := fa_it (tb_5 _ (List.mem_of_getElem? (i := 81) rfl)) rfl
set_option maxRecDepth 100000 in
theorem wd_1043 : (Jvm.Cond.instanceMethod ({ cls := "FlowApply$Reader", name := "test", desc := "()I" } : Jvm.MethodName)) ∈ fa_wG := fa_it (tb_5 _ (List.mem_of_getElem? (i := 83) rfl)) rfl
set_option maxRecDepth 100000 in
theorem wd_1044 : (Jvm.Cond.code ({ cls := "FlowApply$Reader", name := "test", desc := "()I" } : Jvm.MethodName) prog_6_method_21_code (3 : Nat) (Option.some Jvm.ClassFile.FieldType.int)) ∈ fa_wG := fa_it (tb_5 _ (List.mem_of_getElem? (i := 84) rfl)) rfl
set_option maxRecDepth 100000 in
theorem wd_1045 : (Jvm.Cond.methodLink "FlowApply$Reader" (158 : Nat) ({ cls := "FlowApply$Reader", name := "sum", desc := "()I" } : Jvm.MethodName)) ∈ fa_wG := fa_it (tb_5 _ (List.mem_of_getElem? (i := 85) rfl)) rfl
set_option maxRecDepth 100000 in
theorem wd_1047 : (Jvm.Cond.instanceMethod ({ cls := "FlowApply$Reader", name := "sum", desc := "()I" } : Jvm.MethodName)) ∈ fa_wG := fa_it (tb_5 _ (List.mem_of_getElem? (i := 87) rfl)) rfl
set_option maxRecDepth 100000 in
theorem wd_1048 : (Jvm.Cond.code ({ cls := "FlowApply$Reader", name := "sum", desc := "()I" } : Jvm.MethodName) prog_6_method_22_code (5 : Nat) (Option.some Jvm.ClassFile.FieldType.int)) ∈ fa_wG := fa_it (tb_5 _ (List.mem_of_getElem? (i := 88) rfl)) rfl
set_option maxRecDepth 100000 in
theorem wd_1049 : (Jvm.Cond.methodLink "FlowApply$Reader" (164 : Nat) ({ cls := "FlowApply$Reader", name := "product", desc := "()I" } : Jvm.MethodName)) ∈ fa_wG := fa_it (tb_5 _ (List.mem_of_getElem? (i := 89) rfl)) rfl
set_option maxRecDepth 100000 in
theorem wd_1051 : (Jvm.Cond.instanceMethod ({ cls := "FlowApply$Reader", name := "product", desc := "()I" } : Jvm.MethodName)) ∈ fa_wG := fa_it (tb_5 _ (List.mem_of_getElem? (i := 91) rfl)) rfl
set_option maxRecDepth 100000 in
theorem wd_1052 : (Jvm.Cond.code ({ cls := "FlowApply$Reader", name := "product", desc := "()I" } : Jvm.MethodName) prog_6_method_23_code (5 : Nat) (Option.some Jvm.ClassFile.FieldType.int)) ∈ fa_wG := fa_it (tb_5 _ (List.mem_of_getElem? (i := 92) rfl)) rfl
set_option maxRecDepth 100000 in
theorem wd_1053 : (Jvm.Cond.methodLink "FlowApply$Reader" (167 : Nat) ({ cls := "FlowApply$Reader", name := "chain", desc := "()I" } : Jvm.MethodName)) ∈ fa_wG := fa_it (tb_5 _ (List.mem_of_getElem? (i := 93) rfl)) rfl
set_option maxRecDepth 100000 in
theorem wd_1055 : (Jvm.Cond.instanceMethod ({ cls := "FlowApply$Reader", name := "chain", desc := "()I" } : Jvm.MethodName)) ∈ fa_wG := fa_it (tb_5 _ (List.mem_of_getElem? (i := 95) rfl)) rfl
set_option maxRecDepth 100000 in
theorem wd_1056 : (Jvm.Cond.code ({ cls := "FlowApply$Reader", name := "chain", desc := "()I" } : Jvm.MethodName) prog_6_method_25_code (5 : Nat) (Option.some Jvm.ClassFile.FieldType.int)) ∈ fa_wG := fa_it (tb_5 _ (List.mem_of_getElem? (i := 96) rfl)) rfl
set_option maxRecDepth 100000 in
theorem wd_1057 : (Jvm.Cond.methodLink "FlowApply$Reader" (170 : Nat) ({ cls := "FlowApply$Reader", name := "atom", desc := "()I" } : Jvm.MethodName)) ∈ fa_wG := fa_it (tb_5 _ (List.mem_of_getElem? (i := 97) rfl)) rfl
set_option maxRecDepth 100000 in
theorem wd_1059 : (Jvm.Cond.instanceMethod ({ cls := "FlowApply$Reader", name := "atom", desc := "()I" } : Jvm.MethodName)) ∈ fa_wG := fa_it (tb_5 _ (List.mem_of_getElem? (i := 99) rfl)) rfl
set_option maxRecDepth 100000 in
theorem wd_1060 : (Jvm.Cond.code ({ cls := "FlowApply$Reader", name := "atom", desc := "()I" } : Jvm.MethodName) prog_6_method_27_code (3 : Nat) (Option.some Jvm.ClassFile.FieldType.int)) ∈ fa_wG := fa_it (tb_5 _ (List.mem_of_getElem? (i := 100) rfl)) rfl
set_option maxRecDepth 100000 in
theorem wd_1061 : (Jvm.Cond.methodLink "FlowApply$Reader" (180 : Nat) ({ cls := "FlowApply$Reader", name := "inner", desc := "()I" } : Jvm.MethodName)) ∈ fa_wG := fa_it (tb_5 _ (List.mem_of_getElem? (i := 101) rfl)) rfl
set_option maxRecDepth 100000 in
theorem wd_1063 : (Jvm.Cond.instanceMethod ({ cls := "FlowApply$Reader", name := "inner", desc := "()I" } : Jvm.MethodName)) ∈ fa_wG := fa_it (tb_5 _ (List.mem_of_getElem? (i := 103) rfl)) rfl
set_option maxRecDepth 100000 in
theorem wd_1064 : (Jvm.Cond.code ({ cls := "FlowApply$Reader", name := "inner", desc := "()I" } : Jvm.MethodName) prog_6_method_29_code (2 : Nat) (Option.some Jvm.ClassFile.FieldType.int)) ∈ fa_wG := fa_it (tb_5 _ (List.mem_of_getElem? (i := 104) rfl)) rfl
set_option maxRecDepth 100000 in
theorem wd_1065 : (Jvm.Cond.methodLink "FlowApply$Reader" (183 : Nat) ({ cls := "FlowApply$Reader", name := "leaf", desc := "(II)I" } : Jvm.MethodName)) ∈ fa_wG := fa_it (tb_5 _ (List.mem_of_getElem? (i := 105) rfl)) rfl
set_option maxRecDepth 100000 in
theorem wd_1067 : (Jvm.Cond.instanceMethod ({ cls := "FlowApply$Reader", name := "leaf", desc := "(II)I" } : Jvm.MethodName)) ∈ fa_wG := fa_it (tb_5 _ (List.mem_of_getElem? (i := 107) rfl)) rfl
set_option maxRecDepth 100000 in
theorem wd_1068 : (Jvm.Cond.code ({ cls := "FlowApply$Reader", name := "leaf", desc := "(II)I" } : Jvm.MethodName) prog_6_method_28_code (3 : Nat) (Option.some Jvm.ClassFile.FieldType.int)) ∈ fa_wG := fa_it (tb_5 _ (List.mem_of_getElem? (i := 108) rfl)) rfl
set_option maxRecDepth 100000 in
theorem wd_1069 : (Jvm.Cond.constant "FlowApply$Reader" (179 : Nat) (1684365668 : Int32)) ∈ fa_wG := fa_it (tb_5 _ (List.mem_of_getElem? (i := 109) rfl)) rfl
set_option maxRecDepth 100000 in
theorem wd_1070 : (Jvm.Cond.methodLink "FlowApply$Reader" (187 : Nat) ({ cls := "FlowApply$Reader", name := "variableNamed", desc := "(I)I" } : Jvm.MethodName)) ∈ fa_wG := fa_it (tb_5 _ (List.mem_of_getElem? (i := 110) rfl)) rfl
set_option maxRecDepth 100000 in
theorem wd_1072 : (Jvm.Cond.instanceMethod ({ cls := "FlowApply$Reader", name := "variableNamed", desc := "(I)I" } : Jvm.MethodName)) ∈ fa_wG := fa_it (tb_5 _ (List.mem_of_getElem? (i := 112) rfl)) rfl
set_option maxRecDepth 100000 in
theorem wd_1073 : (Jvm.Cond.code ({ cls := "FlowApply$Reader", name := "variableNamed", desc := "(I)I" } : Jvm.MethodName) prog_6_method_30_code (3 : Nat) (Option.some Jvm.ClassFile.FieldType.int)) ∈ fa_wG := fa_it (tb_5 _ (List.mem_of_getElem? (i := 113) rfl)) rfl
set_option maxRecDepth 100000 in
theorem wd_1074 : (Jvm.Cond.methodLink "FlowApply$Reader" (190 : Nat) ({ cls := "FlowApply$Row", name := "size", desc := "()I" } : Jvm.MethodName)) ∈ fa_wG := fa_it (tb_5 _ (List.mem_of_getElem? (i := 114) rfl)) rfl
set_option maxRecDepth 100000 in
theorem wd_1075 : (Jvm.Cond.methodLink "FlowApply$Reader" (173 : Nat) ({ cls := "FlowApply$Reader", name := "startsAtom", desc := "()Z" } : Jvm.MethodName)) ∈ fa_wG := fa_it (tb_5 _ (List.mem_of_getElem? (i := 115) rfl)) rfl
set_option maxRecDepth 100000 in
theorem wd_1077 : (Jvm.Cond.instanceMethod ({ cls := "FlowApply$Reader", name := "startsAtom", desc := "()Z" } : Jvm.MethodName)) ∈ fa_wG := fa_it (tb_5 _ (List.mem_of_getElem? (i := 117) rfl)) rfl
set_option maxRecDepth 100000 in
theorem wd_1078 : (Jvm.Cond.code ({ cls := "FlowApply$Reader", name := "startsAtom", desc := "()Z" } : Jvm.MethodName) prog_6_method_26_code (1 : Nat) (Option.some Jvm.ClassFile.FieldType.boolean)) ∈ fa_wG := fa_it (tb_5 _ (List.mem_of_getElem? (i := 118) rfl)) rfl
set_option maxRecDepth 100000 in
theorem wd_1079 : (Jvm.Cond.methodLink "FlowApply$Reader" (161 : Nat) ({ cls := "FlowApply$Reader", name := "startOperator", desc := "()V" } : Jvm.MethodName)) ∈ fa_wG := fa_it (tb_5 _ (List.mem_of_getElem? (i := 119) rfl)) rfl
set_option maxRecDepth 100000 in
theorem wd_1081 : (Jvm.Cond.instanceMethod ({ cls := "FlowApply$Reader", name := "startOperator", desc := "()V" } : Jvm.MethodName)) ∈ fa_wG := fa_it (tb_5 _ (List.mem_of_getElem? (i := 121) rfl)) rfl
set_option maxRecDepth 100000 in
theorem wd_1082 : (Jvm.Cond.code ({ cls := "FlowApply$Reader", name := "startOperator", desc := "()V" } : Jvm.MethodName) prog_6_method_24_code (1 : Nat) (Option.none : Option Jvm.ClassFile.FieldType)) ∈ fa_wG := fa_it (tb_5 _ (List.mem_of_getElem? (i := 122) rfl)) rfl
set_option maxRecDepth 100000 in
theorem wd_1083 : (Jvm.Cond.classLink "FlowApply" (93 : Nat) "java/lang/IllegalArgumentException") ∈ fa_wG := fa_it (tb_5 _ (List.mem_of_getElem? (i := 123) rfl)) rfl
set_option maxRecDepth 100000 in
theorem wd_1084 : (Jvm.Cond.instantiable "java/lang/IllegalArgumentException" (6 : Nat)) ∈ fa_wG := fa_it (tb_5 _ (List.mem_of_getElem? (i := 124) rfl)) rfl
set_option maxRecDepth 100000 in
theorem wd_1085 : (Jvm.Cond.castable "java/lang/IllegalArgumentException" "java/lang/IllegalArgumentException") ∈ fa_nest := List.mem_of_getElem? (i := 74) (by decide +kernel)
set_option maxRecDepth 100000 in
theorem wd_1086 : (Jvm.Cond.declares ({ cls := "java/lang/RuntimeException", name := "<init>", desc := "()V" } : Jvm.MethodName)) ∈ fa_nest := List.mem_of_getElem? (i := 75) (by decide +kernel)
set_option maxRecDepth 100000 in
theorem wd_1087 : (Jvm.Cond.declares ({ cls := "java/lang/RuntimeException", name := "<init>", desc := "(Ljava/lang/String;)V" } : Jvm.MethodName)) ∈ fa_nest := List.mem_of_getElem? (i := 76) (by decide +kernel)
set_option maxRecDepth 100000 in
theorem wd_1088 : (Jvm.Cond.declares ({ cls := "java/lang/Exception", name := "<init>", desc := "()V" } : Jvm.MethodName)) ∈ fa_nest := List.mem_of_getElem? (i := 77) (by decide +kernel)
set_option maxRecDepth 100000 in
theorem wd_1089 : (Jvm.Cond.declares ({ cls := "java/lang/Exception", name := "<init>", desc := "(Ljava/lang/String;)V" } : Jvm.MethodName)) ∈ fa_nest := List.mem_of_getElem? (i := 78) (by decide +kernel)
set_option maxRecDepth 100000 in
theorem wd_1090 : (Jvm.Cond.declares ({ cls := "java/lang/Throwable", name := "<init>", desc := "()V" } : Jvm.MethodName)) ∈ fa_nest := List.mem_of_getElem? (i := 79) (by decide +kernel)
set_option maxRecDepth 100000 in
theorem wd_1091 : (Jvm.Cond.declares ({ cls := "java/lang/Throwable", name := "<init>", desc := "(Ljava/lang/String;)V" } : Jvm.MethodName)) ∈ fa_nest := List.mem_of_getElem? (i := 80) (by decide +kernel)
set_option maxRecDepth 100000 in
theorem wd_1092 : (Jvm.Cond.selects "java/lang/IllegalArgumentException" ({ cls := "java/lang/Throwable", name := "fillInStackTrace", desc := "(I)Ljava/lang/Throwable;" } : Jvm.MethodName) ({ cls := "java/lang/Throwable", name := "fillInStackTrace", desc := "(I)Ljava/lang/Throwable;" } : Jvm.MethodName)) ∈ fa_wG := fa_it (tb_5 _ (List.mem_of_getElem? (i := 132) rfl)) rfl
set_option maxRecDepth 100000 in
theorem wd_1093 : (Jvm.Cond.selects "java/lang/IllegalArgumentException" ({ cls := "java/lang/Throwable", name := "fillInStackTrace", desc := "()Ljava/lang/Throwable;" } : Jvm.MethodName) ({ cls := "java/lang/Throwable", name := "fillInStackTrace", desc := "()Ljava/lang/Throwable;" } : Jvm.MethodName)) ∈ fa_wG := fa_it (tb_5 _ (List.mem_of_getElem? (i := 133) rfl)) rfl
set_option maxRecDepth 100000 in
theorem wd_1094 : (Jvm.Cond.lays "java/lang/IllegalArgumentException" "java/lang/Throwable" "cause" "Ljava/lang/Throwable;") ∈ fa_wG := fa_it (tb_5 _ (List.mem_of_getElem? (i := 134) rfl)) rfl
set_option maxRecDepth 100000 in
theorem wd_1095 : (Jvm.Cond.lays "java/lang/Throwable" "java/lang/Throwable" "cause" "Ljava/lang/Throwable;") ∈ fa_wG := fa_it (tb_5 _ (List.mem_of_getElem? (i := 135) rfl)) rfl
set_option maxRecDepth 100000 in
theorem wd_1096 : (Jvm.Cond.lays "java/lang/IllegalArgumentException" "java/lang/Throwable" "stackTrace" "[Ljava/lang/StackTraceElement;") ∈ fa_wG := fa_it (tb_5 _ (List.mem_of_getElem? (i := 136) rfl)) rfl
set_option maxRecDepth 100000 in
theorem wd_1097 : (Jvm.Cond.lays "java/lang/Throwable" "java/lang/Throwable" "stackTrace" "[Ljava/lang/StackTraceElement;") ∈ fa_wG := fa_it (tb_5 _ (List.mem_of_getElem? (i := 137) rfl)) rfl
set_option maxRecDepth 100000 in
theorem wd_1098 : (Jvm.Cond.lays "java/lang/IllegalArgumentException" "java/lang/Throwable" "suppressedExceptions" "Ljava/util/List;") ∈ fa_wG := fa_it (tb_5 _ (List.mem_of_getElem? (i := 138) rfl)) rfl
set_option maxRecDepth 100000 in
theorem wd_1099 : (Jvm.Cond.lays "java/lang/Throwable" "java/lang/Throwable" "suppressedExceptions" "Ljava/util/List;") ∈ fa_wG := fa_it (tb_5 _ (List.mem_of_getElem? (i := 139) rfl)) rfl
set_option maxRecDepth 100000 in
theorem wd_1100 : (Jvm.Cond.lays "java/lang/IllegalArgumentException" "java/lang/Throwable" "detailMessage" "Ljava/lang/String;") ∈ fa_wG := fa_it (tb_5 _ (List.mem_of_getElem? (i := 140) rfl)) rfl
set_option maxRecDepth 100000 in
theorem wd_1101 : (Jvm.Cond.lays "java/lang/Throwable" "java/lang/Throwable" "detailMessage" "Ljava/lang/String;") ∈ fa_wG := fa_it (tb_5 _ (List.mem_of_getElem? (i := 141) rfl)) rfl
set_option maxRecDepth 100000 in
theorem wd_1102 : (Jvm.Cond.lays "java/lang/IllegalArgumentException" "java/lang/Throwable" "backtrace" "Ljava/lang/Object;") ∈ fa_wG := fa_it (tb_5 _ (List.mem_of_getElem? (i := 142) rfl)) rfl
set_option maxRecDepth 100000 in
theorem wd_1103 : (Jvm.Cond.lays "java/lang/Throwable" "java/lang/Throwable" "backtrace" "Ljava/lang/Object;") ∈ fa_wG := fa_it (tb_5 _ (List.mem_of_getElem? (i := 143) rfl)) rfl
set_option maxRecDepth 100000 in
theorem wd_1104 : (Jvm.Cond.fieldLink "java/lang/Throwable" (198 : Nat) "java/lang/Throwable" "backtrace" "Ljava/lang/Object;") ∈ fa_wG := fa_it (tb_5 _ (List.mem_of_getElem? (i := 144) rfl)) rfl
set_option maxRecDepth 100000 in
theorem wd_1106 : (Jvm.Cond.instanceMethod ({ cls := "java/lang/Throwable", name := "<init>", desc := "()V" } : Jvm.MethodName)) ∈ fa_wG := fa_it (tb_5 _ (List.mem_of_getElem? (i := 146) rfl)) rfl
set_option maxRecDepth 100000 in
theorem wd_1107 : (Jvm.Cond.code ({ cls := "java/lang/Throwable", name := "<init>", desc := "()V" } : Jvm.MethodName) prog_27_method_1_code (1 : Nat) (Option.none : Option Jvm.ClassFile.FieldType)) ∈ fa_wG := fa_it (tb_5 _ (List.mem_of_getElem? (i := 147) rfl)) rfl
set_option maxRecDepth 100000 in
theorem wd_1108 : (Jvm.Cond.methodLink "java/lang/Throwable" (1 : Nat) ({ cls := "java/lang/Object", name := "<init>", desc := "()V" } : Jvm.MethodName)) ∈ fa_wG := fa_it (tb_5 _ (List.mem_of_getElem? (i := 148) rfl)) rfl
set_option maxRecDepth 100000 in
theorem wd_1109 : (Jvm.Cond.fieldLink "java/lang/Throwable" (13 : Nat) "java/lang/Throwable" "UNASSIGNED_STACK" "[Ljava/lang/StackTraceElement;") ∈ fa_wG := fa_it (tb_5 _ (List.mem_of_getElem? (i := 149) rfl)) rfl
set_option maxRecDepth 100000 in
theorem wd_1111 : (Jvm.Cond.fieldLink "java/lang/Throwable" (20 : Nat) "java/lang/Throwable" "SUPPRESSED_SENTINEL" "Ljava/util/List;") ∈ fa_wG := fa_it (tb_5 _ (List.mem_of_getElem? (i := 151) rfl)) rfl
set_option maxRecDepth 100000 in
theorem wd_1113 : (Jvm.Cond.methodLink "java/lang/Throwable" (27 : Nat) ({ cls := "java/lang/Throwable", name := "fillInStackTrace", desc := "()Ljava/lang/Throwable;" } : Jvm.MethodName)) ∈ fa_wG := fa_it (tb_5 _ (List.mem_of_getElem? (i := 153) rfl)) rfl
set_option maxRecDepth 100000 in
theorem wd_1114 : (Jvm.Cond.instanceMethod ({ cls := "java/lang/Throwable", name := "fillInStackTrace", desc := "()Ljava/lang/Throwable;" } : Jvm.MethodName)) ∈ fa_wG := fa_it (tb_5 _ (List.mem_of_getElem? (i := 154) rfl)) rfl
set_option maxRecDepth 100000 in
theorem wd_1116 : (Jvm.Cond.selects "java/lang/IllegalStateException" ({ cls := "java/lang/Throwable", name := "fillInStackTrace", desc := "()Ljava/lang/Throwable;" } : Jvm.MethodName) ({ cls := "java/lang/Throwable", name := "fillInStackTrace", desc := "()Ljava/lang/Throwable;" } : Jvm.MethodName)) ∈ fa_wG := fa_it (tb_5 _ (List.mem_of_getElem? (i := 156) rfl)) rfl
set_option maxRecDepth 100000 in
theorem wd_1117 : (Jvm.Cond.selects "java/lang/IndexOutOfBoundsException" ({ cls := "java/lang/Throwable", name := "fillInStackTrace", desc := "()Ljava/lang/Throwable;" } : Jvm.MethodName) ({ cls := "java/lang/Throwable", name := "fillInStackTrace", desc := "()Ljava/lang/Throwable;" } : Jvm.MethodName)) ∈ fa_wG := fa_it (tb_5 _ (List.mem_of_getElem? (i := 157) rfl)) rfl
set_option maxRecDepth 100000 in
theorem wd_1118 : (Jvm.Cond.selects "java/util/NoSuchElementException" ({ cls := "java/lang/Throwable", name := "fillInStackTrace", desc := "()Ljava/lang/Throwable;" } : Jvm.MethodName) ({ cls := "java/lang/Throwable", name := "fillInStackTrace", desc := "()Ljava/lang/Throwable;" } : Jvm.MethodName)) ∈ fa_wG := fa_it (tb_5 _ (List.mem_of_getElem? (i := 158) rfl)) rfl
set_option maxRecDepth 100000 in
theorem wd_1120 : (Jvm.Cond.methodLink "java/lang/Throwable" (202 : Nat) ({ cls := "java/lang/Throwable", name := "fillInStackTrace", desc := "(I)Ljava/lang/Throwable;" } : Jvm.MethodName)) ∈ fa_wG := fa_it (tb_5 _ (List.mem_of_getElem? (i := 160) rfl)) rfl
set_option maxRecDepth 100000 in
theorem wd_1122 : (Jvm.Cond.instanceMethod ({ cls := "java/lang/Throwable", name := "fillInStackTrace", desc := "(I)Ljava/lang/Throwable;" } : Jvm.MethodName)) ∈ fa_wG := fa_it (tb_5 _ (List.mem_of_getElem? (i := 162) rfl)) rfl
set_option maxRecDepth 100000 in
theorem wd_1123 : (Jvm.Cond.instantiable "java/lang/Throwable" (6 : Nat)) ∈ fa_wG := fa_it (tb_5 _ (List.mem_of_getElem? (i := 163) rfl)) rfl
set_option maxRecDepth 100000 in
theorem wd_1124 : (Jvm.Cond.native ({ cls := "java/lang/Throwable", name := "fillInStackTrace", desc := "(I)Ljava/lang/Throwable;" } : Jvm.MethodName)) ∈ fa_wG := fa_it (tb_5 _ (List.mem_of_getElem? (i := 164) rfl)) rfl
set_option maxRecDepth 100000 in
theorem wd_1126 : (Jvm.Cond.methodLink "FlowApply" (97 : Nat) ({ cls := "java/lang/IllegalArgumentException", name := "<init>", desc := "(Ljava/lang/String;)V" } : Jvm.MethodName)) ∈ fa_wG := fa_it (tb_5 _ (List.mem_of_getElem? (i := 166) rfl)) rfl
set_option maxRecDepth 100000 in
theorem wd_1127 : (Jvm.Cond.instanceMethod ({ cls := "java/lang/IllegalArgumentException", name := "<init>", desc := "(Ljava/lang/String;)V" } : Jvm.MethodName)) ∈ fa_wG := fa_it (tb_5 _ (List.mem_of_getElem? (i := 167) rfl)) rfl
set_option maxRecDepth 100000 in
theorem wd_1128 : (Jvm.Cond.code ({ cls := "java/lang/IllegalArgumentException", name := "<init>", desc := "(Ljava/lang/String;)V" } : Jvm.MethodName) prog_17_method_2_code (2 : Nat) (Option.none : Option Jvm.ClassFile.FieldType)) ∈ fa_wG := fa_it (tb_5 _ (List.mem_of_getElem? (i := 168) rfl)) rfl
set_option maxRecDepth 100000 in
theorem wd_1129 : (Jvm.Cond.methodLink "java/lang/IllegalArgumentException" (7 : Nat) ({ cls := "java/lang/RuntimeException", name := "<init>", desc := "(Ljava/lang/String;)V" } : Jvm.MethodName)) ∈ fa_wG := fa_it (tb_5 _ (List.mem_of_getElem? (i := 169) rfl)) rfl
set_option maxRecDepth 100000 in
theorem wd_1130 : (Jvm.Cond.instanceMethod ({ cls := "java/lang/RuntimeException", name := "<init>", desc := "(Ljava/lang/String;)V" } : Jvm.MethodName)) ∈ fa_wG := fa_it (tb_5 _ (List.mem_of_getElem? (i := 170) rfl)) rfl
set_option maxRecDepth 100000 in
theorem wd_1131 : (Jvm.Cond.code ({ cls := "java/lang/RuntimeException", name := "<init>", desc := "(Ljava/lang/String;)V" } : Jvm.MethodName) prog_22_method_2_code (2 : Nat) (Option.none : Option Jvm.ClassFile.FieldType)) ∈ fa_wG := fa_it (tb_5 _ (List.mem_of_getElem? (i := 171) rfl)) rfl
set_option maxRecDepth 100000 in
theorem wd_1132 : (Jvm.Cond.methodLink "java/lang/RuntimeException" (7 : Nat) ({ cls := "java/lang/Exception", name := "<init>", desc := "(Ljava/lang/String;)V" } : Jvm.MethodName)) ∈ fa_wG := fa_it (tb_5 _ (List.mem_of_getElem? (i := 172) rfl)) rfl
set_option maxRecDepth 100000 in
theorem wd_1133 : (Jvm.Cond.instanceMethod ({ cls := "java/lang/Exception", name := "<init>", desc := "(Ljava/lang/String;)V" } : Jvm.MethodName)) ∈ fa_wG := fa_it (tb_5 _ (List.mem_of_getElem? (i := 173) rfl)) rfl
set_option maxRecDepth 100000 in
theorem wd_1134 : (Jvm.Cond.code ({ cls := "java/lang/Exception", name := "<init>", desc := "(Ljava/lang/String;)V" } : Jvm.MethodName) prog_16_method_2_code (2 : Nat) (Option.none : Option Jvm.ClassFile.FieldType)) ∈ fa_wG := fa_it (tb_5 _ (List.mem_of_getElem? (i := 174) rfl)) rfl
set_option maxRecDepth 100000 in
theorem wd_1135 : (Jvm.Cond.methodLink "java/lang/Exception" (7 : Nat) ({ cls := "java/lang/Throwable", name := "<init>", desc := "(Ljava/lang/String;)V" } : Jvm.MethodName)) ∈ fa_wG := fa_it (tb_5 _ (List.mem_of_getElem? (i := 175) rfl)) rfl
set_option maxRecDepth 100000 in
theorem wd_1136 : (Jvm.Cond.instanceMethod ({ cls := "java/lang/Throwable", name := "<init>", desc := "(Ljava/lang/String;)V" } : Jvm.MethodName)) ∈ fa_wG := fa_it (tb_5 _ (List.mem_of_getElem? (i := 176) rfl)) rfl
set_option maxRecDepth 100000 in
theorem wd_1137 : (Jvm.Cond.code ({ cls := "java/lang/Throwable", name := "<init>", desc := "(Ljava/lang/String;)V" } : Jvm.MethodName) prog_27_method_2_code (2 : Nat) (Option.none : Option Jvm.ClassFile.FieldType)) ∈ fa_wG := fa_it (tb_5 _ (List.mem_of_getElem? (i := 177) rfl)) rfl
set_option maxRecDepth 100000 in
theorem wd_1138 : (Jvm.Cond.fieldLink "java/lang/Throwable" (198 : Nat) "java/lang/Throwable" "backtrace" "Ljava/lang/Object;") ∈ fa_wG := fa_it (tb_5 _ (List.mem_of_getElem? (i := 178) rfl)) rfl
set_option maxRecDepth 100000 in
theorem wd_1139 : (Jvm.Cond.fieldLink "java/lang/Throwable" (31 : Nat) "java/lang/Throwable" "detailMessage" "Ljava/lang/String;") ∈ fa_wG := fa_it (tb_5 _ (List.mem_of_getElem? (i := 179) rfl)) rfl
set_option maxRecDepth 100000 in
theorem wd_1140 : (Jvm.Cond.fieldLink "java/lang/Throwable" (7 : Nat) "java/lang/Throwable" "cause" "Ljava/lang/Throwable;") ∈ fa_wG := fa_it (tb_5 _ (List.mem_of_getElem? (i := 180) rfl)) rfl
set_option maxRecDepth 100000 in
theorem wd_1141 : (Jvm.Cond.fieldLink "java/lang/Throwable" (17 : Nat) "java/lang/Throwable" "stackTrace" "[Ljava/lang/StackTraceElement;") ∈ fa_wG := fa_it (tb_5 _ (List.mem_of_getElem? (i := 181) rfl)) rfl
set_option maxRecDepth 100000 in
theorem wd_1142 : (Jvm.Cond.fieldLink "java/lang/Throwable" (24 : Nat) "java/lang/Throwable" "suppressedExceptions" "Ljava/util/List;") ∈ fa_wG := fa_it (tb_5 _ (List.mem_of_getElem? (i := 182) rfl)) rfl
set_option maxRecDepth 100000 in
theorem wd_1147 : (Jvm.Cond.lays "java/lang/IllegalArgumentException" "java/lang/Throwable" "depth" "I") ∈ fa_wG := fa_it (tb_5 _ (List.mem_of_getElem? (i := 187) rfl)) rfl
set_option maxRecDepth 100000 in
theorem wd_1151 : (Jvm.Cond.methodLink "FlowApply" (103 : Nat) ({ cls := "FlowApply$Reader", name := "told", desc := "()I" } : Jvm.MethodName)) ∈ fa_wG := fa_it (tb_5 _ (List.mem_of_getElem? (i := 191) rfl)) rfl
set_option maxRecDepth 100000 in
theorem wd_1152 : (Jvm.Cond.instanceMethod ({ cls := "FlowApply$Reader", name := "told", desc := "()I" } : Jvm.MethodName)) ∈ fa_wG := fa_it (tb_5 _ (List.mem_of_getElem? (i := 192) rfl)) rfl
set_option maxRecDepth 100000 in
theorem wd_1153 : (Jvm.Cond.selects "FlowApply$Reader" ({ cls := "FlowApply$Reader", name := "told", desc := "()I" } : Jvm.MethodName) ({ cls := "FlowApply$Reader", name := "told", desc := "()I" } : Jvm.MethodName)) ∈ fa_wG := fa_it (tb_5 _ (List.mem_of_getElem? (i := 193) rfl)) rfl
set_option maxRecDepth 100000 in
theorem wd_1154 : (Jvm.Cond.code ({ cls := "FlowApply$Reader", name := "told", desc := "()I" } : Jvm.MethodName) prog_6_method_3_code (1 : Nat) (Option.some Jvm.ClassFile.FieldType.int)) ∈ fa_wG := fa_it (tb_5 _ (List.mem_of_getElem? (i := 194) rfl)) rfl
set_option maxRecDepth 100000 in
theorem wd_1155 : (Jvm.Cond.classLink "FlowApply" (110 : Nat) "java/lang/IllegalStateException") ∈ fa_wG := fa_it (tb_5 _ (List.mem_of_getElem? (i := 195) rfl)) rfl
set_option maxRecDepth 100000 in
theorem wd_1156 : (Jvm.Cond.instantiable "java/lang/IllegalStateException" (6 : Nat)) ∈ fa_wG := fa_it (tb_5 _ (List.mem_of_getElem? (i := 196) rfl)) rfl
set_option maxRecDepth 100000 in
theorem wd_1157 : (Jvm.Cond.castable "java/lang/IllegalStateException" "java/lang/IllegalStateException") ∈ fa_nest := List.mem_of_getElem? (i := 81) (by decide +kernel)
set_option maxRecDepth 100000 in
theorem wd_1158 : (Jvm.Cond.selects "java/lang/IllegalStateException" ({ cls := "java/lang/Throwable", name := "fillInStackTrace", desc := "(I)Ljava/lang/Throwable;" } : Jvm.MethodName) ({ cls := "java/lang/Throwable", name := "fillInStackTrace", desc := "(I)Ljava/lang/Throwable;" } : Jvm.MethodName)) ∈ fa_wG := fa_it (tb_5 _ (List.mem_of_getElem? (i := 198) rfl)) rfl
set_option maxRecDepth 100000 in
theorem wd_1159 : (Jvm.Cond.lays "java/lang/IllegalStateException" "java/lang/Throwable" "cause" "Ljava/lang/Throwable;") ∈ fa_wG := fa_it (tb_5 _ (List.mem_of_getElem? (i := 199) rfl)) rfl
set_option maxRecDepth 100000 in
theorem wd_1160 : (Jvm.Cond.lays "java/lang/IllegalStateException" "java/lang/Throwable" "stackTrace" "[Ljava/lang/StackTraceElement;") ∈ fa_wG := fa_it (tb_5 _ (List.mem_of_getElem? (i := 200) rfl)) rfl
set_option maxRecDepth 100000 in
theorem wd_1161 : (Jvm.Cond.lays "java/lang/IllegalStateException" "java/lang/Throwable" "suppressedExceptions" "Ljava/util/List;") ∈ fa_wG := fa_it (tb_5 _ (List.mem_of_getElem? (i := 201) rfl)) rfl
set_option maxRecDepth 100000 in
theorem wd_1162 : (Jvm.Cond.lays "java/lang/IllegalStateException" "java/lang/Throwable" "detailMessage" "Ljava/lang/String;") ∈ fa_wG := fa_it (tb_5 _ (List.mem_of_getElem? (i := 202) rfl)) rfl
set_option maxRecDepth 100000 in
theorem wd_1163 : (Jvm.Cond.lays "java/lang/IllegalStateException" "java/lang/Throwable" "backtrace" "Ljava/lang/Object;") ∈ fa_wG := fa_it (tb_5 _ (List.mem_of_getElem? (i := 203) rfl)) rfl
set_option maxRecDepth 100000 in
theorem wd_1165 : (Jvm.Cond.methodLink "FlowApply" (114 : Nat) ({ cls := "java/lang/IllegalStateException", name := "<init>", desc := "(Ljava/lang/String;)V" } : Jvm.MethodName)) ∈ fa_wG := fa_it (tb_5 _ (List.mem_of_getElem? (i := 205) rfl)) rfl
set_option maxRecDepth 100000 in
theorem wd_1166 : (Jvm.Cond.instanceMethod ({ cls := "java/lang/IllegalStateException", name := "<init>", desc := "(Ljava/lang/String;)V" } : Jvm.MethodName)) ∈ fa_wG := fa_it (tb_5 _ (List.mem_of_getElem? (i := 206) rfl)) rfl
set_option maxRecDepth 100000 in
theorem wd_1167 : (Jvm.Cond.code ({ cls := "java/lang/IllegalStateException", name := "<init>", desc := "(Ljava/lang/String;)V" } : Jvm.MethodName) prog_18_method_2_code (2 : Nat) (Option.none : Option Jvm.ClassFile.FieldType)) ∈ fa_wG := fa_it (tb_5 _ (List.mem_of_getElem? (i := 207) rfl)) rfl
set_option maxRecDepth 100000 in
theorem wd_1168 : (Jvm.Cond.methodLink "java/lang/IllegalStateException" (7 : Nat) ({ cls := "java/lang/RuntimeException", name := "<init>", desc := "(Ljava/lang/String;)V" } : Jvm.MethodName)) ∈ fa_wG := fa_it (tb_5 _ (List.mem_of_getElem? (i := 208) rfl)) rfl
set_option maxRecDepth 100000 in
theorem wd_1169 : (Jvm.Cond.lays "java/lang/IllegalStateException" "java/lang/Throwable" "depth" "I") ∈ fa_wG := fa_it (tb_5 _ (List.mem_of_getElem? (i := 209) rfl)) rfl
set_option maxRecDepth 100000 in
theorem wd_1171 : (Jvm.Cond.methodLink "FlowApplyLaw" (88 : Nat) ({ cls := "FlowApplyLaw", name := "function", desc := "(LFlowApply;II[J)I" } : Jvm.MethodName)) ∈ fa_wG := fa_it (tb_5 _ (List.mem_of_getElem? (i := 211) rfl)) rfl
set_option maxRecDepth 100000 in
theorem wd_1172 : (Jvm.Cond.static ({ cls := "FlowApplyLaw", name := "function", desc := "(LFlowApply;II[J)I" } : Jvm.MethodName)) ∈ fa_wG := fa_it (tb_5 _ (List.mem_of_getElem? (i := 212) rfl)) rfl
set_option maxRecDepth 100000 in
theorem wd_1174 : (Jvm.Cond.classLink "FlowApplyLaw" (21 : Nat) "java/lang/IndexOutOfBoundsException") ∈ fa_wG := fa_it (tb_5 _ (List.mem_of_getElem? (i := 214) rfl)) rfl
set_option maxRecDepth 100000 in
theorem wd_1175 : (Jvm.Cond.classLink "FlowApplyLaw" (23 : Nat) "java/util/NoSuchElementException") ∈ fa_wG := fa_it (tb_5 _ (List.mem_of_getElem? (i := 215) rfl)) rfl
set_option maxRecDepth 100000 in
theorem wd_1176 : (Jvm.Cond.methodLink "FlowApplyLaw" (17 : Nat) ({ cls := "FlowApply", name := "function", desc := "(II)I" } : Jvm.MethodName)) ∈ fa_wG := fa_it (tb_5 _ (List.mem_of_getElem? (i := 216) rfl)) rfl
set_option maxRecDepth 100000 in
theorem wd_1177 : (Jvm.Cond.instanceMethod ({ cls := "FlowApply", name := "function", desc := "(II)I" } : Jvm.MethodName)) ∈ fa_wG := fa_it (tb_5 _ (List.mem_of_getElem? (i := 217) rfl)) rfl
set_option maxRecDepth 100000 in
theorem wd_1178 : (Jvm.Cond.selects "FlowApply" ({ cls := "FlowApply", name := "function", desc := "(II)I" } : Jvm.MethodName) ({ cls := "FlowApply", name := "function", desc := "(II)I" } : Jvm.MethodName)) ∈ fa_wG := fa_it (tb_5 _ (List.mem_of_getElem? (i := 218) rfl)) rfl
set_option maxRecDepth 100000 in
theorem wd_1179 : (Jvm.Cond.code ({ cls := "FlowApply", name := "function", desc := "(II)I" } : Jvm.MethodName) prog_1_method_8_code (3 : Nat) (Option.some Jvm.ClassFile.FieldType.int)) ∈ fa_wG := fa_it (tb_5 _ (List.mem_of_getElem? (i := 219) rfl)) rfl
set_option maxRecDepth 100000 in
theorem wd_1180 : (Jvm.Cond.methodLink "FlowApply" (124 : Nat) ({ cls := "FlowApply", name := "needFunction", desc := "(I)V" } : Jvm.MethodName)) ∈ fa_wG := fa_it (tb_5 _ (List.mem_of_getElem? (i := 220) rfl)) rfl
set_option maxRecDepth 100000 in
theorem wd_1182 : (Jvm.Cond.instanceMethod ({ cls := "FlowApply", name := "needFunction", desc := "(I)V" } : Jvm.MethodName)) ∈ fa_wG := fa_it (tb_5 _ (List.mem_of_getElem? (i := 222) rfl)) rfl
set_option maxRecDepth 100000 in
theorem wd_1183 : (Jvm.Cond.code ({ cls := "FlowApply", name := "needFunction", desc := "(I)V" } : Jvm.MethodName) prog_1_method_9_code (2 : Nat) (Option.none : Option Jvm.ClassFile.FieldType)) ∈ fa_wG := fa_it (tb_5 _ (List.mem_of_getElem? (i := 223) rfl)) rfl
set_option maxRecDepth 100000 in
theorem wd_1184 : (Jvm.Cond.classLink "FlowApply" (195 : Nat) "java/lang/IndexOutOfBoundsException") ∈ fa_wG := fa_it (tb_5 _ (List.mem_of_getElem? (i := 224) rfl)) rfl
set_option maxRecDepth 100000 in
theorem wd_1185 : (Jvm.Cond.instantiable "java/lang/IndexOutOfBoundsException" (6 : Nat)) ∈ fa_wG := fa_it (tb_5 _ (List.mem_of_getElem? (i := 225) rfl)) rfl
set_option maxRecDepth 100000 in
theorem wd_1186 : (Jvm.Cond.castable "java/lang/IndexOutOfBoundsException" "java/lang/IndexOutOfBoundsException") ∈ fa_nest := List.mem_of_getElem? (i := 82) (by decide +kernel)
set_option maxRecDepth 100000 in
theorem wd_1187 : (Jvm.Cond.selects "java/lang/IndexOutOfBoundsException" ({ cls := "java/lang/Throwable", name := "fillInStackTrace", desc := "(I)Ljava/lang/Throwable;" } : Jvm.MethodName) ({ cls := "java/lang/Throwable", name := "fillInStackTrace", desc := "(I)Ljava/lang/Throwable;" } : Jvm.MethodName)) ∈ fa_wG := fa_it (tb_5 _ (List.mem_of_getElem? (i := 227) rfl)) rfl
set_option maxRecDepth 100000 in
theorem wd_1188 : (Jvm.Cond.lays "java/lang/IndexOutOfBoundsException" "java/lang/Throwable" "cause" "Ljava/lang/Throwable;") ∈ fa_wG := fa_it (tb_5 _ (List.mem_of_getElem? (i := 228) rfl)) rfl
set_option maxRecDepth 100000 in
theorem wd_1189 : (Jvm.Cond.lays "java/lang/IndexOutOfBoundsException" "java/lang/Throwable" "stackTrace" "[Ljava/lang/StackTraceElement;") ∈ fa_wG := fa_it (tb_5 _ (List.mem_of_getElem? (i := 229) rfl)) rfl
set_option maxRecDepth 100000 in
theorem wd_1190 : (Jvm.Cond.lays "java/lang/IndexOutOfBoundsException" "java/lang/Throwable" "suppressedExceptions" "Ljava/util/List;") ∈ fa_wG := fa_it (tb_5 _ (List.mem_of_getElem? (i := 230) rfl)) rfl
set_option maxRecDepth 100000 in
theorem wd_1191 : (Jvm.Cond.lays "java/lang/IndexOutOfBoundsException" "java/lang/Throwable" "detailMessage" "Ljava/lang/String;") ∈ fa_wG := fa_it (tb_5 _ (List.mem_of_getElem? (i := 231) rfl)) rfl
set_option maxRecDepth 100000 in
theorem wd_1192 : (Jvm.Cond.lays "java/lang/IndexOutOfBoundsException" "java/lang/Throwable" "backtrace" "Ljava/lang/Object;") ∈ fa_wG := fa_it (tb_5 _ (List.mem_of_getElem? (i := 232) rfl)) rfl
set_option maxRecDepth 100000 in
theorem wd_1194 : (Jvm.Cond.methodLink "FlowApply" (199 : Nat) ({ cls := "java/lang/IndexOutOfBoundsException", name := "<init>", desc := "(Ljava/lang/String;)V" } : Jvm.MethodName)) ∈ fa_wG := fa_it (tb_5 _ (List.mem_of_getElem? (i := 234) rfl)) rfl
set_option maxRecDepth 100000 in
theorem wd_1195 : (Jvm.Cond.instanceMethod ({ cls := "java/lang/IndexOutOfBoundsException", name := "<init>", desc := "(Ljava/lang/String;)V" } : Jvm.MethodName)) ∈ fa_wG := fa_it (tb_5 _ (List.mem_of_getElem? (i := 235) rfl)) rfl
set_option maxRecDepth 100000 in
theorem wd_1196 : (Jvm.Cond.code ({ cls := "java/lang/IndexOutOfBoundsException", name := "<init>", desc := "(Ljava/lang/String;)V" } : Jvm.MethodName) prog_19_method_2_code (2 : Nat) (Option.none : Option Jvm.ClassFile.FieldType)) ∈ fa_wG := fa_it (tb_5 _ (List.mem_of_getElem? (i := 236) rfl)) rfl
set_option maxRecDepth 100000 in
theorem wd_1197 : (Jvm.Cond.methodLink "java/lang/IndexOutOfBoundsException" (7 : Nat) ({ cls := "java/lang/RuntimeException", name := "<init>", desc := "(Ljava/lang/String;)V" } : Jvm.MethodName)) ∈ fa_wG := fa_it (tb_5 _ (List.mem_of_getElem? (i := 237) rfl)) rfl
set_option maxRecDepth 100000 in
theorem wd_1198 : (Jvm.Cond.lays "java/lang/IndexOutOfBoundsException" "java/lang/Throwable" "depth" "I") ∈ fa_wG := fa_it (tb_5 _ (List.mem_of_getElem? (i := 238) rfl)) rfl
