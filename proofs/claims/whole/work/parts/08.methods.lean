def y_Face_init : MethodName := ⟨"FlowApply", "<init>", "()V"⟩
theorem mi_Face_init : fa_MN y_Face_init prog_1_method_1_code 1 0 := ⟨⟨wd_30, wd_1, ⟨by decide, by decide, by decide +kernel⟩, by decide⟩, wd_29, rfl⟩
def y_Row_init : MethodName := ⟨"FlowApply$Row", "<init>", "(I)V"⟩
theorem mi_Row_init : fa_MN y_Row_init prog_7_method_1_code 2 1 := ⟨⟨wd_38, wd_2, ⟨by decide, by decide, by decide +kernel⟩, by decide⟩, wd_37, rfl⟩
def y_Math_max : MethodName := ⟨"java/lang/Math", "max", "(II)I"⟩
theorem mi_Math_max : fa_MS y_Math_max prog_21_method_65_code 2 (Option.some Jvm.ClassFile.FieldType.int) 2 := ⟨⟨wd_42, wd_3, ⟨by decide, by decide, by decide +kernel⟩, by decide⟩, wd_41⟩
def y_Reader_init : MethodName := ⟨"FlowApply$Reader", "<init>", "(LFlowApply$Row;)V"⟩
theorem mi_Reader_init : fa_MN y_Reader_init prog_6_method_1_code 2 1 := ⟨⟨wd_55, wd_4, ⟨by decide, by decide, by decide +kernel⟩, by decide⟩, wd_54, rfl⟩
def y_Program_init : MethodName := ⟨"FlowApply$Program", "<init>", "()V"⟩
theorem mi_Program_init : fa_MN y_Program_init prog_5_method_1_code 1 0 := ⟨⟨wd_61, wd_5, ⟨by decide, by decide, by decide +kernel⟩, by decide⟩, wd_60, rfl⟩
def y_Writer_init : MethodName := ⟨"FlowApply$Writer", "<init>", "(LFlowApply$Row;)V"⟩
theorem mi_Writer_init : fa_MN y_Writer_init prog_10_method_1_code 2 1 := ⟨⟨wd_195, wd_6, ⟨by decide, by decide, by decide +kernel⟩, by decide⟩, wd_194, rfl⟩
def y_Machine_init : MethodName := ⟨"FlowApply$Machine", "<init>", "()V"⟩
theorem mi_Machine_init : fa_MN y_Machine_init prog_4_method_1_code 1 0 := ⟨⟨wd_219, wd_7, ⟨by decide, by decide, by decide +kernel⟩, by decide⟩, wd_218, rfl⟩
def y_Row_refill : MethodName := ⟨"FlowApply$Row", "refill", "(II)V"⟩
theorem mi_Row_refill : fa_MI y_Row_refill prog_7_method_11_code 4 (Option.none : Option Jvm.ClassFile.FieldType) 2 := ⟨⟨wd_226, wd_2, ⟨by decide, by decide, by decide +kernel⟩, by decide⟩, wd_224, wd_225⟩
def y_Row_clear : MethodName := ⟨"FlowApply$Row", "clear", "()V"⟩
theorem mi_Row_clear : fa_MI y_Row_clear prog_7_method_10_code 1 (Option.none : Option Jvm.ClassFile.FieldType) 0 := ⟨⟨wd_230, wd_2, ⟨by decide, by decide, by decide +kernel⟩, by decide⟩, wd_228, wd_229⟩
def y_Row_add : MethodName := ⟨"FlowApply$Row", "add", "(I)V"⟩
theorem mi_Row_add : fa_MI y_Row_add prog_7_method_5_code 2 (Option.none : Option Jvm.ClassFile.FieldType) 1 := ⟨⟨wd_234, wd_2, ⟨by decide, by decide, by decide +kernel⟩, by decide⟩, wd_232, wd_233⟩
def y_Scene_init : MethodName := ⟨"FlowApply$Scene", "<init>", "()V"⟩
theorem mi_Scene_init : fa_MN y_Scene_init prog_8_method_1_code 1 0 := ⟨⟨wd_281, wd_8, ⟨by decide, by decide, by decide +kernel⟩, by decide⟩, wd_280, rfl⟩
def y_Typing_init : MethodName := ⟨"FlowApply$Typing", "<init>", "()V"⟩
theorem mi_Typing_init : fa_MN y_Typing_init prog_9_method_1_code 1 0 := ⟨⟨wd_289, wd_9, ⟨by decide, by decide, by decide +kernel⟩, by decide⟩, wd_288, rfl⟩
def y_Flow_init : MethodName := ⟨"FlowApply$Flow", "<init>", "()V"⟩
theorem mi_Flow_init : fa_MN y_Flow_init prog_2_method_1_code 1 0 := ⟨⟨wd_328, wd_10, ⟨by decide, by decide, by decide +kernel⟩, by decide⟩, wd_327, rfl⟩
def y_Groups_init : MethodName := ⟨"FlowApply$Groups", "<init>", "()V"⟩
theorem mi_Groups_init : fa_MN y_Groups_init prog_3_method_1_code 1 0 := ⟨⟨wd_370, wd_11, ⟨by decide, by decide, by decide +kernel⟩, by decide⟩, wd_369, rfl⟩
def y_Program_makeDead : MethodName := ⟨"FlowApply$Program", "makeDead", "()V"⟩
theorem mi_Program_makeDead : fa_MI y_Program_makeDead prog_5_method_3_code 1 (Option.none : Option Jvm.ClassFile.FieldType) 0 := ⟨⟨wd_411, wd_5, ⟨by decide, by decide, by decide +kernel⟩, by decide⟩, wd_409, wd_410⟩
def y_Program_clear : MethodName := ⟨"FlowApply$Program", "clear", "()V"⟩
theorem mi_Program_clear : fa_MI y_Program_clear prog_5_method_2_code 1 (Option.none : Option Jvm.ClassFile.FieldType) 0 := ⟨⟨wd_415, wd_5, ⟨by decide, by decide, by decide +kernel⟩, by decide⟩, wd_413, wd_414⟩
def y_Program_add : MethodName := ⟨"FlowApply$Program", "add", "(IIIIII)I"⟩
theorem mi_Program_add : fa_MI y_Program_add prog_5_method_10_code 8 (Option.some Jvm.ClassFile.FieldType.int) 6 := ⟨⟨wd_421, wd_5, ⟨by decide, by decide, by decide +kernel⟩, by decide⟩, wd_419, wd_420⟩
def y_Row_size : MethodName := ⟨"FlowApply$Row", "size", "()I"⟩
theorem mi_Row_size : fa_MI y_Row_size prog_7_method_2_code 1 (Option.some Jvm.ClassFile.FieldType.int) 0 := ⟨⟨wd_425, wd_2, ⟨by decide, by decide, by decide +kernel⟩, by decide⟩, wd_423, wd_424⟩
def y_Row_at : MethodName := ⟨"FlowApply$Row", "at", "(I)I"⟩
theorem mi_Row_at : fa_MI y_Row_at prog_7_method_3_code 2 (Option.some Jvm.ClassFile.FieldType.int) 1 := ⟨⟨wd_430, wd_2, ⟨by decide, by decide, by decide +kernel⟩, by decide⟩, wd_428, wd_429⟩
def y_Row_set : MethodName := ⟨"FlowApply$Row", "set", "(II)V"⟩
theorem mi_Row_set : fa_MI y_Row_set prog_7_method_6_code 3 (Option.none : Option Jvm.ClassFile.FieldType) 2 := ⟨⟨wd_434, wd_2, ⟨by decide, by decide, by decide +kernel⟩, by decide⟩, wd_432, wd_433⟩
def y_Scene_settle : MethodName := ⟨"FlowApply$Scene", "settle", "()Z"⟩
theorem mi_Scene_settle : fa_MI y_Scene_settle prog_8_method_2_code 1 (Option.some Jvm.ClassFile.FieldType.boolean) 0 := ⟨⟨wd_438, wd_8, ⟨by decide, by decide, by decide +kernel⟩, by decide⟩, wd_436, wd_437⟩
def y_Typing_infer : MethodName := ⟨"FlowApply$Typing", "infer", "(LFlowApply$Program;)Z"⟩
theorem mi_Typing_infer : fa_MI y_Typing_infer prog_9_method_2_code 3 (Option.some Jvm.ClassFile.FieldType.boolean) 1 := ⟨⟨wd_442, wd_9, ⟨by decide, by decide, by decide +kernel⟩, by decide⟩, wd_440, wd_441⟩
def y_Typing_clear : MethodName := ⟨"FlowApply$Typing", "clear", "(LFlowApply$Program;)V"⟩
theorem mi_Typing_clear : fa_MI y_Typing_clear prog_9_method_3_code 3 (Option.none : Option Jvm.ClassFile.FieldType) 1 := ⟨⟨wd_446, wd_9, ⟨by decide, by decide, by decide +kernel⟩, by decide⟩, wd_445, fa_in (List.mem_append_left _ (List.mem_of_getElem? (i := 0) (by decide +kernel))) rfl⟩
def y_Typing_open : MethodName := ⟨"FlowApply$Typing", "open", "()I"⟩
theorem mi_Typing_open : fa_MI y_Typing_open prog_9_method_4_code 1 (Option.some Jvm.ClassFile.FieldType.int) 0 := ⟨⟨wd_451, wd_9, ⟨by decide, by decide, by decide +kernel⟩, by decide⟩, wd_450, fa_in (List.mem_append_left _ (List.mem_of_getElem? (i := 1) (by decide +kernel))) rfl⟩
def y_Typing_arrow : MethodName := ⟨"FlowApply$Typing", "arrow", "(II)I"⟩
theorem mi_Typing_arrow : fa_MI y_Typing_arrow prog_9_method_5_code 4 (Option.some Jvm.ClassFile.FieldType.int) 2 := ⟨⟨wd_455, wd_9, ⟨by decide, by decide, by decide +kernel⟩, by decide⟩, wd_454, fa_in (List.mem_append_left _ (List.mem_of_getElem? (i := 2) (by decide +kernel))) rfl⟩
def y_Program_things : MethodName := ⟨"FlowApply$Program", "things", "()I"⟩
theorem mi_Program_things : fa_MI y_Program_things prog_5_method_4_code 1 (Option.some Jvm.ClassFile.FieldType.int) 0 := ⟨⟨wd_462, wd_5, ⟨by decide, by decide, by decide +kernel⟩, by decide⟩, wd_460, wd_461⟩
def y_Typing_typed : MethodName := ⟨"FlowApply$Typing", "typed", "(LFlowApply$Program;I)I"⟩
theorem mi_Typing_typed : fa_MI y_Typing_typed prog_9_method_6_code 6 (Option.some Jvm.ClassFile.FieldType.int) 2 := ⟨⟨wd_466, wd_9, ⟨by decide, by decide, by decide +kernel⟩, by decide⟩, wd_465, fa_in (List.mem_append_left _ (List.mem_of_getElem? (i := 3) (by decide +kernel))) rfl⟩
def y_Program_part : MethodName := ⟨"FlowApply$Program", "part", "(II)I"⟩
theorem mi_Program_part : fa_MI y_Program_part prog_5_method_8_code 3 (Option.some Jvm.ClassFile.FieldType.int) 2 := ⟨⟨wd_470, wd_5, ⟨by decide, by decide, by decide +kernel⟩, by decide⟩, wd_468, wd_469⟩
def y_Program_kind : MethodName := ⟨"FlowApply$Program", "kind", "(I)I"⟩
theorem mi_Program_kind : fa_MI y_Program_kind prog_5_method_5_code 2 (Option.some Jvm.ClassFile.FieldType.int) 1 := ⟨⟨wd_474, wd_5, ⟨by decide, by decide, by decide +kernel⟩, by decide⟩, wd_472, wd_473⟩
def y_Program_value : MethodName := ⟨"FlowApply$Program", "value", "(I)I"⟩
theorem mi_Program_value : fa_MI y_Program_value prog_5_method_6_code 2 (Option.some Jvm.ClassFile.FieldType.int) 1 := ⟨⟨wd_478, wd_5, ⟨by decide, by decide, by decide +kernel⟩, by decide⟩, wd_476, wd_477⟩
def y_Typing_unify : MethodName := ⟨"FlowApply$Typing", "unify", "(II)V"⟩
theorem mi_Typing_unify : fa_MI y_Typing_unify prog_9_method_12_code 6 (Option.none : Option Jvm.ClassFile.FieldType) 2 := ⟨⟨wd_482, wd_9, ⟨by decide, by decide, by decide +kernel⟩, by decide⟩, wd_481, fa_in (List.mem_append_left _ (List.mem_of_getElem? (i := 4) (by decide +kernel))) rfl⟩
def y_Row_drop : MethodName := ⟨"FlowApply$Row", "drop", "()I"⟩
theorem mi_Row_drop : fa_MI y_Row_drop prog_7_method_7_code 2 (Option.some Jvm.ClassFile.FieldType.int) 0 := ⟨⟨wd_487, wd_2, ⟨by decide, by decide, by decide +kernel⟩, by decide⟩, wd_485, wd_486⟩
def y_Row_cut : MethodName := ⟨"FlowApply$Row", "cut", "(I)V"⟩
theorem mi_Row_cut : fa_MI y_Row_cut prog_7_method_9_code 2 (Option.none : Option Jvm.ClassFile.FieldType) 1 := ⟨⟨wd_492, wd_2, ⟨by decide, by decide, by decide +kernel⟩, by decide⟩, wd_490, wd_491⟩
def y_Typing_root : MethodName := ⟨"FlowApply$Typing", "root", "(I)I"⟩
theorem mi_Typing_root : fa_MI y_Typing_root prog_9_method_7_code 4 (Option.some Jvm.ClassFile.FieldType.int) 1 := ⟨⟨wd_496, wd_9, ⟨by decide, by decide, by decide +kernel⟩, by decide⟩, wd_494, wd_495⟩
def y_Typing_isOpen : MethodName := ⟨"FlowApply$Typing", "isOpen", "(I)Z"⟩
theorem mi_Typing_isOpen : fa_MI y_Typing_isOpen prog_9_method_13_code 2 (Option.some Jvm.ClassFile.FieldType.boolean) 1 := ⟨⟨wd_500, wd_9, ⟨by decide, by decide, by decide +kernel⟩, by decide⟩, wd_499, fa_in (List.mem_append_left _ (List.mem_of_getElem? (i := 5) (by decide +kernel))) rfl⟩
def y_Typing_isArrow : MethodName := ⟨"FlowApply$Typing", "isArrow", "(I)Z"⟩
theorem mi_Typing_isArrow : fa_MI y_Typing_isArrow prog_9_method_9_code 2 (Option.some Jvm.ClassFile.FieldType.boolean) 1 := ⟨⟨wd_505, wd_9, ⟨by decide, by decide, by decide +kernel⟩, by decide⟩, wd_503, wd_504⟩
def y_Typing_nameShapes : MethodName := ⟨"FlowApply$Typing", "nameShapes", "()Z"⟩
theorem mi_Typing_nameShapes : fa_MI y_Typing_nameShapes prog_9_method_14_code 4 (Option.some Jvm.ClassFile.FieldType.boolean) 0 := ⟨⟨wd_509, wd_9, ⟨by decide, by decide, by decide +kernel⟩, by decide⟩, wd_508, fa_in (List.mem_append_left _ (List.mem_of_getElem? (i := 6) (by decide +kernel))) rfl⟩
def y_Typing_shapeOf : MethodName := ⟨"FlowApply$Typing", "shapeOf", "(I)I"⟩
theorem mi_Typing_shapeOf : fa_MI y_Typing_shapeOf prog_9_method_15_code 5 (Option.some Jvm.ClassFile.FieldType.int) 1 := ⟨⟨wd_514, wd_9, ⟨by decide, by decide, by decide +kernel⟩, by decide⟩, wd_513, fa_in (List.mem_append_left _ (List.mem_of_getElem? (i := 7) (by decide +kernel))) rfl⟩
def y_Flow_solve : MethodName := ⟨"FlowApply$Flow", "solve", "(LFlowApply$Program;)V"⟩
theorem mi_Flow_solve : fa_MI y_Flow_solve prog_2_method_2_code 4 (Option.none : Option Jvm.ClassFile.FieldType) 1 := ⟨⟨wd_518, wd_10, ⟨by decide, by decide, by decide +kernel⟩, by decide⟩, wd_516, wd_517⟩
def y_Program_owner : MethodName := ⟨"FlowApply$Program", "owner", "(I)I"⟩
theorem mi_Program_owner : fa_MI y_Program_owner prog_5_method_7_code 2 (Option.some Jvm.ClassFile.FieldType.int) 1 := ⟨⟨wd_525, wd_5, ⟨by decide, by decide, by decide +kernel⟩, by decide⟩, wd_523, wd_524⟩
def y_Flow_looked : MethodName := ⟨"FlowApply$Flow", "looked", "(I)Z"⟩
theorem mi_Flow_looked : fa_MI y_Flow_looked prog_2_method_3_code 2 (Option.some Jvm.ClassFile.FieldType.boolean) 1 := ⟨⟨wd_529, wd_10, ⟨by decide, by decide, by decide +kernel⟩, by decide⟩, wd_527, wd_528⟩
def y_Face_hasBit : MethodName := ⟨"FlowApply", "hasBit", "(II)Z"⟩
theorem mi_Face_hasBit : fa_MS y_Face_hasBit prog_1_method_35_code 2 (Option.some Jvm.ClassFile.FieldType.boolean) 2 := ⟨⟨wd_532, wd_1, ⟨by decide, by decide, by decide +kernel⟩, by decide⟩, wd_531⟩
def y_Flow_look : MethodName := ⟨"FlowApply$Flow", "look", "(LFlowApply$Program;I)V"⟩
theorem mi_Flow_look : fa_MI y_Flow_look prog_2_method_4_code 4 (Option.none : Option Jvm.ClassFile.FieldType) 2 := ⟨⟨wd_536, wd_10, ⟨by decide, by decide, by decide +kernel⟩, by decide⟩, wd_535, fa_in (List.mem_append_left _ (List.mem_of_getElem? (i := 8) (by decide +kernel))) rfl⟩
def y_Row_bits : MethodName := ⟨"FlowApply$Row", "bits", "(I)I"⟩
theorem mi_Row_bits : fa_MI y_Row_bits prog_7_method_4_code 2 (Option.some Jvm.ClassFile.FieldType.int) 1 := ⟨⟨wd_542, wd_2, ⟨by decide, by decide, by decide +kernel⟩, by decide⟩, wd_540, wd_541⟩
def y_Face_bit : MethodName := ⟨"FlowApply", "bit", "(I)I"⟩
theorem mi_Face_bit : fa_MS y_Face_bit prog_1_method_34_code 1 (Option.some Jvm.ClassFile.FieldType.int) 1 := ⟨⟨wd_545, wd_1, ⟨by decide, by decide, by decide +kernel⟩, by decide⟩, wd_544⟩
def y_Flow_hold : MethodName := ⟨"FlowApply$Flow", "hold", "(II)V"⟩
theorem mi_Flow_hold : fa_MI y_Flow_hold prog_2_method_6_code 4 (Option.none : Option Jvm.ClassFile.FieldType) 2 := ⟨⟨wd_550, wd_10, ⟨by decide, by decide, by decide +kernel⟩, by decide⟩, wd_549, fa_in (List.mem_append_left _ (List.mem_of_getElem? (i := 9) (by decide +kernel))) rfl⟩
def y_Flow_lookAtSite : MethodName := ⟨"FlowApply$Flow", "lookAtSite", "(LFlowApply$Program;I)I"⟩
theorem mi_Flow_lookAtSite : fa_MI y_Flow_lookAtSite prog_2_method_5_code 6 (Option.some Jvm.ClassFile.FieldType.int) 2 := ⟨⟨wd_555, wd_10, ⟨by decide, by decide, by decide +kernel⟩, by decide⟩, wd_554, fa_in (List.mem_append_left _ (List.mem_of_getElem? (i := 10) (by decide +kernel))) rfl⟩
def y_Flow_comesOfBody : MethodName := ⟨"FlowApply$Flow", "comesOfBody", "(LFlowApply$Program;I)I"⟩
theorem mi_Flow_comesOfBody : fa_MI y_Flow_comesOfBody prog_2_method_8_code 3 (Option.some Jvm.ClassFile.FieldType.int) 2 := ⟨⟨wd_559, wd_10, ⟨by decide, by decide, by decide +kernel⟩, by decide⟩, wd_557, wd_558⟩
def y_Flow_listCalls : MethodName := ⟨"FlowApply$Flow", "listCalls", "(LFlowApply$Program;)V"⟩
theorem mi_Flow_listCalls : fa_MI y_Flow_listCalls prog_2_method_10_code 5 (Option.none : Option Jvm.ClassFile.FieldType) 1 := ⟨⟨wd_564, wd_10, ⟨by decide, by decide, by decide +kernel⟩, by decide⟩, wd_563, fa_in (List.mem_append_left _ (List.mem_of_getElem? (i := 11) (by decide +kernel))) rfl⟩
def y_Flow_applied : MethodName := ⟨"FlowApply$Flow", "applied", "(LFlowApply$Program;I)I"⟩
theorem mi_Flow_applied : fa_MI y_Flow_applied prog_2_method_7_code 3 (Option.some Jvm.ClassFile.FieldType.int) 2 := ⟨⟨wd_568, wd_10, ⟨by decide, by decide, by decide +kernel⟩, by decide⟩, wd_566, wd_567⟩
def y_Flow_closeCalls : MethodName := ⟨"FlowApply$Flow", "closeCalls", "(LFlowApply$Program;)V"⟩
theorem mi_Flow_closeCalls : fa_MI y_Flow_closeCalls prog_2_method_11_code 4 (Option.none : Option Jvm.ClassFile.FieldType) 1 := ⟨⟨wd_572, wd_10, ⟨by decide, by decide, by decide +kernel⟩, by decide⟩, wd_571, fa_in (List.mem_append_left _ (List.mem_of_getElem? (i := 12) (by decide +kernel))) rfl⟩
def y_Flow_listRings : MethodName := ⟨"FlowApply$Flow", "listRings", "(LFlowApply$Program;)V"⟩
theorem mi_Flow_listRings : fa_MI y_Flow_listRings prog_2_method_12_code 3 (Option.none : Option Jvm.ClassFile.FieldType) 1 := ⟨⟨wd_578, wd_10, ⟨by decide, by decide, by decide +kernel⟩, by decide⟩, wd_577, fa_in (List.mem_append_left _ (List.mem_of_getElem? (i := 13) (by decide +kernel))) rfl⟩
def y_Flow_ringOf : MethodName := ⟨"FlowApply$Flow", "ringOf", "(I)I"⟩
theorem mi_Flow_ringOf : fa_MI y_Flow_ringOf prog_2_method_14_code 3 (Option.some Jvm.ClassFile.FieldType.int) 1 := ⟨⟨wd_582, wd_10, ⟨by decide, by decide, by decide +kernel⟩, by decide⟩, wd_580, wd_581⟩
def y_Flow_ringFrom : MethodName := ⟨"FlowApply$Flow", "ringFrom", "(LFlowApply$Program;I)I"⟩
theorem mi_Flow_ringFrom : fa_MI y_Flow_ringFrom prog_2_method_13_code 5 (Option.some Jvm.ClassFile.FieldType.int) 2 := ⟨⟨wd_587, wd_10, ⟨by decide, by decide, by decide +kernel⟩, by decide⟩, wd_586, fa_in (List.mem_append_left _ (List.mem_of_getElem? (i := 14) (by decide +kernel))) rfl⟩
def y_Groups_sort : MethodName := ⟨"FlowApply$Groups", "sort", "(LFlowApply$Program;LFlowApply$Typing;LFlowApply$Flow;)V"⟩
theorem mi_Groups_sort : fa_MI y_Groups_sort prog_3_method_2_code 4 (Option.none : Option Jvm.ClassFile.FieldType) 3 := ⟨⟨wd_591, wd_11, ⟨by decide, by decide, by decide +kernel⟩, by decide⟩, wd_589, wd_590⟩
def y_Groups_number : MethodName := ⟨"FlowApply$Groups", "number", "(II)V"⟩
theorem mi_Groups_number : fa_MI y_Groups_number prog_3_method_5_code 4 (Option.none : Option Jvm.ClassFile.FieldType) 2 := ⟨⟨wd_596, wd_11, ⟨by decide, by decide, by decide +kernel⟩, by decide⟩, wd_595, fa_in (List.mem_append_left _ (List.mem_of_getElem? (i := 15) (by decide +kernel))) rfl⟩
def y_Face_lowest : MethodName := ⟨"FlowApply", "lowest", "(I)I"⟩
theorem mi_Face_lowest : fa_MS y_Face_lowest prog_1_method_36_code 1 (Option.some Jvm.ClassFile.FieldType.int) 1 := ⟨⟨wd_602, wd_1, ⟨by decide, by decide, by decide +kernel⟩, by decide⟩, wd_601⟩
def y_Integer_numberOfTrailingZeros : MethodName := ⟨"java/lang/Integer", "numberOfTrailingZeros", "(I)I"⟩
theorem mi_Integer_numberOfTrailingZeros : fa_MS y_Integer_numberOfTrailingZeros prog_20_method_48_code 2 (Option.some Jvm.ClassFile.FieldType.int) 1 := ⟨⟨wd_605, wd_12, ⟨by decide, by decide, by decide +kernel⟩, by decide⟩, wd_604⟩
def y_Groups_many : MethodName := ⟨"FlowApply$Groups", "many", "(I)I"⟩
theorem mi_Groups_many : fa_MI y_Groups_many prog_3_method_6_code 2 (Option.some Jvm.ClassFile.FieldType.int) 1 := ⟨⟨wd_610, wd_11, ⟨by decide, by decide, by decide +kernel⟩, by decide⟩, wd_608, wd_609⟩
def y_Groups_mateByType : MethodName := ⟨"FlowApply$Groups", "mateByType", "(LFlowApply$Program;LFlowApply$Typing;I)V"⟩
theorem mi_Groups_mateByType : fa_MI y_Groups_mateByType prog_3_method_3_code 7 (Option.none : Option Jvm.ClassFile.FieldType) 3 := ⟨⟨wd_615, wd_11, ⟨by decide, by decide, by decide +kernel⟩, by decide⟩, wd_614, fa_in (List.mem_append_left _ (List.mem_of_getElem? (i := 16) (by decide +kernel))) rfl⟩
def y_Typing_same : MethodName := ⟨"FlowApply$Typing", "same", "(II)Z"⟩
theorem mi_Typing_same : fa_MI y_Typing_same prog_9_method_16_code 3 (Option.some Jvm.ClassFile.FieldType.boolean) 2 := ⟨⟨wd_619, wd_9, ⟨by decide, by decide, by decide +kernel⟩, by decide⟩, wd_617, wd_618⟩
def y_Groups_mateBySites : MethodName := ⟨"FlowApply$Groups", "mateBySites", "(LFlowApply$Program;LFlowApply$Flow;)V"⟩
theorem mi_Groups_mateBySites : fa_MI y_Groups_mateBySites prog_3_method_4_code 6 (Option.none : Option Jvm.ClassFile.FieldType) 2 := ⟨⟨wd_624, wd_11, ⟨by decide, by decide, by decide +kernel⟩, by decide⟩, wd_623, fa_in (List.mem_append_left _ (List.mem_of_getElem? (i := 17) (by decide +kernel))) rfl⟩
def y_Face_feed : MethodName := ⟨"FlowApply", "feed", "(IIIII)I"⟩
theorem mi_Face_feed : fa_MI y_Face_feed prog_1_method_2_code 6 (Option.some Jvm.ClassFile.FieldType.int) 5 := ⟨⟨wd_658, wd_1, ⟨by decide, by decide, by decide +kernel⟩, by decide⟩, wd_656, wd_657⟩
def y_Face_feedNumber : MethodName := ⟨"FlowApply", "feedNumber", "(I)V"⟩
theorem mi_Face_feedNumber : fa_MI y_Face_feedNumber prog_1_method_3_code 3 (Option.none : Option Jvm.ClassFile.FieldType) 1 := ⟨⟨wd_663, wd_1, ⟨by decide, by decide, by decide +kernel⟩, by decide⟩, wd_662, fa_in (List.mem_append_left _ (List.mem_of_getElem? (i := 18) (by decide +kernel))) rfl⟩
def y_Face_end : MethodName := ⟨"FlowApply", "end", "(I)Z"⟩
theorem mi_Face_end : fa_MI y_Face_end prog_1_method_4_code 2 (Option.some Jvm.ClassFile.FieldType.boolean) 1 := ⟨⟨wd_668, wd_1, ⟨by decide, by decide, by decide +kernel⟩, by decide⟩, wd_666, wd_667⟩
def y_Face_fault : MethodName := ⟨"FlowApply", "fault", "()I"⟩
theorem mi_Face_fault : fa_MI y_Face_fault prog_1_method_7_code 1 (Option.some Jvm.ClassFile.FieldType.int) 0 := ⟨⟨wd_673, wd_1, ⟨by decide, by decide, by decide +kernel⟩, by decide⟩, wd_671, wd_672⟩
def y_Face_typeOfMain : MethodName := ⟨"FlowApply", "typeOfMain", "()I"⟩
theorem mi_Face_typeOfMain : fa_MI y_Face_typeOfMain prog_1_method_13_code 1 (Option.some Jvm.ClassFile.FieldType.int) 0 := ⟨⟨wd_677, wd_1, ⟨by decide, by decide, by decide +kernel⟩, by decide⟩, wd_675, wd_676⟩
def y_Writer_showType : MethodName := ⟨"FlowApply$Writer", "showType", "(LFlowApply$Typing;I)I"⟩
theorem mi_Writer_showType : fa_MI y_Writer_showType prog_10_method_18_code 5 (Option.some Jvm.ClassFile.FieldType.int) 2 := ⟨⟨wd_682, wd_6, ⟨by decide, by decide, by decide +kernel⟩, by decide⟩, wd_680, wd_681⟩
def y_Writer_putType : MethodName := ⟨"FlowApply$Writer", "putType", "(LFlowApply$Typing;I)V"⟩
theorem mi_Writer_putType : fa_MI y_Writer_putType prog_10_method_19_code 3 (Option.none : Option Jvm.ClassFile.FieldType) 2 := ⟨⟨wd_692, wd_6, ⟨by decide, by decide, by decide +kernel⟩, by decide⟩, wd_691, fa_in (List.mem_append_left _ (List.mem_of_getElem? (i := 19) (by decide +kernel))) rfl⟩
def y_Typing_isInt : MethodName := ⟨"FlowApply$Typing", "isInt", "(I)Z"⟩
theorem mi_Typing_isInt : fa_MI y_Typing_isInt prog_9_method_8_code 2 (Option.some Jvm.ClassFile.FieldType.boolean) 1 := ⟨⟨wd_696, wd_9, ⟨by decide, by decide, by decide +kernel⟩, by decide⟩, wd_694, wd_695⟩
def y_Typing_given : MethodName := ⟨"FlowApply$Typing", "given", "(I)I"⟩
theorem mi_Typing_given : fa_MI y_Typing_given prog_9_method_11_code 2 (Option.some Jvm.ClassFile.FieldType.int) 1 := ⟨⟨wd_701, wd_9, ⟨by decide, by decide, by decide +kernel⟩, by decide⟩, wd_699, wd_700⟩
def y_Typing_taken : MethodName := ⟨"FlowApply$Typing", "taken", "(I)I"⟩
theorem mi_Typing_taken : fa_MI y_Typing_taken prog_9_method_10_code 2 (Option.some Jvm.ClassFile.FieldType.int) 1 := ⟨⟨wd_705, wd_9, ⟨by decide, by decide, by decide +kernel⟩, by decide⟩, wd_703, wd_704⟩
def y_Row_placeOf : MethodName := ⟨"FlowApply$Row", "placeOf", "(I)I"⟩
theorem mi_Row_placeOf : fa_MI y_Row_placeOf prog_7_method_13_code 3 (Option.some Jvm.ClassFile.FieldType.int) 1 := ⟨⟨wd_709, wd_2, ⟨by decide, by decide, by decide +kernel⟩, by decide⟩, wd_707, wd_708⟩
def y_Math_min : MethodName := ⟨"java/lang/Math", "min", "(II)I"⟩
theorem mi_Math_min : fa_MS y_Math_min prog_21_method_69_code 2 (Option.some Jvm.ClassFile.FieldType.int) 2 := ⟨⟨wd_712, wd_3, ⟨by decide, by decide, by decide +kernel⟩, by decide⟩, wd_711⟩
def y_Face_back : MethodName := ⟨"FlowApply", "back", "()I"⟩
theorem mi_Face_back : fa_MI y_Face_back prog_1_method_23_code 1 (Option.some Jvm.ClassFile.FieldType.int) 0 := ⟨⟨wd_716, wd_1, ⟨by decide, by decide, by decide +kernel⟩, by decide⟩, wd_714, wd_715⟩
def y_Face_makeBack : MethodName := ⟨"FlowApply", "makeBack", "()V"⟩
theorem mi_Face_makeBack : fa_MI y_Face_makeBack prog_1_method_24_code 1 (Option.none : Option Jvm.ClassFile.FieldType) 0 := ⟨⟨wd_720, wd_1, ⟨by decide, by decide, by decide +kernel⟩, by decide⟩, wd_719, fa_in (List.mem_append_left _ (List.mem_of_getElem? (i := 20) (by decide +kernel))) rfl⟩
def y_Program_copy : MethodName := ⟨"FlowApply$Program", "copy", "(LFlowApply$Program;II)V"⟩
theorem mi_Program_copy : fa_MI y_Program_copy prog_5_method_12_code 5 (Option.none : Option Jvm.ClassFile.FieldType) 3 := ⟨⟨wd_724, wd_5, ⟨by decide, by decide, by decide +kernel⟩, by decide⟩, wd_722, wd_723⟩
def y_Program_numberFunctions : MethodName := ⟨"FlowApply$Program", "numberFunctions", "(LFlowApply$Program;I)V"⟩
theorem mi_Program_numberFunctions : fa_MI y_Program_numberFunctions prog_5_method_13_code 4 (Option.none : Option Jvm.ClassFile.FieldType) 2 := ⟨⟨wd_728, wd_5, ⟨by decide, by decide, by decide +kernel⟩, by decide⟩, wd_727, fa_in (List.mem_append_left _ (List.mem_of_getElem? (i := 21) (by decide +kernel))) rfl⟩
def y_Program_markThings : MethodName := ⟨"FlowApply$Program", "markThings", "(LFlowApply$Program;I)V"⟩
theorem mi_Program_markThings : fa_MI y_Program_markThings prog_5_method_14_code 5 (Option.none : Option Jvm.ClassFile.FieldType) 2 := ⟨⟨wd_733, wd_5, ⟨by decide, by decide, by decide +kernel⟩, by decide⟩, wd_732, fa_in (List.mem_append_left _ (List.mem_of_getElem? (i := 22) (by decide +kernel))) rfl⟩
def y_Program_losesBody : MethodName := ⟨"FlowApply$Program", "losesBody", "(LFlowApply$Program;II)Z"⟩
theorem mi_Program_losesBody : fa_MS y_Program_losesBody prog_5_method_15_code 3 (Option.some Jvm.ClassFile.FieldType.boolean) 3 := ⟨⟨wd_737, wd_5, ⟨by decide, by decide, by decide +kernel⟩, by decide⟩, wd_736⟩
def y_Program_numberSites : MethodName := ⟨"FlowApply$Program", "numberSites", "(LFlowApply$Program;)V"⟩
theorem mi_Program_numberSites : fa_MI y_Program_numberSites prog_5_method_16_code 3 (Option.none : Option Jvm.ClassFile.FieldType) 1 := ⟨⟨wd_742, wd_5, ⟨by decide, by decide, by decide +kernel⟩, by decide⟩, wd_741, fa_in (List.mem_append_left _ (List.mem_of_getElem? (i := 23) (by decide +kernel))) rfl⟩
def y_Program_copyThing : MethodName := ⟨"FlowApply$Program", "copyThing", "(LFlowApply$Program;II)I"⟩
theorem mi_Program_copyThing : fa_MI y_Program_copyThing prog_5_method_17_code 7 (Option.some Jvm.ClassFile.FieldType.int) 3 := ⟨⟨wd_746, wd_5, ⟨by decide, by decide, by decide +kernel⟩, by decide⟩, wd_745, fa_in (List.mem_append_left _ (List.mem_of_getElem? (i := 24) (by decide +kernel))) rfl⟩
def y_Program_newValue : MethodName := ⟨"FlowApply$Program", "newValue", "(II)I"⟩
theorem mi_Program_newValue : fa_MI y_Program_newValue prog_5_method_18_code 3 (Option.some Jvm.ClassFile.FieldType.int) 2 := ⟨⟨wd_752, wd_5, ⟨by decide, by decide, by decide +kernel⟩, by decide⟩, wd_751, fa_in (List.mem_append_left _ (List.mem_of_getElem? (i := 25) (by decide +kernel))) rfl⟩
def y_Program_copyGlobals : MethodName := ⟨"FlowApply$Program", "copyGlobals", "(LFlowApply$Program;I)V"⟩
theorem mi_Program_copyGlobals : fa_MI y_Program_copyGlobals prog_5_method_19_code 5 (Option.none : Option Jvm.ClassFile.FieldType) 2 := ⟨⟨wd_757, wd_5, ⟨by decide, by decide, by decide +kernel⟩, by decide⟩, wd_756, fa_in (List.mem_append_left _ (List.mem_of_getElem? (i := 26) (by decide +kernel))) rfl⟩
def y_Writer_showProgram : MethodName := ⟨"FlowApply$Writer", "showProgram", "(LFlowApply$Scene;)I"⟩
theorem mi_Writer_showProgram : fa_MI y_Writer_showProgram prog_10_method_3_code 4 (Option.some Jvm.ClassFile.FieldType.int) 1 := ⟨⟨wd_761, wd_6, ⟨by decide, by decide, by decide +kernel⟩, by decide⟩, wd_759, wd_760⟩
def y_Writer_putText : MethodName := ⟨"FlowApply$Writer", "putText", "(Ljava/lang/String;)V"⟩
theorem mi_Writer_putText : fa_MI y_Writer_putText prog_10_method_15_code 3 (Option.none : Option Jvm.ClassFile.FieldType) 1 := ⟨⟨wd_766, wd_6, ⟨by decide, by decide, by decide +kernel⟩, by decide⟩, wd_765, fa_in (List.mem_append_left _ (List.mem_of_getElem? (i := 27) (by decide +kernel))) rfl⟩
def y_String_length : MethodName := ⟨"java/lang/String", "length", "()I"⟩
theorem mi_String_length : fa_MI y_String_length prog_23_method_54_code 1 (Option.some Jvm.ClassFile.FieldType.int) 0 := ⟨⟨wd_770, wd_22, ⟨by decide, by decide, by decide +kernel⟩, by decide⟩, wd_768, wd_769⟩
def y_String_coder : MethodName := ⟨"java/lang/String", "coder", "()B"⟩
theorem mi_String_coder : fa_MI y_String_coder prog_23_method_152_code 1 (Option.some Jvm.ClassFile.FieldType.byte) 0 := ⟨⟨wd_774, wd_22, ⟨by decide, by decide, by decide +kernel⟩, by decide⟩, wd_772, wd_773⟩
def y_String_charAt : MethodName := ⟨"java/lang/String", "charAt", "(I)C"⟩
theorem mi_String_charAt : fa_MI y_String_charAt prog_23_method_56_code 2 (Option.some Jvm.ClassFile.FieldType.char) 1 := ⟨⟨wd_780, wd_22, ⟨by decide, by decide, by decide +kernel⟩, by decide⟩, wd_778, wd_779⟩
def y_String_isLatin1 : MethodName := ⟨"java/lang/String", "isLatin1", "()Z"⟩
theorem mi_String_isLatin1 : fa_MI y_String_isLatin1 prog_23_method_154_code 1 (Option.some Jvm.ClassFile.FieldType.boolean) 0 := ⟨⟨wd_784, wd_22, ⟨by decide, by decide, by decide +kernel⟩, by decide⟩, wd_782, wd_783⟩
def y_StringLatin1_charAt : MethodName := ⟨"java/lang/StringLatin1", "charAt", "([BI)C"⟩
theorem mi_StringLatin1_charAt : fa_MS y_StringLatin1_charAt prog_24_method_2_code 2 (Option.some Jvm.ClassFile.FieldType.char) 2 := ⟨⟨wd_787, wd_23, ⟨by decide, by decide, by decide +kernel⟩, by decide⟩, wd_786⟩
def y_String_checkIndex : MethodName := ⟨"java/lang/String", "checkIndex", "(II)V"⟩
theorem mi_String_checkIndex : fa_MS y_String_checkIndex prog_23_method_155_code 2 (Option.none : Option Jvm.ClassFile.FieldType) 2 := ⟨⟨wd_790, wd_22, ⟨by decide, by decide, by decide +kernel⟩, by decide⟩, wd_789⟩
def y_Preconditions_checkIndex : MethodName := ⟨"jdk/internal/util/Preconditions", "checkIndex", "(IILjava/util/function/BiFunction;)I"⟩
theorem mi_Preconditions_checkIndex : fa_MS y_Preconditions_checkIndex prog_31_method_11_code 3 (Option.some Jvm.ClassFile.FieldType.int) 3 := ⟨⟨wd_795, wd_24, ⟨by decide, by decide, by decide +kernel⟩, by decide⟩, wd_794⟩
def y_Writer_putName : MethodName := ⟨"FlowApply$Writer", "putName", "(I)V"⟩
theorem mi_Writer_putName : fa_MI y_Writer_putName prog_10_method_16_code 3 (Option.none : Option Jvm.ClassFile.FieldType) 1 := ⟨⟨wd_819, wd_6, ⟨by decide, by decide, by decide +kernel⟩, by decide⟩, wd_818, fa_in (List.mem_append_left _ (List.mem_of_getElem? (i := 28) (by decide +kernel))) rfl⟩
def y_Writer_putExpression : MethodName := ⟨"FlowApply$Writer", "putExpression", "(LFlowApply$Scene;I)V"⟩
theorem mi_Writer_putExpression : fa_MI y_Writer_putExpression prog_10_method_6_code 8 (Option.none : Option Jvm.ClassFile.FieldType) 2 := ⟨⟨wd_825, wd_6, ⟨by decide, by decide, by decide +kernel⟩, by decide⟩, wd_824, fa_in (List.mem_append_left _ (List.mem_of_getElem? (i := 29) (by decide +kernel))) rfl⟩
def y_Writer_putPiece : MethodName := ⟨"FlowApply$Writer", "putPiece", "(LFlowApply$Scene;II)V"⟩
theorem mi_Writer_putPiece : fa_MI y_Writer_putPiece prog_10_method_8_code 6 (Option.none : Option Jvm.ClassFile.FieldType) 3 := ⟨⟨wd_829, wd_6, ⟨by decide, by decide, by decide +kernel⟩, by decide⟩, wd_828, fa_in (List.mem_append_left _ (List.mem_of_getElem? (i := 30) (by decide +kernel))) rfl⟩
def y_Writer_putNumber : MethodName := ⟨"FlowApply$Writer", "putNumber", "(I)V"⟩
theorem mi_Writer_putNumber : fa_MI y_Writer_putNumber prog_10_method_17_code 4 (Option.none : Option Jvm.ClassFile.FieldType) 1 := ⟨⟨wd_835, wd_6, ⟨by decide, by decide, by decide +kernel⟩, by decide⟩, wd_834, fa_in (List.mem_append_left _ (List.mem_of_getElem? (i := 31) (by decide +kernel))) rfl⟩
def y_Writer_putData : MethodName := ⟨"FlowApply$Writer", "putData", "(LFlowApply$Program;I)V"⟩
theorem mi_Writer_putData : fa_MI y_Writer_putData prog_10_method_10_code 4 (Option.none : Option Jvm.ClassFile.FieldType) 2 := ⟨⟨wd_839, wd_6, ⟨by decide, by decide, by decide +kernel⟩, by decide⟩, wd_838, fa_in (List.mem_append_left _ (List.mem_of_getElem? (i := 32) (by decide +kernel))) rfl⟩
def y_Program_listFields : MethodName := ⟨"FlowApply$Program", "listFields", "(ILFlowApply$Row;)V"⟩
theorem mi_Program_listFields : fa_MI y_Program_listFields prog_5_method_11_code 8 (Option.none : Option Jvm.ClassFile.FieldType) 2 := ⟨⟨wd_845, wd_5, ⟨by decide, by decide, by decide +kernel⟩, by decide⟩, wd_843, wd_844⟩
def y_Writer_putLambda : MethodName := ⟨"FlowApply$Writer", "putLambda", "(LFlowApply$Program;II)V"⟩
theorem mi_Writer_putLambda : fa_MI y_Writer_putLambda prog_10_method_9_code 4 (Option.none : Option Jvm.ClassFile.FieldType) 3 := ⟨⟨wd_854, wd_6, ⟨by decide, by decide, by decide +kernel⟩, by decide⟩, wd_853, fa_in (List.mem_append_left _ (List.mem_of_getElem? (i := 33) (by decide +kernel))) rfl⟩
def y_Writer_choicePiece : MethodName := ⟨"FlowApply$Writer", "choicePiece", "(I)Ljava/lang/String;"⟩
theorem mi_Writer_choicePiece : fa_MS y_Writer_choicePiece prog_10_method_11_code 1 (Option.some (Jvm.ClassFile.FieldType.object "java/lang/String")) 1 := ⟨⟨wd_859, wd_6, ⟨by decide, by decide, by decide +kernel⟩, by decide⟩, wd_858⟩
def y_Writer_putLet : MethodName := ⟨"FlowApply$Writer", "putLet", "(LFlowApply$Program;II)V"⟩
theorem mi_Writer_putLet : fa_MI y_Writer_putLet prog_10_method_12_code 4 (Option.none : Option Jvm.ClassFile.FieldType) 3 := ⟨⟨wd_866, wd_6, ⟨by decide, by decide, by decide +kernel⟩, by decide⟩, wd_865, fa_in (List.mem_append_left _ (List.mem_of_getElem? (i := 34) (by decide +kernel))) rfl⟩
def y_Writer_putOperator : MethodName := ⟨"FlowApply$Writer", "putOperator", "(II)V"⟩
theorem mi_Writer_putOperator : fa_MI y_Writer_putOperator prog_10_method_13_code 3 (Option.none : Option Jvm.ClassFile.FieldType) 2 := ⟨⟨wd_872, wd_6, ⟨by decide, by decide, by decide +kernel⟩, by decide⟩, wd_871, fa_in (List.mem_append_left _ (List.mem_of_getElem? (i := 35) (by decide +kernel))) rfl⟩
def y_Writer_putSite : MethodName := ⟨"FlowApply$Writer", "putSite", "(LFlowApply$Scene;II)V"⟩
theorem mi_Writer_putSite : fa_MI y_Writer_putSite prog_10_method_14_code 5 (Option.none : Option Jvm.ClassFile.FieldType) 3 := ⟨⟨wd_876, wd_6, ⟨by decide, by decide, by decide +kernel⟩, by decide⟩, wd_875, fa_in (List.mem_append_left _ (List.mem_of_getElem? (i := 36) (by decide +kernel))) rfl⟩
def y_Groups_groupOf : MethodName := ⟨"FlowApply$Groups", "groupOf", "(II)I"⟩
theorem mi_Groups_groupOf : fa_MI y_Groups_groupOf prog_3_method_8_code 4 (Option.some Jvm.ClassFile.FieldType.int) 2 := ⟨⟨wd_884, wd_11, ⟨by decide, by decide, by decide +kernel⟩, by decide⟩, wd_882, wd_883⟩
def y_Writer_nextPart : MethodName := ⟨"FlowApply$Writer", "nextPart", "(LFlowApply$Program;II)I"⟩
theorem mi_Writer_nextPart : fa_MI y_Writer_nextPart prog_10_method_7_code 5 (Option.some Jvm.ClassFile.FieldType.int) 3 := ⟨⟨wd_889, wd_6, ⟨by decide, by decide, by decide +kernel⟩, by decide⟩, wd_888, fa_in (List.mem_append_left _ (List.mem_of_getElem? (i := 37) (by decide +kernel))) rfl⟩
def y_Face_show : MethodName := ⟨"FlowApply", "show", "()I"⟩
theorem mi_Face_show : fa_MI y_Face_show prog_1_method_25_code 1 (Option.some Jvm.ClassFile.FieldType.int) 0 := ⟨⟨wd_896, wd_1, ⟨by decide, by decide, by decide +kernel⟩, by decide⟩, wd_894, wd_895⟩
def y_Face_take : MethodName := ⟨"FlowApply", "take", "()I"⟩
theorem mi_Face_take : fa_MI y_Face_take prog_1_method_26_code 1 (Option.some Jvm.ClassFile.FieldType.int) 0 := ⟨⟨wd_900, wd_1, ⟨by decide, by decide, by decide +kernel⟩, by decide⟩, wd_898, wd_899⟩
def y_Face_adopt : MethodName := ⟨"FlowApply", "adopt", "()I"⟩
theorem mi_Face_adopt : fa_MI y_Face_adopt prog_1_method_6_code 2 (Option.some Jvm.ClassFile.FieldType.int) 0 := ⟨⟨wd_904, wd_1, ⟨by decide, by decide, by decide +kernel⟩, by decide⟩, wd_903, fa_in (List.mem_append_left _ (List.mem_of_getElem? (i := 38) (by decide +kernel))) rfl⟩
def y_Machine_forget : MethodName := ⟨"FlowApply$Machine", "forget", "()V"⟩
theorem mi_Machine_forget : fa_MI y_Machine_forget prog_4_method_3_code 1 (Option.none : Option Jvm.ClassFile.FieldType) 0 := ⟨⟨wd_909, wd_7, ⟨by decide, by decide, by decide +kernel⟩, by decide⟩, wd_907, wd_908⟩
def y_Face_octet : MethodName := ⟨"FlowApply", "octet", "(I)I"⟩
theorem mi_Face_octet : fa_MI y_Face_octet prog_1_method_29_code 2 (Option.some Jvm.ClassFile.FieldType.int) 1 := ⟨⟨wd_913, wd_1, ⟨by decide, by decide, by decide +kernel⟩, by decide⟩, wd_911, wd_912⟩
def y_Face_count : MethodName := ⟨"FlowApply", "count", "(I)I"⟩
theorem mi_Face_count : fa_MI y_Face_count prog_1_method_30_code 2 (Option.some Jvm.ClassFile.FieldType.int) 1 := ⟨⟨wd_917, wd_1, ⟨by decide, by decide, by decide +kernel⟩, by decide⟩, wd_915, wd_916⟩
def y_Flow_escapes : MethodName := ⟨"FlowApply$Flow", "escapes", "(LFlowApply$Program;)I"⟩
theorem mi_Flow_escapes : fa_MI y_Flow_escapes prog_2_method_9_code 2 (Option.some Jvm.ClassFile.FieldType.int) 1 := ⟨⟨wd_922, wd_10, ⟨by decide, by decide, by decide +kernel⟩, by decide⟩, wd_920, wd_921⟩
def y_Flow_countLooked : MethodName := ⟨"FlowApply$Flow", "countLooked", "(LFlowApply$Program;)I"⟩
theorem mi_Flow_countLooked : fa_MI y_Flow_countLooked prog_2_method_18_code 4 (Option.some Jvm.ClassFile.FieldType.int) 1 := ⟨⟨wd_926, wd_10, ⟨by decide, by decide, by decide +kernel⟩, by decide⟩, wd_924, wd_925⟩
def y_Face_oneIf : MethodName := ⟨"FlowApply", "oneIf", "(Z)I"⟩
theorem mi_Face_oneIf : fa_MS y_Face_oneIf prog_1_method_33_code 1 (Option.some Jvm.ClassFile.FieldType.int) 1 := ⟨⟨wd_929, wd_1, ⟨by decide, by decide, by decide +kernel⟩, by decide⟩, wd_928⟩
def y_Flow_countKnown : MethodName := ⟨"FlowApply$Flow", "countKnown", "(LFlowApply$Program;)I"⟩
theorem mi_Flow_countKnown : fa_MI y_Flow_countKnown prog_2_method_19_code 4 (Option.some Jvm.ClassFile.FieldType.int) 1 := ⟨⟨wd_933, wd_10, ⟨by decide, by decide, by decide +kernel⟩, by decide⟩, wd_931, wd_932⟩
def y_Integer_bitCount : MethodName := ⟨"java/lang/Integer", "bitCount", "(I)I"⟩
theorem mi_Integer_bitCount : fa_MS y_Integer_bitCount prog_20_method_49_code 1 (Option.some Jvm.ClassFile.FieldType.int) 1 := ⟨⟨wd_936, wd_12, ⟨by decide, by decide, by decide +kernel⟩, by decide⟩, wd_935⟩
def y_Face_countMadeFields : MethodName := ⟨"FlowApply", "countMadeFields", "()I"⟩
theorem mi_Face_countMadeFields : fa_MI y_Face_countMadeFields prog_1_method_31_code 3 (Option.some Jvm.ClassFile.FieldType.int) 0 := ⟨⟨wd_943, wd_1, ⟨by decide, by decide, by decide +kernel⟩, by decide⟩, wd_942, fa_in (List.mem_append_left _ (List.mem_of_getElem? (i := 39) (by decide +kernel))) rfl⟩
def y_Face_countFields : MethodName := ⟨"FlowApply", "countFields", "(LFlowApply$Program;I)I"⟩
theorem mi_Face_countFields : fa_MI y_Face_countFields prog_1_method_10_code 3 (Option.some Jvm.ClassFile.FieldType.int) 2 := ⟨⟨wd_948, wd_1, ⟨by decide, by decide, by decide +kernel⟩, by decide⟩, wd_947, fa_in (List.mem_append_left _ (List.mem_of_getElem? (i := 40) (by decide +kernel))) rfl⟩
def y_Face_countBackThings : MethodName := ⟨"FlowApply", "countBackThings", "()I"⟩
theorem mi_Face_countBackThings : fa_MI y_Face_countBackThings prog_1_method_32_code 1 (Option.some Jvm.ClassFile.FieldType.int) 0 := ⟨⟨wd_953, wd_1, ⟨by decide, by decide, by decide +kernel⟩, by decide⟩, wd_952, fa_in (List.mem_append_left _ (List.mem_of_getElem? (i := 41) (by decide +kernel))) rfl⟩
def y_Face_read : MethodName := ⟨"FlowApply", "read", "()I"⟩
theorem mi_Face_read : fa_MI y_Face_read prog_1_method_5_code 1 (Option.some Jvm.ClassFile.FieldType.int) 0 := ⟨⟨wd_962, wd_1, ⟨by decide, by decide, by decide +kernel⟩, by decide⟩, wd_960, wd_961⟩
def y_Reader_parse : MethodName := ⟨"FlowApply$Reader", "parse", "()I"⟩
theorem mi_Reader_parse : fa_MI y_Reader_parse prog_6_method_2_code 2 (Option.some Jvm.ClassFile.FieldType.int) 0 := ⟨⟨wd_966, wd_4, ⟨by decide, by decide, by decide +kernel⟩, by decide⟩, wd_964, wd_965⟩
def y_Reader_clear : MethodName := ⟨"FlowApply$Reader", "clear", "()V"⟩
theorem mi_Reader_clear : fa_MI y_Reader_clear prog_6_method_4_code 1 (Option.none : Option Jvm.ClassFile.FieldType) 0 := ⟨⟨wd_970, wd_4, ⟨by decide, by decide, by decide +kernel⟩, by decide⟩, wd_969, fa_in (List.mem_append_left _ (List.mem_of_getElem? (i := 42) (by decide +kernel))) rfl⟩
def y_Reader_advance : MethodName := ⟨"FlowApply$Reader", "advance", "()V"⟩
theorem mi_Reader_advance : fa_MI y_Reader_advance prog_6_method_6_code 2 (Option.none : Option Jvm.ClassFile.FieldType) 0 := ⟨⟨wd_976, wd_4, ⟨by decide, by decide, by decide +kernel⟩, by decide⟩, wd_975, fa_in (List.mem_append_left _ (List.mem_of_getElem? (i := 43) (by decide +kernel))) rfl⟩
def y_Reader_isBlank : MethodName := ⟨"FlowApply$Reader", "isBlank", "(I)Z"⟩
theorem mi_Reader_isBlank : fa_MS y_Reader_isBlank prog_6_method_7_code 1 (Option.some Jvm.ClassFile.FieldType.boolean) 1 := ⟨⟨wd_980, wd_4, ⟨by decide, by decide, by decide +kernel⟩, by decide⟩, wd_979⟩
def y_Reader_isLetter : MethodName := ⟨"FlowApply$Reader", "isLetter", "(I)Z"⟩
theorem mi_Reader_isLetter : fa_MS y_Reader_isLetter prog_6_method_8_code 1 (Option.some Jvm.ClassFile.FieldType.boolean) 1 := ⟨⟨wd_983, wd_4, ⟨by decide, by decide, by decide +kernel⟩, by decide⟩, wd_982⟩
def y_Reader_isKeyword : MethodName := ⟨"FlowApply$Reader", "isKeyword", "(I)Z"⟩
theorem mi_Reader_isKeyword : fa_MS y_Reader_isKeyword prog_6_method_11_code 1 (Option.some Jvm.ClassFile.FieldType.boolean) 1 := ⟨⟨wd_986, wd_4, ⟨by decide, by decide, by decide +kernel⟩, by decide⟩, wd_985⟩
def y_Reader_isDigit : MethodName := ⟨"FlowApply$Reader", "isDigit", "(I)Z"⟩
theorem mi_Reader_isDigit : fa_MS y_Reader_isDigit prog_6_method_9_code 1 (Option.some Jvm.ClassFile.FieldType.boolean) 1 := ⟨⟨wd_989, wd_4, ⟨by decide, by decide, by decide +kernel⟩, by decide⟩, wd_988⟩
def y_Reader_signAt : MethodName := ⟨"FlowApply$Reader", "signAt", "(I)I"⟩
theorem mi_Reader_signAt : fa_MS y_Reader_signAt prog_6_method_10_code 1 (Option.some Jvm.ClassFile.FieldType.int) 1 := ⟨⟨wd_992, wd_4, ⟨by decide, by decide, by decide +kernel⟩, by decide⟩, wd_991⟩
def y_Reader_global : MethodName := ⟨"FlowApply$Reader", "global", "()V"⟩
theorem mi_Reader_global : fa_MI y_Reader_global prog_6_method_15_code 2 (Option.none : Option Jvm.ClassFile.FieldType) 0 := ⟨⟨wd_997, wd_4, ⟨by decide, by decide, by decide +kernel⟩, by decide⟩, wd_996, fa_in (List.mem_append_left _ (List.mem_of_getElem? (i := 44) (by decide +kernel))) rfl⟩
def y_Reader_fail : MethodName := ⟨"FlowApply$Reader", "fail", "()V"⟩
theorem mi_Reader_fail : fa_MI y_Reader_fail prog_6_method_5_code 1 (Option.none : Option Jvm.ClassFile.FieldType) 0 := ⟨⟨wd_1001, wd_4, ⟨by decide, by decide, by decide +kernel⟩, by decide⟩, wd_1000, fa_in (List.mem_append_left _ (List.mem_of_getElem? (i := 45) (by decide +kernel))) rfl⟩
def y_Reader_nameVariable : MethodName := ⟨"FlowApply$Reader", "nameVariable", "(I)V"⟩
theorem mi_Reader_nameVariable : fa_MI y_Reader_nameVariable prog_6_method_16_code 2 (Option.none : Option Jvm.ClassFile.FieldType) 1 := ⟨⟨wd_1007, wd_4, ⟨by decide, by decide, by decide +kernel⟩, by decide⟩, wd_1006, fa_in (List.mem_append_left _ (List.mem_of_getElem? (i := 46) (by decide +kernel))) rfl⟩
def y_Reader_expect : MethodName := ⟨"FlowApply$Reader", "expect", "(I)V"⟩
theorem mi_Reader_expect : fa_MI y_Reader_expect prog_6_method_12_code 2 (Option.none : Option Jvm.ClassFile.FieldType) 1 := ⟨⟨wd_1012, wd_4, ⟨by decide, by decide, by decide +kernel⟩, by decide⟩, wd_1011, fa_in (List.mem_append_left _ (List.mem_of_getElem? (i := 47) (by decide +kernel))) rfl⟩
def y_Reader_expression : MethodName := ⟨"FlowApply$Reader", "expression", "()I"⟩
theorem mi_Reader_expression : fa_MI y_Reader_expression prog_6_method_17_code 1 (Option.some Jvm.ClassFile.FieldType.int) 0 := ⟨⟨wd_1016, wd_4, ⟨by decide, by decide, by decide +kernel⟩, by decide⟩, wd_1015, fa_in (List.mem_append_left _ (List.mem_of_getElem? (i := 48) (by decide +kernel))) rfl⟩
def y_Reader_lambda : MethodName := ⟨"FlowApply$Reader", "lambda", "()I"⟩
theorem mi_Reader_lambda : fa_MI y_Reader_lambda prog_6_method_18_code 4 (Option.some Jvm.ClassFile.FieldType.int) 0 := ⟨⟨wd_1020, wd_4, ⟨by decide, by decide, by decide +kernel⟩, by decide⟩, wd_1019, fa_in (List.mem_append_left _ (List.mem_of_getElem? (i := 49) (by decide +kernel))) rfl⟩
def y_Reader_countThing : MethodName := ⟨"FlowApply$Reader", "countThing", "()V"⟩
theorem mi_Reader_countThing : fa_MI y_Reader_countThing prog_6_method_13_code 1 (Option.none : Option Jvm.ClassFile.FieldType) 0 := ⟨⟨wd_1024, wd_4, ⟨by decide, by decide, by decide +kernel⟩, by decide⟩, wd_1023, fa_in (List.mem_append_left _ (List.mem_of_getElem? (i := 50) (by decide +kernel))) rfl⟩
def y_Reader_nest : MethodName := ⟨"FlowApply$Reader", "nest", "()Z"⟩
theorem mi_Reader_nest : fa_MI y_Reader_nest prog_6_method_14_code 1 (Option.some Jvm.ClassFile.FieldType.boolean) 0 := ⟨⟨wd_1028, wd_4, ⟨by decide, by decide, by decide +kernel⟩, by decide⟩, wd_1027, fa_in (List.mem_append_left _ (List.mem_of_getElem? (i := 51) (by decide +kernel))) rfl⟩
def y_Reader_choice : MethodName := ⟨"FlowApply$Reader", "choice", "()I"⟩
theorem mi_Reader_choice : fa_MI y_Reader_choice prog_6_method_19_code 4 (Option.some Jvm.ClassFile.FieldType.int) 0 := ⟨⟨wd_1034, wd_4, ⟨by decide, by decide, by decide +kernel⟩, by decide⟩, wd_1033, fa_in (List.mem_append_left _ (List.mem_of_getElem? (i := 52) (by decide +kernel))) rfl⟩
def y_Reader_let : MethodName := ⟨"FlowApply$Reader", "let", "()I"⟩
theorem mi_Reader_let : fa_MI y_Reader_let prog_6_method_20_code 4 (Option.some Jvm.ClassFile.FieldType.int) 0 := ⟨⟨wd_1040, wd_4, ⟨by decide, by decide, by decide +kernel⟩, by decide⟩, wd_1039, fa_in (List.mem_append_left _ (List.mem_of_getElem? (i := 53) (by decide +kernel))) rfl⟩
def y_Reader_test : MethodName := ⟨"FlowApply$Reader", "test", "()I"⟩
theorem mi_Reader_test : fa_MI y_Reader_test prog_6_method_21_code 3 (Option.some Jvm.ClassFile.FieldType.int) 0 := ⟨⟨wd_1044, wd_4, ⟨by decide, by decide, by decide +kernel⟩, by decide⟩, wd_1043, fa_in (List.mem_append_left _ (List.mem_of_getElem? (i := 54) (by decide +kernel))) rfl⟩
def y_Reader_sum : MethodName := ⟨"FlowApply$Reader", "sum", "()I"⟩
theorem mi_Reader_sum : fa_MI y_Reader_sum prog_6_method_22_code 5 (Option.some Jvm.ClassFile.FieldType.int) 0 := ⟨⟨wd_1048, wd_4, ⟨by decide, by decide, by decide +kernel⟩, by decide⟩, wd_1047, fa_in (List.mem_append_left _ (List.mem_of_getElem? (i := 55) (by decide +kernel))) rfl⟩
def y_Reader_product : MethodName := ⟨"FlowApply$Reader", "product", "()I"⟩
theorem mi_Reader_product : fa_MI y_Reader_product prog_6_method_23_code 5 (Option.some Jvm.ClassFile.FieldType.int) 0 := ⟨⟨wd_1052, wd_4, ⟨by decide, by decide, by decide +kernel⟩, by decide⟩, wd_1051, fa_in (List.mem_append_left _ (List.mem_of_getElem? (i := 56) (by decide +kernel))) rfl⟩
def y_Reader_chain : MethodName := ⟨"FlowApply$Reader", "chain", "()I"⟩
theorem mi_Reader_chain : fa_MI y_Reader_chain prog_6_method_25_code 5 (Option.some Jvm.ClassFile.FieldType.int) 0 := ⟨⟨wd_1056, wd_4, ⟨by decide, by decide, by decide +kernel⟩, by decide⟩, wd_1055, fa_in (List.mem_append_left _ (List.mem_of_getElem? (i := 57) (by decide +kernel))) rfl⟩
def y_Reader_atom : MethodName := ⟨"FlowApply$Reader", "atom", "()I"⟩
theorem mi_Reader_atom : fa_MI y_Reader_atom prog_6_method_27_code 3 (Option.some Jvm.ClassFile.FieldType.int) 0 := ⟨⟨wd_1060, wd_4, ⟨by decide, by decide, by decide +kernel⟩, by decide⟩, wd_1059, fa_in (List.mem_append_left _ (List.mem_of_getElem? (i := 58) (by decide +kernel))) rfl⟩
def y_Reader_inner : MethodName := ⟨"FlowApply$Reader", "inner", "()I"⟩
theorem mi_Reader_inner : fa_MI y_Reader_inner prog_6_method_29_code 2 (Option.some Jvm.ClassFile.FieldType.int) 0 := ⟨⟨wd_1064, wd_4, ⟨by decide, by decide, by decide +kernel⟩, by decide⟩, wd_1063, fa_in (List.mem_append_left _ (List.mem_of_getElem? (i := 59) (by decide +kernel))) rfl⟩
def y_Reader_leaf : MethodName := ⟨"FlowApply$Reader", "leaf", "(II)I"⟩
theorem mi_Reader_leaf : fa_MI y_Reader_leaf prog_6_method_28_code 3 (Option.some Jvm.ClassFile.FieldType.int) 2 := ⟨⟨wd_1068, wd_4, ⟨by decide, by decide, by decide +kernel⟩, by decide⟩, wd_1067, fa_in (List.mem_append_left _ (List.mem_of_getElem? (i := 60) (by decide +kernel))) rfl⟩
def y_Reader_variableNamed : MethodName := ⟨"FlowApply$Reader", "variableNamed", "(I)I"⟩
theorem mi_Reader_variableNamed : fa_MI y_Reader_variableNamed prog_6_method_30_code 3 (Option.some Jvm.ClassFile.FieldType.int) 1 := ⟨⟨wd_1073, wd_4, ⟨by decide, by decide, by decide +kernel⟩, by decide⟩, wd_1072, fa_in (List.mem_append_left _ (List.mem_of_getElem? (i := 61) (by decide +kernel))) rfl⟩
def y_Reader_startsAtom : MethodName := ⟨"FlowApply$Reader", "startsAtom", "()Z"⟩
theorem mi_Reader_startsAtom : fa_MI y_Reader_startsAtom prog_6_method_26_code 1 (Option.some Jvm.ClassFile.FieldType.boolean) 0 := ⟨⟨wd_1078, wd_4, ⟨by decide, by decide, by decide +kernel⟩, by decide⟩, wd_1077, fa_in (List.mem_append_left _ (List.mem_of_getElem? (i := 62) (by decide +kernel))) rfl⟩
def y_Reader_startOperator : MethodName := ⟨"FlowApply$Reader", "startOperator", "()V"⟩
theorem mi_Reader_startOperator : fa_MI y_Reader_startOperator prog_6_method_24_code 1 (Option.none : Option Jvm.ClassFile.FieldType) 0 := ⟨⟨wd_1082, wd_4, ⟨by decide, by decide, by decide +kernel⟩, by decide⟩, wd_1081, fa_in (List.mem_append_left _ (List.mem_of_getElem? (i := 63) (by decide +kernel))) rfl⟩
def y_Reader_told : MethodName := ⟨"FlowApply$Reader", "told", "()I"⟩
theorem mi_Reader_told : fa_MI y_Reader_told prog_6_method_3_code 1 (Option.some Jvm.ClassFile.FieldType.int) 0 := ⟨⟨wd_1154, wd_4, ⟨by decide, by decide, by decide +kernel⟩, by decide⟩, wd_1152, wd_1153⟩
def y_Face_function : MethodName := ⟨"FlowApply", "function", "(II)I"⟩
theorem mi_Face_function : fa_MI y_Face_function prog_1_method_8_code 3 (Option.some Jvm.ClassFile.FieldType.int) 2 := ⟨⟨wd_1179, wd_1, ⟨by decide, by decide, by decide +kernel⟩, by decide⟩, wd_1177, wd_1178⟩
def y_Face_needFunction : MethodName := ⟨"FlowApply", "needFunction", "(I)V"⟩
theorem mi_Face_needFunction : fa_MI y_Face_needFunction prog_1_method_9_code 2 (Option.none : Option Jvm.ClassFile.FieldType) 1 := ⟨⟨wd_1183, wd_1, ⟨by decide, by decide, by decide +kernel⟩, by decide⟩, wd_1182, fa_in (List.mem_append_left _ (List.mem_of_getElem? (i := 65) (by decide +kernel))) rfl⟩
def y_Program_home : MethodName := ⟨"FlowApply$Program", "home", "(I)I"⟩
theorem mi_Program_home : fa_MI y_Program_home prog_5_method_9_code 2 (Option.some Jvm.ClassFile.FieldType.int) 1 := ⟨⟨wd_1203, wd_5, ⟨by decide, by decide, by decide +kernel⟩, by decide⟩, wd_1201, wd_1202⟩
def y_Flow_countSitesOf : MethodName := ⟨"FlowApply$Flow", "countSitesOf", "(LFlowApply$Program;I)I"⟩
theorem mi_Flow_countSitesOf : fa_MI y_Flow_countSitesOf prog_2_method_17_code 5 (Option.some Jvm.ClassFile.FieldType.int) 2 := ⟨⟨wd_1212, wd_10, ⟨by decide, by decide, by decide +kernel⟩, by decide⟩, wd_1210, wd_1211⟩
def y_Face_field : MethodName := ⟨"FlowApply", "field", "(II)I"⟩
theorem mi_Face_field : fa_MI y_Face_field prog_1_method_11_code 3 (Option.some Jvm.ClassFile.FieldType.int) 2 := ⟨⟨wd_1235, wd_1, ⟨by decide, by decide, by decide +kernel⟩, by decide⟩, wd_1233, wd_1234⟩
def y_Writer_showName : MethodName := ⟨"FlowApply$Writer", "showName", "(I)I"⟩
theorem mi_Writer_showName : fa_MI y_Writer_showName prog_10_method_2_code 2 (Option.some Jvm.ClassFile.FieldType.int) 1 := ⟨⟨wd_1240, wd_6, ⟨by decide, by decide, by decide +kernel⟩, by decide⟩, wd_1238, wd_1239⟩
def y_Face_type : MethodName := ⟨"FlowApply", "type", "(I)I"⟩
theorem mi_Face_type : fa_MI y_Face_type prog_1_method_12_code 2 (Option.some Jvm.ClassFile.FieldType.int) 1 := ⟨⟨wd_1247, wd_1, ⟨by decide, by decide, by decide +kernel⟩, by decide⟩, wd_1245, wd_1246⟩
def y_Face_alike : MethodName := ⟨"FlowApply", "alike", "(II)Z"⟩
theorem mi_Face_alike : fa_MI y_Face_alike prog_1_method_14_code 3 (Option.some Jvm.ClassFile.FieldType.boolean) 2 := ⟨⟨wd_1254, wd_1, ⟨by decide, by decide, by decide +kernel⟩, by decide⟩, wd_1252, wd_1253⟩
def y_Face_site : MethodName := ⟨"FlowApply", "site", "(II)I"⟩
theorem mi_Face_site : fa_MI y_Face_site prog_1_method_15_code 5 (Option.some Jvm.ClassFile.FieldType.int) 2 := ⟨⟨wd_1262, wd_1, ⟨by decide, by decide, by decide +kernel⟩, by decide⟩, wd_1260, wd_1261⟩
def y_Face_split : MethodName := ⟨"FlowApply", "split", "(II)I"⟩
theorem mi_Face_split : fa_MI y_Face_split prog_1_method_16_code 3 (Option.some Jvm.ClassFile.FieldType.int) 2 := ⟨⟨wd_1277, wd_1, ⟨by decide, by decide, by decide +kernel⟩, by decide⟩, wd_1275, wd_1276⟩
def y_Face_needSplit : MethodName := ⟨"FlowApply", "needSplit", "(I)V"⟩
theorem mi_Face_needSplit : fa_MI y_Face_needSplit prog_1_method_17_code 2 (Option.none : Option Jvm.ClassFile.FieldType) 1 := ⟨⟨wd_1282, wd_1, ⟨by decide, by decide, by decide +kernel⟩, by decide⟩, wd_1281, fa_in (List.mem_append_left _ (List.mem_of_getElem? (i := 66) (by decide +kernel))) rfl⟩
def y_Groups_manyWithCases : MethodName := ⟨"FlowApply$Groups", "manyWithCases", "(II)I"⟩
theorem mi_Groups_manyWithCases : fa_MI y_Groups_manyWithCases prog_3_method_9_code 5 (Option.some Jvm.ClassFile.FieldType.int) 2 := ⟨⟨wd_1288, wd_11, ⟨by decide, by decide, by decide +kernel⟩, by decide⟩, wd_1286, wd_1287⟩
def y_Groups_members : MethodName := ⟨"FlowApply$Groups", "members", "(II)I"⟩
theorem mi_Groups_members : fa_MI y_Groups_members prog_3_method_7_code 3 (Option.some Jvm.ClassFile.FieldType.int) 2 := ⟨⟨wd_1292, wd_11, ⟨by decide, by decide, by decide +kernel⟩, by decide⟩, wd_1290, wd_1291⟩
def y_Groups_mostCases : MethodName := ⟨"FlowApply$Groups", "mostCases", "(II)I"⟩
theorem mi_Groups_mostCases : fa_MI y_Groups_mostCases prog_3_method_10_code 5 (Option.some Jvm.ClassFile.FieldType.int) 2 := ⟨⟨wd_1297, wd_11, ⟨by decide, by decide, by decide +kernel⟩, by decide⟩, wd_1295, wd_1296⟩
def y_Face_group : MethodName := ⟨"FlowApply", "group", "(IIZ)I"⟩
theorem mi_Face_group : fa_MI y_Face_group prog_1_method_18_code 5 (Option.some Jvm.ClassFile.FieldType.int) 3 := ⟨⟨wd_1306, wd_1, ⟨by decide, by decide, by decide +kernel⟩, by decide⟩, wd_1304, wd_1305⟩
def y_Face_run : MethodName := ⟨"FlowApply", "run", "(II)I"⟩
theorem mi_Face_run : fa_MI y_Face_run prog_1_method_19_code 3 (Option.some Jvm.ClassFile.FieldType.int) 2 := ⟨⟨wd_1315, wd_1, ⟨by decide, by decide, by decide +kernel⟩, by decide⟩, wd_1313, wd_1314⟩
def y_Face_needHow : MethodName := ⟨"FlowApply", "needHow", "(I)V"⟩
theorem mi_Face_needHow : fa_MI y_Face_needHow prog_1_method_20_code 2 (Option.none : Option Jvm.ClassFile.FieldType) 1 := ⟨⟨wd_1319, wd_1, ⟨by decide, by decide, by decide +kernel⟩, by decide⟩, wd_1318, fa_in (List.mem_append_left _ (List.mem_of_getElem? (i := 67) (by decide +kernel))) rfl⟩
def y_Machine_perform : MethodName := ⟨"FlowApply$Machine", "perform", "(LFlowApply$Scene;I)V"⟩
theorem mi_Machine_perform : fa_MI y_Machine_perform prog_4_method_2_code 5 (Option.none : Option Jvm.ClassFile.FieldType) 2 := ⟨⟨wd_1325, wd_7, ⟨by decide, by decide, by decide +kernel⟩, by decide⟩, wd_1323, wd_1324⟩
def y_Machine_clear : MethodName := ⟨"FlowApply$Machine", "clear", "()V"⟩
theorem mi_Machine_clear : fa_MI y_Machine_clear prog_4_method_4_code 1 (Option.none : Option Jvm.ClassFile.FieldType) 0 := ⟨⟨wd_1329, wd_7, ⟨by decide, by decide, by decide +kernel⟩, by decide⟩, wd_1328, fa_in (List.mem_append_left _ (List.mem_of_getElem? (i := 68) (by decide +kernel))) rfl⟩
def y_Groups_allCases : MethodName := ⟨"FlowApply$Groups", "allCases", "(II)I"⟩
theorem mi_Groups_allCases : fa_MI y_Groups_allCases prog_3_method_11_code 5 (Option.some Jvm.ClassFile.FieldType.int) 2 := ⟨⟨wd_1334, wd_11, ⟨by decide, by decide, by decide +kernel⟩, by decide⟩, wd_1332, wd_1333⟩
def y_Machine_begin : MethodName := ⟨"FlowApply$Machine", "begin", "(II)V"⟩
theorem mi_Machine_begin : fa_MI y_Machine_begin prog_4_method_7_code 3 (Option.none : Option Jvm.ClassFile.FieldType) 2 := ⟨⟨wd_1338, wd_7, ⟨by decide, by decide, by decide +kernel⟩, by decide⟩, wd_1337, fa_in (List.mem_append_left _ (List.mem_of_getElem? (i := 69) (by decide +kernel))) rfl⟩
def y_Machine_go : MethodName := ⟨"FlowApply$Machine", "go", "(LFlowApply$Program;II)V"⟩
theorem mi_Machine_go : fa_MI y_Machine_go prog_4_method_12_code 4 (Option.none : Option Jvm.ClassFile.FieldType) 3 := ⟨⟨wd_1346, wd_7, ⟨by decide, by decide, by decide +kernel⟩, by decide⟩, wd_1345, fa_in (List.mem_append_left _ (List.mem_of_getElem? (i := 70) (by decide +kernel))) rfl⟩
def y_Machine_frame : MethodName := ⟨"FlowApply$Machine", "frame", "()I"⟩
theorem mi_Machine_frame : fa_MI y_Machine_frame prog_4_method_9_code 1 (Option.some Jvm.ClassFile.FieldType.int) 0 := ⟨⟨wd_1352, wd_7, ⟨by decide, by decide, by decide +kernel⟩, by decide⟩, wd_1351, fa_in (List.mem_append_left _ (List.mem_of_getElem? (i := 71) (by decide +kernel))) rfl⟩
def y_Row_last : MethodName := ⟨"FlowApply$Row", "last", "()I"⟩
theorem mi_Row_last : fa_MI y_Row_last prog_7_method_8_code 1 (Option.some Jvm.ClassFile.FieldType.int) 0 := ⟨⟨wd_1356, wd_2, ⟨by decide, by decide, by decide +kernel⟩, by decide⟩, wd_1354, wd_1355⟩
def y_Machine_handed : MethodName := ⟨"FlowApply$Machine", "handed", "(I)I"⟩
theorem mi_Machine_handed : fa_MI y_Machine_handed prog_4_method_10_code 2 (Option.some Jvm.ClassFile.FieldType.int) 1 := ⟨⟨wd_1362, wd_7, ⟨by decide, by decide, by decide +kernel⟩, by decide⟩, wd_1361, fa_in (List.mem_append_left _ (List.mem_of_getElem? (i := 72) (by decide +kernel))) rfl⟩
def y_Machine_goChoice : MethodName := ⟨"FlowApply$Machine", "goChoice", "(LFlowApply$Program;II)V"⟩
theorem mi_Machine_goChoice : fa_MI y_Machine_goChoice prog_4_method_13_code 4 (Option.none : Option Jvm.ClassFile.FieldType) 3 := ⟨⟨wd_1366, wd_7, ⟨by decide, by decide, by decide +kernel⟩, by decide⟩, wd_1365, fa_in (List.mem_append_left _ (List.mem_of_getElem? (i := 73) (by decide +kernel))) rfl⟩
def y_Machine_beginPart : MethodName := ⟨"FlowApply$Machine", "beginPart", "(LFlowApply$Program;II)V"⟩
theorem mi_Machine_beginPart : fa_MI y_Machine_beginPart prog_4_method_8_code 4 (Option.none : Option Jvm.ClassFile.FieldType) 3 := ⟨⟨wd_1370, wd_7, ⟨by decide, by decide, by decide +kernel⟩, by decide⟩, wd_1369, fa_in (List.mem_append_left _ (List.mem_of_getElem? (i := 74) (by decide +kernel))) rfl⟩
def y_Machine_goLet : MethodName := ⟨"FlowApply$Machine", "goLet", "(LFlowApply$Program;II)V"⟩
theorem mi_Machine_goLet : fa_MI y_Machine_goLet prog_4_method_14_code 4 (Option.none : Option Jvm.ClassFile.FieldType) 3 := ⟨⟨wd_1375, wd_7, ⟨by decide, by decide, by decide +kernel⟩, by decide⟩, wd_1374, fa_in (List.mem_append_left _ (List.mem_of_getElem? (i := 75) (by decide +kernel))) rfl⟩
def y_Machine_goOperator : MethodName := ⟨"FlowApply$Machine", "goOperator", "(LFlowApply$Program;II)V"⟩
theorem mi_Machine_goOperator : fa_MI y_Machine_goOperator prog_4_method_15_code 6 (Option.none : Option Jvm.ClassFile.FieldType) 3 := ⟨⟨wd_1380, wd_7, ⟨by decide, by decide, by decide +kernel⟩, by decide⟩, wd_1379, fa_in (List.mem_append_left _ (List.mem_of_getElem? (i := 76) (by decide +kernel))) rfl⟩
def y_Machine_divide : MethodName := ⟨"FlowApply$Machine", "divide", "(II)V"⟩
theorem mi_Machine_divide : fa_MI y_Machine_divide prog_4_method_16_code 3 (Option.none : Option Jvm.ClassFile.FieldType) 2 := ⟨⟨wd_1385, wd_7, ⟨by decide, by decide, by decide +kernel⟩, by decide⟩, wd_1384, fa_in (List.mem_append_left _ (List.mem_of_getElem? (i := 77) (by decide +kernel))) rfl⟩
def y_Machine_goSite : MethodName := ⟨"FlowApply$Machine", "goSite", "(LFlowApply$Program;II)V"⟩
theorem mi_Machine_goSite : fa_MI y_Machine_goSite prog_4_method_17_code 6 (Option.none : Option Jvm.ClassFile.FieldType) 3 := ⟨⟨wd_1389, wd_7, ⟨by decide, by decide, by decide +kernel⟩, by decide⟩, wd_1388, fa_in (List.mem_append_left _ (List.mem_of_getElem? (i := 78) (by decide +kernel))) rfl⟩
def y_Machine_functionOf : MethodName := ⟨"FlowApply$Machine", "functionOf", "(I)I"⟩
theorem mi_Machine_functionOf : fa_MS y_Machine_functionOf prog_4_method_11_code 1 (Option.some Jvm.ClassFile.FieldType.int) 1 := ⟨⟨wd_1392, wd_7, ⟨by decide, by decide, by decide +kernel⟩, by decide⟩, wd_1391⟩
def y_Machine_enter : MethodName := ⟨"FlowApply$Machine", "enter", "(LFlowApply$Program;II)V"⟩
theorem mi_Machine_enter : fa_MI y_Machine_enter prog_4_method_18_code 5 (Option.none : Option Jvm.ClassFile.FieldType) 3 := ⟨⟨wd_1397, wd_7, ⟨by decide, by decide, by decide +kernel⟩, by decide⟩, wd_1396, fa_in (List.mem_append_left _ (List.mem_of_getElem? (i := 79) (by decide +kernel))) rfl⟩
def y_Row_repeat : MethodName := ⟨"FlowApply$Row", "repeat", "(III)V"⟩
theorem mi_Row_repeat : fa_MI y_Row_repeat prog_7_method_12_code 4 (Option.none : Option Jvm.ClassFile.FieldType) 3 := ⟨⟨wd_1401, wd_2, ⟨by decide, by decide, by decide +kernel⟩, by decide⟩, wd_1399, wd_1400⟩
def y_Machine_finish : MethodName := ⟨"FlowApply$Machine", "finish", "(Z)V"⟩
theorem mi_Machine_finish : fa_MI y_Machine_finish prog_4_method_5_code 3 (Option.none : Option Jvm.ClassFile.FieldType) 1 := ⟨⟨wd_1410, wd_7, ⟨by decide, by decide, by decide +kernel⟩, by decide⟩, wd_1409, fa_in (List.mem_append_left _ (List.mem_of_getElem? (i := 80) (by decide +kernel))) rfl⟩
def y_Face_blame : MethodName := ⟨"FlowApply", "blame", "(II)I"⟩
theorem mi_Face_blame : fa_MI y_Face_blame prog_1_method_21_code 3 (Option.some Jvm.ClassFile.FieldType.int) 2 := ⟨⟨wd_1417, wd_1, ⟨by decide, by decide, by decide +kernel⟩, by decide⟩, wd_1415, wd_1416⟩
def y_Machine_blamed : MethodName := ⟨"FlowApply$Machine", "blamed", "(I)I"⟩
theorem mi_Machine_blamed : fa_MI y_Machine_blamed prog_4_method_6_code 2 (Option.some Jvm.ClassFile.FieldType.int) 1 := ⟨⟨wd_1421, wd_7, ⟨by decide, by decide, by decide +kernel⟩, by decide⟩, wd_1419, wd_1420⟩
def y_Face_form : MethodName := ⟨"FlowApply", "form", "(I)I"⟩
theorem mi_Face_form : fa_MI y_Face_form prog_1_method_22_code 2 (Option.some Jvm.ClassFile.FieldType.int) 1 := ⟨⟨wd_1428, wd_1, ⟨by decide, by decide, by decide +kernel⟩, by decide⟩, wd_1426, wd_1427⟩
def y_Writer_showForm : MethodName := ⟨"FlowApply$Writer", "showForm", "(LFlowApply$Scene;I)I"⟩
theorem mi_Writer_showForm : fa_MI y_Writer_showForm prog_10_method_4_code 6 (Option.some Jvm.ClassFile.FieldType.int) 2 := ⟨⟨wd_1432, wd_6, ⟨by decide, by decide, by decide +kernel⟩, by decide⟩, wd_1430, wd_1431⟩
def y_Writer_putCaseStart : MethodName := ⟨"FlowApply$Writer", "putCaseStart", "(LFlowApply$Program;II)V"⟩
theorem mi_Writer_putCaseStart : fa_MI y_Writer_putCaseStart prog_10_method_5_code 4 (Option.none : Option Jvm.ClassFile.FieldType) 3 := ⟨⟨wd_1439, wd_6, ⟨by decide, by decide, by decide +kernel⟩, by decide⟩, wd_1438, fa_in (List.mem_append_left _ (List.mem_of_getElem? (i := 81) (by decide +kernel))) rfl⟩
def y_Face_ring : MethodName := ⟨"FlowApply", "ring", "(I)I"⟩
theorem mi_Face_ring : fa_MI y_Face_ring prog_1_method_27_code 2 (Option.some Jvm.ClassFile.FieldType.int) 1 := ⟨⟨wd_1449, wd_1, ⟨by decide, by decide, by decide +kernel⟩, by decide⟩, wd_1447, wd_1448⟩
def y_Face_far : MethodName := ⟨"FlowApply", "far", "(II)I"⟩
theorem mi_Face_far : fa_MI y_Face_far prog_1_method_28_code 3 (Option.some Jvm.ClassFile.FieldType.int) 2 := ⟨⟨wd_1457, wd_1, ⟨by decide, by decide, by decide +kernel⟩, by decide⟩, wd_1455, wd_1456⟩
def y_Flow_distance : MethodName := ⟨"FlowApply$Flow", "distance", "(II)I"⟩
theorem mi_Flow_distance : fa_MI y_Flow_distance prog_2_method_15_code 5 (Option.some Jvm.ClassFile.FieldType.int) 2 := ⟨⟨wd_1461, wd_10, ⟨by decide, by decide, by decide +kernel⟩, by decide⟩, wd_1459, wd_1460⟩
def y_Flow_callsOf : MethodName := ⟨"FlowApply$Flow", "callsOf", "(I)I"⟩
theorem mi_Flow_callsOf : fa_MI y_Flow_callsOf prog_2_method_16_code 4 (Option.some Jvm.ClassFile.FieldType.int) 1 := ⟨⟨wd_1465, wd_10, ⟨by decide, by decide, by decide +kernel⟩, by decide⟩, wd_1464, fa_in (List.mem_append_left _ (List.mem_of_getElem? (i := 82) (by decide +kernel))) rfl⟩
def y_Mod_thrown : MethodName := ⟨"FlowApplyModel", "thrown", "()I"⟩
theorem mi_Mod_thrown : fa_MI y_Mod_thrown prog_12_method_1_code 1 (Option.some Jvm.ClassFile.FieldType.int) 0 := ⟨⟨wd_1469, wd_13, ⟨by decide, by decide, by decide +kernel⟩, by decide⟩, wd_1467, wd_1468⟩
def y_Mod_feed : MethodName := ⟨"FlowApplyModel", "feed", "(IIIII)I"⟩
theorem mi_Mod_feed : fa_MI y_Mod_feed prog_12_method_6_code 7 (Option.some Jvm.ClassFile.FieldType.int) 5 := ⟨⟨wd_1473, wd_13, ⟨by decide, by decide, by decide +kernel⟩, by decide⟩, wd_1471, wd_1472⟩
def y_Mod_end : MethodName := ⟨"FlowApplyModel", "end", "(I)Z"⟩
theorem mi_Mod_end : fa_MI y_Mod_end prog_12_method_7_code 2 (Option.some Jvm.ClassFile.FieldType.boolean) 1 := ⟨⟨wd_1477, wd_13, ⟨by decide, by decide, by decide +kernel⟩, by decide⟩, wd_1475, wd_1476⟩
def y_Mod_init : MethodName := ⟨"FlowApplyModel", "<init>", "()V"⟩
theorem mi_Mod_init : fa_MN y_Mod_init prog_12_method_67_code 2 0 := ⟨⟨wd_1482, wd_13, ⟨by decide, by decide, by decide +kernel⟩, by decide⟩, wd_1481, rfl⟩
def y_Mod_readsAll : MethodName := ⟨"FlowApplyModel", "readsAll", "(Z)Z"⟩
theorem mi_Mod_readsAll : fa_MI y_Mod_readsAll prog_12_method_68_code 2 (Option.some Jvm.ClassFile.FieldType.boolean) 1 := ⟨⟨wd_1489, wd_13, ⟨by decide, by decide, by decide +kernel⟩, by decide⟩, wd_1488, fa_in (List.mem_append_left _ (List.mem_of_getElem? (i := 83) (by decide +kernel))) rfl⟩
def y_Mod_reads : MethodName := ⟨"FlowApplyModel", "reads", "()Z"⟩
theorem mi_Mod_reads : fa_MI y_Mod_reads prog_12_method_36_code 1 (Option.some Jvm.ClassFile.FieldType.boolean) 0 := ⟨⟨wd_1493, wd_13, ⟨by decide, by decide, by decide +kernel⟩, by decide⟩, wd_1492, fa_in (List.mem_append_left _ (List.mem_of_getElem? (i := 84) (by decide +kernel))) rfl⟩
def y_Mod_hasFailed : MethodName := ⟨"FlowApplyModel", "hasFailed", "()Z"⟩
theorem mi_Mod_hasFailed : fa_MI y_Mod_hasFailed prog_12_method_11_code 1 (Option.some Jvm.ClassFile.FieldType.boolean) 0 := ⟨⟨wd_1497, wd_13, ⟨by decide, by decide, by decide +kernel⟩, by decide⟩, wd_1496, fa_in (List.mem_append_left _ (List.mem_of_getElem? (i := 85) (by decide +kernel))) rfl⟩
def y_Mod_wordAhead : MethodName := ⟨"FlowApplyModel", "wordAhead", "()I"⟩
theorem mi_Mod_wordAhead : fa_MI y_Mod_wordAhead prog_12_method_14_code 3 (Option.some Jvm.ClassFile.FieldType.int) 0 := ⟨⟨wd_1501, wd_13, ⟨by decide, by decide, by decide +kernel⟩, by decide⟩, wd_1500, fa_in (List.mem_append_left _ (List.mem_of_getElem? (i := 86) (by decide +kernel))) rfl⟩
def y_Mod_blanks : MethodName := ⟨"FlowApplyModel", "blanks", "()V"⟩
theorem mi_Mod_blanks : fa_MI y_Mod_blanks prog_12_method_9_code 1 (Option.none : Option Jvm.ClassFile.FieldType) 0 := ⟨⟨wd_1505, wd_13, ⟨by decide, by decide, by decide +kernel⟩, by decide⟩, wd_1504, fa_in (List.mem_append_left _ (List.mem_of_getElem? (i := 87) (by decide +kernel))) rfl⟩
def y_Mod_isAt : MethodName := ⟨"FlowApplyModel", "isAt", "(II)Z"⟩
theorem mi_Mod_isAt : fa_MI y_Mod_isAt prog_12_method_8_code 3 (Option.some Jvm.ClassFile.FieldType.boolean) 2 := ⟨⟨wd_1509, wd_13, ⟨by decide, by decide, by decide +kernel⟩, by decide⟩, wd_1508, fa_in (List.mem_append_left _ (List.mem_of_getElem? (i := 88) (by decide +kernel))) rfl⟩
def y_Mod_global : MethodName := ⟨"FlowApplyModel", "global", "()V"⟩
theorem mi_Mod_global : fa_MI y_Mod_global prog_12_method_35_code 5 (Option.none : Option Jvm.ClassFile.FieldType) 0 := ⟨⟨wd_1516, wd_13, ⟨by decide, by decide, by decide +kernel⟩, by decide⟩, wd_1515, fa_in (List.mem_append_left _ (List.mem_of_getElem? (i := 89) (by decide +kernel))) rfl⟩
def y_Mod_fails : MethodName := ⟨"FlowApplyModel", "fails", "(I)I"⟩
theorem mi_Mod_fails : fa_MI y_Mod_fails prog_12_method_10_code 2 (Option.some Jvm.ClassFile.FieldType.int) 1 := ⟨⟨wd_1520, wd_13, ⟨by decide, by decide, by decide +kernel⟩, by decide⟩, wd_1519, fa_in (List.mem_append_left _ (List.mem_of_getElem? (i := 90) (by decide +kernel))) rfl⟩
def y_Mod_asksWord : MethodName := ⟨"FlowApplyModel", "asksWord", "(I)V"⟩
theorem mi_Mod_asksWord : fa_MI y_Mod_asksWord prog_12_method_18_code 3 (Option.none : Option Jvm.ClassFile.FieldType) 1 := ⟨⟨wd_1524, wd_13, ⟨by decide, by decide, by decide +kernel⟩, by decide⟩, wd_1523, fa_in (List.mem_append_left _ (List.mem_of_getElem? (i := 91) (by decide +kernel))) rfl⟩
def y_Mod_takesWord : MethodName := ⟨"FlowApplyModel", "takesWord", "(I)Z"⟩
theorem mi_Mod_takesWord : fa_MI y_Mod_takesWord prog_12_method_17_code 2 (Option.some Jvm.ClassFile.FieldType.boolean) 1 := ⟨⟨wd_1528, wd_13, ⟨by decide, by decide, by decide +kernel⟩, by decide⟩, wd_1527, fa_in (List.mem_append_left _ (List.mem_of_getElem? (i := 92) (by decide +kernel))) rfl⟩
def y_Mod_gives : MethodName := ⟨"FlowApplyModel", "gives", "()I"⟩
theorem mi_Mod_gives : fa_MI y_Mod_gives prog_12_method_19_code 3 (Option.some Jvm.ClassFile.FieldType.int) 0 := ⟨⟨wd_1532, wd_13, ⟨by decide, by decide, by decide +kernel⟩, by decide⟩, wd_1531, fa_in (List.mem_append_left _ (List.mem_of_getElem? (i := 93) (by decide +kernel))) rfl⟩
def y_Mod_isOwn : MethodName := ⟨"FlowApplyModel", "isOwn", "(I)Z"⟩
theorem mi_Mod_isOwn : fa_MS y_Mod_isOwn prog_12_method_16_code 1 (Option.some Jvm.ClassFile.FieldType.boolean) 1 := ⟨⟨wd_1535, wd_13, ⟨by decide, by decide, by decide +kernel⟩, by decide⟩, wd_1534⟩
def y_Mod_asks : MethodName := ⟨"FlowApplyModel", "asks", "(I)V"⟩
theorem mi_Mod_asks : fa_MI y_Mod_asks prog_12_method_13_code 3 (Option.none : Option Jvm.ClassFile.FieldType) 1 := ⟨⟨wd_1551, wd_13, ⟨by decide, by decide, by decide +kernel⟩, by decide⟩, wd_1550, fa_in (List.mem_append_left _ (List.mem_of_getElem? (i := 94) (by decide +kernel))) rfl⟩
def y_Mod_takes : MethodName := ⟨"FlowApplyModel", "takes", "(I)Z"⟩
theorem mi_Mod_takes : fa_MI y_Mod_takes prog_12_method_12_code 2 (Option.some Jvm.ClassFile.FieldType.boolean) 1 := ⟨⟨wd_1555, wd_13, ⟨by decide, by decide, by decide +kernel⟩, by decide⟩, wd_1554, fa_in (List.mem_append_left _ (List.mem_of_getElem? (i := 95) (by decide +kernel))) rfl⟩
def y_Mod_sees : MethodName := ⟨"FlowApplyModel", "sees", "(III)I"⟩
theorem mi_Mod_sees : fa_MI y_Mod_sees prog_12_method_23_code 4 (Option.some Jvm.ClassFile.FieldType.int) 3 := ⟨⟨wd_1559, wd_13, ⟨by decide, by decide, by decide +kernel⟩, by decide⟩, wd_1558, fa_in (List.mem_append_left _ (List.mem_of_getElem? (i := 96) (by decide +kernel))) rfl⟩
def y_Mod_expression : MethodName := ⟨"FlowApplyModel", "expression", "()I"⟩
theorem mi_Mod_expression : fa_MI y_Mod_expression prog_12_method_24_code 2 (Option.some Jvm.ClassFile.FieldType.int) 0 := ⟨⟨wd_1563, wd_13, ⟨by decide, by decide, by decide +kernel⟩, by decide⟩, wd_1562, fa_in (List.mem_append_left _ (List.mem_of_getElem? (i := 97) (by decide +kernel))) rfl⟩
def y_Mod_lambda : MethodName := ⟨"FlowApplyModel", "lambda", "()I"⟩
theorem mi_Mod_lambda : fa_MI y_Mod_lambda prog_12_method_25_code 6 (Option.some Jvm.ClassFile.FieldType.int) 0 := ⟨⟨wd_1567, wd_13, ⟨by decide, by decide, by decide +kernel⟩, by decide⟩, wd_1566, fa_in (List.mem_append_left _ (List.mem_of_getElem? (i := 98) (by decide +kernel))) rfl⟩
def y_Mod_begins : MethodName := ⟨"FlowApplyModel", "begins", "(I)Z"⟩
theorem mi_Mod_begins : fa_MI y_Mod_begins prog_12_method_21_code 3 (Option.some Jvm.ClassFile.FieldType.boolean) 1 := ⟨⟨wd_1571, wd_13, ⟨by decide, by decide, by decide +kernel⟩, by decide⟩, wd_1570, fa_in (List.mem_append_left _ (List.mem_of_getElem? (i := 99) (by decide +kernel))) rfl⟩
def y_Mod_opens : MethodName := ⟨"FlowApplyModel", "opens", "(I)Z"⟩
theorem mi_Mod_opens : fa_MI y_Mod_opens prog_12_method_22_code 3 (Option.some Jvm.ClassFile.FieldType.boolean) 1 := ⟨⟨wd_1575, wd_13, ⟨by decide, by decide, by decide +kernel⟩, by decide⟩, wd_1574, fa_in (List.mem_append_left _ (List.mem_of_getElem? (i := 100) (by decide +kernel))) rfl⟩
def y_Mod_node : MethodName := ⟨"FlowApplyModel", "node", "(IIIII)I"⟩
theorem mi_Mod_node : fa_MI y_Mod_node prog_12_method_20_code 6 (Option.some Jvm.ClassFile.FieldType.int) 5 := ⟨⟨wd_1579, wd_13, ⟨by decide, by decide, by decide +kernel⟩, by decide⟩, wd_1578, fa_in (List.mem_append_left _ (List.mem_of_getElem? (i := 101) (by decide +kernel))) rfl⟩
def y_Mod_choice : MethodName := ⟨"FlowApplyModel", "choice", "()I"⟩
theorem mi_Mod_choice : fa_MI y_Mod_choice prog_12_method_26_code 5 (Option.some Jvm.ClassFile.FieldType.int) 0 := ⟨⟨wd_1583, wd_13, ⟨by decide, by decide, by decide +kernel⟩, by decide⟩, wd_1582, fa_in (List.mem_append_left _ (List.mem_of_getElem? (i := 102) (by decide +kernel))) rfl⟩
def y_Mod_let : MethodName := ⟨"FlowApplyModel", "let", "()I"⟩
theorem mi_Mod_let : fa_MI y_Mod_let prog_12_method_27_code 6 (Option.some Jvm.ClassFile.FieldType.int) 0 := ⟨⟨wd_1587, wd_13, ⟨by decide, by decide, by decide +kernel⟩, by decide⟩, wd_1586, fa_in (List.mem_append_left _ (List.mem_of_getElem? (i := 103) (by decide +kernel))) rfl⟩
def y_Mod_test : MethodName := ⟨"FlowApplyModel", "test", "()I"⟩
theorem mi_Mod_test : fa_MI y_Mod_test prog_12_method_28_code 3 (Option.some Jvm.ClassFile.FieldType.int) 0 := ⟨⟨wd_1591, wd_13, ⟨by decide, by decide, by decide +kernel⟩, by decide⟩, wd_1590, fa_in (List.mem_append_left _ (List.mem_of_getElem? (i := 104) (by decide +kernel))) rfl⟩
def y_Mod_sum : MethodName := ⟨"FlowApplyModel", "sum", "()I"⟩
theorem mi_Mod_sum : fa_MI y_Mod_sum prog_12_method_29_code 4 (Option.some Jvm.ClassFile.FieldType.int) 0 := ⟨⟨wd_1595, wd_13, ⟨by decide, by decide, by decide +kernel⟩, by decide⟩, wd_1594, fa_in (List.mem_append_left _ (List.mem_of_getElem? (i := 105) (by decide +kernel))) rfl⟩
def y_Mod_product : MethodName := ⟨"FlowApplyModel", "product", "()I"⟩
theorem mi_Mod_product : fa_MI y_Mod_product prog_12_method_30_code 4 (Option.some Jvm.ClassFile.FieldType.int) 0 := ⟨⟨wd_1599, wd_13, ⟨by decide, by decide, by decide +kernel⟩, by decide⟩, wd_1598, fa_in (List.mem_append_left _ (List.mem_of_getElem? (i := 106) (by decide +kernel))) rfl⟩
def y_Mod_call : MethodName := ⟨"FlowApplyModel", "call", "()I"⟩
theorem mi_Mod_call : fa_MI y_Mod_call prog_12_method_32_code 4 (Option.some Jvm.ClassFile.FieldType.int) 0 := ⟨⟨wd_1603, wd_13, ⟨by decide, by decide, by decide +kernel⟩, by decide⟩, wd_1602, fa_in (List.mem_append_left _ (List.mem_of_getElem? (i := 107) (by decide +kernel))) rfl⟩
def y_Mod_atom : MethodName := ⟨"FlowApplyModel", "atom", "()I"⟩
theorem mi_Mod_atom : fa_MI y_Mod_atom prog_12_method_33_code 4 (Option.some Jvm.ClassFile.FieldType.int) 0 := ⟨⟨wd_1607, wd_13, ⟨by decide, by decide, by decide +kernel⟩, by decide⟩, wd_1606, fa_in (List.mem_append_left _ (List.mem_of_getElem? (i := 108) (by decide +kernel))) rfl⟩
def y_Mod_number : MethodName := ⟨"FlowApplyModel", "number", "()I"⟩
theorem mi_Mod_number : fa_MI y_Mod_number prog_12_method_34_code 3 (Option.some Jvm.ClassFile.FieldType.int) 0 := ⟨⟨wd_1611, wd_13, ⟨by decide, by decide, by decide +kernel⟩, by decide⟩, wd_1610, fa_in (List.mem_append_left _ (List.mem_of_getElem? (i := 109) (by decide +kernel))) rfl⟩
def y_Mod_isAtomAhead : MethodName := ⟨"FlowApplyModel", "isAtomAhead", "()Z"⟩
theorem mi_Mod_isAtomAhead : fa_MI y_Mod_isAtomAhead prog_12_method_31_code 2 (Option.some Jvm.ClassFile.FieldType.boolean) 0 := ⟨⟨wd_1615, wd_13, ⟨by decide, by decide, by decide +kernel⟩, by decide⟩, wd_1614, fa_in (List.mem_append_left _ (List.mem_of_getElem? (i := 110) (by decide +kernel))) rfl⟩
def y_Mod_renumbers : MethodName := ⟨"FlowApplyModel", "renumbers", "()V"⟩
theorem mi_Mod_renumbers : fa_MI y_Mod_renumbers prog_12_method_40_code 3 (Option.none : Option Jvm.ClassFile.FieldType) 0 := ⟨⟨wd_1619, wd_13, ⟨by decide, by decide, by decide +kernel⟩, by decide⟩, wd_1618, fa_in (List.mem_append_left _ (List.mem_of_getElem? (i := 111) (by decide +kernel))) rfl⟩
def y_Mod_binderNumbered : MethodName := ⟨"FlowApplyModel", "binderNumbered", "(I)I"⟩
theorem mi_Mod_binderNumbered : fa_MI y_Mod_binderNumbered prog_12_method_38_code 2 (Option.some Jvm.ClassFile.FieldType.int) 1 := ⟨⟨wd_1623, wd_13, ⟨by decide, by decide, by decide +kernel⟩, by decide⟩, wd_1622, fa_in (List.mem_append_left _ (List.mem_of_getElem? (i := 112) (by decide +kernel))) rfl⟩
def y_Mod_numbered : MethodName := ⟨"FlowApplyModel", "numbered", "(I)I"⟩
theorem mi_Mod_numbered : fa_MI y_Mod_numbered prog_12_method_37_code 2 (Option.some Jvm.ClassFile.FieldType.int) 1 := ⟨⟨wd_1627, wd_13, ⟨by decide, by decide, by decide +kernel⟩, by decide⟩, wd_1626, fa_in (List.mem_append_left _ (List.mem_of_getElem? (i := 113) (by decide +kernel))) rfl⟩
def y_Mod_homeNumbered : MethodName := ⟨"FlowApplyModel", "homeNumbered", "(I)I"⟩
theorem mi_Mod_homeNumbered : fa_MI y_Mod_homeNumbered prog_12_method_39_code 2 (Option.some Jvm.ClassFile.FieldType.int) 1 := ⟨⟨wd_1631, wd_13, ⟨by decide, by decide, by decide +kernel⟩, by decide⟩, wd_1630, fa_in (List.mem_append_left _ (List.mem_of_getElem? (i := 114) (by decide +kernel))) rfl⟩
def y_Mod_typesAll : MethodName := ⟨"FlowApplyModel", "typesAll", "()V"⟩
theorem mi_Mod_typesAll : fa_MI y_Mod_typesAll prog_12_method_47_code 3 (Option.none : Option Jvm.ClassFile.FieldType) 0 := ⟨⟨wd_1635, wd_13, ⟨by decide, by decide, by decide +kernel⟩, by decide⟩, wd_1634, fa_in (List.mem_append_left _ (List.mem_of_getElem? (i := 115) (by decide +kernel))) rfl⟩
def y_Mod_type2 : MethodName := ⟨"FlowApplyModel", "type", "(III)I"⟩
theorem mi_Mod_type2 : fa_MI y_Mod_type2 prog_12_method_42_code 4 (Option.some Jvm.ClassFile.FieldType.int) 3 := ⟨⟨wd_1639, wd_13, ⟨by decide, by decide, by decide +kernel⟩, by decide⟩, wd_1638, fa_in (List.mem_append_left _ (List.mem_of_getElem? (i := 116) (by decide +kernel))) rfl⟩
def y_Mod_typesNode : MethodName := ⟨"FlowApplyModel", "typesNode", "(I)V"⟩
theorem mi_Mod_typesNode : fa_MI y_Mod_typesNode prog_12_method_46_code 2 (Option.none : Option Jvm.ClassFile.FieldType) 1 := ⟨⟨wd_1643, wd_13, ⟨by decide, by decide, by decide +kernel⟩, by decide⟩, wd_1642, fa_in (List.mem_append_left _ (List.mem_of_getElem? (i := 117) (by decide +kernel))) rfl⟩
def y_Mod_functions : MethodName := ⟨"FlowApplyModel", "functions", "()I"⟩
theorem mi_Mod_functions : fa_MI y_Mod_functions prog_12_method_41_code 1 (Option.some Jvm.ClassFile.FieldType.int) 0 := ⟨⟨wd_1647, wd_13, ⟨by decide, by decide, by decide +kernel⟩, by decide⟩, wd_1646, fa_in (List.mem_append_left _ (List.mem_of_getElem? (i := 118) (by decide +kernel))) rfl⟩
def y_Mod_functionType : MethodName := ⟨"FlowApplyModel", "functionType", "(I)I"⟩
theorem mi_Mod_functionType : fa_MI y_Mod_functionType prog_12_method_45_code 2 (Option.some Jvm.ClassFile.FieldType.int) 1 := ⟨⟨wd_1651, wd_13, ⟨by decide, by decide, by decide +kernel⟩, by decide⟩, wd_1650, fa_in (List.mem_append_left _ (List.mem_of_getElem? (i := 119) (by decide +kernel))) rfl⟩
def y_Mod_typesOne : MethodName := ⟨"FlowApplyModel", "typesOne", "(II)V"⟩
theorem mi_Mod_typesOne : fa_MI y_Mod_typesOne prog_12_method_48_code 4 (Option.none : Option Jvm.ClassFile.FieldType) 2 := ⟨⟨wd_1655, wd_13, ⟨by decide, by decide, by decide +kernel⟩, by decide⟩, wd_1654, fa_in (List.mem_append_left _ (List.mem_of_getElem? (i := 120) (by decide +kernel))) rfl⟩
def y_Mod_joins : MethodName := ⟨"FlowApplyModel", "joins", "(II)V"⟩
theorem mi_Mod_joins : fa_MI y_Mod_joins prog_12_method_44_code 5 (Option.none : Option Jvm.ClassFile.FieldType) 2 := ⟨⟨wd_1659, wd_13, ⟨by decide, by decide, by decide +kernel⟩, by decide⟩, wd_1658, fa_in (List.mem_append_left _ (List.mem_of_getElem? (i := 121) (by decide +kernel))) rfl⟩
def y_Mod_find : MethodName := ⟨"FlowApplyModel", "find", "(I)I"⟩
theorem mi_Mod_find : fa_MI y_Mod_find prog_12_method_43_code 3 (Option.some Jvm.ClassFile.FieldType.int) 1 := ⟨⟨wd_1663, wd_13, ⟨by decide, by decide, by decide +kernel⟩, by decide⟩, wd_1662, fa_in (List.mem_append_left _ (List.mem_of_getElem? (i := 122) (by decide +kernel))) rfl⟩
def y_Mod_isBounded : MethodName := ⟨"FlowApplyModel", "isBounded", "(I)Z"⟩
theorem mi_Mod_isBounded : fa_MI y_Mod_isBounded prog_12_method_49_code 3 (Option.some Jvm.ClassFile.FieldType.boolean) 1 := ⟨⟨wd_1667, wd_13, ⟨by decide, by decide, by decide +kernel⟩, by decide⟩, wd_1666, fa_in (List.mem_append_left _ (List.mem_of_getElem? (i := 123) (by decide +kernel))) rfl⟩
def y_Mod_analyses : MethodName := ⟨"FlowApplyModel", "analyses", "()V"⟩
theorem mi_Mod_analyses : fa_MI y_Mod_analyses prog_12_method_66_code 2 (Option.none : Option Jvm.ClassFile.FieldType) 0 := ⟨⟨wd_1671, wd_13, ⟨by decide, by decide, by decide +kernel⟩, by decide⟩, wd_1670, fa_in (List.mem_append_left _ (List.mem_of_getElem? (i := 124) (by decide +kernel))) rfl⟩
def y_Mod_comesAll : MethodName := ⟨"FlowApplyModel", "comesAll", "()V"⟩
theorem mi_Mod_comesAll : fa_MI y_Mod_comesAll prog_12_method_54_code 3 (Option.none : Option Jvm.ClassFile.FieldType) 0 := ⟨⟨wd_1675, wd_13, ⟨by decide, by decide, by decide +kernel⟩, by decide⟩, wd_1674, fa_in (List.mem_append_left _ (List.mem_of_getElem? (i := 125) (by decide +kernel))) rfl⟩
def y_Mod_looks : MethodName := ⟨"FlowApplyModel", "looks", "(I)I"⟩
theorem mi_Mod_looks : fa_MI y_Mod_looks prog_12_method_52_code 7 (Option.some Jvm.ClassFile.FieldType.int) 1 := ⟨⟨wd_1679, wd_13, ⟨by decide, by decide, by decide +kernel⟩, by decide⟩, wd_1678, fa_in (List.mem_append_left _ (List.mem_of_getElem? (i := 126) (by decide +kernel))) rfl⟩
def y_Mod_more : MethodName := ⟨"FlowApplyModel", "more", "(II)I"⟩
theorem mi_Mod_more : fa_MI y_Mod_more prog_12_method_51_code 3 (Option.some Jvm.ClassFile.FieldType.int) 2 := ⟨⟨wd_1683, wd_13, ⟨by decide, by decide, by decide +kernel⟩, by decide⟩, wd_1682, fa_in (List.mem_append_left _ (List.mem_of_getElem? (i := 127) (by decide +kernel))) rfl⟩
def y_Mod_bits : MethodName := ⟨"FlowApplyModel", "bits", "(I)I"⟩
theorem mi_Mod_bits : fa_MS y_Mod_bits prog_12_method_5_code 3 (Option.some Jvm.ClassFile.FieldType.int) 1 := ⟨⟨wd_1686, wd_13, ⟨by decide, by decide, by decide +kernel⟩, by decide⟩, wd_1685⟩
def y_Mod_looksAtSite : MethodName := ⟨"FlowApplyModel", "looksAtSite", "(III)I"⟩
theorem mi_Mod_looksAtSite : fa_MI y_Mod_looksAtSite prog_12_method_53_code 6 (Option.some Jvm.ClassFile.FieldType.int) 3 := ⟨⟨wd_1690, wd_13, ⟨by decide, by decide, by decide +kernel⟩, by decide⟩, wd_1689, fa_in (List.mem_append_left _ (List.mem_of_getElem? (i := 128) (by decide +kernel))) rfl⟩
def y_Mod_holds : MethodName := ⟨"FlowApplyModel", "holds", "(II)Z"⟩
theorem mi_Mod_holds : fa_MS y_Mod_holds prog_12_method_4_code 2 (Option.some Jvm.ClassFile.FieldType.boolean) 2 := ⟨⟨wd_1693, wd_13, ⟨by decide, by decide, by decide +kernel⟩, by decide⟩, wd_1692⟩
def y_Mod_collects : MethodName := ⟨"FlowApplyModel", "collects", "(II)V"⟩
theorem mi_Mod_collects : fa_MI y_Mod_collects prog_12_method_56_code 3 (Option.none : Option Jvm.ClassFile.FieldType) 2 := ⟨⟨wd_1697, wd_13, ⟨by decide, by decide, by decide +kernel⟩, by decide⟩, wd_1696, fa_in (List.mem_append_left _ (List.mem_of_getElem? (i := 129) (by decide +kernel))) rfl⟩
def y_Mod_isWithin : MethodName := ⟨"FlowApplyModel", "isWithin", "(II)Z"⟩
theorem mi_Mod_isWithin : fa_MI y_Mod_isWithin prog_12_method_55_code 4 (Option.some Jvm.ClassFile.FieldType.boolean) 2 := ⟨⟨wd_1701, wd_13, ⟨by decide, by decide, by decide +kernel⟩, by decide⟩, wd_1700, fa_in (List.mem_append_left _ (List.mem_of_getElem? (i := 130) (by decide +kernel))) rfl⟩
def y_Mod_addsField : MethodName := ⟨"FlowApplyModel", "addsField", "(II)V"⟩
theorem mi_Mod_addsField : fa_MI y_Mod_addsField prog_12_method_57_code 4 (Option.none : Option Jvm.ClassFile.FieldType) 2 := ⟨⟨wd_1705, wd_13, ⟨by decide, by decide, by decide +kernel⟩, by decide⟩, wd_1704, fa_in (List.mem_append_left _ (List.mem_of_getElem? (i := 131) (by decide +kernel))) rfl⟩
def y_Mod_laysGroups : MethodName := ⟨"FlowApplyModel", "laysGroups", "(I)V"⟩
theorem mi_Mod_laysGroups : fa_MI y_Mod_laysGroups prog_12_method_60_code 7 (Option.none : Option Jvm.ClassFile.FieldType) 1 := ⟨⟨wd_1709, wd_13, ⟨by decide, by decide, by decide +kernel⟩, by decide⟩, wd_1708, fa_in (List.mem_append_left _ (List.mem_of_getElem? (i := 132) (by decide +kernel))) rfl⟩
def y_Mod_groupAt : MethodName := ⟨"FlowApplyModel", "groupAt", "(II)I"⟩
theorem mi_Mod_groupAt : fa_MI y_Mod_groupAt prog_12_method_58_code 3 (Option.some Jvm.ClassFile.FieldType.int) 2 := ⟨⟨wd_1713, wd_13, ⟨by decide, by decide, by decide +kernel⟩, by decide⟩, wd_1712, fa_in (List.mem_append_left _ (List.mem_of_getElem? (i := 133) (by decide +kernel))) rfl⟩
def y_Mod_goTogether : MethodName := ⟨"FlowApplyModel", "goTogether", "(III)Z"⟩
theorem mi_Mod_goTogether : fa_MI y_Mod_goTogether prog_12_method_59_code 5 (Option.some Jvm.ClassFile.FieldType.boolean) 3 := ⟨⟨wd_1717, wd_13, ⟨by decide, by decide, by decide +kernel⟩, by decide⟩, wd_1716, fa_in (List.mem_append_left _ (List.mem_of_getElem? (i := 134) (by decide +kernel))) rfl⟩
def y_Mod_areOne : MethodName := ⟨"FlowApplyModel", "areOne", "(II)Z"⟩
theorem mi_Mod_areOne : fa_MI y_Mod_areOne prog_12_method_50_code 5 (Option.some Jvm.ClassFile.FieldType.boolean) 2 := ⟨⟨wd_1721, wd_13, ⟨by decide, by decide, by decide +kernel⟩, by decide⟩, wd_1720, fa_in (List.mem_append_left _ (List.mem_of_getElem? (i := 135) (by decide +kernel))) rfl⟩
def y_Mod_laysRings : MethodName := ⟨"FlowApplyModel", "laysRings", "()V"⟩
theorem mi_Mod_laysRings : fa_MI y_Mod_laysRings prog_12_method_62_code 3 (Option.none : Option Jvm.ClassFile.FieldType) 0 := ⟨⟨wd_1725, wd_13, ⟨by decide, by decide, by decide +kernel⟩, by decide⟩, wd_1724, fa_in (List.mem_append_left _ (List.mem_of_getElem? (i := 136) (by decide +kernel))) rfl⟩
def y_Mod_compilesAll : MethodName := ⟨"FlowApplyModel", "compilesAll", "()V"⟩
theorem mi_Mod_compilesAll : fa_MI y_Mod_compilesAll prog_12_method_65_code 3 (Option.none : Option Jvm.ClassFile.FieldType) 0 := ⟨⟨wd_1729, wd_13, ⟨by decide, by decide, by decide +kernel⟩, by decide⟩, wd_1728, fa_in (List.mem_append_left _ (List.mem_of_getElem? (i := 137) (by decide +kernel))) rfl⟩
def y_Mod_compiles : MethodName := ⟨"FlowApplyModel", "compiles", "(I)V"⟩
theorem mi_Mod_compiles : fa_MI y_Mod_compiles prog_12_method_64_code 4 (Option.none : Option Jvm.ClassFile.FieldType) 1 := ⟨⟨wd_1733, wd_13, ⟨by decide, by decide, by decide +kernel⟩, by decide⟩, wd_1732, fa_in (List.mem_append_left _ (List.mem_of_getElem? (i := 138) (by decide +kernel))) rfl⟩
def y_Mod_lays : MethodName := ⟨"FlowApplyModel", "lays", "(II)I"⟩
theorem mi_Mod_lays : fa_MI y_Mod_lays prog_12_method_63_code 3 (Option.some Jvm.ClassFile.FieldType.int) 2 := ⟨⟨wd_1737, wd_13, ⟨by decide, by decide, by decide +kernel⟩, by decide⟩, wd_1736, fa_in (List.mem_append_left _ (List.mem_of_getElem? (i := 139) (by decide +kernel))) rfl⟩
def y_Mod_keeps : MethodName := ⟨"FlowApplyModel", "keeps", "()V"⟩
theorem mi_Mod_keeps : fa_MI y_Mod_keeps prog_12_method_69_code 2 (Option.none : Option Jvm.ClassFile.FieldType) 0 := ⟨⟨wd_1741, wd_13, ⟨by decide, by decide, by decide +kernel⟩, by decide⟩, wd_1740, fa_in (List.mem_append_left _ (List.mem_of_getElem? (i := 140) (by decide +kernel))) rfl⟩
def y_Mod_read : MethodName := ⟨"FlowApplyModel", "read", "()I"⟩
theorem mi_Mod_read : fa_MI y_Mod_read prog_12_method_71_code 2 (Option.some Jvm.ClassFile.FieldType.int) 0 := ⟨⟨wd_2028, wd_13, ⟨by decide, by decide, by decide +kernel⟩, by decide⟩, wd_2026, wd_2027⟩
def y_Mod_goesBack : MethodName := ⟨"FlowApplyModel", "goesBack", "()V"⟩
theorem mi_Mod_goesBack : fa_MI y_Mod_goesBack prog_12_method_70_code 2 (Option.none : Option Jvm.ClassFile.FieldType) 0 := ⟨⟨wd_2032, wd_13, ⟨by decide, by decide, by decide +kernel⟩, by decide⟩, wd_2031, fa_in (List.mem_append_left _ (List.mem_of_getElem? (i := 141) (by decide +kernel))) rfl⟩
def y_Mod_fault : MethodName := ⟨"FlowApplyModel", "fault", "()I"⟩
theorem mi_Mod_fault : fa_MI y_Mod_fault prog_12_method_72_code 1 (Option.some Jvm.ClassFile.FieldType.int) 0 := ⟨⟨wd_2036, wd_13, ⟨by decide, by decide, by decide +kernel⟩, by decide⟩, wd_2034, wd_2035⟩
def y_Mod_take : MethodName := ⟨"FlowApplyModel", "take", "()I"⟩
theorem mi_Mod_take : fa_MI y_Mod_take prog_12_method_73_code 2 (Option.some Jvm.ClassFile.FieldType.int) 0 := ⟨⟨wd_2040, wd_13, ⟨by decide, by decide, by decide +kernel⟩, by decide⟩, wd_2038, wd_2039⟩
def y_Mod_writesBack : MethodName := ⟨"FlowApplyModel", "writesBack", "()V"⟩
theorem mi_Mod_writesBack : fa_MI y_Mod_writesBack prog_12_method_84_code 1 (Option.none : Option Jvm.ClassFile.FieldType) 0 := ⟨⟨wd_2044, wd_13, ⟨by decide, by decide, by decide +kernel⟩, by decide⟩, wd_2043, fa_in (List.mem_append_left _ (List.mem_of_getElem? (i := 142) (by decide +kernel))) rfl⟩
def y_Mod_writesProgram : MethodName := ⟨"FlowApplyModel", "writesProgram", "(I)V"⟩
theorem mi_Mod_writesProgram : fa_MI y_Mod_writesProgram prog_12_method_83_code 3 (Option.none : Option Jvm.ClassFile.FieldType) 1 := ⟨⟨wd_2048, wd_13, ⟨by decide, by decide, by decide +kernel⟩, by decide⟩, wd_2047, fa_in (List.mem_append_left _ (List.mem_of_getElem? (i := 143) (by decide +kernel))) rfl⟩
def y_Mod_saysWord : MethodName := ⟨"FlowApplyModel", "saysWord", "(I)V"⟩
theorem mi_Mod_saysWord : fa_MI y_Mod_saysWord prog_12_method_75_code 2 (Option.none : Option Jvm.ClassFile.FieldType) 1 := ⟨⟨wd_2052, wd_13, ⟨by decide, by decide, by decide +kernel⟩, by decide⟩, wd_2051, fa_in (List.mem_append_left _ (List.mem_of_getElem? (i := 144) (by decide +kernel))) rfl⟩
def y_Mod_says : MethodName := ⟨"FlowApplyModel", "says", "(I)V"⟩
theorem mi_Mod_says : fa_MI y_Mod_says prog_12_method_74_code 2 (Option.none : Option Jvm.ClassFile.FieldType) 1 := ⟨⟨wd_2056, wd_13, ⟨by decide, by decide, by decide +kernel⟩, by decide⟩, wd_2055, fa_in (List.mem_append_left _ (List.mem_of_getElem? (i := 145) (by decide +kernel))) rfl⟩
def y_Mod_writesBody : MethodName := ⟨"FlowApplyModel", "writesBody", "(II)V"⟩
theorem mi_Mod_writesBody : fa_MI y_Mod_writesBody prog_12_method_79_code 3 (Option.none : Option Jvm.ClassFile.FieldType) 2 := ⟨⟨wd_2060, wd_13, ⟨by decide, by decide, by decide +kernel⟩, by decide⟩, wd_2059, fa_in (List.mem_append_left _ (List.mem_of_getElem? (i := 146) (by decide +kernel))) rfl⟩
def y_Mod_writes : MethodName := ⟨"FlowApplyModel", "writes", "(II)V"⟩
theorem mi_Mod_writes : fa_MI y_Mod_writes prog_12_method_77_code 3 (Option.none : Option Jvm.ClassFile.FieldType) 2 := ⟨⟨wd_2064, wd_13, ⟨by decide, by decide, by decide +kernel⟩, by decide⟩, wd_2063, fa_in (List.mem_append_left _ (List.mem_of_getElem? (i := 147) (by decide +kernel))) rfl⟩
def y_Mod_saysNumber : MethodName := ⟨"FlowApplyModel", "saysNumber", "(I)V"⟩
theorem mi_Mod_saysNumber : fa_MI y_Mod_saysNumber prog_12_method_76_code 2 (Option.none : Option Jvm.ClassFile.FieldType) 1 := ⟨⟨wd_2068, wd_13, ⟨by decide, by decide, by decide +kernel⟩, by decide⟩, wd_2067, fa_in (List.mem_append_left _ (List.mem_of_getElem? (i := 148) (by decide +kernel))) rfl⟩
def y_Mod_writesData : MethodName := ⟨"FlowApplyModel", "writesData", "(I)V"⟩
theorem mi_Mod_writesData : fa_MI y_Mod_writesData prog_12_method_81_code 3 (Option.none : Option Jvm.ClassFile.FieldType) 1 := ⟨⟨wd_2072, wd_13, ⟨by decide, by decide, by decide +kernel⟩, by decide⟩, wd_2071, fa_in (List.mem_append_left _ (List.mem_of_getElem? (i := 149) (by decide +kernel))) rfl⟩
def y_Mod_writesLambda : MethodName := ⟨"FlowApplyModel", "writesLambda", "(II)V"⟩
theorem mi_Mod_writesLambda : fa_MI y_Mod_writesLambda prog_12_method_80_code 3 (Option.none : Option Jvm.ClassFile.FieldType) 2 := ⟨⟨wd_2076, wd_13, ⟨by decide, by decide, by decide +kernel⟩, by decide⟩, wd_2075, fa_in (List.mem_append_left _ (List.mem_of_getElem? (i := 150) (by decide +kernel))) rfl⟩
def y_Mod_writesTwo : MethodName := ⟨"FlowApplyModel", "writesTwo", "(III)V"⟩
theorem mi_Mod_writesTwo : fa_MI y_Mod_writesTwo prog_12_method_78_code 4 (Option.none : Option Jvm.ClassFile.FieldType) 3 := ⟨⟨wd_2080, wd_13, ⟨by decide, by decide, by decide +kernel⟩, by decide⟩, wd_2079, fa_in (List.mem_append_left _ (List.mem_of_getElem? (i := 151) (by decide +kernel))) rfl⟩
def y_Mod_writesApply : MethodName := ⟨"FlowApplyModel", "writesApply", "(II)V"⟩
theorem mi_Mod_writesApply : fa_MI y_Mod_writesApply prog_12_method_82_code 6 (Option.none : Option Jvm.ClassFile.FieldType) 2 := ⟨⟨wd_2084, wd_13, ⟨by decide, by decide, by decide +kernel⟩, by decide⟩, wd_2083, fa_in (List.mem_append_left _ (List.mem_of_getElem? (i := 152) (by decide +kernel))) rfl⟩
def y_Mod_type1 : MethodName := ⟨"FlowApplyModel", "type", "(I)I"⟩
theorem mi_Mod_type1 : fa_MI y_Mod_type1 prog_12_method_89_code 2 (Option.some Jvm.ClassFile.FieldType.int) 1 := ⟨⟨wd_2088, wd_13, ⟨by decide, by decide, by decide +kernel⟩, by decide⟩, wd_2086, wd_2087⟩
def y_Mod_noFunction : MethodName := ⟨"FlowApplyModel", "noFunction", "(I)Z"⟩
theorem mi_Mod_noFunction : fa_MI y_Mod_noFunction prog_12_method_88_code 2 (Option.some Jvm.ClassFile.FieldType.boolean) 1 := ⟨⟨wd_2092, wd_13, ⟨by decide, by decide, by decide +kernel⟩, by decide⟩, wd_2091, fa_in (List.mem_append_left _ (List.mem_of_getElem? (i := 153) (by decide +kernel))) rfl⟩
def y_Mod_in : MethodName := ⟨"FlowApplyModel", "in", "(III)Z"⟩
theorem mi_Mod_in : fa_MS y_Mod_in prog_12_method_3_code 3 (Option.some Jvm.ClassFile.FieldType.boolean) 3 := ⟨⟨wd_2095, wd_13, ⟨by decide, by decide, by decide +kernel⟩, by decide⟩, wd_2094⟩
def y_Mod_throwsIf : MethodName := ⟨"FlowApplyModel", "throwsIf", "(ZI)Z"⟩
theorem mi_Mod_throwsIf : fa_MI y_Mod_throwsIf prog_12_method_2_code 3 (Option.some Jvm.ClassFile.FieldType.boolean) 2 := ⟨⟨wd_2099, wd_13, ⟨by decide, by decide, by decide +kernel⟩, by decide⟩, wd_2098, fa_in (List.mem_append_left _ (List.mem_of_getElem? (i := 154) (by decide +kernel))) rfl⟩
def y_Mod_showsType : MethodName := ⟨"FlowApplyModel", "showsType", "(I)I"⟩
theorem mi_Mod_showsType : fa_MI y_Mod_showsType prog_12_method_87_code 2 (Option.some Jvm.ClassFile.FieldType.int) 1 := ⟨⟨wd_2103, wd_13, ⟨by decide, by decide, by decide +kernel⟩, by decide⟩, wd_2102, fa_in (List.mem_append_left _ (List.mem_of_getElem? (i := 155) (by decide +kernel))) rfl⟩
def y_Mod_writesType : MethodName := ⟨"FlowApplyModel", "writesType", "(I)V"⟩
theorem mi_Mod_writesType : fa_MI y_Mod_writesType prog_12_method_86_code 4 (Option.none : Option Jvm.ClassFile.FieldType) 1 := ⟨⟨wd_2107, wd_13, ⟨by decide, by decide, by decide +kernel⟩, by decide⟩, wd_2106, fa_in (List.mem_append_left _ (List.mem_of_getElem? (i := 156) (by decide +kernel))) rfl⟩
def y_Mod_typeOfMain : MethodName := ⟨"FlowApplyModel", "typeOfMain", "()I"⟩
theorem mi_Mod_typeOfMain : fa_MI y_Mod_typeOfMain prog_12_method_90_code 1 (Option.some Jvm.ClassFile.FieldType.int) 0 := ⟨⟨wd_2111, wd_13, ⟨by decide, by decide, by decide +kernel⟩, by decide⟩, wd_2109, wd_2110⟩
def y_Mod_alike : MethodName := ⟨"FlowApplyModel", "alike", "(II)Z"⟩
theorem mi_Mod_alike : fa_MI y_Mod_alike prog_12_method_91_code 3 (Option.some Jvm.ClassFile.FieldType.boolean) 2 := ⟨⟨wd_2115, wd_13, ⟨by decide, by decide, by decide +kernel⟩, by decide⟩, wd_2113, wd_2114⟩
def y_Mod_field : MethodName := ⟨"FlowApplyModel", "field", "(II)I"⟩
theorem mi_Mod_field : fa_MI y_Mod_field prog_12_method_92_code 3 (Option.some Jvm.ClassFile.FieldType.int) 2 := ⟨⟨wd_2119, wd_13, ⟨by decide, by decide, by decide +kernel⟩, by decide⟩, wd_2117, wd_2118⟩
def y_Mod_form : MethodName := ⟨"FlowApplyModel", "form", "(I)I"⟩
theorem mi_Mod_form : fa_MI y_Mod_form prog_12_method_94_code 2 (Option.some Jvm.ClassFile.FieldType.int) 1 := ⟨⟨wd_2123, wd_13, ⟨by decide, by decide, by decide +kernel⟩, by decide⟩, wd_2121, wd_2122⟩
def y_Mod_noSplit : MethodName := ⟨"FlowApplyModel", "noSplit", "(II)Z"⟩
theorem mi_Mod_noSplit : fa_MI y_Mod_noSplit prog_12_method_93_code 3 (Option.some Jvm.ClassFile.FieldType.boolean) 2 := ⟨⟨wd_2127, wd_13, ⟨by decide, by decide, by decide +kernel⟩, by decide⟩, wd_2126, fa_in (List.mem_append_left _ (List.mem_of_getElem? (i := 157) (by decide +kernel))) rfl⟩
def y_Mod_writesForm : MethodName := ⟨"FlowApplyModel", "writesForm", "(I)V"⟩
theorem mi_Mod_writesForm : fa_MI y_Mod_writesForm prog_12_method_85_code 6 (Option.none : Option Jvm.ClassFile.FieldType) 1 := ⟨⟨wd_2131, wd_13, ⟨by decide, by decide, by decide +kernel⟩, by decide⟩, wd_2130, fa_in (List.mem_append_left _ (List.mem_of_getElem? (i := 158) (by decide +kernel))) rfl⟩
def y_Mod_groupSet : MethodName := ⟨"FlowApplyModel", "groupSet", "(II)I"⟩
theorem mi_Mod_groupSet : fa_MI y_Mod_groupSet prog_12_method_61_code 5 (Option.some Jvm.ClassFile.FieldType.int) 2 := ⟨⟨wd_2135, wd_13, ⟨by decide, by decide, by decide +kernel⟩, by decide⟩, wd_2134, fa_in (List.mem_append_left _ (List.mem_of_getElem? (i := 159) (by decide +kernel))) rfl⟩
def y_Mod_back : MethodName := ⟨"FlowApplyModel", "back", "()I"⟩
theorem mi_Mod_back : fa_MI y_Mod_back prog_12_method_95_code 1 (Option.some Jvm.ClassFile.FieldType.int) 0 := ⟨⟨wd_2139, wd_13, ⟨by decide, by decide, by decide +kernel⟩, by decide⟩, wd_2137, wd_2138⟩
def y_Mod_show : MethodName := ⟨"FlowApplyModel", "show", "()I"⟩
theorem mi_Mod_show : fa_MI y_Mod_show prog_12_method_96_code 1 (Option.some Jvm.ClassFile.FieldType.int) 0 := ⟨⟨wd_2143, wd_13, ⟨by decide, by decide, by decide +kernel⟩, by decide⟩, wd_2141, wd_2142⟩
def y_Mod_octet : MethodName := ⟨"FlowApplyModel", "octet", "(I)I"⟩
theorem mi_Mod_octet : fa_MI y_Mod_octet prog_12_method_97_code 2 (Option.some Jvm.ClassFile.FieldType.int) 1 := ⟨⟨wd_2147, wd_13, ⟨by decide, by decide, by decide +kernel⟩, by decide⟩, wd_2145, wd_2146⟩
def y_Mod_run : MethodName := ⟨"FlowApplyModel", "run", "(II)I"⟩
theorem mi_Mod_run : fa_MI y_Mod_run prog_12_method_105_code 3 (Option.some Jvm.ClassFile.FieldType.int) 2 := ⟨⟨wd_2151, wd_13, ⟨by decide, by decide, by decide +kernel⟩, by decide⟩, wd_2149, wd_2150⟩
def y_Mod_noHow : MethodName := ⟨"FlowApplyModel", "noHow", "(I)Z"⟩
theorem mi_Mod_noHow : fa_MI y_Mod_noHow prog_12_method_104_code 2 (Option.some Jvm.ClassFile.FieldType.boolean) 1 := ⟨⟨wd_2155, wd_13, ⟨by decide, by decide, by decide +kernel⟩, by decide⟩, wd_2154, fa_in (List.mem_append_left _ (List.mem_of_getElem? (i := 160) (by decide +kernel))) rfl⟩
def y_Mod_runs : MethodName := ⟨"FlowApplyModel", "runs", "(I)V"⟩
theorem mi_Mod_runs : fa_MI y_Mod_runs prog_12_method_102_code 9 (Option.none : Option Jvm.ClassFile.FieldType) 1 := ⟨⟨wd_2159, wd_13, ⟨by decide, by decide, by decide +kernel⟩, by decide⟩, wd_2158, fa_in (List.mem_append_left _ (List.mem_of_getElem? (i := 161) (by decide +kernel))) rfl⟩
def y_Mod_frame : MethodName := ⟨"FlowApplyModel", "frame", "(II)I"⟩
theorem mi_Mod_frame : fa_MI y_Mod_frame prog_12_method_101_code 3 (Option.some Jvm.ClassFile.FieldType.int) 2 := ⟨⟨wd_2163, wd_13, ⟨by decide, by decide, by decide +kernel⟩, by decide⟩, wd_2162, fa_in (List.mem_append_left _ (List.mem_of_getElem? (i := 162) (by decide +kernel))) rfl⟩
def y_Mod_puts : MethodName := ⟨"FlowApplyModel", "puts", "(III)V"⟩
theorem mi_Mod_puts : fa_MI y_Mod_puts prog_12_method_98_code 4 (Option.none : Option Jvm.ClassFile.FieldType) 3 := ⟨⟨wd_2167, wd_13, ⟨by decide, by decide, by decide +kernel⟩, by decide⟩, wd_2166, fa_in (List.mem_append_left _ (List.mem_of_getElem? (i := 163) (by decide +kernel))) rfl⟩
def y_Mod_frameOfBinder : MethodName := ⟨"FlowApplyModel", "frameOfBinder", "(II)I"⟩
theorem mi_Mod_frameOfBinder : fa_MI y_Mod_frameOfBinder prog_12_method_99_code 4 (Option.some Jvm.ClassFile.FieldType.int) 2 := ⟨⟨wd_2171, wd_13, ⟨by decide, by decide, by decide +kernel⟩, by decide⟩, wd_2170, fa_in (List.mem_append_left _ (List.mem_of_getElem? (i := 164) (by decide +kernel))) rfl⟩
def y_Mod_holdsIn : MethodName := ⟨"FlowApplyModel", "holdsIn", "(II)V"⟩
theorem mi_Mod_holdsIn : fa_MI y_Mod_holdsIn prog_12_method_100_code 3 (Option.none : Option Jvm.ClassFile.FieldType) 2 := ⟨⟨wd_2175, wd_13, ⟨by decide, by decide, by decide +kernel⟩, by decide⟩, wd_2174, fa_in (List.mem_append_left _ (List.mem_of_getElem? (i := 165) (by decide +kernel))) rfl⟩
def y_Mod_reckons : MethodName := ⟨"FlowApplyModel", "reckons", "(I)V"⟩
theorem mi_Mod_reckons : fa_MI y_Mod_reckons prog_12_method_103_code 4 (Option.none : Option Jvm.ClassFile.FieldType) 1 := ⟨⟨wd_2179, wd_13, ⟨by decide, by decide, by decide +kernel⟩, by decide⟩, wd_2178, fa_in (List.mem_append_left _ (List.mem_of_getElem? (i := 166) (by decide +kernel))) rfl⟩
def y_Mod_blame : MethodName := ⟨"FlowApplyModel", "blame", "(II)I"⟩
theorem mi_Mod_blame : fa_MI y_Mod_blame prog_12_method_106_code 3 (Option.some Jvm.ClassFile.FieldType.int) 2 := ⟨⟨wd_2183, wd_13, ⟨by decide, by decide, by decide +kernel⟩, by decide⟩, wd_2181, wd_2182⟩
def y_Mod_function : MethodName := ⟨"FlowApplyModel", "function", "(II)I"⟩
theorem mi_Mod_function : fa_MI y_Mod_function prog_12_method_108_code 4 (Option.some Jvm.ClassFile.FieldType.int) 2 := ⟨⟨wd_2187, wd_13, ⟨by decide, by decide, by decide +kernel⟩, by decide⟩, wd_2185, wd_2186⟩
def y_Mod_sitesBy : MethodName := ⟨"FlowApplyModel", "sitesBy", "(I)I"⟩
theorem mi_Mod_sitesBy : fa_MI y_Mod_sitesBy prog_12_method_107_code 4 (Option.some Jvm.ClassFile.FieldType.int) 1 := ⟨⟨wd_2191, wd_13, ⟨by decide, by decide, by decide +kernel⟩, by decide⟩, wd_2190, fa_in (List.mem_append_left _ (List.mem_of_getElem? (i := 167) (by decide +kernel))) rfl⟩
def y_Mod_site : MethodName := ⟨"FlowApplyModel", "site", "(II)I"⟩
theorem mi_Mod_site : fa_MI y_Mod_site prog_12_method_109_code 3 (Option.some Jvm.ClassFile.FieldType.int) 2 := ⟨⟨wd_2195, wd_13, ⟨by decide, by decide, by decide +kernel⟩, by decide⟩, wd_2193, wd_2194⟩
def y_Mod_siteGroup : MethodName := ⟨"FlowApplyModel", "siteGroup", "(I)I"⟩
theorem mi_Mod_siteGroup : fa_MI y_Mod_siteGroup prog_12_method_110_code 3 (Option.some Jvm.ClassFile.FieldType.int) 1 := ⟨⟨wd_2199, wd_13, ⟨by decide, by decide, by decide +kernel⟩, by decide⟩, wd_2198, fa_in (List.mem_append_left _ (List.mem_of_getElem? (i := 168) (by decide +kernel))) rfl⟩
def y_Mod_split : MethodName := ⟨"FlowApplyModel", "split", "(II)I"⟩
theorem mi_Mod_split : fa_MI y_Mod_split prog_12_method_111_code 8 (Option.some Jvm.ClassFile.FieldType.int) 2 := ⟨⟨wd_2203, wd_13, ⟨by decide, by decide, by decide +kernel⟩, by decide⟩, wd_2201, wd_2202⟩
def y_Mod_group : MethodName := ⟨"FlowApplyModel", "group", "(IIZ)I"⟩
theorem mi_Mod_group : fa_MI y_Mod_group prog_12_method_112_code 4 (Option.some Jvm.ClassFile.FieldType.int) 3 := ⟨⟨wd_2207, wd_13, ⟨by decide, by decide, by decide +kernel⟩, by decide⟩, wd_2205, wd_2206⟩
def y_Mod_ring : MethodName := ⟨"FlowApplyModel", "ring", "(I)I"⟩
theorem mi_Mod_ring : fa_MI y_Mod_ring prog_12_method_113_code 2 (Option.some Jvm.ClassFile.FieldType.int) 1 := ⟨⟨wd_2211, wd_13, ⟨by decide, by decide, by decide +kernel⟩, by decide⟩, wd_2209, wd_2210⟩
def y_Mod_far : MethodName := ⟨"FlowApplyModel", "far", "(II)I"⟩
theorem mi_Mod_far : fa_MI y_Mod_far prog_12_method_114_code 7 (Option.some Jvm.ClassFile.FieldType.int) 2 := ⟨⟨wd_2215, wd_13, ⟨by decide, by decide, by decide +kernel⟩, by decide⟩, wd_2213, wd_2214⟩
def y_Mod_count : MethodName := ⟨"FlowApplyModel", "count", "(I)I"⟩
theorem mi_Mod_count : fa_MI y_Mod_count prog_12_method_119_code 2 (Option.some Jvm.ClassFile.FieldType.int) 1 := ⟨⟨wd_2219, wd_13, ⟨by decide, by decide, by decide +kernel⟩, by decide⟩, wd_2217, wd_2218⟩
def y_Mod_looked : MethodName := ⟨"FlowApplyModel", "looked", "(Z)I"⟩
theorem mi_Mod_looked : fa_MI y_Mod_looked prog_12_method_115_code 4 (Option.some Jvm.ClassFile.FieldType.int) 1 := ⟨⟨wd_2223, wd_13, ⟨by decide, by decide, by decide +kernel⟩, by decide⟩, wd_2222, fa_in (List.mem_append_left _ (List.mem_of_getElem? (i := 169) (by decide +kernel))) rfl⟩
def y_Mod_fieldsOfMade : MethodName := ⟨"FlowApplyModel", "fieldsOfMade", "()I"⟩
theorem mi_Mod_fieldsOfMade : fa_MI y_Mod_fieldsOfMade prog_12_method_116_code 3 (Option.some Jvm.ClassFile.FieldType.int) 0 := ⟨⟨wd_2227, wd_13, ⟨by decide, by decide, by decide +kernel⟩, by decide⟩, wd_2226, fa_in (List.mem_append_left _ (List.mem_of_getElem? (i := 170) (by decide +kernel))) rfl⟩
def y_Mod_thingsOfBack : MethodName := ⟨"FlowApplyModel", "thingsOfBack", "()I"⟩
theorem mi_Mod_thingsOfBack : fa_MI y_Mod_thingsOfBack prog_12_method_118_code 3 (Option.some Jvm.ClassFile.FieldType.int) 0 := ⟨⟨wd_2231, wd_13, ⟨by decide, by decide, by decide +kernel⟩, by decide⟩, wd_2230, fa_in (List.mem_append_left _ (List.mem_of_getElem? (i := 171) (by decide +kernel))) rfl⟩
def y_Mod_thingsOf : MethodName := ⟨"FlowApplyModel", "thingsOf", "(I)I"⟩
theorem mi_Mod_thingsOf : fa_MI y_Mod_thingsOf prog_12_method_117_code 2 (Option.some Jvm.ClassFile.FieldType.int) 1 := ⟨⟨wd_2235, wd_13, ⟨by decide, by decide, by decide +kernel⟩, by decide⟩, wd_2234, fa_in (List.mem_append_left _ (List.mem_of_getElem? (i := 172) (by decide +kernel))) rfl⟩
