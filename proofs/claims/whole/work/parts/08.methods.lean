def y_Face_init : MethodName := ⟨"FlowApply", "<init>", "()V"⟩
theorem mi_Face_init : fa_MN y_Face_init prog_1_method_1_code 1 0 := ⟨⟨wd_30, wd_1, ⟨by decide, by decide, by decide +kernel⟩, by decide⟩, wd_29, rfl⟩
def y_Row_init : MethodName := ⟨"FlowApply$Row", "<init>", "(I)V"⟩
theorem mi_Row_init : fa_MN y_Row_init prog_7_method_1_code 2 1 := ⟨⟨wd_38, wd_2, ⟨by decide, by decide, by decide +kernel⟩, by decide⟩, wd_37, rfl⟩
def y_Math_max : MethodName := ⟨"java/lang/Math", "max", "(II)I"⟩
theorem mi_Math_max : fa_MS y_Math_max prog_21_method_65_code 2 (Option.some Jvm.ClassFile.FieldType.int) 2 := ⟨⟨wd_42, wd_3, ⟨by decide, by decide, by decide +kernel⟩, by decide⟩, wd_41⟩
def y_Reader_init : MethodName := ⟨"FlowApply$Reader", "<init>", "(LFlowApply$Row;)V"⟩
theorem mi_Reader_init : fa_MN y_Reader_init prog_6_method_1_code 2 1 := ⟨⟨wd_55, wd_4, ⟨by decide, by decide, by decide +kernel⟩, by decide⟩, wd_54, rfl⟩
def y_Program_init : MethodName := ⟨"FlowApply$Program", "<init>", "()V"⟩
theorem mi_Program_init : fa_MN y_Program_init prog_5_method_1_code 1 0 := ⟨⟨wd_61, wd_5, ⟨by decide, by decide, by decide +kernel⟩, by decide⟩, wd_60, rfl⟩
def y_Writer_init : MethodName := ⟨"FlowApply$Writer", "<init>", "(LFlowApply$Row;)V"⟩
theorem mi_Writer_init : fa_MN y_Writer_init prog_10_method_1_code 2 1 := ⟨⟨wd_195, wd_6, ⟨by decide, by decide, by decide +kernel⟩, by decide⟩, wd_194, rfl⟩
def y_Machine_init : MethodName := ⟨"FlowApply$Machine", "<init>", "()V"⟩
theorem mi_Machine_init : fa_MN y_Machine_init prog_4_method_1_code 1 0 := ⟨⟨wd_219, wd_7, ⟨by decide, by decide, by decide +kernel⟩, by decide⟩, wd_218, rfl⟩
def y_Row_refill : MethodName := ⟨"FlowApply$Row", "refill", "(II)V"⟩
theorem mi_Row_refill : fa_MI y_Row_refill prog_7_method_11_code 4 (Option.none : Option Jvm.ClassFile.FieldType) 2 := ⟨⟨wd_226, wd_2, ⟨by decide, by decide, by decide +kernel⟩, by decide⟩, wd_224, wd_225⟩
def y_Row_clear : MethodName := ⟨"FlowApply$Row", "clear", "()V"⟩
theorem mi_Row_clear : fa_MI y_Row_clear prog_7_method_10_code 1 (Option.none : Option Jvm.ClassFile.FieldType) 0 := ⟨⟨wd_230, wd_2, ⟨by decide, by decide, by decide +kernel⟩, by decide⟩, wd_228, wd_229⟩
def y_Row_add : MethodName := ⟨"FlowApply$Row", "add", "(I)V"⟩
theorem mi_Row_add : fa_MI y_Row_add prog_7_method_5_code 2 (Option.none : Option Jvm.ClassFile.FieldType) 1 := ⟨⟨wd_234, wd_2, ⟨by decide, by decide, by decide +kernel⟩, by decide⟩, wd_232, wd_233⟩
def y_Scene_init : MethodName := ⟨"FlowApply$Scene", "<init>", "()V"⟩
theorem mi_Scene_init : fa_MN y_Scene_init prog_8_method_1_code 1 0 := ⟨⟨wd_281, wd_8, ⟨by decide, by decide, by decide +kernel⟩, by decide⟩, wd_280, rfl⟩
def y_Typing_init : MethodName := ⟨"FlowApply$Typing", "<init>", "()V"⟩
theorem mi_Typing_init : fa_MN y_Typing_init prog_9_method_1_code 1 0 := ⟨⟨wd_289, wd_9, ⟨by decide, by decide, by decide +kernel⟩, by decide⟩, wd_288, rfl⟩
def y_Flow_init : MethodName := ⟨"FlowApply$Flow", "<init>", "()V"⟩
theorem mi_Flow_init : fa_MN y_Flow_init prog_2_method_1_code 1 0 := ⟨⟨wd_328, wd_10, ⟨by decide, by decide, by decide +kernel⟩, by decide⟩, wd_327, rfl⟩
def y_Groups_init : MethodName := ⟨"FlowApply$Groups", "<init>", "()V"⟩
theorem mi_Groups_init : fa_MN y_Groups_init prog_3_method_1_code 1 0 := ⟨⟨wd_371, wd_11, ⟨by decide, by decide, by decide +kernel⟩, by decide⟩, wd_370, rfl⟩
def y_Program_makeDead : MethodName := ⟨"FlowApply$Program", "makeDead", "()V"⟩
theorem mi_Program_makeDead : fa_MI y_Program_makeDead prog_5_method_3_code 1 (Option.none : Option Jvm.ClassFile.FieldType) 0 := ⟨⟨wd_412, wd_5, ⟨by decide, by decide, by decide +kernel⟩, by decide⟩, wd_410, wd_411⟩
def y_Program_clear : MethodName := ⟨"FlowApply$Program", "clear", "()V"⟩
theorem mi_Program_clear : fa_MI y_Program_clear prog_5_method_2_code 1 (Option.none : Option Jvm.ClassFile.FieldType) 0 := ⟨⟨wd_416, wd_5, ⟨by decide, by decide, by decide +kernel⟩, by decide⟩, wd_414, wd_415⟩
def y_Program_add : MethodName := ⟨"FlowApply$Program", "add", "(IIIIII)I"⟩
theorem mi_Program_add : fa_MI y_Program_add prog_5_method_10_code 8 (Option.some Jvm.ClassFile.FieldType.int) 6 := ⟨⟨wd_422, wd_5, ⟨by decide, by decide, by decide +kernel⟩, by decide⟩, wd_420, wd_421⟩
def y_Row_size : MethodName := ⟨"FlowApply$Row", "size", "()I"⟩
theorem mi_Row_size : fa_MI y_Row_size prog_7_method_2_code 1 (Option.some Jvm.ClassFile.FieldType.int) 0 := ⟨⟨wd_426, wd_2, ⟨by decide, by decide, by decide +kernel⟩, by decide⟩, wd_424, wd_425⟩
def y_Row_at : MethodName := ⟨"FlowApply$Row", "at", "(I)I"⟩
theorem mi_Row_at : fa_MI y_Row_at prog_7_method_3_code 2 (Option.some Jvm.ClassFile.FieldType.int) 1 := ⟨⟨wd_431, wd_2, ⟨by decide, by decide, by decide +kernel⟩, by decide⟩, wd_429, wd_430⟩
def y_Row_set : MethodName := ⟨"FlowApply$Row", "set", "(II)V"⟩
theorem mi_Row_set : fa_MI y_Row_set prog_7_method_6_code 3 (Option.none : Option Jvm.ClassFile.FieldType) 2 := ⟨⟨wd_435, wd_2, ⟨by decide, by decide, by decide +kernel⟩, by decide⟩, wd_433, wd_434⟩
def y_Scene_settle : MethodName := ⟨"FlowApply$Scene", "settle", "()Z"⟩
theorem mi_Scene_settle : fa_MI y_Scene_settle prog_8_method_2_code 1 (Option.some Jvm.ClassFile.FieldType.boolean) 0 := ⟨⟨wd_439, wd_8, ⟨by decide, by decide, by decide +kernel⟩, by decide⟩, wd_437, wd_438⟩
def y_Typing_infer : MethodName := ⟨"FlowApply$Typing", "infer", "(LFlowApply$Program;)Z"⟩
theorem mi_Typing_infer : fa_MI y_Typing_infer prog_9_method_2_code 3 (Option.some Jvm.ClassFile.FieldType.boolean) 1 := ⟨⟨wd_443, wd_9, ⟨by decide, by decide, by decide +kernel⟩, by decide⟩, wd_441, wd_442⟩
def y_Typing_clear : MethodName := ⟨"FlowApply$Typing", "clear", "(LFlowApply$Program;)V"⟩
theorem mi_Typing_clear : fa_MI y_Typing_clear prog_9_method_3_code 3 (Option.none : Option Jvm.ClassFile.FieldType) 1 := ⟨⟨wd_447, wd_9, ⟨by decide, by decide, by decide +kernel⟩, by decide⟩, wd_446, fa_in (List.mem_append_left _ (List.mem_of_getElem? (i := 0) (by decide +kernel))) rfl⟩
def y_Typing_open : MethodName := ⟨"FlowApply$Typing", "open", "()I"⟩
theorem mi_Typing_open : fa_MI y_Typing_open prog_9_method_4_code 1 (Option.some Jvm.ClassFile.FieldType.int) 0 := ⟨⟨wd_452, wd_9, ⟨by decide, by decide, by decide +kernel⟩, by decide⟩, wd_451, fa_in (List.mem_append_left _ (List.mem_of_getElem? (i := 1) (by decide +kernel))) rfl⟩
def y_Typing_arrow : MethodName := ⟨"FlowApply$Typing", "arrow", "(II)I"⟩
theorem mi_Typing_arrow : fa_MI y_Typing_arrow prog_9_method_5_code 4 (Option.some Jvm.ClassFile.FieldType.int) 2 := ⟨⟨wd_456, wd_9, ⟨by decide, by decide, by decide +kernel⟩, by decide⟩, wd_455, fa_in (List.mem_append_left _ (List.mem_of_getElem? (i := 2) (by decide +kernel))) rfl⟩
def y_Program_things : MethodName := ⟨"FlowApply$Program", "things", "()I"⟩
theorem mi_Program_things : fa_MI y_Program_things prog_5_method_4_code 1 (Option.some Jvm.ClassFile.FieldType.int) 0 := ⟨⟨wd_463, wd_5, ⟨by decide, by decide, by decide +kernel⟩, by decide⟩, wd_461, wd_462⟩
def y_Typing_typed : MethodName := ⟨"FlowApply$Typing", "typed", "(LFlowApply$Program;I)I"⟩
theorem mi_Typing_typed : fa_MI y_Typing_typed prog_9_method_6_code 6 (Option.some Jvm.ClassFile.FieldType.int) 2 := ⟨⟨wd_467, wd_9, ⟨by decide, by decide, by decide +kernel⟩, by decide⟩, wd_466, fa_in (List.mem_append_left _ (List.mem_of_getElem? (i := 3) (by decide +kernel))) rfl⟩
def y_Program_part : MethodName := ⟨"FlowApply$Program", "part", "(II)I"⟩
theorem mi_Program_part : fa_MI y_Program_part prog_5_method_8_code 3 (Option.some Jvm.ClassFile.FieldType.int) 2 := ⟨⟨wd_471, wd_5, ⟨by decide, by decide, by decide +kernel⟩, by decide⟩, wd_469, wd_470⟩
def y_Program_kind : MethodName := ⟨"FlowApply$Program", "kind", "(I)I"⟩
theorem mi_Program_kind : fa_MI y_Program_kind prog_5_method_5_code 2 (Option.some Jvm.ClassFile.FieldType.int) 1 := ⟨⟨wd_475, wd_5, ⟨by decide, by decide, by decide +kernel⟩, by decide⟩, wd_473, wd_474⟩
def y_Program_value : MethodName := ⟨"FlowApply$Program", "value", "(I)I"⟩
theorem mi_Program_value : fa_MI y_Program_value prog_5_method_6_code 2 (Option.some Jvm.ClassFile.FieldType.int) 1 := ⟨⟨wd_479, wd_5, ⟨by decide, by decide, by decide +kernel⟩, by decide⟩, wd_477, wd_478⟩
def y_Typing_unify : MethodName := ⟨"FlowApply$Typing", "unify", "(II)V"⟩
theorem mi_Typing_unify : fa_MI y_Typing_unify prog_9_method_12_code 6 (Option.none : Option Jvm.ClassFile.FieldType) 2 := ⟨⟨wd_483, wd_9, ⟨by decide, by decide, by decide +kernel⟩, by decide⟩, wd_482, fa_in (List.mem_append_left _ (List.mem_of_getElem? (i := 4) (by decide +kernel))) rfl⟩
def y_Row_drop : MethodName := ⟨"FlowApply$Row", "drop", "()I"⟩
theorem mi_Row_drop : fa_MI y_Row_drop prog_7_method_7_code 2 (Option.some Jvm.ClassFile.FieldType.int) 0 := ⟨⟨wd_488, wd_2, ⟨by decide, by decide, by decide +kernel⟩, by decide⟩, wd_486, wd_487⟩
def y_Row_cut : MethodName := ⟨"FlowApply$Row", "cut", "(I)V"⟩
theorem mi_Row_cut : fa_MI y_Row_cut prog_7_method_9_code 2 (Option.none : Option Jvm.ClassFile.FieldType) 1 := ⟨⟨wd_493, wd_2, ⟨by decide, by decide, by decide +kernel⟩, by decide⟩, wd_491, wd_492⟩
def y_Typing_root : MethodName := ⟨"FlowApply$Typing", "root", "(I)I"⟩
theorem mi_Typing_root : fa_MI y_Typing_root prog_9_method_7_code 4 (Option.some Jvm.ClassFile.FieldType.int) 1 := ⟨⟨wd_497, wd_9, ⟨by decide, by decide, by decide +kernel⟩, by decide⟩, wd_495, wd_496⟩
def y_Typing_isOpen : MethodName := ⟨"FlowApply$Typing", "isOpen", "(I)Z"⟩
theorem mi_Typing_isOpen : fa_MI y_Typing_isOpen prog_9_method_13_code 2 (Option.some Jvm.ClassFile.FieldType.boolean) 1 := ⟨⟨wd_501, wd_9, ⟨by decide, by decide, by decide +kernel⟩, by decide⟩, wd_500, fa_in (List.mem_append_left _ (List.mem_of_getElem? (i := 5) (by decide +kernel))) rfl⟩
def y_Typing_isArrow : MethodName := ⟨"FlowApply$Typing", "isArrow", "(I)Z"⟩
theorem mi_Typing_isArrow : fa_MI y_Typing_isArrow prog_9_method_9_code 2 (Option.some Jvm.ClassFile.FieldType.boolean) 1 := ⟨⟨wd_506, wd_9, ⟨by decide, by decide, by decide +kernel⟩, by decide⟩, wd_504, wd_505⟩
def y_Typing_nameShapes : MethodName := ⟨"FlowApply$Typing", "nameShapes", "()Z"⟩
theorem mi_Typing_nameShapes : fa_MI y_Typing_nameShapes prog_9_method_14_code 4 (Option.some Jvm.ClassFile.FieldType.boolean) 0 := ⟨⟨wd_510, wd_9, ⟨by decide, by decide, by decide +kernel⟩, by decide⟩, wd_509, fa_in (List.mem_append_left _ (List.mem_of_getElem? (i := 6) (by decide +kernel))) rfl⟩
def y_Typing_shapeOf : MethodName := ⟨"FlowApply$Typing", "shapeOf", "(I)I"⟩
theorem mi_Typing_shapeOf : fa_MI y_Typing_shapeOf prog_9_method_15_code 5 (Option.some Jvm.ClassFile.FieldType.int) 1 := ⟨⟨wd_515, wd_9, ⟨by decide, by decide, by decide +kernel⟩, by decide⟩, wd_514, fa_in (List.mem_append_left _ (List.mem_of_getElem? (i := 7) (by decide +kernel))) rfl⟩
def y_Flow_solve : MethodName := ⟨"FlowApply$Flow", "solve", "(LFlowApply$Program;)V"⟩
theorem mi_Flow_solve : fa_MI y_Flow_solve prog_2_method_2_code 4 (Option.none : Option Jvm.ClassFile.FieldType) 1 := ⟨⟨wd_519, wd_10, ⟨by decide, by decide, by decide +kernel⟩, by decide⟩, wd_517, wd_518⟩
def y_Program_owner : MethodName := ⟨"FlowApply$Program", "owner", "(I)I"⟩
theorem mi_Program_owner : fa_MI y_Program_owner prog_5_method_7_code 2 (Option.some Jvm.ClassFile.FieldType.int) 1 := ⟨⟨wd_526, wd_5, ⟨by decide, by decide, by decide +kernel⟩, by decide⟩, wd_524, wd_525⟩
def y_Flow_looked : MethodName := ⟨"FlowApply$Flow", "looked", "(I)Z"⟩
theorem mi_Flow_looked : fa_MI y_Flow_looked prog_2_method_3_code 2 (Option.some Jvm.ClassFile.FieldType.boolean) 1 := ⟨⟨wd_530, wd_10, ⟨by decide, by decide, by decide +kernel⟩, by decide⟩, wd_528, wd_529⟩
def y_Face_hasBit : MethodName := ⟨"FlowApply", "hasBit", "(II)Z"⟩
theorem mi_Face_hasBit : fa_MS y_Face_hasBit prog_1_method_35_code 2 (Option.some Jvm.ClassFile.FieldType.boolean) 2 := ⟨⟨wd_533, wd_1, ⟨by decide, by decide, by decide +kernel⟩, by decide⟩, wd_532⟩
def y_Flow_look : MethodName := ⟨"FlowApply$Flow", "look", "(LFlowApply$Program;I)V"⟩
theorem mi_Flow_look : fa_MI y_Flow_look prog_2_method_4_code 4 (Option.none : Option Jvm.ClassFile.FieldType) 2 := ⟨⟨wd_537, wd_10, ⟨by decide, by decide, by decide +kernel⟩, by decide⟩, wd_536, fa_in (List.mem_append_left _ (List.mem_of_getElem? (i := 8) (by decide +kernel))) rfl⟩
def y_Row_bits : MethodName := ⟨"FlowApply$Row", "bits", "(I)I"⟩
theorem mi_Row_bits : fa_MI y_Row_bits prog_7_method_4_code 2 (Option.some Jvm.ClassFile.FieldType.int) 1 := ⟨⟨wd_543, wd_2, ⟨by decide, by decide, by decide +kernel⟩, by decide⟩, wd_541, wd_542⟩
def y_Face_bit : MethodName := ⟨"FlowApply", "bit", "(I)I"⟩
theorem mi_Face_bit : fa_MS y_Face_bit prog_1_method_34_code 1 (Option.some Jvm.ClassFile.FieldType.int) 1 := ⟨⟨wd_546, wd_1, ⟨by decide, by decide, by decide +kernel⟩, by decide⟩, wd_545⟩
def y_Flow_hold : MethodName := ⟨"FlowApply$Flow", "hold", "(II)V"⟩
theorem mi_Flow_hold : fa_MI y_Flow_hold prog_2_method_6_code 4 (Option.none : Option Jvm.ClassFile.FieldType) 2 := ⟨⟨wd_551, wd_10, ⟨by decide, by decide, by decide +kernel⟩, by decide⟩, wd_550, fa_in (List.mem_append_left _ (List.mem_of_getElem? (i := 9) (by decide +kernel))) rfl⟩
def y_Flow_lookAtSite : MethodName := ⟨"FlowApply$Flow", "lookAtSite", "(LFlowApply$Program;I)I"⟩
theorem mi_Flow_lookAtSite : fa_MI y_Flow_lookAtSite prog_2_method_5_code 6 (Option.some Jvm.ClassFile.FieldType.int) 2 := ⟨⟨wd_556, wd_10, ⟨by decide, by decide, by decide +kernel⟩, by decide⟩, wd_555, fa_in (List.mem_append_left _ (List.mem_of_getElem? (i := 10) (by decide +kernel))) rfl⟩
def y_Flow_comesOfBody : MethodName := ⟨"FlowApply$Flow", "comesOfBody", "(LFlowApply$Program;I)I"⟩
theorem mi_Flow_comesOfBody : fa_MI y_Flow_comesOfBody prog_2_method_8_code 3 (Option.some Jvm.ClassFile.FieldType.int) 2 := ⟨⟨wd_560, wd_10, ⟨by decide, by decide, by decide +kernel⟩, by decide⟩, wd_558, wd_559⟩
def y_Flow_listCalls : MethodName := ⟨"FlowApply$Flow", "listCalls", "(LFlowApply$Program;)V"⟩
theorem mi_Flow_listCalls : fa_MI y_Flow_listCalls prog_2_method_10_code 5 (Option.none : Option Jvm.ClassFile.FieldType) 1 := ⟨⟨wd_565, wd_10, ⟨by decide, by decide, by decide +kernel⟩, by decide⟩, wd_564, fa_in (List.mem_append_left _ (List.mem_of_getElem? (i := 11) (by decide +kernel))) rfl⟩
def y_Flow_applied : MethodName := ⟨"FlowApply$Flow", "applied", "(LFlowApply$Program;I)I"⟩
theorem mi_Flow_applied : fa_MI y_Flow_applied prog_2_method_7_code 3 (Option.some Jvm.ClassFile.FieldType.int) 2 := ⟨⟨wd_569, wd_10, ⟨by decide, by decide, by decide +kernel⟩, by decide⟩, wd_567, wd_568⟩
def y_Flow_closeCalls : MethodName := ⟨"FlowApply$Flow", "closeCalls", "(LFlowApply$Program;)V"⟩
theorem mi_Flow_closeCalls : fa_MI y_Flow_closeCalls prog_2_method_11_code 4 (Option.none : Option Jvm.ClassFile.FieldType) 1 := ⟨⟨wd_573, wd_10, ⟨by decide, by decide, by decide +kernel⟩, by decide⟩, wd_572, fa_in (List.mem_append_left _ (List.mem_of_getElem? (i := 12) (by decide +kernel))) rfl⟩
def y_Flow_listRings : MethodName := ⟨"FlowApply$Flow", "listRings", "(LFlowApply$Program;)V"⟩
theorem mi_Flow_listRings : fa_MI y_Flow_listRings prog_2_method_12_code 3 (Option.none : Option Jvm.ClassFile.FieldType) 1 := ⟨⟨wd_579, wd_10, ⟨by decide, by decide, by decide +kernel⟩, by decide⟩, wd_578, fa_in (List.mem_append_left _ (List.mem_of_getElem? (i := 13) (by decide +kernel))) rfl⟩
def y_Flow_ringOf : MethodName := ⟨"FlowApply$Flow", "ringOf", "(I)I"⟩
theorem mi_Flow_ringOf : fa_MI y_Flow_ringOf prog_2_method_14_code 3 (Option.some Jvm.ClassFile.FieldType.int) 1 := ⟨⟨wd_583, wd_10, ⟨by decide, by decide, by decide +kernel⟩, by decide⟩, wd_581, wd_582⟩
def y_Flow_ringFrom : MethodName := ⟨"FlowApply$Flow", "ringFrom", "(LFlowApply$Program;I)I"⟩
theorem mi_Flow_ringFrom : fa_MI y_Flow_ringFrom prog_2_method_13_code 5 (Option.some Jvm.ClassFile.FieldType.int) 2 := ⟨⟨wd_588, wd_10, ⟨by decide, by decide, by decide +kernel⟩, by decide⟩, wd_587, fa_in (List.mem_append_left _ (List.mem_of_getElem? (i := 14) (by decide +kernel))) rfl⟩
def y_Groups_sort : MethodName := ⟨"FlowApply$Groups", "sort", "(LFlowApply$Program;LFlowApply$Typing;LFlowApply$Flow;)V"⟩
theorem mi_Groups_sort : fa_MI y_Groups_sort prog_3_method_2_code 4 (Option.none : Option Jvm.ClassFile.FieldType) 3 := ⟨⟨wd_592, wd_11, ⟨by decide, by decide, by decide +kernel⟩, by decide⟩, wd_590, wd_591⟩
def y_Groups_number : MethodName := ⟨"FlowApply$Groups", "number", "(II)V"⟩
theorem mi_Groups_number : fa_MI y_Groups_number prog_3_method_5_code 4 (Option.none : Option Jvm.ClassFile.FieldType) 2 := ⟨⟨wd_597, wd_11, ⟨by decide, by decide, by decide +kernel⟩, by decide⟩, wd_596, fa_in (List.mem_append_left _ (List.mem_of_getElem? (i := 15) (by decide +kernel))) rfl⟩
def y_Face_lowest : MethodName := ⟨"FlowApply", "lowest", "(I)I"⟩
theorem mi_Face_lowest : fa_MS y_Face_lowest prog_1_method_36_code 1 (Option.some Jvm.ClassFile.FieldType.int) 1 := ⟨⟨wd_603, wd_1, ⟨by decide, by decide, by decide +kernel⟩, by decide⟩, wd_602⟩
def y_Integer_numberOfTrailingZeros : MethodName := ⟨"java/lang/Integer", "numberOfTrailingZeros", "(I)I"⟩
theorem mi_Integer_numberOfTrailingZeros : fa_MS y_Integer_numberOfTrailingZeros prog_20_method_48_code 2 (Option.some Jvm.ClassFile.FieldType.int) 1 := ⟨⟨wd_606, wd_12, ⟨by decide, by decide, by decide +kernel⟩, by decide⟩, wd_605⟩
def y_Groups_many : MethodName := ⟨"FlowApply$Groups", "many", "(I)I"⟩
theorem mi_Groups_many : fa_MI y_Groups_many prog_3_method_6_code 2 (Option.some Jvm.ClassFile.FieldType.int) 1 := ⟨⟨wd_611, wd_11, ⟨by decide, by decide, by decide +kernel⟩, by decide⟩, wd_609, wd_610⟩
def y_Groups_mateByType : MethodName := ⟨"FlowApply$Groups", "mateByType", "(LFlowApply$Program;LFlowApply$Typing;I)V"⟩
theorem mi_Groups_mateByType : fa_MI y_Groups_mateByType prog_3_method_3_code 7 (Option.none : Option Jvm.ClassFile.FieldType) 3 := ⟨⟨wd_616, wd_11, ⟨by decide, by decide, by decide +kernel⟩, by decide⟩, wd_615, fa_in (List.mem_append_left _ (List.mem_of_getElem? (i := 16) (by decide +kernel))) rfl⟩
def y_Typing_same : MethodName := ⟨"FlowApply$Typing", "same", "(II)Z"⟩
theorem mi_Typing_same : fa_MI y_Typing_same prog_9_method_16_code 3 (Option.some Jvm.ClassFile.FieldType.boolean) 2 := ⟨⟨wd_620, wd_9, ⟨by decide, by decide, by decide +kernel⟩, by decide⟩, wd_618, wd_619⟩
def y_Groups_mateBySites : MethodName := ⟨"FlowApply$Groups", "mateBySites", "(LFlowApply$Program;LFlowApply$Flow;)V"⟩
theorem mi_Groups_mateBySites : fa_MI y_Groups_mateBySites prog_3_method_4_code 6 (Option.none : Option Jvm.ClassFile.FieldType) 2 := ⟨⟨wd_625, wd_11, ⟨by decide, by decide, by decide +kernel⟩, by decide⟩, wd_624, fa_in (List.mem_append_left _ (List.mem_of_getElem? (i := 17) (by decide +kernel))) rfl⟩
def y_Face_feed : MethodName := ⟨"FlowApply", "feed", "(IIIII)I"⟩
theorem mi_Face_feed : fa_MI y_Face_feed prog_1_method_2_code 6 (Option.some Jvm.ClassFile.FieldType.int) 5 := ⟨⟨wd_659, wd_1, ⟨by decide, by decide, by decide +kernel⟩, by decide⟩, wd_657, wd_658⟩
def y_Face_feedNumber : MethodName := ⟨"FlowApply", "feedNumber", "(I)V"⟩
theorem mi_Face_feedNumber : fa_MI y_Face_feedNumber prog_1_method_3_code 3 (Option.none : Option Jvm.ClassFile.FieldType) 1 := ⟨⟨wd_664, wd_1, ⟨by decide, by decide, by decide +kernel⟩, by decide⟩, wd_663, fa_in (List.mem_append_left _ (List.mem_of_getElem? (i := 18) (by decide +kernel))) rfl⟩
def y_Face_end : MethodName := ⟨"FlowApply", "end", "(I)Z"⟩
theorem mi_Face_end : fa_MI y_Face_end prog_1_method_4_code 2 (Option.some Jvm.ClassFile.FieldType.boolean) 1 := ⟨⟨wd_669, wd_1, ⟨by decide, by decide, by decide +kernel⟩, by decide⟩, wd_667, wd_668⟩
def y_Face_fault : MethodName := ⟨"FlowApply", "fault", "()I"⟩
theorem mi_Face_fault : fa_MI y_Face_fault prog_1_method_7_code 1 (Option.some Jvm.ClassFile.FieldType.int) 0 := ⟨⟨wd_674, wd_1, ⟨by decide, by decide, by decide +kernel⟩, by decide⟩, wd_672, wd_673⟩
def y_Face_typeOfMain : MethodName := ⟨"FlowApply", "typeOfMain", "()I"⟩
theorem mi_Face_typeOfMain : fa_MI y_Face_typeOfMain prog_1_method_13_code 1 (Option.some Jvm.ClassFile.FieldType.int) 0 := ⟨⟨wd_678, wd_1, ⟨by decide, by decide, by decide +kernel⟩, by decide⟩, wd_676, wd_677⟩
def y_Writer_showType : MethodName := ⟨"FlowApply$Writer", "showType", "(LFlowApply$Typing;I)I"⟩
theorem mi_Writer_showType : fa_MI y_Writer_showType prog_10_method_18_code 5 (Option.some Jvm.ClassFile.FieldType.int) 2 := ⟨⟨wd_683, wd_6, ⟨by decide, by decide, by decide +kernel⟩, by decide⟩, wd_681, wd_682⟩
def y_Writer_putType : MethodName := ⟨"FlowApply$Writer", "putType", "(LFlowApply$Typing;I)V"⟩
theorem mi_Writer_putType : fa_MI y_Writer_putType prog_10_method_19_code 3 (Option.none : Option Jvm.ClassFile.FieldType) 2 := ⟨⟨wd_693, wd_6, ⟨by decide, by decide, by decide +kernel⟩, by decide⟩, wd_692, fa_in (List.mem_append_left _ (List.mem_of_getElem? (i := 19) (by decide +kernel))) rfl⟩
def y_Typing_isInt : MethodName := ⟨"FlowApply$Typing", "isInt", "(I)Z"⟩
theorem mi_Typing_isInt : fa_MI y_Typing_isInt prog_9_method_8_code 2 (Option.some Jvm.ClassFile.FieldType.boolean) 1 := ⟨⟨wd_697, wd_9, ⟨by decide, by decide, by decide +kernel⟩, by decide⟩, wd_695, wd_696⟩
def y_Typing_given : MethodName := ⟨"FlowApply$Typing", "given", "(I)I"⟩
theorem mi_Typing_given : fa_MI y_Typing_given prog_9_method_11_code 2 (Option.some Jvm.ClassFile.FieldType.int) 1 := ⟨⟨wd_702, wd_9, ⟨by decide, by decide, by decide +kernel⟩, by decide⟩, wd_700, wd_701⟩
def y_Typing_taken : MethodName := ⟨"FlowApply$Typing", "taken", "(I)I"⟩
theorem mi_Typing_taken : fa_MI y_Typing_taken prog_9_method_10_code 2 (Option.some Jvm.ClassFile.FieldType.int) 1 := ⟨⟨wd_706, wd_9, ⟨by decide, by decide, by decide +kernel⟩, by decide⟩, wd_704, wd_705⟩
def y_Row_placeOf : MethodName := ⟨"FlowApply$Row", "placeOf", "(I)I"⟩
theorem mi_Row_placeOf : fa_MI y_Row_placeOf prog_7_method_13_code 3 (Option.some Jvm.ClassFile.FieldType.int) 1 := ⟨⟨wd_710, wd_2, ⟨by decide, by decide, by decide +kernel⟩, by decide⟩, wd_708, wd_709⟩
def y_Math_min : MethodName := ⟨"java/lang/Math", "min", "(II)I"⟩
theorem mi_Math_min : fa_MS y_Math_min prog_21_method_69_code 2 (Option.some Jvm.ClassFile.FieldType.int) 2 := ⟨⟨wd_713, wd_3, ⟨by decide, by decide, by decide +kernel⟩, by decide⟩, wd_712⟩
def y_Face_back : MethodName := ⟨"FlowApply", "back", "()I"⟩
theorem mi_Face_back : fa_MI y_Face_back prog_1_method_23_code 1 (Option.some Jvm.ClassFile.FieldType.int) 0 := ⟨⟨wd_717, wd_1, ⟨by decide, by decide, by decide +kernel⟩, by decide⟩, wd_715, wd_716⟩
def y_Face_makeBack : MethodName := ⟨"FlowApply", "makeBack", "()V"⟩
theorem mi_Face_makeBack : fa_MI y_Face_makeBack prog_1_method_24_code 1 (Option.none : Option Jvm.ClassFile.FieldType) 0 := ⟨⟨wd_721, wd_1, ⟨by decide, by decide, by decide +kernel⟩, by decide⟩, wd_720, fa_in (List.mem_append_left _ (List.mem_of_getElem? (i := 20) (by decide +kernel))) rfl⟩
def y_Program_copy : MethodName := ⟨"FlowApply$Program", "copy", "(LFlowApply$Program;II)V"⟩
theorem mi_Program_copy : fa_MI y_Program_copy prog_5_method_12_code 5 (Option.none : Option Jvm.ClassFile.FieldType) 3 := ⟨⟨wd_725, wd_5, ⟨by decide, by decide, by decide +kernel⟩, by decide⟩, wd_723, wd_724⟩
def y_Program_numberFunctions : MethodName := ⟨"FlowApply$Program", "numberFunctions", "(LFlowApply$Program;I)V"⟩
theorem mi_Program_numberFunctions : fa_MI y_Program_numberFunctions prog_5_method_13_code 4 (Option.none : Option Jvm.ClassFile.FieldType) 2 := ⟨⟨wd_729, wd_5, ⟨by decide, by decide, by decide +kernel⟩, by decide⟩, wd_728, fa_in (List.mem_append_left _ (List.mem_of_getElem? (i := 21) (by decide +kernel))) rfl⟩
def y_Program_markThings : MethodName := ⟨"FlowApply$Program", "markThings", "(LFlowApply$Program;I)V"⟩
theorem mi_Program_markThings : fa_MI y_Program_markThings prog_5_method_14_code 5 (Option.none : Option Jvm.ClassFile.FieldType) 2 := ⟨⟨wd_734, wd_5, ⟨by decide, by decide, by decide +kernel⟩, by decide⟩, wd_733, fa_in (List.mem_append_left _ (List.mem_of_getElem? (i := 22) (by decide +kernel))) rfl⟩
def y_Program_losesBody : MethodName := ⟨"FlowApply$Program", "losesBody", "(LFlowApply$Program;II)Z"⟩
theorem mi_Program_losesBody : fa_MS y_Program_losesBody prog_5_method_15_code 3 (Option.some Jvm.ClassFile.FieldType.boolean) 3 := ⟨⟨wd_738, wd_5, ⟨by decide, by decide, by decide +kernel⟩, by decide⟩, wd_737⟩
def y_Program_numberSites : MethodName := ⟨"FlowApply$Program", "numberSites", "(LFlowApply$Program;)V"⟩
theorem mi_Program_numberSites : fa_MI y_Program_numberSites prog_5_method_16_code 3 (Option.none : Option Jvm.ClassFile.FieldType) 1 := ⟨⟨wd_743, wd_5, ⟨by decide, by decide, by decide +kernel⟩, by decide⟩, wd_742, fa_in (List.mem_append_left _ (List.mem_of_getElem? (i := 23) (by decide +kernel))) rfl⟩
def y_Program_copyThing : MethodName := ⟨"FlowApply$Program", "copyThing", "(LFlowApply$Program;II)I"⟩
theorem mi_Program_copyThing : fa_MI y_Program_copyThing prog_5_method_17_code 7 (Option.some Jvm.ClassFile.FieldType.int) 3 := ⟨⟨wd_747, wd_5, ⟨by decide, by decide, by decide +kernel⟩, by decide⟩, wd_746, fa_in (List.mem_append_left _ (List.mem_of_getElem? (i := 24) (by decide +kernel))) rfl⟩
def y_Program_newValue : MethodName := ⟨"FlowApply$Program", "newValue", "(II)I"⟩
theorem mi_Program_newValue : fa_MI y_Program_newValue prog_5_method_18_code 3 (Option.some Jvm.ClassFile.FieldType.int) 2 := ⟨⟨wd_753, wd_5, ⟨by decide, by decide, by decide +kernel⟩, by decide⟩, wd_752, fa_in (List.mem_append_left _ (List.mem_of_getElem? (i := 25) (by decide +kernel))) rfl⟩
def y_Program_copyGlobals : MethodName := ⟨"FlowApply$Program", "copyGlobals", "(LFlowApply$Program;I)V"⟩
theorem mi_Program_copyGlobals : fa_MI y_Program_copyGlobals prog_5_method_19_code 5 (Option.none : Option Jvm.ClassFile.FieldType) 2 := ⟨⟨wd_758, wd_5, ⟨by decide, by decide, by decide +kernel⟩, by decide⟩, wd_757, fa_in (List.mem_append_left _ (List.mem_of_getElem? (i := 26) (by decide +kernel))) rfl⟩
def y_Writer_showProgram : MethodName := ⟨"FlowApply$Writer", "showProgram", "(LFlowApply$Scene;)I"⟩
theorem mi_Writer_showProgram : fa_MI y_Writer_showProgram prog_10_method_3_code 4 (Option.some Jvm.ClassFile.FieldType.int) 1 := ⟨⟨wd_762, wd_6, ⟨by decide, by decide, by decide +kernel⟩, by decide⟩, wd_760, wd_761⟩
def y_Writer_putText : MethodName := ⟨"FlowApply$Writer", "putText", "(Ljava/lang/String;)V"⟩
theorem mi_Writer_putText : fa_MI y_Writer_putText prog_10_method_15_code 3 (Option.none : Option Jvm.ClassFile.FieldType) 1 := ⟨⟨wd_767, wd_6, ⟨by decide, by decide, by decide +kernel⟩, by decide⟩, wd_766, fa_in (List.mem_append_left _ (List.mem_of_getElem? (i := 27) (by decide +kernel))) rfl⟩
def y_String_length : MethodName := ⟨"java/lang/String", "length", "()I"⟩
theorem mi_String_length : fa_MI y_String_length prog_23_method_54_code 1 (Option.some Jvm.ClassFile.FieldType.int) 0 := ⟨⟨wd_771, wd_22, ⟨by decide, by decide, by decide +kernel⟩, by decide⟩, wd_769, wd_770⟩
def y_String_coder : MethodName := ⟨"java/lang/String", "coder", "()B"⟩
theorem mi_String_coder : fa_MI y_String_coder prog_23_method_152_code 1 (Option.some Jvm.ClassFile.FieldType.byte) 0 := ⟨⟨wd_775, wd_22, ⟨by decide, by decide, by decide +kernel⟩, by decide⟩, wd_773, wd_774⟩
def y_String_charAt : MethodName := ⟨"java/lang/String", "charAt", "(I)C"⟩
theorem mi_String_charAt : fa_MI y_String_charAt prog_23_method_56_code 2 (Option.some Jvm.ClassFile.FieldType.char) 1 := ⟨⟨wd_781, wd_22, ⟨by decide, by decide, by decide +kernel⟩, by decide⟩, wd_779, wd_780⟩
def y_String_isLatin1 : MethodName := ⟨"java/lang/String", "isLatin1", "()Z"⟩
theorem mi_String_isLatin1 : fa_MI y_String_isLatin1 prog_23_method_154_code 1 (Option.some Jvm.ClassFile.FieldType.boolean) 0 := ⟨⟨wd_785, wd_22, ⟨by decide, by decide, by decide +kernel⟩, by decide⟩, wd_783, wd_784⟩
def y_StringLatin1_charAt : MethodName := ⟨"java/lang/StringLatin1", "charAt", "([BI)C"⟩
theorem mi_StringLatin1_charAt : fa_MS y_StringLatin1_charAt prog_24_method_2_code 2 (Option.some Jvm.ClassFile.FieldType.char) 2 := ⟨⟨wd_788, wd_23, ⟨by decide, by decide, by decide +kernel⟩, by decide⟩, wd_787⟩
def y_String_checkIndex : MethodName := ⟨"java/lang/String", "checkIndex", "(II)V"⟩
theorem mi_String_checkIndex : fa_MS y_String_checkIndex prog_23_method_155_code 2 (Option.none : Option Jvm.ClassFile.FieldType) 2 := ⟨⟨wd_791, wd_22, ⟨by decide, by decide, by decide +kernel⟩, by decide⟩, wd_790⟩
def y_Preconditions_checkIndex : MethodName := ⟨"jdk/internal/util/Preconditions", "checkIndex", "(IILjava/util/function/BiFunction;)I"⟩
theorem mi_Preconditions_checkIndex : fa_MS y_Preconditions_checkIndex prog_31_method_11_code 3 (Option.some Jvm.ClassFile.FieldType.int) 3 := ⟨⟨wd_796, wd_24, ⟨by decide, by decide, by decide +kernel⟩, by decide⟩, wd_795⟩
def y_Writer_putName : MethodName := ⟨"FlowApply$Writer", "putName", "(I)V"⟩
theorem mi_Writer_putName : fa_MI y_Writer_putName prog_10_method_16_code 3 (Option.none : Option Jvm.ClassFile.FieldType) 1 := ⟨⟨wd_820, wd_6, ⟨by decide, by decide, by decide +kernel⟩, by decide⟩, wd_819, fa_in (List.mem_append_left _ (List.mem_of_getElem? (i := 28) (by decide +kernel))) rfl⟩
def y_Writer_putExpression : MethodName := ⟨"FlowApply$Writer", "putExpression", "(LFlowApply$Scene;I)V"⟩
theorem mi_Writer_putExpression : fa_MI y_Writer_putExpression prog_10_method_6_code 8 (Option.none : Option Jvm.ClassFile.FieldType) 2 := ⟨⟨wd_826, wd_6, ⟨by decide, by decide, by decide +kernel⟩, by decide⟩, wd_825, fa_in (List.mem_append_left _ (List.mem_of_getElem? (i := 29) (by decide +kernel))) rfl⟩
def y_Writer_putPiece : MethodName := ⟨"FlowApply$Writer", "putPiece", "(LFlowApply$Scene;II)V"⟩
theorem mi_Writer_putPiece : fa_MI y_Writer_putPiece prog_10_method_8_code 6 (Option.none : Option Jvm.ClassFile.FieldType) 3 := ⟨⟨wd_830, wd_6, ⟨by decide, by decide, by decide +kernel⟩, by decide⟩, wd_829, fa_in (List.mem_append_left _ (List.mem_of_getElem? (i := 30) (by decide +kernel))) rfl⟩
def y_Writer_putNumber : MethodName := ⟨"FlowApply$Writer", "putNumber", "(I)V"⟩
theorem mi_Writer_putNumber : fa_MI y_Writer_putNumber prog_10_method_17_code 4 (Option.none : Option Jvm.ClassFile.FieldType) 1 := ⟨⟨wd_836, wd_6, ⟨by decide, by decide, by decide +kernel⟩, by decide⟩, wd_835, fa_in (List.mem_append_left _ (List.mem_of_getElem? (i := 31) (by decide +kernel))) rfl⟩
def y_Writer_putData : MethodName := ⟨"FlowApply$Writer", "putData", "(LFlowApply$Program;I)V"⟩
theorem mi_Writer_putData : fa_MI y_Writer_putData prog_10_method_10_code 4 (Option.none : Option Jvm.ClassFile.FieldType) 2 := ⟨⟨wd_840, wd_6, ⟨by decide, by decide, by decide +kernel⟩, by decide⟩, wd_839, fa_in (List.mem_append_left _ (List.mem_of_getElem? (i := 32) (by decide +kernel))) rfl⟩
def y_Program_listFields : MethodName := ⟨"FlowApply$Program", "listFields", "(ILFlowApply$Row;)V"⟩
theorem mi_Program_listFields : fa_MI y_Program_listFields prog_5_method_11_code 8 (Option.none : Option Jvm.ClassFile.FieldType) 2 := ⟨⟨wd_846, wd_5, ⟨by decide, by decide, by decide +kernel⟩, by decide⟩, wd_844, wd_845⟩
def y_Writer_putLambda : MethodName := ⟨"FlowApply$Writer", "putLambda", "(LFlowApply$Program;II)V"⟩
theorem mi_Writer_putLambda : fa_MI y_Writer_putLambda prog_10_method_9_code 4 (Option.none : Option Jvm.ClassFile.FieldType) 3 := ⟨⟨wd_855, wd_6, ⟨by decide, by decide, by decide +kernel⟩, by decide⟩, wd_854, fa_in (List.mem_append_left _ (List.mem_of_getElem? (i := 33) (by decide +kernel))) rfl⟩
def y_Writer_choicePiece : MethodName := ⟨"FlowApply$Writer", "choicePiece", "(I)Ljava/lang/String;"⟩
theorem mi_Writer_choicePiece : fa_MS y_Writer_choicePiece prog_10_method_11_code 1 (Option.some (Jvm.ClassFile.FieldType.object "java/lang/String")) 1 := ⟨⟨wd_860, wd_6, ⟨by decide, by decide, by decide +kernel⟩, by decide⟩, wd_859⟩
def y_Writer_putLet : MethodName := ⟨"FlowApply$Writer", "putLet", "(LFlowApply$Program;II)V"⟩
theorem mi_Writer_putLet : fa_MI y_Writer_putLet prog_10_method_12_code 4 (Option.none : Option Jvm.ClassFile.FieldType) 3 := ⟨⟨wd_867, wd_6, ⟨by decide, by decide, by decide +kernel⟩, by decide⟩, wd_866, fa_in (List.mem_append_left _ (List.mem_of_getElem? (i := 34) (by decide +kernel))) rfl⟩
def y_Writer_putOperator : MethodName := ⟨"FlowApply$Writer", "putOperator", "(II)V"⟩
theorem mi_Writer_putOperator : fa_MI y_Writer_putOperator prog_10_method_13_code 3 (Option.none : Option Jvm.ClassFile.FieldType) 2 := ⟨⟨wd_873, wd_6, ⟨by decide, by decide, by decide +kernel⟩, by decide⟩, wd_872, fa_in (List.mem_append_left _ (List.mem_of_getElem? (i := 35) (by decide +kernel))) rfl⟩
def y_Writer_putSite : MethodName := ⟨"FlowApply$Writer", "putSite", "(LFlowApply$Scene;II)V"⟩
theorem mi_Writer_putSite : fa_MI y_Writer_putSite prog_10_method_14_code 5 (Option.none : Option Jvm.ClassFile.FieldType) 3 := ⟨⟨wd_877, wd_6, ⟨by decide, by decide, by decide +kernel⟩, by decide⟩, wd_876, fa_in (List.mem_append_left _ (List.mem_of_getElem? (i := 36) (by decide +kernel))) rfl⟩
def y_Groups_groupOf : MethodName := ⟨"FlowApply$Groups", "groupOf", "(II)I"⟩
theorem mi_Groups_groupOf : fa_MI y_Groups_groupOf prog_3_method_8_code 4 (Option.some Jvm.ClassFile.FieldType.int) 2 := ⟨⟨wd_886, wd_11, ⟨by decide, by decide, by decide +kernel⟩, by decide⟩, wd_884, wd_885⟩
def y_Writer_nextPart : MethodName := ⟨"FlowApply$Writer", "nextPart", "(LFlowApply$Program;II)I"⟩
theorem mi_Writer_nextPart : fa_MI y_Writer_nextPart prog_10_method_7_code 5 (Option.some Jvm.ClassFile.FieldType.int) 3 := ⟨⟨wd_891, wd_6, ⟨by decide, by decide, by decide +kernel⟩, by decide⟩, wd_890, fa_in (List.mem_append_left _ (List.mem_of_getElem? (i := 37) (by decide +kernel))) rfl⟩
def y_Face_show : MethodName := ⟨"FlowApply", "show", "()I"⟩
theorem mi_Face_show : fa_MI y_Face_show prog_1_method_25_code 1 (Option.some Jvm.ClassFile.FieldType.int) 0 := ⟨⟨wd_897, wd_1, ⟨by decide, by decide, by decide +kernel⟩, by decide⟩, wd_895, wd_896⟩
def y_Face_take : MethodName := ⟨"FlowApply", "take", "()I"⟩
theorem mi_Face_take : fa_MI y_Face_take prog_1_method_26_code 1 (Option.some Jvm.ClassFile.FieldType.int) 0 := ⟨⟨wd_901, wd_1, ⟨by decide, by decide, by decide +kernel⟩, by decide⟩, wd_899, wd_900⟩
def y_Face_adopt : MethodName := ⟨"FlowApply", "adopt", "()I"⟩
theorem mi_Face_adopt : fa_MI y_Face_adopt prog_1_method_6_code 2 (Option.some Jvm.ClassFile.FieldType.int) 0 := ⟨⟨wd_905, wd_1, ⟨by decide, by decide, by decide +kernel⟩, by decide⟩, wd_904, fa_in (List.mem_append_left _ (List.mem_of_getElem? (i := 38) (by decide +kernel))) rfl⟩
def y_Machine_forget : MethodName := ⟨"FlowApply$Machine", "forget", "()V"⟩
theorem mi_Machine_forget : fa_MI y_Machine_forget prog_4_method_3_code 1 (Option.none : Option Jvm.ClassFile.FieldType) 0 := ⟨⟨wd_910, wd_7, ⟨by decide, by decide, by decide +kernel⟩, by decide⟩, wd_908, wd_909⟩
def y_Face_octet : MethodName := ⟨"FlowApply", "octet", "(I)I"⟩
theorem mi_Face_octet : fa_MI y_Face_octet prog_1_method_29_code 2 (Option.some Jvm.ClassFile.FieldType.int) 1 := ⟨⟨wd_914, wd_1, ⟨by decide, by decide, by decide +kernel⟩, by decide⟩, wd_912, wd_913⟩
def y_Face_count : MethodName := ⟨"FlowApply", "count", "(I)I"⟩
theorem mi_Face_count : fa_MI y_Face_count prog_1_method_30_code 2 (Option.some Jvm.ClassFile.FieldType.int) 1 := ⟨⟨wd_918, wd_1, ⟨by decide, by decide, by decide +kernel⟩, by decide⟩, wd_916, wd_917⟩
def y_Flow_escapes : MethodName := ⟨"FlowApply$Flow", "escapes", "(LFlowApply$Program;)I"⟩
theorem mi_Flow_escapes : fa_MI y_Flow_escapes prog_2_method_9_code 2 (Option.some Jvm.ClassFile.FieldType.int) 1 := ⟨⟨wd_923, wd_10, ⟨by decide, by decide, by decide +kernel⟩, by decide⟩, wd_921, wd_922⟩
def y_Flow_countLooked : MethodName := ⟨"FlowApply$Flow", "countLooked", "(LFlowApply$Program;)I"⟩
theorem mi_Flow_countLooked : fa_MI y_Flow_countLooked prog_2_method_18_code 4 (Option.some Jvm.ClassFile.FieldType.int) 1 := ⟨⟨wd_927, wd_10, ⟨by decide, by decide, by decide +kernel⟩, by decide⟩, wd_925, wd_926⟩
def y_Face_oneIf : MethodName := ⟨"FlowApply", "oneIf", "(Z)I"⟩
theorem mi_Face_oneIf : fa_MS y_Face_oneIf prog_1_method_33_code 1 (Option.some Jvm.ClassFile.FieldType.int) 1 := ⟨⟨wd_930, wd_1, ⟨by decide, by decide, by decide +kernel⟩, by decide⟩, wd_929⟩
def y_Flow_countKnown : MethodName := ⟨"FlowApply$Flow", "countKnown", "(LFlowApply$Program;)I"⟩
theorem mi_Flow_countKnown : fa_MI y_Flow_countKnown prog_2_method_19_code 4 (Option.some Jvm.ClassFile.FieldType.int) 1 := ⟨⟨wd_934, wd_10, ⟨by decide, by decide, by decide +kernel⟩, by decide⟩, wd_932, wd_933⟩
def y_Integer_bitCount : MethodName := ⟨"java/lang/Integer", "bitCount", "(I)I"⟩
theorem mi_Integer_bitCount : fa_MS y_Integer_bitCount prog_20_method_49_code 1 (Option.some Jvm.ClassFile.FieldType.int) 1 := ⟨⟨wd_937, wd_12, ⟨by decide, by decide, by decide +kernel⟩, by decide⟩, wd_936⟩
def y_Face_countMadeFields : MethodName := ⟨"FlowApply", "countMadeFields", "()I"⟩
theorem mi_Face_countMadeFields : fa_MI y_Face_countMadeFields prog_1_method_31_code 3 (Option.some Jvm.ClassFile.FieldType.int) 0 := ⟨⟨wd_944, wd_1, ⟨by decide, by decide, by decide +kernel⟩, by decide⟩, wd_943, fa_in (List.mem_append_left _ (List.mem_of_getElem? (i := 39) (by decide +kernel))) rfl⟩
def y_Face_countFields : MethodName := ⟨"FlowApply", "countFields", "(LFlowApply$Program;I)I"⟩
theorem mi_Face_countFields : fa_MI y_Face_countFields prog_1_method_10_code 3 (Option.some Jvm.ClassFile.FieldType.int) 2 := ⟨⟨wd_949, wd_1, ⟨by decide, by decide, by decide +kernel⟩, by decide⟩, wd_948, fa_in (List.mem_append_left _ (List.mem_of_getElem? (i := 40) (by decide +kernel))) rfl⟩
def y_Face_countBackThings : MethodName := ⟨"FlowApply", "countBackThings", "()I"⟩
theorem mi_Face_countBackThings : fa_MI y_Face_countBackThings prog_1_method_32_code 1 (Option.some Jvm.ClassFile.FieldType.int) 0 := ⟨⟨wd_954, wd_1, ⟨by decide, by decide, by decide +kernel⟩, by decide⟩, wd_953, fa_in (List.mem_append_left _ (List.mem_of_getElem? (i := 41) (by decide +kernel))) rfl⟩
def y_Face_read : MethodName := ⟨"FlowApply", "read", "()I"⟩
theorem mi_Face_read : fa_MI y_Face_read prog_1_method_5_code 1 (Option.some Jvm.ClassFile.FieldType.int) 0 := ⟨⟨wd_963, wd_1, ⟨by decide, by decide, by decide +kernel⟩, by decide⟩, wd_961, wd_962⟩
def y_Reader_parse : MethodName := ⟨"FlowApply$Reader", "parse", "()I"⟩
theorem mi_Reader_parse : fa_MI y_Reader_parse prog_6_method_2_code 2 (Option.some Jvm.ClassFile.FieldType.int) 0 := ⟨⟨wd_967, wd_4, ⟨by decide, by decide, by decide +kernel⟩, by decide⟩, wd_965, wd_966⟩
def y_Reader_clear : MethodName := ⟨"FlowApply$Reader", "clear", "()V"⟩
theorem mi_Reader_clear : fa_MI y_Reader_clear prog_6_method_4_code 1 (Option.none : Option Jvm.ClassFile.FieldType) 0 := ⟨⟨wd_971, wd_4, ⟨by decide, by decide, by decide +kernel⟩, by decide⟩, wd_970, fa_in (List.mem_append_left _ (List.mem_of_getElem? (i := 42) (by decide +kernel))) rfl⟩
def y_Reader_advance : MethodName := ⟨"FlowApply$Reader", "advance", "()V"⟩
theorem mi_Reader_advance : fa_MI y_Reader_advance prog_6_method_6_code 2 (Option.none : Option Jvm.ClassFile.FieldType) 0 := ⟨⟨wd_977, wd_4, ⟨by decide, by decide, by decide +kernel⟩, by decide⟩, wd_976, fa_in (List.mem_append_left _ (List.mem_of_getElem? (i := 43) (by decide +kernel))) rfl⟩
def y_Reader_isBlank : MethodName := ⟨"FlowApply$Reader", "isBlank", "(I)Z"⟩
theorem mi_Reader_isBlank : fa_MS y_Reader_isBlank prog_6_method_7_code 1 (Option.some Jvm.ClassFile.FieldType.boolean) 1 := ⟨⟨wd_981, wd_4, ⟨by decide, by decide, by decide +kernel⟩, by decide⟩, wd_980⟩
def y_Reader_isLetter : MethodName := ⟨"FlowApply$Reader", "isLetter", "(I)Z"⟩
theorem mi_Reader_isLetter : fa_MS y_Reader_isLetter prog_6_method_8_code 1 (Option.some Jvm.ClassFile.FieldType.boolean) 1 := ⟨⟨wd_984, wd_4, ⟨by decide, by decide, by decide +kernel⟩, by decide⟩, wd_983⟩
def y_Reader_isKeyword : MethodName := ⟨"FlowApply$Reader", "isKeyword", "(I)Z"⟩
theorem mi_Reader_isKeyword : fa_MS y_Reader_isKeyword prog_6_method_11_code 1 (Option.some Jvm.ClassFile.FieldType.boolean) 1 := ⟨⟨wd_987, wd_4, ⟨by decide, by decide, by decide +kernel⟩, by decide⟩, wd_986⟩
def y_Reader_isDigit : MethodName := ⟨"FlowApply$Reader", "isDigit", "(I)Z"⟩
theorem mi_Reader_isDigit : fa_MS y_Reader_isDigit prog_6_method_9_code 1 (Option.some Jvm.ClassFile.FieldType.boolean) 1 := ⟨⟨wd_990, wd_4, ⟨by decide, by decide, by decide +kernel⟩, by decide⟩, wd_989⟩
def y_Reader_signAt : MethodName := ⟨"FlowApply$Reader", "signAt", "(I)I"⟩
theorem mi_Reader_signAt : fa_MS y_Reader_signAt prog_6_method_10_code 1 (Option.some Jvm.ClassFile.FieldType.int) 1 := ⟨⟨wd_993, wd_4, ⟨by decide, by decide, by decide +kernel⟩, by decide⟩, wd_992⟩
def y_Reader_global : MethodName := ⟨"FlowApply$Reader", "global", "()V"⟩
theorem mi_Reader_global : fa_MI y_Reader_global prog_6_method_15_code 2 (Option.none : Option Jvm.ClassFile.FieldType) 0 := ⟨⟨wd_998, wd_4, ⟨by decide, by decide, by decide +kernel⟩, by decide⟩, wd_997, fa_in (List.mem_append_left _ (List.mem_of_getElem? (i := 44) (by decide +kernel))) rfl⟩
def y_Reader_fail : MethodName := ⟨"FlowApply$Reader", "fail", "()V"⟩
theorem mi_Reader_fail : fa_MI y_Reader_fail prog_6_method_5_code 1 (Option.none : Option Jvm.ClassFile.FieldType) 0 := ⟨⟨wd_1002, wd_4, ⟨by decide, by decide, by decide +kernel⟩, by decide⟩, wd_1001, fa_in (List.mem_append_left _ (List.mem_of_getElem? (i := 45) (by decide +kernel))) rfl⟩
def y_Reader_nameVariable : MethodName := ⟨"FlowApply$Reader", "nameVariable", "(I)V"⟩
theorem mi_Reader_nameVariable : fa_MI y_Reader_nameVariable prog_6_method_16_code 2 (Option.none : Option Jvm.ClassFile.FieldType) 1 := ⟨⟨wd_1008, wd_4, ⟨by decide, by decide, by decide +kernel⟩, by decide⟩, wd_1007, fa_in (List.mem_append_left _ (List.mem_of_getElem? (i := 46) (by decide +kernel))) rfl⟩
def y_Reader_expect : MethodName := ⟨"FlowApply$Reader", "expect", "(I)V"⟩
theorem mi_Reader_expect : fa_MI y_Reader_expect prog_6_method_12_code 2 (Option.none : Option Jvm.ClassFile.FieldType) 1 := ⟨⟨wd_1013, wd_4, ⟨by decide, by decide, by decide +kernel⟩, by decide⟩, wd_1012, fa_in (List.mem_append_left _ (List.mem_of_getElem? (i := 47) (by decide +kernel))) rfl⟩
def y_Reader_expression : MethodName := ⟨"FlowApply$Reader", "expression", "()I"⟩
theorem mi_Reader_expression : fa_MI y_Reader_expression prog_6_method_17_code 1 (Option.some Jvm.ClassFile.FieldType.int) 0 := ⟨⟨wd_1017, wd_4, ⟨by decide, by decide, by decide +kernel⟩, by decide⟩, wd_1016, fa_in (List.mem_append_left _ (List.mem_of_getElem? (i := 48) (by decide +kernel))) rfl⟩
def y_Reader_lambda : MethodName := ⟨"FlowApply$Reader", "lambda", "()I"⟩
theorem mi_Reader_lambda : fa_MI y_Reader_lambda prog_6_method_18_code 4 (Option.some Jvm.ClassFile.FieldType.int) 0 := ⟨⟨wd_1021, wd_4, ⟨by decide, by decide, by decide +kernel⟩, by decide⟩, wd_1020, fa_in (List.mem_append_left _ (List.mem_of_getElem? (i := 49) (by decide +kernel))) rfl⟩
def y_Reader_countThing : MethodName := ⟨"FlowApply$Reader", "countThing", "()V"⟩
theorem mi_Reader_countThing : fa_MI y_Reader_countThing prog_6_method_13_code 1 (Option.none : Option Jvm.ClassFile.FieldType) 0 := ⟨⟨wd_1025, wd_4, ⟨by decide, by decide, by decide +kernel⟩, by decide⟩, wd_1024, fa_in (List.mem_append_left _ (List.mem_of_getElem? (i := 50) (by decide +kernel))) rfl⟩
def y_Reader_nest : MethodName := ⟨"FlowApply$Reader", "nest", "()Z"⟩
theorem mi_Reader_nest : fa_MI y_Reader_nest prog_6_method_14_code 1 (Option.some Jvm.ClassFile.FieldType.boolean) 0 := ⟨⟨wd_1029, wd_4, ⟨by decide, by decide, by decide +kernel⟩, by decide⟩, wd_1028, fa_in (List.mem_append_left _ (List.mem_of_getElem? (i := 51) (by decide +kernel))) rfl⟩
def y_Reader_choice : MethodName := ⟨"FlowApply$Reader", "choice", "()I"⟩
theorem mi_Reader_choice : fa_MI y_Reader_choice prog_6_method_19_code 4 (Option.some Jvm.ClassFile.FieldType.int) 0 := ⟨⟨wd_1035, wd_4, ⟨by decide, by decide, by decide +kernel⟩, by decide⟩, wd_1034, fa_in (List.mem_append_left _ (List.mem_of_getElem? (i := 52) (by decide +kernel))) rfl⟩
def y_Reader_let : MethodName := ⟨"FlowApply$Reader", "let", "()I"⟩
theorem mi_Reader_let : fa_MI y_Reader_let prog_6_method_20_code 4 (Option.some Jvm.ClassFile.FieldType.int) 0 := ⟨⟨wd_1041, wd_4, ⟨by decide, by decide, by decide +kernel⟩, by decide⟩, wd_1040, fa_in (List.mem_append_left _ (List.mem_of_getElem? (i := 53) (by decide +kernel))) rfl⟩
def y_Reader_test : MethodName := ⟨"FlowApply$Reader", "test", "()I"⟩
theorem mi_Reader_test : fa_MI y_Reader_test prog_6_method_21_code 3 (Option.some Jvm.ClassFile.FieldType.int) 0 := ⟨⟨wd_1045, wd_4, ⟨by decide, by decide, by decide +kernel⟩, by decide⟩, wd_1044, fa_in (List.mem_append_left _ (List.mem_of_getElem? (i := 54) (by decide +kernel))) rfl⟩
def y_Reader_sum : MethodName := ⟨"FlowApply$Reader", "sum", "()I"⟩
theorem mi_Reader_sum : fa_MI y_Reader_sum prog_6_method_22_code 5 (Option.some Jvm.ClassFile.FieldType.int) 0 := ⟨⟨wd_1049, wd_4, ⟨by decide, by decide, by decide +kernel⟩, by decide⟩, wd_1048, fa_in (List.mem_append_left _ (List.mem_of_getElem? (i := 55) (by decide +kernel))) rfl⟩
def y_Reader_product : MethodName := ⟨"FlowApply$Reader", "product", "()I"⟩
theorem mi_Reader_product : fa_MI y_Reader_product prog_6_method_23_code 5 (Option.some Jvm.ClassFile.FieldType.int) 0 := ⟨⟨wd_1053, wd_4, ⟨by decide, by decide, by decide +kernel⟩, by decide⟩, wd_1052, fa_in (List.mem_append_left _ (List.mem_of_getElem? (i := 56) (by decide +kernel))) rfl⟩
def y_Reader_chain : MethodName := ⟨"FlowApply$Reader", "chain", "()I"⟩
theorem mi_Reader_chain : fa_MI y_Reader_chain prog_6_method_25_code 5 (Option.some Jvm.ClassFile.FieldType.int) 0 := ⟨⟨wd_1057, wd_4, ⟨by decide, by decide, by decide +kernel⟩, by decide⟩, wd_1056, fa_in (List.mem_append_left _ (List.mem_of_getElem? (i := 57) (by decide +kernel))) rfl⟩
def y_Reader_atom : MethodName := ⟨"FlowApply$Reader", "atom", "()I"⟩
theorem mi_Reader_atom : fa_MI y_Reader_atom prog_6_method_27_code 3 (Option.some Jvm.ClassFile.FieldType.int) 0 := ⟨⟨wd_1061, wd_4, ⟨by decide, by decide, by decide +kernel⟩, by decide⟩, wd_1060, fa_in (List.mem_append_left _ (List.mem_of_getElem? (i := 58) (by decide +kernel))) rfl⟩
def y_Reader_inner : MethodName := ⟨"FlowApply$Reader", "inner", "()I"⟩
theorem mi_Reader_inner : fa_MI y_Reader_inner prog_6_method_29_code 2 (Option.some Jvm.ClassFile.FieldType.int) 0 := ⟨⟨wd_1065, wd_4, ⟨by decide, by decide, by decide +kernel⟩, by decide⟩, wd_1064, fa_in (List.mem_append_left _ (List.mem_of_getElem? (i := 59) (by decide +kernel))) rfl⟩
def y_Reader_leaf : MethodName := ⟨"FlowApply$Reader", "leaf", "(II)I"⟩
theorem mi_Reader_leaf : fa_MI y_Reader_leaf prog_6_method_28_code 3 (Option.some Jvm.ClassFile.FieldType.int) 2 := ⟨⟨wd_1069, wd_4, ⟨by decide, by decide, by decide +kernel⟩, by decide⟩, wd_1068, fa_in (List.mem_append_left _ (List.mem_of_getElem? (i := 60) (by decide +kernel))) rfl⟩
def y_Reader_variableNamed : MethodName := ⟨"FlowApply$Reader", "variableNamed", "(I)I"⟩
theorem mi_Reader_variableNamed : fa_MI y_Reader_variableNamed prog_6_method_30_code 3 (Option.some Jvm.ClassFile.FieldType.int) 1 := ⟨⟨wd_1074, wd_4, ⟨by decide, by decide, by decide +kernel⟩, by decide⟩, wd_1073, fa_in (List.mem_append_left _ (List.mem_of_getElem? (i := 61) (by decide +kernel))) rfl⟩
def y_Reader_startsAtom : MethodName := ⟨"FlowApply$Reader", "startsAtom", "()Z"⟩
theorem mi_Reader_startsAtom : fa_MI y_Reader_startsAtom prog_6_method_26_code 1 (Option.some Jvm.ClassFile.FieldType.boolean) 0 := ⟨⟨wd_1079, wd_4, ⟨by decide, by decide, by decide +kernel⟩, by decide⟩, wd_1078, fa_in (List.mem_append_left _ (List.mem_of_getElem? (i := 62) (by decide +kernel))) rfl⟩
def y_Reader_startOperator : MethodName := ⟨"FlowApply$Reader", "startOperator", "()V"⟩
theorem mi_Reader_startOperator : fa_MI y_Reader_startOperator prog_6_method_24_code 1 (Option.none : Option Jvm.ClassFile.FieldType) 0 := ⟨⟨wd_1083, wd_4, ⟨by decide, by decide, by decide +kernel⟩, by decide⟩, wd_1082, fa_in (List.mem_append_left _ (List.mem_of_getElem? (i := 63) (by decide +kernel))) rfl⟩
def y_Reader_told : MethodName := ⟨"FlowApply$Reader", "told", "()I"⟩
theorem mi_Reader_told : fa_MI y_Reader_told prog_6_method_3_code 1 (Option.some Jvm.ClassFile.FieldType.int) 0 := ⟨⟨wd_1155, wd_4, ⟨by decide, by decide, by decide +kernel⟩, by decide⟩, wd_1153, wd_1154⟩
def y_Face_function : MethodName := ⟨"FlowApply", "function", "(II)I"⟩
theorem mi_Face_function : fa_MI y_Face_function prog_1_method_8_code 3 (Option.some Jvm.ClassFile.FieldType.int) 2 := ⟨⟨wd_1180, wd_1, ⟨by decide, by decide, by decide +kernel⟩, by decide⟩, wd_1178, wd_1179⟩
def y_Face_needFunction : MethodName := ⟨"FlowApply", "needFunction", "(I)V"⟩
theorem mi_Face_needFunction : fa_MI y_Face_needFunction prog_1_method_9_code 2 (Option.none : Option Jvm.ClassFile.FieldType) 1 := ⟨⟨wd_1184, wd_1, ⟨by decide, by decide, by decide +kernel⟩, by decide⟩, wd_1183, fa_in (List.mem_append_left _ (List.mem_of_getElem? (i := 65) (by decide +kernel))) rfl⟩
def y_Program_home : MethodName := ⟨"FlowApply$Program", "home", "(I)I"⟩
theorem mi_Program_home : fa_MI y_Program_home prog_5_method_9_code 2 (Option.some Jvm.ClassFile.FieldType.int) 1 := ⟨⟨wd_1204, wd_5, ⟨by decide, by decide, by decide +kernel⟩, by decide⟩, wd_1202, wd_1203⟩
def y_Flow_countSitesOf : MethodName := ⟨"FlowApply$Flow", "countSitesOf", "(LFlowApply$Program;I)I"⟩
theorem mi_Flow_countSitesOf : fa_MI y_Flow_countSitesOf prog_2_method_17_code 5 (Option.some Jvm.ClassFile.FieldType.int) 2 := ⟨⟨wd_1213, wd_10, ⟨by decide, by decide, by decide +kernel⟩, by decide⟩, wd_1211, wd_1212⟩
def y_Face_field : MethodName := ⟨"FlowApply", "field", "(II)I"⟩
theorem mi_Face_field : fa_MI y_Face_field prog_1_method_11_code 3 (Option.some Jvm.ClassFile.FieldType.int) 2 := ⟨⟨wd_1236, wd_1, ⟨by decide, by decide, by decide +kernel⟩, by decide⟩, wd_1234, wd_1235⟩
def y_Writer_showName : MethodName := ⟨"FlowApply$Writer", "showName", "(I)I"⟩
theorem mi_Writer_showName : fa_MI y_Writer_showName prog_10_method_2_code 2 (Option.some Jvm.ClassFile.FieldType.int) 1 := ⟨⟨wd_1241, wd_6, ⟨by decide, by decide, by decide +kernel⟩, by decide⟩, wd_1239, wd_1240⟩
def y_Face_type : MethodName := ⟨"FlowApply", "type", "(I)I"⟩
theorem mi_Face_type : fa_MI y_Face_type prog_1_method_12_code 2 (Option.some Jvm.ClassFile.FieldType.int) 1 := ⟨⟨wd_1248, wd_1, ⟨by decide, by decide, by decide +kernel⟩, by decide⟩, wd_1246, wd_1247⟩
def y_Face_alike : MethodName := ⟨"FlowApply", "alike", "(II)Z"⟩
theorem mi_Face_alike : fa_MI y_Face_alike prog_1_method_14_code 3 (Option.some Jvm.ClassFile.FieldType.boolean) 2 := ⟨⟨wd_1255, wd_1, ⟨by decide, by decide, by decide +kernel⟩, by decide⟩, wd_1253, wd_1254⟩
def y_Face_site : MethodName := ⟨"FlowApply", "site", "(II)I"⟩
theorem mi_Face_site : fa_MI y_Face_site prog_1_method_15_code 5 (Option.some Jvm.ClassFile.FieldType.int) 2 := ⟨⟨wd_1263, wd_1, ⟨by decide, by decide, by decide +kernel⟩, by decide⟩, wd_1261, wd_1262⟩
def y_Face_split : MethodName := ⟨"FlowApply", "split", "(II)I"⟩
theorem mi_Face_split : fa_MI y_Face_split prog_1_method_16_code 3 (Option.some Jvm.ClassFile.FieldType.int) 2 := ⟨⟨wd_1278, wd_1, ⟨by decide, by decide, by decide +kernel⟩, by decide⟩, wd_1276, wd_1277⟩
def y_Face_needSplit : MethodName := ⟨"FlowApply", "needSplit", "(I)V"⟩
theorem mi_Face_needSplit : fa_MI y_Face_needSplit prog_1_method_17_code 2 (Option.none : Option Jvm.ClassFile.FieldType) 1 := ⟨⟨wd_1283, wd_1, ⟨by decide, by decide, by decide +kernel⟩, by decide⟩, wd_1282, fa_in (List.mem_append_left _ (List.mem_of_getElem? (i := 66) (by decide +kernel))) rfl⟩
def y_Groups_manyWithCases : MethodName := ⟨"FlowApply$Groups", "manyWithCases", "(II)I"⟩
theorem mi_Groups_manyWithCases : fa_MI y_Groups_manyWithCases prog_3_method_9_code 5 (Option.some Jvm.ClassFile.FieldType.int) 2 := ⟨⟨wd_1289, wd_11, ⟨by decide, by decide, by decide +kernel⟩, by decide⟩, wd_1287, wd_1288⟩
def y_Groups_members : MethodName := ⟨"FlowApply$Groups", "members", "(II)I"⟩
theorem mi_Groups_members : fa_MI y_Groups_members prog_3_method_7_code 3 (Option.some Jvm.ClassFile.FieldType.int) 2 := ⟨⟨wd_1293, wd_11, ⟨by decide, by decide, by decide +kernel⟩, by decide⟩, wd_1291, wd_1292⟩
def y_Groups_mostCases : MethodName := ⟨"FlowApply$Groups", "mostCases", "(II)I"⟩
theorem mi_Groups_mostCases : fa_MI y_Groups_mostCases prog_3_method_10_code 5 (Option.some Jvm.ClassFile.FieldType.int) 2 := ⟨⟨wd_1298, wd_11, ⟨by decide, by decide, by decide +kernel⟩, by decide⟩, wd_1296, wd_1297⟩
def y_Face_group : MethodName := ⟨"FlowApply", "group", "(IIZ)I"⟩
theorem mi_Face_group : fa_MI y_Face_group prog_1_method_18_code 5 (Option.some Jvm.ClassFile.FieldType.int) 3 := ⟨⟨wd_1307, wd_1, ⟨by decide, by decide, by decide +kernel⟩, by decide⟩, wd_1305, wd_1306⟩
def y_Face_run : MethodName := ⟨"FlowApply", "run", "(II)I"⟩
theorem mi_Face_run : fa_MI y_Face_run prog_1_method_19_code 3 (Option.some Jvm.ClassFile.FieldType.int) 2 := ⟨⟨wd_1316, wd_1, ⟨by decide, by decide, by decide +kernel⟩, by decide⟩, wd_1314, wd_1315⟩
def y_Face_needHow : MethodName := ⟨"FlowApply", "needHow", "(I)V"⟩
theorem mi_Face_needHow : fa_MI y_Face_needHow prog_1_method_20_code 2 (Option.none : Option Jvm.ClassFile.FieldType) 1 := ⟨⟨wd_1320, wd_1, ⟨by decide, by decide, by decide +kernel⟩, by decide⟩, wd_1319, fa_in (List.mem_append_left _ (List.mem_of_getElem? (i := 67) (by decide +kernel))) rfl⟩
def y_Machine_perform : MethodName := ⟨"FlowApply$Machine", "perform", "(LFlowApply$Scene;I)V"⟩
theorem mi_Machine_perform : fa_MI y_Machine_perform prog_4_method_2_code 5 (Option.none : Option Jvm.ClassFile.FieldType) 2 := ⟨⟨wd_1326, wd_7, ⟨by decide, by decide, by decide +kernel⟩, by decide⟩, wd_1324, wd_1325⟩
def y_Machine_clear : MethodName := ⟨"FlowApply$Machine", "clear", "()V"⟩
theorem mi_Machine_clear : fa_MI y_Machine_clear prog_4_method_4_code 1 (Option.none : Option Jvm.ClassFile.FieldType) 0 := ⟨⟨wd_1330, wd_7, ⟨by decide, by decide, by decide +kernel⟩, by decide⟩, wd_1329, fa_in (List.mem_append_left _ (List.mem_of_getElem? (i := 68) (by decide +kernel))) rfl⟩
def y_Groups_allCases : MethodName := ⟨"FlowApply$Groups", "allCases", "(II)I"⟩
theorem mi_Groups_allCases : fa_MI y_Groups_allCases prog_3_method_11_code 5 (Option.some Jvm.ClassFile.FieldType.int) 2 := ⟨⟨wd_1335, wd_11, ⟨by decide, by decide, by decide +kernel⟩, by decide⟩, wd_1333, wd_1334⟩
def y_Machine_begin : MethodName := ⟨"FlowApply$Machine", "begin", "(II)V"⟩
theorem mi_Machine_begin : fa_MI y_Machine_begin prog_4_method_7_code 3 (Option.none : Option Jvm.ClassFile.FieldType) 2 := ⟨⟨wd_1339, wd_7, ⟨by decide, by decide, by decide +kernel⟩, by decide⟩, wd_1338, fa_in (List.mem_append_left _ (List.mem_of_getElem? (i := 69) (by decide +kernel))) rfl⟩
def y_Machine_go : MethodName := ⟨"FlowApply$Machine", "go", "(LFlowApply$Program;II)V"⟩
theorem mi_Machine_go : fa_MI y_Machine_go prog_4_method_12_code 4 (Option.none : Option Jvm.ClassFile.FieldType) 3 := ⟨⟨wd_1347, wd_7, ⟨by decide, by decide, by decide +kernel⟩, by decide⟩, wd_1346, fa_in (List.mem_append_left _ (List.mem_of_getElem? (i := 70) (by decide +kernel))) rfl⟩
def y_Machine_frame : MethodName := ⟨"FlowApply$Machine", "frame", "()I"⟩
theorem mi_Machine_frame : fa_MI y_Machine_frame prog_4_method_9_code 1 (Option.some Jvm.ClassFile.FieldType.int) 0 := ⟨⟨wd_1353, wd_7, ⟨by decide, by decide, by decide +kernel⟩, by decide⟩, wd_1352, fa_in (List.mem_append_left _ (List.mem_of_getElem? (i := 71) (by decide +kernel))) rfl⟩
def y_Row_last : MethodName := ⟨"FlowApply$Row", "last", "()I"⟩
theorem mi_Row_last : fa_MI y_Row_last prog_7_method_8_code 1 (Option.some Jvm.ClassFile.FieldType.int) 0 := ⟨⟨wd_1357, wd_2, ⟨by decide, by decide, by decide +kernel⟩, by decide⟩, wd_1355, wd_1356⟩
def y_Machine_handed : MethodName := ⟨"FlowApply$Machine", "handed", "(I)I"⟩
theorem mi_Machine_handed : fa_MI y_Machine_handed prog_4_method_10_code 2 (Option.some Jvm.ClassFile.FieldType.int) 1 := ⟨⟨wd_1363, wd_7, ⟨by decide, by decide, by decide +kernel⟩, by decide⟩, wd_1362, fa_in (List.mem_append_left _ (List.mem_of_getElem? (i := 72) (by decide +kernel))) rfl⟩
def y_Machine_goChoice : MethodName := ⟨"FlowApply$Machine", "goChoice", "(LFlowApply$Program;II)V"⟩
theorem mi_Machine_goChoice : fa_MI y_Machine_goChoice prog_4_method_13_code 4 (Option.none : Option Jvm.ClassFile.FieldType) 3 := ⟨⟨wd_1367, wd_7, ⟨by decide, by decide, by decide +kernel⟩, by decide⟩, wd_1366, fa_in (List.mem_append_left _ (List.mem_of_getElem? (i := 73) (by decide +kernel))) rfl⟩
def y_Machine_beginPart : MethodName := ⟨"FlowApply$Machine", "beginPart", "(LFlowApply$Program;II)V"⟩
theorem mi_Machine_beginPart : fa_MI y_Machine_beginPart prog_4_method_8_code 4 (Option.none : Option Jvm.ClassFile.FieldType) 3 := ⟨⟨wd_1371, wd_7, ⟨by decide, by decide, by decide +kernel⟩, by decide⟩, wd_1370, fa_in (List.mem_append_left _ (List.mem_of_getElem? (i := 74) (by decide +kernel))) rfl⟩
def y_Machine_goLet : MethodName := ⟨"FlowApply$Machine", "goLet", "(LFlowApply$Program;II)V"⟩
theorem mi_Machine_goLet : fa_MI y_Machine_goLet prog_4_method_14_code 4 (Option.none : Option Jvm.ClassFile.FieldType) 3 := ⟨⟨wd_1376, wd_7, ⟨by decide, by decide, by decide +kernel⟩, by decide⟩, wd_1375, fa_in (List.mem_append_left _ (List.mem_of_getElem? (i := 75) (by decide +kernel))) rfl⟩
def y_Machine_goOperator : MethodName := ⟨"FlowApply$Machine", "goOperator", "(LFlowApply$Program;II)V"⟩
theorem mi_Machine_goOperator : fa_MI y_Machine_goOperator prog_4_method_15_code 6 (Option.none : Option Jvm.ClassFile.FieldType) 3 := ⟨⟨wd_1381, wd_7, ⟨by decide, by decide, by decide +kernel⟩, by decide⟩, wd_1380, fa_in (List.mem_append_left _ (List.mem_of_getElem? (i := 76) (by decide +kernel))) rfl⟩
def y_Machine_divide : MethodName := ⟨"FlowApply$Machine", "divide", "(II)V"⟩
theorem mi_Machine_divide : fa_MI y_Machine_divide prog_4_method_16_code 3 (Option.none : Option Jvm.ClassFile.FieldType) 2 := ⟨⟨wd_1386, wd_7, ⟨by decide, by decide, by decide +kernel⟩, by decide⟩, wd_1385, fa_in (List.mem_append_left _ (List.mem_of_getElem? (i := 77) (by decide +kernel))) rfl⟩
def y_Machine_goSite : MethodName := ⟨"FlowApply$Machine", "goSite", "(LFlowApply$Program;II)V"⟩
theorem mi_Machine_goSite : fa_MI y_Machine_goSite prog_4_method_17_code 6 (Option.none : Option Jvm.ClassFile.FieldType) 3 := ⟨⟨wd_1390, wd_7, ⟨by decide, by decide, by decide +kernel⟩, by decide⟩, wd_1389, fa_in (List.mem_append_left _ (List.mem_of_getElem? (i := 78) (by decide +kernel))) rfl⟩
def y_Machine_functionOf : MethodName := ⟨"FlowApply$Machine", "functionOf", "(I)I"⟩
theorem mi_Machine_functionOf : fa_MS y_Machine_functionOf prog_4_method_11_code 1 (Option.some Jvm.ClassFile.FieldType.int) 1 := ⟨⟨wd_1393, wd_7, ⟨by decide, by decide, by decide +kernel⟩, by decide⟩, wd_1392⟩
def y_Machine_enter : MethodName := ⟨"FlowApply$Machine", "enter", "(LFlowApply$Program;II)V"⟩
theorem mi_Machine_enter : fa_MI y_Machine_enter prog_4_method_18_code 5 (Option.none : Option Jvm.ClassFile.FieldType) 3 := ⟨⟨wd_1398, wd_7, ⟨by decide, by decide, by decide +kernel⟩, by decide⟩, wd_1397, fa_in (List.mem_append_left _ (List.mem_of_getElem? (i := 79) (by decide +kernel))) rfl⟩
def y_Row_repeat : MethodName := ⟨"FlowApply$Row", "repeat", "(III)V"⟩
theorem mi_Row_repeat : fa_MI y_Row_repeat prog_7_method_12_code 4 (Option.none : Option Jvm.ClassFile.FieldType) 3 := ⟨⟨wd_1402, wd_2, ⟨by decide, by decide, by decide +kernel⟩, by decide⟩, wd_1400, wd_1401⟩
def y_Machine_finish : MethodName := ⟨"FlowApply$Machine", "finish", "(Z)V"⟩
theorem mi_Machine_finish : fa_MI y_Machine_finish prog_4_method_5_code 3 (Option.none : Option Jvm.ClassFile.FieldType) 1 := ⟨⟨wd_1411, wd_7, ⟨by decide, by decide, by decide +kernel⟩, by decide⟩, wd_1410, fa_in (List.mem_append_left _ (List.mem_of_getElem? (i := 80) (by decide +kernel))) rfl⟩
def y_Face_blame : MethodName := ⟨"FlowApply", "blame", "(II)I"⟩
theorem mi_Face_blame : fa_MI y_Face_blame prog_1_method_21_code 3 (Option.some Jvm.ClassFile.FieldType.int) 2 := ⟨⟨wd_1418, wd_1, ⟨by decide, by decide, by decide +kernel⟩, by decide⟩, wd_1416, wd_1417⟩
def y_Machine_blamed : MethodName := ⟨"FlowApply$Machine", "blamed", "(I)I"⟩
theorem mi_Machine_blamed : fa_MI y_Machine_blamed prog_4_method_6_code 2 (Option.some Jvm.ClassFile.FieldType.int) 1 := ⟨⟨wd_1422, wd_7, ⟨by decide, by decide, by decide +kernel⟩, by decide⟩, wd_1420, wd_1421⟩
def y_Face_form : MethodName := ⟨"FlowApply", "form", "(I)I"⟩
theorem mi_Face_form : fa_MI y_Face_form prog_1_method_22_code 2 (Option.some Jvm.ClassFile.FieldType.int) 1 := ⟨⟨wd_1429, wd_1, ⟨by decide, by decide, by decide +kernel⟩, by decide⟩, wd_1427, wd_1428⟩
def y_Writer_showForm : MethodName := ⟨"FlowApply$Writer", "showForm", "(LFlowApply$Scene;I)I"⟩
theorem mi_Writer_showForm : fa_MI y_Writer_showForm prog_10_method_4_code 6 (Option.some Jvm.ClassFile.FieldType.int) 2 := ⟨⟨wd_1433, wd_6, ⟨by decide, by decide, by decide +kernel⟩, by decide⟩, wd_1431, wd_1432⟩
def y_Writer_putCaseStart : MethodName := ⟨"FlowApply$Writer", "putCaseStart", "(LFlowApply$Program;II)V"⟩
theorem mi_Writer_putCaseStart : fa_MI y_Writer_putCaseStart prog_10_method_5_code 4 (Option.none : Option Jvm.ClassFile.FieldType) 3 := ⟨⟨wd_1440, wd_6, ⟨by decide, by decide, by decide +kernel⟩, by decide⟩, wd_1439, fa_in (List.mem_append_left _ (List.mem_of_getElem? (i := 81) (by decide +kernel))) rfl⟩
def y_Face_ring : MethodName := ⟨"FlowApply", "ring", "(I)I"⟩
theorem mi_Face_ring : fa_MI y_Face_ring prog_1_method_27_code 2 (Option.some Jvm.ClassFile.FieldType.int) 1 := ⟨⟨wd_1450, wd_1, ⟨by decide, by decide, by decide +kernel⟩, by decide⟩, wd_1448, wd_1449⟩
def y_Face_far : MethodName := ⟨"FlowApply", "far", "(II)I"⟩
theorem mi_Face_far : fa_MI y_Face_far prog_1_method_28_code 3 (Option.some Jvm.ClassFile.FieldType.int) 2 := ⟨⟨wd_1458, wd_1, ⟨by decide, by decide, by decide +kernel⟩, by decide⟩, wd_1456, wd_1457⟩
def y_Flow_distance : MethodName := ⟨"FlowApply$Flow", "distance", "(II)I"⟩
theorem mi_Flow_distance : fa_MI y_Flow_distance prog_2_method_15_code 5 (Option.some Jvm.ClassFile.FieldType.int) 2 := ⟨⟨wd_1462, wd_10, ⟨by decide, by decide, by decide +kernel⟩, by decide⟩, wd_1460, wd_1461⟩
def y_Flow_callsOf : MethodName := ⟨"FlowApply$Flow", "callsOf", "(I)I"⟩
theorem mi_Flow_callsOf : fa_MI y_Flow_callsOf prog_2_method_16_code 4 (Option.some Jvm.ClassFile.FieldType.int) 1 := ⟨⟨wd_1466, wd_10, ⟨by decide, by decide, by decide +kernel⟩, by decide⟩, wd_1465, fa_in (List.mem_append_left _ (List.mem_of_getElem? (i := 82) (by decide +kernel))) rfl⟩
def y_Mod_thrown : MethodName := ⟨"FlowApplyModel", "thrown", "()I"⟩
theorem mi_Mod_thrown : fa_MI y_Mod_thrown prog_12_method_1_code 1 (Option.some Jvm.ClassFile.FieldType.int) 0 := ⟨⟨wd_1470, wd_13, ⟨by decide, by decide, by decide +kernel⟩, by decide⟩, wd_1468, wd_1469⟩
def y_Mod_feed : MethodName := ⟨"FlowApplyModel", "feed", "(IIIII)I"⟩
theorem mi_Mod_feed : fa_MI y_Mod_feed prog_12_method_6_code 7 (Option.some Jvm.ClassFile.FieldType.int) 5 := ⟨⟨wd_1474, wd_13, ⟨by decide, by decide, by decide +kernel⟩, by decide⟩, wd_1472, wd_1473⟩
def y_Mod_end : MethodName := ⟨"FlowApplyModel", "end", "(I)Z"⟩
theorem mi_Mod_end : fa_MI y_Mod_end prog_12_method_7_code 2 (Option.some Jvm.ClassFile.FieldType.boolean) 1 := ⟨⟨wd_1478, wd_13, ⟨by decide, by decide, by decide +kernel⟩, by decide⟩, wd_1476, wd_1477⟩
def y_Mod_init : MethodName := ⟨"FlowApplyModel", "<init>", "()V"⟩
theorem mi_Mod_init : fa_MN y_Mod_init prog_12_method_67_code 2 0 := ⟨⟨wd_1483, wd_13, ⟨by decide, by decide, by decide +kernel⟩, by decide⟩, wd_1482, rfl⟩
def y_Mod_readsAll : MethodName := ⟨"FlowApplyModel", "readsAll", "(Z)Z"⟩
theorem mi_Mod_readsAll : fa_MI y_Mod_readsAll prog_12_method_68_code 2 (Option.some Jvm.ClassFile.FieldType.boolean) 1 := ⟨⟨wd_1490, wd_13, ⟨by decide, by decide, by decide +kernel⟩, by decide⟩, wd_1489, fa_in (List.mem_append_left _ (List.mem_of_getElem? (i := 83) (by decide +kernel))) rfl⟩
def y_Mod_reads : MethodName := ⟨"FlowApplyModel", "reads", "()Z"⟩
theorem mi_Mod_reads : fa_MI y_Mod_reads prog_12_method_36_code 1 (Option.some Jvm.ClassFile.FieldType.boolean) 0 := ⟨⟨wd_1494, wd_13, ⟨by decide, by decide, by decide +kernel⟩, by decide⟩, wd_1493, fa_in (List.mem_append_left _ (List.mem_of_getElem? (i := 84) (by decide +kernel))) rfl⟩
def y_Mod_hasFailed : MethodName := ⟨"FlowApplyModel", "hasFailed", "()Z"⟩
theorem mi_Mod_hasFailed : fa_MI y_Mod_hasFailed prog_12_method_11_code 1 (Option.some Jvm.ClassFile.FieldType.boolean) 0 := ⟨⟨wd_1498, wd_13, ⟨by decide, by decide, by decide +kernel⟩, by decide⟩, wd_1497, fa_in (List.mem_append_left _ (List.mem_of_getElem? (i := 85) (by decide +kernel))) rfl⟩
def y_Mod_wordAhead : MethodName := ⟨"FlowApplyModel", "wordAhead", "()I"⟩
theorem mi_Mod_wordAhead : fa_MI y_Mod_wordAhead prog_12_method_14_code 3 (Option.some Jvm.ClassFile.FieldType.int) 0 := ⟨⟨wd_1502, wd_13, ⟨by decide, by decide, by decide +kernel⟩, by decide⟩, wd_1501, fa_in (List.mem_append_left _ (List.mem_of_getElem? (i := 86) (by decide +kernel))) rfl⟩
def y_Mod_blanks : MethodName := ⟨"FlowApplyModel", "blanks", "()V"⟩
theorem mi_Mod_blanks : fa_MI y_Mod_blanks prog_12_method_9_code 1 (Option.none : Option Jvm.ClassFile.FieldType) 0 := ⟨⟨wd_1506, wd_13, ⟨by decide, by decide, by decide +kernel⟩, by decide⟩, wd_1505, fa_in (List.mem_append_left _ (List.mem_of_getElem? (i := 87) (by decide +kernel))) rfl⟩
def y_Mod_isAt : MethodName := ⟨"FlowApplyModel", "isAt", "(II)Z"⟩
theorem mi_Mod_isAt : fa_MI y_Mod_isAt prog_12_method_8_code 3 (Option.some Jvm.ClassFile.FieldType.boolean) 2 := ⟨⟨wd_1510, wd_13, ⟨by decide, by decide, by decide +kernel⟩, by decide⟩, wd_1509, fa_in (List.mem_append_left _ (List.mem_of_getElem? (i := 88) (by decide +kernel))) rfl⟩
def y_Mod_global : MethodName := ⟨"FlowApplyModel", "global", "()V"⟩
theorem mi_Mod_global : fa_MI y_Mod_global prog_12_method_35_code 5 (Option.none : Option Jvm.ClassFile.FieldType) 0 := ⟨⟨wd_1517, wd_13, ⟨by decide, by decide, by decide +kernel⟩, by decide⟩, wd_1516, fa_in (List.mem_append_left _ (List.mem_of_getElem? (i := 89) (by decide +kernel))) rfl⟩
def y_Mod_fails : MethodName := ⟨"FlowApplyModel", "fails", "(I)I"⟩
theorem mi_Mod_fails : fa_MI y_Mod_fails prog_12_method_10_code 2 (Option.some Jvm.ClassFile.FieldType.int) 1 := ⟨⟨wd_1521, wd_13, ⟨by decide, by decide, by decide +kernel⟩, by decide⟩, wd_1520, fa_in (List.mem_append_left _ (List.mem_of_getElem? (i := 90) (by decide +kernel))) rfl⟩
def y_Mod_asksWord : MethodName := ⟨"FlowApplyModel", "asksWord", "(I)V"⟩
theorem mi_Mod_asksWord : fa_MI y_Mod_asksWord prog_12_method_18_code 3 (Option.none : Option Jvm.ClassFile.FieldType) 1 := ⟨⟨wd_1525, wd_13, ⟨by decide, by decide, by decide +kernel⟩, by decide⟩, wd_1524, fa_in (List.mem_append_left _ (List.mem_of_getElem? (i := 91) (by decide +kernel))) rfl⟩
def y_Mod_takesWord : MethodName := ⟨"FlowApplyModel", "takesWord", "(I)Z"⟩
theorem mi_Mod_takesWord : fa_MI y_Mod_takesWord prog_12_method_17_code 2 (Option.some Jvm.ClassFile.FieldType.boolean) 1 := ⟨⟨wd_1529, wd_13, ⟨by decide, by decide, by decide +kernel⟩, by decide⟩, wd_1528, fa_in (List.mem_append_left _ (List.mem_of_getElem? (i := 92) (by decide +kernel))) rfl⟩
def y_Mod_gives : MethodName := ⟨"FlowApplyModel", "gives", "()I"⟩
theorem mi_Mod_gives : fa_MI y_Mod_gives prog_12_method_19_code 3 (Option.some Jvm.ClassFile.FieldType.int) 0 := ⟨⟨wd_1533, wd_13, ⟨by decide, by decide, by decide +kernel⟩, by decide⟩, wd_1532, fa_in (List.mem_append_left _ (List.mem_of_getElem? (i := 93) (by decide +kernel))) rfl⟩
def y_Mod_isOwn : MethodName := ⟨"FlowApplyModel", "isOwn", "(I)Z"⟩
theorem mi_Mod_isOwn : fa_MS y_Mod_isOwn prog_12_method_16_code 1 (Option.some Jvm.ClassFile.FieldType.boolean) 1 := ⟨⟨wd_1536, wd_13, ⟨by decide, by decide, by decide +kernel⟩, by decide⟩, wd_1535⟩
def y_Mod_asks : MethodName := ⟨"FlowApplyModel", "asks", "(I)V"⟩
theorem mi_Mod_asks : fa_MI y_Mod_asks prog_12_method_13_code 3 (Option.none : Option Jvm.ClassFile.FieldType) 1 := ⟨⟨wd_1552, wd_13, ⟨by decide, by decide, by decide +kernel⟩, by decide⟩, wd_1551, fa_in (List.mem_append_left _ (List.mem_of_getElem? (i := 94) (by decide +kernel))) rfl⟩
def y_Mod_takes : MethodName := ⟨"FlowApplyModel", "takes", "(I)Z"⟩
theorem mi_Mod_takes : fa_MI y_Mod_takes prog_12_method_12_code 2 (Option.some Jvm.ClassFile.FieldType.boolean) 1 := ⟨⟨wd_1556, wd_13, ⟨by decide, by decide, by decide +kernel⟩, by decide⟩, wd_1555, fa_in (List.mem_append_left _ (List.mem_of_getElem? (i := 95) (by decide +kernel))) rfl⟩
def y_Mod_sees : MethodName := ⟨"FlowApplyModel", "sees", "(III)I"⟩
theorem mi_Mod_sees : fa_MI y_Mod_sees prog_12_method_23_code 4 (Option.some Jvm.ClassFile.FieldType.int) 3 := ⟨⟨wd_1560, wd_13, ⟨by decide, by decide, by decide +kernel⟩, by decide⟩, wd_1559, fa_in (List.mem_append_left _ (List.mem_of_getElem? (i := 96) (by decide +kernel))) rfl⟩
def y_Mod_expression : MethodName := ⟨"FlowApplyModel", "expression", "()I"⟩
theorem mi_Mod_expression : fa_MI y_Mod_expression prog_12_method_24_code 2 (Option.some Jvm.ClassFile.FieldType.int) 0 := ⟨⟨wd_1564, wd_13, ⟨by decide, by decide, by decide +kernel⟩, by decide⟩, wd_1563, fa_in (List.mem_append_left _ (List.mem_of_getElem? (i := 97) (by decide +kernel))) rfl⟩
def y_Mod_lambda : MethodName := ⟨"FlowApplyModel", "lambda", "()I"⟩
theorem mi_Mod_lambda : fa_MI y_Mod_lambda prog_12_method_25_code 6 (Option.some Jvm.ClassFile.FieldType.int) 0 := ⟨⟨wd_1568, wd_13, ⟨by decide, by decide, by decide +kernel⟩, by decide⟩, wd_1567, fa_in (List.mem_append_left _ (List.mem_of_getElem? (i := 98) (by decide +kernel))) rfl⟩
def y_Mod_begins : MethodName := ⟨"FlowApplyModel", "begins", "(I)Z"⟩
theorem mi_Mod_begins : fa_MI y_Mod_begins prog_12_method_21_code 3 (Option.some Jvm.ClassFile.FieldType.boolean) 1 := ⟨⟨wd_1572, wd_13, ⟨by decide, by decide, by decide +kernel⟩, by decide⟩, wd_1571, fa_in (List.mem_append_left _ (List.mem_of_getElem? (i := 99) (by decide +kernel))) rfl⟩
def y_Mod_opens : MethodName := ⟨"FlowApplyModel", "opens", "(I)Z"⟩
theorem mi_Mod_opens : fa_MI y_Mod_opens prog_12_method_22_code 3 (Option.some Jvm.ClassFile.FieldType.boolean) 1 := ⟨⟨wd_1576, wd_13, ⟨by decide, by decide, by decide +kernel⟩, by decide⟩, wd_1575, fa_in (List.mem_append_left _ (List.mem_of_getElem? (i := 100) (by decide +kernel))) rfl⟩
def y_Mod_node : MethodName := ⟨"FlowApplyModel", "node", "(IIIII)I"⟩
theorem mi_Mod_node : fa_MI y_Mod_node prog_12_method_20_code 6 (Option.some Jvm.ClassFile.FieldType.int) 5 := ⟨⟨wd_1580, wd_13, ⟨by decide, by decide, by decide +kernel⟩, by decide⟩, wd_1579, fa_in (List.mem_append_left _ (List.mem_of_getElem? (i := 101) (by decide +kernel))) rfl⟩
def y_Mod_choice : MethodName := ⟨"FlowApplyModel", "choice", "()I"⟩
theorem mi_Mod_choice : fa_MI y_Mod_choice prog_12_method_26_code 5 (Option.some Jvm.ClassFile.FieldType.int) 0 := ⟨⟨wd_1584, wd_13, ⟨by decide, by decide, by decide +kernel⟩, by decide⟩, wd_1583, fa_in (List.mem_append_left _ (List.mem_of_getElem? (i := 102) (by decide +kernel))) rfl⟩
def y_Mod_let : MethodName := ⟨"FlowApplyModel", "let", "()I"⟩
theorem mi_Mod_let : fa_MI y_Mod_let prog_12_method_27_code 6 (Option.some Jvm.ClassFile.FieldType.int) 0 := ⟨⟨wd_1588, wd_13, ⟨by decide, by decide, by decide +kernel⟩, by decide⟩, wd_1587, fa_in (List.mem_append_left _ (List.mem_of_getElem? (i := 103) (by decide +kernel))) rfl⟩
def y_Mod_test : MethodName := ⟨"FlowApplyModel", "test", "()I"⟩
theorem mi_Mod_test : fa_MI y_Mod_test prog_12_method_28_code 3 (Option.some Jvm.ClassFile.FieldType.int) 0 := ⟨⟨wd_1592, wd_13, ⟨by decide, by decide, by decide +kernel⟩, by decide⟩, wd_1591, fa_in (List.mem_append_left _ (List.mem_of_getElem? (i := 104) (by decide +kernel))) rfl⟩
def y_Mod_sum : MethodName := ⟨"FlowApplyModel", "sum", "()I"⟩
theorem mi_Mod_sum : fa_MI y_Mod_sum prog_12_method_29_code 4 (Option.some Jvm.ClassFile.FieldType.int) 0 := ⟨⟨wd_1596, wd_13, ⟨by decide, by decide, by decide +kernel⟩, by decide⟩, wd_1595, fa_in (List.mem_append_left _ (List.mem_of_getElem? (i := 105) (by decide +kernel))) rfl⟩
def y_Mod_product : MethodName := ⟨"FlowApplyModel", "product", "()I"⟩
theorem mi_Mod_product : fa_MI y_Mod_product prog_12_method_30_code 4 (Option.some Jvm.ClassFile.FieldType.int) 0 := ⟨⟨wd_1600, wd_13, ⟨by decide, by decide, by decide +kernel⟩, by decide⟩, wd_1599, fa_in (List.mem_append_left _ (List.mem_of_getElem? (i := 106) (by decide +kernel))) rfl⟩
def y_Mod_call : MethodName := ⟨"FlowApplyModel", "call", "()I"⟩
theorem mi_Mod_call : fa_MI y_Mod_call prog_12_method_32_code 4 (Option.some Jvm.ClassFile.FieldType.int) 0 := ⟨⟨wd_1604, wd_13, ⟨by decide, by decide, by decide +kernel⟩, by decide⟩, wd_1603, fa_in (List.mem_append_left _ (List.mem_of_getElem? (i := 107) (by decide +kernel))) rfl⟩
def y_Mod_atom : MethodName := ⟨"FlowApplyModel", "atom", "()I"⟩
theorem mi_Mod_atom : fa_MI y_Mod_atom prog_12_method_33_code 4 (Option.some Jvm.ClassFile.FieldType.int) 0 := ⟨⟨wd_1608, wd_13, ⟨by decide, by decide, by decide +kernel⟩, by decide⟩, wd_1607, fa_in (List.mem_append_left _ (List.mem_of_getElem? (i := 108) (by decide +kernel))) rfl⟩
def y_Mod_number : MethodName := ⟨"FlowApplyModel", "number", "()I"⟩
theorem mi_Mod_number : fa_MI y_Mod_number prog_12_method_34_code 3 (Option.some Jvm.ClassFile.FieldType.int) 0 := ⟨⟨wd_1612, wd_13, ⟨by decide, by decide, by decide +kernel⟩, by decide⟩, wd_1611, fa_in (List.mem_append_left _ (List.mem_of_getElem? (i := 109) (by decide +kernel))) rfl⟩
def y_Mod_isAtomAhead : MethodName := ⟨"FlowApplyModel", "isAtomAhead", "()Z"⟩
theorem mi_Mod_isAtomAhead : fa_MI y_Mod_isAtomAhead prog_12_method_31_code 2 (Option.some Jvm.ClassFile.FieldType.boolean) 0 := ⟨⟨wd_1616, wd_13, ⟨by decide, by decide, by decide +kernel⟩, by decide⟩, wd_1615, fa_in (List.mem_append_left _ (List.mem_of_getElem? (i := 110) (by decide +kernel))) rfl⟩
def y_Mod_renumbers : MethodName := ⟨"FlowApplyModel", "renumbers", "()V"⟩
theorem mi_Mod_renumbers : fa_MI y_Mod_renumbers prog_12_method_40_code 3 (Option.none : Option Jvm.ClassFile.FieldType) 0 := ⟨⟨wd_1620, wd_13, ⟨by decide, by decide, by decide +kernel⟩, by decide⟩, wd_1619, fa_in (List.mem_append_left _ (List.mem_of_getElem? (i := 111) (by decide +kernel))) rfl⟩
def y_Mod_binderNumbered : MethodName := ⟨"FlowApplyModel", "binderNumbered", "(I)I"⟩
theorem mi_Mod_binderNumbered : fa_MI y_Mod_binderNumbered prog_12_method_38_code 2 (Option.some Jvm.ClassFile.FieldType.int) 1 := ⟨⟨wd_1624, wd_13, ⟨by decide, by decide, by decide +kernel⟩, by decide⟩, wd_1623, fa_in (List.mem_append_left _ (List.mem_of_getElem? (i := 112) (by decide +kernel))) rfl⟩
def y_Mod_numbered : MethodName := ⟨"FlowApplyModel", "numbered", "(I)I"⟩
theorem mi_Mod_numbered : fa_MI y_Mod_numbered prog_12_method_37_code 2 (Option.some Jvm.ClassFile.FieldType.int) 1 := ⟨⟨wd_1628, wd_13, ⟨by decide, by decide, by decide +kernel⟩, by decide⟩, wd_1627, fa_in (List.mem_append_left _ (List.mem_of_getElem? (i := 113) (by decide +kernel))) rfl⟩
def y_Mod_homeNumbered : MethodName := ⟨"FlowApplyModel", "homeNumbered", "(I)I"⟩
theorem mi_Mod_homeNumbered : fa_MI y_Mod_homeNumbered prog_12_method_39_code 2 (Option.some Jvm.ClassFile.FieldType.int) 1 := ⟨⟨wd_1632, wd_13, ⟨by decide, by decide, by decide +kernel⟩, by decide⟩, wd_1631, fa_in (List.mem_append_left _ (List.mem_of_getElem? (i := 114) (by decide +kernel))) rfl⟩
def y_Mod_typesAll : MethodName := ⟨"FlowApplyModel", "typesAll", "()V"⟩
theorem mi_Mod_typesAll : fa_MI y_Mod_typesAll prog_12_method_47_code 3 (Option.none : Option Jvm.ClassFile.FieldType) 0 := ⟨⟨wd_1636, wd_13, ⟨by decide, by decide, by decide +kernel⟩, by decide⟩, wd_1635, fa_in (List.mem_append_left _ (List.mem_of_getElem? (i := 115) (by decide +kernel))) rfl⟩
def y_Mod_type2 : MethodName := ⟨"FlowApplyModel", "type", "(III)I"⟩
theorem mi_Mod_type2 : fa_MI y_Mod_type2 prog_12_method_42_code 4 (Option.some Jvm.ClassFile.FieldType.int) 3 := ⟨⟨wd_1640, wd_13, ⟨by decide, by decide, by decide +kernel⟩, by decide⟩, wd_1639, fa_in (List.mem_append_left _ (List.mem_of_getElem? (i := 116) (by decide +kernel))) rfl⟩
def y_Mod_typesNode : MethodName := ⟨"FlowApplyModel", "typesNode", "(I)V"⟩
theorem mi_Mod_typesNode : fa_MI y_Mod_typesNode prog_12_method_46_code 2 (Option.none : Option Jvm.ClassFile.FieldType) 1 := ⟨⟨wd_1644, wd_13, ⟨by decide, by decide, by decide +kernel⟩, by decide⟩, wd_1643, fa_in (List.mem_append_left _ (List.mem_of_getElem? (i := 117) (by decide +kernel))) rfl⟩
def y_Mod_functions : MethodName := ⟨"FlowApplyModel", "functions", "()I"⟩
theorem mi_Mod_functions : fa_MI y_Mod_functions prog_12_method_41_code 1 (Option.some Jvm.ClassFile.FieldType.int) 0 := ⟨⟨wd_1648, wd_13, ⟨by decide, by decide, by decide +kernel⟩, by decide⟩, wd_1647, fa_in (List.mem_append_left _ (List.mem_of_getElem? (i := 118) (by decide +kernel))) rfl⟩
def y_Mod_functionType : MethodName := ⟨"FlowApplyModel", "functionType", "(I)I"⟩
theorem mi_Mod_functionType : fa_MI y_Mod_functionType prog_12_method_45_code 2 (Option.some Jvm.ClassFile.FieldType.int) 1 := ⟨⟨wd_1652, wd_13, ⟨by decide, by decide, by decide +kernel⟩, by decide⟩, wd_1651, fa_in (List.mem_append_left _ (List.mem_of_getElem? (i := 119) (by decide +kernel))) rfl⟩
def y_Mod_typesOne : MethodName := ⟨"FlowApplyModel", "typesOne", "(II)V"⟩
theorem mi_Mod_typesOne : fa_MI y_Mod_typesOne prog_12_method_48_code 4 (Option.none : Option Jvm.ClassFile.FieldType) 2 := ⟨⟨wd_1656, wd_13, ⟨by decide, by decide, by decide +kernel⟩, by decide⟩, wd_1655, fa_in (List.mem_append_left _ (List.mem_of_getElem? (i := 120) (by decide +kernel))) rfl⟩
def y_Mod_joins : MethodName := ⟨"FlowApplyModel", "joins", "(II)V"⟩
theorem mi_Mod_joins : fa_MI y_Mod_joins prog_12_method_44_code 5 (Option.none : Option Jvm.ClassFile.FieldType) 2 := ⟨⟨wd_1660, wd_13, ⟨by decide, by decide, by decide +kernel⟩, by decide⟩, wd_1659, fa_in (List.mem_append_left _ (List.mem_of_getElem? (i := 121) (by decide +kernel))) rfl⟩
def y_Mod_find : MethodName := ⟨"FlowApplyModel", "find", "(I)I"⟩
theorem mi_Mod_find : fa_MI y_Mod_find prog_12_method_43_code 3 (Option.some Jvm.ClassFile.FieldType.int) 1 := ⟨⟨wd_1664, wd_13, ⟨by decide, by decide, by decide +kernel⟩, by decide⟩, wd_1663, fa_in (List.mem_append_left _ (List.mem_of_getElem? (i := 122) (by decide +kernel))) rfl⟩
def y_Mod_isBounded : MethodName := ⟨"FlowApplyModel", "isBounded", "(I)Z"⟩
theorem mi_Mod_isBounded : fa_MI y_Mod_isBounded prog_12_method_49_code 3 (Option.some Jvm.ClassFile.FieldType.boolean) 1 := ⟨⟨wd_1668, wd_13, ⟨by decide, by decide, by decide +kernel⟩, by decide⟩, wd_1667, fa_in (List.mem_append_left _ (List.mem_of_getElem? (i := 123) (by decide +kernel))) rfl⟩
def y_Mod_analyses : MethodName := ⟨"FlowApplyModel", "analyses", "()V"⟩
theorem mi_Mod_analyses : fa_MI y_Mod_analyses prog_12_method_66_code 2 (Option.none : Option Jvm.ClassFile.FieldType) 0 := ⟨⟨wd_1672, wd_13, ⟨by decide, by decide, by decide +kernel⟩, by decide⟩, wd_1671, fa_in (List.mem_append_left _ (List.mem_of_getElem? (i := 124) (by decide +kernel))) rfl⟩
def y_Mod_comesAll : MethodName := ⟨"FlowApplyModel", "comesAll", "()V"⟩
theorem mi_Mod_comesAll : fa_MI y_Mod_comesAll prog_12_method_54_code 3 (Option.none : Option Jvm.ClassFile.FieldType) 0 := ⟨⟨wd_1676, wd_13, ⟨by decide, by decide, by decide +kernel⟩, by decide⟩, wd_1675, fa_in (List.mem_append_left _ (List.mem_of_getElem? (i := 125) (by decide +kernel))) rfl⟩
def y_Mod_looks : MethodName := ⟨"FlowApplyModel", "looks", "(I)I"⟩
theorem mi_Mod_looks : fa_MI y_Mod_looks prog_12_method_52_code 7 (Option.some Jvm.ClassFile.FieldType.int) 1 := ⟨⟨wd_1680, wd_13, ⟨by decide, by decide, by decide +kernel⟩, by decide⟩, wd_1679, fa_in (List.mem_append_left _ (List.mem_of_getElem? (i := 126) (by decide +kernel))) rfl⟩
def y_Mod_more : MethodName := ⟨"FlowApplyModel", "more", "(II)I"⟩
theorem mi_Mod_more : fa_MI y_Mod_more prog_12_method_51_code 3 (Option.some Jvm.ClassFile.FieldType.int) 2 := ⟨⟨wd_1684, wd_13, ⟨by decide, by decide, by decide +kernel⟩, by decide⟩, wd_1683, fa_in (List.mem_append_left _ (List.mem_of_getElem? (i := 127) (by decide +kernel))) rfl⟩
def y_Mod_bits : MethodName := ⟨"FlowApplyModel", "bits", "(I)I"⟩
theorem mi_Mod_bits : fa_MS y_Mod_bits prog_12_method_5_code 3 (Option.some Jvm.ClassFile.FieldType.int) 1 := ⟨⟨wd_1687, wd_13, ⟨by decide, by decide, by decide +kernel⟩, by decide⟩, wd_1686⟩
def y_Mod_looksAtSite : MethodName := ⟨"FlowApplyModel", "looksAtSite", "(III)I"⟩
theorem mi_Mod_looksAtSite : fa_MI y_Mod_looksAtSite prog_12_method_53_code 6 (Option.some Jvm.ClassFile.FieldType.int) 3 := ⟨⟨wd_1691, wd_13, ⟨by decide, by decide, by decide +kernel⟩, by decide⟩, wd_1690, fa_in (List.mem_append_left _ (List.mem_of_getElem? (i := 128) (by decide +kernel))) rfl⟩
def y_Mod_holds : MethodName := ⟨"FlowApplyModel", "holds", "(II)Z"⟩
theorem mi_Mod_holds : fa_MS y_Mod_holds prog_12_method_4_code 2 (Option.some Jvm.ClassFile.FieldType.boolean) 2 := ⟨⟨wd_1694, wd_13, ⟨by decide, by decide, by decide +kernel⟩, by decide⟩, wd_1693⟩
def y_Mod_collects : MethodName := ⟨"FlowApplyModel", "collects", "(II)V"⟩
theorem mi_Mod_collects : fa_MI y_Mod_collects prog_12_method_56_code 3 (Option.none : Option Jvm.ClassFile.FieldType) 2 := ⟨⟨wd_1698, wd_13, ⟨by decide, by decide, by decide +kernel⟩, by decide⟩, wd_1697, fa_in (List.mem_append_left _ (List.mem_of_getElem? (i := 129) (by decide +kernel))) rfl⟩
def y_Mod_isWithin : MethodName := ⟨"FlowApplyModel", "isWithin", "(II)Z"⟩
theorem mi_Mod_isWithin : fa_MI y_Mod_isWithin prog_12_method_55_code 4 (Option.some Jvm.ClassFile.FieldType.boolean) 2 := ⟨⟨wd_1702, wd_13, ⟨by decide, by decide, by decide +kernel⟩, by decide⟩, wd_1701, fa_in (List.mem_append_left _ (List.mem_of_getElem? (i := 130) (by decide +kernel))) rfl⟩
def y_Mod_addsField : MethodName := ⟨"FlowApplyModel", "addsField", "(II)V"⟩
theorem mi_Mod_addsField : fa_MI y_Mod_addsField prog_12_method_57_code 4 (Option.none : Option Jvm.ClassFile.FieldType) 2 := ⟨⟨wd_1706, wd_13, ⟨by decide, by decide, by decide +kernel⟩, by decide⟩, wd_1705, fa_in (List.mem_append_left _ (List.mem_of_getElem? (i := 131) (by decide +kernel))) rfl⟩
def y_Mod_laysGroups : MethodName := ⟨"FlowApplyModel", "laysGroups", "(I)V"⟩
theorem mi_Mod_laysGroups : fa_MI y_Mod_laysGroups prog_12_method_60_code 7 (Option.none : Option Jvm.ClassFile.FieldType) 1 := ⟨⟨wd_1710, wd_13, ⟨by decide, by decide, by decide +kernel⟩, by decide⟩, wd_1709, fa_in (List.mem_append_left _ (List.mem_of_getElem? (i := 132) (by decide +kernel))) rfl⟩
def y_Mod_groupAt : MethodName := ⟨"FlowApplyModel", "groupAt", "(II)I"⟩
theorem mi_Mod_groupAt : fa_MI y_Mod_groupAt prog_12_method_58_code 3 (Option.some Jvm.ClassFile.FieldType.int) 2 := ⟨⟨wd_1714, wd_13, ⟨by decide, by decide, by decide +kernel⟩, by decide⟩, wd_1713, fa_in (List.mem_append_left _ (List.mem_of_getElem? (i := 133) (by decide +kernel))) rfl⟩
def y_Mod_goTogether : MethodName := ⟨"FlowApplyModel", "goTogether", "(III)Z"⟩
theorem mi_Mod_goTogether : fa_MI y_Mod_goTogether prog_12_method_59_code 5 (Option.some Jvm.ClassFile.FieldType.boolean) 3 := ⟨⟨wd_1718, wd_13, ⟨by decide, by decide, by decide +kernel⟩, by decide⟩, wd_1717, fa_in (List.mem_append_left _ (List.mem_of_getElem? (i := 134) (by decide +kernel))) rfl⟩
def y_Mod_areOne : MethodName := ⟨"FlowApplyModel", "areOne", "(II)Z"⟩
theorem mi_Mod_areOne : fa_MI y_Mod_areOne prog_12_method_50_code 5 (Option.some Jvm.ClassFile.FieldType.boolean) 2 := ⟨⟨wd_1722, wd_13, ⟨by decide, by decide, by decide +kernel⟩, by decide⟩, wd_1721, fa_in (List.mem_append_left _ (List.mem_of_getElem? (i := 135) (by decide +kernel))) rfl⟩
def y_Mod_laysRings : MethodName := ⟨"FlowApplyModel", "laysRings", "()V"⟩
theorem mi_Mod_laysRings : fa_MI y_Mod_laysRings prog_12_method_62_code 3 (Option.none : Option Jvm.ClassFile.FieldType) 0 := ⟨⟨wd_1726, wd_13, ⟨by decide, by decide, by decide +kernel⟩, by decide⟩, wd_1725, fa_in (List.mem_append_left _ (List.mem_of_getElem? (i := 136) (by decide +kernel))) rfl⟩
def y_Mod_compilesAll : MethodName := ⟨"FlowApplyModel", "compilesAll", "()V"⟩
theorem mi_Mod_compilesAll : fa_MI y_Mod_compilesAll prog_12_method_65_code 3 (Option.none : Option Jvm.ClassFile.FieldType) 0 := ⟨⟨wd_1730, wd_13, ⟨by decide, by decide, by decide +kernel⟩, by decide⟩, wd_1729, fa_in (List.mem_append_left _ (List.mem_of_getElem? (i := 137) (by decide +kernel))) rfl⟩
def y_Mod_compiles : MethodName := ⟨"FlowApplyModel", "compiles", "(I)V"⟩
theorem mi_Mod_compiles : fa_MI y_Mod_compiles prog_12_method_64_code 4 (Option.none : Option Jvm.ClassFile.FieldType) 1 := ⟨⟨wd_1734, wd_13, ⟨by decide, by decide, by decide +kernel⟩, by decide⟩, wd_1733, fa_in (List.mem_append_left _ (List.mem_of_getElem? (i := 138) (by decide +kernel))) rfl⟩
def y_Mod_lays : MethodName := ⟨"FlowApplyModel", "lays", "(II)I"⟩
theorem mi_Mod_lays : fa_MI y_Mod_lays prog_12_method_63_code 3 (Option.some Jvm.ClassFile.FieldType.int) 2 := ⟨⟨wd_1738, wd_13, ⟨by decide, by decide, by decide +kernel⟩, by decide⟩, wd_1737, fa_in (List.mem_append_left _ (List.mem_of_getElem? (i := 139) (by decide +kernel))) rfl⟩
def y_Mod_keeps : MethodName := ⟨"FlowApplyModel", "keeps", "()V"⟩
theorem mi_Mod_keeps : fa_MI y_Mod_keeps prog_12_method_69_code 2 (Option.none : Option Jvm.ClassFile.FieldType) 0 := ⟨⟨wd_1742, wd_13, ⟨by decide, by decide, by decide +kernel⟩, by decide⟩, wd_1741, fa_in (List.mem_append_left _ (List.mem_of_getElem? (i := 140) (by decide +kernel))) rfl⟩
def y_Mod_read : MethodName := ⟨"FlowApplyModel", "read", "()I"⟩
theorem mi_Mod_read : fa_MI y_Mod_read prog_12_method_71_code 2 (Option.some Jvm.ClassFile.FieldType.int) 0 := ⟨⟨wd_2029, wd_13, ⟨by decide, by decide, by decide +kernel⟩, by decide⟩, wd_2027, wd_2028⟩
def y_Mod_goesBack : MethodName := ⟨"FlowApplyModel", "goesBack", "()V"⟩
theorem mi_Mod_goesBack : fa_MI y_Mod_goesBack prog_12_method_70_code 2 (Option.none : Option Jvm.ClassFile.FieldType) 0 := ⟨⟨wd_2033, wd_13, ⟨by decide, by decide, by decide +kernel⟩, by decide⟩, wd_2032, fa_in (List.mem_append_left _ (List.mem_of_getElem? (i := 141) (by decide +kernel))) rfl⟩
def y_Mod_fault : MethodName := ⟨"FlowApplyModel", "fault", "()I"⟩
theorem mi_Mod_fault : fa_MI y_Mod_fault prog_12_method_72_code 1 (Option.some Jvm.ClassFile.FieldType.int) 0 := ⟨⟨wd_2037, wd_13, ⟨by decide, by decide, by decide +kernel⟩, by decide⟩, wd_2035, wd_2036⟩
def y_Mod_take : MethodName := ⟨"FlowApplyModel", "take", "()I"⟩
theorem mi_Mod_take : fa_MI y_Mod_take prog_12_method_73_code 2 (Option.some Jvm.ClassFile.FieldType.int) 0 := ⟨⟨wd_2041, wd_13, ⟨by decide, by decide, by decide +kernel⟩, by decide⟩, wd_2039, wd_2040⟩
def y_Mod_writesBack : MethodName := ⟨"FlowApplyModel", "writesBack", "()V"⟩
theorem mi_Mod_writesBack : fa_MI y_Mod_writesBack prog_12_method_84_code 1 (Option.none : Option Jvm.ClassFile.FieldType) 0 := ⟨⟨wd_2045, wd_13, ⟨by decide, by decide, by decide +kernel⟩, by decide⟩, wd_2044, fa_in (List.mem_append_left _ (List.mem_of_getElem? (i := 142) (by decide +kernel))) rfl⟩
def y_Mod_writesProgram : MethodName := ⟨"FlowApplyModel", "writesProgram", "(I)V"⟩
theorem mi_Mod_writesProgram : fa_MI y_Mod_writesProgram prog_12_method_83_code 3 (Option.none : Option Jvm.ClassFile.FieldType) 1 := ⟨⟨wd_2049, wd_13, ⟨by decide, by decide, by decide +kernel⟩, by decide⟩, wd_2048, fa_in (List.mem_append_left _ (List.mem_of_getElem? (i := 143) (by decide +kernel))) rfl⟩
def y_Mod_saysWord : MethodName := ⟨"FlowApplyModel", "saysWord", "(I)V"⟩
theorem mi_Mod_saysWord : fa_MI y_Mod_saysWord prog_12_method_75_code 2 (Option.none : Option Jvm.ClassFile.FieldType) 1 := ⟨⟨wd_2053, wd_13, ⟨by decide, by decide, by decide +kernel⟩, by decide⟩, wd_2052, fa_in (List.mem_append_left _ (List.mem_of_getElem? (i := 144) (by decide +kernel))) rfl⟩
def y_Mod_says : MethodName := ⟨"FlowApplyModel", "says", "(I)V"⟩
theorem mi_Mod_says : fa_MI y_Mod_says prog_12_method_74_code 2 (Option.none : Option Jvm.ClassFile.FieldType) 1 := ⟨⟨wd_2057, wd_13, ⟨by decide, by decide, by decide +kernel⟩, by decide⟩, wd_2056, fa_in (List.mem_append_left _ (List.mem_of_getElem? (i := 145) (by decide +kernel))) rfl⟩
def y_Mod_writesBody : MethodName := ⟨"FlowApplyModel", "writesBody", "(II)V"⟩
theorem mi_Mod_writesBody : fa_MI y_Mod_writesBody prog_12_method_79_code 3 (Option.none : Option Jvm.ClassFile.FieldType) 2 := ⟨⟨wd_2061, wd_13, ⟨by decide, by decide, by decide +kernel⟩, by decide⟩, wd_2060, fa_in (List.mem_append_left _ (List.mem_of_getElem? (i := 146) (by decide +kernel))) rfl⟩
def y_Mod_writes : MethodName := ⟨"FlowApplyModel", "writes", "(II)V"⟩
theorem mi_Mod_writes : fa_MI y_Mod_writes prog_12_method_77_code 3 (Option.none : Option Jvm.ClassFile.FieldType) 2 := ⟨⟨wd_2065, wd_13, ⟨by decide, by decide, by decide +kernel⟩, by decide⟩, wd_2064, fa_in (List.mem_append_left _ (List.mem_of_getElem? (i := 147) (by decide +kernel))) rfl⟩
def y_Mod_saysNumber : MethodName := ⟨"FlowApplyModel", "saysNumber", "(I)V"⟩
theorem mi_Mod_saysNumber : fa_MI y_Mod_saysNumber prog_12_method_76_code 2 (Option.none : Option Jvm.ClassFile.FieldType) 1 := ⟨⟨wd_2069, wd_13, ⟨by decide, by decide, by decide +kernel⟩, by decide⟩, wd_2068, fa_in (List.mem_append_left _ (List.mem_of_getElem? (i := 148) (by decide +kernel))) rfl⟩
def y_Mod_writesData : MethodName := ⟨"FlowApplyModel", "writesData", "(I)V"⟩
theorem mi_Mod_writesData : fa_MI y_Mod_writesData prog_12_method_81_code 3 (Option.none : Option Jvm.ClassFile.FieldType) 1 := ⟨⟨wd_2073, wd_13, ⟨by decide, by decide, by decide +kernel⟩, by decide⟩, wd_2072, fa_in (List.mem_append_left _ (List.mem_of_getElem? (i := 149) (by decide +kernel))) rfl⟩
def y_Mod_writesLambda : MethodName := ⟨"FlowApplyModel", "writesLambda", "(II)V"⟩
theorem mi_Mod_writesLambda : fa_MI y_Mod_writesLambda prog_12_method_80_code 3 (Option.none : Option Jvm.ClassFile.FieldType) 2 := ⟨⟨wd_2077, wd_13, ⟨by decide, by decide, by decide +kernel⟩, by decide⟩, wd_2076, fa_in (List.mem_append_left _ (List.mem_of_getElem? (i := 150) (by decide +kernel))) rfl⟩
def y_Mod_writesTwo : MethodName := ⟨"FlowApplyModel", "writesTwo", "(III)V"⟩
theorem mi_Mod_writesTwo : fa_MI y_Mod_writesTwo prog_12_method_78_code 4 (Option.none : Option Jvm.ClassFile.FieldType) 3 := ⟨⟨wd_2081, wd_13, ⟨by decide, by decide, by decide +kernel⟩, by decide⟩, wd_2080, fa_in (List.mem_append_left _ (List.mem_of_getElem? (i := 151) (by decide +kernel))) rfl⟩
def y_Mod_writesApply : MethodName := ⟨"FlowApplyModel", "writesApply", "(II)V"⟩
theorem mi_Mod_writesApply : fa_MI y_Mod_writesApply prog_12_method_82_code 6 (Option.none : Option Jvm.ClassFile.FieldType) 2 := ⟨⟨wd_2085, wd_13, ⟨by decide, by decide, by decide +kernel⟩, by decide⟩, wd_2084, fa_in (List.mem_append_left _ (List.mem_of_getElem? (i := 152) (by decide +kernel))) rfl⟩
def y_Mod_type1 : MethodName := ⟨"FlowApplyModel", "type", "(I)I"⟩
theorem mi_Mod_type1 : fa_MI y_Mod_type1 prog_12_method_89_code 2 (Option.some Jvm.ClassFile.FieldType.int) 1 := ⟨⟨wd_2089, wd_13, ⟨by decide, by decide, by decide +kernel⟩, by decide⟩, wd_2087, wd_2088⟩
def y_Mod_noFunction : MethodName := ⟨"FlowApplyModel", "noFunction", "(I)Z"⟩
theorem mi_Mod_noFunction : fa_MI y_Mod_noFunction prog_12_method_88_code 2 (Option.some Jvm.ClassFile.FieldType.boolean) 1 := ⟨⟨wd_2093, wd_13, ⟨by decide, by decide, by decide +kernel⟩, by decide⟩, wd_2092, fa_in (List.mem_append_left _ (List.mem_of_getElem? (i := 153) (by decide +kernel))) rfl⟩
def y_Mod_in : MethodName := ⟨"FlowApplyModel", "in", "(III)Z"⟩
theorem mi_Mod_in : fa_MS y_Mod_in prog_12_method_3_code 3 (Option.some Jvm.ClassFile.FieldType.boolean) 3 := ⟨⟨wd_2096, wd_13, ⟨by decide, by decide, by decide +kernel⟩, by decide⟩, wd_2095⟩
def y_Mod_throwsIf : MethodName := ⟨"FlowApplyModel", "throwsIf", "(ZI)Z"⟩
theorem mi_Mod_throwsIf : fa_MI y_Mod_throwsIf prog_12_method_2_code 3 (Option.some Jvm.ClassFile.FieldType.boolean) 2 := ⟨⟨wd_2100, wd_13, ⟨by decide, by decide, by decide +kernel⟩, by decide⟩, wd_2099, fa_in (List.mem_append_left _ (List.mem_of_getElem? (i := 154) (by decide +kernel))) rfl⟩
def y_Mod_showsType : MethodName := ⟨"FlowApplyModel", "showsType", "(I)I"⟩
theorem mi_Mod_showsType : fa_MI y_Mod_showsType prog_12_method_87_code 2 (Option.some Jvm.ClassFile.FieldType.int) 1 := ⟨⟨wd_2104, wd_13, ⟨by decide, by decide, by decide +kernel⟩, by decide⟩, wd_2103, fa_in (List.mem_append_left _ (List.mem_of_getElem? (i := 155) (by decide +kernel))) rfl⟩
def y_Mod_writesType : MethodName := ⟨"FlowApplyModel", "writesType", "(I)V"⟩
theorem mi_Mod_writesType : fa_MI y_Mod_writesType prog_12_method_86_code 4 (Option.none : Option Jvm.ClassFile.FieldType) 1 := ⟨⟨wd_2108, wd_13, ⟨by decide, by decide, by decide +kernel⟩, by decide⟩, wd_2107, fa_in (List.mem_append_left _ (List.mem_of_getElem? (i := 156) (by decide +kernel))) rfl⟩
def y_Mod_typeOfMain : MethodName := ⟨"FlowApplyModel", "typeOfMain", "()I"⟩
theorem mi_Mod_typeOfMain : fa_MI y_Mod_typeOfMain prog_12_method_90_code 1 (Option.some Jvm.ClassFile.FieldType.int) 0 := ⟨⟨wd_2112, wd_13, ⟨by decide, by decide, by decide +kernel⟩, by decide⟩, wd_2110, wd_2111⟩
def y_Mod_alike : MethodName := ⟨"FlowApplyModel", "alike", "(II)Z"⟩
theorem mi_Mod_alike : fa_MI y_Mod_alike prog_12_method_91_code 3 (Option.some Jvm.ClassFile.FieldType.boolean) 2 := ⟨⟨wd_2116, wd_13, ⟨by decide, by decide, by decide +kernel⟩, by decide⟩, wd_2114, wd_2115⟩
def y_Mod_field : MethodName := ⟨"FlowApplyModel", "field", "(II)I"⟩
theorem mi_Mod_field : fa_MI y_Mod_field prog_12_method_92_code 3 (Option.some Jvm.ClassFile.FieldType.int) 2 := ⟨⟨wd_2120, wd_13, ⟨by decide, by decide, by decide +kernel⟩, by decide⟩, wd_2118, wd_2119⟩
def y_Mod_form : MethodName := ⟨"FlowApplyModel", "form", "(I)I"⟩
theorem mi_Mod_form : fa_MI y_Mod_form prog_12_method_94_code 2 (Option.some Jvm.ClassFile.FieldType.int) 1 := ⟨⟨wd_2124, wd_13, ⟨by decide, by decide, by decide +kernel⟩, by decide⟩, wd_2122, wd_2123⟩
def y_Mod_noSplit : MethodName := ⟨"FlowApplyModel", "noSplit", "(II)Z"⟩
theorem mi_Mod_noSplit : fa_MI y_Mod_noSplit prog_12_method_93_code 3 (Option.some Jvm.ClassFile.FieldType.boolean) 2 := ⟨⟨wd_2128, wd_13, ⟨by decide, by decide, by decide +kernel⟩, by decide⟩, wd_2127, fa_in (List.mem_append_left _ (List.mem_of_getElem? (i := 157) (by decide +kernel))) rfl⟩
def y_Mod_writesForm : MethodName := ⟨"FlowApplyModel", "writesForm", "(I)V"⟩
theorem mi_Mod_writesForm : fa_MI y_Mod_writesForm prog_12_method_85_code 6 (Option.none : Option Jvm.ClassFile.FieldType) 1 := ⟨⟨wd_2132, wd_13, ⟨by decide, by decide, by decide +kernel⟩, by decide⟩, wd_2131, fa_in (List.mem_append_left _ (List.mem_of_getElem? (i := 158) (by decide +kernel))) rfl⟩
def y_Mod_groupSet : MethodName := ⟨"FlowApplyModel", "groupSet", "(II)I"⟩
theorem mi_Mod_groupSet : fa_MI y_Mod_groupSet prog_12_method_61_code 5 (Option.some Jvm.ClassFile.FieldType.int) 2 := ⟨⟨wd_2136, wd_13, ⟨by decide, by decide, by decide +kernel⟩, by decide⟩, wd_2135, fa_in (List.mem_append_left _ (List.mem_of_getElem? (i := 159) (by decide +kernel))) rfl⟩
def y_Mod_back : MethodName := ⟨"FlowApplyModel", "back", "()I"⟩
theorem mi_Mod_back : fa_MI y_Mod_back prog_12_method_95_code 1 (Option.some Jvm.ClassFile.FieldType.int) 0 := ⟨⟨wd_2140, wd_13, ⟨by decide, by decide, by decide +kernel⟩, by decide⟩, wd_2138, wd_2139⟩
def y_Mod_show : MethodName := ⟨"FlowApplyModel", "show", "()I"⟩
theorem mi_Mod_show : fa_MI y_Mod_show prog_12_method_96_code 1 (Option.some Jvm.ClassFile.FieldType.int) 0 := ⟨⟨wd_2144, wd_13, ⟨by decide, by decide, by decide +kernel⟩, by decide⟩, wd_2142, wd_2143⟩
def y_Mod_octet : MethodName := ⟨"FlowApplyModel", "octet", "(I)I"⟩
theorem mi_Mod_octet : fa_MI y_Mod_octet prog_12_method_97_code 2 (Option.some Jvm.ClassFile.FieldType.int) 1 := ⟨⟨wd_2148, wd_13, ⟨by decide, by decide, by decide +kernel⟩, by decide⟩, wd_2146, wd_2147⟩
def y_Mod_run : MethodName := ⟨"FlowApplyModel", "run", "(II)I"⟩
theorem mi_Mod_run : fa_MI y_Mod_run prog_12_method_105_code 3 (Option.some Jvm.ClassFile.FieldType.int) 2 := ⟨⟨wd_2152, wd_13, ⟨by decide, by decide, by decide +kernel⟩, by decide⟩, wd_2150, wd_2151⟩
def y_Mod_noHow : MethodName := ⟨"FlowApplyModel", "noHow", "(I)Z"⟩
theorem mi_Mod_noHow : fa_MI y_Mod_noHow prog_12_method_104_code 2 (Option.some Jvm.ClassFile.FieldType.boolean) 1 := ⟨⟨wd_2156, wd_13, ⟨by decide, by decide, by decide +kernel⟩, by decide⟩, wd_2155, fa_in (List.mem_append_left _ (List.mem_of_getElem? (i := 160) (by decide +kernel))) rfl⟩
def y_Mod_runs : MethodName := ⟨"FlowApplyModel", "runs", "(I)V"⟩
theorem mi_Mod_runs : fa_MI y_Mod_runs prog_12_method_102_code 9 (Option.none : Option Jvm.ClassFile.FieldType) 1 := ⟨⟨wd_2160, wd_13, ⟨by decide, by decide, by decide +kernel⟩, by decide⟩, wd_2159, fa_in (List.mem_append_left _ (List.mem_of_getElem? (i := 161) (by decide +kernel))) rfl⟩
def y_Mod_frame : MethodName := ⟨"FlowApplyModel", "frame", "(II)I"⟩
theorem mi_Mod_frame : fa_MI y_Mod_frame prog_12_method_101_code 3 (Option.some Jvm.ClassFile.FieldType.int) 2 := ⟨⟨wd_2164, wd_13, ⟨by decide, by decide, by decide +kernel⟩, by decide⟩, wd_2163, fa_in (List.mem_append_left _ (List.mem_of_getElem? (i := 162) (by decide +kernel))) rfl⟩
def y_Mod_puts : MethodName := ⟨"FlowApplyModel", "puts", "(III)V"⟩
theorem mi_Mod_puts : fa_MI y_Mod_puts prog_12_method_98_code 4 (Option.none : Option Jvm.ClassFile.FieldType) 3 := ⟨⟨wd_2168, wd_13, ⟨by decide, by decide, by decide +kernel⟩, by decide⟩, wd_2167, fa_in (List.mem_append_left _ (List.mem_of_getElem? (i := 163) (by decide +kernel))) rfl⟩
def y_Mod_frameOfBinder : MethodName := ⟨"FlowApplyModel", "frameOfBinder", "(II)I"⟩
theorem mi_Mod_frameOfBinder : fa_MI y_Mod_frameOfBinder prog_12_method_99_code 4 (Option.some Jvm.ClassFile.FieldType.int) 2 := ⟨⟨wd_2172, wd_13, ⟨by decide, by decide, by decide +kernel⟩, by decide⟩, wd_2171, fa_in (List.mem_append_left _ (List.mem_of_getElem? (i := 164) (by decide +kernel))) rfl⟩
def y_Mod_holdsIn : MethodName := ⟨"FlowApplyModel", "holdsIn", "(II)V"⟩
theorem mi_Mod_holdsIn : fa_MI y_Mod_holdsIn prog_12_method_100_code 3 (Option.none : Option Jvm.ClassFile.FieldType) 2 := ⟨⟨wd_2176, wd_13, ⟨by decide, by decide, by decide +kernel⟩, by decide⟩, wd_2175, fa_in (List.mem_append_left _ (List.mem_of_getElem? (i := 165) (by decide +kernel))) rfl⟩
def y_Mod_reckons : MethodName := ⟨"FlowApplyModel", "reckons", "(I)V"⟩
theorem mi_Mod_reckons : fa_MI y_Mod_reckons prog_12_method_103_code 4 (Option.none : Option Jvm.ClassFile.FieldType) 1 := ⟨⟨wd_2180, wd_13, ⟨by decide, by decide, by decide +kernel⟩, by decide⟩, wd_2179, fa_in (List.mem_append_left _ (List.mem_of_getElem? (i := 166) (by decide +kernel))) rfl⟩
def y_Mod_blame : MethodName := ⟨"FlowApplyModel", "blame", "(II)I"⟩
theorem mi_Mod_blame : fa_MI y_Mod_blame prog_12_method_106_code 3 (Option.some Jvm.ClassFile.FieldType.int) 2 := ⟨⟨wd_2184, wd_13, ⟨by decide, by decide, by decide +kernel⟩, by decide⟩, wd_2182, wd_2183⟩
def y_Mod_function : MethodName := ⟨"FlowApplyModel", "function", "(II)I"⟩
theorem mi_Mod_function : fa_MI y_Mod_function prog_12_method_108_code 4 (Option.some Jvm.ClassFile.FieldType.int) 2 := ⟨⟨wd_2188, wd_13, ⟨by decide, by decide, by decide +kernel⟩, by decide⟩, wd_2186, wd_2187⟩
def y_Mod_sitesBy : MethodName := ⟨"FlowApplyModel", "sitesBy", "(I)I"⟩
theorem mi_Mod_sitesBy : fa_MI y_Mod_sitesBy prog_12_method_107_code 4 (Option.some Jvm.ClassFile.FieldType.int) 1 := ⟨⟨wd_2192, wd_13, ⟨by decide, by decide, by decide +kernel⟩, by decide⟩, wd_2191, fa_in (List.mem_append_left _ (List.mem_of_getElem? (i := 167) (by decide +kernel))) rfl⟩
def y_Mod_site : MethodName := ⟨"FlowApplyModel", "site", "(II)I"⟩
theorem mi_Mod_site : fa_MI y_Mod_site prog_12_method_109_code 3 (Option.some Jvm.ClassFile.FieldType.int) 2 := ⟨⟨wd_2196, wd_13, ⟨by decide, by decide, by decide +kernel⟩, by decide⟩, wd_2194, wd_2195⟩
def y_Mod_siteGroup : MethodName := ⟨"FlowApplyModel", "siteGroup", "(I)I"⟩
theorem mi_Mod_siteGroup : fa_MI y_Mod_siteGroup prog_12_method_110_code 3 (Option.some Jvm.ClassFile.FieldType.int) 1 := ⟨⟨wd_2200, wd_13, ⟨by decide, by decide, by decide +kernel⟩, by decide⟩, wd_2199, fa_in (List.mem_append_left _ (List.mem_of_getElem? (i := 168) (by decide +kernel))) rfl⟩
def y_Mod_split : MethodName := ⟨"FlowApplyModel", "split", "(II)I"⟩
theorem mi_Mod_split : fa_MI y_Mod_split prog_12_method_111_code 8 (Option.some Jvm.ClassFile.FieldType.int) 2 := ⟨⟨wd_2204, wd_13, ⟨by decide, by decide, by decide +kernel⟩, by decide⟩, wd_2202, wd_2203⟩
def y_Mod_group : MethodName := ⟨"FlowApplyModel", "group", "(IIZ)I"⟩
theorem mi_Mod_group : fa_MI y_Mod_group prog_12_method_112_code 4 (Option.some Jvm.ClassFile.FieldType.int) 3 := ⟨⟨wd_2208, wd_13, ⟨by decide, by decide, by decide +kernel⟩, by decide⟩, wd_2206, wd_2207⟩
def y_Mod_ring : MethodName := ⟨"FlowApplyModel", "ring", "(I)I"⟩
theorem mi_Mod_ring : fa_MI y_Mod_ring prog_12_method_113_code 2 (Option.some Jvm.ClassFile.FieldType.int) 1 := ⟨⟨wd_2212, wd_13, ⟨by decide, by decide, by decide +kernel⟩, by decide⟩, wd_2210, wd_2211⟩
def y_Mod_far : MethodName := ⟨"FlowApplyModel", "far", "(II)I"⟩
theorem mi_Mod_far : fa_MI y_Mod_far prog_12_method_114_code 7 (Option.some Jvm.ClassFile.FieldType.int) 2 := ⟨⟨wd_2216, wd_13, ⟨by decide, by decide, by decide +kernel⟩, by decide⟩, wd_2214, wd_2215⟩
def y_Mod_count : MethodName := ⟨"FlowApplyModel", "count", "(I)I"⟩
theorem mi_Mod_count : fa_MI y_Mod_count prog_12_method_119_code 2 (Option.some Jvm.ClassFile.FieldType.int) 1 := ⟨⟨wd_2220, wd_13, ⟨by decide, by decide, by decide +kernel⟩, by decide⟩, wd_2218, wd_2219⟩
def y_Mod_looked : MethodName := ⟨"FlowApplyModel", "looked", "(Z)I"⟩
theorem mi_Mod_looked : fa_MI y_Mod_looked prog_12_method_115_code 4 (Option.some Jvm.ClassFile.FieldType.int) 1 := ⟨⟨wd_2224, wd_13, ⟨by decide, by decide, by decide +kernel⟩, by decide⟩, wd_2223, fa_in (List.mem_append_left _ (List.mem_of_getElem? (i := 169) (by decide +kernel))) rfl⟩
def y_Mod_fieldsOfMade : MethodName := ⟨"FlowApplyModel", "fieldsOfMade", "()I"⟩
theorem mi_Mod_fieldsOfMade : fa_MI y_Mod_fieldsOfMade prog_12_method_116_code 3 (Option.some Jvm.ClassFile.FieldType.int) 0 := ⟨⟨wd_2228, wd_13, ⟨by decide, by decide, by decide +kernel⟩, by decide⟩, wd_2227, fa_in (List.mem_append_left _ (List.mem_of_getElem? (i := 170) (by decide +kernel))) rfl⟩
def y_Mod_thingsOfBack : MethodName := ⟨"FlowApplyModel", "thingsOfBack", "()I"⟩
theorem mi_Mod_thingsOfBack : fa_MI y_Mod_thingsOfBack prog_12_method_118_code 3 (Option.some Jvm.ClassFile.FieldType.int) 0 := ⟨⟨wd_2232, wd_13, ⟨by decide, by decide, by decide +kernel⟩, by decide⟩, wd_2231, fa_in (List.mem_append_left _ (List.mem_of_getElem? (i := 171) (by decide +kernel))) rfl⟩
def y_Mod_thingsOf : MethodName := ⟨"FlowApplyModel", "thingsOf", "(I)I"⟩
theorem mi_Mod_thingsOf : fa_MI y_Mod_thingsOf prog_12_method_117_code 2 (Option.some Jvm.ClassFile.FieldType.int) 1 := ⟨⟨wd_2236, wd_13, ⟨by decide, by decide, by decide +kernel⟩, by decide⟩, wd_2235, fa_in (List.mem_append_left _ (List.mem_of_getElem? (i := 172) (by decide +kernel))) rfl⟩
