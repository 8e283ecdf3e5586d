set_option maxRecDepth 100000 in
theorem wd_1200 : (Jvm.Cond.methodLink "FlowApply" (127 : Nat) ({ cls := "FlowApply$Program", name := "home", desc := "(I)I" } : Jvm.MethodName)) ∈ fa_wG := fa_it (tb_6 _ (List.mem_of_getElem? (i := 0) rfl)) rfl
set_option maxRecDepth 100000 in
theorem wd_1201 : (Jvm.Cond.instanceMethod ({ cls := "FlowApply$Program", name := "home", desc := "(I)I" } : Jvm.MethodName)) ∈ fa_wG := fa_it (tb_6 _ (List.mem_of_getElem? (i := 1) rfl)) rfl
set_option maxRecDepth 100000 in
theorem wd_1202 : (Jvm.Cond.selects "FlowApply$Program" ({ cls := "FlowApply$Program", name := "home", desc := "(I)I" } : Jvm.MethodName) ({ cls := "FlowApply$Program", name := "home", desc := "(I)I" } : Jvm.MethodName)) ∈ fa_wG := fa_it (tb_6 _ (List.mem_of_getElem? (i := 2) rfl)) rfl
set_option maxRecDepth 100000 in
theorem wd_1203 : (Jvm.Cond.code ({ cls := "FlowApply$Program", name := "home", desc := "(I)I" } : Jvm.MethodName) prog_5_method_9_code (2 : Nat) (Option.some Jvm.ClassFile.FieldType.int)) ∈ fa_wG := fa_it (tb_6 _ (List.mem_of_getElem? (i := 3) rfl)) rfl
set_option maxRecDepth 100000 in
theorem wd_1204 : (Jvm.Cond.methodLink "FlowApply" (147 : Nat) ({ cls := "FlowApply", name := "oneIf", desc := "(Z)I" } : Jvm.MethodName)) ∈ fa_wG := fa_it (tb_6 _ (List.mem_of_getElem? (i := 4) rfl)) rfl
set_option maxRecDepth 100000 in
theorem wd_1205 : (Jvm.Cond.methodLink "FlowApply" (157 : Nat) ({ cls := "FlowApply$Row", name := "bits", desc := "(I)I" } : Jvm.MethodName)) ∈ fa_wG := fa_it (tb_6 _ (List.mem_of_getElem? (i := 5) rfl)) rfl
set_option maxRecDepth 100000 in
theorem wd_1206 : (Jvm.Cond.methodLink "FlowApply" (160 : Nat) ({ cls := "FlowApply$Flow", name := "comesOfBody", desc := "(LFlowApply$Program;I)I" } : Jvm.MethodName)) ∈ fa_wG := fa_it (tb_6 _ (List.mem_of_getElem? (i := 6) rfl)) rfl
set_option maxRecDepth 100000 in
theorem wd_1207 : (Jvm.Cond.methodLink "FlowApply" (171 : Nat) ({ cls := "FlowApply$Groups", name := "groupOf", desc := "(II)I" } : Jvm.MethodName)) ∈ fa_wG := fa_it (tb_6 _ (List.mem_of_getElem? (i := 7) rfl)) rfl
set_option maxRecDepth 100000 in
theorem wd_1208 : (Jvm.Cond.methodLink "FlowApply" (180 : Nat) ({ cls := "FlowApply$Flow", name := "ringOf", desc := "(I)I" } : Jvm.MethodName)) ∈ fa_wG := fa_it (tb_6 _ (List.mem_of_getElem? (i := 8) rfl)) rfl
set_option maxRecDepth 100000 in
theorem wd_1209 : (Jvm.Cond.methodLink "FlowApply" (187 : Nat) ({ cls := "FlowApply$Flow", name := "countSitesOf", desc := "(LFlowApply$Program;I)I" } : Jvm.MethodName)) ∈ fa_wG := fa_it (tb_6 _ (List.mem_of_getElem? (i := 9) rfl)) rfl
set_option maxRecDepth 100000 in
theorem wd_1210 : (Jvm.Cond.instanceMethod ({ cls := "FlowApply$Flow", name := "countSitesOf", desc := "(LFlowApply$Program;I)I" } : Jvm.MethodName)) ∈ fa_wG := fa_it (tb_6 _ (List.mem_of_getElem? (i := 10) rfl)) rfl
set_option maxRecDepth 100000 in
theorem wd_1211 : (Jvm.Cond.selects "FlowApply$Flow" ({ cls := "FlowApply$Flow", name := "countSitesOf", desc := "(LFlowApply$Program;I)I" } : Jvm.MethodName) ({ cls := "FlowApply$Flow", name := "countSitesOf", desc := "(LFlowApply$Program;I)I" } : Jvm.MethodName)) ∈ fa_wG := fa_it (tb_6 _ (List.mem_of_getElem? (i := 11) rfl)) rfl
set_option maxRecDepth 100000 in
theorem wd_1212 : (Jvm.Cond.code ({ cls := "FlowApply$Flow", name := "countSitesOf", desc := "(LFlowApply$Program;I)I" } : Jvm.MethodName) prog_2_method_17_code (5 : Nat) (Option.some Jvm.ClassFile.FieldType.int)) ∈ fa_wG := fa_it (tb_6 _ (List.mem_of_getElem? (i := 12) rfl)) rfl
set_option maxRecDepth 100000 in
theorem wd_1213 : (Jvm.Cond.classLink "FlowApply" (190 : Nat) "java/util/NoSuchElementException") ∈ fa_wG := fa_it (tb_6 _ (List.mem_of_getElem? (i := 13) rfl)) rfl
set_option maxRecDepth 100000 in
theorem wd_1214 : (Jvm.Cond.instantiable "java/util/NoSuchElementException" (6 : Nat)) ∈ fa_wG := fa_it (tb_6 _ (List.mem_of_getElem? (i := 14) rfl)) rfl
set_option maxRecDepth 100000 in
theorem wd_1215 : (Jvm.Cond.castable "java/util/NoSuchElementException" "java/util/NoSuchElementException") ∈ fa_nest := List.mem_of_getElem? (i := 83) (by decide +kernel)
set_option maxRecDepth 100000 in
theorem wd_1216 : (Jvm.Cond.selects "java/util/NoSuchElementException" ({ cls := "java/lang/Throwable", name := "fillInStackTrace", desc := "(I)Ljava/lang/Throwable;" } : Jvm.MethodName) ({ cls := "java/lang/Throwable", name := "fillInStackTrace", desc := "(I)Ljava/lang/Throwable;" } : Jvm.MethodName)) ∈ fa_wG := fa_it (tb_6 _ (List.mem_of_getElem? (i := 16) rfl)) rfl
set_option maxRecDepth 100000 in
theorem wd_1217 : (Jvm.Cond.lays "java/util/NoSuchElementException" "java/lang/Throwable" "cause" "Ljava/lang/Throwable;") ∈ fa_wG := fa_it (tb_6 _ (List.mem_of_getElem? (i := 17) rfl)) rfl
set_option maxRecDepth 100000 in
theorem wd_1218 : (Jvm.Cond.lays "java/util/NoSuchElementException" "java/lang/Throwable" "stackTrace" "[Ljava/lang/StackTraceElement;") ∈ fa_wG := fa_it (tb_6 _ (List.mem_of_getElem? (i := 18) rfl)) rfl
set_option maxRecDepth 100000 in
theorem wd_1219 : (Jvm.Cond.lays "java/util/NoSuchElementException" "java/lang/Throwable" "suppressedExceptions" "Ljava/util/List;") ∈ fa_wG := fa_it (tb_6 _ (List.mem_of_getElem? (i := 19) rfl)) rfl
set_option maxRecDepth 100000 in
theorem wd_1220 : (Jvm.Cond.lays "java/util/NoSuchElementException" "java/lang/Throwable" "detailMessage" "Ljava/lang/String;") ∈ fa_wG := fa_it (tb_6 _ (List.mem_of_getElem? (i := 20) rfl)) rfl
set_option maxRecDepth 100000 in
theorem wd_1221 : (Jvm.Cond.lays "java/util/NoSuchElementException" "java/lang/Throwable" "backtrace" "Ljava/lang/Object;") ∈ fa_wG := fa_it (tb_6 _ (List.mem_of_getElem? (i := 21) rfl)) rfl
set_option maxRecDepth 100000 in
theorem wd_1223 : (Jvm.Cond.methodLink "FlowApply" (194 : Nat) ({ cls := "java/util/NoSuchElementException", name := "<init>", desc := "(Ljava/lang/String;)V" } : Jvm.MethodName)) ∈ fa_wG := fa_it (tb_6 _ (List.mem_of_getElem? (i := 23) rfl)) rfl
set_option maxRecDepth 100000 in
theorem wd_1224 : (Jvm.Cond.instanceMethod ({ cls := "java/util/NoSuchElementException", name := "<init>", desc := "(Ljava/lang/String;)V" } : Jvm.MethodName)) ∈ fa_wG := fa_it (tb_6 _ (List.mem_of_getElem? (i := 24) rfl)) rfl
set_option maxRecDepth 100000 in
theorem wd_1225 : (Jvm.Cond.code ({ cls := "java/util/NoSuchElementException", name := "<init>", desc := "(Ljava/lang/String;)V" } : Jvm.MethodName) prog_30_method_4_code (2 : Nat) (Option.none : Option Jvm.ClassFile.FieldType)) ∈ fa_wG := fa_it (tb_6 _ (List.mem_of_getElem? (i := 25) rfl)) rfl
set_option maxRecDepth 100000 in
theorem wd_1226 : (Jvm.Cond.methodLink "java/util/NoSuchElementException" (13 : Nat) ({ cls := "java/lang/RuntimeException", name := "<init>", desc := "(Ljava/lang/String;)V" } : Jvm.MethodName)) ∈ fa_wG := fa_it (tb_6 _ (List.mem_of_getElem? (i := 26) rfl)) rfl
set_option maxRecDepth 100000 in
theorem wd_1227 : (Jvm.Cond.lays "java/util/NoSuchElementException" "java/lang/Throwable" "depth" "I") ∈ fa_wG := fa_it (tb_6 _ (List.mem_of_getElem? (i := 27) rfl)) rfl
set_option maxRecDepth 100000 in
theorem wd_1229 : (Jvm.Cond.methodLink "FlowApplyLaw" (92 : Nat) ({ cls := "FlowApplyLaw", name := "field", desc := "(LFlowApply;II[J)I" } : Jvm.MethodName)) ∈ fa_wG := fa_it (tb_6 _ (List.mem_of_getElem? (i := 29) rfl)) rfl
set_option maxRecDepth 100000 in
theorem wd_1230 : (Jvm.Cond.static ({ cls := "FlowApplyLaw", name := "field", desc := "(LFlowApply;II[J)I" } : Jvm.MethodName)) ∈ fa_wG := fa_it (tb_6 _ (List.mem_of_getElem? (i := 30) rfl)) rfl
set_option maxRecDepth 100000 in
theorem wd_1232 : (Jvm.Cond.methodLink "FlowApplyLaw" (25 : Nat) ({ cls := "FlowApply", name := "field", desc := "(II)I" } : Jvm.MethodName)) ∈ fa_wG := fa_it (tb_6 _ (List.mem_of_getElem? (i := 32) rfl)) rfl
set_option maxRecDepth 100000 in
theorem wd_1233 : (Jvm.Cond.instanceMethod ({ cls := "FlowApply", name := "field", desc := "(II)I" } : Jvm.MethodName)) ∈ fa_wG := fa_it (tb_6 _ (List.mem_of_getElem? (i := 33) rfl)) rfl
set_option maxRecDepth 100000 in
theorem wd_1234 : (Jvm.Cond.selects "FlowApply" ({ cls := "FlowApply", name := "field", desc := "(II)I" } : Jvm.MethodName) ({ cls := "FlowApply", name := "field", desc := "(II)I" } : Jvm.MethodName)) ∈ fa_wG := fa_it (tb_6 _ (List.mem_of_getElem? (i := 34) rfl)) rfl
set_option maxRecDepth 100000 in
theorem wd_1235 : (Jvm.Cond.code ({ cls := "FlowApply", name := "field", desc := "(II)I" } : Jvm.MethodName) prog_1_method_11_code (3 : Nat) (Option.some Jvm.ClassFile.FieldType.int)) ∈ fa_wG := fa_it (tb_6 _ (List.mem_of_getElem? (i := 35) rfl)) rfl
set_option maxRecDepth 100000 in
theorem wd_1237 : (Jvm.Cond.methodLink "FlowApply" (212 : Nat) ({ cls := "FlowApply$Writer", name := "showName", desc := "(I)I" } : Jvm.MethodName)) ∈ fa_wG := fa_it (tb_6 _ (List.mem_of_getElem? (i := 37) rfl)) rfl
set_option maxRecDepth 100000 in
theorem wd_1238 : (Jvm.Cond.instanceMethod ({ cls := "FlowApply$Writer", name := "showName", desc := "(I)I" } : Jvm.MethodName)) ∈ fa_wG := fa_it (tb_6 _ (List.mem_of_getElem? (i := 38) rfl)) rfl
set_option maxRecDepth 100000 in
theorem wd_1239 : (Jvm.Cond.selects "FlowApply$Writer" ({ cls := "FlowApply$Writer", name := "showName", desc := "(I)I" } : Jvm.MethodName) ({ cls := "FlowApply$Writer", name := "showName", desc := "(I)I" } : Jvm.MethodName)) ∈ fa_wG := fa_it (tb_6 _ (List.mem_of_getElem? (i := 39) rfl)) rfl
set_option maxRecDepth 100000 in
theorem wd_1240 : (Jvm.Cond.code ({ cls := "FlowApply$Writer", name := "showName", desc := "(I)I" } : Jvm.MethodName) prog_10_method_2_code (2 : Nat) (Option.some Jvm.ClassFile.FieldType.int)) ∈ fa_wG := fa_it (tb_6 _ (List.mem_of_getElem? (i := 40) rfl)) rfl
set_option maxRecDepth 100000 in
theorem wd_1241 : (Jvm.Cond.methodLink "FlowApplyLaw" (95 : Nat) ({ cls := "FlowApplyLaw", name := "type", desc := "(LFlowApply;I[J)I" } : Jvm.MethodName)) ∈ fa_wG := fa_it (tb_6 _ (List.mem_of_getElem? (i := 41) rfl)) rfl
set_option maxRecDepth 100000 in
theorem wd_1242 : (Jvm.Cond.static ({ cls := "FlowApplyLaw", name := "type", desc := "(LFlowApply;I[J)I" } : Jvm.MethodName)) ∈ fa_wG := fa_it (tb_6 _ (List.mem_of_getElem? (i := 42) rfl)) rfl
set_option maxRecDepth 100000 in
theorem wd_1244 : (Jvm.Cond.methodLink "FlowApplyLaw" (28 : Nat) ({ cls := "FlowApply", name := "type", desc := "(I)I" } : Jvm.MethodName)) ∈ fa_wG := fa_it (tb_6 _ (List.mem_of_getElem? (i := 44) rfl)) rfl
set_option maxRecDepth 100000 in
theorem wd_1245 : (Jvm.Cond.instanceMethod ({ cls := "FlowApply", name := "type", desc := "(I)I" } : Jvm.MethodName)) ∈ fa_wG := fa_it (tb_6 _ (List.mem_of_getElem? (i := 45) rfl)) rfl
set_option maxRecDepth 100000 in
theorem wd_1246 : (Jvm.Cond.selects "FlowApply" ({ cls := "FlowApply", name := "type", desc := "(I)I" } : Jvm.MethodName) ({ cls := "FlowApply", name := "type", desc := "(I)I" } : Jvm.MethodName)) ∈ fa_wG := fa_it (tb_6 _ (List.mem_of_getElem? (i := 46) rfl)) rfl
set_option maxRecDepth 100000 in
theorem wd_1247 : (Jvm.Cond.code ({ cls := "FlowApply", name := "type", desc := "(I)I" } : Jvm.MethodName) prog_1_method_12_code (2 : Nat) (Option.some Jvm.ClassFile.FieldType.int)) ∈ fa_wG := fa_it (tb_6 _ (List.mem_of_getElem? (i := 47) rfl)) rfl
set_option maxRecDepth 100000 in
theorem wd_1248 : (Jvm.Cond.methodLink "FlowApplyLaw" (103 : Nat) ({ cls := "FlowApplyLaw", name := "alike", desc := "(LFlowApply;II[J)I" } : Jvm.MethodName)) ∈ fa_wG := fa_it (tb_6 _ (List.mem_of_getElem? (i := 48) rfl)) rfl
set_option maxRecDepth 100000 in
theorem wd_1249 : (Jvm.Cond.static ({ cls := "FlowApplyLaw", name := "alike", desc := "(LFlowApply;II[J)I" } : Jvm.MethodName)) ∈ fa_wG := fa_it (tb_6 _ (List.mem_of_getElem? (i := 49) rfl)) rfl
set_option maxRecDepth 100000 in
theorem wd_1251 : (Jvm.Cond.methodLink "FlowApplyLaw" (32 : Nat) ({ cls := "FlowApply", name := "alike", desc := "(II)Z" } : Jvm.MethodName)) ∈ fa_wG := fa_it (tb_6 _ (List.mem_of_getElem? (i := 51) rfl)) rfl
set_option maxRecDepth 100000 in
theorem wd_1252 : (Jvm.Cond.instanceMethod ({ cls := "FlowApply", name := "alike", desc := "(II)Z" } : Jvm.MethodName)) ∈ fa_wG := fa_it (tb_6 _ (List.mem_of_getElem? (i := 52) rfl)) rfl
set_option maxRecDepth 100000 in
theorem wd_1253 : (Jvm.Cond.selects "FlowApply" ({ cls := "FlowApply", name := "alike", desc := "(II)Z" } : Jvm.MethodName) ({ cls := "FlowApply", name := "alike", desc := "(II)Z" } : Jvm.MethodName)) ∈ fa_wG := fa_it (tb_6 _ (List.mem_of_getElem? (i := 53) rfl)) rfl
set_option maxRecDepth 100000 in
theorem wd_1254 : (Jvm.Cond.code ({ cls := "FlowApply", name := "alike", desc := "(II)Z" } : Jvm.MethodName) prog_1_method_14_code (3 : Nat) (Option.some Jvm.ClassFile.FieldType.boolean)) ∈ fa_wG := fa_it (tb_6 _ (List.mem_of_getElem? (i := 54) rfl)) rfl
set_option maxRecDepth 100000 in
theorem wd_1255 : (Jvm.Cond.methodLink "FlowApply" (234 : Nat) ({ cls := "FlowApply$Typing", name := "same", desc := "(II)Z" } : Jvm.MethodName)) ∈ fa_wG := fa_it (tb_6 _ (List.mem_of_getElem? (i := 55) rfl)) rfl
set_option maxRecDepth 100000 in
theorem wd_1256 : (Jvm.Cond.methodLink "FlowApplyLaw" (106 : Nat) ({ cls := "FlowApplyLaw", name := "site", desc := "(LFlowApply;II[J)I" } : Jvm.MethodName)) ∈ fa_wG := fa_it (tb_6 _ (List.mem_of_getElem? (i := 56) rfl)) rfl
set_option maxRecDepth 100000 in
theorem wd_1257 : (Jvm.Cond.static ({ cls := "FlowApplyLaw", name := "site", desc := "(LFlowApply;II[J)I" } : Jvm.MethodName)) ∈ fa_wG := fa_it (tb_6 _ (List.mem_of_getElem? (i := 57) rfl)) rfl
set_option maxRecDepth 100000 in
theorem wd_1259 : (Jvm.Cond.methodLink "FlowApplyLaw" (36 : Nat) ({ cls := "FlowApply", name := "site", desc := "(II)I" } : Jvm.MethodName)) ∈ fa_wG := fa_it (tb_6 _ (List.mem_of_getElem? (i := 59) rfl)) rfl
set_option maxRecDepth 100000 in
theorem wd_1260 : (Jvm.Cond.instanceMethod ({ cls := "FlowApply", name := "site", desc := "(II)I" } : Jvm.MethodName)) ∈ fa_wG := fa_it (tb_6 _ (List.mem_of_getElem? (i := 60) rfl)) rfl
set_option maxRecDepth 100000 in
theorem wd_1261 : (Jvm.Cond.selects "FlowApply" ({ cls := "FlowApply", name := "site", desc := "(II)I" } : Jvm.MethodName) ({ cls := "FlowApply", name := "site", desc := "(II)I" } : Jvm.MethodName)) ∈ fa_wG := fa_it (tb_6 _ (List.mem_of_getElem? (i := 61) rfl)) rfl
set_option maxRecDepth 100000 in
theorem wd_1262 : (Jvm.Cond.code ({ cls := "FlowApply", name := "site", desc := "(II)I" } : Jvm.MethodName) prog_1_method_15_code (5 : Nat) (Option.some Jvm.ClassFile.FieldType.int)) ∈ fa_wG := fa_it (tb_6 _ (List.mem_of_getElem? (i := 62) rfl)) rfl
set_option maxRecDepth 100000 in
theorem wd_1264 : (Jvm.Cond.methodLink "FlowApply" (245 : Nat) ({ cls := "FlowApply$Flow", name := "applied", desc := "(LFlowApply$Program;I)I" } : Jvm.MethodName)) ∈ fa_wG := fa_it (tb_6 _ (List.mem_of_getElem? (i := 64) rfl)) rfl
set_option maxRecDepth 100000 in
theorem wd_1265 : (Jvm.Cond.methodLink "FlowApply" (248 : Nat) ({ cls := "FlowApply$Program", name := "owner", desc := "(I)I" } : Jvm.MethodName)) ∈ fa_wG := fa_it (tb_6 _ (List.mem_of_getElem? (i := 65) rfl)) rfl
set_option maxRecDepth 100000 in
theorem wd_1266 : (Jvm.Cond.methodLink "FlowApply" (254 : Nat) ({ cls := "FlowApply$Program", name := "part", desc := "(II)I" } : Jvm.MethodName)) ∈ fa_wG := fa_it (tb_6 _ (List.mem_of_getElem? (i := 66) rfl)) rfl
set_option maxRecDepth 100000 in
theorem wd_1267 : (Jvm.Cond.methodLink "FlowApply" (257 : Nat) ({ cls := "FlowApply", name := "lowest", desc := "(I)I" } : Jvm.MethodName)) ∈ fa_wG := fa_it (tb_6 _ (List.mem_of_getElem? (i := 67) rfl)) rfl
set_option maxRecDepth 100000 in
theorem wd_1268 : (Jvm.Cond.methodLink "FlowApply" (260 : Nat) ({ cls := "java/lang/Integer", name := "bitCount", desc := "(I)I" } : Jvm.MethodName)) ∈ fa_wG := fa_it (tb_6 _ (List.mem_of_getElem? (i := 68) rfl)) rfl
set_option maxRecDepth 100000 in
theorem wd_1269 : (Jvm.Cond.methodLink "FlowApply" (265 : Nat) ({ cls := "FlowApply$Flow", name := "looked", desc := "(I)Z" } : Jvm.MethodName)) ∈ fa_wG := fa_it (tb_6 _ (List.mem_of_getElem? (i := 69) rfl)) rfl
set_option maxRecDepth 100000 in
theorem wd_1271 : (Jvm.Cond.methodLink "FlowApplyLaw" (109 : Nat) ({ cls := "FlowApplyLaw", name := "split", desc := "(LFlowApply;II[J)I" } : Jvm.MethodName)) ∈ fa_wG := fa_it (tb_6 _ (List.mem_of_getElem? (i := 71) rfl)) rfl
set_option maxRecDepth 100000 in
theorem wd_1272 : (Jvm.Cond.static ({ cls := "FlowApplyLaw", name := "split", desc := "(LFlowApply;II[J)I" } : Jvm.MethodName)) ∈ fa_wG := fa_it (tb_6 _ (List.mem_of_getElem? (i := 72) rfl)) rfl
set_option maxRecDepth 100000 in
theorem wd_1274 : (Jvm.Cond.methodLink "FlowApplyLaw" (39 : Nat) ({ cls := "FlowApply", name := "split", desc := "(II)I" } : Jvm.MethodName)) ∈ fa_wG := fa_it (tb_6 _ (List.mem_of_getElem? (i := 74) rfl)) rfl
set_option maxRecDepth 100000 in
theorem wd_1275 : (Jvm.Cond.instanceMethod ({ cls := "FlowApply", name := "split", desc := "(II)I" } : Jvm.MethodName)) ∈ fa_wG := fa_it (tb_6 _ (List.mem_of_getElem? (i := 75) rfl)) rfl
set_option maxRecDepth 100000 in
theorem wd_1276 : (Jvm.Cond.selects "FlowApply" ({ cls := "FlowApply", name := "split", desc := "(II)I" } : Jvm.MethodName) ({ cls := "FlowApply", name := "split", desc := "(II)I" } : Jvm.MethodName)) ∈ fa_wG := fa_it (tb_6 _ (List.mem_of_getElem? (i := 76) rfl)) rfl
set_option maxRecDepth 100000 in
theorem wd_1277 : (Jvm.Cond.code ({ cls := "FlowApply", name := "split", desc := "(II)I" } : Jvm.MethodName) prog_1_method_16_code (3 : Nat) (Option.some Jvm.ClassFile.FieldType.int)) ∈ fa_wG := fa_it (tb_6 _ (List.mem_of_getElem? (i := 77) rfl)) rfl
set_option maxRecDepth 100000 in
theorem wd_1279 : (Jvm.Cond.methodLink "FlowApply" (273 : Nat) ({ cls := "FlowApply", name := "needSplit", desc := "(I)V" } : Jvm.MethodName)) ∈ fa_wG := fa_it (tb_6 _ (List.mem_of_getElem? (i := 79) rfl)) rfl
set_option maxRecDepth 100000 in
theorem wd_1281 : (Jvm.Cond.instanceMethod ({ cls := "FlowApply", name := "needSplit", desc := "(I)V" } : Jvm.MethodName)) ∈ fa_wG := fa_it (tb_6 _ (List.mem_of_getElem? (i := 81) rfl)) rfl
set_option maxRecDepth 100000 in
theorem wd_1282 : (Jvm.Cond.code ({ cls := "FlowApply", name := "needSplit", desc := "(I)V" } : Jvm.MethodName) prog_1_method_17_code (2 : Nat) (Option.none : Option Jvm.ClassFile.FieldType)) ∈ fa_wG := fa_it (tb_6 _ (List.mem_of_getElem? (i := 82) rfl)) rfl
set_option maxRecDepth 100000 in
theorem wd_1284 : (Jvm.Cond.methodLink "FlowApply" (276 : Nat) ({ cls := "FlowApply$Groups", name := "many", desc := "(I)I" } : Jvm.MethodName)) ∈ fa_wG := fa_it (tb_6 _ (List.mem_of_getElem? (i := 84) rfl)) rfl
set_option maxRecDepth 100000 in
theorem wd_1285 : (Jvm.Cond.methodLink "FlowApply" (279 : Nat) ({ cls := "FlowApply$Groups", name := "manyWithCases", desc := "(II)I" } : Jvm.MethodName)) ∈ fa_wG := fa_it (tb_6 _ (List.mem_of_getElem? (i := 85) rfl)) rfl
set_option maxRecDepth 100000 in
theorem wd_1286 : (Jvm.Cond.instanceMethod ({ cls := "FlowApply$Groups", name := "manyWithCases", desc := "(II)I" } : Jvm.MethodName)) ∈ fa_wG := fa_it (tb_6 _ (List.mem_of_getElem? (i := 86) rfl)) rfl
set_option maxRecDepth 100000 in
theorem wd_1287 : (Jvm.Cond.selects "FlowApply$Groups" ({ cls := "FlowApply$Groups", name := "manyWithCases", desc := "(II)I" } : Jvm.MethodName) ({ cls := "FlowApply$Groups", name := "manyWithCases", desc := "(II)I" } : Jvm.MethodName)) ∈ fa_wG := fa_it (tb_6 _ (List.mem_of_getElem? (i := 87) rfl)) rfl
set_option maxRecDepth 100000 in
theorem wd_1288 : (Jvm.Cond.code ({ cls := "FlowApply$Groups", name := "manyWithCases", desc := "(II)I" } : Jvm.MethodName) prog_3_method_9_code (5 : Nat) (Option.some Jvm.ClassFile.FieldType.int)) ∈ fa_wG := fa_it (tb_6 _ (List.mem_of_getElem? (i := 88) rfl)) rfl
set_option maxRecDepth 100000 in
theorem wd_1289 : (Jvm.Cond.methodLink "FlowApply$Groups" (94 : Nat) ({ cls := "FlowApply$Groups", name := "members", desc := "(II)I" } : Jvm.MethodName)) ∈ fa_wG := fa_it (tb_6 _ (List.mem_of_getElem? (i := 89) rfl)) rfl
set_option maxRecDepth 100000 in
theorem wd_1290 : (Jvm.Cond.instanceMethod ({ cls := "FlowApply$Groups", name := "members", desc := "(II)I" } : Jvm.MethodName)) ∈ fa_wG := fa_it (tb_6 _ (List.mem_of_getElem? (i := 90) rfl)) rfl
set_option maxRecDepth 100000 in
theorem wd_1291 : (Jvm.Cond.selects "FlowApply$Groups" ({ cls := "FlowApply$Groups", name := "members", desc := "(II)I" } : Jvm.MethodName) ({ cls := "FlowApply$Groups", name := "members", desc := "(II)I" } : Jvm.MethodName)) ∈ fa_wG := fa_it (tb_6 _ (List.mem_of_getElem? (i := 91) rfl)) rfl
set_option maxRecDepth 100000 in
theorem wd_1292 : (Jvm.Cond.code ({ cls := "FlowApply$Groups", name := "members", desc := "(II)I" } : Jvm.MethodName) prog_3_method_7_code (3 : Nat) (Option.some Jvm.ClassFile.FieldType.int)) ∈ fa_wG := fa_it (tb_6 _ (List.mem_of_getElem? (i := 92) rfl)) rfl
set_option maxRecDepth 100000 in
theorem wd_1293 : (Jvm.Cond.methodLinkNest "FlowApply$Groups" (98 : Nat) ({ cls := "FlowApply", name := "oneIf", desc := "(Z)I" } : Jvm.MethodName) "FlowApply") ∈ fa_nest := List.mem_of_getElem? (i := 84) (by decide +kernel)
set_option maxRecDepth 100000 in
theorem wd_1294 : (Jvm.Cond.methodLink "FlowApply" (282 : Nat) ({ cls := "FlowApply$Groups", name := "mostCases", desc := "(II)I" } : Jvm.MethodName)) ∈ fa_wG := fa_it (tb_6 _ (List.mem_of_getElem? (i := 94) rfl)) rfl
set_option maxRecDepth 100000 in
theorem wd_1295 : (Jvm.Cond.instanceMethod ({ cls := "FlowApply$Groups", name := "mostCases", desc := "(II)I" } : Jvm.MethodName)) ∈ fa_wG := fa_it (tb_6 _ (List.mem_of_getElem? (i := 95) rfl)) rfl
set_option maxRecDepth 100000 in
theorem wd_1296 : (Jvm.Cond.selects "FlowApply$Groups" ({ cls := "FlowApply$Groups", name := "mostCases", desc := "(II)I" } : Jvm.MethodName) ({ cls := "FlowApply$Groups", name := "mostCases", desc := "(II)I" } : Jvm.MethodName)) ∈ fa_wG := fa_it (tb_6 _ (List.mem_of_getElem? (i := 96) rfl)) rfl
set_option maxRecDepth 100000 in
theorem wd_1297 : (Jvm.Cond.code ({ cls := "FlowApply$Groups", name := "mostCases", desc := "(II)I" } : Jvm.MethodName) prog_3_method_10_code (5 : Nat) (Option.some Jvm.ClassFile.FieldType.int)) ∈ fa_wG := fa_it (tb_6 _ (List.mem_of_getElem? (i := 97) rfl)) rfl
set_option maxRecDepth 100000 in
theorem wd_1298 : (Jvm.Cond.methodLink "FlowApply$Groups" (102 : Nat) ({ cls := "java/lang/Integer", name := "bitCount", desc := "(I)I" } : Jvm.MethodName)) ∈ fa_wG := fa_it (tb_6 _ (List.mem_of_getElem? (i := 98) rfl)) rfl
set_option maxRecDepth 100000 in
theorem wd_1299 : (Jvm.Cond.methodLink "FlowApply$Groups" (107 : Nat) ({ cls := "java/lang/Math", name := "max", desc := "(II)I" } : Jvm.MethodName)) ∈ fa_wG := fa_it (tb_6 _ (List.mem_of_getElem? (i := 99) rfl)) rfl
set_option maxRecDepth 100000 in
theorem wd_1300 : (Jvm.Cond.methodLink "FlowApplyLaw" (112 : Nat) ({ cls := "FlowApplyLaw", name := "group", desc := "(LFlowApply;IIZ[J)I" } : Jvm.MethodName)) ∈ fa_wG := fa_it (tb_6 _ (List.mem_of_getElem? (i := 100) rfl)) rfl
set_option maxRecDepth 100000 in
theorem wd_1301 : (Jvm.Cond.static ({ cls := "FlowApplyLaw", name := "group", desc := "(LFlowApply;IIZ[J)I" } : Jvm.MethodName)) ∈ fa_wG := fa_it (tb_6 _ (List.mem_of_getElem? (i := 101) rfl)) rfl
set_option maxRecDepth 100000 in
theorem wd_1303 : (Jvm.Cond.methodLink "FlowApplyLaw" (42 : Nat) ({ cls := "FlowApply", name := "group", desc := "(IIZ)I" } : Jvm.MethodName)) ∈ fa_wG := fa_it (tb_6 _ (List.mem_of_getElem? (i := 103) rfl)) rfl
set_option maxRecDepth 100000 in
theorem wd_1304 : (Jvm.Cond.instanceMethod ({ cls := "FlowApply", name := "group", desc := "(IIZ)I" } : Jvm.MethodName)) ∈ fa_wG := fa_it (tb_6 _ (List.mem_of_getElem? (i := 104) rfl)) rfl
set_option maxRecDepth 100000 in
theorem wd_1305 : (Jvm.Cond.selects "FlowApply" ({ cls := "FlowApply", name := "group", desc := "(IIZ)I" } : Jvm.MethodName) ({ cls := "FlowApply", name := "group", desc := "(IIZ)I" } : Jvm.MethodName)) ∈ fa_wG := fa_it (tb_6 _ (List.mem_of_getElem? (i := 105) rfl)) rfl
set_option maxRecDepth 100000 in
theorem wd_1306 : (Jvm.Cond.code ({ cls := "FlowApply", name := "group", desc := "(IIZ)I" } : Jvm.MethodName) prog_1_method_18_code (5 : Nat) (Option.some Jvm.ClassFile.FieldType.int)) ∈ fa_wG := fa_it (tb_6 _ (List.mem_of_getElem? (i := 106) rfl)) rfl
set_option maxRecDepth 100000 in
theorem wd_1308 : (Jvm.Cond.methodLink "FlowApply" (289 : Nat) ({ cls := "FlowApply$Groups", name := "members", desc := "(II)I" } : Jvm.MethodName)) ∈ fa_wG := fa_it (tb_6 _ (List.mem_of_getElem? (i := 108) rfl)) rfl
set_option maxRecDepth 100000 in
theorem wd_1309 : (Jvm.Cond.methodLink "FlowApplyLaw" (116 : Nat) ({ cls := "FlowApplyLaw", name := "run", desc := "(LFlowApply;II[J)I" } : Jvm.MethodName)) ∈ fa_wG := fa_it (tb_6 _ (List.mem_of_getElem? (i := 109) rfl)) rfl
set_option maxRecDepth 100000 in
theorem wd_1310 : (Jvm.Cond.static ({ cls := "FlowApplyLaw", name := "run", desc := "(LFlowApply;II[J)I" } : Jvm.MethodName)) ∈ fa_wG := fa_it (tb_6 _ (List.mem_of_getElem? (i := 110) rfl)) rfl
set_option maxRecDepth 100000 in
theorem wd_1312 : (Jvm.Cond.methodLink "FlowApplyLaw" (46 : Nat) ({ cls := "FlowApply", name := "run", desc := "(II)I" } : Jvm.MethodName)) ∈ fa_wG := fa_it (tb_6 _ (List.mem_of_getElem? (i := 112) rfl)) rfl
set_option maxRecDepth 100000 in
theorem wd_1313 : (Jvm.Cond.instanceMethod ({ cls := "FlowApply", name := "run", desc := "(II)I" } : Jvm.MethodName)) ∈ fa_wG := fa_it (tb_6 _ (List.mem_of_getElem? (i := 113) rfl)) rfl
set_option maxRecDepth 100000 in
theorem wd_1314 : (Jvm.Cond.selects "FlowApply" ({ cls := "FlowApply", name := "run", desc := "(II)I" } : Jvm.MethodName) ({ cls := "FlowApply", name := "run", desc := "(II)I" } : Jvm.MethodName)) ∈ fa_wG := fa_it (tb_6 _ (List.mem_of_getElem? (i := 114) rfl)) rfl
set_option maxRecDepth 100000 in
theorem wd_1315 : (Jvm.Cond.code ({ cls := "FlowApply", name := "run", desc := "(II)I" } : Jvm.MethodName) prog_1_method_19_code (3 : Nat) (Option.some Jvm.ClassFile.FieldType.int)) ∈ fa_wG := fa_it (tb_6 _ (List.mem_of_getElem? (i := 115) rfl)) rfl
set_option maxRecDepth 100000 in
theorem wd_1316 : (Jvm.Cond.methodLink "FlowApply" (292 : Nat) ({ cls := "FlowApply", name := "needHow", desc := "(I)V" } : Jvm.MethodName)) ∈ fa_wG := fa_it (tb_6 _ (List.mem_of_getElem? (i := 116) rfl)) rfl
set_option maxRecDepth 100000 in
theorem wd_1318 : (Jvm.Cond.instanceMethod ({ cls := "FlowApply", name := "needHow", desc := "(I)V" } : Jvm.MethodName)) ∈ fa_wG := fa_it (tb_6 _ (List.mem_of_getElem? (i := 118) rfl)) rfl
set_option maxRecDepth 100000 in
theorem wd_1319 : (Jvm.Cond.code ({ cls := "FlowApply", name := "needHow", desc := "(I)V" } : Jvm.MethodName) prog_1_method_20_code (2 : Nat) (Option.none : Option Jvm.ClassFile.FieldType)) ∈ fa_wG := fa_it (tb_6 _ (List.mem_of_getElem? (i := 119) rfl)) rfl
set_option maxRecDepth 100000 in
theorem wd_1322 : (Jvm.Cond.methodLink "FlowApply" (297 : Nat) ({ cls := "FlowApply$Machine", name := "perform", desc := "(LFlowApply$Scene;I)V" } : Jvm.MethodName)) ∈ fa_wG := fa_it (tb_6 _ (List.mem_of_getElem? (i := 122) rfl)) rfl
set_option maxRecDepth 100000 in
theorem wd_1323 : (Jvm.Cond.instanceMethod ({ cls := "FlowApply$Machine", name := "perform", desc := "(LFlowApply$Scene;I)V" } : Jvm.MethodName)) ∈ fa_wG := fa_it (tb_6 _ (List.mem_of_getElem? (i := 123) rfl)) rfl
set_option maxRecDepth 100000 in
theorem wd_1324 : (Jvm.Cond.selects "FlowApply$Machine" ({ cls := "FlowApply$Machine", name := "perform", desc := "(LFlowApply$Scene;I)V" } : Jvm.MethodName) ({ cls := "FlowApply$Machine", name := "perform", desc := "(LFlowApply$Scene;I)V" } : Jvm.MethodName)) ∈ fa_wG := fa_it (tb_6 _ (List.mem_of_getElem? (i := 124) rfl)) rfl
set_option maxRecDepth 100000 in
theorem wd_1325 : (Jvm.Cond.code ({ cls := "FlowApply$Machine", name := "perform", desc := "(LFlowApply$Scene;I)V" } : Jvm.MethodName) prog_4_method_2_code (5 : Nat) (Option.none : Option Jvm.ClassFile.FieldType)) ∈ fa_wG := fa_it (tb_6 _ (List.mem_of_getElem? (i := 125) rfl)) rfl
set_option maxRecDepth 100000 in
theorem wd_1326 : (Jvm.Cond.methodLink "FlowApply$Machine" (58 : Nat) ({ cls := "FlowApply$Machine", name := "clear", desc := "()V" } : Jvm.MethodName)) ∈ fa_wG := fa_it (tb_6 _ (List.mem_of_getElem? (i := 126) rfl)) rfl
set_option maxRecDepth 100000 in
theorem wd_1328 : (Jvm.Cond.instanceMethod ({ cls := "FlowApply$Machine", name := "clear", desc := "()V" } : Jvm.MethodName)) ∈ fa_wG := fa_it (tb_6 _ (List.mem_of_getElem? (i := 128) rfl)) rfl
set_option maxRecDepth 100000 in
theorem wd_1329 : (Jvm.Cond.code ({ cls := "FlowApply$Machine", name := "clear", desc := "()V" } : Jvm.MethodName) prog_4_method_4_code (1 : Nat) (Option.none : Option Jvm.ClassFile.FieldType)) ∈ fa_wG := fa_it (tb_6 _ (List.mem_of_getElem? (i := 129) rfl)) rfl
set_option maxRecDepth 100000 in
theorem wd_1330 : (Jvm.Cond.methodLink "FlowApply$Machine" (127 : Nat) ({ cls := "FlowApply$Row", name := "clear", desc := "()V" } : Jvm.MethodName)) ∈ fa_wG := fa_it (tb_6 _ (List.mem_of_getElem? (i := 130) rfl)) rfl
set_option maxRecDepth 100000 in
theorem wd_1331 : (Jvm.Cond.methodLink "FlowApply$Machine" (76 : Nat) ({ cls := "FlowApply$Groups", name := "allCases", desc := "(II)I" } : Jvm.MethodName)) ∈ fa_wG := fa_it (tb_6 _ (List.mem_of_getElem? (i := 131) rfl)) rfl
set_option maxRecDepth 100000 in
theorem wd_1332 : (Jvm.Cond.instanceMethod ({ cls := "FlowApply$Groups", name := "allCases", desc := "(II)I" } : Jvm.MethodName)) ∈ fa_wG := fa_it (tb_6 _ (List.mem_of_getElem? (i := 132) rfl)) rfl
set_option maxRecDepth 100000 in
theorem wd_1333 : (Jvm.Cond.selects "FlowApply$Groups" ({ cls := "FlowApply$Groups", name := "allCases", desc := "(II)I" } : Jvm.MethodName) ({ cls := "FlowApply$Groups", name := "allCases", desc := "(II)I" } : Jvm.MethodName)) ∈ fa_wG := fa_it (tb_6 _ (List.mem_of_getElem? (i := 133) rfl)) rfl
set_option maxRecDepth 100000 in
theorem wd_1334 : (Jvm.Cond.code ({ cls := "FlowApply$Groups", name := "allCases", desc := "(II)I" } : Jvm.MethodName) prog_3_method_11_code (5 : Nat) (Option.some Jvm.ClassFile.FieldType.int)) ∈ fa_wG := fa_it (tb_6 _ (List.mem_of_getElem? (i := 134) rfl)) rfl
set_option maxRecDepth 100000 in
theorem wd_1335 : (Jvm.Cond.methodLink "FlowApply$Machine" (91 : Nat) ({ cls := "FlowApply$Machine", name := "begin", desc := "(II)V" } : Jvm.MethodName)) ∈ fa_wG := fa_it (tb_6 _ (List.mem_of_getElem? (i := 135) rfl)) rfl
set_option maxRecDepth 100000 in
theorem wd_1337 : (Jvm.Cond.instanceMethod ({ cls := "FlowApply$Machine", name := "begin", desc := "(II)V" } : Jvm.MethodName)) ∈ fa_wG := fa_it (tb_6 _ (List.mem_of_getElem? (i := 137) rfl)) rfl
set_option maxRecDepth 100000 in
theorem wd_1338 : (Jvm.Cond.code ({ cls := "FlowApply$Machine", name := "begin", desc := "(II)V" } : Jvm.MethodName) prog_4_method_7_code (3 : Nat) (Option.none : Option Jvm.ClassFile.FieldType)) ∈ fa_wG := fa_it (tb_6 _ (List.mem_of_getElem? (i := 138) rfl)) rfl
set_option maxRecDepth 100000 in
theorem wd_1339 : (Jvm.Cond.methodLink "FlowApply$Machine" (131 : Nat) ({ cls := "FlowApply$Row", name := "add", desc := "(I)V" } : Jvm.MethodName)) ∈ fa_wG := fa_it (tb_6 _ (List.mem_of_getElem? (i := 139) rfl)) rfl
set_option maxRecDepth 100000 in
theorem wd_1340 : (Jvm.Cond.constant "FlowApply$Machine" (94 : Nat) (1000000 : Int32)) ∈ fa_wG := fa_it (tb_6 _ (List.mem_of_getElem? (i := 140) rfl)) rfl
set_option maxRecDepth 100000 in
theorem wd_1341 : (Jvm.Cond.methodLink "FlowApply$Machine" (95 : Nat) ({ cls := "FlowApply$Row", name := "size", desc := "()I" } : Jvm.MethodName)) ∈ fa_wG := fa_it (tb_6 _ (List.mem_of_getElem? (i := 141) rfl)) rfl
set_option maxRecDepth 100000 in
theorem wd_1342 : (Jvm.Cond.methodLink "FlowApply$Machine" (99 : Nat) ({ cls := "FlowApply$Row", name := "drop", desc := "()I" } : Jvm.MethodName)) ∈ fa_wG := fa_it (tb_6 _ (List.mem_of_getElem? (i := 142) rfl)) rfl
set_option maxRecDepth 100000 in
theorem wd_1343 : (Jvm.Cond.methodLink "FlowApply$Machine" (102 : Nat) ({ cls := "FlowApply$Machine", name := "go", desc := "(LFlowApply$Program;II)V" } : Jvm.MethodName)) ∈ fa_wG := fa_it (tb_6 _ (List.mem_of_getElem? (i := 143) rfl)) rfl
set_option maxRecDepth 100000 in
theorem wd_1345 : (Jvm.Cond.instanceMethod ({ cls := "FlowApply$Machine", name := "go", desc := "(LFlowApply$Program;II)V" } : Jvm.MethodName)) ∈ fa_wG := fa_it (tb_6 _ (List.mem_of_getElem? (i := 145) rfl)) rfl
set_option maxRecDepth 100000 in
theorem wd_1346 : (Jvm.Cond.code ({ cls := "FlowApply$Machine", name := "go", desc := "(LFlowApply$Program;II)V" } : Jvm.MethodName) prog_4_method_12_code (4 : Nat) (Option.none : Option Jvm.ClassFile.FieldType)) ∈ fa_wG := fa_it (tb_6 _ (List.mem_of_getElem? (i := 146) rfl)) rfl
set_option maxRecDepth 100000 in
theorem wd_1347 : (Jvm.Cond.methodLink "FlowApply$Machine" (148 : Nat) ({ cls := "FlowApply$Program", name := "kind", desc := "(I)I" } : Jvm.MethodName)) ∈ fa_wG := fa_it (tb_6 _ (List.mem_of_getElem? (i := 147) rfl)) rfl
set_option maxRecDepth 100000 in
theorem wd_1348 : (Jvm.Cond.methodLink "FlowApply$Machine" (151 : Nat) ({ cls := "FlowApply$Program", name := "value", desc := "(I)I" } : Jvm.MethodName)) ∈ fa_wG := fa_it (tb_6 _ (List.mem_of_getElem? (i := 148) rfl)) rfl
set_option maxRecDepth 100000 in
theorem wd_1349 : (Jvm.Cond.methodLink "FlowApply$Machine" (145 : Nat) ({ cls := "FlowApply$Machine", name := "frame", desc := "()I" } : Jvm.MethodName)) ∈ fa_wG := fa_it (tb_6 _ (List.mem_of_getElem? (i := 149) rfl)) rfl
set_option maxRecDepth 100000 in
theorem wd_1351 : (Jvm.Cond.instanceMethod ({ cls := "FlowApply$Machine", name := "frame", desc := "()I" } : Jvm.MethodName)) ∈ fa_wG := fa_it (tb_6 _ (List.mem_of_getElem? (i := 151) rfl)) rfl
set_option maxRecDepth 100000 in
theorem wd_1352 : (Jvm.Cond.code ({ cls := "FlowApply$Machine", name := "frame", desc := "()I" } : Jvm.MethodName) prog_4_method_9_code (1 : Nat) (Option.some Jvm.ClassFile.FieldType.int)) ∈ fa_wG := fa_it (tb_6 _ (List.mem_of_getElem? (i := 152) rfl)) rfl
set_option maxRecDepth 100000 in
theorem wd_1353 : (Jvm.Cond.methodLink "FlowApply$Machine" (137 : Nat) ({ cls := "FlowApply$Row", name := "last", desc := "()I" } : Jvm.MethodName)) ∈ fa_wG := fa_it (tb_6 _ (List.mem_of_getElem? (i := 153) rfl)) rfl
set_option maxRecDepth 100000 in
theorem wd_1354 : (Jvm.Cond.instanceMethod ({ cls := "FlowApply$Row", name := "last", desc := "()I" } : Jvm.MethodName)) ∈ fa_wG := fa_it (tb_6 _ (List.mem_of_getElem? (i := 154) rfl)) rfl
set_option maxRecDepth 100000 in
theorem wd_1355 : (Jvm.Cond.selects "FlowApply$Row" ({ cls := "FlowApply$Row", name := "last", desc := "()I" } : Jvm.MethodName) ({ cls := "FlowApply$Row", name := "last", desc := "()I" } : Jvm.MethodName)) ∈ fa_wG := fa_it (tb_6 _ (List.mem_of_getElem? (i := 155) rfl)) rfl
set_option maxRecDepth 100000 in
theorem wd_1356 : (Jvm.Cond.code ({ cls := "FlowApply$Row", name := "last", desc := "()I" } : Jvm.MethodName) prog_7_method_8_code (1 : Nat) (Option.some Jvm.ClassFile.FieldType.int)) ∈ fa_wG := fa_it (tb_6 _ (List.mem_of_getElem? (i := 156) rfl)) rfl
set_option maxRecDepth 100000 in
theorem wd_1357 : (Jvm.Cond.methodLink "FlowApply$Machine" (140 : Nat) ({ cls := "java/lang/Math", name := "max", desc := "(II)I" } : Jvm.MethodName)) ∈ fa_wG := fa_it (tb_6 _ (List.mem_of_getElem? (i := 157) rfl)) rfl
set_option maxRecDepth 100000 in
theorem wd_1358 : (Jvm.Cond.methodLink "FlowApply$Machine" (115 : Nat) ({ cls := "FlowApply$Row", name := "at", desc := "(I)I" } : Jvm.MethodName)) ∈ fa_wG := fa_it (tb_6 _ (List.mem_of_getElem? (i := 158) rfl)) rfl
set_option maxRecDepth 100000 in
theorem wd_1359 : (Jvm.Cond.methodLink "FlowApply$Machine" (154 : Nat) ({ cls := "FlowApply$Machine", name := "handed", desc := "(I)I" } : Jvm.MethodName)) ∈ fa_wG := fa_it (tb_6 _ (List.mem_of_getElem? (i := 159) rfl)) rfl
set_option maxRecDepth 100000 in
theorem wd_1361 : (Jvm.Cond.instanceMethod ({ cls := "FlowApply$Machine", name := "handed", desc := "(I)I" } : Jvm.MethodName)) ∈ fa_wG := fa_it (tb_6 _ (List.mem_of_getElem? (i := 161) rfl)) rfl
set_option maxRecDepth 100000 in
theorem wd_1362 : (Jvm.Cond.code ({ cls := "FlowApply$Machine", name := "handed", desc := "(I)I" } : Jvm.MethodName) prog_4_method_10_code (2 : Nat) (Option.some Jvm.ClassFile.FieldType.int)) ∈ fa_wG := fa_it (tb_6 _ (List.mem_of_getElem? (i := 162) rfl)) rfl
set_option maxRecDepth 100000 in
theorem wd_1363 : (Jvm.Cond.methodLink "FlowApply$Machine" (157 : Nat) ({ cls := "FlowApply$Machine", name := "goChoice", desc := "(LFlowApply$Program;II)V" } : Jvm.MethodName)) ∈ fa_wG := fa_it (tb_6 _ (List.mem_of_getElem? (i := 163) rfl)) rfl
set_option maxRecDepth 100000 in
theorem wd_1365 : (Jvm.Cond.instanceMethod ({ cls := "FlowApply$Machine", name := "goChoice", desc := "(LFlowApply$Program;II)V" } : Jvm.MethodName)) ∈ fa_wG := fa_it (tb_6 _ (List.mem_of_getElem? (i := 165) rfl)) rfl
set_option maxRecDepth 100000 in
theorem wd_1366 : (Jvm.Cond.code ({ cls := "FlowApply$Machine", name := "goChoice", desc := "(LFlowApply$Program;II)V" } : Jvm.MethodName) prog_4_method_13_code (4 : Nat) (Option.none : Option Jvm.ClassFile.FieldType)) ∈ fa_wG := fa_it (tb_6 _ (List.mem_of_getElem? (i := 166) rfl)) rfl
set_option maxRecDepth 100000 in
theorem wd_1367 : (Jvm.Cond.methodLink "FlowApply$Machine" (169 : Nat) ({ cls := "FlowApply$Machine", name := "beginPart", desc := "(LFlowApply$Program;II)V" } : Jvm.MethodName)) ∈ fa_wG := fa_it (tb_6 _ (List.mem_of_getElem? (i := 167) rfl)) rfl
set_option maxRecDepth 100000 in
theorem wd_1369 : (Jvm.Cond.instanceMethod ({ cls := "FlowApply$Machine", name := "beginPart", desc := "(LFlowApply$Program;II)V" } : Jvm.MethodName)) ∈ fa_wG := fa_it (tb_6 _ (List.mem_of_getElem? (i := 169) rfl)) rfl
set_option maxRecDepth 100000 in
theorem wd_1370 : (Jvm.Cond.code ({ cls := "FlowApply$Machine", name := "beginPart", desc := "(LFlowApply$Program;II)V" } : Jvm.MethodName) prog_4_method_8_code (4 : Nat) (Option.none : Option Jvm.ClassFile.FieldType)) ∈ fa_wG := fa_it (tb_6 _ (List.mem_of_getElem? (i := 170) rfl)) rfl
set_option maxRecDepth 100000 in
theorem wd_1371 : (Jvm.Cond.methodLink "FlowApply$Machine" (134 : Nat) ({ cls := "FlowApply$Program", name := "part", desc := "(II)I" } : Jvm.MethodName)) ∈ fa_wG := fa_it (tb_6 _ (List.mem_of_getElem? (i := 171) rfl)) rfl
set_option maxRecDepth 100000 in
theorem wd_1372 : (Jvm.Cond.methodLink "FlowApply$Machine" (160 : Nat) ({ cls := "FlowApply$Machine", name := "goLet", desc := "(LFlowApply$Program;II)V" } : Jvm.MethodName)) ∈ fa_wG := fa_it (tb_6 _ (List.mem_of_getElem? (i := 172) rfl)) rfl
set_option maxRecDepth 100000 in
theorem wd_1374 : (Jvm.Cond.instanceMethod ({ cls := "FlowApply$Machine", name := "goLet", desc := "(LFlowApply$Program;II)V" } : Jvm.MethodName)) ∈ fa_wG := fa_it (tb_6 _ (List.mem_of_getElem? (i := 174) rfl)) rfl
set_option maxRecDepth 100000 in
theorem wd_1375 : (Jvm.Cond.code ({ cls := "FlowApply$Machine", name := "goLet", desc := "(LFlowApply$Program;II)V" } : Jvm.MethodName) prog_4_method_14_code (4 : Nat) (Option.none : Option Jvm.ClassFile.FieldType)) ∈ fa_wG := fa_it (tb_6 _ (List.mem_of_getElem? (i := 175) rfl)) rfl
set_option maxRecDepth 100000 in
theorem wd_1376 : (Jvm.Cond.methodLink "FlowApply$Machine" (172 : Nat) ({ cls := "FlowApply$Row", name := "set", desc := "(II)V" } : Jvm.MethodName)) ∈ fa_wG := fa_it (tb_6 _ (List.mem_of_getElem? (i := 176) rfl)) rfl
set_option maxRecDepth 100000 in
theorem wd_1377 : (Jvm.Cond.methodLink "FlowApply$Machine" (163 : Nat) ({ cls := "FlowApply$Machine", name := "goOperator", desc := "(LFlowApply$Program;II)V" } : Jvm.MethodName)) ∈ fa_wG := fa_it (tb_6 _ (List.mem_of_getElem? (i := 177) rfl)) rfl
set_option maxRecDepth 100000 in
theorem wd_1379 : (Jvm.Cond.instanceMethod ({ cls := "FlowApply$Machine", name := "goOperator", desc := "(LFlowApply$Program;II)V" } : Jvm.MethodName)) ∈ fa_wG := fa_it (tb_6 _ (List.mem_of_getElem? (i := 179) rfl)) rfl
set_option maxRecDepth 100000 in
theorem wd_1380 : (Jvm.Cond.code ({ cls := "FlowApply$Machine", name := "goOperator", desc := "(LFlowApply$Program;II)V" } : Jvm.MethodName) prog_4_method_15_code (6 : Nat) (Option.none : Option Jvm.ClassFile.FieldType)) ∈ fa_wG := fa_it (tb_6 _ (List.mem_of_getElem? (i := 180) rfl)) rfl
set_option maxRecDepth 100000 in
theorem wd_1381 : (Jvm.Cond.methodLinkNest "FlowApply$Machine" (175 : Nat) ({ cls := "FlowApply", name := "oneIf", desc := "(Z)I" } : Jvm.MethodName) "FlowApply") ∈ fa_nest := List.mem_of_getElem? (i := 85) (by decide +kernel)
set_option maxRecDepth 100000 in
theorem wd_1382 : (Jvm.Cond.methodLink "FlowApply$Machine" (179 : Nat) ({ cls := "FlowApply$Machine", name := "divide", desc := "(II)V" } : Jvm.MethodName)) ∈ fa_wG := fa_it (tb_6 _ (List.mem_of_getElem? (i := 182) rfl)) rfl
set_option maxRecDepth 100000 in
theorem wd_1384 : (Jvm.Cond.instanceMethod ({ cls := "FlowApply$Machine", name := "divide", desc := "(II)V" } : Jvm.MethodName)) ∈ fa_wG := fa_it (tb_6 _ (List.mem_of_getElem? (i := 184) rfl)) rfl
set_option maxRecDepth 100000 in
theorem wd_1385 : (Jvm.Cond.code ({ cls := "FlowApply$Machine", name := "divide", desc := "(II)V" } : Jvm.MethodName) prog_4_method_16_code (3 : Nat) (Option.none : Option Jvm.ClassFile.FieldType)) ∈ fa_wG := fa_it (tb_6 _ (List.mem_of_getElem? (i := 185) rfl)) rfl
set_option maxRecDepth 100000 in
theorem wd_1386 : (Jvm.Cond.methodLink "FlowApply$Machine" (166 : Nat) ({ cls := "FlowApply$Machine", name := "goSite", desc := "(LFlowApply$Program;II)V" } : Jvm.MethodName)) ∈ fa_wG := fa_it (tb_6 _ (List.mem_of_getElem? (i := 186) rfl)) rfl
set_option maxRecDepth 100000 in
theorem wd_1388 : (Jvm.Cond.instanceMethod ({ cls := "FlowApply$Machine", name := "goSite", desc := "(LFlowApply$Program;II)V" } : Jvm.MethodName)) ∈ fa_wG := fa_it (tb_6 _ (List.mem_of_getElem? (i := 188) rfl)) rfl
set_option maxRecDepth 100000 in
theorem wd_1389 : (Jvm.Cond.code ({ cls := "FlowApply$Machine", name := "goSite", desc := "(LFlowApply$Program;II)V" } : Jvm.MethodName) prog_4_method_17_code (6 : Nat) (Option.none : Option Jvm.ClassFile.FieldType)) ∈ fa_wG := fa_it (tb_6 _ (List.mem_of_getElem? (i := 189) rfl)) rfl
set_option maxRecDepth 100000 in
theorem wd_1390 : (Jvm.Cond.methodLink "FlowApply$Machine" (128 : Nat) ({ cls := "FlowApply$Machine", name := "functionOf", desc := "(I)I" } : Jvm.MethodName)) ∈ fa_wG := fa_it (tb_6 _ (List.mem_of_getElem? (i := 190) rfl)) rfl
set_option maxRecDepth 100000 in
theorem wd_1391 : (Jvm.Cond.static ({ cls := "FlowApply$Machine", name := "functionOf", desc := "(I)I" } : Jvm.MethodName)) ∈ fa_wG := fa_it (tb_6 _ (List.mem_of_getElem? (i := 191) rfl)) rfl
set_option maxRecDepth 100000 in
theorem wd_1392 : (Jvm.Cond.code ({ cls := "FlowApply$Machine", name := "functionOf", desc := "(I)I" } : Jvm.MethodName) prog_4_method_11_code (1 : Nat) (Option.some Jvm.ClassFile.FieldType.int)) ∈ fa_wG := fa_it (tb_6 _ (List.mem_of_getElem? (i := 192) rfl)) rfl
set_option maxRecDepth 100000 in
theorem wd_1393 : (Jvm.Cond.methodLinkNest "FlowApply$Machine" (182 : Nat) ({ cls := "FlowApply", name := "hasBit", desc := "(II)Z" } : Jvm.MethodName) "FlowApply") ∈ fa_nest := List.mem_of_getElem? (i := 86) (by decide +kernel)
set_option maxRecDepth 100000 in
theorem wd_1394 : (Jvm.Cond.methodLink "FlowApply$Machine" (186 : Nat) ({ cls := "FlowApply$Machine", name := "enter", desc := "(LFlowApply$Program;II)V" } : Jvm.MethodName)) ∈ fa_wG := fa_it (tb_6 _ (List.mem_of_getElem? (i := 194) rfl)) rfl
set_option maxRecDepth 100000 in
theorem wd_1396 : (Jvm.Cond.instanceMethod ({ cls := "FlowApply$Machine", name := "enter", desc := "(LFlowApply$Program;II)V" } : Jvm.MethodName)) ∈ fa_wG := fa_it (tb_6 _ (List.mem_of_getElem? (i := 196) rfl)) rfl
set_option maxRecDepth 100000 in
theorem wd_1397 : (Jvm.Cond.code ({ cls := "FlowApply$Machine", name := "enter", desc := "(LFlowApply$Program;II)V" } : Jvm.MethodName) prog_4_method_18_code (5 : Nat) (Option.none : Option Jvm.ClassFile.FieldType)) ∈ fa_wG := fa_it (tb_6 _ (List.mem_of_getElem? (i := 197) rfl)) rfl
set_option maxRecDepth 100000 in
theorem wd_1398 : (Jvm.Cond.methodLink "FlowApply$Machine" (189 : Nat) ({ cls := "FlowApply$Row", name := "repeat", desc := "(III)V" } : Jvm.MethodName)) ∈ fa_wG := fa_it (tb_6 _ (List.mem_of_getElem? (i := 198) rfl)) rfl
set_option maxRecDepth 100000 in
theorem wd_1399 : (Jvm.Cond.instanceMethod ({ cls := "FlowApply$Row", name := "repeat", desc := "(III)V" } : Jvm.MethodName)) ∈ fa_wG := fa_it (tb_6 _ (List.mem_of_getElem? (i := 199) rfl)) rfl
set_option maxRecDepth 100000 in
theorem wd_1400 : (Jvm.Cond.selects "FlowApply$Row" ({ cls := "FlowApply$Row", name := "repeat", desc := "(III)V" } : Jvm.MethodName) ({ cls := "FlowApply$Row", name := "repeat", desc := "(III)V" } : Jvm.MethodName)) ∈ fa_wG := fa_it (tb_6 _ (List.mem_of_getElem? (i := 200) rfl)) rfl
set_option maxRecDepth 100000 in
theorem wd_1401 : (Jvm.Cond.code ({ cls := "FlowApply$Row", name := "repeat", desc := "(III)V" } : Jvm.MethodName) prog_7_method_12_code (4 : Nat) (Option.none : Option Jvm.ClassFile.FieldType)) ∈ fa_wG := fa_it (tb_6 _ (List.mem_of_getElem? (i := 201) rfl)) rfl
set_option maxRecDepth 100000 in
theorem wd_1402 : (Jvm.Cond.methodLink "FlowApply$Row" (39 : Nat) ({ cls := "java/lang/System", name := "arraycopy", desc := "(Ljava/lang/Object;ILjava/lang/Object;II)V" } : Jvm.MethodName)) ∈ fa_wG := fa_it (tb_6 _ (List.mem_of_getElem? (i := 202) rfl)) rfl
set_option maxRecDepth 100000 in
theorem wd_1403 : (Jvm.Cond.static ({ cls := "java/lang/System", name := "arraycopy", desc := "(Ljava/lang/Object;ILjava/lang/Object;II)V" } : Jvm.MethodName)) ∈ fa_wG := fa_it (tb_6 _ (List.mem_of_getElem? (i := 203) rfl)) rfl
set_option maxRecDepth 100000 in
theorem wd_1404 : (Jvm.Cond.native ({ cls := "java/lang/System", name := "arraycopy", desc := "(Ljava/lang/Object;ILjava/lang/Object;II)V" } : Jvm.MethodName)) ∈ fa_wG := fa_it (tb_6 _ (List.mem_of_getElem? (i := 204) rfl)) rfl
set_option maxRecDepth 100000 in
theorem wd_1405 : (Jvm.Cond.methodLinkNest "FlowApply$Machine" (193 : Nat) ({ cls := "FlowApply", name := "bit", desc := "(I)I" } : Jvm.MethodName) "FlowApply") ∈ fa_nest := List.mem_of_getElem? (i := 87) (by decide +kernel)
set_option maxRecDepth 100000 in
theorem wd_1406 : (Jvm.Cond.methodLink "FlowApply$Machine" (119 : Nat) ({ cls := "FlowApply$Typing", name := "isInt", desc := "(I)Z" } : Jvm.MethodName)) ∈ fa_wG := fa_it (tb_6 _ (List.mem_of_getElem? (i := 206) rfl)) rfl
set_option maxRecDepth 100000 in
theorem wd_1407 : (Jvm.Cond.methodLink "FlowApply$Machine" (123 : Nat) ({ cls := "FlowApply$Machine", name := "finish", desc := "(Z)V" } : Jvm.MethodName)) ∈ fa_wG := fa_it (tb_6 _ (List.mem_of_getElem? (i := 207) rfl)) rfl
set_option maxRecDepth 100000 in
theorem wd_1409 : (Jvm.Cond.instanceMethod ({ cls := "FlowApply$Machine", name := "finish", desc := "(Z)V" } : Jvm.MethodName)) ∈ fa_wG := fa_it (tb_6 _ (List.mem_of_getElem? (i := 209) rfl)) rfl
set_option maxRecDepth 100000 in
theorem wd_1410 : (Jvm.Cond.code ({ cls := "FlowApply$Machine", name := "finish", desc := "(Z)V" } : Jvm.MethodName) prog_4_method_5_code (3 : Nat) (Option.none : Option Jvm.ClassFile.FieldType)) ∈ fa_wG := fa_it (tb_6 _ (List.mem_of_getElem? (i := 210) rfl)) rfl
set_option maxRecDepth 100000 in
theorem wd_1411 : (Jvm.Cond.methodLink "FlowApplyLaw" (119 : Nat) ({ cls := "FlowApplyLaw", name := "blame", desc := "(LFlowApply;II[J)I" } : Jvm.MethodName)) ∈ fa_wG := fa_it (tb_6 _ (List.mem_of_getElem? (i := 211) rfl)) rfl
set_option maxRecDepth 100000 in
theorem wd_1412 : (Jvm.Cond.static ({ cls := "FlowApplyLaw", name := "blame", desc := "(LFlowApply;II[J)I" } : Jvm.MethodName)) ∈ fa_wG := fa_it (tb_6 _ (List.mem_of_getElem? (i := 212) rfl)) rfl
set_option maxRecDepth 100000 in
theorem wd_1414 : (Jvm.Cond.methodLink "FlowApplyLaw" (49 : Nat) ({ cls := "FlowApply", name := "blame", desc := "(II)I" } : Jvm.MethodName)) ∈ fa_wG := fa_it (tb_6 _ (List.mem_of_getElem? (i := 214) rfl)) rfl
set_option maxRecDepth 100000 in
theorem wd_1415 : (Jvm.Cond.instanceMethod ({ cls := "FlowApply", name := "blame", desc := "(II)I" } : Jvm.MethodName)) ∈ fa_wG := fa_it (tb_6 _ (List.mem_of_getElem? (i := 215) rfl)) rfl
set_option maxRecDepth 100000 in
theorem wd_1416 : (Jvm.Cond.selects "FlowApply" ({ cls := "FlowApply", name := "blame", desc := "(II)I" } : Jvm.MethodName) ({ cls := "FlowApply", name := "blame", desc := "(II)I" } : Jvm.MethodName)) ∈ fa_wG := fa_it (tb_6 _ (List.mem_of_getElem? (i := 216) rfl)) rfl
set_option maxRecDepth 100000 in
theorem wd_1417 : (Jvm.Cond.code ({ cls := "FlowApply", name := "blame", desc := "(II)I" } : Jvm.MethodName) prog_1_method_21_code (3 : Nat) (Option.some Jvm.ClassFile.FieldType.int)) ∈ fa_wG := fa_it (tb_6 _ (List.mem_of_getElem? (i := 217) rfl)) rfl
set_option maxRecDepth 100000 in
theorem wd_1418 : (Jvm.Cond.methodLink "FlowApply" (318 : Nat) ({ cls := "FlowApply$Machine", name := "blamed", desc := "(I)I" } : Jvm.MethodName)) ∈ fa_wG := fa_it (tb_6 _ (List.mem_of_getElem? (i := 218) rfl)) rfl
set_option maxRecDepth 100000 in
theorem wd_1419 : (Jvm.Cond.instanceMethod ({ cls := "FlowApply$Machine", name := "blamed", desc := "(I)I" } : Jvm.MethodName)) ∈ fa_wG := fa_it (tb_6 _ (List.mem_of_getElem? (i := 219) rfl)) rfl
set_option maxRecDepth 100000 in
theorem wd_1420 : (Jvm.Cond.selects "FlowApply$Machine" ({ cls := "FlowApply$Machine", name := "blamed", desc := "(I)I" } : Jvm.MethodName) ({ cls := "FlowApply$Machine", name := "blamed", desc := "(I)I" } : Jvm.MethodName)) ∈ fa_wG := fa_it (tb_6 _ (List.mem_of_getElem? (i := 220) rfl)) rfl
set_option maxRecDepth 100000 in
theorem wd_1421 : (Jvm.Cond.code ({ cls := "FlowApply$Machine", name := "blamed", desc := "(I)I" } : Jvm.MethodName) prog_4_method_6_code (2 : Nat) (Option.some Jvm.ClassFile.FieldType.int)) ∈ fa_wG := fa_it (tb_6 _ (List.mem_of_getElem? (i := 221) rfl)) rfl
set_option maxRecDepth 100000 in
theorem wd_1422 : (Jvm.Cond.methodLink "FlowApplyLaw" (122 : Nat) ({ cls := "FlowApplyLaw", name := "form", desc := "(LFlowApply;I[J)I" } : Jvm.MethodName)) ∈ fa_wG := fa_it (tb_6 _ (List.mem_of_getElem? (i := 222) rfl)) rfl
set_option maxRecDepth 100000 in
theorem wd_1423 : (Jvm.Cond.static ({ cls := "FlowApplyLaw", name := "form", desc := "(LFlowApply;I[J)I" } : Jvm.MethodName)) ∈ fa_wG := fa_it (tb_6 _ (List.mem_of_getElem? (i := 223) rfl)) rfl
set_option maxRecDepth 100000 in
theorem wd_1425 : (Jvm.Cond.methodLink "FlowApplyLaw" (52 : Nat) ({ cls := "FlowApply", name := "form", desc := "(I)I" } : Jvm.MethodName)) ∈ fa_wG := fa_it (tb_6 _ (List.mem_of_getElem? (i := 225) rfl)) rfl
set_option maxRecDepth 100000 in
theorem wd_1426 : (Jvm.Cond.instanceMethod ({ cls := "FlowApply", name := "form", desc := "(I)I" } : Jvm.MethodName)) ∈ fa_wG := fa_it (tb_6 _ (List.mem_of_getElem? (i := 226) rfl)) rfl
set_option maxRecDepth 100000 in
theorem wd_1427 : (Jvm.Cond.selects "FlowApply" ({ cls := "FlowApply", name := "form", desc := "(I)I" } : Jvm.MethodName) ({ cls := "FlowApply", name := "form", desc := "(I)I" } : Jvm.MethodName)) ∈ fa_wG := fa_it (tb_6 _ (List.mem_of_getElem? (i := 227) rfl)) rfl
set_option maxRecDepth 100000 in
theorem wd_1428 : (Jvm.Cond.code ({ cls := "FlowApply", name := "form", desc := "(I)I" } : Jvm.MethodName) prog_1_method_22_code (2 : Nat) (Option.some Jvm.ClassFile.FieldType.int)) ∈ fa_wG := fa_it (tb_6 _ (List.mem_of_getElem? (i := 228) rfl)) rfl
set_option maxRecDepth 100000 in
theorem wd_1429 : (Jvm.Cond.methodLink "FlowApply" (321 : Nat) ({ cls := "FlowApply$Writer", name := "showForm", desc := "(LFlowApply$Scene;I)I" } : Jvm.MethodName)) ∈ fa_wG := fa_it (tb_6 _ (List.mem_of_getElem? (i := 229) rfl)) rfl
set_option maxRecDepth 100000 in
theorem wd_1430 : (Jvm.Cond.instanceMethod ({ cls := "FlowApply$Writer", name := "showForm", desc := "(LFlowApply$Scene;I)I" } : Jvm.MethodName)) ∈ fa_wG := fa_it (tb_6 _ (List.mem_of_getElem? (i := 230) rfl)) rfl
set_option maxRecDepth 100000 in
theorem wd_1431 : (Jvm.Cond.selects "FlowApply$Writer" ({ cls := "FlowApply$Writer", name := "showForm", desc := "(LFlowApply$Scene;I)I" } : Jvm.MethodName) ({ cls := "FlowApply$Writer", name := "showForm", desc := "(LFlowApply$Scene;I)I" } : Jvm.MethodName)) ∈ fa_wG := fa_it (tb_6 _ (List.mem_of_getElem? (i := 231) rfl)) rfl
set_option maxRecDepth 100000 in
theorem wd_1432 : (Jvm.Cond.code ({ cls := "FlowApply$Writer", name := "showForm", desc := "(LFlowApply$Scene;I)I" } : Jvm.MethodName) prog_10_method_4_code (6 : Nat) (Option.some Jvm.ClassFile.FieldType.int)) ∈ fa_wG := fa_it (tb_6 _ (List.mem_of_getElem? (i := 232) rfl)) rfl
set_option maxRecDepth 100000 in
theorem wd_1433 : (Jvm.Cond.methodLink "FlowApply$Writer" (90 : Nat) ({ cls := "FlowApply$Groups", name := "many", desc := "(I)I" } : Jvm.MethodName)) ∈ fa_wG := fa_it (tb_6 _ (List.mem_of_getElem? (i := 233) rfl)) rfl
set_option maxRecDepth 100000 in
theorem wd_1434 : (Jvm.Cond.methodLink "FlowApply$Writer" (95 : Nat) ({ cls := "FlowApply$Groups", name := "members", desc := "(II)I" } : Jvm.MethodName)) ∈ fa_wG := fa_it (tb_6 _ (List.mem_of_getElem? (i := 234) rfl)) rfl
set_option maxRecDepth 100000 in
theorem wd_1435 : (Jvm.Cond.methodLinkNest "FlowApply$Writer" (111 : Nat) ({ cls := "FlowApply", name := "hasBit", desc := "(II)Z" } : Jvm.MethodName) "FlowApply") ∈ fa_nest := List.mem_of_getElem? (i := 88) (by decide +kernel)
set_option maxRecDepth 100000 in
theorem wd_1436 : (Jvm.Cond.methodLink "FlowApply$Writer" (118 : Nat) ({ cls := "FlowApply$Writer", name := "putCaseStart", desc := "(LFlowApply$Program;II)V" } : Jvm.MethodName)) ∈ fa_wG := fa_it (tb_6 _ (List.mem_of_getElem? (i := 236) rfl)) rfl
set_option maxRecDepth 100000 in
theorem wd_1438 : (Jvm.Cond.instanceMethod ({ cls := "FlowApply$Writer", name := "putCaseStart", desc := "(LFlowApply$Program;II)V" } : Jvm.MethodName)) ∈ fa_wG := fa_it (tb_6 _ (List.mem_of_getElem? (i := 238) rfl)) rfl
set_option maxRecDepth 100000 in
theorem wd_1439 : (Jvm.Cond.code ({ cls := "FlowApply$Writer", name := "putCaseStart", desc := "(LFlowApply$Program;II)V" } : Jvm.MethodName) prog_10_method_5_code (4 : Nat) (Option.none : Option Jvm.ClassFile.FieldType)) ∈ fa_wG := fa_it (tb_6 _ (List.mem_of_getElem? (i := 239) rfl)) rfl
set_option maxRecDepth 100000 in
theorem wd_1443 : (Jvm.Cond.methodLink "FlowApplyLaw" (137 : Nat) ({ cls := "FlowApplyLaw", name := "ring", desc := "(LFlowApply;I[J)I" } : Jvm.MethodName)) ∈ fa_wG := fa_it (tb_7 _ (List.mem_of_getElem? (i := 3) rfl)) rfl
set_option maxRecDepth 100000 in
theorem wd_1444 : (Jvm.Cond.static ({ cls := "FlowApplyLaw", name := "ring", desc := "(LFlowApply;I[J)I" } : Jvm.MethodName)) ∈ fa_wG := fa_it (tb_7 _ (List.mem_of_getElem? (i := 4) rfl)) rfl
set_option maxRecDepth 100000 in
theorem wd_1446 : (Jvm.Cond.methodLink "FlowApplyLaw" (55 : Nat) ({ cls := "FlowApply", name := "ring", desc := "(I)I" } : Jvm.MethodName)) ∈ fa_wG := fa_it (tb_7 _ (List.mem_of_getElem? (i := 6) rfl)) rfl
set_option maxRecDepth 100000 in
theorem wd_1447 : (Jvm.Cond.instanceMethod ({ cls := "FlowApply", name := "ring", desc := "(I)I" } : Jvm.MethodName)) ∈ fa_wG := fa_it (tb_7 _ (List.mem_of_getElem? (i := 7) rfl)) rfl
set_option maxRecDepth 100000 in
theorem wd_1448 : (Jvm.Cond.selects "FlowApply" ({ cls := "FlowApply", name := "ring", desc := "(I)I" } : Jvm.MethodName) ({ cls := "FlowApply", name := "ring", desc := "(I)I" } : Jvm.MethodName)) ∈ fa_wG := fa_it (tb_7 _ (List.mem_of_getElem? (i := 8) rfl)) rfl
set_option maxRecDepth 100000 in
theorem wd_1449 : (Jvm.Cond.code ({ cls := "FlowApply", name := "ring", desc := "(I)I" } : Jvm.MethodName) prog_1_method_27_code (2 : Nat) (Option.some Jvm.ClassFile.FieldType.int)) ∈ fa_wG := fa_it (tb_7 _ (List.mem_of_getElem? (i := 9) rfl)) rfl
set_option maxRecDepth 100000 in
theorem wd_1451 : (Jvm.Cond.methodLink "FlowApplyLaw" (140 : Nat) ({ cls := "FlowApplyLaw", name := "far", desc := "(LFlowApply;II[J)I" } : Jvm.MethodName)) ∈ fa_wG := fa_it (tb_7 _ (List.mem_of_getElem? (i := 11) rfl)) rfl
set_option maxRecDepth 100000 in
theorem wd_1452 : (Jvm.Cond.static ({ cls := "FlowApplyLaw", name := "far", desc := "(LFlowApply;II[J)I" } : Jvm.MethodName)) ∈ fa_wG := fa_it (tb_7 _ (List.mem_of_getElem? (i := 12) rfl)) rfl
set_option maxRecDepth 100000 in
theorem wd_1454 : (Jvm.Cond.methodLink "FlowApplyLaw" (58 : Nat) ({ cls := "FlowApply", name := "far", desc := "(II)I" } : Jvm.MethodName)) ∈ fa_wG := fa_it (tb_7 _ (List.mem_of_getElem? (i := 14) rfl)) rfl
set_option maxRecDepth 100000 in
theorem wd_1455 : (Jvm.Cond.instanceMethod ({ cls := "FlowApply", name := "far", desc := "(II)I" } : Jvm.MethodName)) ∈ fa_wG := fa_it (tb_7 _ (List.mem_of_getElem? (i := 15) rfl)) rfl
set_option maxRecDepth 100000 in
theorem wd_1456 : (Jvm.Cond.selects "FlowApply" ({ cls := "FlowApply", name := "far", desc := "(II)I" } : Jvm.MethodName) ({ cls := "FlowApply", name := "far", desc := "(II)I" } : Jvm.MethodName)) ∈ fa_wG := fa_it (tb_7 _ (List.mem_of_getElem? (i := 16) rfl)) rfl
set_option maxRecDepth 100000 in
theorem wd_1457 : (Jvm.Cond.code ({ cls := "FlowApply", name := "far", desc := "(II)I" } : Jvm.MethodName) prog_1_method_28_code (3 : Nat) (Option.some Jvm.ClassFile.FieldType.int)) ∈ fa_wG := fa_it (tb_7 _ (List.mem_of_getElem? (i := 17) rfl)) rfl
set_option maxRecDepth 100000 in
theorem wd_1458 : (Jvm.Cond.methodLink "FlowApply" (337 : Nat) ({ cls := "FlowApply$Flow", name := "distance", desc := "(II)I" } : Jvm.MethodName)) ∈ fa_wG := fa_it (tb_7 _ (List.mem_of_getElem? (i := 18) rfl)) rfl
set_option maxRecDepth 100000 in
theorem wd_1459 : (Jvm.Cond.instanceMethod ({ cls := "FlowApply$Flow", name := "distance", desc := "(II)I" } : Jvm.MethodName)) ∈ fa_wG := fa_it (tb_7 _ (List.mem_of_getElem? (i := 19) rfl)) rfl
set_option maxRecDepth 100000 in
theorem wd_1460 : (Jvm.Cond.selects "FlowApply$Flow" ({ cls := "FlowApply$Flow", name := "distance", desc := "(II)I" } : Jvm.MethodName) ({ cls := "FlowApply$Flow", name := "distance", desc := "(II)I" } : Jvm.MethodName)) ∈ fa_wG := fa_it (tb_7 _ (List.mem_of_getElem? (i := 20) rfl)) rfl
set_option maxRecDepth 100000 in
theorem wd_1461 : (Jvm.Cond.code ({ cls := "FlowApply$Flow", name := "distance", desc := "(II)I" } : Jvm.MethodName) prog_2_method_15_code (5 : Nat) (Option.some Jvm.ClassFile.FieldType.int)) ∈ fa_wG := fa_it (tb_7 _ (List.mem_of_getElem? (i := 21) rfl)) rfl
set_option maxRecDepth 100000 in
theorem wd_1462 : (Jvm.Cond.methodLink "FlowApply$Flow" (145 : Nat) ({ cls := "FlowApply$Flow", name := "callsOf", desc := "(I)I" } : Jvm.MethodName)) ∈ fa_wG := fa_it (tb_7 _ (List.mem_of_getElem? (i := 22) rfl)) rfl
set_option maxRecDepth 100000 in
theorem wd_1464 : (Jvm.Cond.instanceMethod ({ cls := "FlowApply$Flow", name := "callsOf", desc := "(I)I" } : Jvm.MethodName)) ∈ fa_wG := fa_it (tb_7 _ (List.mem_of_getElem? (i := 24) rfl)) rfl
set_option maxRecDepth 100000 in
theorem wd_1465 : (Jvm.Cond.code ({ cls := "FlowApply$Flow", name := "callsOf", desc := "(I)I" } : Jvm.MethodName) prog_2_method_16_code (4 : Nat) (Option.some Jvm.ClassFile.FieldType.int)) ∈ fa_wG := fa_it (tb_7 _ (List.mem_of_getElem? (i := 25) rfl)) rfl
set_option maxRecDepth 100000 in
theorem wd_1466 : (Jvm.Cond.methodLink "FlowApplyLaw" (81 : Nat) ({ cls := "FlowApplyModel", name := "thrown", desc := "()I" } : Jvm.MethodName)) ∈ fa_wG := fa_it (tb_7 _ (List.mem_of_getElem? (i := 26) rfl)) rfl
set_option maxRecDepth 100000 in
theorem wd_1467 : (Jvm.Cond.instanceMethod ({ cls := "FlowApplyModel", name := "thrown", desc := "()I" } : Jvm.MethodName)) ∈ fa_wG := fa_it (tb_7 _ (List.mem_of_getElem? (i := 27) rfl)) rfl
set_option maxRecDepth 100000 in
theorem wd_1468 : (Jvm.Cond.selects "FlowApplyModel" ({ cls := "FlowApplyModel", name := "thrown", desc := "()I" } : Jvm.MethodName) ({ cls := "FlowApplyModel", name := "thrown", desc := "()I" } : Jvm.MethodName)) ∈ fa_wG := fa_it (tb_7 _ (List.mem_of_getElem? (i := 28) rfl)) rfl
set_option maxRecDepth 100000 in
theorem wd_1469 : (Jvm.Cond.code ({ cls := "FlowApplyModel", name := "thrown", desc := "()I" } : Jvm.MethodName) prog_12_method_1_code (1 : Nat) (Option.some Jvm.ClassFile.FieldType.int)) ∈ fa_wG := fa_it (tb_7 _ (List.mem_of_getElem? (i := 29) rfl)) rfl
set_option maxRecDepth 100000 in
theorem wd_1470 : (Jvm.Cond.methodLink "FlowApplyLaw" (69 : Nat) ({ cls := "FlowApplyModel", name := "feed", desc := "(IIIII)I" } : Jvm.MethodName)) ∈ fa_wG := fa_it (tb_7 _ (List.mem_of_getElem? (i := 30) rfl)) rfl
set_option maxRecDepth 100000 in
theorem wd_1471 : (Jvm.Cond.instanceMethod ({ cls := "FlowApplyModel", name := "feed", desc := "(IIIII)I" } : Jvm.MethodName)) ∈ fa_wG := fa_it (tb_7 _ (List.mem_of_getElem? (i := 31) rfl)) rfl
set_option maxRecDepth 100000 in
theorem wd_1472 : (Jvm.Cond.selects "FlowApplyModel" ({ cls := "FlowApplyModel", name := "feed", desc := "(IIIII)I" } : Jvm.MethodName) ({ cls := "FlowApplyModel", name := "feed", desc := "(IIIII)I" } : Jvm.MethodName)) ∈ fa_wG := fa_it (tb_7 _ (List.mem_of_getElem? (i := 32) rfl)) rfl
set_option maxRecDepth 100000 in
theorem wd_1473 : (Jvm.Cond.code ({ cls := "FlowApplyModel", name := "feed", desc := "(IIIII)I" } : Jvm.MethodName) prog_12_method_6_code (7 : Nat) (Option.some Jvm.ClassFile.FieldType.int)) ∈ fa_wG := fa_it (tb_7 _ (List.mem_of_getElem? (i := 33) rfl)) rfl
set_option maxRecDepth 100000 in
theorem wd_1474 : (Jvm.Cond.methodLink "FlowApplyLaw" (74 : Nat) ({ cls := "FlowApplyModel", name := "end", desc := "(I)Z" } : Jvm.MethodName)) ∈ fa_wG := fa_it (tb_7 _ (List.mem_of_getElem? (i := 34) rfl)) rfl
set_option maxRecDepth 100000 in
theorem wd_1475 : (Jvm.Cond.instanceMethod ({ cls := "FlowApplyModel", name := "end", desc := "(I)Z" } : Jvm.MethodName)) ∈ fa_wG := fa_it (tb_7 _ (List.mem_of_getElem? (i := 35) rfl)) rfl
set_option maxRecDepth 100000 in
theorem wd_1476 : (Jvm.Cond.selects "FlowApplyModel" ({ cls := "FlowApplyModel", name := "end", desc := "(I)Z" } : Jvm.MethodName) ({ cls := "FlowApplyModel", name := "end", desc := "(I)Z" } : Jvm.MethodName)) ∈ fa_wG := fa_it (tb_7 _ (List.mem_of_getElem? (i := 36) rfl)) rfl
set_option maxRecDepth 100000 in
theorem wd_1477 : (Jvm.Cond.code ({ cls := "FlowApplyModel", name := "end", desc := "(I)Z" } : Jvm.MethodName) prog_12_method_7_code (2 : Nat) (Option.some Jvm.ClassFile.FieldType.boolean)) ∈ fa_wG := fa_it (tb_7 _ (List.mem_of_getElem? (i := 37) rfl)) rfl
set_option maxRecDepth 100000 in
theorem wd_1478 : (Jvm.Cond.classLink "FlowApplyLaw" (62 : Nat) "FlowApplyModel") ∈ fa_wG := fa_it (tb_7 _ (List.mem_of_getElem? (i := 38) rfl)) rfl
set_option maxRecDepth 100000 in
theorem wd_1479 : (Jvm.Cond.instantiable "FlowApplyModel" (94 : Nat)) ∈ fa_wG := fa_it (tb_7 _ (List.mem_of_getElem? (i := 39) rfl)) rfl
set_option maxRecDepth 100000 in
theorem wd_1480 : (Jvm.Cond.methodLink "FlowApplyLaw" (64 : Nat) ({ cls := "FlowApplyModel", name := "<init>", desc := "()V" } : Jvm.MethodName)) ∈ fa_wG := fa_it (tb_7 _ (List.mem_of_getElem? (i := 40) rfl)) rfl
set_option maxRecDepth 100000 in
theorem wd_1481 : (Jvm.Cond.instanceMethod ({ cls := "FlowApplyModel", name := "<init>", desc := "()V" } : Jvm.MethodName)) ∈ fa_wG := fa_it (tb_7 _ (List.mem_of_getElem? (i := 41) rfl)) rfl
set_option maxRecDepth 100000 in
theorem wd_1482 : (Jvm.Cond.code ({ cls := "FlowApplyModel", name := "<init>", desc := "()V" } : Jvm.MethodName) prog_12_method_67_code (2 : Nat) (Option.none : Option Jvm.ClassFile.FieldType)) ∈ fa_wG := fa_it (tb_7 _ (List.mem_of_getElem? (i := 42) rfl)) rfl
set_option maxRecDepth 100000 in
theorem wd_1483 : (Jvm.Cond.methodLink "FlowApplyModel" (411 : Nat) ({ cls := "java/lang/Object", name := "<init>", desc := "()V" } : Jvm.MethodName)) ∈ fa_wG := fa_it (tb_7 _ (List.mem_of_getElem? (i := 43) rfl)) rfl
set_option maxRecDepth 100000 in
theorem wd_1484 : (Jvm.Cond.constant "FlowApplyModel" (416 : Nat) (40000 : Int32)) ∈ fa_wG := fa_it (tb_7 _ (List.mem_of_getElem? (i := 44) rfl)) rfl
set_option maxRecDepth 100000 in
theorem wd_1485 : (Jvm.Cond.constant "FlowApplyModel" (429 : Nat) (55000 : Int32)) ∈ fa_wG := fa_it (tb_7 _ (List.mem_of_getElem? (i := 45) rfl)) rfl
set_option maxRecDepth 100000 in
theorem wd_1486 : (Jvm.Cond.methodLink "FlowApplyModel" (463 : Nat) ({ cls := "FlowApplyModel", name := "readsAll", desc := "(Z)Z" } : Jvm.MethodName)) ∈ fa_wG := fa_it (tb_7 _ (List.mem_of_getElem? (i := 46) rfl)) rfl
set_option maxRecDepth 100000 in
theorem wd_1488 : (Jvm.Cond.instanceMethod ({ cls := "FlowApplyModel", name := "readsAll", desc := "(Z)Z" } : Jvm.MethodName)) ∈ fa_wG := fa_it (tb_7 _ (List.mem_of_getElem? (i := 48) rfl)) rfl
set_option maxRecDepth 100000 in
theorem wd_1489 : (Jvm.Cond.code ({ cls := "FlowApplyModel", name := "readsAll", desc := "(Z)Z" } : Jvm.MethodName) prog_12_method_68_code (2 : Nat) (Option.some Jvm.ClassFile.FieldType.boolean)) ∈ fa_wG := fa_it (tb_7 _ (List.mem_of_getElem? (i := 49) rfl)) rfl
set_option maxRecDepth 100000 in
theorem wd_1490 : (Jvm.Cond.methodLink "FlowApplyModel" (470 : Nat) ({ cls := "FlowApplyModel", name := "reads", desc := "()Z" } : Jvm.MethodName)) ∈ fa_wG := fa_it (tb_7 _ (List.mem_of_getElem? (i := 50) rfl)) rfl
set_option maxRecDepth 100000 in
theorem wd_1492 : (Jvm.Cond.instanceMethod ({ cls := "FlowApplyModel", name := "reads", desc := "()Z" } : Jvm.MethodName)) ∈ fa_wG := fa_it (tb_7 _ (List.mem_of_getElem? (i := 52) rfl)) rfl
set_option maxRecDepth 100000 in
theorem wd_1493 : (Jvm.Cond.code ({ cls := "FlowApplyModel", name := "reads", desc := "()Z" } : Jvm.MethodName) prog_12_method_36_code (1 : Nat) (Option.some Jvm.ClassFile.FieldType.boolean)) ∈ fa_wG := fa_it (tb_7 _ (List.mem_of_getElem? (i := 53) rfl)) rfl
set_option maxRecDepth 100000 in
theorem wd_1494 : (Jvm.Cond.methodLink "FlowApplyModel" (41 : Nat) ({ cls := "FlowApplyModel", name := "hasFailed", desc := "()Z" } : Jvm.MethodName)) ∈ fa_wG := fa_it (tb_7 _ (List.mem_of_getElem? (i := 54) rfl)) rfl
set_option maxRecDepth 100000 in
theorem wd_1496 : (Jvm.Cond.instanceMethod ({ cls := "FlowApplyModel", name := "hasFailed", desc := "()Z" } : Jvm.MethodName)) ∈ fa_wG := fa_it (tb_7 _ (List.mem_of_getElem? (i := 56) rfl)) rfl
set_option maxRecDepth 100000 in
theorem wd_1497 : (Jvm.Cond.code ({ cls := "FlowApplyModel", name := "hasFailed", desc := "()Z" } : Jvm.MethodName) prog_12_method_11_code (1 : Nat) (Option.some Jvm.ClassFile.FieldType.boolean)) ∈ fa_wG := fa_it (tb_7 _ (List.mem_of_getElem? (i := 57) rfl)) rfl
set_option maxRecDepth 100000 in
theorem wd_1498 : (Jvm.Cond.methodLink "FlowApplyModel" (78 : Nat) ({ cls := "FlowApplyModel", name := "wordAhead", desc := "()I" } : Jvm.MethodName)) ∈ fa_wG := fa_it (tb_7 _ (List.mem_of_getElem? (i := 58) rfl)) rfl
set_option maxRecDepth 100000 in
theorem wd_1500 : (Jvm.Cond.instanceMethod ({ cls := "FlowApplyModel", name := "wordAhead", desc := "()I" } : Jvm.MethodName)) ∈ fa_wG := fa_it (tb_7 _ (List.mem_of_getElem? (i := 60) rfl)) rfl
set_option maxRecDepth 100000 in
theorem wd_1501 : (Jvm.Cond.code ({ cls := "FlowApplyModel", name := "wordAhead", desc := "()I" } : Jvm.MethodName) prog_12_method_14_code (3 : Nat) (Option.some Jvm.ClassFile.FieldType.int)) ∈ fa_wG := fa_it (tb_7 _ (List.mem_of_getElem? (i := 61) rfl)) rfl
set_option maxRecDepth 100000 in
theorem wd_1502 : (Jvm.Cond.methodLink "FlowApplyModel" (37 : Nat) ({ cls := "FlowApplyModel", name := "blanks", desc := "()V" } : Jvm.MethodName)) ∈ fa_wG := fa_it (tb_7 _ (List.mem_of_getElem? (i := 62) rfl)) rfl
set_option maxRecDepth 100000 in
theorem wd_1504 : (Jvm.Cond.instanceMethod ({ cls := "FlowApplyModel", name := "blanks", desc := "()V" } : Jvm.MethodName)) ∈ fa_wG := fa_it (tb_7 _ (List.mem_of_getElem? (i := 64) rfl)) rfl
set_option maxRecDepth 100000 in
theorem wd_1505 : (Jvm.Cond.code ({ cls := "FlowApplyModel", name := "blanks", desc := "()V" } : Jvm.MethodName) prog_12_method_9_code (1 : Nat) (Option.none : Option Jvm.ClassFile.FieldType)) ∈ fa_wG := fa_it (tb_7 _ (List.mem_of_getElem? (i := 65) rfl)) rfl
set_option maxRecDepth 100000 in
theorem wd_1506 : (Jvm.Cond.methodLink "FlowApplyModel" (27 : Nat) ({ cls := "FlowApplyModel", name := "isAt", desc := "(II)Z" } : Jvm.MethodName)) ∈ fa_wG := fa_it (tb_7 _ (List.mem_of_getElem? (i := 66) rfl)) rfl
set_option maxRecDepth 100000 in
theorem wd_1508 : (Jvm.Cond.instanceMethod ({ cls := "FlowApplyModel", name := "isAt", desc := "(II)Z" } : Jvm.MethodName)) ∈ fa_wG := fa_it (tb_7 _ (List.mem_of_getElem? (i := 68) rfl)) rfl
set_option maxRecDepth 100000 in
theorem wd_1509 : (Jvm.Cond.code ({ cls := "FlowApplyModel", name := "isAt", desc := "(II)Z" } : Jvm.MethodName) prog_12_method_8_code (3 : Nat) (Option.some Jvm.ClassFile.FieldType.boolean)) ∈ fa_wG := fa_it (tb_7 _ (List.mem_of_getElem? (i := 69) rfl)) rfl
set_option maxRecDepth 100000 in
theorem wd_1510 : (Jvm.Cond.constant "FlowApplyModel" (56 : Nat) (1048576 : Int32)) ∈ fa_wG := fa_it (tb_7 _ (List.mem_of_getElem? (i := 70) rfl)) rfl
set_option maxRecDepth 100000 in
theorem wd_1511 : (Jvm.Cond.fieldLink "FlowApplyModel" (57 : Nat) "FlowApplyModel" "FUN" "I") ∈ fa_wG := fa_it (tb_7 _ (List.mem_of_getElem? (i := 71) rfl)) rfl
set_option maxRecDepth 100000 in
theorem wd_1513 : (Jvm.Cond.methodLink "FlowApplyModel" (215 : Nat) ({ cls := "FlowApplyModel", name := "global", desc := "()V" } : Jvm.MethodName)) ∈ fa_wG := fa_it (tb_7 _ (List.mem_of_getElem? (i := 73) rfl)) rfl
set_option maxRecDepth 100000 in
theorem wd_1515 : (Jvm.Cond.instanceMethod ({ cls := "FlowApplyModel", name := "global", desc := "()V" } : Jvm.MethodName)) ∈ fa_wG := fa_it (tb_7 _ (List.mem_of_getElem? (i := 75) rfl)) rfl
set_option maxRecDepth 100000 in
theorem wd_1516 : (Jvm.Cond.code ({ cls := "FlowApplyModel", name := "global", desc := "()V" } : Jvm.MethodName) prog_12_method_35_code (5 : Nat) (Option.none : Option Jvm.ClassFile.FieldType)) ∈ fa_wG := fa_it (tb_7 _ (List.mem_of_getElem? (i := 76) rfl)) rfl
set_option maxRecDepth 100000 in
theorem wd_1517 : (Jvm.Cond.methodLink "FlowApplyModel" (49 : Nat) ({ cls := "FlowApplyModel", name := "fails", desc := "(I)I" } : Jvm.MethodName)) ∈ fa_wG := fa_it (tb_7 _ (List.mem_of_getElem? (i := 77) rfl)) rfl
set_option maxRecDepth 100000 in
theorem wd_1519 : (Jvm.Cond.instanceMethod ({ cls := "FlowApplyModel", name := "fails", desc := "(I)I" } : Jvm.MethodName)) ∈ fa_wG := fa_it (tb_7 _ (List.mem_of_getElem? (i := 79) rfl)) rfl
set_option maxRecDepth 100000 in
theorem wd_1520 : (Jvm.Cond.code ({ cls := "FlowApplyModel", name := "fails", desc := "(I)I" } : Jvm.MethodName) prog_12_method_10_code (2 : Nat) (Option.some Jvm.ClassFile.FieldType.int)) ∈ fa_wG := fa_it (tb_7 _ (List.mem_of_getElem? (i := 80) rfl)) rfl
set_option maxRecDepth 100000 in
theorem wd_1521 : (Jvm.Cond.methodLink "FlowApplyModel" (176 : Nat) ({ cls := "FlowApplyModel", name := "asksWord", desc := "(I)V" } : Jvm.MethodName)) ∈ fa_wG := fa_it (tb_7 _ (List.mem_of_getElem? (i := 81) rfl)) rfl
set_option maxRecDepth 100000 in
theorem wd_1523 : (Jvm.Cond.instanceMethod ({ cls := "FlowApplyModel", name := "asksWord", desc := "(I)V" } : Jvm.MethodName)) ∈ fa_wG := fa_it (tb_7 _ (List.mem_of_getElem? (i := 83) rfl)) rfl
set_option maxRecDepth 100000 in
theorem wd_1524 : (Jvm.Cond.code ({ cls := "FlowApplyModel", name := "asksWord", desc := "(I)V" } : Jvm.MethodName) prog_12_method_18_code (3 : Nat) (Option.none : Option Jvm.ClassFile.FieldType)) ∈ fa_wG := fa_it (tb_7 _ (List.mem_of_getElem? (i := 84) rfl)) rfl
set_option maxRecDepth 100000 in
theorem wd_1525 : (Jvm.Cond.methodLink "FlowApplyModel" (82 : Nat) ({ cls := "FlowApplyModel", name := "takesWord", desc := "(I)Z" } : Jvm.MethodName)) ∈ fa_wG := fa_it (tb_7 _ (List.mem_of_getElem? (i := 85) rfl)) rfl
set_option maxRecDepth 100000 in
theorem wd_1527 : (Jvm.Cond.instanceMethod ({ cls := "FlowApplyModel", name := "takesWord", desc := "(I)Z" } : Jvm.MethodName)) ∈ fa_wG := fa_it (tb_7 _ (List.mem_of_getElem? (i := 87) rfl)) rfl
set_option maxRecDepth 100000 in
theorem wd_1528 : (Jvm.Cond.code ({ cls := "FlowApplyModel", name := "takesWord", desc := "(I)Z" } : Jvm.MethodName) prog_12_method_17_code (2 : Nat) (Option.some Jvm.ClassFile.FieldType.boolean)) ∈ fa_wG := fa_it (tb_7 _ (List.mem_of_getElem? (i := 88) rfl)) rfl
set_option maxRecDepth 100000 in
theorem wd_1529 : (Jvm.Cond.methodLink "FlowApplyModel" (149 : Nat) ({ cls := "FlowApplyModel", name := "gives", desc := "()I" } : Jvm.MethodName)) ∈ fa_wG := fa_it (tb_7 _ (List.mem_of_getElem? (i := 89) rfl)) rfl
set_option maxRecDepth 100000 in
theorem wd_1531 : (Jvm.Cond.instanceMethod ({ cls := "FlowApplyModel", name := "gives", desc := "()I" } : Jvm.MethodName)) ∈ fa_wG := fa_it (tb_7 _ (List.mem_of_getElem? (i := 91) rfl)) rfl
set_option maxRecDepth 100000 in
theorem wd_1532 : (Jvm.Cond.code ({ cls := "FlowApplyModel", name := "gives", desc := "()I" } : Jvm.MethodName) prog_12_method_19_code (3 : Nat) (Option.some Jvm.ClassFile.FieldType.int)) ∈ fa_wG := fa_it (tb_7 _ (List.mem_of_getElem? (i := 92) rfl)) rfl
set_option maxRecDepth 100000 in
theorem wd_1533 : (Jvm.Cond.methodLink "FlowApplyModel" (85 : Nat) ({ cls := "FlowApplyModel", name := "isOwn", desc := "(I)Z" } : Jvm.MethodName)) ∈ fa_wG := fa_it (tb_7 _ (List.mem_of_getElem? (i := 93) rfl)) rfl
set_option maxRecDepth 100000 in
theorem wd_1534 : (Jvm.Cond.static ({ cls := "FlowApplyModel", name := "isOwn", desc := "(I)Z" } : Jvm.MethodName)) ∈ fa_wG := fa_it (tb_7 _ (List.mem_of_getElem? (i := 94) rfl)) rfl
set_option maxRecDepth 100000 in
theorem wd_1535 : (Jvm.Cond.code ({ cls := "FlowApplyModel", name := "isOwn", desc := "(I)Z" } : Jvm.MethodName) prog_12_method_16_code (1 : Nat) (Option.some Jvm.ClassFile.FieldType.boolean)) ∈ fa_wG := fa_it (tb_7 _ (List.mem_of_getElem? (i := 95) rfl)) rfl
set_option maxRecDepth 100000 in
theorem wd_1536 : (Jvm.Cond.fieldLink "FlowApplyModel" (60 : Nat) "FlowApplyModel" "IFS" "I") ∈ fa_wG := fa_it (tb_7 _ (List.mem_of_getElem? (i := 96) rfl)) rfl
set_option maxRecDepth 100000 in
theorem wd_1538 : (Jvm.Cond.fieldLink "FlowApplyModel" (63 : Nat) "FlowApplyModel" "THEN" "I") ∈ fa_wG := fa_it (tb_7 _ (List.mem_of_getElem? (i := 98) rfl)) rfl
set_option maxRecDepth 100000 in
theorem wd_1540 : (Jvm.Cond.fieldLink "FlowApplyModel" (66 : Nat) "FlowApplyModel" "ELSE" "I") ∈ fa_wG := fa_it (tb_7 _ (List.mem_of_getElem? (i := 100) rfl)) rfl
set_option maxRecDepth 100000 in
theorem wd_1542 : (Jvm.Cond.fieldLink "FlowApplyModel" (69 : Nat) "FlowApplyModel" "LETS_IN" "I") ∈ fa_wG := fa_it (tb_7 _ (List.mem_of_getElem? (i := 102) rfl)) rfl
set_option maxRecDepth 100000 in
theorem wd_1544 : (Jvm.Cond.fieldLink "FlowApplyModel" (72 : Nat) "FlowApplyModel" "LET_WORD" "I") ∈ fa_wG := fa_it (tb_7 _ (List.mem_of_getElem? (i := 104) rfl)) rfl
set_option maxRecDepth 100000 in
theorem wd_1546 : (Jvm.Cond.fieldLink "FlowApplyModel" (75 : Nat) "FlowApplyModel" "DEADS" "I") ∈ fa_wG := fa_it (tb_7 _ (List.mem_of_getElem? (i := 106) rfl)) rfl
set_option maxRecDepth 100000 in
theorem wd_1548 : (Jvm.Cond.methodLink "FlowApplyModel" (152 : Nat) ({ cls := "FlowApplyModel", name := "asks", desc := "(I)V" } : Jvm.MethodName)) ∈ fa_wG := fa_it (tb_7 _ (List.mem_of_getElem? (i := 108) rfl)) rfl
set_option maxRecDepth 100000 in
theorem wd_1550 : (Jvm.Cond.instanceMethod ({ cls := "FlowApplyModel", name := "asks", desc := "(I)V" } : Jvm.MethodName)) ∈ fa_wG := fa_it (tb_7 _ (List.mem_of_getElem? (i := 110) rfl)) rfl
set_option maxRecDepth 100000 in
theorem wd_1551 : (Jvm.Cond.code ({ cls := "FlowApplyModel", name := "asks", desc := "(I)V" } : Jvm.MethodName) prog_12_method_13_code (3 : Nat) (Option.none : Option Jvm.ClassFile.FieldType)) ∈ fa_wG := fa_it (tb_7 _ (List.mem_of_getElem? (i := 111) rfl)) rfl
set_option maxRecDepth 100000 in
theorem wd_1552 : (Jvm.Cond.methodLink "FlowApplyModel" (45 : Nat) ({ cls := "FlowApplyModel", name := "takes", desc := "(I)Z" } : Jvm.MethodName)) ∈ fa_wG := fa_it (tb_7 _ (List.mem_of_getElem? (i := 112) rfl)) rfl
set_option maxRecDepth 100000 in
theorem wd_1554 : (Jvm.Cond.instanceMethod ({ cls := "FlowApplyModel", name := "takes", desc := "(I)Z" } : Jvm.MethodName)) ∈ fa_wG := fa_it (tb_7 _ (List.mem_of_getElem? (i := 114) rfl)) rfl
set_option maxRecDepth 100000 in
theorem wd_1555 : (Jvm.Cond.code ({ cls := "FlowApplyModel", name := "takes", desc := "(I)Z" } : Jvm.MethodName) prog_12_method_12_code (2 : Nat) (Option.some Jvm.ClassFile.FieldType.boolean)) ∈ fa_wG := fa_it (tb_7 _ (List.mem_of_getElem? (i := 115) rfl)) rfl
set_option maxRecDepth 100000 in
theorem wd_1556 : (Jvm.Cond.methodLink "FlowApplyModel" (162 : Nat) ({ cls := "FlowApplyModel", name := "sees", desc := "(III)I" } : Jvm.MethodName)) ∈ fa_wG := fa_it (tb_7 _ (List.mem_of_getElem? (i := 116) rfl)) rfl
set_option maxRecDepth 100000 in
theorem wd_1558 : (Jvm.Cond.instanceMethod ({ cls := "FlowApplyModel", name := "sees", desc := "(III)I" } : Jvm.MethodName)) ∈ fa_wG := fa_it (tb_7 _ (List.mem_of_getElem? (i := 118) rfl)) rfl
set_option maxRecDepth 100000 in
theorem wd_1559 : (Jvm.Cond.code ({ cls := "FlowApplyModel", name := "sees", desc := "(III)I" } : Jvm.MethodName) prog_12_method_23_code (4 : Nat) (Option.some Jvm.ClassFile.FieldType.int)) ∈ fa_wG := fa_it (tb_7 _ (List.mem_of_getElem? (i := 119) rfl)) rfl
set_option maxRecDepth 100000 in
theorem wd_1560 : (Jvm.Cond.methodLink "FlowApplyModel" (169 : Nat) ({ cls := "FlowApplyModel", name := "expression", desc := "()I" } : Jvm.MethodName)) ∈ fa_wG := fa_it (tb_7 _ (List.mem_of_getElem? (i := 120) rfl)) rfl
set_option maxRecDepth 100000 in
theorem wd_1562 : (Jvm.Cond.instanceMethod ({ cls := "FlowApplyModel", name := "expression", desc := "()I" } : Jvm.MethodName)) ∈ fa_wG := fa_it (tb_7 _ (List.mem_of_getElem? (i := 122) rfl)) rfl
set_option maxRecDepth 100000 in
theorem wd_1563 : (Jvm.Cond.code ({ cls := "FlowApplyModel", name := "expression", desc := "()I" } : Jvm.MethodName) prog_12_method_24_code (2 : Nat) (Option.some Jvm.ClassFile.FieldType.int)) ∈ fa_wG := fa_it (tb_7 _ (List.mem_of_getElem? (i := 123) rfl)) rfl
set_option maxRecDepth 100000 in
theorem wd_1564 : (Jvm.Cond.methodLink "FlowApplyModel" (128 : Nat) ({ cls := "FlowApplyModel", name := "lambda", desc := "()I" } : Jvm.MethodName)) ∈ fa_wG := fa_it (tb_7 _ (List.mem_of_getElem? (i := 124) rfl)) rfl
set_option maxRecDepth 100000 in
theorem wd_1566 : (Jvm.Cond.instanceMethod ({ cls := "FlowApplyModel", name := "lambda", desc := "()I" } : Jvm.MethodName)) ∈ fa_wG := fa_it (tb_7 _ (List.mem_of_getElem? (i := 126) rfl)) rfl
set_option maxRecDepth 100000 in
theorem wd_1567 : (Jvm.Cond.code ({ cls := "FlowApplyModel", name := "lambda", desc := "()I" } : Jvm.MethodName) prog_12_method_25_code (6 : Nat) (Option.some Jvm.ClassFile.FieldType.int)) ∈ fa_wG := fa_it (tb_7 _ (List.mem_of_getElem? (i := 127) rfl)) rfl
set_option maxRecDepth 100000 in
theorem wd_1568 : (Jvm.Cond.methodLink "FlowApplyModel" (143 : Nat) ({ cls := "FlowApplyModel", name := "begins", desc := "(I)Z" } : Jvm.MethodName)) ∈ fa_wG := fa_it (tb_7 _ (List.mem_of_getElem? (i := 128) rfl)) rfl
set_option maxRecDepth 100000 in
theorem wd_1570 : (Jvm.Cond.instanceMethod ({ cls := "FlowApplyModel", name := "begins", desc := "(I)Z" } : Jvm.MethodName)) ∈ fa_wG := fa_it (tb_7 _ (List.mem_of_getElem? (i := 130) rfl)) rfl
set_option maxRecDepth 100000 in
theorem wd_1571 : (Jvm.Cond.code ({ cls := "FlowApplyModel", name := "begins", desc := "(I)Z" } : Jvm.MethodName) prog_12_method_21_code (3 : Nat) (Option.some Jvm.ClassFile.FieldType.boolean)) ∈ fa_wG := fa_it (tb_7 _ (List.mem_of_getElem? (i := 131) rfl)) rfl
set_option maxRecDepth 100000 in
theorem wd_1572 : (Jvm.Cond.methodLink "FlowApplyModel" (146 : Nat) ({ cls := "FlowApplyModel", name := "opens", desc := "(I)Z" } : Jvm.MethodName)) ∈ fa_wG := fa_it (tb_7 _ (List.mem_of_getElem? (i := 132) rfl)) rfl
set_option maxRecDepth 100000 in
theorem wd_1574 : (Jvm.Cond.instanceMethod ({ cls := "FlowApplyModel", name := "opens", desc := "(I)Z" } : Jvm.MethodName)) ∈ fa_wG := fa_it (tb_7 _ (List.mem_of_getElem? (i := 134) rfl)) rfl
set_option maxRecDepth 100000 in
theorem wd_1575 : (Jvm.Cond.code ({ cls := "FlowApplyModel", name := "opens", desc := "(I)Z" } : Jvm.MethodName) prog_12_method_22_code (3 : Nat) (Option.some Jvm.ClassFile.FieldType.boolean)) ∈ fa_wG := fa_it (tb_7 _ (List.mem_of_getElem? (i := 135) rfl)) rfl
set_option maxRecDepth 100000 in
theorem wd_1576 : (Jvm.Cond.methodLink "FlowApplyModel" (172 : Nat) ({ cls := "FlowApplyModel", name := "node", desc := "(IIIII)I" } : Jvm.MethodName)) ∈ fa_wG := fa_it (tb_7 _ (List.mem_of_getElem? (i := 136) rfl)) rfl
set_option maxRecDepth 100000 in
theorem wd_1578 : (Jvm.Cond.instanceMethod ({ cls := "FlowApplyModel", name := "node", desc := "(IIIII)I" } : Jvm.MethodName)) ∈ fa_wG := fa_it (tb_7 _ (List.mem_of_getElem? (i := 138) rfl)) rfl
set_option maxRecDepth 100000 in
theorem wd_1579 : (Jvm.Cond.code ({ cls := "FlowApplyModel", name := "node", desc := "(IIIII)I" } : Jvm.MethodName) prog_12_method_20_code (6 : Nat) (Option.some Jvm.ClassFile.FieldType.int)) ∈ fa_wG := fa_it (tb_7 _ (List.mem_of_getElem? (i := 139) rfl)) rfl
set_option maxRecDepth 100000 in
theorem wd_1580 : (Jvm.Cond.methodLink "FlowApplyModel" (131 : Nat) ({ cls := "FlowApplyModel", name := "choice", desc := "()I" } : Jvm.MethodName)) ∈ fa_wG := fa_it (tb_7 _ (List.mem_of_getElem? (i := 140) rfl)) rfl
set_option maxRecDepth 100000 in
theorem wd_1582 : (Jvm.Cond.instanceMethod ({ cls := "FlowApplyModel", name := "choice", desc := "()I" } : Jvm.MethodName)) ∈ fa_wG := fa_it (tb_7 _ (List.mem_of_getElem? (i := 142) rfl)) rfl
set_option maxRecDepth 100000 in
theorem wd_1583 : (Jvm.Cond.code ({ cls := "FlowApplyModel", name := "choice", desc := "()I" } : Jvm.MethodName) prog_12_method_26_code (5 : Nat) (Option.some Jvm.ClassFile.FieldType.int)) ∈ fa_wG := fa_it (tb_7 _ (List.mem_of_getElem? (i := 143) rfl)) rfl
set_option maxRecDepth 100000 in
theorem wd_1584 : (Jvm.Cond.methodLink "FlowApplyModel" (134 : Nat) ({ cls := "FlowApplyModel", name := "let", desc := "()I" } : Jvm.MethodName)) ∈ fa_wG := fa_it (tb_7 _ (List.mem_of_getElem? (i := 144) rfl)) rfl
set_option maxRecDepth 100000 in
theorem wd_1586 : (Jvm.Cond.instanceMethod ({ cls := "FlowApplyModel", name := "let", desc := "()I" } : Jvm.MethodName)) ∈ fa_wG := fa_it (tb_7 _ (List.mem_of_getElem? (i := 146) rfl)) rfl
set_option maxRecDepth 100000 in
theorem wd_1587 : (Jvm.Cond.code ({ cls := "FlowApplyModel", name := "let", desc := "()I" } : Jvm.MethodName) prog_12_method_27_code (6 : Nat) (Option.some Jvm.ClassFile.FieldType.int)) ∈ fa_wG := fa_it (tb_7 _ (List.mem_of_getElem? (i := 147) rfl)) rfl
set_option maxRecDepth 100000 in
theorem wd_1588 : (Jvm.Cond.methodLink "FlowApplyModel" (137 : Nat) ({ cls := "FlowApplyModel", name := "test", desc := "()I" } : Jvm.MethodName)) ∈ fa_wG := fa_it (tb_7 _ (List.mem_of_getElem? (i := 148) rfl)) rfl
set_option maxRecDepth 100000 in
theorem wd_1590 : (Jvm.Cond.instanceMethod ({ cls := "FlowApplyModel", name := "test", desc := "()I" } : Jvm.MethodName)) ∈ fa_wG := fa_it (tb_7 _ (List.mem_of_getElem? (i := 150) rfl)) rfl
set_option maxRecDepth 100000 in
theorem wd_1591 : (Jvm.Cond.code ({ cls := "FlowApplyModel", name := "test", desc := "()I" } : Jvm.MethodName) prog_12_method_28_code (3 : Nat) (Option.some Jvm.ClassFile.FieldType.int)) ∈ fa_wG := fa_it (tb_7 _ (List.mem_of_getElem? (i := 151) rfl)) rfl
set_option maxRecDepth 100000 in
theorem wd_1592 : (Jvm.Cond.methodLink "FlowApplyModel" (182 : Nat) ({ cls := "FlowApplyModel", name := "sum", desc := "()I" } : Jvm.MethodName)) ∈ fa_wG := fa_it (tb_7 _ (List.mem_of_getElem? (i := 152) rfl)) rfl
set_option maxRecDepth 100000 in
theorem wd_1594 : (Jvm.Cond.instanceMethod ({ cls := "FlowApplyModel", name := "sum", desc := "()I" } : Jvm.MethodName)) ∈ fa_wG := fa_it (tb_7 _ (List.mem_of_getElem? (i := 154) rfl)) rfl
set_option maxRecDepth 100000 in
theorem wd_1595 : (Jvm.Cond.code ({ cls := "FlowApplyModel", name := "sum", desc := "()I" } : Jvm.MethodName) prog_12_method_29_code (4 : Nat) (Option.some Jvm.ClassFile.FieldType.int)) ∈ fa_wG := fa_it (tb_7 _ (List.mem_of_getElem? (i := 155) rfl)) rfl
set_option maxRecDepth 100000 in
theorem wd_1596 : (Jvm.Cond.methodLink "FlowApplyModel" (185 : Nat) ({ cls := "FlowApplyModel", name := "product", desc := "()I" } : Jvm.MethodName)) ∈ fa_wG := fa_it (tb_7 _ (List.mem_of_getElem? (i := 156) rfl)) rfl
set_option maxRecDepth 100000 in
theorem wd_1598 : (Jvm.Cond.instanceMethod ({ cls := "FlowApplyModel", name := "product", desc := "()I" } : Jvm.MethodName)) ∈ fa_wG := fa_it (tb_7 _ (List.mem_of_getElem? (i := 158) rfl)) rfl
set_option maxRecDepth 100000 in
theorem wd_1599 : (Jvm.Cond.code ({ cls := "FlowApplyModel", name := "product", desc := "()I" } : Jvm.MethodName) prog_12_method_30_code (4 : Nat) (Option.some Jvm.ClassFile.FieldType.int)) ∈ fa_wG := fa_it (tb_7 _ (List.mem_of_getElem? (i := 159) rfl)) rfl
set_option maxRecDepth 100000 in
theorem wd_1600 : (Jvm.Cond.methodLink "FlowApplyModel" (188 : Nat) ({ cls := "FlowApplyModel", name := "call", desc := "()I" } : Jvm.MethodName)) ∈ fa_wG := fa_it (tb_7 _ (List.mem_of_getElem? (i := 160) rfl)) rfl
set_option maxRecDepth 100000 in
theorem wd_1602 : (Jvm.Cond.instanceMethod ({ cls := "FlowApplyModel", name := "call", desc := "()I" } : Jvm.MethodName)) ∈ fa_wG := fa_it (tb_7 _ (List.mem_of_getElem? (i := 162) rfl)) rfl
set_option maxRecDepth 100000 in
theorem wd_1603 : (Jvm.Cond.code ({ cls := "FlowApplyModel", name := "call", desc := "()I" } : Jvm.MethodName) prog_12_method_32_code (4 : Nat) (Option.some Jvm.ClassFile.FieldType.int)) ∈ fa_wG := fa_it (tb_7 _ (List.mem_of_getElem? (i := 163) rfl)) rfl
set_option maxRecDepth 100000 in
theorem wd_1604 : (Jvm.Cond.methodLink "FlowApplyModel" (191 : Nat) ({ cls := "FlowApplyModel", name := "atom", desc := "()I" } : Jvm.MethodName)) ∈ fa_wG := fa_it (tb_7 _ (List.mem_of_getElem? (i := 164) rfl)) rfl
set_option maxRecDepth 100000 in
theorem wd_1606 : (Jvm.Cond.instanceMethod ({ cls := "FlowApplyModel", name := "atom", desc := "()I" } : Jvm.MethodName)) ∈ fa_wG := fa_it (tb_7 _ (List.mem_of_getElem? (i := 166) rfl)) rfl
set_option maxRecDepth 100000 in
theorem wd_1607 : (Jvm.Cond.code ({ cls := "FlowApplyModel", name := "atom", desc := "()I" } : Jvm.MethodName) prog_12_method_33_code (4 : Nat) (Option.some Jvm.ClassFile.FieldType.int)) ∈ fa_wG := fa_it (tb_7 _ (List.mem_of_getElem? (i := 167) rfl)) rfl
set_option maxRecDepth 100000 in
theorem wd_1608 : (Jvm.Cond.methodLink "FlowApplyModel" (206 : Nat) ({ cls := "FlowApplyModel", name := "number", desc := "()I" } : Jvm.MethodName)) ∈ fa_wG := fa_it (tb_7 _ (List.mem_of_getElem? (i := 168) rfl)) rfl
set_option maxRecDepth 100000 in
theorem wd_1610 : (Jvm.Cond.instanceMethod ({ cls := "FlowApplyModel", name := "number", desc := "()I" } : Jvm.MethodName)) ∈ fa_wG := fa_it (tb_7 _ (List.mem_of_getElem? (i := 170) rfl)) rfl
set_option maxRecDepth 100000 in
theorem wd_1611 : (Jvm.Cond.code ({ cls := "FlowApplyModel", name := "number", desc := "()I" } : Jvm.MethodName) prog_12_method_34_code (3 : Nat) (Option.some Jvm.ClassFile.FieldType.int)) ∈ fa_wG := fa_it (tb_7 _ (List.mem_of_getElem? (i := 171) rfl)) rfl
set_option maxRecDepth 100000 in
theorem wd_1612 : (Jvm.Cond.methodLink "FlowApplyModel" (194 : Nat) ({ cls := "FlowApplyModel", name := "isAtomAhead", desc := "()Z" } : Jvm.MethodName)) ∈ fa_wG := fa_it (tb_7 _ (List.mem_of_getElem? (i := 172) rfl)) rfl
set_option maxRecDepth 100000 in
theorem wd_1614 : (Jvm.Cond.instanceMethod ({ cls := "FlowApplyModel", name := "isAtomAhead", desc := "()Z" } : Jvm.MethodName)) ∈ fa_wG := fa_it (tb_7 _ (List.mem_of_getElem? (i := 174) rfl)) rfl
set_option maxRecDepth 100000 in
theorem wd_1615 : (Jvm.Cond.code ({ cls := "FlowApplyModel", name := "isAtomAhead", desc := "()Z" } : Jvm.MethodName) prog_12_method_31_code (2 : Nat) (Option.some Jvm.ClassFile.FieldType.boolean)) ∈ fa_wG := fa_it (tb_7 _ (List.mem_of_getElem? (i := 175) rfl)) rfl
set_option maxRecDepth 100000 in
theorem wd_1616 : (Jvm.Cond.methodLink "FlowApplyModel" (221 : Nat) ({ cls := "FlowApplyModel", name := "renumbers", desc := "()V" } : Jvm.MethodName)) ∈ fa_wG := fa_it (tb_7 _ (List.mem_of_getElem? (i := 176) rfl)) rfl
set_option maxRecDepth 100000 in
theorem wd_1618 : (Jvm.Cond.instanceMethod ({ cls := "FlowApplyModel", name := "renumbers", desc := "()V" } : Jvm.MethodName)) ∈ fa_wG := fa_it (tb_7 _ (List.mem_of_getElem? (i := 178) rfl)) rfl
set_option maxRecDepth 100000 in
theorem wd_1619 : (Jvm.Cond.code ({ cls := "FlowApplyModel", name := "renumbers", desc := "()V" } : Jvm.MethodName) prog_12_method_40_code (3 : Nat) (Option.none : Option Jvm.ClassFile.FieldType)) ∈ fa_wG := fa_it (tb_7 _ (List.mem_of_getElem? (i := 179) rfl)) rfl
set_option maxRecDepth 100000 in
theorem wd_1620 : (Jvm.Cond.methodLink "FlowApplyModel" (227 : Nat) ({ cls := "FlowApplyModel", name := "binderNumbered", desc := "(I)I" } : Jvm.MethodName)) ∈ fa_wG := fa_it (tb_7 _ (List.mem_of_getElem? (i := 180) rfl)) rfl
set_option maxRecDepth 100000 in
theorem wd_1622 : (Jvm.Cond.instanceMethod ({ cls := "FlowApplyModel", name := "binderNumbered", desc := "(I)I" } : Jvm.MethodName)) ∈ fa_wG := fa_it (tb_7 _ (List.mem_of_getElem? (i := 182) rfl)) rfl
set_option maxRecDepth 100000 in
theorem wd_1623 : (Jvm.Cond.code ({ cls := "FlowApplyModel", name := "binderNumbered", desc := "(I)I" } : Jvm.MethodName) prog_12_method_38_code (2 : Nat) (Option.some Jvm.ClassFile.FieldType.int)) ∈ fa_wG := fa_it (tb_7 _ (List.mem_of_getElem? (i := 183) rfl)) rfl
set_option maxRecDepth 100000 in
theorem wd_1624 : (Jvm.Cond.methodLink "FlowApplyModel" (224 : Nat) ({ cls := "FlowApplyModel", name := "numbered", desc := "(I)I" } : Jvm.MethodName)) ∈ fa_wG := fa_it (tb_7 _ (List.mem_of_getElem? (i := 184) rfl)) rfl
set_option maxRecDepth 100000 in
theorem wd_1626 : (Jvm.Cond.instanceMethod ({ cls := "FlowApplyModel", name := "numbered", desc := "(I)I" } : Jvm.MethodName)) ∈ fa_wG := fa_it (tb_7 _ (List.mem_of_getElem? (i := 186) rfl)) rfl
set_option maxRecDepth 100000 in
theorem wd_1627 : (Jvm.Cond.code ({ cls := "FlowApplyModel", name := "numbered", desc := "(I)I" } : Jvm.MethodName) prog_12_method_37_code (2 : Nat) (Option.some Jvm.ClassFile.FieldType.int)) ∈ fa_wG := fa_it (tb_7 _ (List.mem_of_getElem? (i := 187) rfl)) rfl
set_option maxRecDepth 100000 in
theorem wd_1628 : (Jvm.Cond.methodLink "FlowApplyModel" (230 : Nat) ({ cls := "FlowApplyModel", name := "homeNumbered", desc := "(I)I" } : Jvm.MethodName)) ∈ fa_wG := fa_it (tb_7 _ (List.mem_of_getElem? (i := 188) rfl)) rfl
set_option maxRecDepth 100000 in
theorem wd_1630 : (Jvm.Cond.instanceMethod ({ cls := "FlowApplyModel", name := "homeNumbered", desc := "(I)I" } : Jvm.MethodName)) ∈ fa_wG := fa_it (tb_7 _ (List.mem_of_getElem? (i := 190) rfl)) rfl
set_option maxRecDepth 100000 in
theorem wd_1631 : (Jvm.Cond.code ({ cls := "FlowApplyModel", name := "homeNumbered", desc := "(I)I" } : Jvm.MethodName) prog_12_method_39_code (2 : Nat) (Option.some Jvm.ClassFile.FieldType.int)) ∈ fa_wG := fa_it (tb_7 _ (List.mem_of_getElem? (i := 191) rfl)) rfl
set_option maxRecDepth 100000 in
theorem wd_1632 : (Jvm.Cond.methodLink "FlowApplyModel" (473 : Nat) ({ cls := "FlowApplyModel", name := "typesAll", desc := "()V" } : Jvm.MethodName)) ∈ fa_wG := fa_it (tb_7 _ (List.mem_of_getElem? (i := 192) rfl)) rfl
set_option maxRecDepth 100000 in
theorem wd_1634 : (Jvm.Cond.instanceMethod ({ cls := "FlowApplyModel", name := "typesAll", desc := "()V" } : Jvm.MethodName)) ∈ fa_wG := fa_it (tb_7 _ (List.mem_of_getElem? (i := 194) rfl)) rfl
set_option maxRecDepth 100000 in
theorem wd_1635 : (Jvm.Cond.code ({ cls := "FlowApplyModel", name := "typesAll", desc := "()V" } : Jvm.MethodName) prog_12_method_47_code (3 : Nat) (Option.none : Option Jvm.ClassFile.FieldType)) ∈ fa_wG := fa_it (tb_7 _ (List.mem_of_getElem? (i := 195) rfl)) rfl
set_option maxRecDepth 100000 in
theorem wd_1636 : (Jvm.Cond.methodLink "FlowApplyModel" (264 : Nat) ({ cls := "FlowApplyModel", name := "type", desc := "(III)I" } : Jvm.MethodName)) ∈ fa_wG := fa_it (tb_7 _ (List.mem_of_getElem? (i := 196) rfl)) rfl
set_option maxRecDepth 100000 in
theorem wd_1638 : (Jvm.Cond.instanceMethod ({ cls := "FlowApplyModel", name := "type", desc := "(III)I" } : Jvm.MethodName)) ∈ fa_wG := fa_it (tb_7 _ (List.mem_of_getElem? (i := 198) rfl)) rfl
set_option maxRecDepth 100000 in
theorem wd_1639 : (Jvm.Cond.code ({ cls := "FlowApplyModel", name := "type", desc := "(III)I" } : Jvm.MethodName) prog_12_method_42_code (4 : Nat) (Option.some Jvm.ClassFile.FieldType.int)) ∈ fa_wG := fa_it (tb_7 _ (List.mem_of_getElem? (i := 199) rfl)) rfl
set_option maxRecDepth 100000 in
theorem wd_1640 : (Jvm.Cond.methodLink "FlowApplyModel" (267 : Nat) ({ cls := "FlowApplyModel", name := "typesNode", desc := "(I)V" } : Jvm.MethodName)) ∈ fa_wG := fa_it (tb_7 _ (List.mem_of_getElem? (i := 200) rfl)) rfl
set_option maxRecDepth 100000 in
theorem wd_1642 : (Jvm.Cond.instanceMethod ({ cls := "FlowApplyModel", name := "typesNode", desc := "(I)V" } : Jvm.MethodName)) ∈ fa_wG := fa_it (tb_7 _ (List.mem_of_getElem? (i := 202) rfl)) rfl
set_option maxRecDepth 100000 in
theorem wd_1643 : (Jvm.Cond.code ({ cls := "FlowApplyModel", name := "typesNode", desc := "(I)V" } : Jvm.MethodName) prog_12_method_46_code (2 : Nat) (Option.none : Option Jvm.ClassFile.FieldType)) ∈ fa_wG := fa_it (tb_7 _ (List.mem_of_getElem? (i := 203) rfl)) rfl
set_option maxRecDepth 100000 in
theorem wd_1644 : (Jvm.Cond.methodLink "FlowApplyModel" (270 : Nat) ({ cls := "FlowApplyModel", name := "functions", desc := "()I" } : Jvm.MethodName)) ∈ fa_wG := fa_it (tb_7 _ (List.mem_of_getElem? (i := 204) rfl)) rfl
set_option maxRecDepth 100000 in
theorem wd_1646 : (Jvm.Cond.instanceMethod ({ cls := "FlowApplyModel", name := "functions", desc := "()I" } : Jvm.MethodName)) ∈ fa_wG := fa_it (tb_7 _ (List.mem_of_getElem? (i := 206) rfl)) rfl
set_option maxRecDepth 100000 in
theorem wd_1647 : (Jvm.Cond.code ({ cls := "FlowApplyModel", name := "functions", desc := "()I" } : Jvm.MethodName) prog_12_method_41_code (1 : Nat) (Option.some Jvm.ClassFile.FieldType.int)) ∈ fa_wG := fa_it (tb_7 _ (List.mem_of_getElem? (i := 207) rfl)) rfl
set_option maxRecDepth 100000 in
theorem wd_1648 : (Jvm.Cond.methodLink "FlowApplyModel" (276 : Nat) ({ cls := "FlowApplyModel", name := "functionType", desc := "(I)I" } : Jvm.MethodName)) ∈ fa_wG := fa_it (tb_7 _ (List.mem_of_getElem? (i := 208) rfl)) rfl
set_option maxRecDepth 100000 in
theorem wd_1650 : (Jvm.Cond.instanceMethod ({ cls := "FlowApplyModel", name := "functionType", desc := "(I)I" } : Jvm.MethodName)) ∈ fa_wG := fa_it (tb_7 _ (List.mem_of_getElem? (i := 210) rfl)) rfl
set_option maxRecDepth 100000 in
theorem wd_1651 : (Jvm.Cond.code ({ cls := "FlowApplyModel", name := "functionType", desc := "(I)I" } : Jvm.MethodName) prog_12_method_45_code (2 : Nat) (Option.some Jvm.ClassFile.FieldType.int)) ∈ fa_wG := fa_it (tb_7 _ (List.mem_of_getElem? (i := 211) rfl)) rfl
set_option maxRecDepth 100000 in
theorem wd_1652 : (Jvm.Cond.methodLink "FlowApplyModel" (279 : Nat) ({ cls := "FlowApplyModel", name := "typesOne", desc := "(II)V" } : Jvm.MethodName)) ∈ fa_wG := fa_it (tb_7 _ (List.mem_of_getElem? (i := 212) rfl)) rfl
set_option maxRecDepth 100000 in
theorem wd_1654 : (Jvm.Cond.instanceMethod ({ cls := "FlowApplyModel", name := "typesOne", desc := "(II)V" } : Jvm.MethodName)) ∈ fa_wG := fa_it (tb_7 _ (List.mem_of_getElem? (i := 214) rfl)) rfl
set_option maxRecDepth 100000 in
theorem wd_1655 : (Jvm.Cond.code ({ cls := "FlowApplyModel", name := "typesOne", desc := "(II)V" } : Jvm.MethodName) prog_12_method_48_code (4 : Nat) (Option.none : Option Jvm.ClassFile.FieldType)) ∈ fa_wG := fa_it (tb_7 _ (List.mem_of_getElem? (i := 215) rfl)) rfl
set_option maxRecDepth 100000 in
theorem wd_1656 : (Jvm.Cond.methodLink "FlowApplyModel" (254 : Nat) ({ cls := "FlowApplyModel", name := "joins", desc := "(II)V" } : Jvm.MethodName)) ∈ fa_wG := fa_it (tb_7 _ (List.mem_of_getElem? (i := 216) rfl)) rfl
set_option maxRecDepth 100000 in
theorem wd_1658 : (Jvm.Cond.instanceMethod ({ cls := "FlowApplyModel", name := "joins", desc := "(II)V" } : Jvm.MethodName)) ∈ fa_wG := fa_it (tb_7 _ (List.mem_of_getElem? (i := 218) rfl)) rfl
set_option maxRecDepth 100000 in
theorem wd_1659 : (Jvm.Cond.code ({ cls := "FlowApplyModel", name := "joins", desc := "(II)V" } : Jvm.MethodName) prog_12_method_44_code (5 : Nat) (Option.none : Option Jvm.ClassFile.FieldType)) ∈ fa_wG := fa_it (tb_7 _ (List.mem_of_getElem? (i := 219) rfl)) rfl
set_option maxRecDepth 100000 in
theorem wd_1660 : (Jvm.Cond.methodLink "FlowApplyModel" (248 : Nat) ({ cls := "FlowApplyModel", name := "find", desc := "(I)I" } : Jvm.MethodName)) ∈ fa_wG := fa_it (tb_7 _ (List.mem_of_getElem? (i := 220) rfl)) rfl
set_option maxRecDepth 100000 in
theorem wd_1662 : (Jvm.Cond.instanceMethod ({ cls := "FlowApplyModel", name := "find", desc := "(I)I" } : Jvm.MethodName)) ∈ fa_wG := fa_it (tb_7 _ (List.mem_of_getElem? (i := 222) rfl)) rfl
set_option maxRecDepth 100000 in
theorem wd_1663 : (Jvm.Cond.code ({ cls := "FlowApplyModel", name := "find", desc := "(I)I" } : Jvm.MethodName) prog_12_method_43_code (3 : Nat) (Option.some Jvm.ClassFile.FieldType.int)) ∈ fa_wG := fa_it (tb_7 _ (List.mem_of_getElem? (i := 223) rfl)) rfl
set_option maxRecDepth 100000 in
theorem wd_1664 : (Jvm.Cond.methodLink "FlowApplyModel" (285 : Nat) ({ cls := "FlowApplyModel", name := "isBounded", desc := "(I)Z" } : Jvm.MethodName)) ∈ fa_wG := fa_it (tb_7 _ (List.mem_of_getElem? (i := 224) rfl)) rfl
set_option maxRecDepth 100000 in
theorem wd_1666 : (Jvm.Cond.instanceMethod ({ cls := "FlowApplyModel", name := "isBounded", desc := "(I)Z" } : Jvm.MethodName)) ∈ fa_wG := fa_it (tb_7 _ (List.mem_of_getElem? (i := 226) rfl)) rfl
set_option maxRecDepth 100000 in
theorem wd_1667 : (Jvm.Cond.code ({ cls := "FlowApplyModel", name := "isBounded", desc := "(I)Z" } : Jvm.MethodName) prog_12_method_49_code (3 : Nat) (Option.some Jvm.ClassFile.FieldType.boolean)) ∈ fa_wG := fa_it (tb_7 _ (List.mem_of_getElem? (i := 227) rfl)) rfl
set_option maxRecDepth 100000 in
theorem wd_1668 : (Jvm.Cond.methodLink "FlowApplyModel" (476 : Nat) ({ cls := "FlowApplyModel", name := "analyses", desc := "()V" } : Jvm.MethodName)) ∈ fa_wG := fa_it (tb_7 _ (List.mem_of_getElem? (i := 228) rfl)) rfl
set_option maxRecDepth 100000 in
theorem wd_1670 : (Jvm.Cond.instanceMethod ({ cls := "FlowApplyModel", name := "analyses", desc := "()V" } : Jvm.MethodName)) ∈ fa_wG := fa_it (tb_7 _ (List.mem_of_getElem? (i := 230) rfl)) rfl
set_option maxRecDepth 100000 in
theorem wd_1671 : (Jvm.Cond.code ({ cls := "FlowApplyModel", name := "analyses", desc := "()V" } : Jvm.MethodName) prog_12_method_66_code (2 : Nat) (Option.none : Option Jvm.ClassFile.FieldType)) ∈ fa_wG := fa_it (tb_7 _ (List.mem_of_getElem? (i := 231) rfl)) rfl
set_option maxRecDepth 100000 in
theorem wd_1672 : (Jvm.Cond.methodLink "FlowApplyModel" (399 : Nat) ({ cls := "FlowApplyModel", name := "comesAll", desc := "()V" } : Jvm.MethodName)) ∈ fa_wG := fa_it (tb_7 _ (List.mem_of_getElem? (i := 232) rfl)) rfl
set_option maxRecDepth 100000 in
theorem wd_1674 : (Jvm.Cond.instanceMethod ({ cls := "FlowApplyModel", name := "comesAll", desc := "()V" } : Jvm.MethodName)) ∈ fa_wG := fa_it (tb_7 _ (List.mem_of_getElem? (i := 234) rfl)) rfl
set_option maxRecDepth 100000 in
theorem wd_1675 : (Jvm.Cond.code ({ cls := "FlowApplyModel", name := "comesAll", desc := "()V" } : Jvm.MethodName) prog_12_method_54_code (3 : Nat) (Option.none : Option Jvm.ClassFile.FieldType)) ∈ fa_wG := fa_it (tb_7 _ (List.mem_of_getElem? (i := 235) rfl)) rfl
set_option maxRecDepth 100000 in
theorem wd_1676 : (Jvm.Cond.methodLink "FlowApplyModel" (307 : Nat) ({ cls := "FlowApplyModel", name := "looks", desc := "(I)I" } : Jvm.MethodName)) ∈ fa_wG := fa_it (tb_7 _ (List.mem_of_getElem? (i := 236) rfl)) rfl
set_option maxRecDepth 100000 in
theorem wd_1678 : (Jvm.Cond.instanceMethod ({ cls := "FlowApplyModel", name := "looks", desc := "(I)I" } : Jvm.MethodName)) ∈ fa_wG := fa_it (tb_7 _ (List.mem_of_getElem? (i := 238) rfl)) rfl
set_option maxRecDepth 100000 in
theorem wd_1679 : (Jvm.Cond.code ({ cls := "FlowApplyModel", name := "looks", desc := "(I)I" } : Jvm.MethodName) prog_12_method_52_code (7 : Nat) (Option.some Jvm.ClassFile.FieldType.int)) ∈ fa_wG := fa_it (tb_7 _ (List.mem_of_getElem? (i := 239) rfl)) rfl
set_option maxRecDepth 100000 in
theorem wd_1680 : (Jvm.Cond.methodLink "FlowApplyModel" (303 : Nat) ({ cls := "FlowApplyModel", name := "more", desc := "(II)I" } : Jvm.MethodName)) ∈ fa_wG := fa_it (tb_8 _ (List.mem_of_getElem? (i := 0) rfl)) rfl
set_option maxRecDepth 100000 in
theorem wd_1682 : (Jvm.Cond.instanceMethod ({ cls := "FlowApplyModel", name := "more", desc := "(II)I" } : Jvm.MethodName)) ∈ fa_wG := fa_it (tb_8 _ (List.mem_of_getElem? (i := 2) rfl)) rfl
set_option maxRecDepth 100000 in
theorem wd_1683 : (Jvm.Cond.code ({ cls := "FlowApplyModel", name := "more", desc := "(II)I" } : Jvm.MethodName) prog_12_method_51_code (3 : Nat) (Option.some Jvm.ClassFile.FieldType.int)) ∈ fa_wG := fa_it (tb_8 _ (List.mem_of_getElem? (i := 3) rfl)) rfl
set_option maxRecDepth 100000 in
theorem wd_1684 : (Jvm.Cond.methodLink "FlowApplyModel" (294 : Nat) ({ cls := "FlowApplyModel", name := "bits", desc := "(I)I" } : Jvm.MethodName)) ∈ fa_wG := fa_it (tb_8 _ (List.mem_of_getElem? (i := 4) rfl)) rfl
set_option maxRecDepth 100000 in
theorem wd_1685 : (Jvm.Cond.static ({ cls := "FlowApplyModel", name := "bits", desc := "(I)I" } : Jvm.MethodName)) ∈ fa_wG := fa_it (tb_8 _ (List.mem_of_getElem? (i := 5) rfl)) rfl
set_option maxRecDepth 100000 in
theorem wd_1686 : (Jvm.Cond.code ({ cls := "FlowApplyModel", name := "bits", desc := "(I)I" } : Jvm.MethodName) prog_12_method_5_code (3 : Nat) (Option.some Jvm.ClassFile.FieldType.int)) ∈ fa_wG := fa_it (tb_8 _ (List.mem_of_getElem? (i := 6) rfl)) rfl
set_option maxRecDepth 100000 in
theorem wd_1687 : (Jvm.Cond.methodLink "FlowApplyModel" (310 : Nat) ({ cls := "FlowApplyModel", name := "looksAtSite", desc := "(III)I" } : Jvm.MethodName)) ∈ fa_wG := fa_it (tb_8 _ (List.mem_of_getElem? (i := 7) rfl)) rfl
set_option maxRecDepth 100000 in
theorem wd_1689 : (Jvm.Cond.instanceMethod ({ cls := "FlowApplyModel", name := "looksAtSite", desc := "(III)I" } : Jvm.MethodName)) ∈ fa_wG := fa_it (tb_8 _ (List.mem_of_getElem? (i := 9) rfl)) rfl
set_option maxRecDepth 100000 in
theorem wd_1690 : (Jvm.Cond.code ({ cls := "FlowApplyModel", name := "looksAtSite", desc := "(III)I" } : Jvm.MethodName) prog_12_method_53_code (6 : Nat) (Option.some Jvm.ClassFile.FieldType.int)) ∈ fa_wG := fa_it (tb_8 _ (List.mem_of_getElem? (i := 10) rfl)) rfl
set_option maxRecDepth 100000 in
theorem wd_1691 : (Jvm.Cond.methodLink "FlowApplyModel" (326 : Nat) ({ cls := "FlowApplyModel", name := "holds", desc := "(II)Z" } : Jvm.MethodName)) ∈ fa_wG := fa_it (tb_8 _ (List.mem_of_getElem? (i := 11) rfl)) rfl
set_option maxRecDepth 100000 in
theorem wd_1692 : (Jvm.Cond.static ({ cls := "FlowApplyModel", name := "holds", desc := "(II)Z" } : Jvm.MethodName)) ∈ fa_wG := fa_it (tb_8 _ (List.mem_of_getElem? (i := 12) rfl)) rfl
set_option maxRecDepth 100000 in
theorem wd_1693 : (Jvm.Cond.code ({ cls := "FlowApplyModel", name := "holds", desc := "(II)Z" } : Jvm.MethodName) prog_12_method_4_code (2 : Nat) (Option.some Jvm.ClassFile.FieldType.boolean)) ∈ fa_wG := fa_it (tb_8 _ (List.mem_of_getElem? (i := 13) rfl)) rfl
set_option maxRecDepth 100000 in
theorem wd_1694 : (Jvm.Cond.methodLink "FlowApplyModel" (344 : Nat) ({ cls := "FlowApplyModel", name := "collects", desc := "(II)V" } : Jvm.MethodName)) ∈ fa_wG := fa_it (tb_8 _ (List.mem_of_getElem? (i := 14) rfl)) rfl
set_option maxRecDepth 100000 in
theorem wd_1696 : (Jvm.Cond.instanceMethod ({ cls := "FlowApplyModel", name := "collects", desc := "(II)V" } : Jvm.MethodName)) ∈ fa_wG := fa_it (tb_8 _ (List.mem_of_getElem? (i := 16) rfl)) rfl
set_option maxRecDepth 100000 in
theorem wd_1697 : (Jvm.Cond.code ({ cls := "FlowApplyModel", name := "collects", desc := "(II)V" } : Jvm.MethodName) prog_12_method_56_code (3 : Nat) (Option.none : Option Jvm.ClassFile.FieldType)) ∈ fa_wG := fa_it (tb_8 _ (List.mem_of_getElem? (i := 17) rfl)) rfl
set_option maxRecDepth 100000 in
theorem wd_1698 : (Jvm.Cond.methodLink "FlowApplyModel" (338 : Nat) ({ cls := "FlowApplyModel", name := "isWithin", desc := "(II)Z" } : Jvm.MethodName)) ∈ fa_wG := fa_it (tb_8 _ (List.mem_of_getElem? (i := 18) rfl)) rfl
set_option maxRecDepth 100000 in
theorem wd_1700 : (Jvm.Cond.instanceMethod ({ cls := "FlowApplyModel", name := "isWithin", desc := "(II)Z" } : Jvm.MethodName)) ∈ fa_wG := fa_it (tb_8 _ (List.mem_of_getElem? (i := 20) rfl)) rfl
set_option maxRecDepth 100000 in
theorem wd_1701 : (Jvm.Cond.code ({ cls := "FlowApplyModel", name := "isWithin", desc := "(II)Z" } : Jvm.MethodName) prog_12_method_55_code (4 : Nat) (Option.some Jvm.ClassFile.FieldType.boolean)) ∈ fa_wG := fa_it (tb_8 _ (List.mem_of_getElem? (i := 21) rfl)) rfl
set_option maxRecDepth 100000 in
theorem wd_1702 : (Jvm.Cond.methodLink "FlowApplyModel" (341 : Nat) ({ cls := "FlowApplyModel", name := "addsField", desc := "(II)V" } : Jvm.MethodName)) ∈ fa_wG := fa_it (tb_8 _ (List.mem_of_getElem? (i := 22) rfl)) rfl
set_option maxRecDepth 100000 in
theorem wd_1704 : (Jvm.Cond.instanceMethod ({ cls := "FlowApplyModel", name := "addsField", desc := "(II)V" } : Jvm.MethodName)) ∈ fa_wG := fa_it (tb_8 _ (List.mem_of_getElem? (i := 24) rfl)) rfl
set_option maxRecDepth 100000 in
theorem wd_1705 : (Jvm.Cond.code ({ cls := "FlowApplyModel", name := "addsField", desc := "(II)V" } : Jvm.MethodName) prog_12_method_57_code (4 : Nat) (Option.none : Option Jvm.ClassFile.FieldType)) ∈ fa_wG := fa_it (tb_8 _ (List.mem_of_getElem? (i := 25) rfl)) rfl
set_option maxRecDepth 100000 in
theorem wd_1706 : (Jvm.Cond.methodLink "FlowApplyModel" (402 : Nat) ({ cls := "FlowApplyModel", name := "laysGroups", desc := "(I)V" } : Jvm.MethodName)) ∈ fa_wG := fa_it (tb_8 _ (List.mem_of_getElem? (i := 26) rfl)) rfl
set_option maxRecDepth 100000 in
theorem wd_1708 : (Jvm.Cond.instanceMethod ({ cls := "FlowApplyModel", name := "laysGroups", desc := "(I)V" } : Jvm.MethodName)) ∈ fa_wG := fa_it (tb_8 _ (List.mem_of_getElem? (i := 28) rfl)) rfl
set_option maxRecDepth 100000 in
theorem wd_1709 : (Jvm.Cond.code ({ cls := "FlowApplyModel", name := "laysGroups", desc := "(I)V" } : Jvm.MethodName) prog_12_method_60_code (7 : Nat) (Option.none : Option Jvm.ClassFile.FieldType)) ∈ fa_wG := fa_it (tb_8 _ (List.mem_of_getElem? (i := 29) rfl)) rfl
set_option maxRecDepth 100000 in
theorem wd_1710 : (Jvm.Cond.methodLink "FlowApplyModel" (359 : Nat) ({ cls := "FlowApplyModel", name := "groupAt", desc := "(II)I" } : Jvm.MethodName)) ∈ fa_wG := fa_it (tb_8 _ (List.mem_of_getElem? (i := 30) rfl)) rfl
set_option maxRecDepth 100000 in
theorem wd_1712 : (Jvm.Cond.instanceMethod ({ cls := "FlowApplyModel", name := "groupAt", desc := "(II)I" } : Jvm.MethodName)) ∈ fa_wG := fa_it (tb_8 _ (List.mem_of_getElem? (i := 32) rfl)) rfl
set_option maxRecDepth 100000 in
theorem wd_1713 : (Jvm.Cond.code ({ cls := "FlowApplyModel", name := "groupAt", desc := "(II)I" } : Jvm.MethodName) prog_12_method_58_code (3 : Nat) (Option.some Jvm.ClassFile.FieldType.int)) ∈ fa_wG := fa_it (tb_8 _ (List.mem_of_getElem? (i := 33) rfl)) rfl
set_option maxRecDepth 100000 in
theorem wd_1714 : (Jvm.Cond.methodLink "FlowApplyModel" (362 : Nat) ({ cls := "FlowApplyModel", name := "goTogether", desc := "(III)Z" } : Jvm.MethodName)) ∈ fa_wG := fa_it (tb_8 _ (List.mem_of_getElem? (i := 34) rfl)) rfl
set_option maxRecDepth 100000 in
theorem wd_1716 : (Jvm.Cond.instanceMethod ({ cls := "FlowApplyModel", name := "goTogether", desc := "(III)Z" } : Jvm.MethodName)) ∈ fa_wG := fa_it (tb_8 _ (List.mem_of_getElem? (i := 36) rfl)) rfl
set_option maxRecDepth 100000 in
theorem wd_1717 : (Jvm.Cond.code ({ cls := "FlowApplyModel", name := "goTogether", desc := "(III)Z" } : Jvm.MethodName) prog_12_method_59_code (5 : Nat) (Option.some Jvm.ClassFile.FieldType.boolean)) ∈ fa_wG := fa_it (tb_8 _ (List.mem_of_getElem? (i := 37) rfl)) rfl
set_option maxRecDepth 100000 in
theorem wd_1718 : (Jvm.Cond.methodLink "FlowApplyModel" (288 : Nat) ({ cls := "FlowApplyModel", name := "areOne", desc := "(II)Z" } : Jvm.MethodName)) ∈ fa_wG := fa_it (tb_8 _ (List.mem_of_getElem? (i := 38) rfl)) rfl
set_option maxRecDepth 100000 in
theorem wd_1720 : (Jvm.Cond.instanceMethod ({ cls := "FlowApplyModel", name := "areOne", desc := "(II)Z" } : Jvm.MethodName)) ∈ fa_wG := fa_it (tb_8 _ (List.mem_of_getElem? (i := 40) rfl)) rfl
set_option maxRecDepth 100000 in
theorem wd_1721 : (Jvm.Cond.code ({ cls := "FlowApplyModel", name := "areOne", desc := "(II)Z" } : Jvm.MethodName) prog_12_method_50_code (5 : Nat) (Option.some Jvm.ClassFile.FieldType.boolean)) ∈ fa_wG := fa_it (tb_8 _ (List.mem_of_getElem? (i := 41) rfl)) rfl
set_option maxRecDepth 100000 in
theorem wd_1722 : (Jvm.Cond.methodLink "FlowApplyModel" (405 : Nat) ({ cls := "FlowApplyModel", name := "laysRings", desc := "()V" } : Jvm.MethodName)) ∈ fa_wG := fa_it (tb_8 _ (List.mem_of_getElem? (i := 42) rfl)) rfl
set_option maxRecDepth 100000 in
theorem wd_1724 : (Jvm.Cond.instanceMethod ({ cls := "FlowApplyModel", name := "laysRings", desc := "()V" } : Jvm.MethodName)) ∈ fa_wG := fa_it (tb_8 _ (List.mem_of_getElem? (i := 44) rfl)) rfl
set_option maxRecDepth 100000 in
theorem wd_1725 : (Jvm.Cond.code ({ cls := "FlowApplyModel", name := "laysRings", desc := "()V" } : Jvm.MethodName) prog_12_method_62_code (3 : Nat) (Option.none : Option Jvm.ClassFile.FieldType)) ∈ fa_wG := fa_it (tb_8 _ (List.mem_of_getElem? (i := 45) rfl)) rfl
set_option maxRecDepth 100000 in
theorem wd_1726 : (Jvm.Cond.methodLink "FlowApplyModel" (408 : Nat) ({ cls := "FlowApplyModel", name := "compilesAll", desc := "()V" } : Jvm.MethodName)) ∈ fa_wG := fa_it (tb_8 _ (List.mem_of_getElem? (i := 46) rfl)) rfl
set_option maxRecDepth 100000 in
theorem wd_1728 : (Jvm.Cond.instanceMethod ({ cls := "FlowApplyModel", name := "compilesAll", desc := "()V" } : Jvm.MethodName)) ∈ fa_wG := fa_it (tb_8 _ (List.mem_of_getElem? (i := 48) rfl)) rfl
set_option maxRecDepth 100000 in
theorem wd_1729 : (Jvm.Cond.code ({ cls := "FlowApplyModel", name := "compilesAll", desc := "()V" } : Jvm.MethodName) prog_12_method_65_code (3 : Nat) (Option.none : Option Jvm.ClassFile.FieldType)) ∈ fa_wG := fa_it (tb_8 _ (List.mem_of_getElem? (i := 49) rfl)) rfl
set_option maxRecDepth 100000 in
theorem wd_1730 : (Jvm.Cond.methodLink "FlowApplyModel" (390 : Nat) ({ cls := "FlowApplyModel", name := "compiles", desc := "(I)V" } : Jvm.MethodName)) ∈ fa_wG := fa_it (tb_8 _ (List.mem_of_getElem? (i := 50) rfl)) rfl
set_option maxRecDepth 100000 in
theorem wd_1732 : (Jvm.Cond.instanceMethod ({ cls := "FlowApplyModel", name := "compiles", desc := "(I)V" } : Jvm.MethodName)) ∈ fa_wG := fa_it (tb_8 _ (List.mem_of_getElem? (i := 52) rfl)) rfl
set_option maxRecDepth 100000 in
theorem wd_1733 : (Jvm.Cond.code ({ cls := "FlowApplyModel", name := "compiles", desc := "(I)V" } : Jvm.MethodName) prog_12_method_64_code (4 : Nat) (Option.none : Option Jvm.ClassFile.FieldType)) ∈ fa_wG := fa_it (tb_8 _ (List.mem_of_getElem? (i := 53) rfl)) rfl
set_option maxRecDepth 100000 in
theorem wd_1734 : (Jvm.Cond.methodLink "FlowApplyModel" (393 : Nat) ({ cls := "FlowApplyModel", name := "lays", desc := "(II)I" } : Jvm.MethodName)) ∈ fa_wG := fa_it (tb_8 _ (List.mem_of_getElem? (i := 54) rfl)) rfl
set_option maxRecDepth 100000 in
theorem wd_1736 : (Jvm.Cond.instanceMethod ({ cls := "FlowApplyModel", name := "lays", desc := "(II)I" } : Jvm.MethodName)) ∈ fa_wG := fa_it (tb_8 _ (List.mem_of_getElem? (i := 56) rfl)) rfl
set_option maxRecDepth 100000 in
theorem wd_1737 : (Jvm.Cond.code ({ cls := "FlowApplyModel", name := "lays", desc := "(II)I" } : Jvm.MethodName) prog_12_method_63_code (3 : Nat) (Option.some Jvm.ClassFile.FieldType.int)) ∈ fa_wG := fa_it (tb_8 _ (List.mem_of_getElem? (i := 57) rfl)) rfl
set_option maxRecDepth 100000 in
theorem wd_1738 : (Jvm.Cond.methodLink "FlowApplyModel" (467 : Nat) ({ cls := "FlowApplyModel", name := "keeps", desc := "()V" } : Jvm.MethodName)) ∈ fa_wG := fa_it (tb_8 _ (List.mem_of_getElem? (i := 58) rfl)) rfl
set_option maxRecDepth 100000 in
theorem wd_1740 : (Jvm.Cond.instanceMethod ({ cls := "FlowApplyModel", name := "keeps", desc := "()V" } : Jvm.MethodName)) ∈ fa_wG := fa_it (tb_8 _ (List.mem_of_getElem? (i := 60) rfl)) rfl
set_option maxRecDepth 100000 in
theorem wd_1741 : (Jvm.Cond.code ({ cls := "FlowApplyModel", name := "keeps", desc := "()V" } : Jvm.MethodName) prog_12_method_69_code (2 : Nat) (Option.none : Option Jvm.ClassFile.FieldType)) ∈ fa_wG := fa_it (tb_8 _ (List.mem_of_getElem? (i := 61) rfl)) rfl
set_option maxRecDepth 100000 in
theorem wd_1742 : (Jvm.Cond.fieldLink "FlowApplyModel" (1 : Nat) "FlowApplyModel" "thrown" "I") ∈ fa_wG := fa_it (tb_8 _ (List.mem_of_getElem? (i := 62) rfl)) rfl
set_option maxRecDepth 100000 in
theorem wd_1743 : (Jvm.Cond.fieldLink "FlowApplyModel" (14 : Nat) "FlowApplyModel" "tape" "[B") ∈ fa_wG := fa_it (tb_8 _ (List.mem_of_getElem? (i := 63) rfl)) rfl
set_option maxRecDepth 100000 in
theorem wd_1744 : (Jvm.Cond.fieldLink "FlowApplyModel" (7 : Nat) "FlowApplyModel" "taped" "I") ∈ fa_wG := fa_it (tb_8 _ (List.mem_of_getElem? (i := 64) rfl)) rfl
set_option maxRecDepth 100000 in
theorem wd_1745 : (Jvm.Cond.fieldLink "FlowApplyModel" (10 : Nat) "FlowApplyModel" "five" "[I") ∈ fa_wG := fa_it (tb_8 _ (List.mem_of_getElem? (i := 65) rfl)) rfl
set_option maxRecDepth 100000 in
theorem wd_1746 : (Jvm.Cond.fieldLink "FlowApplyModel" (88 : Nat) "FlowApplyModel" "kind" "[I") ∈ fa_wG := fa_it (tb_8 _ (List.mem_of_getElem? (i := 66) rfl)) rfl
set_option maxRecDepth 100000 in
theorem wd_1747 : (Jvm.Cond.fieldLink "FlowApplyModel" (94 : Nat) "FlowApplyModel" "one" "[I") ∈ fa_wG := fa_it (tb_8 _ (List.mem_of_getElem? (i := 67) rfl)) rfl
set_option maxRecDepth 100000 in
theorem wd_1748 : (Jvm.Cond.fieldLink "FlowApplyModel" (97 : Nat) "FlowApplyModel" "two" "[I") ∈ fa_wG := fa_it (tb_8 _ (List.mem_of_getElem? (i := 68) rfl)) rfl
set_option maxRecDepth 100000 in
theorem wd_1749 : (Jvm.Cond.fieldLink "FlowApplyModel" (100 : Nat) "FlowApplyModel" "three" "[I") ∈ fa_wG := fa_it (tb_8 _ (List.mem_of_getElem? (i := 69) rfl)) rfl
set_option maxRecDepth 100000 in
theorem wd_1750 : (Jvm.Cond.fieldLink "FlowApplyModel" (103 : Nat) "FlowApplyModel" "told" "[I") ∈ fa_wG := fa_it (tb_8 _ (List.mem_of_getElem? (i := 70) rfl)) rfl
set_option maxRecDepth 100000 in
theorem wd_1751 : (Jvm.Cond.fieldLink "FlowApplyModel" (166 : Nat) "FlowApplyModel" "body" "[I") ∈ fa_wG := fa_it (tb_8 _ (List.mem_of_getElem? (i := 71) rfl)) rfl
set_option maxRecDepth 100000 in
theorem wd_1752 : (Jvm.Cond.fieldLink "FlowApplyModel" (212 : Nat) "FlowApplyModel" "name" "[I") ∈ fa_wG := fa_it (tb_8 _ (List.mem_of_getElem? (i := 72) rfl)) rfl
set_option maxRecDepth 100000 in
theorem wd_1753 : (Jvm.Cond.fieldLink "FlowApplyModel" (156 : Nat) "FlowApplyModel" "homeOf" "[I") ∈ fa_wG := fa_it (tb_8 _ (List.mem_of_getElem? (i := 73) rfl)) rfl
set_option maxRecDepth 100000 in
theorem wd_1754 : (Jvm.Cond.fieldLink "FlowApplyModel" (116 : Nat) "FlowApplyModel" "binderName" "[I") ∈ fa_wG := fa_it (tb_8 _ (List.mem_of_getElem? (i := 74) rfl)) rfl
set_option maxRecDepth 100000 in
theorem wd_1755 : (Jvm.Cond.fieldLink "FlowApplyModel" (119 : Nat) "FlowApplyModel" "binderHome" "[I") ∈ fa_wG := fa_it (tb_8 _ (List.mem_of_getElem? (i := 75) rfl)) rfl
set_option maxRecDepth 100000 in
theorem wd_1756 : (Jvm.Cond.fieldLink "FlowApplyModel" (203 : Nat) "FlowApplyModel" "siteNode" "[I") ∈ fa_wG := fa_it (tb_8 _ (List.mem_of_getElem? (i := 76) rfl)) rfl
set_option maxRecDepth 100000 in
theorem wd_1757 : (Jvm.Cond.fieldLink "FlowApplyModel" (200 : Nat) "FlowApplyModel" "siteHome" "[I") ∈ fa_wG := fa_it (tb_8 _ (List.mem_of_getElem? (i := 77) rfl)) rfl
set_option maxRecDepth 100000 in
theorem wd_1758 : (Jvm.Cond.fieldLink "FlowApplyModel" (91 : Nat) "FlowApplyModel" "nodes" "I") ∈ fa_wG := fa_it (tb_8 _ (List.mem_of_getElem? (i := 78) rfl)) rfl
set_option maxRecDepth 100000 in
theorem wd_1759 : (Jvm.Cond.fieldLink "FlowApplyModel" (209 : Nat) "FlowApplyModel" "globals" "I") ∈ fa_wG := fa_it (tb_8 _ (List.mem_of_getElem? (i := 79) rfl)) rfl
set_option maxRecDepth 100000 in
theorem wd_1760 : (Jvm.Cond.fieldLink "FlowApplyModel" (140 : Nat) "FlowApplyModel" "lambdas" "I") ∈ fa_wG := fa_it (tb_8 _ (List.mem_of_getElem? (i := 80) rfl)) rfl
set_option maxRecDepth 100000 in
theorem wd_1761 : (Jvm.Cond.fieldLink "FlowApplyModel" (179 : Nat) "FlowApplyModel" "lets" "I") ∈ fa_wG := fa_it (tb_8 _ (List.mem_of_getElem? (i := 81) rfl)) rfl
set_option maxRecDepth 100000 in
theorem wd_1762 : (Jvm.Cond.fieldLink "FlowApplyModel" (197 : Nat) "FlowApplyModel" "sites" "I") ∈ fa_wG := fa_it (tb_8 _ (List.mem_of_getElem? (i := 82) rfl)) rfl
set_option maxRecDepth 100000 in
theorem wd_1763 : (Jvm.Cond.fieldLink "FlowApplyModel" (218 : Nat) "FlowApplyModel" "main" "I") ∈ fa_wG := fa_it (tb_8 _ (List.mem_of_getElem? (i := 83) rfl)) rfl
set_option maxRecDepth 100000 in
theorem wd_1764 : (Jvm.Cond.fieldLink "FlowApplyModel" (24 : Nat) "FlowApplyModel" "source" "[B") ∈ fa_wG := fa_it (tb_8 _ (List.mem_of_getElem? (i := 84) rfl)) rfl
set_option maxRecDepth 100000 in
theorem wd_1765 : (Jvm.Cond.fieldLink "FlowApplyModel" (417 : Nat) "FlowApplyModel" "text" "[B") ∈ fa_wG := fa_it (tb_8 _ (List.mem_of_getElem? (i := 85) rfl)) rfl
set_option maxRecDepth 100000 in
theorem wd_1766 : (Jvm.Cond.fieldLink "FlowApplyModel" (21 : Nat) "FlowApplyModel" "size" "I") ∈ fa_wG := fa_it (tb_8 _ (List.mem_of_getElem? (i := 86) rfl)) rfl
set_option maxRecDepth 100000 in
theorem wd_1767 : (Jvm.Cond.fieldLink "FlowApplyModel" (18 : Nat) "FlowApplyModel" "point" "I") ∈ fa_wG := fa_it (tb_8 _ (List.mem_of_getElem? (i := 87) rfl)) rfl
set_option maxRecDepth 100000 in
theorem wd_1768 : (Jvm.Cond.fieldLink "FlowApplyModel" (31 : Nat) "FlowApplyModel" "begin" "I") ∈ fa_wG := fa_it (tb_8 _ (List.mem_of_getElem? (i := 88) rfl)) rfl
set_option maxRecDepth 100000 in
theorem wd_1769 : (Jvm.Cond.fieldLink "FlowApplyModel" (34 : Nat) "FlowApplyModel" "faultAt" "I") ∈ fa_wG := fa_it (tb_8 _ (List.mem_of_getElem? (i := 89) rfl)) rfl
set_option maxRecDepth 100000 in
theorem wd_1770 : (Jvm.Cond.fieldLink "FlowApplyModel" (109 : Nat) "FlowApplyModel" "within" "I") ∈ fa_wG := fa_it (tb_8 _ (List.mem_of_getElem? (i := 90) rfl)) rfl
set_option maxRecDepth 100000 in
theorem wd_1771 : (Jvm.Cond.fieldLink "FlowApplyModel" (159 : Nat) "FlowApplyModel" "here" "I") ∈ fa_wG := fa_it (tb_8 _ (List.mem_of_getElem? (i := 91) rfl)) rfl
set_option maxRecDepth 100000 in
theorem wd_1772 : (Jvm.Cond.fieldLink "FlowApplyModel" (112 : Nat) "FlowApplyModel" "isFree" "Z") ∈ fa_wG := fa_it (tb_8 _ (List.mem_of_getElem? (i := 92) rfl)) rfl
set_option maxRecDepth 100000 in
theorem wd_1773 : (Jvm.Cond.fieldLink "FlowApplyModel" (122 : Nat) "FlowApplyModel" "seen" "[I") ∈ fa_wG := fa_it (tb_8 _ (List.mem_of_getElem? (i := 93) rfl)) rfl
set_option maxRecDepth 100000 in
theorem wd_1774 : (Jvm.Cond.fieldLink "FlowApplyModel" (125 : Nat) "FlowApplyModel" "seenMany" "I") ∈ fa_wG := fa_it (tb_8 _ (List.mem_of_getElem? (i := 94) rfl)) rfl
set_option maxRecDepth 100000 in
theorem wd_1775 : (Jvm.Cond.fieldLink "FlowApplyModel" (53 : Nat) "FlowApplyModel" "wordMany" "I") ∈ fa_wG := fa_it (tb_8 _ (List.mem_of_getElem? (i := 95) rfl)) rfl
set_option maxRecDepth 100000 in
theorem wd_1776 : (Jvm.Cond.fieldLink "FlowApplyModel" (106 : Nat) "FlowApplyModel" "things" "I") ∈ fa_wG := fa_it (tb_8 _ (List.mem_of_getElem? (i := 96) rfl)) rfl
set_option maxRecDepth 100000 in
theorem wd_1777 : (Jvm.Cond.fieldLink "FlowApplyModel" (233 : Nat) "FlowApplyModel" "typeSort" "[I") ∈ fa_wG := fa_it (tb_8 _ (List.mem_of_getElem? (i := 97) rfl)) rfl
set_option maxRecDepth 100000 in
theorem wd_1778 : (Jvm.Cond.fieldLink "FlowApplyModel" (239 : Nat) "FlowApplyModel" "typeLeft" "[I") ∈ fa_wG := fa_it (tb_8 _ (List.mem_of_getElem? (i := 98) rfl)) rfl
set_option maxRecDepth 100000 in
theorem wd_1779 : (Jvm.Cond.fieldLink "FlowApplyModel" (242 : Nat) "FlowApplyModel" "typeRight" "[I") ∈ fa_wG := fa_it (tb_8 _ (List.mem_of_getElem? (i := 99) rfl)) rfl
set_option maxRecDepth 100000 in
theorem wd_1780 : (Jvm.Cond.fieldLink "FlowApplyModel" (245 : Nat) "FlowApplyModel" "typeUp" "[I") ∈ fa_wG := fa_it (tb_8 _ (List.mem_of_getElem? (i := 100) rfl)) rfl
set_option maxRecDepth 100000 in
theorem wd_1781 : (Jvm.Cond.fieldLink "FlowApplyModel" (261 : Nat) "FlowApplyModel" "nodeType" "[I") ∈ fa_wG := fa_it (tb_8 _ (List.mem_of_getElem? (i := 101) rfl)) rfl
set_option maxRecDepth 100000 in
theorem wd_1782 : (Jvm.Cond.fieldLink "FlowApplyModel" (258 : Nat) "FlowApplyModel" "binderType" "[I") ∈ fa_wG := fa_it (tb_8 _ (List.mem_of_getElem? (i := 102) rfl)) rfl
set_option maxRecDepth 100000 in
theorem wd_1783 : (Jvm.Cond.fieldLink "FlowApplyModel" (282 : Nat) "FlowApplyModel" "wayMark" "[I") ∈ fa_wG := fa_it (tb_8 _ (List.mem_of_getElem? (i := 103) rfl)) rfl
set_option maxRecDepth 100000 in
theorem wd_1784 : (Jvm.Cond.fieldLink "FlowApplyModel" (236 : Nat) "FlowApplyModel" "types" "I") ∈ fa_wG := fa_it (tb_8 _ (List.mem_of_getElem? (i := 104) rfl)) rfl
set_option maxRecDepth 100000 in
theorem wd_1785 : (Jvm.Cond.fieldLink "FlowApplyModel" (251 : Nat) "FlowApplyModel" "typesWell" "Z") ∈ fa_wG := fa_it (tb_8 _ (List.mem_of_getElem? (i := 105) rfl)) rfl
set_option maxRecDepth 100000 in
theorem wd_1786 : (Jvm.Cond.fieldLink "FlowApplyModel" (273 : Nat) "FlowApplyModel" "ownType" "[I") ∈ fa_wG := fa_it (tb_8 _ (List.mem_of_getElem? (i := 106) rfl)) rfl
set_option maxRecDepth 100000 in
theorem wd_1787 : (Jvm.Cond.fieldLink "FlowApplyModel" (297 : Nat) "FlowApplyModel" "varHas" "[I") ∈ fa_wG := fa_it (tb_8 _ (List.mem_of_getElem? (i := 107) rfl)) rfl
set_option maxRecDepth 100000 in
theorem wd_1788 : (Jvm.Cond.fieldLink "FlowApplyModel" (329 : Nat) "FlowApplyModel" "comesOf" "[I") ∈ fa_wG := fa_it (tb_8 _ (List.mem_of_getElem? (i := 108) rfl)) rfl
set_option maxRecDepth 100000 in
theorem wd_1789 : (Jvm.Cond.fieldLink "FlowApplyModel" (317 : Nat) "FlowApplyModel" "siteBy" "[I") ∈ fa_wG := fa_it (tb_8 _ (List.mem_of_getElem? (i := 109) rfl)) rfl
set_option maxRecDepth 100000 in
theorem wd_1790 : (Jvm.Cond.fieldLink "FlowApplyModel" (320 : Nat) "FlowApplyModel" "siteWith" "[I") ∈ fa_wG := fa_it (tb_8 _ (List.mem_of_getElem? (i := 110) rfl)) rfl
set_option maxRecDepth 100000 in
theorem wd_1791 : (Jvm.Cond.fieldLink "FlowApplyModel" (332 : Nat) "FlowApplyModel" "siteOf" "[I") ∈ fa_wG := fa_it (tb_8 _ (List.mem_of_getElem? (i := 111) rfl)) rfl
set_option maxRecDepth 100000 in
theorem wd_1792 : (Jvm.Cond.fieldLink "FlowApplyModel" (313 : Nat) "FlowApplyModel" "isLooked" "[Z") ∈ fa_wG := fa_it (tb_8 _ (List.mem_of_getElem? (i := 112) rfl)) rfl
set_option maxRecDepth 100000 in
theorem wd_1793 : (Jvm.Cond.fieldLink "FlowApplyModel" (300 : Nat) "FlowApplyModel" "made" "I") ∈ fa_wG := fa_it (tb_8 _ (List.mem_of_getElem? (i := 113) rfl)) rfl
set_option maxRecDepth 100000 in
theorem wd_1794 : (Jvm.Cond.fieldLink "FlowApplyModel" (323 : Nat) "FlowApplyModel" "called" "I") ∈ fa_wG := fa_it (tb_8 _ (List.mem_of_getElem? (i := 114) rfl)) rfl
set_option maxRecDepth 100000 in
theorem wd_1795 : (Jvm.Cond.fieldLink "FlowApplyModel" (335 : Nat) "FlowApplyModel" "escapes" "I") ∈ fa_wG := fa_it (tb_8 _ (List.mem_of_getElem? (i := 115) rfl)) rfl
set_option maxRecDepth 100000 in
theorem wd_1796 : (Jvm.Cond.fieldLink "FlowApplyModel" (291 : Nat) "FlowApplyModel" "found" "I") ∈ fa_wG := fa_it (tb_8 _ (List.mem_of_getElem? (i := 116) rfl)) rfl
set_option maxRecDepth 100000 in
theorem wd_1797 : (Jvm.Cond.fieldLink "FlowApplyModel" (350 : Nat) "FlowApplyModel" "fields" "[I") ∈ fa_wG := fa_it (tb_8 _ (List.mem_of_getElem? (i := 117) rfl)) rfl
set_option maxRecDepth 100000 in
theorem wd_1798 : (Jvm.Cond.fieldLink "FlowApplyModel" (347 : Nat) "FlowApplyModel" "fieldMany" "[I") ∈ fa_wG := fa_it (tb_8 _ (List.mem_of_getElem? (i := 118) rfl)) rfl
set_option maxRecDepth 100000 in
theorem wd_1799 : (Jvm.Cond.fieldLink "FlowApplyModel" (353 : Nat) "FlowApplyModel" "groupOf" "[I") ∈ fa_wG := fa_it (tb_8 _ (List.mem_of_getElem? (i := 119) rfl)) rfl
set_option maxRecDepth 100000 in
theorem wd_1800 : (Jvm.Cond.fieldLink "FlowApplyModel" (356 : Nat) "FlowApplyModel" "groupMany" "[I") ∈ fa_wG := fa_it (tb_8 _ (List.mem_of_getElem? (i := 120) rfl)) rfl
set_option maxRecDepth 100000 in
theorem wd_1801 : (Jvm.Cond.fieldLink "FlowApplyModel" (366 : Nat) "FlowApplyModel" "calls" "[I") ∈ fa_wG := fa_it (tb_8 _ (List.mem_of_getElem? (i := 121) rfl)) rfl
set_option maxRecDepth 100000 in
theorem wd_1802 : (Jvm.Cond.fieldLink "FlowApplyModel" (369 : Nat) "FlowApplyModel" "ways" "[I") ∈ fa_wG := fa_it (tb_8 _ (List.mem_of_getElem? (i := 122) rfl)) rfl
set_option maxRecDepth 100000 in
theorem wd_1803 : (Jvm.Cond.fieldLink "FlowApplyModel" (372 : Nat) "FlowApplyModel" "ringOf" "[I") ∈ fa_wG := fa_it (tb_8 _ (List.mem_of_getElem? (i := 123) rfl)) rfl
set_option maxRecDepth 100000 in
theorem wd_1804 : (Jvm.Cond.fieldLink "FlowApplyModel" (378 : Nat) "FlowApplyModel" "ringSet" "[I") ∈ fa_wG := fa_it (tb_8 _ (List.mem_of_getElem? (i := 124) rfl)) rfl
set_option maxRecDepth 100000 in
theorem wd_1805 : (Jvm.Cond.fieldLink "FlowApplyModel" (375 : Nat) "FlowApplyModel" "rings" "I") ∈ fa_wG := fa_it (tb_8 _ (List.mem_of_getElem? (i := 125) rfl)) rfl
set_option maxRecDepth 100000 in
theorem wd_1806 : (Jvm.Cond.fieldLink "FlowApplyModel" (381 : Nat) "FlowApplyModel" "code" "[I") ∈ fa_wG := fa_it (tb_8 _ (List.mem_of_getElem? (i := 126) rfl)) rfl
set_option maxRecDepth 100000 in
theorem wd_1807 : (Jvm.Cond.fieldLink "FlowApplyModel" (387 : Nat) "FlowApplyModel" "codeBy" "[I") ∈ fa_wG := fa_it (tb_8 _ (List.mem_of_getElem? (i := 127) rfl)) rfl
set_option maxRecDepth 100000 in
theorem wd_1808 : (Jvm.Cond.fieldLink "FlowApplyModel" (396 : Nat) "FlowApplyModel" "entry" "[I") ∈ fa_wG := fa_it (tb_8 _ (List.mem_of_getElem? (i := 128) rfl)) rfl
set_option maxRecDepth 100000 in
theorem wd_1809 : (Jvm.Cond.fieldLink "FlowApplyModel" (384 : Nat) "FlowApplyModel" "codes" "I") ∈ fa_wG := fa_it (tb_8 _ (List.mem_of_getElem? (i := 129) rfl)) rfl
set_option maxRecDepth 100000 in
theorem wd_1810 : (Jvm.Cond.fieldLink "FlowApplyModel" (420 : Nat) "FlowApplyModel" "fault" "I") ∈ fa_wG := fa_it (tb_8 _ (List.mem_of_getElem? (i := 130) rfl)) rfl
set_option maxRecDepth 100000 in
theorem wd_1811 : (Jvm.Cond.fieldLink "FlowApplyModel" (482 : Nat) "FlowApplyModel" "shown" "I") ∈ fa_wG := fa_it (tb_8 _ (List.mem_of_getElem? (i := 131) rfl)) rfl
set_option maxRecDepth 100000 in
theorem wd_1812 : (Jvm.Cond.fieldLink "FlowApplyModel" (423 : Nat) "FlowApplyModel" "kept" "[B") ∈ fa_wG := fa_it (tb_8 _ (List.mem_of_getElem? (i := 132) rfl)) rfl
set_option maxRecDepth 100000 in
theorem wd_1813 : (Jvm.Cond.fieldLink "FlowApplyModel" (479 : Nat) "FlowApplyModel" "keptMany" "I") ∈ fa_wG := fa_it (tb_8 _ (List.mem_of_getElem? (i := 133) rfl)) rfl
set_option maxRecDepth 100000 in
theorem wd_1814 : (Jvm.Cond.fieldLink "FlowApplyModel" (426 : Nat) "FlowApplyModel" "openAs" "[I") ∈ fa_wG := fa_it (tb_8 _ (List.mem_of_getElem? (i := 134) rfl)) rfl
set_option maxRecDepth 100000 in
theorem wd_1815 : (Jvm.Cond.fieldLink "FlowApplyModel" (528 : Nat) "FlowApplyModel" "opens" "I") ∈ fa_wG := fa_it (tb_8 _ (List.mem_of_getElem? (i := 135) rfl)) rfl
set_option maxRecDepth 100000 in
theorem wd_1816 : (Jvm.Cond.fieldLink "FlowApplyModel" (430 : Nat) "FlowApplyModel" "value" "[I") ∈ fa_wG := fa_it (tb_8 _ (List.mem_of_getElem? (i := 136) rfl)) rfl
set_option maxRecDepth 100000 in
theorem wd_1817 : (Jvm.Cond.fieldLink "FlowApplyModel" (433 : Nat) "FlowApplyModel" "valueOf" "[I") ∈ fa_wG := fa_it (tb_8 _ (List.mem_of_getElem? (i := 137) rfl)) rfl
set_option maxRecDepth 100000 in
theorem wd_1818 : (Jvm.Cond.fieldLink "FlowApplyModel" (436 : Nat) "FlowApplyModel" "valueIn" "[I") ∈ fa_wG := fa_it (tb_8 _ (List.mem_of_getElem? (i := 138) rfl)) rfl
set_option maxRecDepth 100000 in
theorem wd_1819 : (Jvm.Cond.fieldLink "FlowApplyModel" (439 : Nat) "FlowApplyModel" "held" "[I") ∈ fa_wG := fa_it (tb_8 _ (List.mem_of_getElem? (i := 139) rfl)) rfl
set_option maxRecDepth 100000 in
theorem wd_1820 : (Jvm.Cond.fieldLink "FlowApplyModel" (442 : Nat) "FlowApplyModel" "heldOf" "[I") ∈ fa_wG := fa_it (tb_8 _ (List.mem_of_getElem? (i := 140) rfl)) rfl
set_option maxRecDepth 100000 in
theorem wd_1821 : (Jvm.Cond.fieldLink "FlowApplyModel" (445 : Nat) "FlowApplyModel" "heldIn" "[I") ∈ fa_wG := fa_it (tb_8 _ (List.mem_of_getElem? (i := 141) rfl)) rfl
set_option maxRecDepth 100000 in
theorem wd_1822 : (Jvm.Cond.fieldLink "FlowApplyModel" (448 : Nat) "FlowApplyModel" "frameOf" "[I") ∈ fa_wG := fa_it (tb_8 _ (List.mem_of_getElem? (i := 142) rfl)) rfl
set_option maxRecDepth 100000 in
theorem wd_1823 : (Jvm.Cond.fieldLink "FlowApplyModel" (451 : Nat) "FlowApplyModel" "frameUp" "[I") ∈ fa_wG := fa_it (tb_8 _ (List.mem_of_getElem? (i := 143) rfl)) rfl
set_option maxRecDepth 100000 in
theorem wd_1824 : (Jvm.Cond.fieldLink "FlowApplyModel" (454 : Nat) "FlowApplyModel" "stackAt" "[I") ∈ fa_wG := fa_it (tb_8 _ (List.mem_of_getElem? (i := 144) rfl)) rfl
set_option maxRecDepth 100000 in
theorem wd_1825 : (Jvm.Cond.fieldLink "FlowApplyModel" (457 : Nat) "FlowApplyModel" "stackFrame" "[I") ∈ fa_wG := fa_it (tb_8 _ (List.mem_of_getElem? (i := 145) rfl)) rfl
set_option maxRecDepth 100000 in
theorem wd_1826 : (Jvm.Cond.fieldLink "FlowApplyModel" (460 : Nat) "FlowApplyModel" "blamed" "[I") ∈ fa_wG := fa_it (tb_8 _ (List.mem_of_getElem? (i := 146) rfl)) rfl
set_option maxRecDepth 100000 in
theorem wd_1827 : (Jvm.Cond.fieldLink "FlowApplyModel" (549 : Nat) "FlowApplyModel" "tops" "I") ∈ fa_wG := fa_it (tb_8 _ (List.mem_of_getElem? (i := 147) rfl)) rfl
set_option maxRecDepth 100000 in
theorem wd_1828 : (Jvm.Cond.fieldLink "FlowApplyModel" (552 : Nat) "FlowApplyModel" "frames" "I") ∈ fa_wG := fa_it (tb_8 _ (List.mem_of_getElem? (i := 148) rfl)) rfl
set_option maxRecDepth 100000 in
theorem wd_1829 : (Jvm.Cond.fieldLink "FlowApplyModel" (555 : Nat) "FlowApplyModel" "deep" "I") ∈ fa_wG := fa_it (tb_8 _ (List.mem_of_getElem? (i := 149) rfl)) rfl
set_option maxRecDepth 100000 in
theorem wd_1830 : (Jvm.Cond.fieldLink "FlowApplyModel" (558 : Nat) "FlowApplyModel" "steps" "I") ∈ fa_wG := fa_it (tb_8 _ (List.mem_of_getElem? (i := 150) rfl)) rfl
set_option maxRecDepth 100000 in
theorem wd_1831 : (Jvm.Cond.fieldLink "FlowApplyModel" (561 : Nat) "FlowApplyModel" "most" "I") ∈ fa_wG := fa_it (tb_8 _ (List.mem_of_getElem? (i := 151) rfl)) rfl
set_option maxRecDepth 100000 in
theorem wd_1832 : (Jvm.Cond.fieldLink "FlowApplyModel" (564 : Nat) "FlowApplyModel" "entered" "I") ∈ fa_wG := fa_it (tb_8 _ (List.mem_of_getElem? (i := 152) rfl)) rfl
set_option maxRecDepth 100000 in
theorem wd_1833 : (Jvm.Cond.fieldLink "FlowApplyModel" (567 : Nat) "FlowApplyModel" "ends" "I") ∈ fa_wG := fa_it (tb_8 _ (List.mem_of_getElem? (i := 153) rfl)) rfl
set_option maxRecDepth 100000 in
theorem wd_1834 : (Jvm.Cond.fieldLink "FlowApplyModel" (570 : Nat) "FlowApplyModel" "endWith" "I") ∈ fa_wG := fa_it (tb_8 _ (List.mem_of_getElem? (i := 154) rfl)) rfl
set_option maxRecDepth 100000 in
theorem wd_1835 : (Jvm.Cond.lays "FlowApplyModel" "FlowApplyModel" "thrown" "I") ∈ fa_wG := fa_it (tb_8 _ (List.mem_of_getElem? (i := 155) rfl)) rfl
set_option maxRecDepth 100000 in
theorem wd_1837 : (Jvm.Cond.laysFinal "FlowApplyModel" "FlowApplyModel" "tape" "[B") ∈ fa_wG := fa_it (tb_8 _ (List.mem_of_getElem? (i := 157) rfl)) rfl
set_option maxRecDepth 100000 in
theorem wd_1839 : (Jvm.Cond.lays "FlowApplyModel" "FlowApplyModel" "taped" "I") ∈ fa_wG := fa_it (tb_8 _ (List.mem_of_getElem? (i := 159) rfl)) rfl
set_option maxRecDepth 100000 in
theorem wd_1841 : (Jvm.Cond.laysFinal "FlowApplyModel" "FlowApplyModel" "five" "[I") ∈ fa_wG := fa_it (tb_8 _ (List.mem_of_getElem? (i := 161) rfl)) rfl
set_option maxRecDepth 100000 in
theorem wd_1843 : (Jvm.Cond.laysFinal "FlowApplyModel" "FlowApplyModel" "kind" "[I") ∈ fa_wG := fa_it (tb_8 _ (List.mem_of_getElem? (i := 163) rfl)) rfl
set_option maxRecDepth 100000 in
theorem wd_1845 : (Jvm.Cond.laysFinal "FlowApplyModel" "FlowApplyModel" "one" "[I") ∈ fa_wG := fa_it (tb_8 _ (List.mem_of_getElem? (i := 165) rfl)) rfl
set_option maxRecDepth 100000 in
theorem wd_1847 : (Jvm.Cond.laysFinal "FlowApplyModel" "FlowApplyModel" "two" "[I") ∈ fa_wG := fa_it (tb_8 _ (List.mem_of_getElem? (i := 167) rfl)) rfl
set_option maxRecDepth 100000 in
theorem wd_1849 : (Jvm.Cond.laysFinal "FlowApplyModel" "FlowApplyModel" "three" "[I") ∈ fa_wG := fa_it (tb_8 _ (List.mem_of_getElem? (i := 169) rfl)) rfl
set_option maxRecDepth 100000 in
theorem wd_1851 : (Jvm.Cond.laysFinal "FlowApplyModel" "FlowApplyModel" "told" "[I") ∈ fa_wG := fa_it (tb_8 _ (List.mem_of_getElem? (i := 171) rfl)) rfl
set_option maxRecDepth 100000 in
theorem wd_1853 : (Jvm.Cond.laysFinal "FlowApplyModel" "FlowApplyModel" "body" "[I") ∈ fa_wG := fa_it (tb_8 _ (List.mem_of_getElem? (i := 173) rfl)) rfl
set_option maxRecDepth 100000 in
theorem wd_1855 : (Jvm.Cond.laysFinal "FlowApplyModel" "FlowApplyModel" "name" "[I") ∈ fa_wG := fa_it (tb_8 _ (List.mem_of_getElem? (i := 175) rfl)) rfl
set_option maxRecDepth 100000 in
theorem wd_1857 : (Jvm.Cond.laysFinal "FlowApplyModel" "FlowApplyModel" "homeOf" "[I") ∈ fa_wG := fa_it (tb_8 _ (List.mem_of_getElem? (i := 177) rfl)) rfl
set_option maxRecDepth 100000 in
theorem wd_1859 : (Jvm.Cond.laysFinal "FlowApplyModel" "FlowApplyModel" "binderName" "[I") ∈ fa_wG := fa_it (tb_8 _ (List.mem_of_getElem? (i := 179) rfl)) rfl
set_option maxRecDepth 100000 in
theorem wd_1861 : (Jvm.Cond.laysFinal "FlowApplyModel" "FlowApplyModel" "binderHome" "[I") ∈ fa_wG := fa_it (tb_8 _ (List.mem_of_getElem? (i := 181) rfl)) rfl
set_option maxRecDepth 100000 in
theorem wd_1863 : (Jvm.Cond.laysFinal "FlowApplyModel" "FlowApplyModel" "siteNode" "[I") ∈ fa_wG := fa_it (tb_8 _ (List.mem_of_getElem? (i := 183) rfl)) rfl
set_option maxRecDepth 100000 in
theorem wd_1865 : (Jvm.Cond.laysFinal "FlowApplyModel" "FlowApplyModel" "siteHome" "[I") ∈ fa_wG := fa_it (tb_8 _ (List.mem_of_getElem? (i := 185) rfl)) rfl
set_option maxRecDepth 100000 in
theorem wd_1867 : (Jvm.Cond.lays "FlowApplyModel" "FlowApplyModel" "nodes" "I") ∈ fa_wG := fa_it (tb_8 _ (List.mem_of_getElem? (i := 187) rfl)) rfl
set_option maxRecDepth 100000 in
theorem wd_1869 : (Jvm.Cond.lays "FlowApplyModel" "FlowApplyModel" "globals" "I") ∈ fa_wG := fa_it (tb_8 _ (List.mem_of_getElem? (i := 189) rfl)) rfl
set_option maxRecDepth 100000 in
theorem wd_1871 : (Jvm.Cond.lays "FlowApplyModel" "FlowApplyModel" "lambdas" "I") ∈ fa_wG := fa_it (tb_8 _ (List.mem_of_getElem? (i := 191) rfl)) rfl
set_option maxRecDepth 100000 in
theorem wd_1873 : (Jvm.Cond.lays "FlowApplyModel" "FlowApplyModel" "lets" "I") ∈ fa_wG := fa_it (tb_8 _ (List.mem_of_getElem? (i := 193) rfl)) rfl
set_option maxRecDepth 100000 in
theorem wd_1875 : (Jvm.Cond.lays "FlowApplyModel" "FlowApplyModel" "sites" "I") ∈ fa_wG := fa_it (tb_8 _ (List.mem_of_getElem? (i := 195) rfl)) rfl
set_option maxRecDepth 100000 in
theorem wd_1877 : (Jvm.Cond.lays "FlowApplyModel" "FlowApplyModel" "main" "I") ∈ fa_wG := fa_it (tb_8 _ (List.mem_of_getElem? (i := 197) rfl)) rfl
set_option maxRecDepth 100000 in
theorem wd_1879 : (Jvm.Cond.laysFinal "FlowApplyModel" "FlowApplyModel" "source" "[B") ∈ fa_wG := fa_it (tb_8 _ (List.mem_of_getElem? (i := 199) rfl)) rfl
set_option maxRecDepth 100000 in
theorem wd_1881 : (Jvm.Cond.laysFinal "FlowApplyModel" "FlowApplyModel" "text" "[B") ∈ fa_wG := fa_it (tb_8 _ (List.mem_of_getElem? (i := 201) rfl)) rfl
set_option maxRecDepth 100000 in
theorem wd_1883 : (Jvm.Cond.lays "FlowApplyModel" "FlowApplyModel" "sourceMany" "I") ∈ fa_wG := fa_it (tb_8 _ (List.mem_of_getElem? (i := 203) rfl)) rfl
set_option maxRecDepth 100000 in
theorem wd_1885 : (Jvm.Cond.lays "FlowApplyModel" "FlowApplyModel" "size" "I") ∈ fa_wG := fa_it (tb_8 _ (List.mem_of_getElem? (i := 205) rfl)) rfl
set_option maxRecDepth 100000 in
theorem wd_1887 : (Jvm.Cond.lays "FlowApplyModel" "FlowApplyModel" "point" "I") ∈ fa_wG := fa_it (tb_8 _ (List.mem_of_getElem? (i := 207) rfl)) rfl
set_option maxRecDepth 100000 in
theorem wd_1889 : (Jvm.Cond.lays "FlowApplyModel" "FlowApplyModel" "begin" "I") ∈ fa_wG := fa_it (tb_8 _ (List.mem_of_getElem? (i := 209) rfl)) rfl
set_option maxRecDepth 100000 in
theorem wd_1891 : (Jvm.Cond.lays "FlowApplyModel" "FlowApplyModel" "faultAt" "I") ∈ fa_wG := fa_it (tb_8 _ (List.mem_of_getElem? (i := 211) rfl)) rfl
set_option maxRecDepth 100000 in
theorem wd_1893 : (Jvm.Cond.lays "FlowApplyModel" "FlowApplyModel" "within" "I") ∈ fa_wG := fa_it (tb_8 _ (List.mem_of_getElem? (i := 213) rfl)) rfl
set_option maxRecDepth 100000 in
theorem wd_1895 : (Jvm.Cond.lays "FlowApplyModel" "FlowApplyModel" "here" "I") ∈ fa_wG := fa_it (tb_8 _ (List.mem_of_getElem? (i := 215) rfl)) rfl
set_option maxRecDepth 100000 in
theorem wd_1897 : (Jvm.Cond.lays "FlowApplyModel" "FlowApplyModel" "isFree" "Z") ∈ fa_wG := fa_it (tb_8 _ (List.mem_of_getElem? (i := 217) rfl)) rfl
set_option maxRecDepth 100000 in
theorem wd_1899 : (Jvm.Cond.laysFinal "FlowApplyModel" "FlowApplyModel" "seen" "[I") ∈ fa_wG := fa_it (tb_8 _ (List.mem_of_getElem? (i := 219) rfl)) rfl
set_option maxRecDepth 100000 in
theorem wd_1901 : (Jvm.Cond.lays "FlowApplyModel" "FlowApplyModel" "seenMany" "I") ∈ fa_wG := fa_it (tb_8 _ (List.mem_of_getElem? (i := 221) rfl)) rfl
set_option maxRecDepth 100000 in
theorem wd_1903 : (Jvm.Cond.lays "FlowApplyModel" "FlowApplyModel" "wordMany" "I") ∈ fa_wG := fa_it (tb_8 _ (List.mem_of_getElem? (i := 223) rfl)) rfl
set_option maxRecDepth 100000 in
theorem wd_1905 : (Jvm.Cond.lays "FlowApplyModel" "FlowApplyModel" "things" "I") ∈ fa_wG := fa_it (tb_8 _ (List.mem_of_getElem? (i := 225) rfl)) rfl
set_option maxRecDepth 100000 in
theorem wd_1907 : (Jvm.Cond.laysFinal "FlowApplyModel" "FlowApplyModel" "typeSort" "[I") ∈ fa_wG := fa_it (tb_8 _ (List.mem_of_getElem? (i := 227) rfl)) rfl
set_option maxRecDepth 100000 in
theorem wd_1909 : (Jvm.Cond.laysFinal "FlowApplyModel" "FlowApplyModel" "typeLeft" "[I") ∈ fa_wG := fa_it (tb_8 _ (List.mem_of_getElem? (i := 229) rfl)) rfl
set_option maxRecDepth 100000 in
theorem wd_1911 : (Jvm.Cond.laysFinal "FlowApplyModel" "FlowApplyModel" "typeRight" "[I") ∈ fa_wG := fa_it (tb_8 _ (List.mem_of_getElem? (i := 231) rfl)) rfl
set_option maxRecDepth 100000 in
theorem wd_1913 : (Jvm.Cond.laysFinal "FlowApplyModel" "FlowApplyModel" "typeUp" "[I") ∈ fa_wG := fa_it (tb_8 _ (List.mem_of_getElem? (i := 233) rfl)) rfl
set_option maxRecDepth 100000 in
theorem wd_1915 : (Jvm.Cond.laysFinal "FlowApplyModel" "FlowApplyModel" "nodeType" "[I") ∈ fa_wG := fa_it (tb_8 _ (List.mem_of_getElem? (i := 235) rfl)) rfl
set_option maxRecDepth 100000 in
theorem wd_1917 : (Jvm.Cond.laysFinal "FlowApplyModel" "FlowApplyModel" "binderType" "[I") ∈ fa_wG := fa_it (tb_8 _ (List.mem_of_getElem? (i := 237) rfl)) rfl
set_option maxRecDepth 100000 in
theorem wd_1919 : (Jvm.Cond.laysFinal "FlowApplyModel" "FlowApplyModel" "wayMark" "[I") ∈ fa_wG := fa_it (tb_8 _ (List.mem_of_getElem? (i := 239) rfl)) rfl
set_option maxRecDepth 100000 in
theorem wd_1921 : (Jvm.Cond.lays "FlowApplyModel" "FlowApplyModel" "types" "I") ∈ fa_wG := fa_it (tb_9 _ (List.mem_of_getElem? (i := 1) rfl)) rfl
set_option maxRecDepth 100000 in
theorem wd_1923 : (Jvm.Cond.lays "FlowApplyModel" "FlowApplyModel" "typesWell" "Z") ∈ fa_wG := fa_it (tb_9 _ (List.mem_of_getElem? (i := 3) rfl)) rfl
set_option maxRecDepth 100000 in
theorem wd_1925 : (Jvm.Cond.laysFinal "FlowApplyModel" "FlowApplyModel" "ownType" "[I") ∈ fa_wG := fa_it (tb_9 _ (List.mem_of_getElem? (i := 5) rfl)) rfl
set_option maxRecDepth 100000 in
theorem wd_1927 : (Jvm.Cond.laysFinal "FlowApplyModel" "FlowApplyModel" "varHas" "[I") ∈ fa_wG := fa_it (tb_9 _ (List.mem_of_getElem? (i := 7) rfl)) rfl
set_option maxRecDepth 100000 in
theorem wd_1929 : (Jvm.Cond.laysFinal "FlowApplyModel" "FlowApplyModel" "comesOf" "[I") ∈ fa_wG := fa_it (tb_9 _ (List.mem_of_getElem? (i := 9) rfl)) rfl
set_option maxRecDepth 100000 in
theorem wd_1931 : (Jvm.Cond.laysFinal "FlowApplyModel" "FlowApplyModel" "siteBy" "[I") ∈ fa_wG := fa_it (tb_9 _ (List.mem_of_getElem? (i := 11) rfl)) rfl
set_option maxRecDepth 100000 in
theorem wd_1933 : (Jvm.Cond.laysFinal "FlowApplyModel" "FlowApplyModel" "siteWith" "[I") ∈ fa_wG := fa_it (tb_9 _ (List.mem_of_getElem? (i := 13) rfl)) rfl
set_option maxRecDepth 100000 in
theorem wd_1935 : (Jvm.Cond.laysFinal "FlowApplyModel" "FlowApplyModel" "siteOf" "[I") ∈ fa_wG := fa_it (tb_9 _ (List.mem_of_getElem? (i := 15) rfl)) rfl
set_option maxRecDepth 100000 in
theorem wd_1937 : (Jvm.Cond.laysFinal "FlowApplyModel" "FlowApplyModel" "isLooked" "[Z") ∈ fa_wG := fa_it (tb_9 _ (List.mem_of_getElem? (i := 17) rfl)) rfl
set_option maxRecDepth 100000 in
theorem wd_1939 : (Jvm.Cond.lays "FlowApplyModel" "FlowApplyModel" "made" "I") ∈ fa_wG := fa_it (tb_9 _ (List.mem_of_getElem? (i := 19) rfl)) rfl
set_option maxRecDepth 100000 in
theorem wd_1941 : (Jvm.Cond.lays "FlowApplyModel" "FlowApplyModel" "called" "I") ∈ fa_wG := fa_it (tb_9 _ (List.mem_of_getElem? (i := 21) rfl)) rfl
set_option maxRecDepth 100000 in
theorem wd_1943 : (Jvm.Cond.lays "FlowApplyModel" "FlowApplyModel" "escapes" "I") ∈ fa_wG := fa_it (tb_9 _ (List.mem_of_getElem? (i := 23) rfl)) rfl
set_option maxRecDepth 100000 in
theorem wd_1945 : (Jvm.Cond.lays "FlowApplyModel" "FlowApplyModel" "found" "I") ∈ fa_wG := fa_it (tb_9 _ (List.mem_of_getElem? (i := 25) rfl)) rfl
set_option maxRecDepth 100000 in
theorem wd_1947 : (Jvm.Cond.laysFinal "FlowApplyModel" "FlowApplyModel" "fields" "[I") ∈ fa_wG := fa_it (tb_9 _ (List.mem_of_getElem? (i := 27) rfl)) rfl
set_option maxRecDepth 100000 in
theorem wd_1949 : (Jvm.Cond.laysFinal "FlowApplyModel" "FlowApplyModel" "fieldMany" "[I") ∈ fa_wG := fa_it (tb_9 _ (List.mem_of_getElem? (i := 29) rfl)) rfl
set_option maxRecDepth 100000 in
theorem wd_1951 : (Jvm.Cond.laysFinal "FlowApplyModel" "FlowApplyModel" "groupOf" "[I") ∈ fa_wG := fa_it (tb_9 _ (List.mem_of_getElem? (i := 31) rfl)) rfl
set_option maxRecDepth 100000 in
theorem wd_1953 : (Jvm.Cond.laysFinal "FlowApplyModel" "FlowApplyModel" "groupMany" "[I") ∈ fa_wG := fa_it (tb_9 _ (List.mem_of_getElem? (i := 33) rfl)) rfl
set_option maxRecDepth 100000 in
theorem wd_1955 : (Jvm.Cond.laysFinal "FlowApplyModel" "FlowApplyModel" "calls" "[I") ∈ fa_wG := fa_it (tb_9 _ (List.mem_of_getElem? (i := 35) rfl)) rfl
set_option maxRecDepth 100000 in
theorem wd_1957 : (Jvm.Cond.laysFinal "FlowApplyModel" "FlowApplyModel" "ways" "[I") ∈ fa_wG := fa_it (tb_9 _ (List.mem_of_getElem? (i := 37) rfl)) rfl
set_option maxRecDepth 100000 in
theorem wd_1959 : (Jvm.Cond.laysFinal "FlowApplyModel" "FlowApplyModel" "ringOf" "[I") ∈ fa_wG := fa_it (tb_9 _ (List.mem_of_getElem? (i := 39) rfl)) rfl
set_option maxRecDepth 100000 in
theorem wd_1961 : (Jvm.Cond.laysFinal "FlowApplyModel" "FlowApplyModel" "ringSet" "[I") ∈ fa_wG := fa_it (tb_9 _ (List.mem_of_getElem? (i := 41) rfl)) rfl
set_option maxRecDepth 100000 in
theorem wd_1963 : (Jvm.Cond.lays "FlowApplyModel" "FlowApplyModel" "rings" "I") ∈ fa_wG := fa_it (tb_9 _ (List.mem_of_getElem? (i := 43) rfl)) rfl
set_option maxRecDepth 100000 in
theorem wd_1965 : (Jvm.Cond.laysFinal "FlowApplyModel" "FlowApplyModel" "code" "[I") ∈ fa_wG := fa_it (tb_9 _ (List.mem_of_getElem? (i := 45) rfl)) rfl
set_option maxRecDepth 100000 in
theorem wd_1967 : (Jvm.Cond.laysFinal "FlowApplyModel" "FlowApplyModel" "codeBy" "[I") ∈ fa_wG := fa_it (tb_9 _ (List.mem_of_getElem? (i := 47) rfl)) rfl
set_option maxRecDepth 100000 in
theorem wd_1969 : (Jvm.Cond.laysFinal "FlowApplyModel" "FlowApplyModel" "entry" "[I") ∈ fa_wG := fa_it (tb_9 _ (List.mem_of_getElem? (i := 49) rfl)) rfl
set_option maxRecDepth 100000 in
theorem wd_1971 : (Jvm.Cond.lays "FlowApplyModel" "FlowApplyModel" "codes" "I") ∈ fa_wG := fa_it (tb_9 _ (List.mem_of_getElem? (i := 51) rfl)) rfl
set_option maxRecDepth 100000 in
theorem wd_1973 : (Jvm.Cond.lays "FlowApplyModel" "FlowApplyModel" "fault" "I") ∈ fa_wG := fa_it (tb_9 _ (List.mem_of_getElem? (i := 53) rfl)) rfl
set_option maxRecDepth 100000 in
theorem wd_1975 : (Jvm.Cond.lays "FlowApplyModel" "FlowApplyModel" "shown" "I") ∈ fa_wG := fa_it (tb_9 _ (List.mem_of_getElem? (i := 55) rfl)) rfl
set_option maxRecDepth 100000 in
theorem wd_1977 : (Jvm.Cond.laysFinal "FlowApplyModel" "FlowApplyModel" "kept" "[B") ∈ fa_wG := fa_it (tb_9 _ (List.mem_of_getElem? (i := 57) rfl)) rfl
set_option maxRecDepth 100000 in
theorem wd_1979 : (Jvm.Cond.lays "FlowApplyModel" "FlowApplyModel" "keptMany" "I") ∈ fa_wG := fa_it (tb_9 _ (List.mem_of_getElem? (i := 59) rfl)) rfl
set_option maxRecDepth 100000 in
theorem wd_1981 : (Jvm.Cond.laysFinal "FlowApplyModel" "FlowApplyModel" "openAs" "[I") ∈ fa_wG := fa_it (tb_9 _ (List.mem_of_getElem? (i := 61) rfl)) rfl
set_option maxRecDepth 100000 in
theorem wd_1983 : (Jvm.Cond.lays "FlowApplyModel" "FlowApplyModel" "opens" "I") ∈ fa_wG := fa_it (tb_9 _ (List.mem_of_getElem? (i := 63) rfl)) rfl
set_option maxRecDepth 100000 in
theorem wd_1985 : (Jvm.Cond.laysFinal "FlowApplyModel" "FlowApplyModel" "value" "[I") ∈ fa_wG := fa_it (tb_9 _ (List.mem_of_getElem? (i := 65) rfl)) rfl
set_option maxRecDepth 100000 in
theorem wd_1987 : (Jvm.Cond.laysFinal "FlowApplyModel" "FlowApplyModel" "valueOf" "[I") ∈ fa_wG := fa_it (tb_9 _ (List.mem_of_getElem? (i := 67) rfl)) rfl
set_option maxRecDepth 100000 in
theorem wd_1989 : (Jvm.Cond.laysFinal "FlowApplyModel" "FlowApplyModel" "valueIn" "[I") ∈ fa_wG := fa_it (tb_9 _ (List.mem_of_getElem? (i := 69) rfl)) rfl
set_option maxRecDepth 100000 in
theorem wd_1991 : (Jvm.Cond.laysFinal "FlowApplyModel" "FlowApplyModel" "held" "[I") ∈ fa_wG := fa_it (tb_9 _ (List.mem_of_getElem? (i := 71) rfl)) rfl
set_option maxRecDepth 100000 in
theorem wd_1993 : (Jvm.Cond.laysFinal "FlowApplyModel" "FlowApplyModel" "heldOf" "[I") ∈ fa_wG := fa_it (tb_9 _ (List.mem_of_getElem? (i := 73) rfl)) rfl
set_option maxRecDepth 100000 in
theorem wd_1995 : (Jvm.Cond.laysFinal "FlowApplyModel" "FlowApplyModel" "heldIn" "[I") ∈ fa_wG := fa_it (tb_9 _ (List.mem_of_getElem? (i := 75) rfl)) rfl
set_option maxRecDepth 100000 in
theorem wd_1997 : (Jvm.Cond.laysFinal "FlowApplyModel" "FlowApplyModel" "frameOf" "[I") ∈ fa_wG := fa_it (tb_9 _ (List.mem_of_getElem? (i := 77) rfl)) rfl
set_option maxRecDepth 100000 in
theorem wd_1999 : (Jvm.Cond.laysFinal "FlowApplyModel" "FlowApplyModel" "frameUp" "[I") ∈ fa_wG := fa_it (tb_9 _ (List.mem_of_getElem? (i := 79) rfl)) rfl
set_option maxRecDepth 100000 in
theorem wd_2001 : (Jvm.Cond.laysFinal "FlowApplyModel" "FlowApplyModel" "stackAt" "[I") ∈ fa_wG := fa_it (tb_9 _ (List.mem_of_getElem? (i := 81) rfl)) rfl
set_option maxRecDepth 100000 in
theorem wd_2003 : (Jvm.Cond.laysFinal "FlowApplyModel" "FlowApplyModel" "stackFrame" "[I") ∈ fa_wG := fa_it (tb_9 _ (List.mem_of_getElem? (i := 83) rfl)) rfl
set_option maxRecDepth 100000 in
theorem wd_2005 : (Jvm.Cond.laysFinal "FlowApplyModel" "FlowApplyModel" "blamed" "[I") ∈ fa_wG := fa_it (tb_9 _ (List.mem_of_getElem? (i := 85) rfl)) rfl
set_option maxRecDepth 100000 in
theorem wd_2007 : (Jvm.Cond.lays "FlowApplyModel" "FlowApplyModel" "tops" "I") ∈ fa_wG := fa_it (tb_9 _ (List.mem_of_getElem? (i := 87) rfl)) rfl
set_option maxRecDepth 100000 in
theorem wd_2009 : (Jvm.Cond.lays "FlowApplyModel" "FlowApplyModel" "frames" "I") ∈ fa_wG := fa_it (tb_9 _ (List.mem_of_getElem? (i := 89) rfl)) rfl
set_option maxRecDepth 100000 in
theorem wd_2011 : (Jvm.Cond.lays "FlowApplyModel" "FlowApplyModel" "deep" "I") ∈ fa_wG := fa_it (tb_9 _ (List.mem_of_getElem? (i := 91) rfl)) rfl
set_option maxRecDepth 100000 in
theorem wd_2013 : (Jvm.Cond.lays "FlowApplyModel" "FlowApplyModel" "steps" "I") ∈ fa_wG := fa_it (tb_9 _ (List.mem_of_getElem? (i := 93) rfl)) rfl
set_option maxRecDepth 100000 in
theorem wd_2015 : (Jvm.Cond.lays "FlowApplyModel" "FlowApplyModel" "most" "I") ∈ fa_wG := fa_it (tb_9 _ (List.mem_of_getElem? (i := 95) rfl)) rfl
set_option maxRecDepth 100000 in
theorem wd_2017 : (Jvm.Cond.lays "FlowApplyModel" "FlowApplyModel" "entered" "I") ∈ fa_wG := fa_it (tb_9 _ (List.mem_of_getElem? (i := 97) rfl)) rfl
set_option maxRecDepth 100000 in
theorem wd_2019 : (Jvm.Cond.lays "FlowApplyModel" "FlowApplyModel" "ends" "I") ∈ fa_wG := fa_it (tb_9 _ (List.mem_of_getElem? (i := 99) rfl)) rfl
set_option maxRecDepth 100000 in
theorem wd_2021 : (Jvm.Cond.lays "FlowApplyModel" "FlowApplyModel" "endWith" "I") ∈ fa_wG := fa_it (tb_9 _ (List.mem_of_getElem? (i := 101) rfl)) rfl
set_option maxRecDepth 100000 in
theorem wd_2024 : (Jvm.Cond.arrayClass Jvm.ClassFile.FieldType.boolean) ∈ fa_wG := fa_it (tb_9 _ (List.mem_of_getElem? (i := 104) rfl)) rfl
set_option maxRecDepth 100000 in
theorem wd_2025 : (Jvm.Cond.methodLink "FlowApplyLaw" (80 : Nat) ({ cls := "FlowApplyModel", name := "read", desc := "()I" } : Jvm.MethodName)) ∈ fa_wG := fa_it (tb_9 _ (List.mem_of_getElem? (i := 105) rfl)) rfl
set_option maxRecDepth 100000 in
theorem wd_2026 : (Jvm.Cond.instanceMethod ({ cls := "FlowApplyModel", name := "read", desc := "()I" } : Jvm.MethodName)) ∈ fa_wG := fa_it (tb_9 _ (List.mem_of_getElem? (i := 106) rfl)) rfl
set_option maxRecDepth 100000 in
theorem wd_2027 : (Jvm.Cond.selects "FlowApplyModel" ({ cls := "FlowApplyModel", name := "read", desc := "()I" } : Jvm.MethodName) ({ cls := "FlowApplyModel", name := "read", desc := "()I" } : Jvm.MethodName)) ∈ fa_wG := fa_it (tb_9 _ (List.mem_of_getElem? (i := 107) rfl)) rfl
set_option maxRecDepth 100000 in
theorem wd_2028 : (Jvm.Cond.code ({ cls := "FlowApplyModel", name := "read", desc := "()I" } : Jvm.MethodName) prog_12_method_71_code (2 : Nat) (Option.some Jvm.ClassFile.FieldType.int)) ∈ fa_wG := fa_it (tb_9 _ (List.mem_of_getElem? (i := 108) rfl)) rfl
set_option maxRecDepth 100000 in
theorem wd_2029 : (Jvm.Cond.methodLink "FlowApplyModel" (485 : Nat) ({ cls := "FlowApplyModel", name := "goesBack", desc := "()V" } : Jvm.MethodName)) ∈ fa_wG := fa_it (tb_9 _ (List.mem_of_getElem? (i := 109) rfl)) rfl
set_option maxRecDepth 100000 in
theorem wd_2031 : (Jvm.Cond.instanceMethod ({ cls := "FlowApplyModel", name := "goesBack", desc := "()V" } : Jvm.MethodName)) ∈ fa_wG := fa_it (tb_9 _ (List.mem_of_getElem? (i := 111) rfl)) rfl
set_option maxRecDepth 100000 in
theorem wd_2032 : (Jvm.Cond.code ({ cls := "FlowApplyModel", name := "goesBack", desc := "()V" } : Jvm.MethodName) prog_12_method_70_code (2 : Nat) (Option.none : Option Jvm.ClassFile.FieldType)) ∈ fa_wG := fa_it (tb_9 _ (List.mem_of_getElem? (i := 112) rfl)) rfl
set_option maxRecDepth 100000 in
theorem wd_2033 : (Jvm.Cond.methodLink "FlowApplyLaw" (87 : Nat) ({ cls := "FlowApplyModel", name := "fault", desc := "()I" } : Jvm.MethodName)) ∈ fa_wG := fa_it (tb_9 _ (List.mem_of_getElem? (i := 113) rfl)) rfl
set_option maxRecDepth 100000 in
theorem wd_2034 : (Jvm.Cond.instanceMethod ({ cls := "FlowApplyModel", name := "fault", desc := "()I" } : Jvm.MethodName)) ∈ fa_wG := fa_it (tb_9 _ (List.mem_of_getElem? (i := 114) rfl)) rfl
set_option maxRecDepth 100000 in
theorem wd_2035 : (Jvm.Cond.selects "FlowApplyModel" ({ cls := "FlowApplyModel", name := "fault", desc := "()I" } : Jvm.MethodName) ({ cls := "FlowApplyModel", name := "fault", desc := "()I" } : Jvm.MethodName)) ∈ fa_wG := fa_it (tb_9 _ (List.mem_of_getElem? (i := 115) rfl)) rfl
set_option maxRecDepth 100000 in
theorem wd_2036 : (Jvm.Cond.code ({ cls := "FlowApplyModel", name := "fault", desc := "()I" } : Jvm.MethodName) prog_12_method_72_code (1 : Nat) (Option.some Jvm.ClassFile.FieldType.int)) ∈ fa_wG := fa_it (tb_9 _ (List.mem_of_getElem? (i := 116) rfl)) rfl
set_option maxRecDepth 100000 in
theorem wd_2037 : (Jvm.Cond.methodLink "FlowApplyLaw" (136 : Nat) ({ cls := "FlowApplyModel", name := "take", desc := "()I" } : Jvm.MethodName)) ∈ fa_wG := fa_it (tb_9 _ (List.mem_of_getElem? (i := 117) rfl)) rfl
set_option maxRecDepth 100000 in
theorem wd_2038 : (Jvm.Cond.instanceMethod ({ cls := "FlowApplyModel", name := "take", desc := "()I" } : Jvm.MethodName)) ∈ fa_wG := fa_it (tb_9 _ (List.mem_of_getElem? (i := 118) rfl)) rfl
set_option maxRecDepth 100000 in
theorem wd_2039 : (Jvm.Cond.selects "FlowApplyModel" ({ cls := "FlowApplyModel", name := "take", desc := "()I" } : Jvm.MethodName) ({ cls := "FlowApplyModel", name := "take", desc := "()I" } : Jvm.MethodName)) ∈ fa_wG := fa_it (tb_9 _ (List.mem_of_getElem? (i := 119) rfl)) rfl
set_option maxRecDepth 100000 in
theorem wd_2040 : (Jvm.Cond.code ({ cls := "FlowApplyModel", name := "take", desc := "()I" } : Jvm.MethodName) prog_12_method_73_code (2 : Nat) (Option.some Jvm.ClassFile.FieldType.int)) ∈ fa_wG := fa_it (tb_9 _ (List.mem_of_getElem? (i := 120) rfl)) rfl
set_option maxRecDepth 100000 in
theorem wd_2041 : (Jvm.Cond.methodLink "FlowApplyModel" (488 : Nat) ({ cls := "FlowApplyModel", name := "writesBack", desc := "()V" } : Jvm.MethodName)) ∈ fa_wG := fa_it (tb_9 _ (List.mem_of_getElem? (i := 121) rfl)) rfl
set_option maxRecDepth 100000 in
theorem wd_2043 : (Jvm.Cond.instanceMethod ({ cls := "FlowApplyModel", name := "writesBack", desc := "()V" } : Jvm.MethodName)) ∈ fa_wG := fa_it (tb_9 _ (List.mem_of_getElem? (i := 123) rfl)) rfl
set_option maxRecDepth 100000 in
theorem wd_2044 : (Jvm.Cond.code ({ cls := "FlowApplyModel", name := "writesBack", desc := "()V" } : Jvm.MethodName) prog_12_method_84_code (1 : Nat) (Option.none : Option Jvm.ClassFile.FieldType)) ∈ fa_wG := fa_it (tb_9 _ (List.mem_of_getElem? (i := 124) rfl)) rfl
set_option maxRecDepth 100000 in
theorem wd_2045 : (Jvm.Cond.methodLink "FlowApplyModel" (519 : Nat) ({ cls := "FlowApplyModel", name := "writesProgram", desc := "(I)V" } : Jvm.MethodName)) ∈ fa_wG := fa_it (tb_9 _ (List.mem_of_getElem? (i := 125) rfl)) rfl
set_option maxRecDepth 100000 in
theorem wd_2047 : (Jvm.Cond.instanceMethod ({ cls := "FlowApplyModel", name := "writesProgram", desc := "(I)V" } : Jvm.MethodName)) ∈ fa_wG := fa_it (tb_9 _ (List.mem_of_getElem? (i := 127) rfl)) rfl
set_option maxRecDepth 100000 in
theorem wd_2048 : (Jvm.Cond.code ({ cls := "FlowApplyModel", name := "writesProgram", desc := "(I)V" } : Jvm.MethodName) prog_12_method_83_code (3 : Nat) (Option.none : Option Jvm.ClassFile.FieldType)) ∈ fa_wG := fa_it (tb_9 _ (List.mem_of_getElem? (i := 128) rfl)) rfl
set_option maxRecDepth 100000 in
theorem wd_2049 : (Jvm.Cond.methodLink "FlowApplyModel" (491 : Nat) ({ cls := "FlowApplyModel", name := "saysWord", desc := "(I)V" } : Jvm.MethodName)) ∈ fa_wG := fa_it (tb_9 _ (List.mem_of_getElem? (i := 129) rfl)) rfl
set_option maxRecDepth 100000 in
theorem wd_2051 : (Jvm.Cond.instanceMethod ({ cls := "FlowApplyModel", name := "saysWord", desc := "(I)V" } : Jvm.MethodName)) ∈ fa_wG := fa_it (tb_9 _ (List.mem_of_getElem? (i := 131) rfl)) rfl
set_option maxRecDepth 100000 in
theorem wd_2052 : (Jvm.Cond.code ({ cls := "FlowApplyModel", name := "saysWord", desc := "(I)V" } : Jvm.MethodName) prog_12_method_75_code (2 : Nat) (Option.none : Option Jvm.ClassFile.FieldType)) ∈ fa_wG := fa_it (tb_9 _ (List.mem_of_getElem? (i := 132) rfl)) rfl
set_option maxRecDepth 100000 in
theorem wd_2053 : (Jvm.Cond.methodLink "FlowApplyModel" (494 : Nat) ({ cls := "FlowApplyModel", name := "says", desc := "(I)V" } : Jvm.MethodName)) ∈ fa_wG := fa_it (tb_9 _ (List.mem_of_getElem? (i := 133) rfl)) rfl
set_option maxRecDepth 100000 in
theorem wd_2055 : (Jvm.Cond.instanceMethod ({ cls := "FlowApplyModel", name := "says", desc := "(I)V" } : Jvm.MethodName)) ∈ fa_wG := fa_it (tb_9 _ (List.mem_of_getElem? (i := 135) rfl)) rfl
set_option maxRecDepth 100000 in
theorem wd_2056 : (Jvm.Cond.code ({ cls := "FlowApplyModel", name := "says", desc := "(I)V" } : Jvm.MethodName) prog_12_method_74_code (2 : Nat) (Option.none : Option Jvm.ClassFile.FieldType)) ∈ fa_wG := fa_it (tb_9 _ (List.mem_of_getElem? (i := 136) rfl)) rfl
set_option maxRecDepth 100000 in
theorem wd_2057 : (Jvm.Cond.methodLink "FlowApplyModel" (516 : Nat) ({ cls := "FlowApplyModel", name := "writesBody", desc := "(II)V" } : Jvm.MethodName)) ∈ fa_wG := fa_it (tb_9 _ (List.mem_of_getElem? (i := 137) rfl)) rfl
set_option maxRecDepth 100000 in
theorem wd_2059 : (Jvm.Cond.instanceMethod ({ cls := "FlowApplyModel", name := "writesBody", desc := "(II)V" } : Jvm.MethodName)) ∈ fa_wG := fa_it (tb_9 _ (List.mem_of_getElem? (i := 139) rfl)) rfl
set_option maxRecDepth 100000 in
theorem wd_2060 : (Jvm.Cond.code ({ cls := "FlowApplyModel", name := "writesBody", desc := "(II)V" } : Jvm.MethodName) prog_12_method_79_code (3 : Nat) (Option.none : Option Jvm.ClassFile.FieldType)) ∈ fa_wG := fa_it (tb_9 _ (List.mem_of_getElem? (i := 140) rfl)) rfl
set_option maxRecDepth 100000 in
theorem wd_2061 : (Jvm.Cond.methodLink "FlowApplyModel" (506 : Nat) ({ cls := "FlowApplyModel", name := "writes", desc := "(II)V" } : Jvm.MethodName)) ∈ fa_wG := fa_it (tb_9 _ (List.mem_of_getElem? (i := 141) rfl)) rfl
set_option maxRecDepth 100000 in
theorem wd_2063 : (Jvm.Cond.instanceMethod ({ cls := "FlowApplyModel", name := "writes", desc := "(II)V" } : Jvm.MethodName)) ∈ fa_wG := fa_it (tb_9 _ (List.mem_of_getElem? (i := 143) rfl)) rfl
set_option maxRecDepth 100000 in
theorem wd_2064 : (Jvm.Cond.code ({ cls := "FlowApplyModel", name := "writes", desc := "(II)V" } : Jvm.MethodName) prog_12_method_77_code (3 : Nat) (Option.none : Option Jvm.ClassFile.FieldType)) ∈ fa_wG := fa_it (tb_9 _ (List.mem_of_getElem? (i := 144) rfl)) rfl
set_option maxRecDepth 100000 in
theorem wd_2065 : (Jvm.Cond.methodLink "FlowApplyModel" (497 : Nat) ({ cls := "FlowApplyModel", name := "saysNumber", desc := "(I)V" } : Jvm.MethodName)) ∈ fa_wG := fa_it (tb_9 _ (List.mem_of_getElem? (i := 145) rfl)) rfl
set_option maxRecDepth 100000 in
theorem wd_2067 : (Jvm.Cond.instanceMethod ({ cls := "FlowApplyModel", name := "saysNumber", desc := "(I)V" } : Jvm.MethodName)) ∈ fa_wG := fa_it (tb_9 _ (List.mem_of_getElem? (i := 147) rfl)) rfl
set_option maxRecDepth 100000 in
theorem wd_2068 : (Jvm.Cond.code ({ cls := "FlowApplyModel", name := "saysNumber", desc := "(I)V" } : Jvm.MethodName) prog_12_method_76_code (2 : Nat) (Option.none : Option Jvm.ClassFile.FieldType)) ∈ fa_wG := fa_it (tb_9 _ (List.mem_of_getElem? (i := 148) rfl)) rfl
set_option maxRecDepth 100000 in
theorem wd_2069 : (Jvm.Cond.methodLink "FlowApplyModel" (500 : Nat) ({ cls := "FlowApplyModel", name := "writesData", desc := "(I)V" } : Jvm.MethodName)) ∈ fa_wG := fa_it (tb_9 _ (List.mem_of_getElem? (i := 149) rfl)) rfl
set_option maxRecDepth 100000 in
theorem wd_2071 : (Jvm.Cond.instanceMethod ({ cls := "FlowApplyModel", name := "writesData", desc := "(I)V" } : Jvm.MethodName)) ∈ fa_wG := fa_it (tb_9 _ (List.mem_of_getElem? (i := 151) rfl)) rfl
set_option maxRecDepth 100000 in
theorem wd_2072 : (Jvm.Cond.code ({ cls := "FlowApplyModel", name := "writesData", desc := "(I)V" } : Jvm.MethodName) prog_12_method_81_code (3 : Nat) (Option.none : Option Jvm.ClassFile.FieldType)) ∈ fa_wG := fa_it (tb_9 _ (List.mem_of_getElem? (i := 152) rfl)) rfl
set_option maxRecDepth 100000 in
theorem wd_2073 : (Jvm.Cond.methodLink "FlowApplyModel" (503 : Nat) ({ cls := "FlowApplyModel", name := "writesLambda", desc := "(II)V" } : Jvm.MethodName)) ∈ fa_wG := fa_it (tb_9 _ (List.mem_of_getElem? (i := 153) rfl)) rfl
set_option maxRecDepth 100000 in
theorem wd_2075 : (Jvm.Cond.instanceMethod ({ cls := "FlowApplyModel", name := "writesLambda", desc := "(II)V" } : Jvm.MethodName)) ∈ fa_wG := fa_it (tb_9 _ (List.mem_of_getElem? (i := 155) rfl)) rfl
set_option maxRecDepth 100000 in
theorem wd_2076 : (Jvm.Cond.code ({ cls := "FlowApplyModel", name := "writesLambda", desc := "(II)V" } : Jvm.MethodName) prog_12_method_80_code (3 : Nat) (Option.none : Option Jvm.ClassFile.FieldType)) ∈ fa_wG := fa_it (tb_9 _ (List.mem_of_getElem? (i := 156) rfl)) rfl
set_option maxRecDepth 100000 in
theorem wd_2077 : (Jvm.Cond.methodLink "FlowApplyModel" (509 : Nat) ({ cls := "FlowApplyModel", name := "writesTwo", desc := "(III)V" } : Jvm.MethodName)) ∈ fa_wG := fa_it (tb_9 _ (List.mem_of_getElem? (i := 157) rfl)) rfl
set_option maxRecDepth 100000 in
theorem wd_2079 : (Jvm.Cond.instanceMethod ({ cls := "FlowApplyModel", name := "writesTwo", desc := "(III)V" } : Jvm.MethodName)) ∈ fa_wG := fa_it (tb_9 _ (List.mem_of_getElem? (i := 159) rfl)) rfl
set_option maxRecDepth 100000 in
theorem wd_2080 : (Jvm.Cond.code ({ cls := "FlowApplyModel", name := "writesTwo", desc := "(III)V" } : Jvm.MethodName) prog_12_method_78_code (4 : Nat) (Option.none : Option Jvm.ClassFile.FieldType)) ∈ fa_wG := fa_it (tb_9 _ (List.mem_of_getElem? (i := 160) rfl)) rfl
set_option maxRecDepth 100000 in
theorem wd_2081 : (Jvm.Cond.methodLink "FlowApplyModel" (513 : Nat) ({ cls := "FlowApplyModel", name := "writesApply", desc := "(II)V" } : Jvm.MethodName)) ∈ fa_wG := fa_it (tb_9 _ (List.mem_of_getElem? (i := 161) rfl)) rfl
set_option maxRecDepth 100000 in
theorem wd_2083 : (Jvm.Cond.instanceMethod ({ cls := "FlowApplyModel", name := "writesApply", desc := "(II)V" } : Jvm.MethodName)) ∈ fa_wG := fa_it (tb_9 _ (List.mem_of_getElem? (i := 163) rfl)) rfl
set_option maxRecDepth 100000 in
theorem wd_2084 : (Jvm.Cond.code ({ cls := "FlowApplyModel", name := "writesApply", desc := "(II)V" } : Jvm.MethodName) prog_12_method_82_code (6 : Nat) (Option.none : Option Jvm.ClassFile.FieldType)) ∈ fa_wG := fa_it (tb_9 _ (List.mem_of_getElem? (i := 164) rfl)) rfl
set_option maxRecDepth 100000 in
theorem wd_2085 : (Jvm.Cond.methodLink "FlowApplyLaw" (98 : Nat) ({ cls := "FlowApplyModel", name := "type", desc := "(I)I" } : Jvm.MethodName)) ∈ fa_wG := fa_it (tb_9 _ (List.mem_of_getElem? (i := 165) rfl)) rfl
set_option maxRecDepth 100000 in
theorem wd_2086 : (Jvm.Cond.instanceMethod ({ cls := "FlowApplyModel", name := "type", desc := "(I)I" } : Jvm.MethodName)) ∈ fa_wG := fa_it (tb_9 _ (List.mem_of_getElem? (i := 166) rfl)) rfl
set_option maxRecDepth 100000 in
theorem wd_2087 : (Jvm.Cond.selects "FlowApplyModel" ({ cls := "FlowApplyModel", name := "type", desc := "(I)I" } : Jvm.MethodName) ({ cls := "FlowApplyModel", name := "type", desc := "(I)I" } : Jvm.MethodName)) ∈ fa_wG := fa_it (tb_9 _ (List.mem_of_getElem? (i := 167) rfl)) rfl
set_option maxRecDepth 100000 in
theorem wd_2088 : (Jvm.Cond.code ({ cls := "FlowApplyModel", name := "type", desc := "(I)I" } : Jvm.MethodName) prog_12_method_89_code (2 : Nat) (Option.some Jvm.ClassFile.FieldType.int)) ∈ fa_wG := fa_it (tb_9 _ (List.mem_of_getElem? (i := 168) rfl)) rfl
set_option maxRecDepth 100000 in
theorem wd_2089 : (Jvm.Cond.methodLink "FlowApplyModel" (537 : Nat) ({ cls := "FlowApplyModel", name := "noFunction", desc := "(I)Z" } : Jvm.MethodName)) ∈ fa_wG := fa_it (tb_9 _ (List.mem_of_getElem? (i := 169) rfl)) rfl
set_option maxRecDepth 100000 in
theorem wd_2091 : (Jvm.Cond.instanceMethod ({ cls := "FlowApplyModel", name := "noFunction", desc := "(I)Z" } : Jvm.MethodName)) ∈ fa_wG := fa_it (tb_9 _ (List.mem_of_getElem? (i := 171) rfl)) rfl
set_option maxRecDepth 100000 in
theorem wd_2092 : (Jvm.Cond.code ({ cls := "FlowApplyModel", name := "noFunction", desc := "(I)Z" } : Jvm.MethodName) prog_12_method_88_code (2 : Nat) (Option.some Jvm.ClassFile.FieldType.boolean)) ∈ fa_wG := fa_it (tb_9 _ (List.mem_of_getElem? (i := 172) rfl)) rfl
set_option maxRecDepth 100000 in
theorem wd_2093 : (Jvm.Cond.methodLink "FlowApplyModel" (530 : Nat) ({ cls := "FlowApplyModel", name := "in", desc := "(III)Z" } : Jvm.MethodName)) ∈ fa_wG := fa_it (tb_9 _ (List.mem_of_getElem? (i := 173) rfl)) rfl
set_option maxRecDepth 100000 in
theorem wd_2094 : (Jvm.Cond.static ({ cls := "FlowApplyModel", name := "in", desc := "(III)Z" } : Jvm.MethodName)) ∈ fa_wG := fa_it (tb_9 _ (List.mem_of_getElem? (i := 174) rfl)) rfl
set_option maxRecDepth 100000 in
theorem wd_2095 : (Jvm.Cond.code ({ cls := "FlowApplyModel", name := "in", desc := "(III)Z" } : Jvm.MethodName) prog_12_method_3_code (3 : Nat) (Option.some Jvm.ClassFile.FieldType.boolean)) ∈ fa_wG := fa_it (tb_9 _ (List.mem_of_getElem? (i := 175) rfl)) rfl
set_option maxRecDepth 100000 in
theorem wd_2096 : (Jvm.Cond.methodLink "FlowApplyModel" (533 : Nat) ({ cls := "FlowApplyModel", name := "throwsIf", desc := "(ZI)Z" } : Jvm.MethodName)) ∈ fa_wG := fa_it (tb_9 _ (List.mem_of_getElem? (i := 176) rfl)) rfl
set_option maxRecDepth 100000 in
theorem wd_2098 : (Jvm.Cond.instanceMethod ({ cls := "FlowApplyModel", name := "throwsIf", desc := "(ZI)Z" } : Jvm.MethodName)) ∈ fa_wG := fa_it (tb_9 _ (List.mem_of_getElem? (i := 178) rfl)) rfl
set_option maxRecDepth 100000 in
theorem wd_2099 : (Jvm.Cond.code ({ cls := "FlowApplyModel", name := "throwsIf", desc := "(ZI)Z" } : Jvm.MethodName) prog_12_method_2_code (3 : Nat) (Option.some Jvm.ClassFile.FieldType.boolean)) ∈ fa_wG := fa_it (tb_9 _ (List.mem_of_getElem? (i := 179) rfl)) rfl
set_option maxRecDepth 100000 in
theorem wd_2100 : (Jvm.Cond.methodLink "FlowApplyModel" (540 : Nat) ({ cls := "FlowApplyModel", name := "showsType", desc := "(I)I" } : Jvm.MethodName)) ∈ fa_wG := fa_it (tb_9 _ (List.mem_of_getElem? (i := 180) rfl)) rfl
set_option maxRecDepth 100000 in
theorem wd_2102 : (Jvm.Cond.instanceMethod ({ cls := "FlowApplyModel", name := "showsType", desc := "(I)I" } : Jvm.MethodName)) ∈ fa_wG := fa_it (tb_9 _ (List.mem_of_getElem? (i := 182) rfl)) rfl
set_option maxRecDepth 100000 in
theorem wd_2103 : (Jvm.Cond.code ({ cls := "FlowApplyModel", name := "showsType", desc := "(I)I" } : Jvm.MethodName) prog_12_method_87_code (2 : Nat) (Option.some Jvm.ClassFile.FieldType.int)) ∈ fa_wG := fa_it (tb_9 _ (List.mem_of_getElem? (i := 183) rfl)) rfl
set_option maxRecDepth 100000 in
theorem wd_2104 : (Jvm.Cond.methodLink "FlowApplyModel" (525 : Nat) ({ cls := "FlowApplyModel", name := "writesType", desc := "(I)V" } : Jvm.MethodName)) ∈ fa_wG := fa_it (tb_9 _ (List.mem_of_getElem? (i := 184) rfl)) rfl
set_option maxRecDepth 100000 in
theorem wd_2106 : (Jvm.Cond.instanceMethod ({ cls := "FlowApplyModel", name := "writesType", desc := "(I)V" } : Jvm.MethodName)) ∈ fa_wG := fa_it (tb_9 _ (List.mem_of_getElem? (i := 186) rfl)) rfl
set_option maxRecDepth 100000 in
theorem wd_2107 : (Jvm.Cond.code ({ cls := "FlowApplyModel", name := "writesType", desc := "(I)V" } : Jvm.MethodName) prog_12_method_86_code (4 : Nat) (Option.none : Option Jvm.ClassFile.FieldType)) ∈ fa_wG := fa_it (tb_9 _ (List.mem_of_getElem? (i := 187) rfl)) rfl
set_option maxRecDepth 100000 in
theorem wd_2108 : (Jvm.Cond.methodLink "FlowApplyLaw" (102 : Nat) ({ cls := "FlowApplyModel", name := "typeOfMain", desc := "()I" } : Jvm.MethodName)) ∈ fa_wG := fa_it (tb_9 _ (List.mem_of_getElem? (i := 188) rfl)) rfl
set_option maxRecDepth 100000 in
theorem wd_2109 : (Jvm.Cond.instanceMethod ({ cls := "FlowApplyModel", name := "typeOfMain", desc := "()I" } : Jvm.MethodName)) ∈ fa_wG := fa_it (tb_9 _ (List.mem_of_getElem? (i := 189) rfl)) rfl
set_option maxRecDepth 100000 in
theorem wd_2110 : (Jvm.Cond.selects "FlowApplyModel" ({ cls := "FlowApplyModel", name := "typeOfMain", desc := "()I" } : Jvm.MethodName) ({ cls := "FlowApplyModel", name := "typeOfMain", desc := "()I" } : Jvm.MethodName)) ∈ fa_wG := fa_it (tb_9 _ (List.mem_of_getElem? (i := 190) rfl)) rfl
set_option maxRecDepth 100000 in
theorem wd_2111 : (Jvm.Cond.code ({ cls := "FlowApplyModel", name := "typeOfMain", desc := "()I" } : Jvm.MethodName) prog_12_method_90_code (1 : Nat) (Option.some Jvm.ClassFile.FieldType.int)) ∈ fa_wG := fa_it (tb_9 _ (List.mem_of_getElem? (i := 191) rfl)) rfl
set_option maxRecDepth 100000 in
theorem wd_2112 : (Jvm.Cond.methodLink "FlowApplyLaw" (105 : Nat) ({ cls := "FlowApplyModel", name := "alike", desc := "(II)Z" } : Jvm.MethodName)) ∈ fa_wG := fa_it (tb_9 _ (List.mem_of_getElem? (i := 192) rfl)) rfl
set_option maxRecDepth 100000 in
theorem wd_2113 : (Jvm.Cond.instanceMethod ({ cls := "FlowApplyModel", name := "alike", desc := "(II)Z" } : Jvm.MethodName)) ∈ fa_wG := fa_it (tb_9 _ (List.mem_of_getElem? (i := 193) rfl)) rfl
set_option maxRecDepth 100000 in
theorem wd_2114 : (Jvm.Cond.selects "FlowApplyModel" ({ cls := "FlowApplyModel", name := "alike", desc := "(II)Z" } : Jvm.MethodName) ({ cls := "FlowApplyModel", name := "alike", desc := "(II)Z" } : Jvm.MethodName)) ∈ fa_wG := fa_it (tb_9 _ (List.mem_of_getElem? (i := 194) rfl)) rfl
set_option maxRecDepth 100000 in
theorem wd_2115 : (Jvm.Cond.code ({ cls := "FlowApplyModel", name := "alike", desc := "(II)Z" } : Jvm.MethodName) prog_12_method_91_code (3 : Nat) (Option.some Jvm.ClassFile.FieldType.boolean)) ∈ fa_wG := fa_it (tb_9 _ (List.mem_of_getElem? (i := 195) rfl)) rfl
set_option maxRecDepth 100000 in
theorem wd_2116 : (Jvm.Cond.methodLink "FlowApplyLaw" (94 : Nat) ({ cls := "FlowApplyModel", name := "field", desc := "(II)I" } : Jvm.MethodName)) ∈ fa_wG := fa_it (tb_9 _ (List.mem_of_getElem? (i := 196) rfl)) rfl
set_option maxRecDepth 100000 in
theorem wd_2117 : (Jvm.Cond.instanceMethod ({ cls := "FlowApplyModel", name := "field", desc := "(II)I" } : Jvm.MethodName)) ∈ fa_wG := fa_it (tb_9 _ (List.mem_of_getElem? (i := 197) rfl)) rfl
set_option maxRecDepth 100000 in
theorem wd_2118 : (Jvm.Cond.selects "FlowApplyModel" ({ cls := "FlowApplyModel", name := "field", desc := "(II)I" } : Jvm.MethodName) ({ cls := "FlowApplyModel", name := "field", desc := "(II)I" } : Jvm.MethodName)) ∈ fa_wG := fa_it (tb_9 _ (List.mem_of_getElem? (i := 198) rfl)) rfl
set_option maxRecDepth 100000 in
theorem wd_2119 : (Jvm.Cond.code ({ cls := "FlowApplyModel", name := "field", desc := "(II)I" } : Jvm.MethodName) prog_12_method_92_code (3 : Nat) (Option.some Jvm.ClassFile.FieldType.int)) ∈ fa_wG := fa_it (tb_9 _ (List.mem_of_getElem? (i := 199) rfl)) rfl
set_option maxRecDepth 100000 in
theorem wd_2120 : (Jvm.Cond.methodLink "FlowApplyLaw" (124 : Nat) ({ cls := "FlowApplyModel", name := "form", desc := "(I)I" } : Jvm.MethodName)) ∈ fa_wG := fa_it (tb_9 _ (List.mem_of_getElem? (i := 200) rfl)) rfl
set_option maxRecDepth 100000 in
theorem wd_2121 : (Jvm.Cond.instanceMethod ({ cls := "FlowApplyModel", name := "form", desc := "(I)I" } : Jvm.MethodName)) ∈ fa_wG := fa_it (tb_9 _ (List.mem_of_getElem? (i := 201) rfl)) rfl
set_option maxRecDepth 100000 in
theorem wd_2122 : (Jvm.Cond.selects "FlowApplyModel" ({ cls := "FlowApplyModel", name := "form", desc := "(I)I" } : Jvm.MethodName) ({ cls := "FlowApplyModel", name := "form", desc := "(I)I" } : Jvm.MethodName)) ∈ fa_wG := fa_it (tb_9 _ (List.mem_of_getElem? (i := 202) rfl)) rfl
set_option maxRecDepth 100000 in
theorem wd_2123 : (Jvm.Cond.code ({ cls := "FlowApplyModel", name := "form", desc := "(I)I" } : Jvm.MethodName) prog_12_method_94_code (2 : Nat) (Option.some Jvm.ClassFile.FieldType.int)) ∈ fa_wG := fa_it (tb_9 _ (List.mem_of_getElem? (i := 203) rfl)) rfl
set_option maxRecDepth 100000 in
theorem wd_2124 : (Jvm.Cond.methodLink "FlowApplyModel" (543 : Nat) ({ cls := "FlowApplyModel", name := "noSplit", desc := "(II)Z" } : Jvm.MethodName)) ∈ fa_wG := fa_it (tb_9 _ (List.mem_of_getElem? (i := 204) rfl)) rfl
set_option maxRecDepth 100000 in
theorem wd_2126 : (Jvm.Cond.instanceMethod ({ cls := "FlowApplyModel", name := "noSplit", desc := "(II)Z" } : Jvm.MethodName)) ∈ fa_wG := fa_it (tb_9 _ (List.mem_of_getElem? (i := 206) rfl)) rfl
set_option maxRecDepth 100000 in
theorem wd_2127 : (Jvm.Cond.code ({ cls := "FlowApplyModel", name := "noSplit", desc := "(II)Z" } : Jvm.MethodName) prog_12_method_93_code (3 : Nat) (Option.some Jvm.ClassFile.FieldType.boolean)) ∈ fa_wG := fa_it (tb_9 _ (List.mem_of_getElem? (i := 207) rfl)) rfl
set_option maxRecDepth 100000 in
theorem wd_2128 : (Jvm.Cond.methodLink "FlowApplyModel" (546 : Nat) ({ cls := "FlowApplyModel", name := "writesForm", desc := "(I)V" } : Jvm.MethodName)) ∈ fa_wG := fa_it (tb_9 _ (List.mem_of_getElem? (i := 208) rfl)) rfl
set_option maxRecDepth 100000 in
theorem wd_2130 : (Jvm.Cond.instanceMethod ({ cls := "FlowApplyModel", name := "writesForm", desc := "(I)V" } : Jvm.MethodName)) ∈ fa_wG := fa_it (tb_9 _ (List.mem_of_getElem? (i := 210) rfl)) rfl
set_option maxRecDepth 100000 in
theorem wd_2131 : (Jvm.Cond.code ({ cls := "FlowApplyModel", name := "writesForm", desc := "(I)V" } : Jvm.MethodName) prog_12_method_85_code (6 : Nat) (Option.none : Option Jvm.ClassFile.FieldType)) ∈ fa_wG := fa_it (tb_9 _ (List.mem_of_getElem? (i := 211) rfl)) rfl
set_option maxRecDepth 100000 in
theorem wd_2132 : (Jvm.Cond.methodLink "FlowApplyModel" (522 : Nat) ({ cls := "FlowApplyModel", name := "groupSet", desc := "(II)I" } : Jvm.MethodName)) ∈ fa_wG := fa_it (tb_9 _ (List.mem_of_getElem? (i := 212) rfl)) rfl
set_option maxRecDepth 100000 in
theorem wd_2134 : (Jvm.Cond.instanceMethod ({ cls := "FlowApplyModel", name := "groupSet", desc := "(II)I" } : Jvm.MethodName)) ∈ fa_wG := fa_it (tb_9 _ (List.mem_of_getElem? (i := 214) rfl)) rfl
set_option maxRecDepth 100000 in
theorem wd_2135 : (Jvm.Cond.code ({ cls := "FlowApplyModel", name := "groupSet", desc := "(II)I" } : Jvm.MethodName) prog_12_method_61_code (5 : Nat) (Option.some Jvm.ClassFile.FieldType.int)) ∈ fa_wG := fa_it (tb_9 _ (List.mem_of_getElem? (i := 215) rfl)) rfl
set_option maxRecDepth 100000 in
theorem wd_2136 : (Jvm.Cond.methodLink "FlowApplyLaw" (128 : Nat) ({ cls := "FlowApplyModel", name := "back", desc := "()I" } : Jvm.MethodName)) ∈ fa_wG := fa_it (tb_9 _ (List.mem_of_getElem? (i := 216) rfl)) rfl
set_option maxRecDepth 100000 in
theorem wd_2137 : (Jvm.Cond.instanceMethod ({ cls := "FlowApplyModel", name := "back", desc := "()I" } : Jvm.MethodName)) ∈ fa_wG := fa_it (tb_9 _ (List.mem_of_getElem? (i := 217) rfl)) rfl
set_option maxRecDepth 100000 in
theorem wd_2138 : (Jvm.Cond.selects "FlowApplyModel" ({ cls := "FlowApplyModel", name := "back", desc := "()I" } : Jvm.MethodName) ({ cls := "FlowApplyModel", name := "back", desc := "()I" } : Jvm.MethodName)) ∈ fa_wG := fa_it (tb_9 _ (List.mem_of_getElem? (i := 218) rfl)) rfl
set_option maxRecDepth 100000 in
theorem wd_2139 : (Jvm.Cond.code ({ cls := "FlowApplyModel", name := "back", desc := "()I" } : Jvm.MethodName) prog_12_method_95_code (1 : Nat) (Option.some Jvm.ClassFile.FieldType.int)) ∈ fa_wG := fa_it (tb_9 _ (List.mem_of_getElem? (i := 219) rfl)) rfl
set_option maxRecDepth 100000 in
theorem wd_2140 : (Jvm.Cond.methodLink "FlowApplyLaw" (132 : Nat) ({ cls := "FlowApplyModel", name := "show", desc := "()I" } : Jvm.MethodName)) ∈ fa_wG := fa_it (tb_9 _ (List.mem_of_getElem? (i := 220) rfl)) rfl
set_option maxRecDepth 100000 in
theorem wd_2141 : (Jvm.Cond.instanceMethod ({ cls := "FlowApplyModel", name := "show", desc := "()I" } : Jvm.MethodName)) ∈ fa_wG := fa_it (tb_9 _ (List.mem_of_getElem? (i := 221) rfl)) rfl
set_option maxRecDepth 100000 in
theorem wd_2142 : (Jvm.Cond.selects "FlowApplyModel" ({ cls := "FlowApplyModel", name := "show", desc := "()I" } : Jvm.MethodName) ({ cls := "FlowApplyModel", name := "show", desc := "()I" } : Jvm.MethodName)) ∈ fa_wG := fa_it (tb_9 _ (List.mem_of_getElem? (i := 222) rfl)) rfl
set_option maxRecDepth 100000 in
theorem wd_2143 : (Jvm.Cond.code ({ cls := "FlowApplyModel", name := "show", desc := "()I" } : Jvm.MethodName) prog_12_method_96_code (1 : Nat) (Option.some Jvm.ClassFile.FieldType.int)) ∈ fa_wG := fa_it (tb_9 _ (List.mem_of_getElem? (i := 223) rfl)) rfl
set_option maxRecDepth 100000 in
theorem wd_2144 : (Jvm.Cond.methodLink "FlowApplyLaw" (146 : Nat) ({ cls := "FlowApplyModel", name := "octet", desc := "(I)I" } : Jvm.MethodName)) ∈ fa_wG := fa_it (tb_9 _ (List.mem_of_getElem? (i := 224) rfl)) rfl
set_option maxRecDepth 100000 in
theorem wd_2145 : (Jvm.Cond.instanceMethod ({ cls := "FlowApplyModel", name := "octet", desc := "(I)I" } : Jvm.MethodName)) ∈ fa_wG := fa_it (tb_9 _ (List.mem_of_getElem? (i := 225) rfl)) rfl
set_option maxRecDepth 100000 in
theorem wd_2146 : (Jvm.Cond.selects "FlowApplyModel" ({ cls := "FlowApplyModel", name := "octet", desc := "(I)I" } : Jvm.MethodName) ({ cls := "FlowApplyModel", name := "octet", desc := "(I)I" } : Jvm.MethodName)) ∈ fa_wG := fa_it (tb_9 _ (List.mem_of_getElem? (i := 226) rfl)) rfl
set_option maxRecDepth 100000 in
theorem wd_2147 : (Jvm.Cond.code ({ cls := "FlowApplyModel", name := "octet", desc := "(I)I" } : Jvm.MethodName) prog_12_method_97_code (2 : Nat) (Option.some Jvm.ClassFile.FieldType.int)) ∈ fa_wG := fa_it (tb_9 _ (List.mem_of_getElem? (i := 227) rfl)) rfl
set_option maxRecDepth 100000 in
theorem wd_2148 : (Jvm.Cond.methodLink "FlowApplyLaw" (118 : Nat) ({ cls := "FlowApplyModel", name := "run", desc := "(II)I" } : Jvm.MethodName)) ∈ fa_wG := fa_it (tb_9 _ (List.mem_of_getElem? (i := 228) rfl)) rfl
set_option maxRecDepth 100000 in
theorem wd_2149 : (Jvm.Cond.instanceMethod ({ cls := "FlowApplyModel", name := "run", desc := "(II)I" } : Jvm.MethodName)) ∈ fa_wG := fa_it (tb_9 _ (List.mem_of_getElem? (i := 229) rfl)) rfl
set_option maxRecDepth 100000 in
theorem wd_2150 : (Jvm.Cond.selects "FlowApplyModel" ({ cls := "FlowApplyModel", name := "run", desc := "(II)I" } : Jvm.MethodName) ({ cls := "FlowApplyModel", name := "run", desc := "(II)I" } : Jvm.MethodName)) ∈ fa_wG := fa_it (tb_9 _ (List.mem_of_getElem? (i := 230) rfl)) rfl
set_option maxRecDepth 100000 in
theorem wd_2151 : (Jvm.Cond.code ({ cls := "FlowApplyModel", name := "run", desc := "(II)I" } : Jvm.MethodName) prog_12_method_105_code (3 : Nat) (Option.some Jvm.ClassFile.FieldType.int)) ∈ fa_wG := fa_it (tb_9 _ (List.mem_of_getElem? (i := 231) rfl)) rfl
set_option maxRecDepth 100000 in
theorem wd_2152 : (Jvm.Cond.methodLink "FlowApplyModel" (588 : Nat) ({ cls := "FlowApplyModel", name := "noHow", desc := "(I)Z" } : Jvm.MethodName)) ∈ fa_wG := fa_it (tb_9 _ (List.mem_of_getElem? (i := 232) rfl)) rfl
set_option maxRecDepth 100000 in
theorem wd_2154 : (Jvm.Cond.instanceMethod ({ cls := "FlowApplyModel", name := "noHow", desc := "(I)Z" } : Jvm.MethodName)) ∈ fa_wG := fa_it (tb_9 _ (List.mem_of_getElem? (i := 234) rfl)) rfl
set_option maxRecDepth 100000 in
theorem wd_2155 : (Jvm.Cond.code ({ cls := "FlowApplyModel", name := "noHow", desc := "(I)Z" } : Jvm.MethodName) prog_12_method_104_code (2 : Nat) (Option.some Jvm.ClassFile.FieldType.boolean)) ∈ fa_wG := fa_it (tb_9 _ (List.mem_of_getElem? (i := 235) rfl)) rfl
set_option maxRecDepth 100000 in
theorem wd_2156 : (Jvm.Cond.methodLink "FlowApplyModel" (591 : Nat) ({ cls := "FlowApplyModel", name := "runs", desc := "(I)V" } : Jvm.MethodName)) ∈ fa_wG := fa_it (tb_9 _ (List.mem_of_getElem? (i := 236) rfl)) rfl
set_option maxRecDepth 100000 in
theorem wd_2158 : (Jvm.Cond.instanceMethod ({ cls := "FlowApplyModel", name := "runs", desc := "(I)V" } : Jvm.MethodName)) ∈ fa_wG := fa_it (tb_9 _ (List.mem_of_getElem? (i := 238) rfl)) rfl
set_option maxRecDepth 100000 in
theorem wd_2159 : (Jvm.Cond.code ({ cls := "FlowApplyModel", name := "runs", desc := "(I)V" } : Jvm.MethodName) prog_12_method_102_code (9 : Nat) (Option.none : Option Jvm.ClassFile.FieldType)) ∈ fa_wG := fa_it (tb_9 _ (List.mem_of_getElem? (i := 239) rfl)) rfl
set_option maxRecDepth 100000 in
theorem wd_2160 : (Jvm.Cond.methodLink "FlowApplyModel" (573 : Nat) ({ cls := "FlowApplyModel", name := "frame", desc := "(II)I" } : Jvm.MethodName)) ∈ fa_wG := fa_it (tb_10 _ (List.mem_of_getElem? (i := 0) rfl)) rfl
set_option maxRecDepth 100000 in
theorem wd_2162 : (Jvm.Cond.instanceMethod ({ cls := "FlowApplyModel", name := "frame", desc := "(II)I" } : Jvm.MethodName)) ∈ fa_wG := fa_it (tb_10 _ (List.mem_of_getElem? (i := 2) rfl)) rfl
set_option maxRecDepth 100000 in
theorem wd_2163 : (Jvm.Cond.code ({ cls := "FlowApplyModel", name := "frame", desc := "(II)I" } : Jvm.MethodName) prog_12_method_101_code (3 : Nat) (Option.some Jvm.ClassFile.FieldType.int)) ∈ fa_wG := fa_it (tb_10 _ (List.mem_of_getElem? (i := 3) rfl)) rfl
set_option maxRecDepth 100000 in
theorem wd_2164 : (Jvm.Cond.methodLink "FlowApplyModel" (576 : Nat) ({ cls := "FlowApplyModel", name := "puts", desc := "(III)V" } : Jvm.MethodName)) ∈ fa_wG := fa_it (tb_10 _ (List.mem_of_getElem? (i := 4) rfl)) rfl
set_option maxRecDepth 100000 in
theorem wd_2166 : (Jvm.Cond.instanceMethod ({ cls := "FlowApplyModel", name := "puts", desc := "(III)V" } : Jvm.MethodName)) ∈ fa_wG := fa_it (tb_10 _ (List.mem_of_getElem? (i := 6) rfl)) rfl
set_option maxRecDepth 100000 in
theorem wd_2167 : (Jvm.Cond.code ({ cls := "FlowApplyModel", name := "puts", desc := "(III)V" } : Jvm.MethodName) prog_12_method_98_code (4 : Nat) (Option.none : Option Jvm.ClassFile.FieldType)) ∈ fa_wG := fa_it (tb_10 _ (List.mem_of_getElem? (i := 7) rfl)) rfl
set_option maxRecDepth 100000 in
theorem wd_2168 : (Jvm.Cond.methodLink "FlowApplyModel" (579 : Nat) ({ cls := "FlowApplyModel", name := "frameOfBinder", desc := "(II)I" } : Jvm.MethodName)) ∈ fa_wG := fa_it (tb_10 _ (List.mem_of_getElem? (i := 8) rfl)) rfl
set_option maxRecDepth 100000 in
theorem wd_2170 : (Jvm.Cond.instanceMethod ({ cls := "FlowApplyModel", name := "frameOfBinder", desc := "(II)I" } : Jvm.MethodName)) ∈ fa_wG := fa_it (tb_10 _ (List.mem_of_getElem? (i := 10) rfl)) rfl
set_option maxRecDepth 100000 in
theorem wd_2171 : (Jvm.Cond.code ({ cls := "FlowApplyModel", name := "frameOfBinder", desc := "(II)I" } : Jvm.MethodName) prog_12_method_99_code (4 : Nat) (Option.some Jvm.ClassFile.FieldType.int)) ∈ fa_wG := fa_it (tb_10 _ (List.mem_of_getElem? (i := 11) rfl)) rfl
set_option maxRecDepth 100000 in
theorem wd_2172 : (Jvm.Cond.methodLink "FlowApplyModel" (582 : Nat) ({ cls := "FlowApplyModel", name := "holdsIn", desc := "(II)V" } : Jvm.MethodName)) ∈ fa_wG := fa_it (tb_10 _ (List.mem_of_getElem? (i := 12) rfl)) rfl
set_option maxRecDepth 100000 in
theorem wd_2174 : (Jvm.Cond.instanceMethod ({ cls := "FlowApplyModel", name := "holdsIn", desc := "(II)V" } : Jvm.MethodName)) ∈ fa_wG := fa_it (tb_10 _ (List.mem_of_getElem? (i := 14) rfl)) rfl
set_option maxRecDepth 100000 in
theorem wd_2175 : (Jvm.Cond.code ({ cls := "FlowApplyModel", name := "holdsIn", desc := "(II)V" } : Jvm.MethodName) prog_12_method_100_code (3 : Nat) (Option.none : Option Jvm.ClassFile.FieldType)) ∈ fa_wG := fa_it (tb_10 _ (List.mem_of_getElem? (i := 15) rfl)) rfl
set_option maxRecDepth 100000 in
theorem wd_2176 : (Jvm.Cond.methodLink "FlowApplyModel" (585 : Nat) ({ cls := "FlowApplyModel", name := "reckons", desc := "(I)V" } : Jvm.MethodName)) ∈ fa_wG := fa_it (tb_10 _ (List.mem_of_getElem? (i := 16) rfl)) rfl
set_option maxRecDepth 100000 in
theorem wd_2178 : (Jvm.Cond.instanceMethod ({ cls := "FlowApplyModel", name := "reckons", desc := "(I)V" } : Jvm.MethodName)) ∈ fa_wG := fa_it (tb_10 _ (List.mem_of_getElem? (i := 18) rfl)) rfl
set_option maxRecDepth 100000 in
theorem wd_2179 : (Jvm.Cond.code ({ cls := "FlowApplyModel", name := "reckons", desc := "(I)V" } : Jvm.MethodName) prog_12_method_103_code (4 : Nat) (Option.none : Option Jvm.ClassFile.FieldType)) ∈ fa_wG := fa_it (tb_10 _ (List.mem_of_getElem? (i := 19) rfl)) rfl
set_option maxRecDepth 100000 in
theorem wd_2180 : (Jvm.Cond.methodLink "FlowApplyLaw" (121 : Nat) ({ cls := "FlowApplyModel", name := "blame", desc := "(II)I" } : Jvm.MethodName)) ∈ fa_wG := fa_it (tb_10 _ (List.mem_of_getElem? (i := 20) rfl)) rfl
set_option maxRecDepth 100000 in
theorem wd_2181 : (Jvm.Cond.instanceMethod ({ cls := "FlowApplyModel", name := "blame", desc := "(II)I" } : Jvm.MethodName)) ∈ fa_wG := fa_it (tb_10 _ (List.mem_of_getElem? (i := 21) rfl)) rfl
set_option maxRecDepth 100000 in
theorem wd_2182 : (Jvm.Cond.selects "FlowApplyModel" ({ cls := "FlowApplyModel", name := "blame", desc := "(II)I" } : Jvm.MethodName) ({ cls := "FlowApplyModel", name := "blame", desc := "(II)I" } : Jvm.MethodName)) ∈ fa_wG := fa_it (tb_10 _ (List.mem_of_getElem? (i := 22) rfl)) rfl
set_option maxRecDepth 100000 in
theorem wd_2183 : (Jvm.Cond.code ({ cls := "FlowApplyModel", name := "blame", desc := "(II)I" } : Jvm.MethodName) prog_12_method_106_code (3 : Nat) (Option.some Jvm.ClassFile.FieldType.int)) ∈ fa_wG := fa_it (tb_10 _ (List.mem_of_getElem? (i := 23) rfl)) rfl
set_option maxRecDepth 100000 in
theorem wd_2184 : (Jvm.Cond.methodLink "FlowApplyLaw" (91 : Nat) ({ cls := "FlowApplyModel", name := "function", desc := "(II)I" } : Jvm.MethodName)) ∈ fa_wG := fa_it (tb_10 _ (List.mem_of_getElem? (i := 24) rfl)) rfl
set_option maxRecDepth 100000 in
theorem wd_2185 : (Jvm.Cond.instanceMethod ({ cls := "FlowApplyModel", name := "function", desc := "(II)I" } : Jvm.MethodName)) ∈ fa_wG := fa_it (tb_10 _ (List.mem_of_getElem? (i := 25) rfl)) rfl
set_option maxRecDepth 100000 in
theorem wd_2186 : (Jvm.Cond.selects "FlowApplyModel" ({ cls := "FlowApplyModel", name := "function", desc := "(II)I" } : Jvm.MethodName) ({ cls := "FlowApplyModel", name := "function", desc := "(II)I" } : Jvm.MethodName)) ∈ fa_wG := fa_it (tb_10 _ (List.mem_of_getElem? (i := 26) rfl)) rfl
set_option maxRecDepth 100000 in
theorem wd_2187 : (Jvm.Cond.code ({ cls := "FlowApplyModel", name := "function", desc := "(II)I" } : Jvm.MethodName) prog_12_method_108_code (4 : Nat) (Option.some Jvm.ClassFile.FieldType.int)) ∈ fa_wG := fa_it (tb_10 _ (List.mem_of_getElem? (i := 27) rfl)) rfl
set_option maxRecDepth 100000 in
theorem wd_2188 : (Jvm.Cond.methodLink "FlowApplyModel" (594 : Nat) ({ cls := "FlowApplyModel", name := "sitesBy", desc := "(I)I" } : Jvm.MethodName)) ∈ fa_wG := fa_it (tb_10 _ (List.mem_of_getElem? (i := 28) rfl)) rfl
set_option maxRecDepth 100000 in
theorem wd_2190 : (Jvm.Cond.instanceMethod ({ cls := "FlowApplyModel", name := "sitesBy", desc := "(I)I" } : Jvm.MethodName)) ∈ fa_wG := fa_it (tb_10 _ (List.mem_of_getElem? (i := 30) rfl)) rfl
set_option maxRecDepth 100000 in
theorem wd_2191 : (Jvm.Cond.code ({ cls := "FlowApplyModel", name := "sitesBy", desc := "(I)I" } : Jvm.MethodName) prog_12_method_107_code (4 : Nat) (Option.some Jvm.ClassFile.FieldType.int)) ∈ fa_wG := fa_it (tb_10 _ (List.mem_of_getElem? (i := 31) rfl)) rfl
set_option maxRecDepth 100000 in
theorem wd_2192 : (Jvm.Cond.methodLink "FlowApplyLaw" (108 : Nat) ({ cls := "FlowApplyModel", name := "site", desc := "(II)I" } : Jvm.MethodName)) ∈ fa_wG := fa_it (tb_10 _ (List.mem_of_getElem? (i := 32) rfl)) rfl
set_option maxRecDepth 100000 in
theorem wd_2193 : (Jvm.Cond.instanceMethod ({ cls := "FlowApplyModel", name := "site", desc := "(II)I" } : Jvm.MethodName)) ∈ fa_wG := fa_it (tb_10 _ (List.mem_of_getElem? (i := 33) rfl)) rfl
set_option maxRecDepth 100000 in
theorem wd_2194 : (Jvm.Cond.selects "FlowApplyModel" ({ cls := "FlowApplyModel", name := "site", desc := "(II)I" } : Jvm.MethodName) ({ cls := "FlowApplyModel", name := "site", desc := "(II)I" } : Jvm.MethodName)) ∈ fa_wG := fa_it (tb_10 _ (List.mem_of_getElem? (i := 34) rfl)) rfl
set_option maxRecDepth 100000 in
theorem wd_2195 : (Jvm.Cond.code ({ cls := "FlowApplyModel", name := "site", desc := "(II)I" } : Jvm.MethodName) prog_12_method_109_code (3 : Nat) (Option.some Jvm.ClassFile.FieldType.int)) ∈ fa_wG := fa_it (tb_10 _ (List.mem_of_getElem? (i := 35) rfl)) rfl
set_option maxRecDepth 100000 in
theorem wd_2196 : (Jvm.Cond.methodLink "FlowApplyModel" (597 : Nat) ({ cls := "FlowApplyModel", name := "siteGroup", desc := "(I)I" } : Jvm.MethodName)) ∈ fa_wG := fa_it (tb_10 _ (List.mem_of_getElem? (i := 36) rfl)) rfl
set_option maxRecDepth 100000 in
theorem wd_2198 : (Jvm.Cond.instanceMethod ({ cls := "FlowApplyModel", name := "siteGroup", desc := "(I)I" } : Jvm.MethodName)) ∈ fa_wG := fa_it (tb_10 _ (List.mem_of_getElem? (i := 38) rfl)) rfl
set_option maxRecDepth 100000 in
theorem wd_2199 : (Jvm.Cond.code ({ cls := "FlowApplyModel", name := "siteGroup", desc := "(I)I" } : Jvm.MethodName) prog_12_method_110_code (3 : Nat) (Option.some Jvm.ClassFile.FieldType.int)) ∈ fa_wG := fa_it (tb_10 _ (List.mem_of_getElem? (i := 39) rfl)) rfl
set_option maxRecDepth 100000 in
theorem wd_2200 : (Jvm.Cond.methodLink "FlowApplyLaw" (111 : Nat) ({ cls := "FlowApplyModel", name := "split", desc := "(II)I" } : Jvm.MethodName)) ∈ fa_wG := fa_it (tb_10 _ (List.mem_of_getElem? (i := 40) rfl)) rfl
set_option maxRecDepth 100000 in
theorem wd_2201 : (Jvm.Cond.instanceMethod ({ cls := "FlowApplyModel", name := "split", desc := "(II)I" } : Jvm.MethodName)) ∈ fa_wG := fa_it (tb_10 _ (List.mem_of_getElem? (i := 41) rfl)) rfl
set_option maxRecDepth 100000 in
theorem wd_2202 : (Jvm.Cond.selects "FlowApplyModel" ({ cls := "FlowApplyModel", name := "split", desc := "(II)I" } : Jvm.MethodName) ({ cls := "FlowApplyModel", name := "split", desc := "(II)I" } : Jvm.MethodName)) ∈ fa_wG := fa_it (tb_10 _ (List.mem_of_getElem? (i := 42) rfl)) rfl
set_option maxRecDepth 100000 in
theorem wd_2203 : (Jvm.Cond.code ({ cls := "FlowApplyModel", name := "split", desc := "(II)I" } : Jvm.MethodName) prog_12_method_111_code (8 : Nat) (Option.some Jvm.ClassFile.FieldType.int)) ∈ fa_wG := fa_it (tb_10 _ (List.mem_of_getElem? (i := 43) rfl)) rfl
set_option maxRecDepth 100000 in
theorem wd_2204 : (Jvm.Cond.methodLink "FlowApplyLaw" (115 : Nat) ({ cls := "FlowApplyModel", name := "group", desc := "(IIZ)I" } : Jvm.MethodName)) ∈ fa_wG := fa_it (tb_10 _ (List.mem_of_getElem? (i := 44) rfl)) rfl
set_option maxRecDepth 100000 in
theorem wd_2205 : (Jvm.Cond.instanceMethod ({ cls := "FlowApplyModel", name := "group", desc := "(IIZ)I" } : Jvm.MethodName)) ∈ fa_wG := fa_it (tb_10 _ (List.mem_of_getElem? (i := 45) rfl)) rfl
set_option maxRecDepth 100000 in
theorem wd_2206 : (Jvm.Cond.selects "FlowApplyModel" ({ cls := "FlowApplyModel", name := "group", desc := "(IIZ)I" } : Jvm.MethodName) ({ cls := "FlowApplyModel", name := "group", desc := "(IIZ)I" } : Jvm.MethodName)) ∈ fa_wG := fa_it (tb_10 _ (List.mem_of_getElem? (i := 46) rfl)) rfl
set_option maxRecDepth 100000 in
theorem wd_2207 : (Jvm.Cond.code ({ cls := "FlowApplyModel", name := "group", desc := "(IIZ)I" } : Jvm.MethodName) prog_12_method_112_code (4 : Nat) (Option.some Jvm.ClassFile.FieldType.int)) ∈ fa_wG := fa_it (tb_10 _ (List.mem_of_getElem? (i := 47) rfl)) rfl
set_option maxRecDepth 100000 in
theorem wd_2208 : (Jvm.Cond.methodLink "FlowApplyLaw" (139 : Nat) ({ cls := "FlowApplyModel", name := "ring", desc := "(I)I" } : Jvm.MethodName)) ∈ fa_wG := fa_it (tb_10 _ (List.mem_of_getElem? (i := 48) rfl)) rfl
set_option maxRecDepth 100000 in
theorem wd_2209 : (Jvm.Cond.instanceMethod ({ cls := "FlowApplyModel", name := "ring", desc := "(I)I" } : Jvm.MethodName)) ∈ fa_wG := fa_it (tb_10 _ (List.mem_of_getElem? (i := 49) rfl)) rfl
set_option maxRecDepth 100000 in
theorem wd_2210 : (Jvm.Cond.selects "FlowApplyModel" ({ cls := "FlowApplyModel", name := "ring", desc := "(I)I" } : Jvm.MethodName) ({ cls := "FlowApplyModel", name := "ring", desc := "(I)I" } : Jvm.MethodName)) ∈ fa_wG := fa_it (tb_10 _ (List.mem_of_getElem? (i := 50) rfl)) rfl
set_option maxRecDepth 100000 in
theorem wd_2211 : (Jvm.Cond.code ({ cls := "FlowApplyModel", name := "ring", desc := "(I)I" } : Jvm.MethodName) prog_12_method_113_code (2 : Nat) (Option.some Jvm.ClassFile.FieldType.int)) ∈ fa_wG := fa_it (tb_10 _ (List.mem_of_getElem? (i := 51) rfl)) rfl
set_option maxRecDepth 100000 in
theorem wd_2212 : (Jvm.Cond.methodLink "FlowApplyLaw" (142 : Nat) ({ cls := "FlowApplyModel", name := "far", desc := "(II)I" } : Jvm.MethodName)) ∈ fa_wG := fa_it (tb_10 _ (List.mem_of_getElem? (i := 52) rfl)) rfl
set_option maxRecDepth 100000 in
theorem wd_2213 : (Jvm.Cond.instanceMethod ({ cls := "FlowApplyModel", name := "far", desc := "(II)I" } : Jvm.MethodName)) ∈ fa_wG := fa_it (tb_10 _ (List.mem_of_getElem? (i := 53) rfl)) rfl
set_option maxRecDepth 100000 in
theorem wd_2214 : (Jvm.Cond.selects "FlowApplyModel" ({ cls := "FlowApplyModel", name := "far", desc := "(II)I" } : Jvm.MethodName) ({ cls := "FlowApplyModel", name := "far", desc := "(II)I" } : Jvm.MethodName)) ∈ fa_wG := fa_it (tb_10 _ (List.mem_of_getElem? (i := 54) rfl)) rfl
set_option maxRecDepth 100000 in
theorem wd_2215 : (Jvm.Cond.code ({ cls := "FlowApplyModel", name := "far", desc := "(II)I" } : Jvm.MethodName) prog_12_method_114_code (7 : Nat) (Option.some Jvm.ClassFile.FieldType.int)) ∈ fa_wG := fa_it (tb_10 _ (List.mem_of_getElem? (i := 55) rfl)) rfl
set_option maxRecDepth 100000 in
theorem wd_2216 : (Jvm.Cond.methodLink "FlowApplyLaw" (150 : Nat) ({ cls := "FlowApplyModel", name := "count", desc := "(I)I" } : Jvm.MethodName)) ∈ fa_wG := fa_it (tb_10 _ (List.mem_of_getElem? (i := 56) rfl)) rfl
set_option maxRecDepth 100000 in
theorem wd_2217 : (Jvm.Cond.instanceMethod ({ cls := "FlowApplyModel", name := "count", desc := "(I)I" } : Jvm.MethodName)) ∈ fa_wG := fa_it (tb_10 _ (List.mem_of_getElem? (i := 57) rfl)) rfl
set_option maxRecDepth 100000 in
theorem wd_2218 : (Jvm.Cond.selects "FlowApplyModel" ({ cls := "FlowApplyModel", name := "count", desc := "(I)I" } : Jvm.MethodName) ({ cls := "FlowApplyModel", name := "count", desc := "(I)I" } : Jvm.MethodName)) ∈ fa_wG := fa_it (tb_10 _ (List.mem_of_getElem? (i := 58) rfl)) rfl
set_option maxRecDepth 100000 in
theorem wd_2219 : (Jvm.Cond.code ({ cls := "FlowApplyModel", name := "count", desc := "(I)I" } : Jvm.MethodName) prog_12_method_119_code (2 : Nat) (Option.some Jvm.ClassFile.FieldType.int)) ∈ fa_wG := fa_it (tb_10 _ (List.mem_of_getElem? (i := 59) rfl)) rfl
set_option maxRecDepth 100000 in
theorem wd_2220 : (Jvm.Cond.methodLink "FlowApplyModel" (603 : Nat) ({ cls := "FlowApplyModel", name := "looked", desc := "(Z)I" } : Jvm.MethodName)) ∈ fa_wG := fa_it (tb_10 _ (List.mem_of_getElem? (i := 60) rfl)) rfl
set_option maxRecDepth 100000 in
theorem wd_2222 : (Jvm.Cond.instanceMethod ({ cls := "FlowApplyModel", name := "looked", desc := "(Z)I" } : Jvm.MethodName)) ∈ fa_wG := fa_it (tb_10 _ (List.mem_of_getElem? (i := 62) rfl)) rfl
set_option maxRecDepth 100000 in
theorem wd_2223 : (Jvm.Cond.code ({ cls := "FlowApplyModel", name := "looked", desc := "(Z)I" } : Jvm.MethodName) prog_12_method_115_code (4 : Nat) (Option.some Jvm.ClassFile.FieldType.int)) ∈ fa_wG := fa_it (tb_10 _ (List.mem_of_getElem? (i := 63) rfl)) rfl
set_option maxRecDepth 100000 in
theorem wd_2224 : (Jvm.Cond.methodLink "FlowApplyModel" (607 : Nat) ({ cls := "FlowApplyModel", name := "fieldsOfMade", desc := "()I" } : Jvm.MethodName)) ∈ fa_wG := fa_it (tb_10 _ (List.mem_of_getElem? (i := 64) rfl)) rfl
set_option maxRecDepth 100000 in
theorem wd_2226 : (Jvm.Cond.instanceMethod ({ cls := "FlowApplyModel", name := "fieldsOfMade", desc := "()I" } : Jvm.MethodName)) ∈ fa_wG := fa_it (tb_10 _ (List.mem_of_getElem? (i := 66) rfl)) rfl
set_option maxRecDepth 100000 in
theorem wd_2227 : (Jvm.Cond.code ({ cls := "FlowApplyModel", name := "fieldsOfMade", desc := "()I" } : Jvm.MethodName) prog_12_method_116_code (3 : Nat) (Option.some Jvm.ClassFile.FieldType.int)) ∈ fa_wG := fa_it (tb_10 _ (List.mem_of_getElem? (i := 67) rfl)) rfl
set_option maxRecDepth 100000 in
theorem wd_2228 : (Jvm.Cond.methodLink "FlowApplyModel" (610 : Nat) ({ cls := "FlowApplyModel", name := "thingsOfBack", desc := "()I" } : Jvm.MethodName)) ∈ fa_wG := fa_it (tb_10 _ (List.mem_of_getElem? (i := 68) rfl)) rfl
set_option maxRecDepth 100000 in
theorem wd_2230 : (Jvm.Cond.instanceMethod ({ cls := "FlowApplyModel", name := "thingsOfBack", desc := "()I" } : Jvm.MethodName)) ∈ fa_wG := fa_it (tb_10 _ (List.mem_of_getElem? (i := 70) rfl)) rfl
set_option maxRecDepth 100000 in
theorem wd_2231 : (Jvm.Cond.code ({ cls := "FlowApplyModel", name := "thingsOfBack", desc := "()I" } : Jvm.MethodName) prog_12_method_118_code (3 : Nat) (Option.some Jvm.ClassFile.FieldType.int)) ∈ fa_wG := fa_it (tb_10 _ (List.mem_of_getElem? (i := 71) rfl)) rfl
set_option maxRecDepth 100000 in
theorem wd_2232 : (Jvm.Cond.methodLink "FlowApplyModel" (600 : Nat) ({ cls := "FlowApplyModel", name := "thingsOf", desc := "(I)I" } : Jvm.MethodName)) ∈ fa_wG := fa_it (tb_10 _ (List.mem_of_getElem? (i := 72) rfl)) rfl
set_option maxRecDepth 100000 in
theorem wd_2234 : (Jvm.Cond.instanceMethod ({ cls := "FlowApplyModel", name := "thingsOf", desc := "(I)I" } : Jvm.MethodName)) ∈ fa_wG := fa_it (tb_10 _ (List.mem_of_getElem? (i := 74) rfl)) rfl
set_option maxRecDepth 100000 in
theorem wd_2235 : (Jvm.Cond.code ({ cls := "FlowApplyModel", name := "thingsOf", desc := "(I)I" } : Jvm.MethodName) prog_12_method_117_code (2 : Nat) (Option.some Jvm.ClassFile.FieldType.int)) ∈ fa_wG := fa_it (tb_10 _ (List.mem_of_getElem? (i := 75) rfl)) rfl
set_option maxRecDepth 100000 in
theorem wd_2236 : (Jvm.Cond.arrayClass Jvm.ClassFile.FieldType.long) ∈ fa_wG := fa_it (tb_10 _ (List.mem_of_getElem? (i := 76) rfl)) rfl
set_option maxRecDepth 100000 in
theorem wd_2238 : (Jvm.Cond.castable "FlowApply" "java/lang/Object") ∈ fa_nest := List.mem_of_getElem? (i := 89) (by decide +kernel)
set_option maxRecDepth 100000 in
theorem wd_2239 : (Jvm.Cond.castable "FlowApply$Row" "java/lang/Object") ∈ fa_nest := List.mem_of_getElem? (i := 90) (by decide +kernel)
set_option maxRecDepth 100000 in
theorem wd_2240 : (Jvm.Cond.castable "FlowApply$Reader" "java/lang/Object") ∈ fa_nest := List.mem_of_getElem? (i := 91) (by decide +kernel)
set_option maxRecDepth 100000 in
theorem wd_2241 : (Jvm.Cond.castable "FlowApply$Program" "java/lang/Object") ∈ fa_nest := List.mem_of_getElem? (i := 92) (by decide +kernel)
set_option maxRecDepth 100000 in
theorem wd_2242 : (Jvm.Cond.castable "FlowApply$Writer" "java/lang/Object") ∈ fa_nest := List.mem_of_getElem? (i := 93) (by decide +kernel)
set_option maxRecDepth 100000 in
theorem wd_2243 : (Jvm.Cond.castable "FlowApply$Machine" "java/lang/Object") ∈ fa_nest := List.mem_of_getElem? (i := 94) (by decide +kernel)
set_option maxRecDepth 100000 in
theorem wd_2244 : (Jvm.Cond.castable "FlowApply$Scene" "java/lang/Object") ∈ fa_nest := List.mem_of_getElem? (i := 95) (by decide +kernel)
set_option maxRecDepth 100000 in
theorem wd_2245 : (Jvm.Cond.castable "FlowApply$Typing" "java/lang/Object") ∈ fa_nest := List.mem_of_getElem? (i := 96) (by decide +kernel)
set_option maxRecDepth 100000 in
theorem wd_2246 : (Jvm.Cond.castable "FlowApply$Flow" "java/lang/Object") ∈ fa_nest := List.mem_of_getElem? (i := 97) (by decide +kernel)
set_option maxRecDepth 100000 in
theorem wd_2247 : (Jvm.Cond.castable "FlowApply$Groups" "java/lang/Object") ∈ fa_nest := List.mem_of_getElem? (i := 98) (by decide +kernel)
set_option maxRecDepth 100000 in
theorem wd_2248 : (Jvm.Cond.castable "FlowApplyModel" "java/lang/Object") ∈ fa_nest := List.mem_of_getElem? (i := 99) (by decide +kernel)
set_option maxRecDepth 100000 in
theorem wd_2249 : (Jvm.Cond.castable "java/lang/IllegalArgumentException" "java/lang/Object") ∈ fa_nest := List.mem_of_getElem? (i := 100) (by decide +kernel)
set_option maxRecDepth 100000 in
theorem wd_2250 : (Jvm.Cond.castable "java/lang/IllegalStateException" "java/lang/Object") ∈ fa_nest := List.mem_of_getElem? (i := 101) (by decide +kernel)
set_option maxRecDepth 100000 in
theorem wd_2251 : (Jvm.Cond.castable "java/lang/IndexOutOfBoundsException" "java/lang/Object") ∈ fa_nest := List.mem_of_getElem? (i := 102) (by decide +kernel)
set_option maxRecDepth 100000 in
theorem wd_2252 : (Jvm.Cond.castable "java/util/NoSuchElementException" "java/lang/Object") ∈ fa_nest := List.mem_of_getElem? (i := 103) (by decide +kernel)
set_option maxRecDepth 100000 in
theorem wd_2253 : (Jvm.Cond.castable "java/lang/Throwable" "java/lang/Object") ∈ fa_nest := List.mem_of_getElem? (i := 104) (by decide +kernel)
set_option maxRecDepth 100000 in
theorem wd_2254 : (Jvm.Cond.castable "java/lang/String" "java/lang/Object") ∈ fa_nest := List.mem_of_getElem? (i := 105) (by decide +kernel)
set_option maxRecDepth 100000 in
theorem wd_2255 : (Jvm.Cond.fieldLink "java/lang/String" (9 : Nat) "java/lang/String" "value" "[B") ∈ fa_wG := fa_it (tb_10 _ (List.mem_of_getElem? (i := 95) rfl)) rfl
set_option maxRecDepth 100000 in
theorem wd_2256 : (Jvm.Cond.fieldLink "java/lang/String" (15 : Nat) "java/lang/String" "coder" "B") ∈ fa_wG := fa_it (tb_10 _ (List.mem_of_getElem? (i := 96) rfl)) rfl
