theorem nc_bipush_20 : (Int8.ofInt 20).toInt32 = 20 := by decide +kernel
theorem nc_bipush_31 : (Int8.ofInt 31).toInt32 = 31 := by decide +kernel
theorem nc_bipush_63 : (Int8.ofInt 63).toInt32 = 63 := by decide +kernel
theorem nc_bipush_64 : (Int8.ofInt 64).toInt32 = 64 := by decide +kernel
theorem nc_sipush_191 : (Int16.ofInt 191).toInt32 = 191 := by decide +kernel
theorem nc_sipush_248 : (Int16.ofInt 248).toInt32 = 248 := by decide +kernel
theorem nc_sipush_2000 : (Int16.ofInt 2000).toInt32 = 2000 := by decide +kernel
theorem nc_sipush_2048 : (Int16.ofInt 2048).toInt32 = 2048 := by decide +kernel
theorem tw_1071 : (Jvm.Cond.methodLink "SpanShelvesModel" (94 : Nat) ({ cls := "SpanShelvesModel", name := "rests", desc := "(I)V" } : Jvm.MethodName)) ∈ tw := tw_t 1071 (by decide +kernel) (by decide +kernel)
theorem tw_1073 : (Jvm.Cond.instanceMethod ({ cls := "SpanShelvesModel", name := "rests", desc := "(I)V" } : Jvm.MethodName)) ∈ tw := tw_t 1073 (by decide +kernel) (by decide +kernel)
theorem tw_1074 : (Jvm.Cond.code ({ cls := "SpanShelvesModel", name := "rests", desc := "(I)V" } : Jvm.MethodName) prog_9_method_4_code (2 : Nat) (Option.none : Option Jvm.ClassFile.FieldType)) ∈ tw := tw_t 1074 (by decide +kernel) (by decide +kernel)
theorem tw_1075 : (Jvm.Cond.fieldLink "SpanShelvesModel" (1 : Nat) "SpanShelvesModel" "thrown" "I") ∈ tw := tw_t 1075 (by decide +kernel) (by decide +kernel)
theorem tw_1076 : (Jvm.Cond.fieldLink "SpanShelvesModel" (13 : Nat) "SpanShelvesModel" "tape" "[B") ∈ tw := tw_t 1076 (by decide +kernel) (by decide +kernel)
theorem tw_1077 : (Jvm.Cond.fieldLink "SpanShelvesModel" (103 : Nat) "SpanShelvesModel" "taped" "I") ∈ tw := tw_t 1077 (by decide +kernel) (by decide +kernel)
theorem tw_1078 : (Jvm.Cond.fieldLink "SpanShelvesModel" (106 : Nat) "SpanShelvesModel" "faultKind" "I") ∈ tw := tw_t 1078 (by decide +kernel) (by decide +kernel)
theorem tw_1079 : (Jvm.Cond.fieldLink "SpanShelvesModel" (17 : Nat) "SpanShelvesModel" "faultPlace" "I") ∈ tw := tw_t 1079 (by decide +kernel) (by decide +kernel)
theorem tw_1080 : (Jvm.Cond.fieldLink "SpanShelvesModel" (22 : Nat) "SpanShelvesModel" "docs" "[[B") ∈ tw := tw_t 1080 (by decide +kernel) (by decide +kernel)
theorem tw_1081 : (Jvm.Cond.fieldLink "SpanShelvesModel" (25 : Nat) "SpanShelvesModel" "sizes" "[I") ∈ tw := tw_t 1081 (by decide +kernel) (by decide +kernel)
theorem tw_1082 : (Jvm.Cond.fieldLink "SpanShelvesModel" (31 : Nat) "SpanShelvesModel" "ways" "[[I") ∈ tw := tw_t 1082 (by decide +kernel) (by decide +kernel)
theorem tw_1083 : (Jvm.Cond.fieldLink "SpanShelvesModel" (34 : Nat) "SpanShelvesModel" "deep" "[I") ∈ tw := tw_t 1083 (by decide +kernel) (by decide +kernel)
theorem tw_1084 : (Jvm.Cond.fieldLink "SpanShelvesModel" (37 : Nat) "SpanShelvesModel" "at" "[I") ∈ tw := tw_t 1084 (by decide +kernel) (by decide +kernel)
theorem tw_1094 : (Jvm.Cond.fieldLink "SpanShelvesModel" (58 : Nat) "SpanShelvesModel" "five" "[I") ∈ tw := tw_t 1094 (by decide +kernel) (by decide +kernel)
theorem tw_1095 : (Jvm.Cond.fieldLink "SpanShelvesModel" (61 : Nat) "SpanShelvesModel" "figures" "[B") ∈ tw := tw_t 1095 (by decide +kernel) (by decide +kernel)
theorem tw_1225 : (Jvm.Cond.methodLink "SpanShelvesModel" (176 : Nat) ({ cls := "SpanShelvesModel", name := "judgeRoot", desc := "()Z" } : Jvm.MethodName)) ∈ tw := tw_t 1225 (by decide +kernel) (by decide +kernel)
theorem tw_1227 : (Jvm.Cond.instanceMethod ({ cls := "SpanShelvesModel", name := "judgeRoot", desc := "()Z" } : Jvm.MethodName)) ∈ tw := tw_t 1227 (by decide +kernel) (by decide +kernel)
theorem tw_1228 : (Jvm.Cond.code ({ cls := "SpanShelvesModel", name := "judgeRoot", desc := "()Z" } : Jvm.MethodName) prog_9_method_27_code (1 : Nat) (Option.some Jvm.ClassFile.FieldType.boolean)) ∈ tw := tw_t 1228 (by decide +kernel) (by decide +kernel)
theorem tw_1229 : (Jvm.Cond.methodLink "SpanShelvesModel" (170 : Nat) ({ cls := "SpanShelvesModel", name := "judges", desc := "()V" } : Jvm.MethodName)) ∈ tw := tw_t 1229 (by decide +kernel) (by decide +kernel)
theorem tw_1231 : (Jvm.Cond.instanceMethod ({ cls := "SpanShelvesModel", name := "judges", desc := "()V" } : Jvm.MethodName)) ∈ tw := tw_t 1231 (by decide +kernel) (by decide +kernel)
theorem tw_1232 : (Jvm.Cond.code ({ cls := "SpanShelvesModel", name := "judges", desc := "()V" } : Jvm.MethodName) prog_9_method_11_code (1 : Nat) (Option.none : Option Jvm.ClassFile.FieldType)) ∈ tw := tw_t 1232 (by decide +kernel) (by decide +kernel)
theorem tw_1233 : (Jvm.Cond.methodLink "SpanShelvesModel" (158 : Nat) ({ cls := "SpanShelvesModel", name := "document", desc := "(IIIZ)I" } : Jvm.MethodName)) ∈ tw := tw_t 1233 (by decide +kernel) (by decide +kernel)
theorem tw_1235 : (Jvm.Cond.instanceMethod ({ cls := "SpanShelvesModel", name := "document", desc := "(IIIZ)I" } : Jvm.MethodName)) ∈ tw := tw_t 1235 (by decide +kernel) (by decide +kernel)
theorem tw_1236 : (Jvm.Cond.code ({ cls := "SpanShelvesModel", name := "document", desc := "(IIIZ)I" } : Jvm.MethodName) prog_9_method_20_code (9 : Nat) (Option.some Jvm.ClassFile.FieldType.int)) ∈ tw := tw_t 1236 (by decide +kernel) (by decide +kernel)
theorem tw_1237 : (Jvm.Cond.methodLink "SpanShelvesModel" (109 : Nat) ({ cls := "SpanShelvesModel", name := "wrong", desc := "(II)I" } : Jvm.MethodName)) ∈ tw := tw_t 1237 (by decide +kernel) (by decide +kernel)
theorem tw_1239 : (Jvm.Cond.instanceMethod ({ cls := "SpanShelvesModel", name := "wrong", desc := "(II)I" } : Jvm.MethodName)) ∈ tw := tw_t 1239 (by decide +kernel) (by decide +kernel)
theorem tw_1240 : (Jvm.Cond.code ({ cls := "SpanShelvesModel", name := "wrong", desc := "(II)I" } : Jvm.MethodName) prog_9_method_10_code (3 : Nat) (Option.some Jvm.ClassFile.FieldType.int)) ∈ tw := tw_t 1240 (by decide +kernel) (by decide +kernel)
theorem tw_1241 : (Jvm.Cond.methodLink "SpanShelvesModel" (135 : Nat) ({ cls := "SpanShelvesModel", name := "some", desc := "(III)I" } : Jvm.MethodName)) ∈ tw := tw_t 1241 (by decide +kernel) (by decide +kernel)
theorem tw_1243 : (Jvm.Cond.instanceMethod ({ cls := "SpanShelvesModel", name := "some", desc := "(III)I" } : Jvm.MethodName)) ∈ tw := tw_t 1243 (by decide +kernel) (by decide +kernel)
theorem tw_1244 : (Jvm.Cond.code ({ cls := "SpanShelvesModel", name := "some", desc := "(III)I" } : Jvm.MethodName) prog_9_method_12_code (4 : Nat) (Option.some Jvm.ClassFile.FieldType.int)) ∈ tw := tw_t 1244 (by decide +kernel) (by decide +kernel)
theorem tw_1245 : (Jvm.Cond.methodLink "SpanShelvesModel" (97 : Nat) ({ cls := "SpanShelvesModel", name := "intAt", desc := "([BI)I" } : Jvm.MethodName)) ∈ tw := tw_t 1245 (by decide +kernel) (by decide +kernel)
theorem tw_1248 : (Jvm.Cond.methodLink "SpanShelvesModel" (141 : Nat) ({ cls := "SpanShelvesModel", name := "element", desc := "(IIII)I" } : Jvm.MethodName)) ∈ tw := tw_t 1248 (by decide +kernel) (by decide +kernel)
theorem tw_1250 : (Jvm.Cond.instanceMethod ({ cls := "SpanShelvesModel", name := "element", desc := "(IIII)I" } : Jvm.MethodName)) ∈ tw := tw_t 1250 (by decide +kernel) (by decide +kernel)
theorem tw_1251 : (Jvm.Cond.code ({ cls := "SpanShelvesModel", name := "element", desc := "(IIII)I" } : Jvm.MethodName) prog_9_method_22_code (7 : Nat) (Option.some Jvm.ClassFile.FieldType.int)) ∈ tw := tw_t 1251 (by decide +kernel) (by decide +kernel)
theorem tw_1252 : (Jvm.Cond.methodLink "SpanShelvesModel" (145 : Nat) ({ cls := "SpanShelvesModel", name := "isType", desc := "(I)Z" } : Jvm.MethodName)) ∈ tw := tw_t 1252 (by decide +kernel) (by decide +kernel)
theorem tw_1253 : (Jvm.Cond.static ({ cls := "SpanShelvesModel", name := "isType", desc := "(I)Z" } : Jvm.MethodName)) ∈ tw := tw_t 1253 (by decide +kernel) (by decide +kernel)
theorem tw_1254 : (Jvm.Cond.code ({ cls := "SpanShelvesModel", name := "isType", desc := "(I)Z" } : Jvm.MethodName) prog_9_method_21_code (1 : Nat) (Option.some Jvm.ClassFile.FieldType.boolean)) ∈ tw := tw_t 1254 (by decide +kernel) (by decide +kernel)
theorem tw_1255 : (Jvm.Cond.methodLink "SpanShelvesModel" (149 : Nat) ({ cls := "SpanShelvesModel", name := "name", desc := "(III)I" } : Jvm.MethodName)) ∈ tw := tw_t 1255 (by decide +kernel) (by decide +kernel)
theorem tw_1257 : (Jvm.Cond.instanceMethod ({ cls := "SpanShelvesModel", name := "name", desc := "(III)I" } : Jvm.MethodName)) ∈ tw := tw_t 1257 (by decide +kernel) (by decide +kernel)
theorem tw_1258 : (Jvm.Cond.code ({ cls := "SpanShelvesModel", name := "name", desc := "(III)I" } : Jvm.MethodName) prog_9_method_16_code (5 : Nat) (Option.some Jvm.ClassFile.FieldType.int)) ∈ tw := tw_t 1258 (by decide +kernel) (by decide +kernel)
theorem tw_1259 : (Jvm.Cond.methodLink "SpanShelvesModel" (120 : Nat) ({ cls := "SpanShelvesModel", name := "zero", desc := "(II)I" } : Jvm.MethodName)) ∈ tw := tw_t 1259 (by decide +kernel) (by decide +kernel)
theorem tw_1261 : (Jvm.Cond.instanceMethod ({ cls := "SpanShelvesModel", name := "zero", desc := "(II)I" } : Jvm.MethodName)) ∈ tw := tw_t 1261 (by decide +kernel) (by decide +kernel)
theorem tw_1262 : (Jvm.Cond.code ({ cls := "SpanShelvesModel", name := "zero", desc := "(II)I" } : Jvm.MethodName) prog_9_method_15_code (4 : Nat) (Option.some Jvm.ClassFile.FieldType.int)) ∈ tw := tw_t 1262 (by decide +kernel) (by decide +kernel)
theorem tw_1263 : (Jvm.Cond.methodLink "SpanShelvesModel" (123 : Nat) ({ cls := "SpanShelvesModel", name := "isNumber", desc := "(III)Z" } : Jvm.MethodName)) ∈ tw := tw_t 1263 (by decide +kernel) (by decide +kernel)
theorem tw_1265 : (Jvm.Cond.instanceMethod ({ cls := "SpanShelvesModel", name := "isNumber", desc := "(III)Z" } : Jvm.MethodName)) ∈ tw := tw_t 1265 (by decide +kernel) (by decide +kernel)
theorem tw_1266 : (Jvm.Cond.code ({ cls := "SpanShelvesModel", name := "isNumber", desc := "(III)Z" } : Jvm.MethodName) prog_9_method_18_code (7 : Nat) (Option.some Jvm.ClassFile.FieldType.boolean)) ∈ tw := tw_t 1266 (by decide +kernel) (by decide +kernel)
theorem tw_1267 : (Jvm.Cond.methodLink "SpanShelvesModel" (131 : Nat) ({ cls := "SpanShelvesModel", name := "decimals", desc := "(I)I" } : Jvm.MethodName)) ∈ tw := tw_t 1267 (by decide +kernel) (by decide +kernel)
theorem tw_1269 : (Jvm.Cond.instanceMethod ({ cls := "SpanShelvesModel", name := "decimals", desc := "(I)I" } : Jvm.MethodName)) ∈ tw := tw_t 1269 (by decide +kernel) (by decide +kernel)
theorem tw_1270 : (Jvm.Cond.code ({ cls := "SpanShelvesModel", name := "decimals", desc := "(I)I" } : Jvm.MethodName) prog_9_method_17_code (5 : Nat) (Option.some Jvm.ClassFile.FieldType.int)) ∈ tw := tw_t 1270 (by decide +kernel) (by decide +kernel)
theorem tw_1271 : (Jvm.Cond.methodLink "SpanShelvesModel" (127 : Nat) ({ cls := "SpanShelvesModel", name := "signs", desc := "(II)Z" } : Jvm.MethodName)) ∈ tw := tw_t 1271 (by decide +kernel) (by decide +kernel)
theorem tw_1273 : (Jvm.Cond.instanceMethod ({ cls := "SpanShelvesModel", name := "signs", desc := "(II)Z" } : Jvm.MethodName)) ∈ tw := tw_t 1273 (by decide +kernel) (by decide +kernel)
theorem tw_1274 : (Jvm.Cond.code ({ cls := "SpanShelvesModel", name := "signs", desc := "(II)Z" } : Jvm.MethodName) prog_9_method_13_code (5 : Nat) (Option.some Jvm.ClassFile.FieldType.boolean)) ∈ tw := tw_t 1274 (by decide +kernel) (by decide +kernel)
theorem tw_1275 : (Jvm.Cond.methodLink "SpanShelvesModel" (113 : Nat) ({ cls := "SpanShelvesModel", name := "sign", desc := "(II)I" } : Jvm.MethodName)) ∈ tw := tw_t 1275 (by decide +kernel) (by decide +kernel)
theorem tw_1277 : (Jvm.Cond.instanceMethod ({ cls := "SpanShelvesModel", name := "sign", desc := "(II)I" } : Jvm.MethodName)) ∈ tw := tw_t 1277 (by decide +kernel) (by decide +kernel)
theorem tw_1278 : (Jvm.Cond.code ({ cls := "SpanShelvesModel", name := "sign", desc := "(II)I" } : Jvm.MethodName) prog_9_method_14_code (8 : Nat) (Option.some Jvm.ClassFile.FieldType.int)) ∈ tw := tw_t 1278 (by decide +kernel) (by decide +kernel)
theorem tw_1279 : (Jvm.Cond.constant "SpanShelvesModel" (116 : Nat) (65536 : Int32)) ∈ tw := tw_t 1279 (by decide +kernel) (by decide +kernel)
theorem tw_1280 : (Jvm.Cond.constant "SpanShelvesModel" (117 : Nat) (1114111 : Int32)) ∈ tw := tw_t 1280 (by decide +kernel) (by decide +kernel)
theorem tw_1281 : (Jvm.Cond.constant "SpanShelvesModel" (118 : Nat) (55296 : Int32)) ∈ tw := tw_t 1281 (by decide +kernel) (by decide +kernel)
theorem tw_1282 : (Jvm.Cond.constant "SpanShelvesModel" (119 : Nat) (57343 : Int32)) ∈ tw := tw_t 1282 (by decide +kernel) (by decide +kernel)
theorem tw_1283 : (Jvm.Cond.methodLink "SpanShelvesModel" (152 : Nat) ({ cls := "SpanShelvesModel", name := "value", desc := "(IIII)I" } : Jvm.MethodName)) ∈ tw := tw_t 1283 (by decide +kernel) (by decide +kernel)
theorem tw_1285 : (Jvm.Cond.instanceMethod ({ cls := "SpanShelvesModel", name := "value", desc := "(IIII)I" } : Jvm.MethodName)) ∈ tw := tw_t 1285 (by decide +kernel) (by decide +kernel)
theorem tw_1286 : (Jvm.Cond.code ({ cls := "SpanShelvesModel", name := "value", desc := "(IIII)I" } : Jvm.MethodName) prog_9_method_23_code (6 : Nat) (Option.some Jvm.ClassFile.FieldType.int)) ∈ tw := tw_t 1286 (by decide +kernel) (by decide +kernel)
theorem tw_1287 : (Jvm.Cond.methodLink "SpanShelvesModel" (155 : Nat) ({ cls := "SpanShelvesModel", name := "text", desc := "(II)I" } : Jvm.MethodName)) ∈ tw := tw_t 1287 (by decide +kernel) (by decide +kernel)
theorem tw_1289 : (Jvm.Cond.instanceMethod ({ cls := "SpanShelvesModel", name := "text", desc := "(II)I" } : Jvm.MethodName)) ∈ tw := tw_t 1289 (by decide +kernel) (by decide +kernel)
theorem tw_1290 : (Jvm.Cond.code ({ cls := "SpanShelvesModel", name := "text", desc := "(II)I" } : Jvm.MethodName) prog_9_method_19_code (5 : Nat) (Option.some Jvm.ClassFile.FieldType.int)) ∈ tw := tw_t 1290 (by decide +kernel) (by decide +kernel)
theorem tw_1291 : (Jvm.Cond.constantLong "SpanShelvesModel" (139 : Nat) (4 : Int64)) ∈ tw := tw_t 1291 (by decide +kernel) (by decide +kernel)
theorem tw_1292 : (Jvm.Cond.methodLink "SpanShelvesModel" (162 : Nat) ({ cls := "SpanShelvesModel", name := "binary", desc := "(II)I" } : Jvm.MethodName)) ∈ tw := tw_t 1292 (by decide +kernel) (by decide +kernel)
theorem tw_1294 : (Jvm.Cond.instanceMethod ({ cls := "SpanShelvesModel", name := "binary", desc := "(II)I" } : Jvm.MethodName)) ∈ tw := tw_t 1294 (by decide +kernel) (by decide +kernel)
theorem tw_1295 : (Jvm.Cond.code ({ cls := "SpanShelvesModel", name := "binary", desc := "(II)I" } : Jvm.MethodName) prog_9_method_24_code (4 : Nat) (Option.some Jvm.ClassFile.FieldType.int)) ∈ tw := tw_t 1295 (by decide +kernel) (by decide +kernel)
theorem tw_1296 : (Jvm.Cond.constantLong "SpanShelvesModel" (168 : Nat) (5 : Int64)) ∈ tw := tw_t 1296 (by decide +kernel) (by decide +kernel)
theorem tw_1297 : (Jvm.Cond.methodLink "SpanShelvesModel" (165 : Nat) ({ cls := "SpanShelvesModel", name := "scoped", desc := "(III)I" } : Jvm.MethodName)) ∈ tw := tw_t 1297 (by decide +kernel) (by decide +kernel)
theorem tw_1299 : (Jvm.Cond.instanceMethod ({ cls := "SpanShelvesModel", name := "scoped", desc := "(III)I" } : Jvm.MethodName)) ∈ tw := tw_t 1299 (by decide +kernel) (by decide +kernel)
theorem tw_1300 : (Jvm.Cond.code ({ cls := "SpanShelvesModel", name := "scoped", desc := "(III)I" } : Jvm.MethodName) prog_9_method_25_code (6 : Nat) (Option.some Jvm.ClassFile.FieldType.int)) ∈ tw := tw_t 1300 (by decide +kernel) (by decide +kernel)
theorem tw_1301 : (Jvm.Cond.methodLink "SpanShelvesModel" (173 : Nat) ({ cls := "SpanShelvesModel", name := "isAll", desc := "(I)Z" } : Jvm.MethodName)) ∈ tw := tw_t 1301 (by decide +kernel) (by decide +kernel)
theorem tw_1303 : (Jvm.Cond.instanceMethod ({ cls := "SpanShelvesModel", name := "isAll", desc := "(I)Z" } : Jvm.MethodName)) ∈ tw := tw_t 1303 (by decide +kernel) (by decide +kernel)
theorem tw_1304 : (Jvm.Cond.code ({ cls := "SpanShelvesModel", name := "isAll", desc := "(I)Z" } : Jvm.MethodName) prog_9_method_26_code (2 : Nat) (Option.some Jvm.ClassFile.FieldType.boolean)) ∈ tw := tw_t 1304 (by decide +kernel) (by decide +kernel)
theorem tw_1346 : (Jvm.Cond.methodLink "SpanShelvesModel" (180 : Nat) ({ cls := "SpanShelvesModel$Tree", name := "child", desc := "(II)I" } : Jvm.MethodName)) ∈ tw := tw_t 1346 (by decide +kernel) (by decide +kernel)
theorem tw_1347 : (Jvm.Cond.instanceMethod ({ cls := "SpanShelvesModel$Tree", name := "child", desc := "(II)I" } : Jvm.MethodName)) ∈ tw := tw_t 1347 (by decide +kernel) (by decide +kernel)
theorem tw_1348 : (Jvm.Cond.selects "SpanShelvesModel$Tree" ({ cls := "SpanShelvesModel$Tree", name := "child", desc := "(II)I" } : Jvm.MethodName) ({ cls := "SpanShelvesModel$Tree", name := "child", desc := "(II)I" } : Jvm.MethodName)) ∈ tw := tw_t 1348 (by decide +kernel) (by decide +kernel)
theorem tw_1349 : (Jvm.Cond.code ({ cls := "SpanShelvesModel$Tree", name := "child", desc := "(II)I" } : Jvm.MethodName) prog_10_method_6_code (5 : Nat) (Option.some Jvm.ClassFile.FieldType.int)) ∈ tw := tw_t 1349 (by decide +kernel) (by decide +kernel)
theorem tw_1389 : (Jvm.Cond.constantLong "SpanShelvesModel" (101 : Nat) (4294967295 : Int64)) ∈ tw := tw_t 1389 (by decide +kernel) (by decide +kernel)
theorem twp_26 : (Jvm.Cond.selects "SpanShelvesModel" ({ cls := "SpanShelvesModel", name := "rests", desc := "(I)V" } : Jvm.MethodName) ({ cls := "SpanShelvesModel", name := "rests", desc := "(I)V" } : Jvm.MethodName)) ∈ tw := tw_p 26 (q := (({ cls := "SpanShelvesModel", name := "rests", desc := "(I)V" } : Jvm.MethodName), 44)) (by decide +kernel) (by decide +kernel)
theorem twp_27 : (Jvm.Cond.selects "SpanShelvesModel" ({ cls := "SpanShelvesModel", name := "judgeRoot", desc := "()Z" } : Jvm.MethodName) ({ cls := "SpanShelvesModel", name := "judgeRoot", desc := "()Z" } : Jvm.MethodName)) ∈ tw := tw_p 27 (q := (({ cls := "SpanShelvesModel", name := "judgeRoot", desc := "()Z" } : Jvm.MethodName), 44)) (by decide +kernel) (by decide +kernel)
theorem twp_28 : (Jvm.Cond.selects "SpanShelvesModel" ({ cls := "SpanShelvesModel", name := "judges", desc := "()V" } : Jvm.MethodName) ({ cls := "SpanShelvesModel", name := "judges", desc := "()V" } : Jvm.MethodName)) ∈ tw := tw_p 28 (q := (({ cls := "SpanShelvesModel", name := "judges", desc := "()V" } : Jvm.MethodName), 44)) (by decide +kernel) (by decide +kernel)
theorem twp_29 : (Jvm.Cond.selects "SpanShelvesModel" ({ cls := "SpanShelvesModel", name := "document", desc := "(IIIZ)I" } : Jvm.MethodName) ({ cls := "SpanShelvesModel", name := "document", desc := "(IIIZ)I" } : Jvm.MethodName)) ∈ tw := tw_p 29 (q := (({ cls := "SpanShelvesModel", name := "document", desc := "(IIIZ)I" } : Jvm.MethodName), 44)) (by decide +kernel) (by decide +kernel)
theorem twp_30 : (Jvm.Cond.selects "SpanShelvesModel" ({ cls := "SpanShelvesModel", name := "wrong", desc := "(II)I" } : Jvm.MethodName) ({ cls := "SpanShelvesModel", name := "wrong", desc := "(II)I" } : Jvm.MethodName)) ∈ tw := tw_p 30 (q := (({ cls := "SpanShelvesModel", name := "wrong", desc := "(II)I" } : Jvm.MethodName), 44)) (by decide +kernel) (by decide +kernel)
theorem twp_31 : (Jvm.Cond.selects "SpanShelvesModel" ({ cls := "SpanShelvesModel", name := "some", desc := "(III)I" } : Jvm.MethodName) ({ cls := "SpanShelvesModel", name := "some", desc := "(III)I" } : Jvm.MethodName)) ∈ tw := tw_p 31 (q := (({ cls := "SpanShelvesModel", name := "some", desc := "(III)I" } : Jvm.MethodName), 44)) (by decide +kernel) (by decide +kernel)
theorem twp_32 : (Jvm.Cond.selects "SpanShelvesModel" ({ cls := "SpanShelvesModel", name := "element", desc := "(IIII)I" } : Jvm.MethodName) ({ cls := "SpanShelvesModel", name := "element", desc := "(IIII)I" } : Jvm.MethodName)) ∈ tw := tw_p 32 (q := (({ cls := "SpanShelvesModel", name := "element", desc := "(IIII)I" } : Jvm.MethodName), 44)) (by decide +kernel) (by decide +kernel)
theorem twp_33 : (Jvm.Cond.selects "SpanShelvesModel" ({ cls := "SpanShelvesModel", name := "name", desc := "(III)I" } : Jvm.MethodName) ({ cls := "SpanShelvesModel", name := "name", desc := "(III)I" } : Jvm.MethodName)) ∈ tw := tw_p 33 (q := (({ cls := "SpanShelvesModel", name := "name", desc := "(III)I" } : Jvm.MethodName), 44)) (by decide +kernel) (by decide +kernel)
theorem twp_34 : (Jvm.Cond.selects "SpanShelvesModel" ({ cls := "SpanShelvesModel", name := "zero", desc := "(II)I" } : Jvm.MethodName) ({ cls := "SpanShelvesModel", name := "zero", desc := "(II)I" } : Jvm.MethodName)) ∈ tw := tw_p 34 (q := (({ cls := "SpanShelvesModel", name := "zero", desc := "(II)I" } : Jvm.MethodName), 44)) (by decide +kernel) (by decide +kernel)
theorem twp_35 : (Jvm.Cond.selects "SpanShelvesModel" ({ cls := "SpanShelvesModel", name := "isNumber", desc := "(III)Z" } : Jvm.MethodName) ({ cls := "SpanShelvesModel", name := "isNumber", desc := "(III)Z" } : Jvm.MethodName)) ∈ tw := tw_p 35 (q := (({ cls := "SpanShelvesModel", name := "isNumber", desc := "(III)Z" } : Jvm.MethodName), 44)) (by decide +kernel) (by decide +kernel)
theorem twp_36 : (Jvm.Cond.selects "SpanShelvesModel" ({ cls := "SpanShelvesModel", name := "decimals", desc := "(I)I" } : Jvm.MethodName) ({ cls := "SpanShelvesModel", name := "decimals", desc := "(I)I" } : Jvm.MethodName)) ∈ tw := tw_p 36 (q := (({ cls := "SpanShelvesModel", name := "decimals", desc := "(I)I" } : Jvm.MethodName), 44)) (by decide +kernel) (by decide +kernel)
theorem twp_37 : (Jvm.Cond.selects "SpanShelvesModel" ({ cls := "SpanShelvesModel", name := "signs", desc := "(II)Z" } : Jvm.MethodName) ({ cls := "SpanShelvesModel", name := "signs", desc := "(II)Z" } : Jvm.MethodName)) ∈ tw := tw_p 37 (q := (({ cls := "SpanShelvesModel", name := "signs", desc := "(II)Z" } : Jvm.MethodName), 44)) (by decide +kernel) (by decide +kernel)
theorem twp_38 : (Jvm.Cond.selects "SpanShelvesModel" ({ cls := "SpanShelvesModel", name := "sign", desc := "(II)I" } : Jvm.MethodName) ({ cls := "SpanShelvesModel", name := "sign", desc := "(II)I" } : Jvm.MethodName)) ∈ tw := tw_p 38 (q := (({ cls := "SpanShelvesModel", name := "sign", desc := "(II)I" } : Jvm.MethodName), 44)) (by decide +kernel) (by decide +kernel)
theorem twp_39 : (Jvm.Cond.selects "SpanShelvesModel" ({ cls := "SpanShelvesModel", name := "value", desc := "(IIII)I" } : Jvm.MethodName) ({ cls := "SpanShelvesModel", name := "value", desc := "(IIII)I" } : Jvm.MethodName)) ∈ tw := tw_p 39 (q := (({ cls := "SpanShelvesModel", name := "value", desc := "(IIII)I" } : Jvm.MethodName), 44)) (by decide +kernel) (by decide +kernel)
theorem twp_40 : (Jvm.Cond.selects "SpanShelvesModel" ({ cls := "SpanShelvesModel", name := "text", desc := "(II)I" } : Jvm.MethodName) ({ cls := "SpanShelvesModel", name := "text", desc := "(II)I" } : Jvm.MethodName)) ∈ tw := tw_p 40 (q := (({ cls := "SpanShelvesModel", name := "text", desc := "(II)I" } : Jvm.MethodName), 44)) (by decide +kernel) (by decide +kernel)
theorem twp_41 : (Jvm.Cond.selects "SpanShelvesModel" ({ cls := "SpanShelvesModel", name := "binary", desc := "(II)I" } : Jvm.MethodName) ({ cls := "SpanShelvesModel", name := "binary", desc := "(II)I" } : Jvm.MethodName)) ∈ tw := tw_p 41 (q := (({ cls := "SpanShelvesModel", name := "binary", desc := "(II)I" } : Jvm.MethodName), 44)) (by decide +kernel) (by decide +kernel)
theorem twp_42 : (Jvm.Cond.selects "SpanShelvesModel" ({ cls := "SpanShelvesModel", name := "scoped", desc := "(III)I" } : Jvm.MethodName) ({ cls := "SpanShelvesModel", name := "scoped", desc := "(III)I" } : Jvm.MethodName)) ∈ tw := tw_p 42 (q := (({ cls := "SpanShelvesModel", name := "scoped", desc := "(III)I" } : Jvm.MethodName), 44)) (by decide +kernel) (by decide +kernel)
theorem twp_43 : (Jvm.Cond.selects "SpanShelvesModel" ({ cls := "SpanShelvesModel", name := "isAll", desc := "(I)Z" } : Jvm.MethodName) ({ cls := "SpanShelvesModel", name := "isAll", desc := "(I)Z" } : Jvm.MethodName)) ∈ tw := tw_p 43 (q := (({ cls := "SpanShelvesModel", name := "isAll", desc := "(I)Z" } : Jvm.MethodName), 44)) (by decide +kernel) (by decide +kernel)
theorem iw_X8 : ∀ w ∈ u_ws RX8 TX8 44, w ∈ tw := fun w h => List.mem_filter.mpr ⟨(show ∀ w ∈ u_ws RX8 TX8 44, w ∈ lw_tbl by decide +kernel) w h, (show ∀ w ∈ u_ws RX8 TX8 44, tw_ok w = true by decide +kernel) w h⟩
theorem fl_X8_1 : FL RX8 1 7 0 := ⟨by decide, RX8, TX8, 44, tyX8, rfl, by decide, rfl, iw_X8, tyX8_ok, nmX8, Or.inl tw_1075⟩
theorem fl_X8_13 : FL RX8 13 7 1 := ⟨by decide, RX8, TX8, 44, tyX8, rfl, by decide, rfl, iw_X8, tyX8_ok, nmX8, Or.inl tw_1076⟩
theorem fl_X8_17 : FL RX8 17 7 4 := ⟨by decide, RX8, TX8, 44, tyX8, rfl, by decide, rfl, iw_X8, tyX8_ok, nmX8, Or.inl tw_1079⟩
theorem fl_X8_22 : FL RX8 22 7 5 := ⟨by decide, RX8, TX8, 44, tyX8, rfl, by decide, rfl, iw_X8, tyX8_ok, nmX8, Or.inl tw_1080⟩
theorem fl_X8_25 : FL RX8 25 7 6 := ⟨by decide, RX8, TX8, 44, tyX8, rfl, by decide, rfl, iw_X8, tyX8_ok, nmX8, Or.inl tw_1081⟩
theorem fl_X8_31 : FL RX8 31 7 7 := ⟨by decide, RX8, TX8, 44, tyX8, rfl, by decide, rfl, iw_X8, tyX8_ok, nmX8, Or.inl tw_1082⟩
theorem fl_X8_34 : FL RX8 34 7 8 := ⟨by decide, RX8, TX8, 44, tyX8, rfl, by decide, rfl, iw_X8, tyX8_ok, nmX8, Or.inl tw_1083⟩
theorem fl_X8_37 : FL RX8 37 7 9 := ⟨by decide, RX8, TX8, 44, tyX8, rfl, by decide, rfl, iw_X8, tyX8_ok, nmX8, Or.inl tw_1084⟩
theorem fl_X8_58 : FL RX8 58 7 19 := ⟨by decide, RX8, TX8, 44, tyX8, rfl, by decide, rfl, iw_X8, tyX8_ok, nmX8, Or.inl tw_1094⟩
theorem fl_X8_61 : FL RX8 61 7 20 := ⟨by decide, RX8, TX8, 44, tyX8, rfl, by decide, rfl, iw_X8, tyX8_ok, nmX8, Or.inl tw_1095⟩
theorem fl_X8_103 : FL RX8 103 7 2 := ⟨by decide, RX8, TX8, 44, tyX8, rfl, by decide, rfl, iw_X8, tyX8_ok, nmX8, Or.inl tw_1077⟩
theorem fl_X8_106 : FL RX8 106 7 3 := ⟨by decide, RX8, TX8, 44, tyX8, rfl, by decide, rfl, iw_X8, tyX8_ok, nmX8, Or.inl tw_1078⟩
theorem fd_X8_0 : ∀ (C : String) (T : u_T) (N : Nat), vwCl[7]? = some (C, T, N) → (T 0).2.2.2 = false ∧ parseFieldDescriptor (T 0).2.2.1 = some .int := by intro C T N h; cases h; exact ⟨rfl, by decide +kernel⟩
theorem fd_X8_2 : ∀ (C : String) (T : u_T) (N : Nat), vwCl[7]? = some (C, T, N) → (T 2).2.2.2 = false ∧ parseFieldDescriptor (T 2).2.2.1 = some .int := by intro C T N h; cases h; exact ⟨rfl, by decide +kernel⟩
theorem fd_X8_3 : ∀ (C : String) (T : u_T) (N : Nat), vwCl[7]? = some (C, T, N) → (T 3).2.2.2 = false ∧ parseFieldDescriptor (T 3).2.2.1 = some .int := by intro C T N h; cases h; exact ⟨rfl, by decide +kernel⟩
theorem fd_X8_4 : ∀ (C : String) (T : u_T) (N : Nat), vwCl[7]? = some (C, T, N) → (T 4).2.2.2 = false ∧ parseFieldDescriptor (T 4).2.2.1 = some .int := by intro C T N h; cases h; exact ⟨rfl, by decide +kernel⟩
theorem mm_X7_child : MM 6 yX7_child cX7_child 5 (some .int) 2 := ⟨by decide, RX7, TX7, 13, rfl, tw_1347, tw_1348, tw_1349, tw_11, by decide +kernel, by decide +kernel, by decide +kernel⟩
theorem mm_X8_binary : MM 7 yX8_binary cX8_binary 4 (some .int) 2 := ⟨by decide, RX8, TX8, 44, rfl, tw_1294, twp_41, tw_1295, tw_10, by decide +kernel, by decide +kernel, by decide +kernel⟩
theorem mm_X8_decimals : MM 7 yX8_decimals cX8_decimals 5 (some .int) 1 := ⟨by decide, RX8, TX8, 44, rfl, tw_1269, twp_36, tw_1270, tw_10, by decide +kernel, by decide +kernel, by decide +kernel⟩
theorem mm_X8_document : MM 7 yX8_document cX8_document 9 (some .int) 4 := ⟨by decide, RX8, TX8, 44, rfl, tw_1235, twp_29, tw_1236, tw_10, by decide +kernel, by decide +kernel, by decide +kernel⟩
theorem mm_X8_element : MM 7 yX8_element cX8_element 7 (some .int) 4 := ⟨by decide, RX8, TX8, 44, rfl, tw_1250, twp_32, tw_1251, tw_10, by decide +kernel, by decide +kernel, by decide +kernel⟩
theorem mm_X8_isAll : MM 7 yX8_isAll cX8_isAll 2 (some .boolean) 1 := ⟨by decide, RX8, TX8, 44, rfl, tw_1303, twp_43, tw_1304, tw_10, by decide +kernel, by decide +kernel, by decide +kernel⟩
theorem mm_X8_isNumber : MM 7 yX8_isNumber cX8_isNumber 7 (some .boolean) 3 := ⟨by decide, RX8, TX8, 44, rfl, tw_1265, twp_35, tw_1266, tw_10, by decide +kernel, by decide +kernel, by decide +kernel⟩
theorem mm_X8_isType : MS yX8_isType cX8_isType 1 (some .boolean) 1 := ⟨tw_1253, tw_1254, tw_10, by decide +kernel, by decide +kernel, by decide +kernel⟩
theorem mm_X8_judgeRoot : MM 7 yX8_judgeRoot cX8_judgeRoot 1 (some .boolean) 0 := ⟨by decide, RX8, TX8, 44, rfl, tw_1227, twp_27, tw_1228, tw_10, by decide +kernel, by decide +kernel, by decide +kernel⟩
theorem mm_X8_judges : MM 7 yX8_judges cX8_judges 1 none 0 := ⟨by decide, RX8, TX8, 44, rfl, tw_1231, twp_28, tw_1232, tw_10, by decide +kernel, by decide +kernel, by decide +kernel⟩
theorem mm_X8_name : MM 7 yX8_name cX8_name 5 (some .int) 3 := ⟨by decide, RX8, TX8, 44, rfl, tw_1257, twp_33, tw_1258, tw_10, by decide +kernel, by decide +kernel, by decide +kernel⟩
theorem mm_X8_rests : MM 7 yX8_rests cX8_rests 2 none 1 := ⟨by decide, RX8, TX8, 44, rfl, tw_1073, twp_26, tw_1074, tw_10, by decide +kernel, by decide +kernel, by decide +kernel⟩
theorem mm_X8_scoped : MM 7 yX8_scoped cX8_scoped 6 (some .int) 3 := ⟨by decide, RX8, TX8, 44, rfl, tw_1299, twp_42, tw_1300, tw_10, by decide +kernel, by decide +kernel, by decide +kernel⟩
theorem mm_X8_sign : MM 7 yX8_sign cX8_sign 8 (some .int) 2 := ⟨by decide, RX8, TX8, 44, rfl, tw_1277, twp_38, tw_1278, tw_10, by decide +kernel, by decide +kernel, by decide +kernel⟩
theorem mm_X8_signs : MM 7 yX8_signs cX8_signs 5 (some .boolean) 2 := ⟨by decide, RX8, TX8, 44, rfl, tw_1273, twp_37, tw_1274, tw_10, by decide +kernel, by decide +kernel, by decide +kernel⟩
theorem mm_X8_some : MM 7 yX8_some cX8_some 4 (some .int) 3 := ⟨by decide, RX8, TX8, 44, rfl, tw_1243, twp_31, tw_1244, tw_10, by decide +kernel, by decide +kernel, by decide +kernel⟩
theorem mm_X8_text : MM 7 yX8_text cX8_text 5 (some .int) 2 := ⟨by decide, RX8, TX8, 44, rfl, tw_1289, twp_40, tw_1290, tw_10, by decide +kernel, by decide +kernel, by decide +kernel⟩
theorem mm_X8_value : MM 7 yX8_value cX8_value 6 (some .int) 4 := ⟨by decide, RX8, TX8, 44, rfl, tw_1285, twp_39, tw_1286, tw_10, by decide +kernel, by decide +kernel, by decide +kernel⟩
theorem mm_X8_wrong : MM 7 yX8_wrong cX8_wrong 3 (some .int) 2 := ⟨by decide, RX8, TX8, 44, rfl, tw_1239, twp_30, tw_1240, tw_10, by decide +kernel, by decide +kernel, by decide +kernel⟩
theorem mm_X8_zero : MM 7 yX8_zero cX8_zero 4 (some .int) 2 := ⟨by decide, RX8, TX8, 44, rfl, tw_1261, twp_34, tw_1262, tw_10, by decide +kernel, by decide +kernel, by decide +kernel⟩
theorem dX8_thrown_0 : decode cX8_thrown 0 = .ok (.aload_n 0, 1) := by decide +kernel
theorem dX8_thrown_1 : decode cX8_thrown 1 = .ok (.getfield 1, 3) := by decide +kernel
theorem dX8_thrown_4 : decode cX8_thrown 4 = .ok (.ireturn, 1) := by decide +kernel
abbrev rm_X8_thrown : Room := { frames := 0, cells := 0, slots := 0, locals := 0 }
def f_X8_thrown (cy : Nat → ClassId) (a0 : Nat) (μ : Mem) : Option (Int32 × Mem) :=
  (rdI μ a0 7 0).bind fun v1 => some (v1, μ)
set_option maxRecDepth 100000 in
set_option maxHeartbeats 4000000 in
theorem c_X8_thrown {l : Launch} {g : Wg} {L : List Nat} {μ : Mem} {a0 : Nat} {r : Int32} {μ' : Mem} (hf : f_X8_thrown g.2 a0 μ = some (r, μ')) : MetI l yX8_thrown cX8_thrown 1 (some .int) rm_X8_thrown g L μ [.ref a0] r μ' := by
  refine pw_met (Qc := fun A => QI g L A r μ') (by decide) (Nat.le_of_ble_eq_true rfl) ?_
  intro p e s m args below meth c A ls H locs hC hr hlocks hl hw
  have hx := hC.1
  have hb := hC.2.1
  have hl : lv_has ls 1 [(0, .ref a0)] := hl
  unfold f_X8_thrown at hf
  refine lv_aload_n hx hb dX8_thrown_0 rfl (lv_at hl 0 rfl) ?_
  obtain ⟨v1, h2, hf⟩ := o_bind hf
  refine pw_get hC fl_X8_1 hw (rdI_F h2) dX8_thrown_1 ?_
  obtain ⟨rfl, rfl⟩ := o_ret hf
  exact pw_iret hC hr hlocks hw dX8_thrown_4
theorem dX8_rests_0 : decode cX8_rests 0 = .ok (.aload_n 0, 1) := by decide +kernel
theorem dX8_rests_1 : decode cX8_rests 1 = .ok (.getfield 34, 3) := by decide +kernel
theorem dX8_rests_4 : decode cX8_rests 4 = .ok (.iload_n 1, 1) := by decide +kernel
theorem dX8_rests_5 : decode cX8_rests 5 = .ok (.iconst 0, 1) := by decide +kernel
theorem dX8_rests_6 : decode cX8_rests 6 = .ok (.iastore, 1) := by decide +kernel
theorem dX8_rests_7 : decode cX8_rests 7 = .ok (.aload_n 0, 1) := by decide +kernel
theorem dX8_rests_8 : decode cX8_rests 8 = .ok (.getfield 37, 3) := by decide +kernel
theorem dX8_rests_11 : decode cX8_rests 11 = .ok (.iload_n 1, 1) := by decide +kernel
theorem dX8_rests_12 : decode cX8_rests 12 = .ok (.aload_n 0, 1) := by decide +kernel
theorem dX8_rests_13 : decode cX8_rests 13 = .ok (.getfield 25, 3) := by decide +kernel
theorem dX8_rests_16 : decode cX8_rests 16 = .ok (.iload_n 1, 1) := by decide +kernel
theorem dX8_rests_17 : decode cX8_rests 17 = .ok (.iaload, 1) := by decide +kernel
theorem dX8_rests_18 : decode cX8_rests 18 = .ok (.iconst 5, 1) := by decide +kernel
theorem dX8_rests_19 : decode cX8_rests 19 = .ok (.if_icmp .le 7, 3) := by decide +kernel
theorem dX8_rests_22 : decode cX8_rests 22 = .ok (.iconst 0, 1) := by decide +kernel
theorem dX8_rests_23 : decode cX8_rests 23 = .ok (.goto 4, 3) := by decide +kernel
theorem dX8_rests_26 : decode cX8_rests 26 = .ok (.iconst (-1), 1) := by decide +kernel
theorem dX8_rests_27 : decode cX8_rests 27 = .ok (.iastore, 1) := by decide +kernel
theorem dX8_rests_28 : decode cX8_rests 28 = .ok (.return_, 1) := by decide +kernel
abbrev rm_X8_rests : Room := { frames := 0, cells := 0, slots := 0, locals := 0 }
def f_X8_rests_L27 (cy : Nat → ClassId) (t0 : Nat) (t1 : Int32) (t2 : Int32) (μ : Mem) : Option Mem :=
  (wrA cy μ 1 t0 t1 t2).bind fun μ101 => some μ101
set_option maxRecDepth 100000 in
set_option maxHeartbeats 4000000 in
theorem w_X8_rests_L27 {p : Program} {l : Launch} {e : Env} {s : State} {m : MethodId} {args : Array Value} {below : List Frame} {meth : Method} {c : Code} {A : Nat → Prop} {g : Wg} {L : List Nat} {μ' : Mem} (hC : CX p m c cX8_rests 2 s args RX8) (hr : meth.sig.returnType = none) (hlocks : meth.locks = false) : ∀ (t0 : Nat) (t1 : Int32) (t2 : Int32) (μ : Mem) (H : Heap) (locs : List Loc) (ls : Array Slot), lv_has ls 2 [] → PW g L μ A s H locs → f_X8_rests_L27 g.2 t0 t1 t2 μ = some μ' → W p l e rm_X8_rests s m args below meth c H locs 0 0 (MQ below (QV g L A μ') args s 0 0 A) (F0 m 27 ls [.int t2, .int t1, .ref t0]) := by
  have hx := hC.1
  have hb := hC.2.1
  intro t0 t1 t2 μ H locs ls hl hw hf
  unfold f_X8_rests_L27 at hf
  obtain ⟨μ101, h102, hf⟩ := o_bind hf
  refine pw_iast hC hw h102 dX8_rests_27 (fun H locs hw => ?_)
  obtain rfl := o_retv hf
  exact pw_vret hC hr hlocks hw dX8_rests_28
def f_X8_rests (cy : Nat → ClassId) (a0 : Nat) (a1 : Int32) (μ : Mem) : Option Mem :=
  (rdR μ a0 7 8).bind fun q1 => (wrA cy μ 1 q1 a1 0).bind fun μ3 => (rdR μ3 a0 7 9).bind fun q5 => (rdR μ3 a0 7 6).bind fun q7 => (rdA cy μ3 1 q7 a1).bind fun v9 => if v9 ≤ 5 then (f_X8_rests_L27 cy q5 a1 (-1) μ3) else f_X8_rests_L27 cy q5 a1 0 μ3
set_option maxRecDepth 100000 in
set_option maxHeartbeats 4000000 in
theorem c_X8_rests {l : Launch} {g : Wg} {L : List Nat} {μ : Mem} {a0 : Nat} {a1 : Int32} {μ' : Mem} (hf : f_X8_rests g.2 a0 a1 μ = some μ') : MetV l yX8_rests cX8_rests 2 none rm_X8_rests g L μ [.ref a0, .int a1] μ' := by
  refine pw_met (Qc := fun A => QV g L A μ') (by decide) (Nat.le_of_ble_eq_true rfl) ?_
  intro p e s m args below meth c A ls H locs hC hr hlocks hl hw
  have hx := hC.1
  have hb := hC.2.1
  have hl : lv_has ls 2 [(0, .ref a0), (1, .int a1)] := hl
  unfold f_X8_rests at hf
  refine lv_aload_n hx hb dX8_rests_0 rfl (lv_at hl 0 rfl) ?_
  obtain ⟨q1, h2, hf⟩ := o_bind hf
  refine pw_get hC fl_X8_34 hw (rdR_F h2) dX8_rests_1 ?_
  refine lv_iload_n hx hb dX8_rests_4 rfl (lv_at hl 1 rfl) ?_
  refine lv_iconst (v := 0) hx hb dX8_rests_5 nc_iconst_0 ?_
  obtain ⟨μ3, h4, hf⟩ := o_bind hf
  refine pw_iast hC hw h4 dX8_rests_6 (fun H locs hw => ?_)
  refine lv_aload_n hx hb dX8_rests_7 rfl (lv_at hl 0 rfl) ?_
  obtain ⟨q5, h6, hf⟩ := o_bind hf
  refine pw_get hC fl_X8_37 hw (rdR_F h6) dX8_rests_8 ?_
  refine lv_iload_n hx hb dX8_rests_11 rfl (lv_at hl 1 rfl) ?_
  refine lv_aload_n hx hb dX8_rests_12 rfl (lv_at hl 0 rfl) ?_
  obtain ⟨q7, h8, hf⟩ := o_bind hf
  refine pw_get hC fl_X8_25 hw (rdR_F h8) dX8_rests_13 ?_
  refine lv_iload_n hx hb dX8_rests_16 rfl (lv_at hl 1 rfl) ?_
  obtain ⟨v9, h10, hf⟩ := o_bind hf
  refine pw_iald hC hw h10 dX8_rests_17 ?_
  refine lv_iconst (v := 5) hx hb dX8_rests_18 nc_iconst_5 ?_
  refine lv_icmp_le (tgt := 26) hx hb dX8_rests_19 (by decide) (fun c11 => ?_) (fun c11 => ?_)
  · have hf := o_pos c11 hf
    refine lv_iconst (v := (-1)) hx hb dX8_rests_26 nc_iconst_m1 ?_
    exact w_X8_rests_L27 hC hr hlocks _ _ _ _ _ _ ls (lv_sub hl [] rfl) hw hf
  · have hf := o_neg c11 hf
    refine lv_iconst (v := 0) hx hb dX8_rests_22 nc_iconst_0 ?_
    refine lv_goto (tgt := 27) hx hb dX8_rests_23 (by decide) ?_
    exact w_X8_rests_L27 hC hr hlocks _ _ _ _ _ _ ls (lv_sub hl [] rfl) hw hf
theorem dX8_longAt_0 : decode cX8_longAt 0 = .ok (.aload_n 0, 1) := by decide +kernel
theorem dX8_longAt_1 : decode cX8_longAt 1 = .ok (.iload_n 1, 1) := by decide +kernel
theorem dX8_longAt_2 : decode cX8_longAt 2 = .ok (.invokestatic 97, 3) := by decide +kernel
theorem dX8_longAt_5 : decode cX8_longAt 5 = .ok (.i2l, 1) := by decide +kernel
theorem dX8_longAt_6 : decode cX8_longAt 6 = .ok (.ldc2_w 101, 3) := by decide +kernel
theorem dX8_longAt_9 : decode cX8_longAt 9 = .ok (.land, 1) := by decide +kernel
theorem dX8_longAt_10 : decode cX8_longAt 10 = .ok (.aload_n 0, 1) := by decide +kernel
theorem dX8_longAt_11 : decode cX8_longAt 11 = .ok (.iload_n 1, 1) := by decide +kernel
theorem dX8_longAt_12 : decode cX8_longAt 12 = .ok (.iconst 4, 1) := by decide +kernel
theorem dX8_longAt_13 : decode cX8_longAt 13 = .ok (.iadd, 1) := by decide +kernel
theorem dX8_longAt_14 : decode cX8_longAt 14 = .ok (.invokestatic 97, 3) := by decide +kernel
theorem dX8_longAt_17 : decode cX8_longAt 17 = .ok (.i2l, 1) := by decide +kernel
theorem dX8_longAt_18 : decode cX8_longAt 18 = .ok (.bipush 32, 2) := by decide +kernel
theorem dX8_longAt_20 : decode cX8_longAt 20 = .ok (.lshl, 1) := by decide +kernel
theorem dX8_longAt_21 : decode cX8_longAt 21 = .ok (.lor, 1) := by decide +kernel
theorem dX8_longAt_22 : decode cX8_longAt 22 = .ok (.lreturn, 1) := by decide +kernel
abbrev rm_X8_longAt : Room := { frames := 1, cells := 0, slots := 0, locals := 21 }
def f_X8_longAt (cy : Nat → ClassId) (a0 : Nat) (a1 : Int32) (μ : Mem) : Option (Int64 × Mem) :=
  ob2 (f_X8_intAt cy a0 a1 μ) fun r3 μ2 => ob2 (f_X8_intAt cy a0 (a1 + 4) μ2) fun r6 μ5 => some ((((Int32.toInt64 r3) &&& (4294967295 : Int64)) ||| ((Int32.toInt64 r6) <<< (Int32.toInt64 32 &&& 63))), μ5)
set_option maxRecDepth 100000 in
set_option maxHeartbeats 4000000 in
theorem c_X8_longAt {l : Launch} {g : Wg} {L : List Nat} {μ : Mem} {a0 : Nat} {a1 : Int32} {r : Int64} {μ' : Mem} (hf : f_X8_longAt g.2 a0 a1 μ = some (r, μ')) : MetL l yX8_longAt cX8_longAt 2 (some .long) rm_X8_longAt g L μ [.ref a0, .int a1] r μ' := by
  refine pw_met (Qc := fun A => QL g L A r μ') (by decide) (Nat.le_of_ble_eq_true rfl) ?_
  intro p e s m args below meth c A ls H locs hC hr hlocks hl hw
  have hx := hC.1
  have hb := hC.2.1
  have hl : lv_has ls 2 [(0, .ref a0), (1, .int a1)] := hl
  unfold f_X8_longAt at hf
  refine lv_aload_n hx hb dX8_longAt_0 rfl (lv_at hl 0 rfl) ?_
  refine lv_iload_n hx hb dX8_longAt_1 rfl (lv_at hl 1 rfl) ?_
  obtain ⟨r3, μ2, h1, hf⟩ := o_bind2 hf
  refine pw_goI hw (pw_runS (As := [.ref a0, .int a1]) (rest := []) hC mm_X8_intAt tw_1245 (c_X8_intAt h1 _) ⟨rfl, rfl, by decide, by decide⟩ hw rfl hl.1 (Nat.le_of_ble_eq_true rfl) ⟨Nat.zero_le _, Nat.zero_le _⟩ rfl dX8_longAt_2) (fun H locs hw => ?_)
  refine lv_i2l hx hb dX8_longAt_5 rfl ?_
  refine lv_ldc2 (v := 4294967295) hx hb hC.2.2.2.1 (hC.2.2.2.2 _ tw_1389) dX8_longAt_6 ?_
  refine lv_land hx hb dX8_longAt_9 ?_
  refine lv_aload_n hx hb dX8_longAt_10 rfl (lv_at hl 0 rfl) ?_
  refine lv_iload_n hx hb dX8_longAt_11 rfl (lv_at hl 1 rfl) ?_
  refine lv_iconst (v := 4) hx hb dX8_longAt_12 nc_iconst_4 ?_
  refine lv_iadd hx hb dX8_longAt_13 ?_
  obtain ⟨r6, μ5, h4, hf⟩ := o_bind2 hf
  refine pw_goI hw (pw_runS (As := [.ref a0, .int (a1 + 4)]) (rest := [.long ((Int32.toInt64 r3) &&& (4294967295 : Int64))]) hC mm_X8_intAt tw_1245 (c_X8_intAt h4 _) ⟨rfl, rfl, by decide, by decide⟩ hw rfl hl.1 (Nat.le_of_ble_eq_true rfl) ⟨Nat.zero_le _, Nat.zero_le _⟩ rfl dX8_longAt_14) (fun H locs hw => ?_)
  refine lv_i2l hx hb dX8_longAt_17 rfl ?_
  refine lv_bipush (v := 32) hx hb dX8_longAt_18 nc_bipush_32 ?_
  refine lv_lshl hx hb dX8_longAt_20 rfl ?_
  refine lv_lor hx hb dX8_longAt_21 ?_
  obtain ⟨rfl, rfl⟩ := o_ret hf
  exact pw_lret hC hr hlocks hw dX8_longAt_22
theorem dX8_feed_0 : decode cX8_feed 0 = .ok (.aload_n 0, 1) := by decide +kernel
theorem dX8_feed_1 : decode cX8_feed 1 = .ok (.iconst 0, 1) := by decide +kernel
theorem dX8_feed_2 : decode cX8_feed 2 = .ok (.putfield 1, 3) := by decide +kernel
theorem dX8_feed_5 : decode cX8_feed 5 = .ok (.aload_n 0, 1) := by decide +kernel
theorem dX8_feed_6 : decode cX8_feed 6 = .ok (.getfield 103, 3) := by decide +kernel
theorem dX8_feed_9 : decode cX8_feed 9 = .ok (.bipush 20, 2) := by decide +kernel
theorem dX8_feed_11 : decode cX8_feed 11 = .ok (.iadd, 1) := by decide +kernel
theorem dX8_feed_12 : decode cX8_feed 12 = .ok (.sipush 2000, 3) := by decide +kernel
theorem dX8_feed_15 : decode cX8_feed 15 = .ok (.if_icmp .le 5, 3) := by decide +kernel
theorem dX8_feed_18 : decode cX8_feed 18 = .ok (.iconst (-1), 1) := by decide +kernel
theorem dX8_feed_19 : decode cX8_feed 19 = .ok (.ireturn, 1) := by decide +kernel
theorem dX8_feed_20 : decode cX8_feed 20 = .ok (.aload_n 0, 1) := by decide +kernel
theorem dX8_feed_21 : decode cX8_feed 21 = .ok (.getfield 58, 3) := by decide +kernel
theorem dX8_feed_24 : decode cX8_feed 24 = .ok (.astore 6, 2) := by decide +kernel
theorem dX8_feed_26 : decode cX8_feed 26 = .ok (.aload 6, 2) := by decide +kernel
theorem dX8_feed_28 : decode cX8_feed 28 = .ok (.iconst 0, 1) := by decide +kernel
theorem dX8_feed_29 : decode cX8_feed 29 = .ok (.iload_n 1, 1) := by decide +kernel
theorem dX8_feed_30 : decode cX8_feed 30 = .ok (.iastore, 1) := by decide +kernel
theorem dX8_feed_31 : decode cX8_feed 31 = .ok (.aload 6, 2) := by decide +kernel
theorem dX8_feed_33 : decode cX8_feed 33 = .ok (.iconst 1, 1) := by decide +kernel
theorem dX8_feed_34 : decode cX8_feed 34 = .ok (.iload_n 2, 1) := by decide +kernel
theorem dX8_feed_35 : decode cX8_feed 35 = .ok (.iastore, 1) := by decide +kernel
theorem dX8_feed_36 : decode cX8_feed 36 = .ok (.aload 6, 2) := by decide +kernel
theorem dX8_feed_38 : decode cX8_feed 38 = .ok (.iconst 2, 1) := by decide +kernel
theorem dX8_feed_39 : decode cX8_feed 39 = .ok (.iload_n 3, 1) := by decide +kernel
theorem dX8_feed_40 : decode cX8_feed 40 = .ok (.iastore, 1) := by decide +kernel
theorem dX8_feed_41 : decode cX8_feed 41 = .ok (.aload 6, 2) := by decide +kernel
theorem dX8_feed_43 : decode cX8_feed 43 = .ok (.iconst 3, 1) := by decide +kernel
theorem dX8_feed_44 : decode cX8_feed 44 = .ok (.iload 4, 2) := by decide +kernel
theorem dX8_feed_46 : decode cX8_feed 46 = .ok (.iastore, 1) := by decide +kernel
theorem dX8_feed_47 : decode cX8_feed 47 = .ok (.aload 6, 2) := by decide +kernel
theorem dX8_feed_49 : decode cX8_feed 49 = .ok (.iconst 4, 1) := by decide +kernel
theorem dX8_feed_50 : decode cX8_feed 50 = .ok (.iload 5, 2) := by decide +kernel
theorem dX8_feed_52 : decode cX8_feed 52 = .ok (.iastore, 1) := by decide +kernel
theorem dX8_feed_53 : decode cX8_feed 53 = .ok (.iconst 0, 1) := by decide +kernel
theorem dX8_feed_54 : decode cX8_feed 54 = .ok (.istore 7, 2) := by decide +kernel
theorem dX8_feed_56 : decode cX8_feed 56 = .ok (.iload 7, 2) := by decide +kernel
theorem dX8_feed_58 : decode cX8_feed 58 = .ok (.bipush 20, 2) := by decide +kernel
theorem dX8_feed_60 : decode cX8_feed 60 = .ok (.if_icmp .ge 40, 3) := by decide +kernel
theorem dX8_feed_63 : decode cX8_feed 63 = .ok (.aload_n 0, 1) := by decide +kernel
theorem dX8_feed_64 : decode cX8_feed 64 = .ok (.getfield 13, 3) := by decide +kernel
theorem dX8_feed_67 : decode cX8_feed 67 = .ok (.aload_n 0, 1) := by decide +kernel
theorem dX8_feed_68 : decode cX8_feed 68 = .ok (.getfield 103, 3) := by decide +kernel
theorem dX8_feed_71 : decode cX8_feed 71 = .ok (.iload 7, 2) := by decide +kernel
theorem dX8_feed_73 : decode cX8_feed 73 = .ok (.iadd, 1) := by decide +kernel
theorem dX8_feed_74 : decode cX8_feed 74 = .ok (.aload 6, 2) := by decide +kernel
theorem dX8_feed_76 : decode cX8_feed 76 = .ok (.iload 7, 2) := by decide +kernel
theorem dX8_feed_78 : decode cX8_feed 78 = .ok (.iconst 4, 1) := by decide +kernel
theorem dX8_feed_79 : decode cX8_feed 79 = .ok (.idiv, 1) := by decide +kernel
theorem dX8_feed_80 : decode cX8_feed 80 = .ok (.iaload, 1) := by decide +kernel
theorem dX8_feed_81 : decode cX8_feed 81 = .ok (.bipush 24, 2) := by decide +kernel
theorem dX8_feed_83 : decode cX8_feed 83 = .ok (.bipush 8, 2) := by decide +kernel
theorem dX8_feed_85 : decode cX8_feed 85 = .ok (.iload 7, 2) := by decide +kernel
theorem dX8_feed_87 : decode cX8_feed 87 = .ok (.iconst 4, 1) := by decide +kernel
theorem dX8_feed_88 : decode cX8_feed 88 = .ok (.irem, 1) := by decide +kernel
theorem dX8_feed_89 : decode cX8_feed 89 = .ok (.imul, 1) := by decide +kernel
theorem dX8_feed_90 : decode cX8_feed 90 = .ok (.isub, 1) := by decide +kernel
theorem dX8_feed_91 : decode cX8_feed 91 = .ok (.ishr, 1) := by decide +kernel
theorem dX8_feed_92 : decode cX8_feed 92 = .ok (.i2b, 1) := by decide +kernel
theorem dX8_feed_93 : decode cX8_feed 93 = .ok (.bastore, 1) := by decide +kernel
theorem dX8_feed_94 : decode cX8_feed 94 = .ok (.iinc 7 1, 3) := by decide +kernel
theorem dX8_feed_97 : decode cX8_feed 97 = .ok (.goto (-41), 3) := by decide +kernel
theorem dX8_feed_100 : decode cX8_feed 100 = .ok (.aload_n 0, 1) := by decide +kernel
theorem dX8_feed_101 : decode cX8_feed 101 = .ok (.dup, 1) := by decide +kernel
theorem dX8_feed_102 : decode cX8_feed 102 = .ok (.getfield 103, 3) := by decide +kernel
theorem dX8_feed_105 : decode cX8_feed 105 = .ok (.bipush 20, 2) := by decide +kernel
theorem dX8_feed_107 : decode cX8_feed 107 = .ok (.iadd, 1) := by decide +kernel
theorem dX8_feed_108 : decode cX8_feed 108 = .ok (.putfield 103, 3) := by decide +kernel
theorem dX8_feed_111 : decode cX8_feed 111 = .ok (.aload_n 0, 1) := by decide +kernel
theorem dX8_feed_112 : decode cX8_feed 112 = .ok (.getfield 103, 3) := by decide +kernel
theorem dX8_feed_115 : decode cX8_feed 115 = .ok (.ireturn, 1) := by decide +kernel
abbrev rm_X8_feed : Room := { frames := 0, cells := 0, slots := 0, locals := 0 }
def f_X8_feed_L56 (cy : Nat → ClassId) : Nat → Nat → Nat → Int32 → Mem → Option (Int32 × Mem)
  | 0, _, _, _, _ => none
  | n + 1, a0, a6, a7, μ => if 20 ≤ a7 then ((rdI μ a0 7 2).bind fun v102 => (wrF μ a0 7 2 (.int (v102 + 20))).bind fun μ104 => (rdI μ104 a0 7 2).bind fun v106 => some (v106, μ104)) else (rdR μ a0 7 1).bind fun q108 => (rdI μ a0 7 2).bind fun v110 => (rdA cy μ 1 a6 (a7 / 4)).bind fun v112 => (wrA cy μ 0 q108 (v110 + a7) (vp_nar .byte ((Int32.toInt8 (v112 >>> ((24 - (8 * (a7 - a7 / 4 * 4))) &&& 31))).toInt32))).bind fun μ114 => f_X8_feed_L56 cy n a0 a6 (a7 + 1) μ114
set_option maxRecDepth 100000 in
set_option maxHeartbeats 4000000 in
theorem w_X8_feed_L56 {p : Program} {l : Launch} {e : Env} {s : State} {m : MethodId} {args : Array Value} {below : List Frame} {meth : Method} {c : Code} {A : Nat → Prop} {g : Wg} {L : List Nat} {r : Int32} {μ' : Mem} (hC : CX p m c cX8_feed 8 s args RX8) (hr : meth.sig.returnType = (some .int)) (hlocks : meth.locks = false) : ∀ (n : Nat), ∀ (a0 : Nat) (a6 : Nat) (a7 : Int32) (μ : Mem) (H : Heap) (locs : List Loc) (ls : Array Slot), lv_has ls 8 [(0, .ref a0), (6, .ref a6), (7, .int a7)] → PW g L μ A s H locs → f_X8_feed_L56 g.2 n a0 a6 a7 μ = some (r, μ') → W p l e rm_X8_feed s m args below meth c H locs 0 0 (MQ below (QI g L A r μ') args s 0 0 A) (F0 m 56 ls []) := by
  have hx := hC.1
  have hb := hC.2.1
  intro n
  induction n with
  | zero => intro a0 a6 a7 μ H locs ls hl hw hf; cases hf
  | succ n ih =>
    intro a0 a6 a7 μ H locs ls hl hw hf
    rw [f_X8_feed_L56] at hf
    refine lv_iload hx hb dX8_feed_56 (lv_at hl 2 rfl) ?_
    refine lv_bipush (v := 20) hx hb dX8_feed_58 nc_bipush_20 ?_
    refine lv_icmp_ge (tgt := 100) hx hb dX8_feed_60 (by decide) (fun c101 => ?_) (fun c101 => ?_)
    · have hf := o_pos c101 hf
      refine lv_aload_n hx hb dX8_feed_100 rfl (lv_at hl 0 rfl) ?_
      refine lv_dup hx hb dX8_feed_101 rfl ?_
      obtain ⟨v102, h103, hf⟩ := o_bind hf
      refine pw_get hC fl_X8_103 hw (rdI_F h103) dX8_feed_102 ?_
      refine lv_bipush (v := 20) hx hb dX8_feed_105 nc_bipush_20 ?_
      refine lv_iadd hx hb dX8_feed_107 ?_
      obtain ⟨μ104, h105, hf⟩ := o_bind hf
      refine pw_put hC fl_X8_103 hw h105 .int fd_X8_2 rfl rfl dX8_feed_108 (fun H locs hw => ?_)
      refine lv_aload_n hx hb dX8_feed_111 rfl (lv_at hl 0 rfl) ?_
      obtain ⟨v106, h107, hf⟩ := o_bind hf
      refine pw_get hC fl_X8_103 hw (rdI_F h107) dX8_feed_112 ?_
      obtain ⟨rfl, rfl⟩ := o_ret hf
      exact pw_iret hC hr hlocks hw dX8_feed_115
    · have hf := o_neg c101 hf
      refine lv_aload_n hx hb dX8_feed_63 rfl (lv_at hl 0 rfl) ?_
      obtain ⟨q108, h109, hf⟩ := o_bind hf
      refine pw_get hC fl_X8_13 hw (rdR_F h109) dX8_feed_64 ?_
      refine lv_aload_n hx hb dX8_feed_67 rfl (lv_at hl 0 rfl) ?_
      obtain ⟨v110, h111, hf⟩ := o_bind hf
      refine pw_get hC fl_X8_103 hw (rdI_F h111) dX8_feed_68 ?_
      refine lv_iload hx hb dX8_feed_71 (lv_at hl 2 rfl) ?_
      refine lv_iadd hx hb dX8_feed_73 ?_
      refine lv_aload hx hb dX8_feed_74 (lv_at hl 1 rfl) ?_
      refine lv_iload hx hb dX8_feed_76 (lv_at hl 2 rfl) ?_
      refine lv_iconst (v := 4) hx hb dX8_feed_78 nc_iconst_4 ?_
      refine lv_idiv hx hb dX8_feed_79 (by decide +kernel) ?_
      obtain ⟨v112, h113, hf⟩ := o_bind hf
      refine pw_iald hC hw h113 dX8_feed_80 ?_
      refine lv_bipush (v := 24) hx hb dX8_feed_81 nc_bipush_24 ?_
      refine lv_bipush (v := 8) hx hb dX8_feed_83 nc_bipush_8 ?_
      refine lv_iload hx hb dX8_feed_85 (lv_at hl 2 rfl) ?_
      refine lv_iconst (v := 4) hx hb dX8_feed_87 nc_iconst_4 ?_
      refine lv_irem hx hb dX8_feed_88 (by decide +kernel) ?_
      refine lv_imul hx hb dX8_feed_89 ?_
      refine lv_isub hx hb dX8_feed_90 ?_
      refine lv_ishr hx hb dX8_feed_91 ?_
      refine lv_i2b hx hb dX8_feed_92 rfl ?_
      obtain ⟨μ114, h115, hf⟩ := o_bind hf
      refine pw_bast hC hw h115 dX8_feed_93 (fun H locs hw => ?_)
      refine lv_iinc (v := (a7 + 1)) (lv' := [(7, .int (a7 + 1)), (0, .ref a0), (6, .ref a6)]) hx hb dX8_feed_94 hl (k := 2) rfl (by first | rfl | decide +kernel) (by decide) rfl (fun ls hl => ?_)
      refine lv_goto (tgt := 56) hx hb dX8_feed_97 (by decide) ?_
      exact ih _ _ _ _ _ _ ls (lv_sub hl [1, 2, 0] rfl) hw hf
def f_X8_feed (cy : Nat → ClassId) (a0 : Nat) (a1 : Int32) (a2 : Int32) (a3 : Int32) (a4 : Int32) (a5 : Int32) (μ : Mem) : Option (Int32 × Mem) :=
  (wrF μ a0 7 0 (.int 0)).bind fun μ1 => (rdI μ1 a0 7 2).bind fun v3 => if (v3 + 20) ≤ 2000 then ((rdR μ1 a0 7 19).bind fun q6 => (wrA cy μ1 1 q6 0 a1).bind fun μ8 => (wrA cy μ8 1 q6 1 a2).bind fun μ10 => (wrA cy μ10 1 q6 2 a3).bind fun μ12 => (wrA cy μ12 1 q6 3 a4).bind fun μ14 => (wrA cy μ14 1 q6 4 a5).bind fun μ16 => f_X8_feed_L56 cy FU a0 q6 0 μ16) else some ((-1), μ1)
set_option maxRecDepth 100000 in
set_option maxHeartbeats 4000000 in
theorem c_X8_feed {l : Launch} {g : Wg} {L : List Nat} {μ : Mem} {a0 : Nat} {a1 : Int32} {a2 : Int32} {a3 : Int32} {a4 : Int32} {a5 : Int32} {r : Int32} {μ' : Mem} (hf : f_X8_feed g.2 a0 a1 a2 a3 a4 a5 μ = some (r, μ')) : MetI l yX8_feed cX8_feed 8 (some .int) rm_X8_feed g L μ [.ref a0, .int a1, .int a2, .int a3, .int a4, .int a5] r μ' := by
  refine pw_met (Qc := fun A => QI g L A r μ') (by decide) (Nat.le_of_ble_eq_true rfl) ?_
  intro p e s m args below meth c A ls H locs hC hr hlocks hl hw
  have hx := hC.1
  have hb := hC.2.1
  have hl : lv_has ls 8 [(0, .ref a0), (1, .int a1), (2, .int a2), (3, .int a3), (4, .int a4), (5, .int a5)] := hl
  unfold f_X8_feed at hf
  refine lv_aload_n hx hb dX8_feed_0 rfl (lv_at hl 0 rfl) ?_
  refine lv_iconst (v := 0) hx hb dX8_feed_1 nc_iconst_0 ?_
  obtain ⟨μ1, h2, hf⟩ := o_bind hf
  refine pw_put hC fl_X8_1 hw h2 .int fd_X8_0 rfl rfl dX8_feed_2 (fun H locs hw => ?_)
  refine lv_aload_n hx hb dX8_feed_5 rfl (lv_at hl 0 rfl) ?_
  obtain ⟨v3, h4, hf⟩ := o_bind hf
  refine pw_get hC fl_X8_103 hw (rdI_F h4) dX8_feed_6 ?_
  refine lv_bipush (v := 20) hx hb dX8_feed_9 nc_bipush_20 ?_
  refine lv_iadd hx hb dX8_feed_11 ?_
  refine lv_sipush (v := 2000) hx hb dX8_feed_12 nc_sipush_2000 ?_
  refine lv_icmp_le (tgt := 20) hx hb dX8_feed_15 (by decide) (fun c5 => ?_) (fun c5 => ?_)
  · have hf := o_pos c5 hf
    refine lv_aload_n hx hb dX8_feed_20 rfl (lv_at hl 0 rfl) ?_
    obtain ⟨q6, h7, hf⟩ := o_bind hf
    refine pw_get hC fl_X8_58 hw (rdR_F h7) dX8_feed_21 ?_
    refine lv_astore (lv' := [(6, .ref q6), (0, .ref a0), (1, .int a1), (2, .int a2), (3, .int a3), (4, .int a4), (5, .int a5)]) hx hb dX8_feed_24 hl (by decide) rfl (fun ls hl => ?_)
    refine lv_aload hx hb dX8_feed_26 (lv_at hl 0 rfl) ?_
    refine lv_iconst (v := 0) hx hb dX8_feed_28 nc_iconst_0 ?_
    refine lv_iload_n hx hb dX8_feed_29 rfl (lv_at hl 2 rfl) ?_
    obtain ⟨μ8, h9, hf⟩ := o_bind hf
    refine pw_iast hC hw h9 dX8_feed_30 (fun H locs hw => ?_)
    refine lv_aload hx hb dX8_feed_31 (lv_at hl 0 rfl) ?_
    refine lv_iconst (v := 1) hx hb dX8_feed_33 nc_iconst_1 ?_
    refine lv_iload_n hx hb dX8_feed_34 rfl (lv_at hl 3 rfl) ?_
    obtain ⟨μ10, h11, hf⟩ := o_bind hf
    refine pw_iast hC hw h11 dX8_feed_35 (fun H locs hw => ?_)
    refine lv_aload hx hb dX8_feed_36 (lv_at hl 0 rfl) ?_
    refine lv_iconst (v := 2) hx hb dX8_feed_38 nc_iconst_2 ?_
    refine lv_iload_n hx hb dX8_feed_39 rfl (lv_at hl 4 rfl) ?_
    obtain ⟨μ12, h13, hf⟩ := o_bind hf
    refine pw_iast hC hw h13 dX8_feed_40 (fun H locs hw => ?_)
    refine lv_aload hx hb dX8_feed_41 (lv_at hl 0 rfl) ?_
    refine lv_iconst (v := 3) hx hb dX8_feed_43 nc_iconst_3 ?_
    refine lv_iload hx hb dX8_feed_44 (lv_at hl 5 rfl) ?_
    obtain ⟨μ14, h15, hf⟩ := o_bind hf
    refine pw_iast hC hw h15 dX8_feed_46 (fun H locs hw => ?_)
    refine lv_aload hx hb dX8_feed_47 (lv_at hl 0 rfl) ?_
    refine lv_iconst (v := 4) hx hb dX8_feed_49 nc_iconst_4 ?_
    refine lv_iload hx hb dX8_feed_50 (lv_at hl 6 rfl) ?_
    obtain ⟨μ16, h17, hf⟩ := o_bind hf
    refine pw_iast hC hw h17 dX8_feed_52 (fun H locs hw => ?_)
    refine lv_iconst (v := 0) hx hb dX8_feed_53 nc_iconst_0 ?_
    refine lv_istore (lv' := [(7, .int 0), (6, .ref q6), (0, .ref a0), (1, .int a1), (2, .int a2), (3, .int a3), (4, .int a4), (5, .int a5)]) hx hb dX8_feed_54 hl (by decide) rfl (fun ls hl => ?_)
    exact w_X8_feed_L56 hC hr hlocks FU _ _ _ _ _ _ ls (lv_sub hl [2, 1, 0] rfl) hw hf
  · have hf := o_neg c5 hf
    refine lv_iconst (v := (-1)) hx hb dX8_feed_18 nc_iconst_m1 ?_
    obtain ⟨rfl, rfl⟩ := o_ret hf
    exact pw_iret hC hr hlocks hw dX8_feed_19
theorem dX8_end_0 : decode cX8_end 0 = .ok (.aload_n 0, 1) := by decide +kernel
theorem dX8_end_1 : decode cX8_end 1 = .ok (.iconst 0, 1) := by decide +kernel
theorem dX8_end_2 : decode cX8_end 2 = .ok (.putfield 1, 3) := by decide +kernel
theorem dX8_end_5 : decode cX8_end 5 = .ok (.iload_n 1, 1) := by decide +kernel
theorem dX8_end_6 : decode cX8_end 6 = .ok (.ifCond .lt 11, 3) := by decide +kernel
theorem dX8_end_9 : decode cX8_end 9 = .ok (.iload_n 1, 1) := by decide +kernel
theorem dX8_end_10 : decode cX8_end 10 = .ok (.aload_n 0, 1) := by decide +kernel
theorem dX8_end_11 : decode cX8_end 11 = .ok (.getfield 103, 3) := by decide +kernel
theorem dX8_end_14 : decode cX8_end 14 = .ok (.if_icmp .le 5, 3) := by decide +kernel
theorem dX8_end_17 : decode cX8_end 17 = .ok (.iconst 0, 1) := by decide +kernel
theorem dX8_end_18 : decode cX8_end 18 = .ok (.ireturn, 1) := by decide +kernel
theorem dX8_end_19 : decode cX8_end 19 = .ok (.aload_n 0, 1) := by decide +kernel
theorem dX8_end_20 : decode cX8_end 20 = .ok (.iload_n 1, 1) := by decide +kernel
theorem dX8_end_21 : decode cX8_end 21 = .ok (.putfield 103, 3) := by decide +kernel
theorem dX8_end_24 : decode cX8_end 24 = .ok (.iconst 1, 1) := by decide +kernel
theorem dX8_end_25 : decode cX8_end 25 = .ok (.ireturn, 1) := by decide +kernel
abbrev rm_X8_end : Room := { frames := 0, cells := 0, slots := 0, locals := 0 }
def f_X8_end_L17 (cy : Nat → ClassId)  (μ : Mem) : Option (Int32 × Mem) :=
  some (0, μ)
set_option maxRecDepth 100000 in
set_option maxHeartbeats 4000000 in
theorem w_X8_end_L17 {p : Program} {l : Launch} {e : Env} {s : State} {m : MethodId} {args : Array Value} {below : List Frame} {meth : Method} {c : Code} {A : Nat → Prop} {g : Wg} {L : List Nat} {r : Int32} {μ' : Mem} (hC : CX p m c cX8_end 2 s args RX8) (hr : meth.sig.returnType = (some .boolean)) (hlocks : meth.locks = false) : ∀  (μ : Mem) (H : Heap) (locs : List Loc) (ls : Array Slot), lv_has ls 2 [] → PW g L μ A s H locs → f_X8_end_L17 g.2  μ = some (r, μ') → W p l e rm_X8_end s m args below meth c H locs 0 0 (MQ below (QI g L A r μ') args s 0 0 A) (F0 m 17 ls []) := by
  have hx := hC.1
  have hb := hC.2.1
  intro  μ H locs ls hl hw hf
  unfold f_X8_end_L17 at hf
  refine lv_iconst (v := 0) hx hb dX8_end_17 nc_iconst_0 ?_
  obtain ⟨rfl, rfl⟩ := o_ret hf
  exact pw_zret hC hr hlocks (Or.inl rfl) hw dX8_end_18
def f_X8_end (cy : Nat → ClassId) (a0 : Nat) (a1 : Int32) (μ : Mem) : Option (Int32 × Mem) :=
  (wrF μ a0 7 0 (.int 0)).bind fun μ1 => if a1 < 0 then (f_X8_end_L17 cy  μ1) else (rdI μ1 a0 7 2).bind fun v4 => if a1 ≤ v4 then ((wrF μ1 a0 7 2 (.int a1)).bind fun μ7 => some (1, μ7)) else f_X8_end_L17 cy  μ1
set_option maxRecDepth 100000 in
set_option maxHeartbeats 4000000 in
theorem c_X8_end {l : Launch} {g : Wg} {L : List Nat} {μ : Mem} {a0 : Nat} {a1 : Int32} {r : Int32} {μ' : Mem} (hf : f_X8_end g.2 a0 a1 μ = some (r, μ')) : MetI l yX8_end cX8_end 2 (some .boolean) rm_X8_end g L μ [.ref a0, .int a1] r μ' := by
  refine pw_met (Qc := fun A => QI g L A r μ') (by decide) (Nat.le_of_ble_eq_true rfl) ?_
  intro p e s m args below meth c A ls H locs hC hr hlocks hl hw
  have hx := hC.1
  have hb := hC.2.1
  have hl : lv_has ls 2 [(0, .ref a0), (1, .int a1)] := hl
  unfold f_X8_end at hf
  refine lv_aload_n hx hb dX8_end_0 rfl (lv_at hl 0 rfl) ?_
  refine lv_iconst (v := 0) hx hb dX8_end_1 nc_iconst_0 ?_
  obtain ⟨μ1, h2, hf⟩ := o_bind hf
  refine pw_put hC fl_X8_1 hw h2 .int fd_X8_0 rfl rfl dX8_end_2 (fun H locs hw => ?_)
  refine lv_iload_n hx hb dX8_end_5 rfl (lv_at hl 1 rfl) ?_
  refine lv_if_lt (tgt := 17) hx hb dX8_end_6 (by decide) (fun c3 => ?_) (fun c3 => ?_)
  · have hf := o_pos c3 hf
    exact w_X8_end_L17 hC hr hlocks  _ _ _ ls (lv_sub hl [] rfl) hw hf
  · have hf := o_neg c3 hf
    refine lv_iload_n hx hb dX8_end_9 rfl (lv_at hl 1 rfl) ?_
    refine lv_aload_n hx hb dX8_end_10 rfl (lv_at hl 0 rfl) ?_
    obtain ⟨v4, h5, hf⟩ := o_bind hf
    refine pw_get hC fl_X8_103 hw (rdI_F h5) dX8_end_11 ?_
    refine lv_icmp_le (tgt := 19) hx hb dX8_end_14 (by decide) (fun c6 => ?_) (fun c6 => ?_)
    · have hf := o_pos c6 hf
      refine lv_aload_n hx hb dX8_end_19 rfl (lv_at hl 0 rfl) ?_
      refine lv_iload_n hx hb dX8_end_20 rfl (lv_at hl 1 rfl) ?_
      obtain ⟨μ7, h8, hf⟩ := o_bind hf
      refine pw_put hC fl_X8_103 hw h8 .int fd_X8_2 rfl rfl dX8_end_21 (fun H locs hw => ?_)
      refine lv_iconst (v := 1) hx hb dX8_end_24 nc_iconst_1 ?_
      obtain ⟨rfl, rfl⟩ := o_ret hf
      exact pw_zret hC hr hlocks (Or.inr rfl) hw dX8_end_25
    · have hf := o_neg c6 hf
      exact w_X8_end_L17 hC hr hlocks  _ _ _ ls (lv_sub hl [] rfl) hw hf
theorem dX8_taped_0 : decode cX8_taped 0 = .ok (.aload_n 0, 1) := by decide +kernel
theorem dX8_taped_1 : decode cX8_taped 1 = .ok (.iconst 0, 1) := by decide +kernel
theorem dX8_taped_2 : decode cX8_taped 2 = .ok (.putfield 1, 3) := by decide +kernel
theorem dX8_taped_5 : decode cX8_taped 5 = .ok (.aload_n 0, 1) := by decide +kernel
theorem dX8_taped_6 : decode cX8_taped 6 = .ok (.getfield 103, 3) := by decide +kernel
theorem dX8_taped_9 : decode cX8_taped 9 = .ok (.ireturn, 1) := by decide +kernel
abbrev rm_X8_taped : Room := { frames := 0, cells := 0, slots := 0, locals := 0 }
def f_X8_taped (cy : Nat → ClassId) (a0 : Nat) (μ : Mem) : Option (Int32 × Mem) :=
  (wrF μ a0 7 0 (.int 0)).bind fun μ1 => (rdI μ1 a0 7 2).bind fun v3 => some (v3, μ1)
set_option maxRecDepth 100000 in
set_option maxHeartbeats 4000000 in
theorem c_X8_taped {l : Launch} {g : Wg} {L : List Nat} {μ : Mem} {a0 : Nat} {r : Int32} {μ' : Mem} (hf : f_X8_taped g.2 a0 μ = some (r, μ')) : MetI l yX8_taped cX8_taped 1 (some .int) rm_X8_taped g L μ [.ref a0] r μ' := by
  refine pw_met (Qc := fun A => QI g L A r μ') (by decide) (Nat.le_of_ble_eq_true rfl) ?_
  intro p e s m args below meth c A ls H locs hC hr hlocks hl hw
  have hx := hC.1
  have hb := hC.2.1
  have hl : lv_has ls 1 [(0, .ref a0)] := hl
  unfold f_X8_taped at hf
  refine lv_aload_n hx hb dX8_taped_0 rfl (lv_at hl 0 rfl) ?_
  refine lv_iconst (v := 0) hx hb dX8_taped_1 nc_iconst_0 ?_
  obtain ⟨μ1, h2, hf⟩ := o_bind hf
  refine pw_put hC fl_X8_1 hw h2 .int fd_X8_0 rfl rfl dX8_taped_2 (fun H locs hw => ?_)
  refine lv_aload_n hx hb dX8_taped_5 rfl (lv_at hl 0 rfl) ?_
  obtain ⟨v3, h4, hf⟩ := o_bind hf
  refine pw_get hC fl_X8_103 hw (rdI_F h4) dX8_taped_6 ?_
  obtain ⟨rfl, rfl⟩ := o_ret hf
  exact pw_iret hC hr hlocks hw dX8_taped_9
theorem dX8_wrong_0 : decode cX8_wrong 0 = .ok (.aload_n 0, 1) := by decide +kernel
theorem dX8_wrong_1 : decode cX8_wrong 1 = .ok (.getfield 106, 3) := by decide +kernel
theorem dX8_wrong_4 : decode cX8_wrong 4 = .ok (.ifCond .ne 13, 3) := by decide +kernel
theorem dX8_wrong_7 : decode cX8_wrong 7 = .ok (.aload_n 0, 1) := by decide +kernel
theorem dX8_wrong_8 : decode cX8_wrong 8 = .ok (.iload_n 1, 1) := by decide +kernel
theorem dX8_wrong_9 : decode cX8_wrong 9 = .ok (.putfield 106, 3) := by decide +kernel
theorem dX8_wrong_12 : decode cX8_wrong 12 = .ok (.aload_n 0, 1) := by decide +kernel
theorem dX8_wrong_13 : decode cX8_wrong 13 = .ok (.iload_n 2, 1) := by decide +kernel
theorem dX8_wrong_14 : decode cX8_wrong 14 = .ok (.putfield 17, 3) := by decide +kernel
theorem dX8_wrong_17 : decode cX8_wrong 17 = .ok (.iconst (-1), 1) := by decide +kernel
theorem dX8_wrong_18 : decode cX8_wrong 18 = .ok (.ireturn, 1) := by decide +kernel
abbrev rm_X8_wrong : Room := { frames := 0, cells := 0, slots := 0, locals := 0 }
def f_X8_wrong_L17 (cy : Nat → ClassId)  (μ : Mem) : Option (Int32 × Mem) :=
  some ((-1), μ)
set_option maxRecDepth 100000 in
set_option maxHeartbeats 4000000 in
theorem w_X8_wrong_L17 {p : Program} {l : Launch} {e : Env} {s : State} {m : MethodId} {args : Array Value} {below : List Frame} {meth : Method} {c : Code} {A : Nat → Prop} {g : Wg} {L : List Nat} {r : Int32} {μ' : Mem} (hC : CX p m c cX8_wrong 3 s args RX8) (hr : meth.sig.returnType = (some .int)) (hlocks : meth.locks = false) : ∀  (μ : Mem) (H : Heap) (locs : List Loc) (ls : Array Slot), lv_has ls 3 [] → PW g L μ A s H locs → f_X8_wrong_L17 g.2  μ = some (r, μ') → W p l e rm_X8_wrong s m args below meth c H locs 0 0 (MQ below (QI g L A r μ') args s 0 0 A) (F0 m 17 ls []) := by
  have hx := hC.1
  have hb := hC.2.1
  intro  μ H locs ls hl hw hf
  unfold f_X8_wrong_L17 at hf
  refine lv_iconst (v := (-1)) hx hb dX8_wrong_17 nc_iconst_m1 ?_
  obtain ⟨rfl, rfl⟩ := o_ret hf
  exact pw_iret hC hr hlocks hw dX8_wrong_18
def f_X8_wrong (cy : Nat → ClassId) (a0 : Nat) (a1 : Int32) (a2 : Int32) (μ : Mem) : Option (Int32 × Mem) :=
  (rdI μ a0 7 3).bind fun v1 => if v1 = 0 then ((wrF μ a0 7 3 (.int a1)).bind fun μ4 => (wrF μ4 a0 7 4 (.int a2)).bind fun μ6 => f_X8_wrong_L17 cy  μ6) else f_X8_wrong_L17 cy  μ
set_option maxRecDepth 100000 in
set_option maxHeartbeats 4000000 in
theorem c_X8_wrong {l : Launch} {g : Wg} {L : List Nat} {μ : Mem} {a0 : Nat} {a1 : Int32} {a2 : Int32} {r : Int32} {μ' : Mem} (hf : f_X8_wrong g.2 a0 a1 a2 μ = some (r, μ')) : MetI l yX8_wrong cX8_wrong 3 (some .int) rm_X8_wrong g L μ [.ref a0, .int a1, .int a2] r μ' := by
  refine pw_met (Qc := fun A => QI g L A r μ') (by decide) (Nat.le_of_ble_eq_true rfl) ?_
  intro p e s m args below meth c A ls H locs hC hr hlocks hl hw
  have hx := hC.1
  have hb := hC.2.1
  have hl : lv_has ls 3 [(0, .ref a0), (1, .int a1), (2, .int a2)] := hl
  unfold f_X8_wrong at hf
  refine lv_aload_n hx hb dX8_wrong_0 rfl (lv_at hl 0 rfl) ?_
  obtain ⟨v1, h2, hf⟩ := o_bind hf
  refine pw_get hC fl_X8_106 hw (rdI_F h2) dX8_wrong_1 ?_
  refine lv_if_ne (tgt := 17) hx hb dX8_wrong_4 (by decide) (fun c3 => ?_) (fun c3 => ?_)
  · have hf := o_neg c3 hf
    exact w_X8_wrong_L17 hC hr hlocks  _ _ _ ls (lv_sub hl [] rfl) hw hf
  · have hf := o_pos c3 hf
    refine lv_aload_n hx hb dX8_wrong_7 rfl (lv_at hl 0 rfl) ?_
    refine lv_iload_n hx hb dX8_wrong_8 rfl (lv_at hl 1 rfl) ?_
    obtain ⟨μ4, h5, hf⟩ := o_bind hf
    refine pw_put hC fl_X8_106 hw h5 .int fd_X8_3 rfl rfl dX8_wrong_9 (fun H locs hw => ?_)
    refine lv_aload_n hx hb dX8_wrong_12 rfl (lv_at hl 0 rfl) ?_
    refine lv_iload_n hx hb dX8_wrong_13 rfl (lv_at hl 2 rfl) ?_
    obtain ⟨μ6, h7, hf⟩ := o_bind hf
    refine pw_put hC fl_X8_17 hw h7 .int fd_X8_4 rfl rfl dX8_wrong_14 (fun H locs hw => ?_)
    exact w_X8_wrong_L17 hC hr hlocks  _ _ _ ls (lv_sub hl [] rfl) hw hf
theorem dX8_judges_0 : decode cX8_judges 0 = .ok (.aload_n 0, 1) := by decide +kernel
theorem dX8_judges_1 : decode cX8_judges 1 = .ok (.iconst 0, 1) := by decide +kernel
theorem dX8_judges_2 : decode cX8_judges 2 = .ok (.putfield 106, 3) := by decide +kernel
theorem dX8_judges_5 : decode cX8_judges 5 = .ok (.aload_n 0, 1) := by decide +kernel
theorem dX8_judges_6 : decode cX8_judges 6 = .ok (.iconst (-1), 1) := by decide +kernel
theorem dX8_judges_7 : decode cX8_judges 7 = .ok (.putfield 17, 3) := by decide +kernel
theorem dX8_judges_10 : decode cX8_judges 10 = .ok (.return_, 1) := by decide +kernel
abbrev rm_X8_judges : Room := { frames := 0, cells := 0, slots := 0, locals := 0 }
def f_X8_judges (cy : Nat → ClassId) (a0 : Nat) (μ : Mem) : Option Mem :=
  (wrF μ a0 7 3 (.int 0)).bind fun μ1 => (wrF μ1 a0 7 4 (.int (-1))).bind fun μ3 => some μ3
set_option maxRecDepth 100000 in
set_option maxHeartbeats 4000000 in
theorem c_X8_judges {l : Launch} {g : Wg} {L : List Nat} {μ : Mem} {a0 : Nat} {μ' : Mem} (hf : f_X8_judges g.2 a0 μ = some μ') : MetV l yX8_judges cX8_judges 1 none rm_X8_judges g L μ [.ref a0] μ' := by
  refine pw_met (Qc := fun A => QV g L A μ') (by decide) (Nat.le_of_ble_eq_true rfl) ?_
  intro p e s m args below meth c A ls H locs hC hr hlocks hl hw
  have hx := hC.1
  have hb := hC.2.1
  have hl : lv_has ls 1 [(0, .ref a0)] := hl
  unfold f_X8_judges at hf
  refine lv_aload_n hx hb dX8_judges_0 rfl (lv_at hl 0 rfl) ?_
  refine lv_iconst (v := 0) hx hb dX8_judges_1 nc_iconst_0 ?_
  obtain ⟨μ1, h2, hf⟩ := o_bind hf
  refine pw_put hC fl_X8_106 hw h2 .int fd_X8_3 rfl rfl dX8_judges_2 (fun H locs hw => ?_)
  refine lv_aload_n hx hb dX8_judges_5 rfl (lv_at hl 0 rfl) ?_
  refine lv_iconst (v := (-1)) hx hb dX8_judges_6 nc_iconst_m1 ?_
  obtain ⟨μ3, h4, hf⟩ := o_bind hf
  refine pw_put hC fl_X8_17 hw h4 .int fd_X8_4 rfl rfl dX8_judges_7 (fun H locs hw => ?_)
  obtain rfl := o_retv hf
  exact pw_vret hC hr hlocks hw dX8_judges_10
theorem dX8_sign_0 : decode cX8_sign 0 = .ok (.aload_n 0, 1) := by decide +kernel
theorem dX8_sign_1 : decode cX8_sign 1 = .ok (.getfield 13, 3) := by decide +kernel
theorem dX8_sign_4 : decode cX8_sign 4 = .ok (.iload_n 1, 1) := by decide +kernel
theorem dX8_sign_5 : decode cX8_sign 5 = .ok (.baload, 1) := by decide +kernel
theorem dX8_sign_6 : decode cX8_sign 6 = .ok (.sipush 255, 3) := by decide +kernel
theorem dX8_sign_9 : decode cX8_sign 9 = .ok (.iand, 1) := by decide +kernel
theorem dX8_sign_10 : decode cX8_sign 10 = .ok (.istore_n 3, 1) := by decide +kernel
theorem dX8_sign_11 : decode cX8_sign 11 = .ok (.iload_n 3, 1) := by decide +kernel
theorem dX8_sign_12 : decode cX8_sign 12 = .ok (.sipush 128, 3) := by decide +kernel
theorem dX8_sign_15 : decode cX8_sign 15 = .ok (.if_icmp .ge 5, 3) := by decide +kernel
theorem dX8_sign_18 : decode cX8_sign 18 = .ok (.iconst 1, 1) := by decide +kernel
theorem dX8_sign_19 : decode cX8_sign 19 = .ok (.ireturn, 1) := by decide +kernel
theorem dX8_sign_20 : decode cX8_sign 20 = .ok (.iload_n 3, 1) := by decide +kernel
theorem dX8_sign_21 : decode cX8_sign 21 = .ok (.sipush 240, 3) := by decide +kernel
theorem dX8_sign_24 : decode cX8_sign 24 = .ok (.if_icmp .lt 14, 3) := by decide +kernel
theorem dX8_sign_27 : decode cX8_sign 27 = .ok (.iload_n 3, 1) := by decide +kernel
theorem dX8_sign_28 : decode cX8_sign 28 = .ok (.sipush 248, 3) := by decide +kernel
theorem dX8_sign_31 : decode cX8_sign 31 = .ok (.if_icmp .ge 7, 3) := by decide +kernel
theorem dX8_sign_34 : decode cX8_sign 34 = .ok (.iconst 4, 1) := by decide +kernel
theorem dX8_sign_35 : decode cX8_sign 35 = .ok (.goto 40, 3) := by decide +kernel
theorem dX8_sign_38 : decode cX8_sign 38 = .ok (.iload_n 3, 1) := by decide +kernel
theorem dX8_sign_39 : decode cX8_sign 39 = .ok (.sipush 224, 3) := by decide +kernel
theorem dX8_sign_42 : decode cX8_sign 42 = .ok (.if_icmp .lt 14, 3) := by decide +kernel
theorem dX8_sign_45 : decode cX8_sign 45 = .ok (.iload_n 3, 1) := by decide +kernel
theorem dX8_sign_46 : decode cX8_sign 46 = .ok (.sipush 240, 3) := by decide +kernel
theorem dX8_sign_49 : decode cX8_sign 49 = .ok (.if_icmp .ge 7, 3) := by decide +kernel
theorem dX8_sign_52 : decode cX8_sign 52 = .ok (.iconst 3, 1) := by decide +kernel
theorem dX8_sign_53 : decode cX8_sign 53 = .ok (.goto 22, 3) := by decide +kernel
theorem dX8_sign_56 : decode cX8_sign 56 = .ok (.iload_n 3, 1) := by decide +kernel
theorem dX8_sign_57 : decode cX8_sign 57 = .ok (.sipush 192, 3) := by decide +kernel
theorem dX8_sign_60 : decode cX8_sign 60 = .ok (.if_icmp .lt 14, 3) := by decide +kernel
theorem dX8_sign_63 : decode cX8_sign 63 = .ok (.iload_n 3, 1) := by decide +kernel
theorem dX8_sign_64 : decode cX8_sign 64 = .ok (.sipush 224, 3) := by decide +kernel
theorem dX8_sign_67 : decode cX8_sign 67 = .ok (.if_icmp .ge 7, 3) := by decide +kernel
theorem dX8_sign_70 : decode cX8_sign 70 = .ok (.iconst 2, 1) := by decide +kernel
theorem dX8_sign_71 : decode cX8_sign 71 = .ok (.goto 4, 3) := by decide +kernel
theorem dX8_sign_74 : decode cX8_sign 74 = .ok (.iconst 0, 1) := by decide +kernel
theorem dX8_sign_75 : decode cX8_sign 75 = .ok (.istore 4, 2) := by decide +kernel
theorem dX8_sign_77 : decode cX8_sign 77 = .ok (.iload 4, 2) := by decide +kernel
theorem dX8_sign_79 : decode cX8_sign 79 = .ok (.ifCond .eq 11, 3) := by decide +kernel
theorem dX8_sign_82 : decode cX8_sign 82 = .ok (.iload_n 1, 1) := by decide +kernel
theorem dX8_sign_83 : decode cX8_sign 83 = .ok (.iload 4, 2) := by decide +kernel
theorem dX8_sign_85 : decode cX8_sign 85 = .ok (.iadd, 1) := by decide +kernel
theorem dX8_sign_86 : decode cX8_sign 86 = .ok (.iload_n 2, 1) := by decide +kernel
theorem dX8_sign_87 : decode cX8_sign 87 = .ok (.if_icmp .le 5, 3) := by decide +kernel
theorem dX8_sign_90 : decode cX8_sign 90 = .ok (.iconst 0, 1) := by decide +kernel
theorem dX8_sign_91 : decode cX8_sign 91 = .ok (.ireturn, 1) := by decide +kernel
theorem dX8_sign_92 : decode cX8_sign 92 = .ok (.iload 4, 2) := by decide +kernel
theorem dX8_sign_94 : decode cX8_sign 94 = .ok (.iconst 2, 1) := by decide +kernel
theorem dX8_sign_95 : decode cX8_sign 95 = .ok (.if_icmp .ne 10, 3) := by decide +kernel
theorem dX8_sign_98 : decode cX8_sign 98 = .ok (.iload_n 3, 1) := by decide +kernel
theorem dX8_sign_99 : decode cX8_sign 99 = .ok (.bipush 31, 2) := by decide +kernel
theorem dX8_sign_101 : decode cX8_sign 101 = .ok (.iand, 1) := by decide +kernel
theorem dX8_sign_102 : decode cX8_sign 102 = .ok (.goto 20, 3) := by decide +kernel
theorem dX8_sign_105 : decode cX8_sign 105 = .ok (.iload 4, 2) := by decide +kernel
theorem dX8_sign_107 : decode cX8_sign 107 = .ok (.iconst 3, 1) := by decide +kernel
theorem dX8_sign_108 : decode cX8_sign 108 = .ok (.if_icmp .ne 10, 3) := by decide +kernel
theorem dX8_sign_111 : decode cX8_sign 111 = .ok (.iload_n 3, 1) := by decide +kernel
theorem dX8_sign_112 : decode cX8_sign 112 = .ok (.bipush 15, 2) := by decide +kernel
theorem dX8_sign_114 : decode cX8_sign 114 = .ok (.iand, 1) := by decide +kernel
theorem dX8_sign_115 : decode cX8_sign 115 = .ok (.goto 7, 3) := by decide +kernel
theorem dX8_sign_118 : decode cX8_sign 118 = .ok (.iload_n 3, 1) := by decide +kernel
theorem dX8_sign_119 : decode cX8_sign 119 = .ok (.bipush 7, 2) := by decide +kernel
theorem dX8_sign_121 : decode cX8_sign 121 = .ok (.iand, 1) := by decide +kernel
theorem dX8_sign_122 : decode cX8_sign 122 = .ok (.istore 5, 2) := by decide +kernel
theorem dX8_sign_124 : decode cX8_sign 124 = .ok (.iconst 1, 1) := by decide +kernel
theorem dX8_sign_125 : decode cX8_sign 125 = .ok (.istore 6, 2) := by decide +kernel
theorem dX8_sign_127 : decode cX8_sign 127 = .ok (.iload 6, 2) := by decide +kernel
theorem dX8_sign_129 : decode cX8_sign 129 = .ok (.iload 4, 2) := by decide +kernel
theorem dX8_sign_131 : decode cX8_sign 131 = .ok (.if_icmp .ge 55, 3) := by decide +kernel
theorem dX8_sign_134 : decode cX8_sign 134 = .ok (.aload_n 0, 1) := by decide +kernel
theorem dX8_sign_135 : decode cX8_sign 135 = .ok (.getfield 13, 3) := by decide +kernel
theorem dX8_sign_138 : decode cX8_sign 138 = .ok (.iload_n 1, 1) := by decide +kernel
theorem dX8_sign_139 : decode cX8_sign 139 = .ok (.iload 6, 2) := by decide +kernel
theorem dX8_sign_141 : decode cX8_sign 141 = .ok (.iadd, 1) := by decide +kernel
theorem dX8_sign_142 : decode cX8_sign 142 = .ok (.baload, 1) := by decide +kernel
theorem dX8_sign_143 : decode cX8_sign 143 = .ok (.sipush 255, 3) := by decide +kernel
theorem dX8_sign_146 : decode cX8_sign 146 = .ok (.iand, 1) := by decide +kernel
theorem dX8_sign_147 : decode cX8_sign 147 = .ok (.istore 7, 2) := by decide +kernel
theorem dX8_sign_149 : decode cX8_sign 149 = .ok (.iload 7, 2) := by decide +kernel
theorem dX8_sign_151 : decode cX8_sign 151 = .ok (.sipush 128, 3) := by decide +kernel
theorem dX8_sign_154 : decode cX8_sign 154 = .ok (.if_icmp .lt 11, 3) := by decide +kernel
theorem dX8_sign_157 : decode cX8_sign 157 = .ok (.iload 7, 2) := by decide +kernel
theorem dX8_sign_159 : decode cX8_sign 159 = .ok (.sipush 191, 3) := by decide +kernel
theorem dX8_sign_162 : decode cX8_sign 162 = .ok (.if_icmp .le 5, 3) := by decide +kernel
theorem dX8_sign_165 : decode cX8_sign 165 = .ok (.iconst 0, 1) := by decide +kernel
theorem dX8_sign_166 : decode cX8_sign 166 = .ok (.ireturn, 1) := by decide +kernel
theorem dX8_sign_167 : decode cX8_sign 167 = .ok (.bipush 64, 2) := by decide +kernel
theorem dX8_sign_169 : decode cX8_sign 169 = .ok (.iload 5, 2) := by decide +kernel
theorem dX8_sign_171 : decode cX8_sign 171 = .ok (.imul, 1) := by decide +kernel
theorem dX8_sign_172 : decode cX8_sign 172 = .ok (.iload 7, 2) := by decide +kernel
theorem dX8_sign_174 : decode cX8_sign 174 = .ok (.bipush 63, 2) := by decide +kernel
theorem dX8_sign_176 : decode cX8_sign 176 = .ok (.iand, 1) := by decide +kernel
theorem dX8_sign_177 : decode cX8_sign 177 = .ok (.iadd, 1) := by decide +kernel
theorem dX8_sign_178 : decode cX8_sign 178 = .ok (.istore 5, 2) := by decide +kernel
theorem dX8_sign_180 : decode cX8_sign 180 = .ok (.iinc 6 1, 3) := by decide +kernel
theorem dX8_sign_183 : decode cX8_sign 183 = .ok (.goto (-56), 3) := by decide +kernel
theorem dX8_sign_186 : decode cX8_sign 186 = .ok (.iload 4, 2) := by decide +kernel
theorem dX8_sign_188 : decode cX8_sign 188 = .ok (.iconst 2, 1) := by decide +kernel
theorem dX8_sign_189 : decode cX8_sign 189 = .ok (.if_icmp .ne 9, 3) := by decide +kernel
theorem dX8_sign_192 : decode cX8_sign 192 = .ok (.sipush 128, 3) := by decide +kernel
theorem dX8_sign_195 : decode cX8_sign 195 = .ok (.goto 17, 3) := by decide +kernel
theorem dX8_sign_198 : decode cX8_sign 198 = .ok (.iload 4, 2) := by decide +kernel
theorem dX8_sign_200 : decode cX8_sign 200 = .ok (.iconst 3, 1) := by decide +kernel
theorem dX8_sign_201 : decode cX8_sign 201 = .ok (.if_icmp .ne 9, 3) := by decide +kernel
theorem dX8_sign_204 : decode cX8_sign 204 = .ok (.sipush 2048, 3) := by decide +kernel
theorem dX8_sign_207 : decode cX8_sign 207 = .ok (.goto 5, 3) := by decide +kernel
theorem dX8_sign_210 : decode cX8_sign 210 = .ok (.ldc 116, 2) := by decide +kernel
theorem dX8_sign_212 : decode cX8_sign 212 = .ok (.istore 6, 2) := by decide +kernel
theorem dX8_sign_214 : decode cX8_sign 214 = .ok (.iload 5, 2) := by decide +kernel
theorem dX8_sign_216 : decode cX8_sign 216 = .ok (.iload 6, 2) := by decide +kernel
theorem dX8_sign_218 : decode cX8_sign 218 = .ok (.if_icmp .lt 28, 3) := by decide +kernel
theorem dX8_sign_221 : decode cX8_sign 221 = .ok (.iload 5, 2) := by decide +kernel
theorem dX8_sign_223 : decode cX8_sign 223 = .ok (.ldc 117, 2) := by decide +kernel
theorem dX8_sign_225 : decode cX8_sign 225 = .ok (.if_icmp .gt 21, 3) := by decide +kernel
theorem dX8_sign_228 : decode cX8_sign 228 = .ok (.iload 5, 2) := by decide +kernel
theorem dX8_sign_230 : decode cX8_sign 230 = .ok (.ldc 118, 2) := by decide +kernel
theorem dX8_sign_232 : decode cX8_sign 232 = .ok (.if_icmp .lt 10, 3) := by decide +kernel
theorem dX8_sign_235 : decode cX8_sign 235 = .ok (.iload 5, 2) := by decide +kernel
theorem dX8_sign_237 : decode cX8_sign 237 = .ok (.ldc 119, 2) := by decide +kernel
theorem dX8_sign_239 : decode cX8_sign 239 = .ok (.if_icmp .le 7, 3) := by decide +kernel
theorem dX8_sign_242 : decode cX8_sign 242 = .ok (.iconst 1, 1) := by decide +kernel
theorem dX8_sign_243 : decode cX8_sign 243 = .ok (.goto 4, 3) := by decide +kernel
theorem dX8_sign_246 : decode cX8_sign 246 = .ok (.iconst 0, 1) := by decide +kernel
theorem dX8_sign_247 : decode cX8_sign 247 = .ok (.istore 7, 2) := by decide +kernel
theorem dX8_sign_249 : decode cX8_sign 249 = .ok (.iload 7, 2) := by decide +kernel
theorem dX8_sign_251 : decode cX8_sign 251 = .ok (.ifCond .eq 8, 3) := by decide +kernel
theorem dX8_sign_254 : decode cX8_sign 254 = .ok (.iload 4, 2) := by decide +kernel
theorem dX8_sign_256 : decode cX8_sign 256 = .ok (.goto 4, 3) := by decide +kernel
theorem dX8_sign_259 : decode cX8_sign 259 = .ok (.iconst 0, 1) := by decide +kernel
theorem dX8_sign_260 : decode cX8_sign 260 = .ok (.ireturn, 1) := by decide +kernel
abbrev rm_X8_sign : Room := { frames := 0, cells := 0, slots := 0, locals := 0 }
def f_X8_sign_L90 (cy : Nat → ClassId)  (μ : Mem) : Option (Int32 × Mem) :=
  some (0, μ)
set_option maxRecDepth 100000 in
set_option maxHeartbeats 4000000 in
theorem w_X8_sign_L90 {p : Program} {l : Launch} {e : Env} {s : State} {m : MethodId} {args : Array Value} {below : List Frame} {meth : Method} {c : Code} {A : Nat → Prop} {g : Wg} {L : List Nat} {r : Int32} {μ' : Mem} (hC : CX p m c cX8_sign 8 s args RX8) (hr : meth.sig.returnType = (some .int)) (hlocks : meth.locks = false) : ∀  (μ : Mem) (H : Heap) (locs : List Loc) (ls : Array Slot), lv_has ls 8 [] → PW g L μ A s H locs → f_X8_sign_L90 g.2  μ = some (r, μ') → W p l e rm_X8_sign s m args below meth c H locs 0 0 (MQ below (QI g L A r μ') args s 0 0 A) (F0 m 90 ls []) := by
  have hx := hC.1
  have hb := hC.2.1
  intro  μ H locs ls hl hw hf
  unfold f_X8_sign_L90 at hf
  refine lv_iconst (v := 0) hx hb dX8_sign_90 nc_iconst_0 ?_
  obtain ⟨rfl, rfl⟩ := o_ret hf
  exact pw_iret hC hr hlocks hw dX8_sign_91
def f_X8_sign_L165 (cy : Nat → ClassId)  (μ : Mem) : Option (Int32 × Mem) :=
  some (0, μ)
set_option maxRecDepth 100000 in
set_option maxHeartbeats 4000000 in
theorem w_X8_sign_L165 {p : Program} {l : Launch} {e : Env} {s : State} {m : MethodId} {args : Array Value} {below : List Frame} {meth : Method} {c : Code} {A : Nat → Prop} {g : Wg} {L : List Nat} {r : Int32} {μ' : Mem} (hC : CX p m c cX8_sign 8 s args RX8) (hr : meth.sig.returnType = (some .int)) (hlocks : meth.locks = false) : ∀  (μ : Mem) (H : Heap) (locs : List Loc) (ls : Array Slot), lv_has ls 8 [] → PW g L μ A s H locs → f_X8_sign_L165 g.2  μ = some (r, μ') → W p l e rm_X8_sign s m args below meth c H locs 0 0 (MQ below (QI g L A r μ') args s 0 0 A) (F0 m 165 ls []) := by
  have hx := hC.1
  have hb := hC.2.1
  intro  μ H locs ls hl hw hf
  unfold f_X8_sign_L165 at hf
  refine lv_iconst (v := 0) hx hb dX8_sign_165 nc_iconst_0 ?_
  obtain ⟨rfl, rfl⟩ := o_ret hf
  exact pw_iret hC hr hlocks hw dX8_sign_166
def f_X8_sign_L247 (cy : Nat → ClassId) (a4 : Int32) (t0 : Int32) (μ : Mem) : Option (Int32 × Mem) :=
  if t0 = 0 then (some (0, μ)) else some (a4, μ)
set_option maxRecDepth 100000 in
set_option maxHeartbeats 4000000 in
theorem w_X8_sign_L247 {p : Program} {l : Launch} {e : Env} {s : State} {m : MethodId} {args : Array Value} {below : List Frame} {meth : Method} {c : Code} {A : Nat → Prop} {g : Wg} {L : List Nat} {r : Int32} {μ' : Mem} (hC : CX p m c cX8_sign 8 s args RX8) (hr : meth.sig.returnType = (some .int)) (hlocks : meth.locks = false) : ∀ (a4 : Int32) (t0 : Int32) (μ : Mem) (H : Heap) (locs : List Loc) (ls : Array Slot), lv_has ls 8 [(4, .int a4)] → PW g L μ A s H locs → f_X8_sign_L247 g.2 a4 t0 μ = some (r, μ') → W p l e rm_X8_sign s m args below meth c H locs 0 0 (MQ below (QI g L A r μ') args s 0 0 A) (F0 m 247 ls [.int t0]) := by
  have hx := hC.1
  have hb := hC.2.1
  intro a4 t0 μ H locs ls hl hw hf
  unfold f_X8_sign_L247 at hf
  refine lv_istore (lv' := [(7, .int t0), (4, .int a4)]) hx hb dX8_sign_247 hl (by decide) rfl (fun ls hl => ?_)
  refine lv_iload hx hb dX8_sign_249 (lv_at hl 0 rfl) ?_
  refine lv_if_eq (tgt := 259) hx hb dX8_sign_251 (by decide) (fun c101 => ?_) (fun c101 => ?_)
  · have hf := o_pos c101 hf
    refine lv_iconst (v := 0) hx hb dX8_sign_259 nc_iconst_0 ?_
    obtain ⟨rfl, rfl⟩ := o_ret hf
    exact pw_iret hC hr hlocks hw dX8_sign_260
  · have hf := o_neg c101 hf
    refine lv_iload hx hb dX8_sign_254 (lv_at hl 1 rfl) ?_
    refine lv_goto (tgt := 260) hx hb dX8_sign_256 (by decide) ?_
    obtain ⟨rfl, rfl⟩ := o_ret hf
    exact pw_iret hC hr hlocks hw dX8_sign_260
def f_X8_sign_L242 (cy : Nat → ClassId) (a4 : Int32) (μ : Mem) : Option (Int32 × Mem) :=
  f_X8_sign_L247 cy a4 1 μ
set_option maxRecDepth 100000 in
set_option maxHeartbeats 4000000 in
theorem w_X8_sign_L242 {p : Program} {l : Launch} {e : Env} {s : State} {m : MethodId} {args : Array Value} {below : List Frame} {meth : Method} {c : Code} {A : Nat → Prop} {g : Wg} {L : List Nat} {r : Int32} {μ' : Mem} (hC : CX p m c cX8_sign 8 s args RX8) (hr : meth.sig.returnType = (some .int)) (hlocks : meth.locks = false) : ∀ (a4 : Int32) (μ : Mem) (H : Heap) (locs : List Loc) (ls : Array Slot), lv_has ls 8 [(4, .int a4)] → PW g L μ A s H locs → f_X8_sign_L242 g.2 a4 μ = some (r, μ') → W p l e rm_X8_sign s m args below meth c H locs 0 0 (MQ below (QI g L A r μ') args s 0 0 A) (F0 m 242 ls []) := by
  have hx := hC.1
  have hb := hC.2.1
  intro a4 μ H locs ls hl hw hf
  unfold f_X8_sign_L242 at hf
  refine lv_iconst (v := 1) hx hb dX8_sign_242 nc_iconst_1 ?_
  refine lv_goto (tgt := 247) hx hb dX8_sign_243 (by decide) ?_
  exact w_X8_sign_L247 hC hr hlocks _ _ _ _ _ ls (lv_sub hl [0] rfl) hw hf
def f_X8_sign_L246 (cy : Nat → ClassId) (a4 : Int32) (μ : Mem) : Option (Int32 × Mem) :=
  f_X8_sign_L247 cy a4 0 μ
set_option maxRecDepth 100000 in
set_option maxHeartbeats 4000000 in
theorem w_X8_sign_L246 {p : Program} {l : Launch} {e : Env} {s : State} {m : MethodId} {args : Array Value} {below : List Frame} {meth : Method} {c : Code} {A : Nat → Prop} {g : Wg} {L : List Nat} {r : Int32} {μ' : Mem} (hC : CX p m c cX8_sign 8 s args RX8) (hr : meth.sig.returnType = (some .int)) (hlocks : meth.locks = false) : ∀ (a4 : Int32) (μ : Mem) (H : Heap) (locs : List Loc) (ls : Array Slot), lv_has ls 8 [(4, .int a4)] → PW g L μ A s H locs → f_X8_sign_L246 g.2 a4 μ = some (r, μ') → W p l e rm_X8_sign s m args below meth c H locs 0 0 (MQ below (QI g L A r μ') args s 0 0 A) (F0 m 246 ls []) := by
  have hx := hC.1
  have hb := hC.2.1
  intro a4 μ H locs ls hl hw hf
  unfold f_X8_sign_L246 at hf
  refine lv_iconst (v := 0) hx hb dX8_sign_246 nc_iconst_0 ?_
  exact w_X8_sign_L247 hC hr hlocks _ _ _ _ _ ls (lv_sub hl [0] rfl) hw hf
def f_X8_sign_L212 (cy : Nat → ClassId) (a4 : Int32) (a5 : Int32) (t0 : Int32) (μ : Mem) : Option (Int32 × Mem) :=
  if a5 < t0 then (f_X8_sign_L246 cy a4 μ) else if (1114111 : Int32) < a5 then (f_X8_sign_L246 cy a4 μ) else if a5 < (55296 : Int32) then (f_X8_sign_L242 cy a4 μ) else if a5 ≤ (57343 : Int32) then (f_X8_sign_L246 cy a4 μ) else f_X8_sign_L242 cy a4 μ
set_option maxRecDepth 100000 in
set_option maxHeartbeats 4000000 in
theorem w_X8_sign_L212 {p : Program} {l : Launch} {e : Env} {s : State} {m : MethodId} {args : Array Value} {below : List Frame} {meth : Method} {c : Code} {A : Nat → Prop} {g : Wg} {L : List Nat} {r : Int32} {μ' : Mem} (hC : CX p m c cX8_sign 8 s args RX8) (hr : meth.sig.returnType = (some .int)) (hlocks : meth.locks = false) : ∀ (a4 : Int32) (a5 : Int32) (t0 : Int32) (μ : Mem) (H : Heap) (locs : List Loc) (ls : Array Slot), lv_has ls 8 [(4, .int a4), (5, .int a5)] → PW g L μ A s H locs → f_X8_sign_L212 g.2 a4 a5 t0 μ = some (r, μ') → W p l e rm_X8_sign s m args below meth c H locs 0 0 (MQ below (QI g L A r μ') args s 0 0 A) (F0 m 212 ls [.int t0]) := by
  have hx := hC.1
  have hb := hC.2.1
  intro a4 a5 t0 μ H locs ls hl hw hf
  unfold f_X8_sign_L212 at hf
  refine lv_istore (lv' := [(6, .int t0), (4, .int a4), (5, .int a5)]) hx hb dX8_sign_212 hl (by decide) rfl (fun ls hl => ?_)
  refine lv_iload hx hb dX8_sign_214 (lv_at hl 2 rfl) ?_
  refine lv_iload hx hb dX8_sign_216 (lv_at hl 0 rfl) ?_
  refine lv_icmp_lt (tgt := 246) hx hb dX8_sign_218 (by decide) (fun c101 => ?_) (fun c101 => ?_)
  · have hf := o_pos c101 hf
    exact w_X8_sign_L246 hC hr hlocks _ _ _ _ ls (lv_sub hl [1] rfl) hw hf
  · have hf := o_neg c101 hf
    refine lv_iload hx hb dX8_sign_221 (lv_at hl 2 rfl) ?_
    refine lv_ldc (v := 1114111) hx hb hC.2.2.2.1 (hC.2.2.2.2 _ tw_1280) dX8_sign_223 ?_
    refine lv_icmp_gt (tgt := 246) hx hb dX8_sign_225 (by decide) (fun c102 => ?_) (fun c102 => ?_)
    · have hf := o_pos c102 hf
      exact w_X8_sign_L246 hC hr hlocks _ _ _ _ ls (lv_sub hl [1] rfl) hw hf
    · have hf := o_neg c102 hf
      refine lv_iload hx hb dX8_sign_228 (lv_at hl 2 rfl) ?_
      refine lv_ldc (v := 55296) hx hb hC.2.2.2.1 (hC.2.2.2.2 _ tw_1281) dX8_sign_230 ?_
      refine lv_icmp_lt (tgt := 242) hx hb dX8_sign_232 (by decide) (fun c103 => ?_) (fun c103 => ?_)
      · have hf := o_pos c103 hf
        exact w_X8_sign_L242 hC hr hlocks _ _ _ _ ls (lv_sub hl [1] rfl) hw hf
      · have hf := o_neg c103 hf
        refine lv_iload hx hb dX8_sign_235 (lv_at hl 2 rfl) ?_
        refine lv_ldc (v := 57343) hx hb hC.2.2.2.1 (hC.2.2.2.2 _ tw_1282) dX8_sign_237 ?_
        refine lv_icmp_le (tgt := 246) hx hb dX8_sign_239 (by decide) (fun c104 => ?_) (fun c104 => ?_)
        · have hf := o_pos c104 hf
          exact w_X8_sign_L246 hC hr hlocks _ _ _ _ ls (lv_sub hl [1] rfl) hw hf
        · have hf := o_neg c104 hf
          exact w_X8_sign_L242 hC hr hlocks _ _ _ _ ls (lv_sub hl [1] rfl) hw hf
def f_X8_sign_L127 (cy : Nat → ClassId) : Nat → Nat → Int32 → Int32 → Int32 → Int32 → Mem → Option (Int32 × Mem)
  | 0, _, _, _, _, _, _ => none
  | n + 1, a0, a1, a4, a5, a6, μ => if a4 ≤ a6 then (if a4 = 2 then (f_X8_sign_L212 cy a4 a5 128 μ) else if a4 = 3 then (f_X8_sign_L212 cy a4 a5 2048 μ) else f_X8_sign_L212 cy a4 a5 (65536 : Int32) μ) else (rdR μ a0 7 1).bind fun q104 => (rdA cy μ 0 q104 (a1 + a6)).bind fun v106 => if (v106 &&& 255) < 128 then (f_X8_sign_L165 cy  μ) else if (v106 &&& 255) ≤ 191 then (f_X8_sign_L127 cy n a0 a1 a4 ((64 * a5) + ((v106 &&& 255) &&& 63)) (a6 + 1) μ) else f_X8_sign_L165 cy  μ
set_option maxRecDepth 100000 in
set_option maxHeartbeats 4000000 in
theorem w_X8_sign_L127 {p : Program} {l : Launch} {e : Env} {s : State} {m : MethodId} {args : Array Value} {below : List Frame} {meth : Method} {c : Code} {A : Nat → Prop} {g : Wg} {L : List Nat} {r : Int32} {μ' : Mem} (hC : CX p m c cX8_sign 8 s args RX8) (hr : meth.sig.returnType = (some .int)) (hlocks : meth.locks = false) : ∀ (n : Nat), ∀ (a0 : Nat) (a1 : Int32) (a4 : Int32) (a5 : Int32) (a6 : Int32) (μ : Mem) (H : Heap) (locs : List Loc) (ls : Array Slot), lv_has ls 8 [(0, .ref a0), (1, .int a1), (4, .int a4), (5, .int a5), (6, .int a6)] → PW g L μ A s H locs → f_X8_sign_L127 g.2 n a0 a1 a4 a5 a6 μ = some (r, μ') → W p l e rm_X8_sign s m args below meth c H locs 0 0 (MQ below (QI g L A r μ') args s 0 0 A) (F0 m 127 ls []) := by
  have hx := hC.1
  have hb := hC.2.1
  intro n
  induction n with
  | zero => intro a0 a1 a4 a5 a6 μ H locs ls hl hw hf; cases hf
  | succ n ih =>
    intro a0 a1 a4 a5 a6 μ H locs ls hl hw hf
    rw [f_X8_sign_L127] at hf
    refine lv_iload hx hb dX8_sign_127 (lv_at hl 4 rfl) ?_
    refine lv_iload hx hb dX8_sign_129 (lv_at hl 2 rfl) ?_
    refine lv_icmp_ge (tgt := 186) hx hb dX8_sign_131 (by decide) (fun c101 => ?_) (fun c101 => ?_)
    · have hf := o_pos c101 hf
      refine lv_iload hx hb dX8_sign_186 (lv_at hl 2 rfl) ?_
      refine lv_iconst (v := 2) hx hb dX8_sign_188 nc_iconst_2 ?_
      refine lv_icmp_ne (tgt := 198) hx hb dX8_sign_189 (by decide) (fun c102 => ?_) (fun c102 => ?_)
      · have hf := o_neg c102 hf
        refine lv_iload hx hb dX8_sign_198 (lv_at hl 2 rfl) ?_
        refine lv_iconst (v := 3) hx hb dX8_sign_200 nc_iconst_3 ?_
        refine lv_icmp_ne (tgt := 210) hx hb dX8_sign_201 (by decide) (fun c103 => ?_) (fun c103 => ?_)
        · have hf := o_neg c103 hf
          refine lv_ldc (v := 65536) hx hb hC.2.2.2.1 (hC.2.2.2.2 _ tw_1279) dX8_sign_210 ?_
          exact w_X8_sign_L212 hC hr hlocks _ _ _ _ _ _ ls (lv_sub hl [2, 3] rfl) hw hf
        · have hf := o_pos c103 hf
          refine lv_sipush (v := 2048) hx hb dX8_sign_204 nc_sipush_2048 ?_
          refine lv_goto (tgt := 212) hx hb dX8_sign_207 (by decide) ?_
          exact w_X8_sign_L212 hC hr hlocks _ _ _ _ _ _ ls (lv_sub hl [2, 3] rfl) hw hf
      · have hf := o_pos c102 hf
        refine lv_sipush (v := 128) hx hb dX8_sign_192 nc_sipush_128 ?_
        refine lv_goto (tgt := 212) hx hb dX8_sign_195 (by decide) ?_
        exact w_X8_sign_L212 hC hr hlocks _ _ _ _ _ _ ls (lv_sub hl [2, 3] rfl) hw hf
    · have hf := o_neg c101 hf
      refine lv_aload_n hx hb dX8_sign_134 rfl (lv_at hl 0 rfl) ?_
      obtain ⟨q104, h105, hf⟩ := o_bind hf
      refine pw_get hC fl_X8_13 hw (rdR_F h105) dX8_sign_135 ?_
      refine lv_iload_n hx hb dX8_sign_138 rfl (lv_at hl 1 rfl) ?_
      refine lv_iload hx hb dX8_sign_139 (lv_at hl 4 rfl) ?_
      refine lv_iadd hx hb dX8_sign_141 ?_
      obtain ⟨v106, h107, hf⟩ := o_bind hf
      refine pw_bald hC hw h107 dX8_sign_142 ?_
      refine lv_sipush (v := 255) hx hb dX8_sign_143 nc_sipush_255 ?_
      refine lv_iand hx hb dX8_sign_146 ?_
      refine lv_istore (lv' := [(7, .int (v106 &&& 255)), (0, .ref a0), (1, .int a1), (4, .int a4), (5, .int a5), (6, .int a6)]) hx hb dX8_sign_147 hl (by decide) rfl (fun ls hl => ?_)
      refine lv_iload hx hb dX8_sign_149 (lv_at hl 0 rfl) ?_
      refine lv_sipush (v := 128) hx hb dX8_sign_151 nc_sipush_128 ?_
      refine lv_icmp_lt (tgt := 165) hx hb dX8_sign_154 (by decide) (fun c108 => ?_) (fun c108 => ?_)
      · have hf := o_pos c108 hf
        exact w_X8_sign_L165 hC hr hlocks  _ _ _ ls (lv_sub hl [] rfl) hw hf
      · have hf := o_neg c108 hf
        refine lv_iload hx hb dX8_sign_157 (lv_at hl 0 rfl) ?_
        refine lv_sipush (v := 191) hx hb dX8_sign_159 nc_sipush_191 ?_
        refine lv_icmp_le (tgt := 167) hx hb dX8_sign_162 (by decide) (fun c109 => ?_) (fun c109 => ?_)
        · have hf := o_pos c109 hf
          refine lv_bipush (v := 64) hx hb dX8_sign_167 nc_bipush_64 ?_
          refine lv_iload hx hb dX8_sign_169 (lv_at hl 4 rfl) ?_
          refine lv_imul hx hb dX8_sign_171 ?_
          refine lv_iload hx hb dX8_sign_172 (lv_at hl 0 rfl) ?_
          refine lv_bipush (v := 63) hx hb dX8_sign_174 nc_bipush_63 ?_
          refine lv_iand hx hb dX8_sign_176 ?_
          refine lv_iadd hx hb dX8_sign_177 ?_
          refine lv_istore (lv' := [(5, .int ((64 * a5) + ((v106 &&& 255) &&& 63))), (7, .int (v106 &&& 255)), (0, .ref a0), (1, .int a1), (4, .int a4), (6, .int a6)]) hx hb dX8_sign_178 hl (by decide) rfl (fun ls hl => ?_)
          refine lv_iinc (v := (a6 + 1)) (lv' := [(6, .int (a6 + 1)), (5, .int ((64 * a5) + ((v106 &&& 255) &&& 63))), (7, .int (v106 &&& 255)), (0, .ref a0), (1, .int a1), (4, .int a4)]) hx hb dX8_sign_180 hl (k := 5) rfl (by first | rfl | decide +kernel) (by decide) rfl (fun ls hl => ?_)
          refine lv_goto (tgt := 127) hx hb dX8_sign_183 (by decide) ?_
          exact ih _ _ _ _ _ _ _ _ ls (lv_sub hl [3, 4, 5, 1, 0] rfl) hw hf
        · have hf := o_neg c109 hf
          exact w_X8_sign_L165 hC hr hlocks  _ _ _ ls (lv_sub hl [] rfl) hw hf
def f_X8_sign_L122 (cy : Nat → ClassId) (a0 : Nat) (a1 : Int32) (a4 : Int32) (t0 : Int32) (μ : Mem) : Option (Int32 × Mem) :=
  f_X8_sign_L127 cy FU a0 a1 a4 t0 1 μ
set_option maxRecDepth 100000 in
set_option maxHeartbeats 4000000 in
theorem w_X8_sign_L122 {p : Program} {l : Launch} {e : Env} {s : State} {m : MethodId} {args : Array Value} {below : List Frame} {meth : Method} {c : Code} {A : Nat → Prop} {g : Wg} {L : List Nat} {r : Int32} {μ' : Mem} (hC : CX p m c cX8_sign 8 s args RX8) (hr : meth.sig.returnType = (some .int)) (hlocks : meth.locks = false) : ∀ (a0 : Nat) (a1 : Int32) (a4 : Int32) (t0 : Int32) (μ : Mem) (H : Heap) (locs : List Loc) (ls : Array Slot), lv_has ls 8 [(0, .ref a0), (1, .int a1), (4, .int a4)] → PW g L μ A s H locs → f_X8_sign_L122 g.2 a0 a1 a4 t0 μ = some (r, μ') → W p l e rm_X8_sign s m args below meth c H locs 0 0 (MQ below (QI g L A r μ') args s 0 0 A) (F0 m 122 ls [.int t0]) := by
  have hx := hC.1
  have hb := hC.2.1
  intro a0 a1 a4 t0 μ H locs ls hl hw hf
  unfold f_X8_sign_L122 at hf
  refine lv_istore (lv' := [(5, .int t0), (0, .ref a0), (1, .int a1), (4, .int a4)]) hx hb dX8_sign_122 hl (by decide) rfl (fun ls hl => ?_)
  refine lv_iconst (v := 1) hx hb dX8_sign_124 nc_iconst_1 ?_
  refine lv_istore (lv' := [(6, .int 1), (5, .int t0), (0, .ref a0), (1, .int a1), (4, .int a4)]) hx hb dX8_sign_125 hl (by decide) rfl (fun ls hl => ?_)
  exact w_X8_sign_L127 hC hr hlocks FU _ _ _ _ _ _ _ _ ls (lv_sub hl [2, 3, 4, 1, 0] rfl) hw hf
def f_X8_sign_L75 (cy : Nat → ClassId) (a0 : Nat) (a1 : Int32) (a2 : Int32) (a3 : Int32) (t0 : Int32) (μ : Mem) : Option (Int32 × Mem) :=
  if t0 = 0 then (f_X8_sign_L90 cy  μ) else if (a1 + t0) ≤ a2 then (if t0 = 2 then (f_X8_sign_L122 cy a0 a1 t0 (a3 &&& 31) μ) else if t0 = 3 then (f_X8_sign_L122 cy a0 a1 t0 (a3 &&& 15) μ) else f_X8_sign_L122 cy a0 a1 t0 (a3 &&& 7) μ) else f_X8_sign_L90 cy  μ
set_option maxRecDepth 100000 in
set_option maxHeartbeats 4000000 in
theorem w_X8_sign_L75 {p : Program} {l : Launch} {e : Env} {s : State} {m : MethodId} {args : Array Value} {below : List Frame} {meth : Method} {c : Code} {A : Nat → Prop} {g : Wg} {L : List Nat} {r : Int32} {μ' : Mem} (hC : CX p m c cX8_sign 8 s args RX8) (hr : meth.sig.returnType = (some .int)) (hlocks : meth.locks = false) : ∀ (a0 : Nat) (a1 : Int32) (a2 : Int32) (a3 : Int32) (t0 : Int32) (μ : Mem) (H : Heap) (locs : List Loc) (ls : Array Slot), lv_has ls 8 [(0, .ref a0), (1, .int a1), (2, .int a2), (3, .int a3)] → PW g L μ A s H locs → f_X8_sign_L75 g.2 a0 a1 a2 a3 t0 μ = some (r, μ') → W p l e rm_X8_sign s m args below meth c H locs 0 0 (MQ below (QI g L A r μ') args s 0 0 A) (F0 m 75 ls [.int t0]) := by
  have hx := hC.1
  have hb := hC.2.1
  intro a0 a1 a2 a3 t0 μ H locs ls hl hw hf
  unfold f_X8_sign_L75 at hf
  refine lv_istore (lv' := [(4, .int t0), (0, .ref a0), (1, .int a1), (2, .int a2), (3, .int a3)]) hx hb dX8_sign_75 hl (by decide) rfl (fun ls hl => ?_)
  refine lv_iload hx hb dX8_sign_77 (lv_at hl 0 rfl) ?_
  refine lv_if_eq (tgt := 90) hx hb dX8_sign_79 (by decide) (fun c101 => ?_) (fun c101 => ?_)
  · have hf := o_pos c101 hf
    exact w_X8_sign_L90 hC hr hlocks  _ _ _ ls (lv_sub hl [] rfl) hw hf
  · have hf := o_neg c101 hf
    refine lv_iload_n hx hb dX8_sign_82 rfl (lv_at hl 2 rfl) ?_
    refine lv_iload hx hb dX8_sign_83 (lv_at hl 0 rfl) ?_
    refine lv_iadd hx hb dX8_sign_85 ?_
    refine lv_iload_n hx hb dX8_sign_86 rfl (lv_at hl 3 rfl) ?_
    refine lv_icmp_le (tgt := 92) hx hb dX8_sign_87 (by decide) (fun c102 => ?_) (fun c102 => ?_)
    · have hf := o_pos c102 hf
      refine lv_iload hx hb dX8_sign_92 (lv_at hl 0 rfl) ?_
      refine lv_iconst (v := 2) hx hb dX8_sign_94 nc_iconst_2 ?_
      refine lv_icmp_ne (tgt := 105) hx hb dX8_sign_95 (by decide) (fun c103 => ?_) (fun c103 => ?_)
      · have hf := o_neg c103 hf
        refine lv_iload hx hb dX8_sign_105 (lv_at hl 0 rfl) ?_
        refine lv_iconst (v := 3) hx hb dX8_sign_107 nc_iconst_3 ?_
        refine lv_icmp_ne (tgt := 118) hx hb dX8_sign_108 (by decide) (fun c104 => ?_) (fun c104 => ?_)
        · have hf := o_neg c104 hf
          refine lv_iload_n hx hb dX8_sign_118 rfl (lv_at hl 4 rfl) ?_
          refine lv_bipush (v := 7) hx hb dX8_sign_119 nc_bipush_7 ?_
          refine lv_iand hx hb dX8_sign_121 ?_
          exact w_X8_sign_L122 hC hr hlocks _ _ _ _ _ _ _ ls (lv_sub hl [1, 2, 0] rfl) hw hf
        · have hf := o_pos c104 hf
          refine lv_iload_n hx hb dX8_sign_111 rfl (lv_at hl 4 rfl) ?_
          refine lv_bipush (v := 15) hx hb dX8_sign_112 nc_bipush_15 ?_
          refine lv_iand hx hb dX8_sign_114 ?_
          refine lv_goto (tgt := 122) hx hb dX8_sign_115 (by decide) ?_
          exact w_X8_sign_L122 hC hr hlocks _ _ _ _ _ _ _ ls (lv_sub hl [1, 2, 0] rfl) hw hf
      · have hf := o_pos c103 hf
        refine lv_iload_n hx hb dX8_sign_98 rfl (lv_at hl 4 rfl) ?_
        refine lv_bipush (v := 31) hx hb dX8_sign_99 nc_bipush_31 ?_
        refine lv_iand hx hb dX8_sign_101 ?_
        refine lv_goto (tgt := 122) hx hb dX8_sign_102 (by decide) ?_
        exact w_X8_sign_L122 hC hr hlocks _ _ _ _ _ _ _ ls (lv_sub hl [1, 2, 0] rfl) hw hf
    · have hf := o_neg c102 hf
      exact w_X8_sign_L90 hC hr hlocks  _ _ _ ls (lv_sub hl [] rfl) hw hf
def f_X8_sign_L74 (cy : Nat → ClassId) (a0 : Nat) (a1 : Int32) (a2 : Int32) (a3 : Int32) (μ : Mem) : Option (Int32 × Mem) :=
  f_X8_sign_L75 cy a0 a1 a2 a3 0 μ
set_option maxRecDepth 100000 in
set_option maxHeartbeats 4000000 in
theorem w_X8_sign_L74 {p : Program} {l : Launch} {e : Env} {s : State} {m : MethodId} {args : Array Value} {below : List Frame} {meth : Method} {c : Code} {A : Nat → Prop} {g : Wg} {L : List Nat} {r : Int32} {μ' : Mem} (hC : CX p m c cX8_sign 8 s args RX8) (hr : meth.sig.returnType = (some .int)) (hlocks : meth.locks = false) : ∀ (a0 : Nat) (a1 : Int32) (a2 : Int32) (a3 : Int32) (μ : Mem) (H : Heap) (locs : List Loc) (ls : Array Slot), lv_has ls 8 [(0, .ref a0), (1, .int a1), (2, .int a2), (3, .int a3)] → PW g L μ A s H locs → f_X8_sign_L74 g.2 a0 a1 a2 a3 μ = some (r, μ') → W p l e rm_X8_sign s m args below meth c H locs 0 0 (MQ below (QI g L A r μ') args s 0 0 A) (F0 m 74 ls []) := by
  have hx := hC.1
  have hb := hC.2.1
  intro a0 a1 a2 a3 μ H locs ls hl hw hf
  unfold f_X8_sign_L74 at hf
  refine lv_iconst (v := 0) hx hb dX8_sign_74 nc_iconst_0 ?_
  exact w_X8_sign_L75 hC hr hlocks _ _ _ _ _ _ _ _ ls (lv_sub hl [0, 1, 2, 3] rfl) hw hf
def f_X8_sign_L56 (cy : Nat → ClassId) (a0 : Nat) (a1 : Int32) (a2 : Int32) (a3 : Int32) (μ : Mem) : Option (Int32 × Mem) :=
  if a3 < 192 then (f_X8_sign_L74 cy a0 a1 a2 a3 μ) else if 224 ≤ a3 then (f_X8_sign_L74 cy a0 a1 a2 a3 μ) else f_X8_sign_L75 cy a0 a1 a2 a3 2 μ
set_option maxRecDepth 100000 in
set_option maxHeartbeats 4000000 in
theorem w_X8_sign_L56 {p : Program} {l : Launch} {e : Env} {s : State} {m : MethodId} {args : Array Value} {below : List Frame} {meth : Method} {c : Code} {A : Nat → Prop} {g : Wg} {L : List Nat} {r : Int32} {μ' : Mem} (hC : CX p m c cX8_sign 8 s args RX8) (hr : meth.sig.returnType = (some .int)) (hlocks : meth.locks = false) : ∀ (a0 : Nat) (a1 : Int32) (a2 : Int32) (a3 : Int32) (μ : Mem) (H : Heap) (locs : List Loc) (ls : Array Slot), lv_has ls 8 [(0, .ref a0), (1, .int a1), (2, .int a2), (3, .int a3)] → PW g L μ A s H locs → f_X8_sign_L56 g.2 a0 a1 a2 a3 μ = some (r, μ') → W p l e rm_X8_sign s m args below meth c H locs 0 0 (MQ below (QI g L A r μ') args s 0 0 A) (F0 m 56 ls []) := by
  have hx := hC.1
  have hb := hC.2.1
  intro a0 a1 a2 a3 μ H locs ls hl hw hf
  unfold f_X8_sign_L56 at hf
  refine lv_iload_n hx hb dX8_sign_56 rfl (lv_at hl 3 rfl) ?_
  refine lv_sipush (v := 192) hx hb dX8_sign_57 nc_sipush_192 ?_
  refine lv_icmp_lt (tgt := 74) hx hb dX8_sign_60 (by decide) (fun c101 => ?_) (fun c101 => ?_)
  · have hf := o_pos c101 hf
    exact w_X8_sign_L74 hC hr hlocks _ _ _ _ _ _ _ ls (lv_sub hl [0, 1, 2, 3] rfl) hw hf
  · have hf := o_neg c101 hf
    refine lv_iload_n hx hb dX8_sign_63 rfl (lv_at hl 3 rfl) ?_
    refine lv_sipush (v := 224) hx hb dX8_sign_64 nc_sipush_224 ?_
    refine lv_icmp_ge (tgt := 74) hx hb dX8_sign_67 (by decide) (fun c102 => ?_) (fun c102 => ?_)
    · have hf := o_pos c102 hf
      exact w_X8_sign_L74 hC hr hlocks _ _ _ _ _ _ _ ls (lv_sub hl [0, 1, 2, 3] rfl) hw hf
    · have hf := o_neg c102 hf
      refine lv_iconst (v := 2) hx hb dX8_sign_70 nc_iconst_2 ?_
      refine lv_goto (tgt := 75) hx hb dX8_sign_71 (by decide) ?_
      exact w_X8_sign_L75 hC hr hlocks _ _ _ _ _ _ _ _ ls (lv_sub hl [0, 1, 2, 3] rfl) hw hf
def f_X8_sign_L38 (cy : Nat → ClassId) (a0 : Nat) (a1 : Int32) (a2 : Int32) (a3 : Int32) (μ : Mem) : Option (Int32 × Mem) :=
  if a3 < 224 then (f_X8_sign_L56 cy a0 a1 a2 a3 μ) else if 240 ≤ a3 then (f_X8_sign_L56 cy a0 a1 a2 a3 μ) else f_X8_sign_L75 cy a0 a1 a2 a3 3 μ
set_option maxRecDepth 100000 in
set_option maxHeartbeats 4000000 in
theorem w_X8_sign_L38 {p : Program} {l : Launch} {e : Env} {s : State} {m : MethodId} {args : Array Value} {below : List Frame} {meth : Method} {c : Code} {A : Nat → Prop} {g : Wg} {L : List Nat} {r : Int32} {μ' : Mem} (hC : CX p m c cX8_sign 8 s args RX8) (hr : meth.sig.returnType = (some .int)) (hlocks : meth.locks = false) : ∀ (a0 : Nat) (a1 : Int32) (a2 : Int32) (a3 : Int32) (μ : Mem) (H : Heap) (locs : List Loc) (ls : Array Slot), lv_has ls 8 [(0, .ref a0), (1, .int a1), (2, .int a2), (3, .int a3)] → PW g L μ A s H locs → f_X8_sign_L38 g.2 a0 a1 a2 a3 μ = some (r, μ') → W p l e rm_X8_sign s m args below meth c H locs 0 0 (MQ below (QI g L A r μ') args s 0 0 A) (F0 m 38 ls []) := by
  have hx := hC.1
  have hb := hC.2.1
  intro a0 a1 a2 a3 μ H locs ls hl hw hf
  unfold f_X8_sign_L38 at hf
  refine lv_iload_n hx hb dX8_sign_38 rfl (lv_at hl 3 rfl) ?_
  refine lv_sipush (v := 224) hx hb dX8_sign_39 nc_sipush_224 ?_
  refine lv_icmp_lt (tgt := 56) hx hb dX8_sign_42 (by decide) (fun c101 => ?_) (fun c101 => ?_)
  · have hf := o_pos c101 hf
    exact w_X8_sign_L56 hC hr hlocks _ _ _ _ _ _ _ ls (lv_sub hl [0, 1, 2, 3] rfl) hw hf
  · have hf := o_neg c101 hf
    refine lv_iload_n hx hb dX8_sign_45 rfl (lv_at hl 3 rfl) ?_
    refine lv_sipush (v := 240) hx hb dX8_sign_46 nc_sipush_240 ?_
    refine lv_icmp_ge (tgt := 56) hx hb dX8_sign_49 (by decide) (fun c102 => ?_) (fun c102 => ?_)
    · have hf := o_pos c102 hf
      exact w_X8_sign_L56 hC hr hlocks _ _ _ _ _ _ _ ls (lv_sub hl [0, 1, 2, 3] rfl) hw hf
    · have hf := o_neg c102 hf
      refine lv_iconst (v := 3) hx hb dX8_sign_52 nc_iconst_3 ?_
      refine lv_goto (tgt := 75) hx hb dX8_sign_53 (by decide) ?_
      exact w_X8_sign_L75 hC hr hlocks _ _ _ _ _ _ _ _ ls (lv_sub hl [0, 1, 2, 3] rfl) hw hf
def f_X8_sign (cy : Nat → ClassId) (a0 : Nat) (a1 : Int32) (a2 : Int32) (μ : Mem) : Option (Int32 × Mem) :=
  (rdR μ a0 7 1).bind fun q1 => (rdA cy μ 0 q1 a1).bind fun v3 => if 128 ≤ (v3 &&& 255) then (if (v3 &&& 255) < 240 then (f_X8_sign_L38 cy a0 a1 a2 (v3 &&& 255) μ) else if 248 ≤ (v3 &&& 255) then (f_X8_sign_L38 cy a0 a1 a2 (v3 &&& 255) μ) else f_X8_sign_L75 cy a0 a1 a2 (v3 &&& 255) 4 μ) else some (1, μ)
set_option maxRecDepth 100000 in
set_option maxHeartbeats 4000000 in
theorem c_X8_sign {l : Launch} {g : Wg} {L : List Nat} {μ : Mem} {a0 : Nat} {a1 : Int32} {a2 : Int32} {r : Int32} {μ' : Mem} (hf : f_X8_sign g.2 a0 a1 a2 μ = some (r, μ')) : MetI l yX8_sign cX8_sign 8 (some .int) rm_X8_sign g L μ [.ref a0, .int a1, .int a2] r μ' := by
  refine pw_met (Qc := fun A => QI g L A r μ') (by decide) (Nat.le_of_ble_eq_true rfl) ?_
  intro p e s m args below meth c A ls H locs hC hr hlocks hl hw
  have hx := hC.1
  have hb := hC.2.1
  have hl : lv_has ls 8 [(0, .ref a0), (1, .int a1), (2, .int a2)] := hl
  unfold f_X8_sign at hf
  refine lv_aload_n hx hb dX8_sign_0 rfl (lv_at hl 0 rfl) ?_
  obtain ⟨q1, h2, hf⟩ := o_bind hf
  refine pw_get hC fl_X8_13 hw (rdR_F h2) dX8_sign_1 ?_
  refine lv_iload_n hx hb dX8_sign_4 rfl (lv_at hl 1 rfl) ?_
  obtain ⟨v3, h4, hf⟩ := o_bind hf
  refine pw_bald hC hw h4 dX8_sign_5 ?_
  refine lv_sipush (v := 255) hx hb dX8_sign_6 nc_sipush_255 ?_
  refine lv_iand hx hb dX8_sign_9 ?_
  refine lv_istore_n (lv' := [(3, .int (v3 &&& 255)), (0, .ref a0), (1, .int a1), (2, .int a2)]) hx hb dX8_sign_10 rfl hl (by decide) rfl (fun ls hl => ?_)
  refine lv_iload_n hx hb dX8_sign_11 rfl (lv_at hl 0 rfl) ?_
  refine lv_sipush (v := 128) hx hb dX8_sign_12 nc_sipush_128 ?_
  refine lv_icmp_ge (tgt := 20) hx hb dX8_sign_15 (by decide) (fun c5 => ?_) (fun c5 => ?_)
  · have hf := o_pos c5 hf
    refine lv_iload_n hx hb dX8_sign_20 rfl (lv_at hl 0 rfl) ?_
    refine lv_sipush (v := 240) hx hb dX8_sign_21 nc_sipush_240 ?_
    refine lv_icmp_lt (tgt := 38) hx hb dX8_sign_24 (by decide) (fun c6 => ?_) (fun c6 => ?_)
    · have hf := o_pos c6 hf
      exact w_X8_sign_L38 hC hr hlocks _ _ _ _ _ _ _ ls (lv_sub hl [1, 2, 3, 0] rfl) hw hf
    · have hf := o_neg c6 hf
      refine lv_iload_n hx hb dX8_sign_27 rfl (lv_at hl 0 rfl) ?_
      refine lv_sipush (v := 248) hx hb dX8_sign_28 nc_sipush_248 ?_
      refine lv_icmp_ge (tgt := 38) hx hb dX8_sign_31 (by decide) (fun c7 => ?_) (fun c7 => ?_)
      · have hf := o_pos c7 hf
        exact w_X8_sign_L38 hC hr hlocks _ _ _ _ _ _ _ ls (lv_sub hl [1, 2, 3, 0] rfl) hw hf
      · have hf := o_neg c7 hf
        refine lv_iconst (v := 4) hx hb dX8_sign_34 nc_iconst_4 ?_
        refine lv_goto (tgt := 75) hx hb dX8_sign_35 (by decide) ?_
        exact w_X8_sign_L75 hC hr hlocks _ _ _ _ _ _ _ _ ls (lv_sub hl [1, 2, 3, 0] rfl) hw hf
  · have hf := o_neg c5 hf
    refine lv_iconst (v := 1) hx hb dX8_sign_18 nc_iconst_1 ?_
    obtain ⟨rfl, rfl⟩ := o_ret hf
    exact pw_iret hC hr hlocks hw dX8_sign_19
theorem dX8_zero_0 : decode cX8_zero 0 = .ok (.iload_n 1, 1) := by decide +kernel
theorem dX8_zero_1 : decode cX8_zero 1 = .ok (.istore_n 3, 1) := by decide +kernel
theorem dX8_zero_2 : decode cX8_zero 2 = .ok (.iload_n 3, 1) := by decide +kernel
theorem dX8_zero_3 : decode cX8_zero 3 = .ok (.iload_n 2, 1) := by decide +kernel
theorem dX8_zero_4 : decode cX8_zero 4 = .ok (.if_icmp .ge 18, 3) := by decide +kernel
theorem dX8_zero_7 : decode cX8_zero 7 = .ok (.aload_n 0, 1) := by decide +kernel
theorem dX8_zero_8 : decode cX8_zero 8 = .ok (.getfield 13, 3) := by decide +kernel
theorem dX8_zero_11 : decode cX8_zero 11 = .ok (.iload_n 3, 1) := by decide +kernel
theorem dX8_zero_12 : decode cX8_zero 12 = .ok (.baload, 1) := by decide +kernel
theorem dX8_zero_13 : decode cX8_zero 13 = .ok (.ifCond .eq 9, 3) := by decide +kernel
theorem dX8_zero_16 : decode cX8_zero 16 = .ok (.iinc 3 1, 3) := by decide +kernel
theorem dX8_zero_19 : decode cX8_zero 19 = .ok (.goto (-17), 3) := by decide +kernel
theorem dX8_zero_22 : decode cX8_zero 22 = .ok (.iload_n 3, 1) := by decide +kernel
theorem dX8_zero_23 : decode cX8_zero 23 = .ok (.iload_n 2, 1) := by decide +kernel
theorem dX8_zero_24 : decode cX8_zero 24 = .ok (.if_icmp .ge 7, 3) := by decide +kernel
theorem dX8_zero_27 : decode cX8_zero 27 = .ok (.iload_n 3, 1) := by decide +kernel
theorem dX8_zero_28 : decode cX8_zero 28 = .ok (.goto 4, 3) := by decide +kernel
theorem dX8_zero_31 : decode cX8_zero 31 = .ok (.iconst (-1), 1) := by decide +kernel
theorem dX8_zero_32 : decode cX8_zero 32 = .ok (.ireturn, 1) := by decide +kernel
abbrev rm_X8_zero : Room := { frames := 0, cells := 0, slots := 0, locals := 0 }
def f_X8_zero_L22 (cy : Nat → ClassId) (a2 : Int32) (a3 : Int32) (μ : Mem) : Option (Int32 × Mem) :=
  if a2 ≤ a3 then (some ((-1), μ)) else some (a3, μ)
set_option maxRecDepth 100000 in
set_option maxHeartbeats 4000000 in
theorem w_X8_zero_L22 {p : Program} {l : Launch} {e : Env} {s : State} {m : MethodId} {args : Array Value} {below : List Frame} {meth : Method} {c : Code} {A : Nat → Prop} {g : Wg} {L : List Nat} {r : Int32} {μ' : Mem} (hC : CX p m c cX8_zero 4 s args RX8) (hr : meth.sig.returnType = (some .int)) (hlocks : meth.locks = false) : ∀ (a2 : Int32) (a3 : Int32) (μ : Mem) (H : Heap) (locs : List Loc) (ls : Array Slot), lv_has ls 4 [(2, .int a2), (3, .int a3)] → PW g L μ A s H locs → f_X8_zero_L22 g.2 a2 a3 μ = some (r, μ') → W p l e rm_X8_zero s m args below meth c H locs 0 0 (MQ below (QI g L A r μ') args s 0 0 A) (F0 m 22 ls []) := by
  have hx := hC.1
  have hb := hC.2.1
  intro a2 a3 μ H locs ls hl hw hf
  unfold f_X8_zero_L22 at hf
  refine lv_iload_n hx hb dX8_zero_22 rfl (lv_at hl 1 rfl) ?_
  refine lv_iload_n hx hb dX8_zero_23 rfl (lv_at hl 0 rfl) ?_
  refine lv_icmp_ge (tgt := 31) hx hb dX8_zero_24 (by decide) (fun c101 => ?_) (fun c101 => ?_)
  · have hf := o_pos c101 hf
    refine lv_iconst (v := (-1)) hx hb dX8_zero_31 nc_iconst_m1 ?_
    obtain ⟨rfl, rfl⟩ := o_ret hf
    exact pw_iret hC hr hlocks hw dX8_zero_32
  · have hf := o_neg c101 hf
    refine lv_iload_n hx hb dX8_zero_27 rfl (lv_at hl 1 rfl) ?_
    refine lv_goto (tgt := 32) hx hb dX8_zero_28 (by decide) ?_
    obtain ⟨rfl, rfl⟩ := o_ret hf
    exact pw_iret hC hr hlocks hw dX8_zero_32
def f_X8_zero_L2 (cy : Nat → ClassId) : Nat → Nat → Int32 → Int32 → Mem → Option (Int32 × Mem)
  | 0, _, _, _, _ => none
  | n + 1, a0, a2, a3, μ => if a2 ≤ a3 then (f_X8_zero_L22 cy a2 a3 μ) else (rdR μ a0 7 1).bind fun q102 => (rdA cy μ 0 q102 a3).bind fun v104 => if v104 = 0 then (f_X8_zero_L22 cy a2 a3 μ) else f_X8_zero_L2 cy n a0 a2 (a3 + 1) μ
set_option maxRecDepth 100000 in
set_option maxHeartbeats 4000000 in
theorem w_X8_zero_L2 {p : Program} {l : Launch} {e : Env} {s : State} {m : MethodId} {args : Array Value} {below : List Frame} {meth : Method} {c : Code} {A : Nat → Prop} {g : Wg} {L : List Nat} {r : Int32} {μ' : Mem} (hC : CX p m c cX8_zero 4 s args RX8) (hr : meth.sig.returnType = (some .int)) (hlocks : meth.locks = false) : ∀ (n : Nat), ∀ (a0 : Nat) (a2 : Int32) (a3 : Int32) (μ : Mem) (H : Heap) (locs : List Loc) (ls : Array Slot), lv_has ls 4 [(0, .ref a0), (2, .int a2), (3, .int a3)] → PW g L μ A s H locs → f_X8_zero_L2 g.2 n a0 a2 a3 μ = some (r, μ') → W p l e rm_X8_zero s m args below meth c H locs 0 0 (MQ below (QI g L A r μ') args s 0 0 A) (F0 m 2 ls []) := by
  have hx := hC.1
  have hb := hC.2.1
  intro n
  induction n with
  | zero => intro a0 a2 a3 μ H locs ls hl hw hf; cases hf
  | succ n ih =>
    intro a0 a2 a3 μ H locs ls hl hw hf
    rw [f_X8_zero_L2] at hf
    refine lv_iload_n hx hb dX8_zero_2 rfl (lv_at hl 2 rfl) ?_
    refine lv_iload_n hx hb dX8_zero_3 rfl (lv_at hl 1 rfl) ?_
    refine lv_icmp_ge (tgt := 22) hx hb dX8_zero_4 (by decide) (fun c101 => ?_) (fun c101 => ?_)
    · have hf := o_pos c101 hf
      exact w_X8_zero_L22 hC hr hlocks _ _ _ _ _ ls (lv_sub hl [1, 2] rfl) hw hf
    · have hf := o_neg c101 hf
      refine lv_aload_n hx hb dX8_zero_7 rfl (lv_at hl 0 rfl) ?_
      obtain ⟨q102, h103, hf⟩ := o_bind hf
      refine pw_get hC fl_X8_13 hw (rdR_F h103) dX8_zero_8 ?_
      refine lv_iload_n hx hb dX8_zero_11 rfl (lv_at hl 2 rfl) ?_
      obtain ⟨v104, h105, hf⟩ := o_bind hf
      refine pw_bald hC hw h105 dX8_zero_12 ?_
      refine lv_if_eq (tgt := 22) hx hb dX8_zero_13 (by decide) (fun c106 => ?_) (fun c106 => ?_)
      · have hf := o_pos c106 hf
        exact w_X8_zero_L22 hC hr hlocks _ _ _ _ _ ls (lv_sub hl [1, 2] rfl) hw hf
      · have hf := o_neg c106 hf
        refine lv_iinc (v := (a3 + 1)) (lv' := [(3, .int (a3 + 1)), (0, .ref a0), (2, .int a2)]) hx hb dX8_zero_16 hl (k := 2) rfl (by first | rfl | decide +kernel) (by decide) rfl (fun ls hl => ?_)
        refine lv_goto (tgt := 2) hx hb dX8_zero_19 (by decide) ?_
        exact ih _ _ _ _ _ _ ls (lv_sub hl [1, 2, 0] rfl) hw hf
def f_X8_zero (cy : Nat → ClassId) (a0 : Nat) (a1 : Int32) (a2 : Int32) (μ : Mem) : Option (Int32 × Mem) :=
  f_X8_zero_L2 cy FU a0 a2 a1 μ
set_option maxRecDepth 100000 in
set_option maxHeartbeats 4000000 in
theorem c_X8_zero {l : Launch} {g : Wg} {L : List Nat} {μ : Mem} {a0 : Nat} {a1 : Int32} {a2 : Int32} {r : Int32} {μ' : Mem} (hf : f_X8_zero g.2 a0 a1 a2 μ = some (r, μ')) : MetI l yX8_zero cX8_zero 4 (some .int) rm_X8_zero g L μ [.ref a0, .int a1, .int a2] r μ' := by
  refine pw_met (Qc := fun A => QI g L A r μ') (by decide) (Nat.le_of_ble_eq_true rfl) ?_
  intro p e s m args below meth c A ls H locs hC hr hlocks hl hw
  have hx := hC.1
  have hb := hC.2.1
  have hl : lv_has ls 4 [(0, .ref a0), (1, .int a1), (2, .int a2)] := hl
  unfold f_X8_zero at hf
  refine lv_iload_n hx hb dX8_zero_0 rfl (lv_at hl 1 rfl) ?_
  refine lv_istore_n (lv' := [(3, .int a1), (0, .ref a0), (1, .int a1), (2, .int a2)]) hx hb dX8_zero_1 rfl hl (by decide) rfl (fun ls hl => ?_)
  exact w_X8_zero_L2 hC hr hlocks FU _ _ _ _ _ _ ls (lv_sub hl [1, 3, 0] rfl) hw hf
theorem dX8_decimals_0 : decode cX8_decimals 0 = .ok (.iconst 1, 1) := by decide +kernel
theorem dX8_decimals_1 : decode cX8_decimals 1 = .ok (.istore_n 2, 1) := by decide +kernel
theorem dX8_decimals_2 : decode cX8_decimals 2 = .ok (.iload_n 1, 1) := by decide +kernel
theorem dX8_decimals_3 : decode cX8_decimals 3 = .ok (.istore_n 3, 1) := by decide +kernel
theorem dX8_decimals_4 : decode cX8_decimals 4 = .ok (.iload_n 3, 1) := by decide +kernel
theorem dX8_decimals_5 : decode cX8_decimals 5 = .ok (.bipush 9, 2) := by decide +kernel
theorem dX8_decimals_7 : decode cX8_decimals 7 = .ok (.if_icmp .le 14, 3) := by decide +kernel
theorem dX8_decimals_10 : decode cX8_decimals 10 = .ok (.iinc 2 1, 3) := by decide +kernel
theorem dX8_decimals_13 : decode cX8_decimals 13 = .ok (.iload_n 3, 1) := by decide +kernel
theorem dX8_decimals_14 : decode cX8_decimals 14 = .ok (.bipush 10, 2) := by decide +kernel
theorem dX8_decimals_16 : decode cX8_decimals 16 = .ok (.idiv, 1) := by decide +kernel
theorem dX8_decimals_17 : decode cX8_decimals 17 = .ok (.istore_n 3, 1) := by decide +kernel
theorem dX8_decimals_18 : decode cX8_decimals 18 = .ok (.goto (-14), 3) := by decide +kernel
theorem dX8_decimals_21 : decode cX8_decimals 21 = .ok (.iload_n 1, 1) := by decide +kernel
theorem dX8_decimals_22 : decode cX8_decimals 22 = .ok (.istore_n 3, 1) := by decide +kernel
theorem dX8_decimals_23 : decode cX8_decimals 23 = .ok (.iload_n 2, 1) := by decide +kernel
theorem dX8_decimals_24 : decode cX8_decimals 24 = .ok (.iconst 1, 1) := by decide +kernel
theorem dX8_decimals_25 : decode cX8_decimals 25 = .ok (.isub, 1) := by decide +kernel
theorem dX8_decimals_26 : decode cX8_decimals 26 = .ok (.istore 4, 2) := by decide +kernel
theorem dX8_decimals_28 : decode cX8_decimals 28 = .ok (.iload 4, 2) := by decide +kernel
theorem dX8_decimals_30 : decode cX8_decimals 30 = .ok (.ifCond .lt 29, 3) := by decide +kernel
theorem dX8_decimals_33 : decode cX8_decimals 33 = .ok (.aload_n 0, 1) := by decide +kernel
theorem dX8_decimals_34 : decode cX8_decimals 34 = .ok (.getfield 61, 3) := by decide +kernel
theorem dX8_decimals_37 : decode cX8_decimals 37 = .ok (.iload 4, 2) := by decide +kernel
theorem dX8_decimals_39 : decode cX8_decimals 39 = .ok (.bipush 48, 2) := by decide +kernel
theorem dX8_decimals_41 : decode cX8_decimals 41 = .ok (.iload_n 3, 1) := by decide +kernel
theorem dX8_decimals_42 : decode cX8_decimals 42 = .ok (.bipush 10, 2) := by decide +kernel
theorem dX8_decimals_44 : decode cX8_decimals 44 = .ok (.irem, 1) := by decide +kernel
theorem dX8_decimals_45 : decode cX8_decimals 45 = .ok (.iadd, 1) := by decide +kernel
theorem dX8_decimals_46 : decode cX8_decimals 46 = .ok (.i2b, 1) := by decide +kernel
theorem dX8_decimals_47 : decode cX8_decimals 47 = .ok (.bastore, 1) := by decide +kernel
theorem dX8_decimals_48 : decode cX8_decimals 48 = .ok (.iload_n 3, 1) := by decide +kernel
theorem dX8_decimals_49 : decode cX8_decimals 49 = .ok (.bipush 10, 2) := by decide +kernel
theorem dX8_decimals_51 : decode cX8_decimals 51 = .ok (.idiv, 1) := by decide +kernel
theorem dX8_decimals_52 : decode cX8_decimals 52 = .ok (.istore_n 3, 1) := by decide +kernel
theorem dX8_decimals_53 : decode cX8_decimals 53 = .ok (.iinc 4 (-1), 3) := by decide +kernel
theorem dX8_decimals_56 : decode cX8_decimals 56 = .ok (.goto (-28), 3) := by decide +kernel
theorem dX8_decimals_59 : decode cX8_decimals 59 = .ok (.iload_n 2, 1) := by decide +kernel
theorem dX8_decimals_60 : decode cX8_decimals 60 = .ok (.ireturn, 1) := by decide +kernel
abbrev rm_X8_decimals : Room := { frames := 0, cells := 0, slots := 0, locals := 0 }
def f_X8_decimals_L28 (cy : Nat → ClassId) : Nat → Nat → Int32 → Int32 → Int32 → Mem → Option (Int32 × Mem)
  | 0, _, _, _, _, _ => none
  | n + 1, a0, a2, a3, a4, μ => if a4 < 0 then (some (a2, μ)) else (rdR μ a0 7 20).bind fun q102 => (wrA cy μ 0 q102 a4 (vp_nar .byte ((Int32.toInt8 (48 + (a3 - a3 / 10 * 10))).toInt32))).bind fun μ104 => f_X8_decimals_L28 cy n a0 a2 (a3 / 10) (a4 + (-1)) μ104
set_option maxRecDepth 100000 in
set_option maxHeartbeats 4000000 in
theorem w_X8_decimals_L28 {p : Program} {l : Launch} {e : Env} {s : State} {m : MethodId} {args : Array Value} {below : List Frame} {meth : Method} {c : Code} {A : Nat → Prop} {g : Wg} {L : List Nat} {r : Int32} {μ' : Mem} (hC : CX p m c cX8_decimals 5 s args RX8) (hr : meth.sig.returnType = (some .int)) (hlocks : meth.locks = false) : ∀ (n : Nat), ∀ (a0 : Nat) (a2 : Int32) (a3 : Int32) (a4 : Int32) (μ : Mem) (H : Heap) (locs : List Loc) (ls : Array Slot), lv_has ls 5 [(0, .ref a0), (2, .int a2), (3, .int a3), (4, .int a4)] → PW g L μ A s H locs → f_X8_decimals_L28 g.2 n a0 a2 a3 a4 μ = some (r, μ') → W p l e rm_X8_decimals s m args below meth c H locs 0 0 (MQ below (QI g L A r μ') args s 0 0 A) (F0 m 28 ls []) := by
  have hx := hC.1
  have hb := hC.2.1
  intro n
  induction n with
  | zero => intro a0 a2 a3 a4 μ H locs ls hl hw hf; cases hf
  | succ n ih =>
    intro a0 a2 a3 a4 μ H locs ls hl hw hf
    rw [f_X8_decimals_L28] at hf
    refine lv_iload hx hb dX8_decimals_28 (lv_at hl 3 rfl) ?_
    refine lv_if_lt (tgt := 59) hx hb dX8_decimals_30 (by decide) (fun c101 => ?_) (fun c101 => ?_)
    · have hf := o_pos c101 hf
      refine lv_iload_n hx hb dX8_decimals_59 rfl (lv_at hl 1 rfl) ?_
      obtain ⟨rfl, rfl⟩ := o_ret hf
      exact pw_iret hC hr hlocks hw dX8_decimals_60
    · have hf := o_neg c101 hf
      refine lv_aload_n hx hb dX8_decimals_33 rfl (lv_at hl 0 rfl) ?_
      obtain ⟨q102, h103, hf⟩ := o_bind hf
      refine pw_get hC fl_X8_61 hw (rdR_F h103) dX8_decimals_34 ?_
      refine lv_iload hx hb dX8_decimals_37 (lv_at hl 3 rfl) ?_
      refine lv_bipush (v := 48) hx hb dX8_decimals_39 nc_bipush_48 ?_
      refine lv_iload_n hx hb dX8_decimals_41 rfl (lv_at hl 2 rfl) ?_
      refine lv_bipush (v := 10) hx hb dX8_decimals_42 nc_bipush_10 ?_
      refine lv_irem hx hb dX8_decimals_44 (by decide +kernel) ?_
      refine lv_iadd hx hb dX8_decimals_45 ?_
      refine lv_i2b hx hb dX8_decimals_46 rfl ?_
      obtain ⟨μ104, h105, hf⟩ := o_bind hf
      refine pw_bast hC hw h105 dX8_decimals_47 (fun H locs hw => ?_)
      refine lv_iload_n hx hb dX8_decimals_48 rfl (lv_at hl 2 rfl) ?_
      refine lv_bipush (v := 10) hx hb dX8_decimals_49 nc_bipush_10 ?_
      refine lv_idiv hx hb dX8_decimals_51 (by decide +kernel) ?_
      refine lv_istore_n (lv' := [(3, .int (a3 / 10)), (0, .ref a0), (2, .int a2), (4, .int a4)]) hx hb dX8_decimals_52 rfl hl (by decide) rfl (fun ls hl => ?_)
      refine lv_iinc (v := (a4 + (-1))) (lv' := [(4, .int (a4 + (-1))), (3, .int (a3 / 10)), (0, .ref a0), (2, .int a2)]) hx hb dX8_decimals_53 hl (k := 3) rfl (by first | rfl | decide +kernel) (by decide) rfl (fun ls hl => ?_)
      refine lv_goto (tgt := 28) hx hb dX8_decimals_56 (by decide) ?_
      exact ih _ _ _ _ _ _ _ ls (lv_sub hl [2, 3, 1, 0] rfl) hw hf
def f_X8_decimals_L4 (cy : Nat → ClassId) : Nat → Nat → Int32 → Int32 → Int32 → Mem → Option (Int32 × Mem)
  | 0, _, _, _, _, _ => none
  | n + 1, a0, a1, a2, a3, μ => if a3 ≤ 9 then (f_X8_decimals_L28 cy FU a0 a2 a1 (a2 - 1) μ) else f_X8_decimals_L4 cy n a0 a1 (a2 + 1) (a3 / 10) μ
set_option maxRecDepth 100000 in
set_option maxHeartbeats 4000000 in
theorem w_X8_decimals_L4 {p : Program} {l : Launch} {e : Env} {s : State} {m : MethodId} {args : Array Value} {below : List Frame} {meth : Method} {c : Code} {A : Nat → Prop} {g : Wg} {L : List Nat} {r : Int32} {μ' : Mem} (hC : CX p m c cX8_decimals 5 s args RX8) (hr : meth.sig.returnType = (some .int)) (hlocks : meth.locks = false) : ∀ (n : Nat), ∀ (a0 : Nat) (a1 : Int32) (a2 : Int32) (a3 : Int32) (μ : Mem) (H : Heap) (locs : List Loc) (ls : Array Slot), lv_has ls 5 [(0, .ref a0), (1, .int a1), (2, .int a2), (3, .int a3)] → PW g L μ A s H locs → f_X8_decimals_L4 g.2 n a0 a1 a2 a3 μ = some (r, μ') → W p l e rm_X8_decimals s m args below meth c H locs 0 0 (MQ below (QI g L A r μ') args s 0 0 A) (F0 m 4 ls []) := by
  have hx := hC.1
  have hb := hC.2.1
  intro n
  induction n with
  | zero => intro a0 a1 a2 a3 μ H locs ls hl hw hf; cases hf
  | succ n ih =>
    intro a0 a1 a2 a3 μ H locs ls hl hw hf
    rw [f_X8_decimals_L4] at hf
    refine lv_iload_n hx hb dX8_decimals_4 rfl (lv_at hl 3 rfl) ?_
    refine lv_bipush (v := 9) hx hb dX8_decimals_5 nc_bipush_9 ?_
    refine lv_icmp_le (tgt := 21) hx hb dX8_decimals_7 (by decide) (fun c101 => ?_) (fun c101 => ?_)
    · have hf := o_pos c101 hf
      refine lv_iload_n hx hb dX8_decimals_21 rfl (lv_at hl 1 rfl) ?_
      refine lv_istore_n (lv' := [(3, .int a1), (0, .ref a0), (1, .int a1), (2, .int a2)]) hx hb dX8_decimals_22 rfl hl (by decide) rfl (fun ls hl => ?_)
      refine lv_iload_n hx hb dX8_decimals_23 rfl (lv_at hl 3 rfl) ?_
      refine lv_iconst (v := 1) hx hb dX8_decimals_24 nc_iconst_1 ?_
      refine lv_isub hx hb dX8_decimals_25 ?_
      refine lv_istore (lv' := [(4, .int (a2 - 1)), (3, .int a1), (0, .ref a0), (1, .int a1), (2, .int a2)]) hx hb dX8_decimals_26 hl (by decide) rfl (fun ls hl => ?_)
      exact w_X8_decimals_L28 hC hr hlocks FU _ _ _ _ _ _ _ ls (lv_sub hl [2, 4, 1, 0] rfl) hw hf
    · have hf := o_neg c101 hf
      refine lv_iinc (v := (a2 + 1)) (lv' := [(2, .int (a2 + 1)), (0, .ref a0), (1, .int a1), (3, .int a3)]) hx hb dX8_decimals_10 hl (k := 2) rfl (by first | rfl | decide +kernel) (by decide) rfl (fun ls hl => ?_)
      refine lv_iload_n hx hb dX8_decimals_13 rfl (lv_at hl 3 rfl) ?_
      refine lv_bipush (v := 10) hx hb dX8_decimals_14 nc_bipush_10 ?_
      refine lv_idiv hx hb dX8_decimals_16 (by decide +kernel) ?_
      refine lv_istore_n (lv' := [(3, .int (a3 / 10)), (2, .int (a2 + 1)), (0, .ref a0), (1, .int a1)]) hx hb dX8_decimals_17 rfl hl (by decide) rfl (fun ls hl => ?_)
      refine lv_goto (tgt := 4) hx hb dX8_decimals_18 (by decide) ?_
      exact ih _ _ _ _ _ _ _ ls (lv_sub hl [2, 3, 1, 0] rfl) hw hf
def f_X8_decimals (cy : Nat → ClassId) (a0 : Nat) (a1 : Int32) (μ : Mem) : Option (Int32 × Mem) :=
  f_X8_decimals_L4 cy FU a0 a1 1 a1 μ
set_option maxRecDepth 100000 in
set_option maxHeartbeats 4000000 in
theorem c_X8_decimals {l : Launch} {g : Wg} {L : List Nat} {μ : Mem} {a0 : Nat} {a1 : Int32} {r : Int32} {μ' : Mem} (hf : f_X8_decimals g.2 a0 a1 μ = some (r, μ')) : MetI l yX8_decimals cX8_decimals 5 (some .int) rm_X8_decimals g L μ [.ref a0, .int a1] r μ' := by
  refine pw_met (Qc := fun A => QI g L A r μ') (by decide) (Nat.le_of_ble_eq_true rfl) ?_
  intro p e s m args below meth c A ls H locs hC hr hlocks hl hw
  have hx := hC.1
  have hb := hC.2.1
  have hl : lv_has ls 5 [(0, .ref a0), (1, .int a1)] := hl
  unfold f_X8_decimals at hf
  refine lv_iconst (v := 1) hx hb dX8_decimals_0 nc_iconst_1 ?_
  refine lv_istore_n (lv' := [(2, .int 1), (0, .ref a0), (1, .int a1)]) hx hb dX8_decimals_1 rfl hl (by decide) rfl (fun ls hl => ?_)
  refine lv_iload_n hx hb dX8_decimals_2 rfl (lv_at hl 2 rfl) ?_
  refine lv_istore_n (lv' := [(3, .int a1), (2, .int 1), (0, .ref a0), (1, .int a1)]) hx hb dX8_decimals_3 rfl hl (by decide) rfl (fun ls hl => ?_)
  exact w_X8_decimals_L4 hC hr hlocks FU _ _ _ _ _ _ _ ls (lv_sub hl [2, 3, 1, 0] rfl) hw hf
theorem dX8_isType_0 : decode cX8_isType 0 = .ok (.iload_n 0, 1) := by decide +kernel
theorem dX8_isType_1 : decode cX8_isType 1 = .ok (.iconst 1, 1) := by decide +kernel
theorem dX8_isType_2 : decode cX8_isType 2 = .ok (.if_icmp .lt 9, 3) := by decide +kernel
theorem dX8_isType_5 : decode cX8_isType 5 = .ok (.iload_n 0, 1) := by decide +kernel
theorem dX8_isType_6 : decode cX8_isType 6 = .ok (.bipush 19, 2) := by decide +kernel
theorem dX8_isType_8 : decode cX8_isType 8 = .ok (.if_icmp .le 16, 3) := by decide +kernel
theorem dX8_isType_11 : decode cX8_isType 11 = .ok (.iload_n 0, 1) := by decide +kernel
theorem dX8_isType_12 : decode cX8_isType 12 = .ok (.bipush 127, 2) := by decide +kernel
theorem dX8_isType_14 : decode cX8_isType 14 = .ok (.if_icmp .eq 10, 3) := by decide +kernel
theorem dX8_isType_17 : decode cX8_isType 17 = .ok (.iload_n 0, 1) := by decide +kernel
theorem dX8_isType_18 : decode cX8_isType 18 = .ok (.sipush 255, 3) := by decide +kernel
theorem dX8_isType_21 : decode cX8_isType 21 = .ok (.if_icmp .ne 7, 3) := by decide +kernel
theorem dX8_isType_24 : decode cX8_isType 24 = .ok (.iconst 1, 1) := by decide +kernel
theorem dX8_isType_25 : decode cX8_isType 25 = .ok (.goto 4, 3) := by decide +kernel
theorem dX8_isType_28 : decode cX8_isType 28 = .ok (.iconst 0, 1) := by decide +kernel
theorem dX8_isType_29 : decode cX8_isType 29 = .ok (.ireturn, 1) := by decide +kernel
abbrev rm_X8_isType : Room := { frames := 0, cells := 0, slots := 0, locals := 0 }
def f_X8_isType_L24 (cy : Nat → ClassId)  (μ : Mem) : Option (Int32 × Mem) :=
  some (1, μ)
set_option maxRecDepth 100000 in
set_option maxHeartbeats 4000000 in
theorem w_X8_isType_L24 {p : Program} {l : Launch} {e : Env} {s : State} {m : MethodId} {args : Array Value} {below : List Frame} {meth : Method} {c : Code} {A : Nat → Prop} {g : Wg} {L : List Nat} {r : Int32} {μ' : Mem} (hC : CX p m c cX8_isType 1 s args RX8) (hr : meth.sig.returnType = (some .boolean)) (hlocks : meth.locks = false) : ∀  (μ : Mem) (H : Heap) (locs : List Loc) (ls : Array Slot), lv_has ls 1 [] → PW g L μ A s H locs → f_X8_isType_L24 g.2  μ = some (r, μ') → W p l e rm_X8_isType s m args below meth c H locs 0 0 (MQ below (QI g L A r μ') args s 0 0 A) (F0 m 24 ls []) := by
  have hx := hC.1
  have hb := hC.2.1
  intro  μ H locs ls hl hw hf
  unfold f_X8_isType_L24 at hf
  refine lv_iconst (v := 1) hx hb dX8_isType_24 nc_iconst_1 ?_
  refine lv_goto (tgt := 29) hx hb dX8_isType_25 (by decide) ?_
  obtain ⟨rfl, rfl⟩ := o_ret hf
  exact pw_zret hC hr hlocks (Or.inr rfl) hw dX8_isType_29
def f_X8_isType_L11 (cy : Nat → ClassId) (a0 : Int32) (μ : Mem) : Option (Int32 × Mem) :=
  if a0 = 127 then (f_X8_isType_L24 cy  μ) else if a0 = 255 then (f_X8_isType_L24 cy  μ) else some (0, μ)
set_option maxRecDepth 100000 in
set_option maxHeartbeats 4000000 in
theorem w_X8_isType_L11 {p : Program} {l : Launch} {e : Env} {s : State} {m : MethodId} {args : Array Value} {below : List Frame} {meth : Method} {c : Code} {A : Nat → Prop} {g : Wg} {L : List Nat} {r : Int32} {μ' : Mem} (hC : CX p m c cX8_isType 1 s args RX8) (hr : meth.sig.returnType = (some .boolean)) (hlocks : meth.locks = false) : ∀ (a0 : Int32) (μ : Mem) (H : Heap) (locs : List Loc) (ls : Array Slot), lv_has ls 1 [(0, .int a0)] → PW g L μ A s H locs → f_X8_isType_L11 g.2 a0 μ = some (r, μ') → W p l e rm_X8_isType s m args below meth c H locs 0 0 (MQ below (QI g L A r μ') args s 0 0 A) (F0 m 11 ls []) := by
  have hx := hC.1
  have hb := hC.2.1
  intro a0 μ H locs ls hl hw hf
  unfold f_X8_isType_L11 at hf
  refine lv_iload_n hx hb dX8_isType_11 rfl (lv_at hl 0 rfl) ?_
  refine lv_bipush (v := 127) hx hb dX8_isType_12 nc_bipush_127 ?_
  refine lv_icmp_eq (tgt := 24) hx hb dX8_isType_14 (by decide) (fun c101 => ?_) (fun c101 => ?_)
  · have hf := o_pos c101 hf
    exact w_X8_isType_L24 hC hr hlocks  _ _ _ ls (lv_sub hl [] rfl) hw hf
  · have hf := o_neg c101 hf
    refine lv_iload_n hx hb dX8_isType_17 rfl (lv_at hl 0 rfl) ?_
    refine lv_sipush (v := 255) hx hb dX8_isType_18 nc_sipush_255 ?_
    refine lv_icmp_ne (tgt := 28) hx hb dX8_isType_21 (by decide) (fun c102 => ?_) (fun c102 => ?_)
    · have hf := o_neg c102 hf
      refine lv_iconst (v := 0) hx hb dX8_isType_28 nc_iconst_0 ?_
      obtain ⟨rfl, rfl⟩ := o_ret hf
      exact pw_zret hC hr hlocks (Or.inl rfl) hw dX8_isType_29
    · have hf := o_pos c102 hf
      exact w_X8_isType_L24 hC hr hlocks  _ _ _ ls (lv_sub hl [] rfl) hw hf
def f_X8_isType (cy : Nat → ClassId) (a0 : Int32) (μ : Mem) : Option (Int32 × Mem) :=
  if a0 < 1 then (f_X8_isType_L11 cy a0 μ) else if a0 ≤ 19 then (f_X8_isType_L24 cy  μ) else f_X8_isType_L11 cy a0 μ
set_option maxRecDepth 100000 in
set_option maxHeartbeats 4000000 in
theorem c_X8_isType {l : Launch} {g : Wg} {L : List Nat} {μ : Mem} {a0 : Int32} {r : Int32} {μ' : Mem} (hf : f_X8_isType g.2 a0 μ = some (r, μ')) : MetI l yX8_isType cX8_isType 1 (some .boolean) rm_X8_isType g L μ [.int a0] r μ' := by
  refine pw_met (Qc := fun A => QI g L A r μ') (by decide) (Nat.le_of_ble_eq_true rfl) ?_
  intro p e s m args below meth c A ls H locs hC hr hlocks hl hw
  have hx := hC.1
  have hb := hC.2.1
  have hl : lv_has ls 1 [(0, .int a0)] := hl
  unfold f_X8_isType at hf
  refine lv_iload_n hx hb dX8_isType_0 rfl (lv_at hl 0 rfl) ?_
  refine lv_iconst (v := 1) hx hb dX8_isType_1 nc_iconst_1 ?_
  refine lv_icmp_lt (tgt := 11) hx hb dX8_isType_2 (by decide) (fun c1 => ?_) (fun c1 => ?_)
  · have hf := o_pos c1 hf
    exact w_X8_isType_L11 hC hr hlocks _ _ _ _ ls (lv_sub hl [0] rfl) hw hf
  · have hf := o_neg c1 hf
    refine lv_iload_n hx hb dX8_isType_5 rfl (lv_at hl 0 rfl) ?_
    refine lv_bipush (v := 19) hx hb dX8_isType_6 nc_bipush_19 ?_
    refine lv_icmp_le (tgt := 24) hx hb dX8_isType_8 (by decide) (fun c2 => ?_) (fun c2 => ?_)
    · have hf := o_pos c2 hf
      exact w_X8_isType_L24 hC hr hlocks  _ _ _ ls (lv_sub hl [] rfl) hw hf
    · have hf := o_neg c2 hf
      exact w_X8_isType_L11 hC hr hlocks _ _ _ _ ls (lv_sub hl [0] rfl) hw hf
theorem dX8_empty_0 : decode cX8_empty 0 = .ok (.aload_n 0, 1) := by decide +kernel
theorem dX8_empty_1 : decode cX8_empty 1 = .ok (.getfield 22, 3) := by decide +kernel
theorem dX8_empty_4 : decode cX8_empty 4 = .ok (.iload_n 1, 1) := by decide +kernel
theorem dX8_empty_5 : decode cX8_empty 5 = .ok (.aaload, 1) := by decide +kernel
theorem dX8_empty_6 : decode cX8_empty 6 = .ok (.iconst 0, 1) := by decide +kernel
theorem dX8_empty_7 : decode cX8_empty 7 = .ok (.iconst 5, 1) := by decide +kernel
theorem dX8_empty_8 : decode cX8_empty 8 = .ok (.bastore, 1) := by decide +kernel
theorem dX8_empty_9 : decode cX8_empty 9 = .ok (.iconst 1, 1) := by decide +kernel
theorem dX8_empty_10 : decode cX8_empty 10 = .ok (.istore_n 2, 1) := by decide +kernel
theorem dX8_empty_11 : decode cX8_empty 11 = .ok (.iload_n 2, 1) := by decide +kernel
theorem dX8_empty_12 : decode cX8_empty 12 = .ok (.iconst 5, 1) := by decide +kernel
theorem dX8_empty_13 : decode cX8_empty 13 = .ok (.if_icmp .ge 18, 3) := by decide +kernel
theorem dX8_empty_16 : decode cX8_empty 16 = .ok (.aload_n 0, 1) := by decide +kernel
theorem dX8_empty_17 : decode cX8_empty 17 = .ok (.getfield 22, 3) := by decide +kernel
theorem dX8_empty_20 : decode cX8_empty 20 = .ok (.iload_n 1, 1) := by decide +kernel
theorem dX8_empty_21 : decode cX8_empty 21 = .ok (.aaload, 1) := by decide +kernel
theorem dX8_empty_22 : decode cX8_empty 22 = .ok (.iload_n 2, 1) := by decide +kernel
theorem dX8_empty_23 : decode cX8_empty 23 = .ok (.iconst 0, 1) := by decide +kernel
theorem dX8_empty_24 : decode cX8_empty 24 = .ok (.bastore, 1) := by decide +kernel
theorem dX8_empty_25 : decode cX8_empty 25 = .ok (.iinc 2 1, 3) := by decide +kernel
theorem dX8_empty_28 : decode cX8_empty 28 = .ok (.goto (-17), 3) := by decide +kernel
theorem dX8_empty_31 : decode cX8_empty 31 = .ok (.aload_n 0, 1) := by decide +kernel
theorem dX8_empty_32 : decode cX8_empty 32 = .ok (.getfield 25, 3) := by decide +kernel
theorem dX8_empty_35 : decode cX8_empty 35 = .ok (.iload_n 1, 1) := by decide +kernel
theorem dX8_empty_36 : decode cX8_empty 36 = .ok (.iconst 5, 1) := by decide +kernel
theorem dX8_empty_37 : decode cX8_empty 37 = .ok (.iastore, 1) := by decide +kernel
theorem dX8_empty_38 : decode cX8_empty 38 = .ok (.aload_n 0, 1) := by decide +kernel
theorem dX8_empty_39 : decode cX8_empty 39 = .ok (.iload_n 1, 1) := by decide +kernel
theorem dX8_empty_40 : decode cX8_empty 40 = .ok (.invokevirtual 94, 3) := by decide +kernel
theorem dX8_empty_43 : decode cX8_empty 43 = .ok (.return_, 1) := by decide +kernel
abbrev rm_X8_empty : Room := { frames := 1, cells := 0, slots := 0, locals := 21 }
def f_X8_empty_L11 (cy : Nat → ClassId) : Nat → Nat → Int32 → Int32 → Mem → Option Mem
  | 0, _, _, _, _ => none
  | n + 1, a0, a1, a2, μ => if 5 ≤ a2 then ((rdR μ a0 7 6).bind fun q102 => (wrA cy μ 1 q102 a1 5).bind fun μ104 => if isO μ104 a0 7 = true then ((f_X8_rests cy a0 a1 μ104).bind fun μ108 => some μ108) else none) else (rdR μ a0 7 5).bind fun q109 => (rdQ cy μ 5 q109 a1).bind fun q111 => (wrA cy μ 0 q111 a2 (vp_nar .byte 0)).bind fun μ113 => f_X8_empty_L11 cy n a0 a1 (a2 + 1) μ113
set_option maxRecDepth 100000 in
set_option maxHeartbeats 4000000 in
theorem w_X8_empty_L11 {p : Program} {l : Launch} {e : Env} {s : State} {m : MethodId} {args : Array Value} {below : List Frame} {meth : Method} {c : Code} {A : Nat → Prop} {g : Wg} {L : List Nat} {μ' : Mem} (hC : CX p m c cX8_empty 3 s args RX8) (hr : meth.sig.returnType = none) (hlocks : meth.locks = false) : ∀ (n : Nat), ∀ (a0 : Nat) (a1 : Int32) (a2 : Int32) (μ : Mem) (H : Heap) (locs : List Loc) (ls : Array Slot), lv_has ls 3 [(0, .ref a0), (1, .int a1), (2, .int a2)] → PW g L μ A s H locs → f_X8_empty_L11 g.2 n a0 a1 a2 μ = some μ' → W p l e rm_X8_empty s m args below meth c H locs 0 0 (MQ below (QV g L A μ') args s 0 0 A) (F0 m 11 ls []) := by
  have hx := hC.1
  have hb := hC.2.1
  intro n
  induction n with
  | zero => intro a0 a1 a2 μ H locs ls hl hw hf; cases hf
  | succ n ih =>
    intro a0 a1 a2 μ H locs ls hl hw hf
    rw [f_X8_empty_L11] at hf
    refine lv_iload_n hx hb dX8_empty_11 rfl (lv_at hl 2 rfl) ?_
    refine lv_iconst (v := 5) hx hb dX8_empty_12 nc_iconst_5 ?_
    refine lv_icmp_ge (tgt := 31) hx hb dX8_empty_13 (by decide) (fun c101 => ?_) (fun c101 => ?_)
    · have hf := o_pos c101 hf
      refine lv_aload_n hx hb dX8_empty_31 rfl (lv_at hl 0 rfl) ?_
      obtain ⟨q102, h103, hf⟩ := o_bind hf
      refine pw_get hC fl_X8_25 hw (rdR_F h103) dX8_empty_32 ?_
      refine lv_iload_n hx hb dX8_empty_35 rfl (lv_at hl 1 rfl) ?_
      refine lv_iconst (v := 5) hx hb dX8_empty_36 nc_iconst_5 ?_
      obtain ⟨μ104, h105, hf⟩ := o_bind hf
      refine pw_iast hC hw h105 dX8_empty_37 (fun H locs hw => ?_)
      refine lv_aload_n hx hb dX8_empty_38 rfl (lv_at hl 0 rfl) ?_
      refine lv_iload_n hx hb dX8_empty_39 rfl (lv_at hl 1 rfl) ?_
      obtain ⟨h107, hf⟩ := o_ite hf
      obtain ⟨μ108, h106, hf⟩ := o_bind hf
      refine pw_goV hw (pw_runV (As := [.int a1]) (rest := []) hC mm_X8_rests tw_1071 (c_X8_rests h106 _) ⟨rfl, rfl, by decide, by decide⟩ hw h107 rfl hl.1 (Nat.le_of_ble_eq_true rfl) ⟨Nat.zero_le _, Nat.zero_le _⟩ rfl dX8_empty_40) (fun H locs hw => ?_)
      obtain rfl := o_retv hf
      exact pw_vret hC hr hlocks hw dX8_empty_43
    · have hf := o_neg c101 hf
      refine lv_aload_n hx hb dX8_empty_16 rfl (lv_at hl 0 rfl) ?_
      obtain ⟨q109, h110, hf⟩ := o_bind hf
      refine pw_get hC fl_X8_22 hw (rdR_F h110) dX8_empty_17 ?_
      refine lv_iload_n hx hb dX8_empty_20 rfl (lv_at hl 1 rfl) ?_
      obtain ⟨q111, h112, hf⟩ := o_bind hf
      refine pw_aald hC hw 5 rfl rfl h112 dX8_empty_21 ?_
      refine lv_iload_n hx hb dX8_empty_22 rfl (lv_at hl 2 rfl) ?_
      refine lv_iconst (v := 0) hx hb dX8_empty_23 nc_iconst_0 ?_
      obtain ⟨μ113, h114, hf⟩ := o_bind hf
      refine pw_bast hC hw h114 dX8_empty_24 (fun H locs hw => ?_)
      refine lv_iinc (v := (a2 + 1)) (lv' := [(2, .int (a2 + 1)), (0, .ref a0), (1, .int a1)]) hx hb dX8_empty_25 hl (k := 2) rfl (by first | rfl | decide +kernel) (by decide) rfl (fun ls hl => ?_)
      refine lv_goto (tgt := 11) hx hb dX8_empty_28 (by decide) ?_
      exact ih _ _ _ _ _ _ ls (lv_sub hl [1, 2, 0] rfl) hw hf
def f_X8_empty (cy : Nat → ClassId) (a0 : Nat) (a1 : Int32) (μ : Mem) : Option Mem :=
  (rdR μ a0 7 5).bind fun q1 => (rdQ cy μ 5 q1 a1).bind fun q3 => (wrA cy μ 0 q3 0 (vp_nar .byte 5)).bind fun μ5 => f_X8_empty_L11 cy FU a0 a1 1 μ5
set_option maxRecDepth 100000 in
set_option maxHeartbeats 4000000 in
theorem c_X8_empty {l : Launch} {g : Wg} {L : List Nat} {μ : Mem} {a0 : Nat} {a1 : Int32} {μ' : Mem} (hf : f_X8_empty g.2 a0 a1 μ = some μ') : MetV l yX8_empty cX8_empty 3 none rm_X8_empty g L μ [.ref a0, .int a1] μ' := by
  refine pw_met (Qc := fun A => QV g L A μ') (by decide) (Nat.le_of_ble_eq_true rfl) ?_
  intro p e s m args below meth c A ls H locs hC hr hlocks hl hw
  have hx := hC.1
  have hb := hC.2.1
  have hl : lv_has ls 3 [(0, .ref a0), (1, .int a1)] := hl
  unfold f_X8_empty at hf
  refine lv_aload_n hx hb dX8_empty_0 rfl (lv_at hl 0 rfl) ?_
  obtain ⟨q1, h2, hf⟩ := o_bind hf
  refine pw_get hC fl_X8_22 hw (rdR_F h2) dX8_empty_1 ?_
  refine lv_iload_n hx hb dX8_empty_4 rfl (lv_at hl 1 rfl) ?_
  obtain ⟨q3, h4, hf⟩ := o_bind hf
  refine pw_aald hC hw 5 rfl rfl h4 dX8_empty_5 ?_
  refine lv_iconst (v := 0) hx hb dX8_empty_6 nc_iconst_0 ?_
  refine lv_iconst (v := 5) hx hb dX8_empty_7 nc_iconst_5 ?_
  obtain ⟨μ5, h6, hf⟩ := o_bind hf
  refine pw_bast hC hw h6 dX8_empty_8 (fun H locs hw => ?_)
  refine lv_iconst (v := 1) hx hb dX8_empty_9 nc_iconst_1 ?_
  refine lv_istore_n (lv' := [(2, .int 1), (0, .ref a0), (1, .int a1)]) hx hb dX8_empty_10 rfl hl (by decide) rfl (fun ls hl => ?_)
  exact w_X8_empty_L11 hC hr hlocks FU _ _ _ _ _ _ ls (lv_sub hl [1, 2, 0] rfl) hw hf
theorem dX8_some_0 : decode cX8_some 0 = .ok (.iload_n 1, 1) := by decide +kernel
theorem dX8_some_1 : decode cX8_some 1 = .ok (.i2l, 1) := by decide +kernel
theorem dX8_some_2 : decode cX8_some 2 = .ok (.iload_n 2, 1) := by decide +kernel
theorem dX8_some_3 : decode cX8_some 3 = .ok (.i2l, 1) := by decide +kernel
theorem dX8_some_4 : decode cX8_some 4 = .ok (.ladd, 1) := by decide +kernel
theorem dX8_some_5 : decode cX8_some 5 = .ok (.iload_n 3, 1) := by decide +kernel
theorem dX8_some_6 : decode cX8_some 6 = .ok (.i2l, 1) := by decide +kernel
theorem dX8_some_7 : decode cX8_some 7 = .ok (.lcmp, 1) := by decide +kernel
theorem dX8_some_8 : decode cX8_some 8 = .ok (.ifCond .le 12, 3) := by decide +kernel
theorem dX8_some_11 : decode cX8_some 11 = .ok (.aload_n 0, 1) := by decide +kernel
theorem dX8_some_12 : decode cX8_some 12 = .ok (.iconst 1, 1) := by decide +kernel
theorem dX8_some_13 : decode cX8_some 13 = .ok (.iload_n 1, 1) := by decide +kernel
theorem dX8_some_14 : decode cX8_some 14 = .ok (.invokevirtual 109, 3) := by decide +kernel
theorem dX8_some_17 : decode cX8_some 17 = .ok (.goto 6, 3) := by decide +kernel
theorem dX8_some_20 : decode cX8_some 20 = .ok (.iload_n 1, 1) := by decide +kernel
theorem dX8_some_21 : decode cX8_some 21 = .ok (.iload_n 2, 1) := by decide +kernel
theorem dX8_some_22 : decode cX8_some 22 = .ok (.iadd, 1) := by decide +kernel
theorem dX8_some_23 : decode cX8_some 23 = .ok (.ireturn, 1) := by decide +kernel
abbrev rm_X8_some : Room := { frames := 1, cells := 0, slots := 0, locals := 22 }
def f_X8_some (cy : Nat → ClassId) (a0 : Nat) (a1 : Int32) (a2 : Int32) (a3 : Int32) (μ : Mem) : Option (Int32 × Mem) :=
  if (lg_cmp ((Int32.toInt64 a1) + (Int32.toInt64 a2)) (Int32.toInt64 a3)) ≤ 0 then (some ((a1 + a2), μ)) else if isO μ a0 7 = true then (ob2 (f_X8_wrong cy a0 1 a1 μ) fun r5 μ4 => some (r5, μ4)) else none
set_option maxRecDepth 100000 in
set_option maxHeartbeats 4000000 in
theorem c_X8_some {l : Launch} {g : Wg} {L : List Nat} {μ : Mem} {a0 : Nat} {a1 : Int32} {a2 : Int32} {a3 : Int32} {r : Int32} {μ' : Mem} (hf : f_X8_some g.2 a0 a1 a2 a3 μ = some (r, μ')) : MetI l yX8_some cX8_some 4 (some .int) rm_X8_some g L μ [.ref a0, .int a1, .int a2, .int a3] r μ' := by
  refine pw_met (Qc := fun A => QI g L A r μ') (by decide) (Nat.le_of_ble_eq_true rfl) ?_
  intro p e s m args below meth c A ls H locs hC hr hlocks hl hw
  have hx := hC.1
  have hb := hC.2.1
  have hl : lv_has ls 4 [(0, .ref a0), (1, .int a1), (2, .int a2), (3, .int a3)] := hl
  unfold f_X8_some at hf
  refine lv_iload_n hx hb dX8_some_0 rfl (lv_at hl 1 rfl) ?_
  refine lv_i2l hx hb dX8_some_1 rfl ?_
  refine lv_iload_n hx hb dX8_some_2 rfl (lv_at hl 2 rfl) ?_
  refine lv_i2l hx hb dX8_some_3 rfl ?_
  refine lv_ladd hx hb dX8_some_4 ?_
  refine lv_iload_n hx hb dX8_some_5 rfl (lv_at hl 3 rfl) ?_
  refine lv_i2l hx hb dX8_some_6 rfl ?_
  refine W.lcmp hx hb dX8_some_7 ?_
  refine lv_if_le (tgt := 20) hx hb dX8_some_8 (by decide) (fun c1 => ?_) (fun c1 => ?_)
  · have hf := o_pos c1 hf
    refine lv_iload_n hx hb dX8_some_20 rfl (lv_at hl 1 rfl) ?_
    refine lv_iload_n hx hb dX8_some_21 rfl (lv_at hl 2 rfl) ?_
    refine lv_iadd hx hb dX8_some_22 ?_
    obtain ⟨rfl, rfl⟩ := o_ret hf
    exact pw_iret hC hr hlocks hw dX8_some_23
  · have hf := o_neg c1 hf
    refine lv_aload_n hx hb dX8_some_11 rfl (lv_at hl 0 rfl) ?_
    refine lv_iconst (v := 1) hx hb dX8_some_12 nc_iconst_1 ?_
    refine lv_iload_n hx hb dX8_some_13 rfl (lv_at hl 1 rfl) ?_
    obtain ⟨h3, hf⟩ := o_ite hf
    obtain ⟨r5, μ4, h2, hf⟩ := o_bind2 hf
    refine pw_goI hw (pw_runV (As := [.int 1, .int a1]) (rest := []) hC mm_X8_wrong tw_1237 (c_X8_wrong h2 _) ⟨rfl, rfl, by decide, by decide⟩ hw h3 rfl hl.1 (Nat.le_of_ble_eq_true rfl) ⟨Nat.zero_le _, Nat.zero_le _⟩ rfl dX8_some_14) (fun H locs hw => ?_)
    refine lv_goto (tgt := 23) hx hb dX8_some_17 (by decide) ?_
    obtain ⟨rfl, rfl⟩ := o_ret hf
    exact pw_iret hC hr hlocks hw dX8_some_23
theorem dX8_signs_0 : decode cX8_signs 0 = .ok (.iload_n 1, 1) := by decide +kernel
theorem dX8_signs_1 : decode cX8_signs 1 = .ok (.istore_n 3, 1) := by decide +kernel
theorem dX8_signs_2 : decode cX8_signs 2 = .ok (.iload_n 3, 1) := by decide +kernel
theorem dX8_signs_3 : decode cX8_signs 3 = .ok (.iload_n 2, 1) := by decide +kernel
theorem dX8_signs_4 : decode cX8_signs 4 = .ok (.if_icmp .ge 33, 3) := by decide +kernel
theorem dX8_signs_7 : decode cX8_signs 7 = .ok (.aload_n 0, 1) := by decide +kernel
theorem dX8_signs_8 : decode cX8_signs 8 = .ok (.iload_n 3, 1) := by decide +kernel
theorem dX8_signs_9 : decode cX8_signs 9 = .ok (.iload_n 2, 1) := by decide +kernel
theorem dX8_signs_10 : decode cX8_signs 10 = .ok (.invokevirtual 113, 3) := by decide +kernel
theorem dX8_signs_13 : decode cX8_signs 13 = .ok (.istore 4, 2) := by decide +kernel
theorem dX8_signs_15 : decode cX8_signs 15 = .ok (.iload 4, 2) := by decide +kernel
theorem dX8_signs_17 : decode cX8_signs 17 = .ok (.ifCond .ne 12, 3) := by decide +kernel
theorem dX8_signs_20 : decode cX8_signs 20 = .ok (.aload_n 0, 1) := by decide +kernel
theorem dX8_signs_21 : decode cX8_signs 21 = .ok (.iconst 5, 1) := by decide +kernel
theorem dX8_signs_22 : decode cX8_signs 22 = .ok (.iload_n 3, 1) := by decide +kernel
theorem dX8_signs_23 : decode cX8_signs 23 = .ok (.invokevirtual 109, 3) := by decide +kernel
theorem dX8_signs_26 : decode cX8_signs 26 = .ok (.pop, 1) := by decide +kernel
theorem dX8_signs_27 : decode cX8_signs 27 = .ok (.iconst 0, 1) := by decide +kernel
theorem dX8_signs_28 : decode cX8_signs 28 = .ok (.ireturn, 1) := by decide +kernel
theorem dX8_signs_29 : decode cX8_signs 29 = .ok (.iload_n 3, 1) := by decide +kernel
theorem dX8_signs_30 : decode cX8_signs 30 = .ok (.iload 4, 2) := by decide +kernel
theorem dX8_signs_32 : decode cX8_signs 32 = .ok (.iadd, 1) := by decide +kernel
theorem dX8_signs_33 : decode cX8_signs 33 = .ok (.istore_n 3, 1) := by decide +kernel
theorem dX8_signs_34 : decode cX8_signs 34 = .ok (.goto (-32), 3) := by decide +kernel
theorem dX8_signs_37 : decode cX8_signs 37 = .ok (.iconst 1, 1) := by decide +kernel
theorem dX8_signs_38 : decode cX8_signs 38 = .ok (.ireturn, 1) := by decide +kernel
abbrev rm_X8_signs : Room := { frames := 1, cells := 0, slots := 0, locals := 27 }
def f_X8_signs_L2 (cy : Nat → ClassId) : Nat → Nat → Int32 → Int32 → Mem → Option (Int32 × Mem)
  | 0, _, _, _, _ => none
  | n + 1, a0, a2, a3, μ => if a2 ≤ a3 then (some (1, μ)) else if isO μ a0 7 = true then (ob2 (f_X8_sign cy a0 a3 a2 μ) fun r105 μ104 => if r105 = 0 then (if isO μ104 a0 7 = true then (ob2 (f_X8_wrong cy a0 5 a3 μ104) fun r110 μ109 => some (0, μ109)) else none) else f_X8_signs_L2 cy n a0 a2 (a3 + r105) μ104) else none
set_option maxRecDepth 100000 in
set_option maxHeartbeats 4000000 in
theorem w_X8_signs_L2 {p : Program} {l : Launch} {e : Env} {s : State} {m : MethodId} {args : Array Value} {below : List Frame} {meth : Method} {c : Code} {A : Nat → Prop} {g : Wg} {L : List Nat} {r : Int32} {μ' : Mem} (hC : CX p m c cX8_signs 5 s args RX8) (hr : meth.sig.returnType = (some .boolean)) (hlocks : meth.locks = false) : ∀ (n : Nat), ∀ (a0 : Nat) (a2 : Int32) (a3 : Int32) (μ : Mem) (H : Heap) (locs : List Loc) (ls : Array Slot), lv_has ls 5 [(0, .ref a0), (2, .int a2), (3, .int a3)] → PW g L μ A s H locs → f_X8_signs_L2 g.2 n a0 a2 a3 μ = some (r, μ') → W p l e rm_X8_signs s m args below meth c H locs 0 0 (MQ below (QI g L A r μ') args s 0 0 A) (F0 m 2 ls []) := by
  have hx := hC.1
  have hb := hC.2.1
  intro n
  induction n with
  | zero => intro a0 a2 a3 μ H locs ls hl hw hf; cases hf
  | succ n ih =>
    intro a0 a2 a3 μ H locs ls hl hw hf
    rw [f_X8_signs_L2] at hf
    refine lv_iload_n hx hb dX8_signs_2 rfl (lv_at hl 2 rfl) ?_
    refine lv_iload_n hx hb dX8_signs_3 rfl (lv_at hl 1 rfl) ?_
    refine lv_icmp_ge (tgt := 37) hx hb dX8_signs_4 (by decide) (fun c101 => ?_) (fun c101 => ?_)
    · have hf := o_pos c101 hf
      refine lv_iconst (v := 1) hx hb dX8_signs_37 nc_iconst_1 ?_
      obtain ⟨rfl, rfl⟩ := o_ret hf
      exact pw_zret hC hr hlocks (Or.inr rfl) hw dX8_signs_38
    · have hf := o_neg c101 hf
      refine lv_aload_n hx hb dX8_signs_7 rfl (lv_at hl 0 rfl) ?_
      refine lv_iload_n hx hb dX8_signs_8 rfl (lv_at hl 2 rfl) ?_
      refine lv_iload_n hx hb dX8_signs_9 rfl (lv_at hl 1 rfl) ?_
      obtain ⟨h103, hf⟩ := o_ite hf
      obtain ⟨r105, μ104, h102, hf⟩ := o_bind2 hf
      refine pw_goI hw (pw_runV (As := [.int a3, .int a2]) (rest := []) hC mm_X8_sign tw_1275 (c_X8_sign h102 _) ⟨rfl, rfl, by decide, by decide⟩ hw h103 rfl hl.1 (Nat.le_of_ble_eq_true rfl) ⟨Nat.zero_le _, Nat.zero_le _⟩ rfl dX8_signs_10) (fun H locs hw => ?_)
      refine lv_istore (lv' := [(4, .int r105), (0, .ref a0), (2, .int a2), (3, .int a3)]) hx hb dX8_signs_13 hl (by decide) rfl (fun ls hl => ?_)
      refine lv_iload hx hb dX8_signs_15 (lv_at hl 0 rfl) ?_
      refine lv_if_ne (tgt := 29) hx hb dX8_signs_17 (by decide) (fun c106 => ?_) (fun c106 => ?_)
      · have hf := o_neg c106 hf
        refine lv_iload_n hx hb dX8_signs_29 rfl (lv_at hl 3 rfl) ?_
        refine lv_iload hx hb dX8_signs_30 (lv_at hl 0 rfl) ?_
        refine lv_iadd hx hb dX8_signs_32 ?_
        refine lv_istore_n (lv' := [(3, .int (a3 + r105)), (4, .int r105), (0, .ref a0), (2, .int a2)]) hx hb dX8_signs_33 rfl hl (by decide) rfl (fun ls hl => ?_)
        refine lv_goto (tgt := 2) hx hb dX8_signs_34 (by decide) ?_
        exact ih _ _ _ _ _ _ ls (lv_sub hl [2, 3, 0] rfl) hw hf
      · have hf := o_pos c106 hf
        refine lv_aload_n hx hb dX8_signs_20 rfl (lv_at hl 1 rfl) ?_
        refine lv_iconst (v := 5) hx hb dX8_signs_21 nc_iconst_5 ?_
        refine lv_iload_n hx hb dX8_signs_22 rfl (lv_at hl 3 rfl) ?_
        obtain ⟨h108, hf⟩ := o_ite hf
        obtain ⟨r110, μ109, h107, hf⟩ := o_bind2 hf
        refine pw_goI hw (pw_runV (As := [.int 5, .int a3]) (rest := []) hC mm_X8_wrong tw_1237 (c_X8_wrong h107 _) ⟨rfl, rfl, by decide, by decide⟩ hw h108 rfl hl.1 (Nat.le_of_ble_eq_true rfl) ⟨Nat.zero_le _, Nat.zero_le _⟩ rfl dX8_signs_23) (fun H locs hw => ?_)
        refine lv_pop hx hb dX8_signs_26 rfl ?_
        refine lv_iconst (v := 0) hx hb dX8_signs_27 nc_iconst_0 ?_
        obtain ⟨rfl, rfl⟩ := o_ret hf
        exact pw_zret hC hr hlocks (Or.inl rfl) hw dX8_signs_28
def f_X8_signs (cy : Nat → ClassId) (a0 : Nat) (a1 : Int32) (a2 : Int32) (μ : Mem) : Option (Int32 × Mem) :=
  f_X8_signs_L2 cy FU a0 a2 a1 μ
set_option maxRecDepth 100000 in
set_option maxHeartbeats 4000000 in
theorem c_X8_signs {l : Launch} {g : Wg} {L : List Nat} {μ : Mem} {a0 : Nat} {a1 : Int32} {a2 : Int32} {r : Int32} {μ' : Mem} (hf : f_X8_signs g.2 a0 a1 a2 μ = some (r, μ')) : MetI l yX8_signs cX8_signs 5 (some .boolean) rm_X8_signs g L μ [.ref a0, .int a1, .int a2] r μ' := by
  refine pw_met (Qc := fun A => QI g L A r μ') (by decide) (Nat.le_of_ble_eq_true rfl) ?_
  intro p e s m args below meth c A ls H locs hC hr hlocks hl hw
  have hx := hC.1
  have hb := hC.2.1
  have hl : lv_has ls 5 [(0, .ref a0), (1, .int a1), (2, .int a2)] := hl
  unfold f_X8_signs at hf
  refine lv_iload_n hx hb dX8_signs_0 rfl (lv_at hl 1 rfl) ?_
  refine lv_istore_n (lv' := [(3, .int a1), (0, .ref a0), (1, .int a1), (2, .int a2)]) hx hb dX8_signs_1 rfl hl (by decide) rfl (fun ls hl => ?_)
  exact w_X8_signs_L2 hC hr hlocks FU _ _ _ _ _ _ ls (lv_sub hl [1, 3, 0] rfl) hw hf
theorem dX8_isNumber_0 : decode cX8_isNumber 0 = .ok (.aload_n 0, 1) := by decide +kernel
theorem dX8_isNumber_1 : decode cX8_isNumber 1 = .ok (.iload_n 3, 1) := by decide +kernel
theorem dX8_isNumber_2 : decode cX8_isNumber 2 = .ok (.invokevirtual 131, 3) := by decide +kernel
theorem dX8_isNumber_5 : decode cX8_isNumber 5 = .ok (.istore 4, 2) := by decide +kernel
theorem dX8_isNumber_7 : decode cX8_isNumber 7 = .ok (.iload 4, 2) := by decide +kernel
theorem dX8_isNumber_9 : decode cX8_isNumber 9 = .ok (.iload_n 2, 1) := by decide +kernel
theorem dX8_isNumber_10 : decode cX8_isNumber 10 = .ok (.iload_n 1, 1) := by decide +kernel
theorem dX8_isNumber_11 : decode cX8_isNumber 11 = .ok (.isub, 1) := by decide +kernel
theorem dX8_isNumber_12 : decode cX8_isNumber 12 = .ok (.if_icmp .ne 7, 3) := by decide +kernel
theorem dX8_isNumber_15 : decode cX8_isNumber 15 = .ok (.iconst 1, 1) := by decide +kernel
theorem dX8_isNumber_16 : decode cX8_isNumber 16 = .ok (.goto 4, 3) := by decide +kernel
theorem dX8_isNumber_19 : decode cX8_isNumber 19 = .ok (.iconst 0, 1) := by decide +kernel
theorem dX8_isNumber_20 : decode cX8_isNumber 20 = .ok (.istore 5, 2) := by decide +kernel
theorem dX8_isNumber_22 : decode cX8_isNumber 22 = .ok (.iconst 0, 1) := by decide +kernel
theorem dX8_isNumber_23 : decode cX8_isNumber 23 = .ok (.istore 6, 2) := by decide +kernel
theorem dX8_isNumber_25 : decode cX8_isNumber 25 = .ok (.iload 5, 2) := by decide +kernel
theorem dX8_isNumber_27 : decode cX8_isNumber 27 = .ok (.ifCond .eq 42, 3) := by decide +kernel
theorem dX8_isNumber_30 : decode cX8_isNumber 30 = .ok (.iload 6, 2) := by decide +kernel
theorem dX8_isNumber_32 : decode cX8_isNumber 32 = .ok (.iload 4, 2) := by decide +kernel
theorem dX8_isNumber_34 : decode cX8_isNumber 34 = .ok (.if_icmp .ge 35, 3) := by decide +kernel
theorem dX8_isNumber_37 : decode cX8_isNumber 37 = .ok (.aload_n 0, 1) := by decide +kernel
theorem dX8_isNumber_38 : decode cX8_isNumber 38 = .ok (.getfield 13, 3) := by decide +kernel
theorem dX8_isNumber_41 : decode cX8_isNumber 41 = .ok (.iload_n 1, 1) := by decide +kernel
theorem dX8_isNumber_42 : decode cX8_isNumber 42 = .ok (.iload 6, 2) := by decide +kernel
theorem dX8_isNumber_44 : decode cX8_isNumber 44 = .ok (.iadd, 1) := by decide +kernel
theorem dX8_isNumber_45 : decode cX8_isNumber 45 = .ok (.baload, 1) := by decide +kernel
theorem dX8_isNumber_46 : decode cX8_isNumber 46 = .ok (.aload_n 0, 1) := by decide +kernel
theorem dX8_isNumber_47 : decode cX8_isNumber 47 = .ok (.getfield 61, 3) := by decide +kernel
theorem dX8_isNumber_50 : decode cX8_isNumber 50 = .ok (.iload 6, 2) := by decide +kernel
theorem dX8_isNumber_52 : decode cX8_isNumber 52 = .ok (.baload, 1) := by decide +kernel
theorem dX8_isNumber_53 : decode cX8_isNumber 53 = .ok (.if_icmp .ne 7, 3) := by decide +kernel
theorem dX8_isNumber_56 : decode cX8_isNumber 56 = .ok (.iconst 1, 1) := by decide +kernel
theorem dX8_isNumber_57 : decode cX8_isNumber 57 = .ok (.goto 4, 3) := by decide +kernel
theorem dX8_isNumber_60 : decode cX8_isNumber 60 = .ok (.iconst 0, 1) := by decide +kernel
theorem dX8_isNumber_61 : decode cX8_isNumber 61 = .ok (.istore 5, 2) := by decide +kernel
theorem dX8_isNumber_63 : decode cX8_isNumber 63 = .ok (.iinc 6 1, 3) := by decide +kernel
theorem dX8_isNumber_66 : decode cX8_isNumber 66 = .ok (.goto (-41), 3) := by decide +kernel
theorem dX8_isNumber_69 : decode cX8_isNumber 69 = .ok (.iload 5, 2) := by decide +kernel
theorem dX8_isNumber_71 : decode cX8_isNumber 71 = .ok (.ireturn, 1) := by decide +kernel
abbrev rm_X8_isNumber : Room := { frames := 1, cells := 0, slots := 0, locals := 24 }
def f_X8_isNumber_L61 (cy : Nat → ClassId) (k25 : Nat → Int32 → Int32 → Int32 → Int32 → Mem → Option (Int32 × Mem)) (a0 : Nat) (a1 : Int32) (a4 : Int32) (a6 : Int32) (t0 : Int32) (μ : Mem) : Option (Int32 × Mem) :=
  k25 a0 a1 a4 t0 (a6 + 1) μ
set_option maxRecDepth 100000 in
set_option maxHeartbeats 4000000 in
theorem w_X8_isNumber_L61 {p : Program} {l : Launch} {e : Env} {s : State} {m : MethodId} {args : Array Value} {below : List Frame} {meth : Method} {c : Code} {A : Nat → Prop} {g : Wg} {L : List Nat} {r : Int32} {μ' : Mem} (hC : CX p m c cX8_isNumber 7 s args RX8) (hr : meth.sig.returnType = (some .boolean)) (hlocks : meth.locks = false) {k25 : Nat → Int32 → Int32 → Int32 → Int32 → Mem → Option (Int32 × Mem)} (hk25 : ∀ (a0 : Nat) (a1 : Int32) (a4 : Int32) (a5 : Int32) (a6 : Int32) (μ : Mem) (H : Heap) (locs : List Loc) (ls : Array Slot), lv_has ls 7 [(0, .ref a0), (1, .int a1), (4, .int a4), (5, .int a5), (6, .int a6)] → PW g L μ A s H locs → k25 a0 a1 a4 a5 a6 μ = some (r, μ') → W p l e rm_X8_isNumber s m args below meth c H locs 0 0 (MQ below (QI g L A r μ') args s 0 0 A) (F0 m 25 ls [])) : ∀ (a0 : Nat) (a1 : Int32) (a4 : Int32) (a6 : Int32) (t0 : Int32) (μ : Mem) (H : Heap) (locs : List Loc) (ls : Array Slot), lv_has ls 7 [(0, .ref a0), (1, .int a1), (4, .int a4), (6, .int a6)] → PW g L μ A s H locs → f_X8_isNumber_L61 g.2 k25 a0 a1 a4 a6 t0 μ = some (r, μ') → W p l e rm_X8_isNumber s m args below meth c H locs 0 0 (MQ below (QI g L A r μ') args s 0 0 A) (F0 m 61 ls [.int t0]) := by
  have hx := hC.1
  have hb := hC.2.1
  intro a0 a1 a4 a6 t0 μ H locs ls hl hw hf
  unfold f_X8_isNumber_L61 at hf
  refine lv_istore (lv' := [(5, .int t0), (0, .ref a0), (1, .int a1), (4, .int a4), (6, .int a6)]) hx hb dX8_isNumber_61 hl (by decide) rfl (fun ls hl => ?_)
  refine lv_iinc (v := (a6 + 1)) (lv' := [(6, .int (a6 + 1)), (5, .int t0), (0, .ref a0), (1, .int a1), (4, .int a4)]) hx hb dX8_isNumber_63 hl (k := 4) rfl (by first | rfl | decide +kernel) (by decide) rfl (fun ls hl => ?_)
  refine lv_goto (tgt := 25) hx hb dX8_isNumber_66 (by decide) ?_
  exact hk25 _ _ _ _ _ _ _ _ ls (lv_sub hl [2, 3, 4, 1, 0] rfl) hw hf
def f_X8_isNumber_L69 (cy : Nat → ClassId) (a5 : Int32) (μ : Mem) : Option (Int32 × Mem) :=
  if a5 = 0 ∨ a5 = 1 then some (a5, μ) else none
set_option maxRecDepth 100000 in
set_option maxHeartbeats 4000000 in
theorem w_X8_isNumber_L69 {p : Program} {l : Launch} {e : Env} {s : State} {m : MethodId} {args : Array Value} {below : List Frame} {meth : Method} {c : Code} {A : Nat → Prop} {g : Wg} {L : List Nat} {r : Int32} {μ' : Mem} (hC : CX p m c cX8_isNumber 7 s args RX8) (hr : meth.sig.returnType = (some .boolean)) (hlocks : meth.locks = false) : ∀ (a5 : Int32) (μ : Mem) (H : Heap) (locs : List Loc) (ls : Array Slot), lv_has ls 7 [(5, .int a5)] → PW g L μ A s H locs → f_X8_isNumber_L69 g.2 a5 μ = some (r, μ') → W p l e rm_X8_isNumber s m args below meth c H locs 0 0 (MQ below (QI g L A r μ') args s 0 0 A) (F0 m 69 ls []) := by
  have hx := hC.1
  have hb := hC.2.1
  intro a5 μ H locs ls hl hw hf
  unfold f_X8_isNumber_L69 at hf
  refine lv_iload hx hb dX8_isNumber_69 (lv_at hl 0 rfl) ?_
  obtain ⟨h101, hf⟩ := o_ite hf
  obtain ⟨rfl, rfl⟩ := o_ret hf
  exact pw_zret hC hr hlocks h101 hw dX8_isNumber_71
def f_X8_isNumber_L25 (cy : Nat → ClassId) : Nat → Nat → Int32 → Int32 → Int32 → Int32 → Mem → Option (Int32 × Mem)
  | 0, _, _, _, _, _, _ => none
  | n + 1, a0, a1, a4, a5, a6, μ => if a5 = 0 then (f_X8_isNumber_L69 cy a5 μ) else if a4 ≤ a6 then (f_X8_isNumber_L69 cy a5 μ) else (rdR μ a0 7 1).bind fun q103 => (rdA cy μ 0 q103 (a1 + a6)).bind fun v105 => (rdR μ a0 7 20).bind fun q107 => (rdA cy μ 0 q107 a6).bind fun v109 => if v105 = v109 then (f_X8_isNumber_L61 cy (f_X8_isNumber_L25 cy n) a0 a1 a4 a6 1 μ) else f_X8_isNumber_L61 cy (f_X8_isNumber_L25 cy n) a0 a1 a4 a6 0 μ
set_option maxRecDepth 100000 in
set_option maxHeartbeats 4000000 in
theorem w_X8_isNumber_L25 {p : Program} {l : Launch} {e : Env} {s : State} {m : MethodId} {args : Array Value} {below : List Frame} {meth : Method} {c : Code} {A : Nat → Prop} {g : Wg} {L : List Nat} {r : Int32} {μ' : Mem} (hC : CX p m c cX8_isNumber 7 s args RX8) (hr : meth.sig.returnType = (some .boolean)) (hlocks : meth.locks = false) : ∀ (n : Nat), ∀ (a0 : Nat) (a1 : Int32) (a4 : Int32) (a5 : Int32) (a6 : Int32) (μ : Mem) (H : Heap) (locs : List Loc) (ls : Array Slot), lv_has ls 7 [(0, .ref a0), (1, .int a1), (4, .int a4), (5, .int a5), (6, .int a6)] → PW g L μ A s H locs → f_X8_isNumber_L25 g.2 n a0 a1 a4 a5 a6 μ = some (r, μ') → W p l e rm_X8_isNumber s m args below meth c H locs 0 0 (MQ below (QI g L A r μ') args s 0 0 A) (F0 m 25 ls []) := by
  have hx := hC.1
  have hb := hC.2.1
  intro n
  induction n with
  | zero => intro a0 a1 a4 a5 a6 μ H locs ls hl hw hf; cases hf
  | succ n ih =>
    intro a0 a1 a4 a5 a6 μ H locs ls hl hw hf
    rw [f_X8_isNumber_L25] at hf
    refine lv_iload hx hb dX8_isNumber_25 (lv_at hl 3 rfl) ?_
    refine lv_if_eq (tgt := 69) hx hb dX8_isNumber_27 (by decide) (fun c101 => ?_) (fun c101 => ?_)
    · have hf := o_pos c101 hf
      exact w_X8_isNumber_L69 hC hr hlocks _ _ _ _ ls (lv_sub hl [3] rfl) hw hf
    · have hf := o_neg c101 hf
      refine lv_iload hx hb dX8_isNumber_30 (lv_at hl 4 rfl) ?_
      refine lv_iload hx hb dX8_isNumber_32 (lv_at hl 2 rfl) ?_
      refine lv_icmp_ge (tgt := 69) hx hb dX8_isNumber_34 (by decide) (fun c102 => ?_) (fun c102 => ?_)
      · have hf := o_pos c102 hf
        exact w_X8_isNumber_L69 hC hr hlocks _ _ _ _ ls (lv_sub hl [3] rfl) hw hf
      · have hf := o_neg c102 hf
        refine lv_aload_n hx hb dX8_isNumber_37 rfl (lv_at hl 0 rfl) ?_
        obtain ⟨q103, h104, hf⟩ := o_bind hf
        refine pw_get hC fl_X8_13 hw (rdR_F h104) dX8_isNumber_38 ?_
        refine lv_iload_n hx hb dX8_isNumber_41 rfl (lv_at hl 1 rfl) ?_
        refine lv_iload hx hb dX8_isNumber_42 (lv_at hl 4 rfl) ?_
        refine lv_iadd hx hb dX8_isNumber_44 ?_
        obtain ⟨v105, h106, hf⟩ := o_bind hf
        refine pw_bald hC hw h106 dX8_isNumber_45 ?_
        refine lv_aload_n hx hb dX8_isNumber_46 rfl (lv_at hl 0 rfl) ?_
        obtain ⟨q107, h108, hf⟩ := o_bind hf
        refine pw_get hC fl_X8_61 hw (rdR_F h108) dX8_isNumber_47 ?_
        refine lv_iload hx hb dX8_isNumber_50 (lv_at hl 4 rfl) ?_
        obtain ⟨v109, h110, hf⟩ := o_bind hf
        refine pw_bald hC hw h110 dX8_isNumber_52 ?_
        refine lv_icmp_ne (tgt := 60) hx hb dX8_isNumber_53 (by decide) (fun c111 => ?_) (fun c111 => ?_)
        · have hf := o_neg c111 hf
          refine lv_iconst (v := 0) hx hb dX8_isNumber_60 nc_iconst_0 ?_
          exact w_X8_isNumber_L61 hC hr hlocks ih _ _ _ _ _ _ _ _ ls (lv_sub hl [0, 1, 2, 4] rfl) hw hf
        · have hf := o_pos c111 hf
          refine lv_iconst (v := 1) hx hb dX8_isNumber_56 nc_iconst_1 ?_
          refine lv_goto (tgt := 61) hx hb dX8_isNumber_57 (by decide) ?_
          exact w_X8_isNumber_L61 hC hr hlocks ih _ _ _ _ _ _ _ _ ls (lv_sub hl [0, 1, 2, 4] rfl) hw hf
def f_X8_isNumber_L20 (cy : Nat → ClassId) (a0 : Nat) (a1 : Int32) (a4 : Int32) (t0 : Int32) (μ : Mem) : Option (Int32 × Mem) :=
  f_X8_isNumber_L25 cy FU a0 a1 a4 t0 0 μ
set_option maxRecDepth 100000 in
set_option maxHeartbeats 4000000 in
theorem w_X8_isNumber_L20 {p : Program} {l : Launch} {e : Env} {s : State} {m : MethodId} {args : Array Value} {below : List Frame} {meth : Method} {c : Code} {A : Nat → Prop} {g : Wg} {L : List Nat} {r : Int32} {μ' : Mem} (hC : CX p m c cX8_isNumber 7 s args RX8) (hr : meth.sig.returnType = (some .boolean)) (hlocks : meth.locks = false) : ∀ (a0 : Nat) (a1 : Int32) (a4 : Int32) (t0 : Int32) (μ : Mem) (H : Heap) (locs : List Loc) (ls : Array Slot), lv_has ls 7 [(0, .ref a0), (1, .int a1), (4, .int a4)] → PW g L μ A s H locs → f_X8_isNumber_L20 g.2 a0 a1 a4 t0 μ = some (r, μ') → W p l e rm_X8_isNumber s m args below meth c H locs 0 0 (MQ below (QI g L A r μ') args s 0 0 A) (F0 m 20 ls [.int t0]) := by
  have hx := hC.1
  have hb := hC.2.1
  intro a0 a1 a4 t0 μ H locs ls hl hw hf
  unfold f_X8_isNumber_L20 at hf
  refine lv_istore (lv' := [(5, .int t0), (0, .ref a0), (1, .int a1), (4, .int a4)]) hx hb dX8_isNumber_20 hl (by decide) rfl (fun ls hl => ?_)
  refine lv_iconst (v := 0) hx hb dX8_isNumber_22 nc_iconst_0 ?_
  refine lv_istore (lv' := [(6, .int 0), (5, .int t0), (0, .ref a0), (1, .int a1), (4, .int a4)]) hx hb dX8_isNumber_23 hl (by decide) rfl (fun ls hl => ?_)
  exact w_X8_isNumber_L25 hC hr hlocks FU _ _ _ _ _ _ _ _ ls (lv_sub hl [2, 3, 4, 1, 0] rfl) hw hf
def f_X8_isNumber (cy : Nat → ClassId) (a0 : Nat) (a1 : Int32) (a2 : Int32) (a3 : Int32) (μ : Mem) : Option (Int32 × Mem) :=
  if isO μ a0 7 = true then (ob2 (f_X8_decimals cy a0 a3 μ) fun r4 μ3 => if r4 = (a2 - a1) then (f_X8_isNumber_L20 cy a0 a1 r4 1 μ3) else f_X8_isNumber_L20 cy a0 a1 r4 0 μ3) else none
set_option maxRecDepth 100000 in
set_option maxHeartbeats 4000000 in
theorem c_X8_isNumber {l : Launch} {g : Wg} {L : List Nat} {μ : Mem} {a0 : Nat} {a1 : Int32} {a2 : Int32} {a3 : Int32} {r : Int32} {μ' : Mem} (hf : f_X8_isNumber g.2 a0 a1 a2 a3 μ = some (r, μ')) : MetI l yX8_isNumber cX8_isNumber 7 (some .boolean) rm_X8_isNumber g L μ [.ref a0, .int a1, .int a2, .int a3] r μ' := by
  refine pw_met (Qc := fun A => QI g L A r μ') (by decide) (Nat.le_of_ble_eq_true rfl) ?_
  intro p e s m args below meth c A ls H locs hC hr hlocks hl hw
  have hx := hC.1
  have hb := hC.2.1
  have hl : lv_has ls 7 [(0, .ref a0), (1, .int a1), (2, .int a2), (3, .int a3)] := hl
  unfold f_X8_isNumber at hf
  refine lv_aload_n hx hb dX8_isNumber_0 rfl (lv_at hl 0 rfl) ?_
  refine lv_iload_n hx hb dX8_isNumber_1 rfl (lv_at hl 3 rfl) ?_
  obtain ⟨h2, hf⟩ := o_ite hf
  obtain ⟨r4, μ3, h1, hf⟩ := o_bind2 hf
  refine pw_goI hw (pw_runV (As := [.int a3]) (rest := []) hC mm_X8_decimals tw_1267 (c_X8_decimals h1 _) ⟨rfl, rfl, by decide, by decide⟩ hw h2 rfl hl.1 (Nat.le_of_ble_eq_true rfl) ⟨Nat.zero_le _, Nat.zero_le _⟩ rfl dX8_isNumber_2) (fun H locs hw => ?_)
  refine lv_istore (lv' := [(4, .int r4), (0, .ref a0), (1, .int a1), (2, .int a2), (3, .int a3)]) hx hb dX8_isNumber_5 hl (by decide) rfl (fun ls hl => ?_)
  refine lv_iload hx hb dX8_isNumber_7 (lv_at hl 0 rfl) ?_
  refine lv_iload_n hx hb dX8_isNumber_9 rfl (lv_at hl 3 rfl) ?_
  refine lv_iload_n hx hb dX8_isNumber_10 rfl (lv_at hl 2 rfl) ?_
  refine lv_isub hx hb dX8_isNumber_11 ?_
  refine lv_icmp_ne (tgt := 19) hx hb dX8_isNumber_12 (by decide) (fun c5 => ?_) (fun c5 => ?_)
  · have hf := o_neg c5 hf
    refine lv_iconst (v := 0) hx hb dX8_isNumber_19 nc_iconst_0 ?_
    exact w_X8_isNumber_L20 hC hr hlocks _ _ _ _ _ _ _ ls (lv_sub hl [1, 2, 0] rfl) hw hf
  · have hf := o_pos c5 hf
    refine lv_iconst (v := 1) hx hb dX8_isNumber_15 nc_iconst_1 ?_
    refine lv_goto (tgt := 20) hx hb dX8_isNumber_16 (by decide) ?_
    exact w_X8_isNumber_L20 hC hr hlocks _ _ _ _ _ _ _ ls (lv_sub hl [1, 2, 0] rfl) hw hf
theorem dX8_name_0 : decode cX8_name 0 = .ok (.aload_n 0, 1) := by decide +kernel
theorem dX8_name_1 : decode cX8_name 1 = .ok (.iload_n 1, 1) := by decide +kernel
theorem dX8_name_2 : decode cX8_name 2 = .ok (.iload_n 2, 1) := by decide +kernel
theorem dX8_name_3 : decode cX8_name 3 = .ok (.invokevirtual 120, 3) := by decide +kernel
theorem dX8_name_6 : decode cX8_name 6 = .ok (.istore 4, 2) := by decide +kernel
theorem dX8_name_8 : decode cX8_name 8 = .ok (.iload 4, 2) := by decide +kernel
theorem dX8_name_10 : decode cX8_name 10 = .ok (.ifCond .ge 10, 3) := by decide +kernel
theorem dX8_name_13 : decode cX8_name 13 = .ok (.aload_n 0, 1) := by decide +kernel
theorem dX8_name_14 : decode cX8_name 14 = .ok (.iconst 1, 1) := by decide +kernel
theorem dX8_name_15 : decode cX8_name 15 = .ok (.iload_n 1, 1) := by decide +kernel
theorem dX8_name_16 : decode cX8_name 16 = .ok (.invokevirtual 109, 3) := by decide +kernel
theorem dX8_name_19 : decode cX8_name 19 = .ok (.ireturn, 1) := by decide +kernel
theorem dX8_name_20 : decode cX8_name 20 = .ok (.iload_n 3, 1) := by decide +kernel
theorem dX8_name_21 : decode cX8_name 21 = .ok (.ifCond .lt 22, 3) := by decide +kernel
theorem dX8_name_24 : decode cX8_name 24 = .ok (.aload_n 0, 1) := by decide +kernel
theorem dX8_name_25 : decode cX8_name 25 = .ok (.iload_n 1, 1) := by decide +kernel
theorem dX8_name_26 : decode cX8_name 26 = .ok (.iload 4, 2) := by decide +kernel
theorem dX8_name_28 : decode cX8_name 28 = .ok (.iload_n 3, 1) := by decide +kernel
theorem dX8_name_29 : decode cX8_name 29 = .ok (.invokevirtual 123, 3) := by decide +kernel
theorem dX8_name_32 : decode cX8_name 32 = .ok (.ifCond .ne 11, 3) := by decide +kernel
theorem dX8_name_35 : decode cX8_name 35 = .ok (.aload_n 0, 1) := by decide +kernel
theorem dX8_name_36 : decode cX8_name 36 = .ok (.bipush 6, 2) := by decide +kernel
theorem dX8_name_38 : decode cX8_name 38 = .ok (.iload_n 1, 1) := by decide +kernel
theorem dX8_name_39 : decode cX8_name 39 = .ok (.invokevirtual 109, 3) := by decide +kernel
theorem dX8_name_42 : decode cX8_name 42 = .ok (.ireturn, 1) := by decide +kernel
theorem dX8_name_43 : decode cX8_name 43 = .ok (.aload_n 0, 1) := by decide +kernel
theorem dX8_name_44 : decode cX8_name 44 = .ok (.iload_n 1, 1) := by decide +kernel
theorem dX8_name_45 : decode cX8_name 45 = .ok (.iload 4, 2) := by decide +kernel
theorem dX8_name_47 : decode cX8_name 47 = .ok (.invokevirtual 127, 3) := by decide +kernel
theorem dX8_name_50 : decode cX8_name 50 = .ok (.ifCond .eq 10, 3) := by decide +kernel
theorem dX8_name_53 : decode cX8_name 53 = .ok (.iload 4, 2) := by decide +kernel
theorem dX8_name_55 : decode cX8_name 55 = .ok (.iconst 1, 1) := by decide +kernel
theorem dX8_name_56 : decode cX8_name 56 = .ok (.iadd, 1) := by decide +kernel
theorem dX8_name_57 : decode cX8_name 57 = .ok (.goto 4, 3) := by decide +kernel
theorem dX8_name_60 : decode cX8_name 60 = .ok (.iconst (-1), 1) := by decide +kernel
theorem dX8_name_61 : decode cX8_name 61 = .ok (.ireturn, 1) := by decide +kernel
abbrev rm_X8_name : Room := { frames := 2, cells := 0, slots := 0, locals := 51 }
def f_X8_name_L43 (cy : Nat → ClassId) (a0 : Nat) (a1 : Int32) (a4 : Int32) (μ : Mem) : Option (Int32 × Mem) :=
  if isO μ a0 7 = true then (ob2 (f_X8_signs cy a0 a1 a4 μ) fun r104 μ103 => if r104 = 0 then (some ((-1), μ103)) else some ((a4 + 1), μ103)) else none
set_option maxRecDepth 100000 in
set_option maxHeartbeats 4000000 in
theorem w_X8_name_L43 {p : Program} {l : Launch} {e : Env} {s : State} {m : MethodId} {args : Array Value} {below : List Frame} {meth : Method} {c : Code} {A : Nat → Prop} {g : Wg} {L : List Nat} {r : Int32} {μ' : Mem} (hC : CX p m c cX8_name 5 s args RX8) (hr : meth.sig.returnType = (some .int)) (hlocks : meth.locks = false) : ∀ (a0 : Nat) (a1 : Int32) (a4 : Int32) (μ : Mem) (H : Heap) (locs : List Loc) (ls : Array Slot), lv_has ls 5 [(0, .ref a0), (1, .int a1), (4, .int a4)] → PW g L μ A s H locs → f_X8_name_L43 g.2 a0 a1 a4 μ = some (r, μ') → W p l e rm_X8_name s m args below meth c H locs 0 0 (MQ below (QI g L A r μ') args s 0 0 A) (F0 m 43 ls []) := by
  have hx := hC.1
  have hb := hC.2.1
  intro a0 a1 a4 μ H locs ls hl hw hf
  unfold f_X8_name_L43 at hf
  refine lv_aload_n hx hb dX8_name_43 rfl (lv_at hl 0 rfl) ?_
  refine lv_iload_n hx hb dX8_name_44 rfl (lv_at hl 1 rfl) ?_
  refine lv_iload hx hb dX8_name_45 (lv_at hl 2 rfl) ?_
  obtain ⟨h102, hf⟩ := o_ite hf
  obtain ⟨r104, μ103, h101, hf⟩ := o_bind2 hf
  refine pw_goI hw (pw_runV (As := [.int a1, .int a4]) (rest := []) hC mm_X8_signs tw_1271 (c_X8_signs h101 _) ⟨rfl, rfl, by decide, by decide⟩ hw h102 rfl hl.1 (Nat.le_of_ble_eq_true rfl) ⟨Nat.zero_le _, Nat.zero_le _⟩ rfl dX8_name_47) (fun H locs hw => ?_)
  refine lv_if_eq (tgt := 60) hx hb dX8_name_50 (by decide) (fun c105 => ?_) (fun c105 => ?_)
  · have hf := o_pos c105 hf
    refine lv_iconst (v := (-1)) hx hb dX8_name_60 nc_iconst_m1 ?_
    obtain ⟨rfl, rfl⟩ := o_ret hf
    exact pw_iret hC hr hlocks hw dX8_name_61
  · have hf := o_neg c105 hf
    refine lv_iload hx hb dX8_name_53 (lv_at hl 2 rfl) ?_
    refine lv_iconst (v := 1) hx hb dX8_name_55 nc_iconst_1 ?_
    refine lv_iadd hx hb dX8_name_56 ?_
    refine lv_goto (tgt := 61) hx hb dX8_name_57 (by decide) ?_
    obtain ⟨rfl, rfl⟩ := o_ret hf
    exact pw_iret hC hr hlocks hw dX8_name_61
def f_X8_name (cy : Nat → ClassId) (a0 : Nat) (a1 : Int32) (a2 : Int32) (a3 : Int32) (μ : Mem) : Option (Int32 × Mem) :=
  if isO μ a0 7 = true then (ob2 (f_X8_zero cy a0 a1 a2 μ) fun r4 μ3 => if 0 ≤ r4 then (if a3 < 0 then (f_X8_name_L43 cy a0 a1 r4 μ3) else if isO μ3 a0 7 = true then (ob2 (f_X8_isNumber cy a0 a1 r4 a3 μ3) fun r10 μ9 => if r10 = 0 then (if isO μ9 a0 7 = true then (ob2 (f_X8_wrong cy a0 6 a1 μ9) fun r15 μ14 => some (r15, μ14)) else none) else f_X8_name_L43 cy a0 a1 r4 μ9) else none) else if isO μ3 a0 7 = true then (ob2 (f_X8_wrong cy a0 1 a1 μ3) fun r19 μ18 => some (r19, μ18)) else none) else none
set_option maxRecDepth 100000 in
set_option maxHeartbeats 4000000 in
theorem c_X8_name {l : Launch} {g : Wg} {L : List Nat} {μ : Mem} {a0 : Nat} {a1 : Int32} {a2 : Int32} {a3 : Int32} {r : Int32} {μ' : Mem} (hf : f_X8_name g.2 a0 a1 a2 a3 μ = some (r, μ')) : MetI l yX8_name cX8_name 5 (some .int) rm_X8_name g L μ [.ref a0, .int a1, .int a2, .int a3] r μ' := by
  refine pw_met (Qc := fun A => QI g L A r μ') (by decide) (Nat.le_of_ble_eq_true rfl) ?_
  intro p e s m args below meth c A ls H locs hC hr hlocks hl hw
  have hx := hC.1
  have hb := hC.2.1
  have hl : lv_has ls 5 [(0, .ref a0), (1, .int a1), (2, .int a2), (3, .int a3)] := hl
  unfold f_X8_name at hf
  refine lv_aload_n hx hb dX8_name_0 rfl (lv_at hl 0 rfl) ?_
  refine lv_iload_n hx hb dX8_name_1 rfl (lv_at hl 1 rfl) ?_
  refine lv_iload_n hx hb dX8_name_2 rfl (lv_at hl 2 rfl) ?_
  obtain ⟨h2, hf⟩ := o_ite hf
  obtain ⟨r4, μ3, h1, hf⟩ := o_bind2 hf
  refine pw_goI hw (pw_runV (As := [.int a1, .int a2]) (rest := []) hC mm_X8_zero tw_1259 (c_X8_zero h1 _) ⟨rfl, rfl, by decide, by decide⟩ hw h2 rfl hl.1 (Nat.le_of_ble_eq_true rfl) ⟨Nat.zero_le _, Nat.zero_le _⟩ rfl dX8_name_3) (fun H locs hw => ?_)
  refine lv_istore (lv' := [(4, .int r4), (0, .ref a0), (1, .int a1), (2, .int a2), (3, .int a3)]) hx hb dX8_name_6 hl (by decide) rfl (fun ls hl => ?_)
  refine lv_iload hx hb dX8_name_8 (lv_at hl 0 rfl) ?_
  refine lv_if_ge (tgt := 20) hx hb dX8_name_10 (by decide) (fun c5 => ?_) (fun c5 => ?_)
  · have hf := o_pos c5 hf
    refine lv_iload_n hx hb dX8_name_20 rfl (lv_at hl 4 rfl) ?_
    refine lv_if_lt (tgt := 43) hx hb dX8_name_21 (by decide) (fun c6 => ?_) (fun c6 => ?_)
    · have hf := o_pos c6 hf
      exact w_X8_name_L43 hC hr hlocks _ _ _ _ _ _ ls (lv_sub hl [1, 2, 0] rfl) hw hf
    · have hf := o_neg c6 hf
      refine lv_aload_n hx hb dX8_name_24 rfl (lv_at hl 1 rfl) ?_
      refine lv_iload_n hx hb dX8_name_25 rfl (lv_at hl 2 rfl) ?_
      refine lv_iload hx hb dX8_name_26 (lv_at hl 0 rfl) ?_
      refine lv_iload_n hx hb dX8_name_28 rfl (lv_at hl 4 rfl) ?_
      obtain ⟨h8, hf⟩ := o_ite hf
      obtain ⟨r10, μ9, h7, hf⟩ := o_bind2 hf
      refine pw_goI hw (pw_runV (As := [.int a1, .int r4, .int a3]) (rest := []) hC mm_X8_isNumber tw_1263 (c_X8_isNumber h7 _) ⟨rfl, rfl, by decide, by decide⟩ hw h8 rfl hl.1 (Nat.le_of_ble_eq_true rfl) ⟨Nat.zero_le _, Nat.zero_le _⟩ rfl dX8_name_29) (fun H locs hw => ?_)
      refine lv_if_ne (tgt := 43) hx hb dX8_name_32 (by decide) (fun c11 => ?_) (fun c11 => ?_)
      · have hf := o_neg c11 hf
        exact w_X8_name_L43 hC hr hlocks _ _ _ _ _ _ ls (lv_sub hl [1, 2, 0] rfl) hw hf
      · have hf := o_pos c11 hf
        refine lv_aload_n hx hb dX8_name_35 rfl (lv_at hl 1 rfl) ?_
        refine lv_bipush (v := 6) hx hb dX8_name_36 nc_bipush_6 ?_
        refine lv_iload_n hx hb dX8_name_38 rfl (lv_at hl 2 rfl) ?_
        obtain ⟨h13, hf⟩ := o_ite hf
        obtain ⟨r15, μ14, h12, hf⟩ := o_bind2 hf
        refine pw_goI hw (pw_runV (As := [.int 6, .int a1]) (rest := []) hC mm_X8_wrong tw_1237 (c_X8_wrong h12 _) ⟨rfl, rfl, by decide, by decide⟩ hw h13 rfl hl.1 (Nat.le_of_ble_eq_true rfl) ⟨Nat.zero_le _, Nat.zero_le _⟩ rfl dX8_name_39) (fun H locs hw => ?_)
        obtain ⟨rfl, rfl⟩ := o_ret hf
        exact pw_iret hC hr hlocks hw dX8_name_42
  · have hf := o_neg c5 hf
    refine lv_aload_n hx hb dX8_name_13 rfl (lv_at hl 1 rfl) ?_
    refine lv_iconst (v := 1) hx hb dX8_name_14 nc_iconst_1 ?_
    refine lv_iload_n hx hb dX8_name_15 rfl (lv_at hl 2 rfl) ?_
    obtain ⟨h17, hf⟩ := o_ite hf
    obtain ⟨r19, μ18, h16, hf⟩ := o_bind2 hf
    refine pw_goI hw (pw_runV (As := [.int 1, .int a1]) (rest := []) hC mm_X8_wrong tw_1237 (c_X8_wrong h16 _) ⟨rfl, rfl, by decide, by decide⟩ hw h17 rfl hl.1 (Nat.le_of_ble_eq_true rfl) ⟨Nat.zero_le _, Nat.zero_le _⟩ rfl dX8_name_16) (fun H locs hw => ?_)
    obtain ⟨rfl, rfl⟩ := o_ret hf
    exact pw_iret hC hr hlocks hw dX8_name_19
theorem dX8_text_0 : decode cX8_text 0 = .ok (.aload_n 0, 1) := by decide +kernel
theorem dX8_text_1 : decode cX8_text 1 = .ok (.iload_n 1, 1) := by decide +kernel
theorem dX8_text_2 : decode cX8_text 2 = .ok (.iconst 4, 1) := by decide +kernel
theorem dX8_text_3 : decode cX8_text 3 = .ok (.iload_n 2, 1) := by decide +kernel
theorem dX8_text_4 : decode cX8_text 4 = .ok (.invokevirtual 135, 3) := by decide +kernel
theorem dX8_text_7 : decode cX8_text 7 = .ok (.ifCond .ge 5, 3) := by decide +kernel
theorem dX8_text_10 : decode cX8_text 10 = .ok (.iconst (-1), 1) := by decide +kernel
theorem dX8_text_11 : decode cX8_text 11 = .ok (.ireturn, 1) := by decide +kernel
theorem dX8_text_12 : decode cX8_text 12 = .ok (.aload_n 0, 1) := by decide +kernel
theorem dX8_text_13 : decode cX8_text 13 = .ok (.getfield 13, 3) := by decide +kernel
theorem dX8_text_16 : decode cX8_text 16 = .ok (.iload_n 1, 1) := by decide +kernel
theorem dX8_text_17 : decode cX8_text 17 = .ok (.invokestatic 97, 3) := by decide +kernel
theorem dX8_text_20 : decode cX8_text 20 = .ok (.istore_n 3, 1) := by decide +kernel
theorem dX8_text_21 : decode cX8_text 21 = .ok (.iload_n 3, 1) := by decide +kernel
theorem dX8_text_22 : decode cX8_text 22 = .ok (.iconst 1, 1) := by decide +kernel
theorem dX8_text_23 : decode cX8_text 23 = .ok (.if_icmp .ge 10, 3) := by decide +kernel
theorem dX8_text_26 : decode cX8_text 26 = .ok (.aload_n 0, 1) := by decide +kernel
theorem dX8_text_27 : decode cX8_text 27 = .ok (.iconst 2, 1) := by decide +kernel
theorem dX8_text_28 : decode cX8_text 28 = .ok (.iload_n 1, 1) := by decide +kernel
theorem dX8_text_29 : decode cX8_text 29 = .ok (.invokevirtual 109, 3) := by decide +kernel
theorem dX8_text_32 : decode cX8_text 32 = .ok (.ireturn, 1) := by decide +kernel
theorem dX8_text_33 : decode cX8_text 33 = .ok (.iload_n 1, 1) := by decide +kernel
theorem dX8_text_34 : decode cX8_text 34 = .ok (.i2l, 1) := by decide +kernel
theorem dX8_text_35 : decode cX8_text 35 = .ok (.ldc2_w 139, 3) := by decide +kernel
theorem dX8_text_38 : decode cX8_text 38 = .ok (.ladd, 1) := by decide +kernel
theorem dX8_text_39 : decode cX8_text 39 = .ok (.iload_n 3, 1) := by decide +kernel
theorem dX8_text_40 : decode cX8_text 40 = .ok (.i2l, 1) := by decide +kernel
theorem dX8_text_41 : decode cX8_text 41 = .ok (.ladd, 1) := by decide +kernel
theorem dX8_text_42 : decode cX8_text 42 = .ok (.iload_n 2, 1) := by decide +kernel
theorem dX8_text_43 : decode cX8_text 43 = .ok (.i2l, 1) := by decide +kernel
theorem dX8_text_44 : decode cX8_text 44 = .ok (.lcmp, 1) := by decide +kernel
theorem dX8_text_45 : decode cX8_text 45 = .ok (.ifCond .le 10, 3) := by decide +kernel
theorem dX8_text_48 : decode cX8_text 48 = .ok (.aload_n 0, 1) := by decide +kernel
theorem dX8_text_49 : decode cX8_text 49 = .ok (.iconst 1, 1) := by decide +kernel
theorem dX8_text_50 : decode cX8_text 50 = .ok (.iload_n 1, 1) := by decide +kernel
theorem dX8_text_51 : decode cX8_text 51 = .ok (.invokevirtual 109, 3) := by decide +kernel
theorem dX8_text_54 : decode cX8_text 54 = .ok (.ireturn, 1) := by decide +kernel
theorem dX8_text_55 : decode cX8_text 55 = .ok (.iload_n 1, 1) := by decide +kernel
theorem dX8_text_56 : decode cX8_text 56 = .ok (.iconst 3, 1) := by decide +kernel
theorem dX8_text_57 : decode cX8_text 57 = .ok (.iadd, 1) := by decide +kernel
theorem dX8_text_58 : decode cX8_text 58 = .ok (.iload_n 3, 1) := by decide +kernel
theorem dX8_text_59 : decode cX8_text 59 = .ok (.iadd, 1) := by decide +kernel
theorem dX8_text_60 : decode cX8_text 60 = .ok (.istore 4, 2) := by decide +kernel
theorem dX8_text_62 : decode cX8_text 62 = .ok (.aload_n 0, 1) := by decide +kernel
theorem dX8_text_63 : decode cX8_text 63 = .ok (.getfield 13, 3) := by decide +kernel
theorem dX8_text_66 : decode cX8_text 66 = .ok (.iload 4, 2) := by decide +kernel
theorem dX8_text_68 : decode cX8_text 68 = .ok (.baload, 1) := by decide +kernel
theorem dX8_text_69 : decode cX8_text 69 = .ok (.ifCond .eq 11, 3) := by decide +kernel
theorem dX8_text_72 : decode cX8_text 72 = .ok (.aload_n 0, 1) := by decide +kernel
theorem dX8_text_73 : decode cX8_text 73 = .ok (.iconst 4, 1) := by decide +kernel
theorem dX8_text_74 : decode cX8_text 74 = .ok (.iload 4, 2) := by decide +kernel
theorem dX8_text_76 : decode cX8_text 76 = .ok (.invokevirtual 109, 3) := by decide +kernel
theorem dX8_text_79 : decode cX8_text 79 = .ok (.ireturn, 1) := by decide +kernel
theorem dX8_text_80 : decode cX8_text 80 = .ok (.aload_n 0, 1) := by decide +kernel
theorem dX8_text_81 : decode cX8_text 81 = .ok (.iload_n 1, 1) := by decide +kernel
theorem dX8_text_82 : decode cX8_text 82 = .ok (.iconst 4, 1) := by decide +kernel
theorem dX8_text_83 : decode cX8_text 83 = .ok (.iadd, 1) := by decide +kernel
theorem dX8_text_84 : decode cX8_text 84 = .ok (.iload 4, 2) := by decide +kernel
theorem dX8_text_86 : decode cX8_text 86 = .ok (.invokevirtual 127, 3) := by decide +kernel
theorem dX8_text_89 : decode cX8_text 89 = .ok (.ifCond .eq 10, 3) := by decide +kernel
theorem dX8_text_92 : decode cX8_text 92 = .ok (.iload 4, 2) := by decide +kernel
theorem dX8_text_94 : decode cX8_text 94 = .ok (.iconst 1, 1) := by decide +kernel
theorem dX8_text_95 : decode cX8_text 95 = .ok (.iadd, 1) := by decide +kernel
theorem dX8_text_96 : decode cX8_text 96 = .ok (.goto 4, 3) := by decide +kernel
theorem dX8_text_99 : decode cX8_text 99 = .ok (.iconst (-1), 1) := by decide +kernel
theorem dX8_text_100 : decode cX8_text 100 = .ok (.ireturn, 1) := by decide +kernel
abbrev rm_X8_text : Room := { frames := 2, cells := 0, slots := 0, locals := 51 }
def f_X8_text (cy : Nat → ClassId) (a0 : Nat) (a1 : Int32) (a2 : Int32) (μ : Mem) : Option (Int32 × Mem) :=
  if isO μ a0 7 = true then (ob2 (f_X8_some cy a0 a1 4 a2 μ) fun r4 μ3 => if 0 ≤ r4 then ((rdR μ3 a0 7 1).bind fun q6 => ob2 (f_X8_intAt cy q6 a1 μ3) fun r10 μ9 => if 1 ≤ r10 then (if (lg_cmp (((Int32.toInt64 a1) + (4 : Int64)) + (Int32.toInt64 r10)) (Int32.toInt64 a2)) ≤ 0 then ((rdR μ9 a0 7 1).bind fun q13 => (rdA cy μ9 0 q13 ((a1 + 3) + r10)).bind fun v15 => if v15 = 0 then (if isO μ9 a0 7 = true then (ob2 (f_X8_signs cy a0 (a1 + 4) ((a1 + 3) + r10) μ9) fun r21 μ20 => if r21 = 0 then (some ((-1), μ20)) else some ((((a1 + 3) + r10) + 1), μ20)) else none) else if isO μ9 a0 7 = true then (ob2 (f_X8_wrong cy a0 4 ((a1 + 3) + r10) μ9) fun r26 μ25 => some (r26, μ25)) else none) else if isO μ9 a0 7 = true then (ob2 (f_X8_wrong cy a0 1 a1 μ9) fun r30 μ29 => some (r30, μ29)) else none) else if isO μ9 a0 7 = true then (ob2 (f_X8_wrong cy a0 2 a1 μ9) fun r34 μ33 => some (r34, μ33)) else none) else some ((-1), μ3)) else none
set_option maxRecDepth 100000 in
set_option maxHeartbeats 4000000 in
theorem c_X8_text {l : Launch} {g : Wg} {L : List Nat} {μ : Mem} {a0 : Nat} {a1 : Int32} {a2 : Int32} {r : Int32} {μ' : Mem} (hf : f_X8_text g.2 a0 a1 a2 μ = some (r, μ')) : MetI l yX8_text cX8_text 5 (some .int) rm_X8_text g L μ [.ref a0, .int a1, .int a2] r μ' := by
  refine pw_met (Qc := fun A => QI g L A r μ') (by decide) (Nat.le_of_ble_eq_true rfl) ?_
  intro p e s m args below meth c A ls H locs hC hr hlocks hl hw
  have hx := hC.1
  have hb := hC.2.1
  have hl : lv_has ls 5 [(0, .ref a0), (1, .int a1), (2, .int a2)] := hl
  unfold f_X8_text at hf
  refine lv_aload_n hx hb dX8_text_0 rfl (lv_at hl 0 rfl) ?_
  refine lv_iload_n hx hb dX8_text_1 rfl (lv_at hl 1 rfl) ?_
  refine lv_iconst (v := 4) hx hb dX8_text_2 nc_iconst_4 ?_
  refine lv_iload_n hx hb dX8_text_3 rfl (lv_at hl 2 rfl) ?_
  obtain ⟨h2, hf⟩ := o_ite hf
  obtain ⟨r4, μ3, h1, hf⟩ := o_bind2 hf
  refine pw_goI hw (pw_runV (As := [.int a1, .int 4, .int a2]) (rest := []) hC mm_X8_some tw_1241 (c_X8_some h1 _) ⟨rfl, rfl, by decide, by decide⟩ hw h2 rfl hl.1 (Nat.le_of_ble_eq_true rfl) ⟨Nat.zero_le _, Nat.zero_le _⟩ rfl dX8_text_4) (fun H locs hw => ?_)
  refine lv_if_ge (tgt := 12) hx hb dX8_text_7 (by decide) (fun c5 => ?_) (fun c5 => ?_)
  · have hf := o_pos c5 hf
    refine lv_aload_n hx hb dX8_text_12 rfl (lv_at hl 0 rfl) ?_
    obtain ⟨q6, h7, hf⟩ := o_bind hf
    refine pw_get hC fl_X8_13 hw (rdR_F h7) dX8_text_13 ?_
    refine lv_iload_n hx hb dX8_text_16 rfl (lv_at hl 1 rfl) ?_
    obtain ⟨r10, μ9, h8, hf⟩ := o_bind2 hf
    refine pw_goI hw (pw_runS (As := [.ref q6, .int a1]) (rest := []) hC mm_X8_intAt tw_1245 (c_X8_intAt h8 _) ⟨rfl, rfl, by decide, by decide⟩ hw rfl hl.1 (Nat.le_of_ble_eq_true rfl) ⟨Nat.zero_le _, Nat.zero_le _⟩ rfl dX8_text_17) (fun H locs hw => ?_)
    refine lv_istore_n (lv' := [(3, .int r10), (0, .ref a0), (1, .int a1), (2, .int a2)]) hx hb dX8_text_20 rfl hl (by decide) rfl (fun ls hl => ?_)
    refine lv_iload_n hx hb dX8_text_21 rfl (lv_at hl 0 rfl) ?_
    refine lv_iconst (v := 1) hx hb dX8_text_22 nc_iconst_1 ?_
    refine lv_icmp_ge (tgt := 33) hx hb dX8_text_23 (by decide) (fun c11 => ?_) (fun c11 => ?_)
    · have hf := o_pos c11 hf
      refine lv_iload_n hx hb dX8_text_33 rfl (lv_at hl 2 rfl) ?_
      refine lv_i2l hx hb dX8_text_34 rfl ?_
      refine lv_ldc2 (v := 4) hx hb hC.2.2.2.1 (hC.2.2.2.2 _ tw_1291) dX8_text_35 ?_
      refine lv_ladd hx hb dX8_text_38 ?_
      refine lv_iload_n hx hb dX8_text_39 rfl (lv_at hl 0 rfl) ?_
      refine lv_i2l hx hb dX8_text_40 rfl ?_
      refine lv_ladd hx hb dX8_text_41 ?_
      refine lv_iload_n hx hb dX8_text_42 rfl (lv_at hl 3 rfl) ?_
      refine lv_i2l hx hb dX8_text_43 rfl ?_
      refine W.lcmp hx hb dX8_text_44 ?_
      refine lv_if_le (tgt := 55) hx hb dX8_text_45 (by decide) (fun c12 => ?_) (fun c12 => ?_)
      · have hf := o_pos c12 hf
        refine lv_iload_n hx hb dX8_text_55 rfl (lv_at hl 2 rfl) ?_
        refine lv_iconst (v := 3) hx hb dX8_text_56 nc_iconst_3 ?_
        refine lv_iadd hx hb dX8_text_57 ?_
        refine lv_iload_n hx hb dX8_text_58 rfl (lv_at hl 0 rfl) ?_
        refine lv_iadd hx hb dX8_text_59 ?_
        refine lv_istore (lv' := [(4, .int ((a1 + 3) + r10)), (3, .int r10), (0, .ref a0), (1, .int a1), (2, .int a2)]) hx hb dX8_text_60 hl (by decide) rfl (fun ls hl => ?_)
        refine lv_aload_n hx hb dX8_text_62 rfl (lv_at hl 2 rfl) ?_
        obtain ⟨q13, h14, hf⟩ := o_bind hf
        refine pw_get hC fl_X8_13 hw (rdR_F h14) dX8_text_63 ?_
        refine lv_iload hx hb dX8_text_66 (lv_at hl 0 rfl) ?_
        obtain ⟨v15, h16, hf⟩ := o_bind hf
        refine pw_bald hC hw h16 dX8_text_68 ?_
        refine lv_if_eq (tgt := 80) hx hb dX8_text_69 (by decide) (fun c17 => ?_) (fun c17 => ?_)
        · have hf := o_pos c17 hf
          refine lv_aload_n hx hb dX8_text_80 rfl (lv_at hl 2 rfl) ?_
          refine lv_iload_n hx hb dX8_text_81 rfl (lv_at hl 3 rfl) ?_
          refine lv_iconst (v := 4) hx hb dX8_text_82 nc_iconst_4 ?_
          refine lv_iadd hx hb dX8_text_83 ?_
          refine lv_iload hx hb dX8_text_84 (lv_at hl 0 rfl) ?_
          obtain ⟨h19, hf⟩ := o_ite hf
          obtain ⟨r21, μ20, h18, hf⟩ := o_bind2 hf
          refine pw_goI hw (pw_runV (As := [.int (a1 + 4), .int ((a1 + 3) + r10)]) (rest := []) hC mm_X8_signs tw_1271 (c_X8_signs h18 _) ⟨rfl, rfl, by decide, by decide⟩ hw h19 rfl hl.1 (Nat.le_of_ble_eq_true rfl) ⟨Nat.zero_le _, Nat.zero_le _⟩ rfl dX8_text_86) (fun H locs hw => ?_)
          refine lv_if_eq (tgt := 99) hx hb dX8_text_89 (by decide) (fun c22 => ?_) (fun c22 => ?_)
          · have hf := o_pos c22 hf
            refine lv_iconst (v := (-1)) hx hb dX8_text_99 nc_iconst_m1 ?_
            obtain ⟨rfl, rfl⟩ := o_ret hf
            exact pw_iret hC hr hlocks hw dX8_text_100
          · have hf := o_neg c22 hf
            refine lv_iload hx hb dX8_text_92 (lv_at hl 0 rfl) ?_
            refine lv_iconst (v := 1) hx hb dX8_text_94 nc_iconst_1 ?_
            refine lv_iadd hx hb dX8_text_95 ?_
            refine lv_goto (tgt := 100) hx hb dX8_text_96 (by decide) ?_
            obtain ⟨rfl, rfl⟩ := o_ret hf
            exact pw_iret hC hr hlocks hw dX8_text_100
        · have hf := o_neg c17 hf
          refine lv_aload_n hx hb dX8_text_72 rfl (lv_at hl 2 rfl) ?_
          refine lv_iconst (v := 4) hx hb dX8_text_73 nc_iconst_4 ?_
          refine lv_iload hx hb dX8_text_74 (lv_at hl 0 rfl) ?_
          obtain ⟨h24, hf⟩ := o_ite hf
          obtain ⟨r26, μ25, h23, hf⟩ := o_bind2 hf
          refine pw_goI hw (pw_runV (As := [.int 4, .int ((a1 + 3) + r10)]) (rest := []) hC mm_X8_wrong tw_1237 (c_X8_wrong h23 _) ⟨rfl, rfl, by decide, by decide⟩ hw h24 rfl hl.1 (Nat.le_of_ble_eq_true rfl) ⟨Nat.zero_le _, Nat.zero_le _⟩ rfl dX8_text_76) (fun H locs hw => ?_)
          obtain ⟨rfl, rfl⟩ := o_ret hf
          exact pw_iret hC hr hlocks hw dX8_text_79
      · have hf := o_neg c12 hf
        refine lv_aload_n hx hb dX8_text_48 rfl (lv_at hl 1 rfl) ?_
        refine lv_iconst (v := 1) hx hb dX8_text_49 nc_iconst_1 ?_
        refine lv_iload_n hx hb dX8_text_50 rfl (lv_at hl 2 rfl) ?_
        obtain ⟨h28, hf⟩ := o_ite hf
        obtain ⟨r30, μ29, h27, hf⟩ := o_bind2 hf
        refine pw_goI hw (pw_runV (As := [.int 1, .int a1]) (rest := []) hC mm_X8_wrong tw_1237 (c_X8_wrong h27 _) ⟨rfl, rfl, by decide, by decide⟩ hw h28 rfl hl.1 (Nat.le_of_ble_eq_true rfl) ⟨Nat.zero_le _, Nat.zero_le _⟩ rfl dX8_text_51) (fun H locs hw => ?_)
        obtain ⟨rfl, rfl⟩ := o_ret hf
        exact pw_iret hC hr hlocks hw dX8_text_54
    · have hf := o_neg c11 hf
      refine lv_aload_n hx hb dX8_text_26 rfl (lv_at hl 1 rfl) ?_
      refine lv_iconst (v := 2) hx hb dX8_text_27 nc_iconst_2 ?_
      refine lv_iload_n hx hb dX8_text_28 rfl (lv_at hl 2 rfl) ?_
      obtain ⟨h32, hf⟩ := o_ite hf
      obtain ⟨r34, μ33, h31, hf⟩ := o_bind2 hf
      refine pw_goI hw (pw_runV (As := [.int 2, .int a1]) (rest := []) hC mm_X8_wrong tw_1237 (c_X8_wrong h31 _) ⟨rfl, rfl, by decide, by decide⟩ hw h32 rfl hl.1 (Nat.le_of_ble_eq_true rfl) ⟨Nat.zero_le _, Nat.zero_le _⟩ rfl dX8_text_29) (fun H locs hw => ?_)
      obtain ⟨rfl, rfl⟩ := o_ret hf
      exact pw_iret hC hr hlocks hw dX8_text_32
  · have hf := o_neg c5 hf
    refine lv_iconst (v := (-1)) hx hb dX8_text_10 nc_iconst_m1 ?_
    obtain ⟨rfl, rfl⟩ := o_ret hf
    exact pw_iret hC hr hlocks hw dX8_text_11
theorem dX8_binary_0 : decode cX8_binary 0 = .ok (.aload_n 0, 1) := by decide +kernel
theorem dX8_binary_1 : decode cX8_binary 1 = .ok (.iload_n 1, 1) := by decide +kernel
theorem dX8_binary_2 : decode cX8_binary 2 = .ok (.iconst 4, 1) := by decide +kernel
theorem dX8_binary_3 : decode cX8_binary 3 = .ok (.iload_n 2, 1) := by decide +kernel
theorem dX8_binary_4 : decode cX8_binary 4 = .ok (.invokevirtual 135, 3) := by decide +kernel
theorem dX8_binary_7 : decode cX8_binary 7 = .ok (.ifCond .ge 5, 3) := by decide +kernel
theorem dX8_binary_10 : decode cX8_binary 10 = .ok (.iconst (-1), 1) := by decide +kernel
theorem dX8_binary_11 : decode cX8_binary 11 = .ok (.ireturn, 1) := by decide +kernel
theorem dX8_binary_12 : decode cX8_binary 12 = .ok (.aload_n 0, 1) := by decide +kernel
theorem dX8_binary_13 : decode cX8_binary 13 = .ok (.getfield 13, 3) := by decide +kernel
theorem dX8_binary_16 : decode cX8_binary 16 = .ok (.iload_n 1, 1) := by decide +kernel
theorem dX8_binary_17 : decode cX8_binary 17 = .ok (.invokestatic 97, 3) := by decide +kernel
theorem dX8_binary_20 : decode cX8_binary 20 = .ok (.istore_n 3, 1) := by decide +kernel
theorem dX8_binary_21 : decode cX8_binary 21 = .ok (.iload_n 3, 1) := by decide +kernel
theorem dX8_binary_22 : decode cX8_binary 22 = .ok (.ifCond .ge 10, 3) := by decide +kernel
theorem dX8_binary_25 : decode cX8_binary 25 = .ok (.aload_n 0, 1) := by decide +kernel
theorem dX8_binary_26 : decode cX8_binary 26 = .ok (.iconst 2, 1) := by decide +kernel
theorem dX8_binary_27 : decode cX8_binary 27 = .ok (.iload_n 1, 1) := by decide +kernel
theorem dX8_binary_28 : decode cX8_binary 28 = .ok (.invokevirtual 109, 3) := by decide +kernel
theorem dX8_binary_31 : decode cX8_binary 31 = .ok (.ireturn, 1) := by decide +kernel
theorem dX8_binary_32 : decode cX8_binary 32 = .ok (.iload_n 1, 1) := by decide +kernel
theorem dX8_binary_33 : decode cX8_binary 33 = .ok (.i2l, 1) := by decide +kernel
theorem dX8_binary_34 : decode cX8_binary 34 = .ok (.ldc2_w 168, 3) := by decide +kernel
theorem dX8_binary_37 : decode cX8_binary 37 = .ok (.ladd, 1) := by decide +kernel
theorem dX8_binary_38 : decode cX8_binary 38 = .ok (.iload_n 3, 1) := by decide +kernel
theorem dX8_binary_39 : decode cX8_binary 39 = .ok (.i2l, 1) := by decide +kernel
theorem dX8_binary_40 : decode cX8_binary 40 = .ok (.ladd, 1) := by decide +kernel
theorem dX8_binary_41 : decode cX8_binary 41 = .ok (.iload_n 2, 1) := by decide +kernel
theorem dX8_binary_42 : decode cX8_binary 42 = .ok (.i2l, 1) := by decide +kernel
theorem dX8_binary_43 : decode cX8_binary 43 = .ok (.lcmp, 1) := by decide +kernel
theorem dX8_binary_44 : decode cX8_binary 44 = .ok (.ifCond .le 10, 3) := by decide +kernel
theorem dX8_binary_47 : decode cX8_binary 47 = .ok (.aload_n 0, 1) := by decide +kernel
theorem dX8_binary_48 : decode cX8_binary 48 = .ok (.iconst 1, 1) := by decide +kernel
theorem dX8_binary_49 : decode cX8_binary 49 = .ok (.iload_n 1, 1) := by decide +kernel
theorem dX8_binary_50 : decode cX8_binary 50 = .ok (.invokevirtual 109, 3) := by decide +kernel
theorem dX8_binary_53 : decode cX8_binary 53 = .ok (.ireturn, 1) := by decide +kernel
theorem dX8_binary_54 : decode cX8_binary 54 = .ok (.aload_n 0, 1) := by decide +kernel
theorem dX8_binary_55 : decode cX8_binary 55 = .ok (.getfield 13, 3) := by decide +kernel
theorem dX8_binary_58 : decode cX8_binary 58 = .ok (.iload_n 1, 1) := by decide +kernel
theorem dX8_binary_59 : decode cX8_binary 59 = .ok (.iconst 4, 1) := by decide +kernel
theorem dX8_binary_60 : decode cX8_binary 60 = .ok (.iadd, 1) := by decide +kernel
theorem dX8_binary_61 : decode cX8_binary 61 = .ok (.baload, 1) := by decide +kernel
theorem dX8_binary_62 : decode cX8_binary 62 = .ok (.iconst 2, 1) := by decide +kernel
theorem dX8_binary_63 : decode cX8_binary 63 = .ok (.if_icmp .ne 40, 3) := by decide +kernel
theorem dX8_binary_66 : decode cX8_binary 66 = .ok (.iload_n 3, 1) := by decide +kernel
theorem dX8_binary_67 : decode cX8_binary 67 = .ok (.iconst 4, 1) := by decide +kernel
theorem dX8_binary_68 : decode cX8_binary 68 = .ok (.if_icmp .ge 10, 3) := by decide +kernel
theorem dX8_binary_71 : decode cX8_binary 71 = .ok (.aload_n 0, 1) := by decide +kernel
theorem dX8_binary_72 : decode cX8_binary 72 = .ok (.iconst 2, 1) := by decide +kernel
theorem dX8_binary_73 : decode cX8_binary 73 = .ok (.iload_n 1, 1) := by decide +kernel
theorem dX8_binary_74 : decode cX8_binary 74 = .ok (.invokevirtual 109, 3) := by decide +kernel
theorem dX8_binary_77 : decode cX8_binary 77 = .ok (.ireturn, 1) := by decide +kernel
theorem dX8_binary_78 : decode cX8_binary 78 = .ok (.aload_n 0, 1) := by decide +kernel
theorem dX8_binary_79 : decode cX8_binary 79 = .ok (.getfield 13, 3) := by decide +kernel
theorem dX8_binary_82 : decode cX8_binary 82 = .ok (.iload_n 1, 1) := by decide +kernel
theorem dX8_binary_83 : decode cX8_binary 83 = .ok (.iconst 5, 1) := by decide +kernel
theorem dX8_binary_84 : decode cX8_binary 84 = .ok (.iadd, 1) := by decide +kernel
theorem dX8_binary_85 : decode cX8_binary 85 = .ok (.invokestatic 97, 3) := by decide +kernel
theorem dX8_binary_88 : decode cX8_binary 88 = .ok (.iload_n 3, 1) := by decide +kernel
theorem dX8_binary_89 : decode cX8_binary 89 = .ok (.iconst 4, 1) := by decide +kernel
theorem dX8_binary_90 : decode cX8_binary 90 = .ok (.isub, 1) := by decide +kernel
theorem dX8_binary_91 : decode cX8_binary 91 = .ok (.if_icmp .eq 12, 3) := by decide +kernel
theorem dX8_binary_94 : decode cX8_binary 94 = .ok (.aload_n 0, 1) := by decide +kernel
theorem dX8_binary_95 : decode cX8_binary 95 = .ok (.iconst 2, 1) := by decide +kernel
theorem dX8_binary_96 : decode cX8_binary 96 = .ok (.iload_n 1, 1) := by decide +kernel
theorem dX8_binary_97 : decode cX8_binary 97 = .ok (.iconst 5, 1) := by decide +kernel
theorem dX8_binary_98 : decode cX8_binary 98 = .ok (.iadd, 1) := by decide +kernel
theorem dX8_binary_99 : decode cX8_binary 99 = .ok (.invokevirtual 109, 3) := by decide +kernel
theorem dX8_binary_102 : decode cX8_binary 102 = .ok (.ireturn, 1) := by decide +kernel
theorem dX8_binary_103 : decode cX8_binary 103 = .ok (.iload_n 1, 1) := by decide +kernel
theorem dX8_binary_104 : decode cX8_binary 104 = .ok (.iconst 5, 1) := by decide +kernel
theorem dX8_binary_105 : decode cX8_binary 105 = .ok (.iadd, 1) := by decide +kernel
theorem dX8_binary_106 : decode cX8_binary 106 = .ok (.iload_n 3, 1) := by decide +kernel
theorem dX8_binary_107 : decode cX8_binary 107 = .ok (.iadd, 1) := by decide +kernel
theorem dX8_binary_108 : decode cX8_binary 108 = .ok (.ireturn, 1) := by decide +kernel
abbrev rm_X8_binary : Room := { frames := 2, cells := 0, slots := 0, locals := 45 }
def f_X8_binary_L103 (cy : Nat → ClassId) (a1 : Int32) (a3 : Int32) (μ : Mem) : Option (Int32 × Mem) :=
  some (((a1 + 5) + a3), μ)
set_option maxRecDepth 100000 in
set_option maxHeartbeats 4000000 in
theorem w_X8_binary_L103 {p : Program} {l : Launch} {e : Env} {s : State} {m : MethodId} {args : Array Value} {below : List Frame} {meth : Method} {c : Code} {A : Nat → Prop} {g : Wg} {L : List Nat} {r : Int32} {μ' : Mem} (hC : CX p m c cX8_binary 4 s args RX8) (hr : meth.sig.returnType = (some .int)) (hlocks : meth.locks = false) : ∀ (a1 : Int32) (a3 : Int32) (μ : Mem) (H : Heap) (locs : List Loc) (ls : Array Slot), lv_has ls 4 [(1, .int a1), (3, .int a3)] → PW g L μ A s H locs → f_X8_binary_L103 g.2 a1 a3 μ = some (r, μ') → W p l e rm_X8_binary s m args below meth c H locs 0 0 (MQ below (QI g L A r μ') args s 0 0 A) (F0 m 103 ls []) := by
  have hx := hC.1
  have hb := hC.2.1
  intro a1 a3 μ H locs ls hl hw hf
  unfold f_X8_binary_L103 at hf
  refine lv_iload_n hx hb dX8_binary_103 rfl (lv_at hl 0 rfl) ?_
  refine lv_iconst (v := 5) hx hb dX8_binary_104 nc_iconst_5 ?_
  refine lv_iadd hx hb dX8_binary_105 ?_
  refine lv_iload_n hx hb dX8_binary_106 rfl (lv_at hl 1 rfl) ?_
  refine lv_iadd hx hb dX8_binary_107 ?_
  obtain ⟨rfl, rfl⟩ := o_ret hf
  exact pw_iret hC hr hlocks hw dX8_binary_108
def f_X8_binary (cy : Nat → ClassId) (a0 : Nat) (a1 : Int32) (a2 : Int32) (μ : Mem) : Option (Int32 × Mem) :=
  if isO μ a0 7 = true then (ob2 (f_X8_some cy a0 a1 4 a2 μ) fun r4 μ3 => if 0 ≤ r4 then ((rdR μ3 a0 7 1).bind fun q6 => ob2 (f_X8_intAt cy q6 a1 μ3) fun r10 μ9 => if 0 ≤ r10 then (if (lg_cmp (((Int32.toInt64 a1) + (5 : Int64)) + (Int32.toInt64 r10)) (Int32.toInt64 a2)) ≤ 0 then ((rdR μ9 a0 7 1).bind fun q13 => (rdA cy μ9 0 q13 (a1 + 4)).bind fun v15 => if v15 = 2 then (if 4 ≤ r10 then ((rdR μ9 a0 7 1).bind fun q19 => ob2 (f_X8_intAt cy q19 (a1 + 5) μ9) fun r23 μ22 => if r23 = (r10 - 4) then (f_X8_binary_L103 cy a1 r10 μ22) else if isO μ22 a0 7 = true then (ob2 (f_X8_wrong cy a0 2 (a1 + 5) μ22) fun r28 μ27 => some (r28, μ27)) else none) else if isO μ9 a0 7 = true then (ob2 (f_X8_wrong cy a0 2 a1 μ9) fun r32 μ31 => some (r32, μ31)) else none) else f_X8_binary_L103 cy a1 r10 μ9) else if isO μ9 a0 7 = true then (ob2 (f_X8_wrong cy a0 1 a1 μ9) fun r36 μ35 => some (r36, μ35)) else none) else if isO μ9 a0 7 = true then (ob2 (f_X8_wrong cy a0 2 a1 μ9) fun r40 μ39 => some (r40, μ39)) else none) else some ((-1), μ3)) else none
set_option maxRecDepth 100000 in
set_option maxHeartbeats 4000000 in
theorem c_X8_binary {l : Launch} {g : Wg} {L : List Nat} {μ : Mem} {a0 : Nat} {a1 : Int32} {a2 : Int32} {r : Int32} {μ' : Mem} (hf : f_X8_binary g.2 a0 a1 a2 μ = some (r, μ')) : MetI l yX8_binary cX8_binary 4 (some .int) rm_X8_binary g L μ [.ref a0, .int a1, .int a2] r μ' := by
  refine pw_met (Qc := fun A => QI g L A r μ') (by decide) (Nat.le_of_ble_eq_true rfl) ?_
  intro p e s m args below meth c A ls H locs hC hr hlocks hl hw
  have hx := hC.1
  have hb := hC.2.1
  have hl : lv_has ls 4 [(0, .ref a0), (1, .int a1), (2, .int a2)] := hl
  unfold f_X8_binary at hf
  refine lv_aload_n hx hb dX8_binary_0 rfl (lv_at hl 0 rfl) ?_
  refine lv_iload_n hx hb dX8_binary_1 rfl (lv_at hl 1 rfl) ?_
  refine lv_iconst (v := 4) hx hb dX8_binary_2 nc_iconst_4 ?_
  refine lv_iload_n hx hb dX8_binary_3 rfl (lv_at hl 2 rfl) ?_
  obtain ⟨h2, hf⟩ := o_ite hf
  obtain ⟨r4, μ3, h1, hf⟩ := o_bind2 hf
  refine pw_goI hw (pw_runV (As := [.int a1, .int 4, .int a2]) (rest := []) hC mm_X8_some tw_1241 (c_X8_some h1 _) ⟨rfl, rfl, by decide, by decide⟩ hw h2 rfl hl.1 (Nat.le_of_ble_eq_true rfl) ⟨Nat.zero_le _, Nat.zero_le _⟩ rfl dX8_binary_4) (fun H locs hw => ?_)
  refine lv_if_ge (tgt := 12) hx hb dX8_binary_7 (by decide) (fun c5 => ?_) (fun c5 => ?_)
  · have hf := o_pos c5 hf
    refine lv_aload_n hx hb dX8_binary_12 rfl (lv_at hl 0 rfl) ?_
    obtain ⟨q6, h7, hf⟩ := o_bind hf
    refine pw_get hC fl_X8_13 hw (rdR_F h7) dX8_binary_13 ?_
    refine lv_iload_n hx hb dX8_binary_16 rfl (lv_at hl 1 rfl) ?_
    obtain ⟨r10, μ9, h8, hf⟩ := o_bind2 hf
    refine pw_goI hw (pw_runS (As := [.ref q6, .int a1]) (rest := []) hC mm_X8_intAt tw_1245 (c_X8_intAt h8 _) ⟨rfl, rfl, by decide, by decide⟩ hw rfl hl.1 (Nat.le_of_ble_eq_true rfl) ⟨Nat.zero_le _, Nat.zero_le _⟩ rfl dX8_binary_17) (fun H locs hw => ?_)
    refine lv_istore_n (lv' := [(3, .int r10), (0, .ref a0), (1, .int a1), (2, .int a2)]) hx hb dX8_binary_20 rfl hl (by decide) rfl (fun ls hl => ?_)
    refine lv_iload_n hx hb dX8_binary_21 rfl (lv_at hl 0 rfl) ?_
    refine lv_if_ge (tgt := 32) hx hb dX8_binary_22 (by decide) (fun c11 => ?_) (fun c11 => ?_)
    · have hf := o_pos c11 hf
      refine lv_iload_n hx hb dX8_binary_32 rfl (lv_at hl 2 rfl) ?_
      refine lv_i2l hx hb dX8_binary_33 rfl ?_
      refine lv_ldc2 (v := 5) hx hb hC.2.2.2.1 (hC.2.2.2.2 _ tw_1296) dX8_binary_34 ?_
      refine lv_ladd hx hb dX8_binary_37 ?_
      refine lv_iload_n hx hb dX8_binary_38 rfl (lv_at hl 0 rfl) ?_
      refine lv_i2l hx hb dX8_binary_39 rfl ?_
      refine lv_ladd hx hb dX8_binary_40 ?_
      refine lv_iload_n hx hb dX8_binary_41 rfl (lv_at hl 3 rfl) ?_
      refine lv_i2l hx hb dX8_binary_42 rfl ?_
      refine W.lcmp hx hb dX8_binary_43 ?_
      refine lv_if_le (tgt := 54) hx hb dX8_binary_44 (by decide) (fun c12 => ?_) (fun c12 => ?_)
      · have hf := o_pos c12 hf
        refine lv_aload_n hx hb dX8_binary_54 rfl (lv_at hl 1 rfl) ?_
        obtain ⟨q13, h14, hf⟩ := o_bind hf
        refine pw_get hC fl_X8_13 hw (rdR_F h14) dX8_binary_55 ?_
        refine lv_iload_n hx hb dX8_binary_58 rfl (lv_at hl 2 rfl) ?_
        refine lv_iconst (v := 4) hx hb dX8_binary_59 nc_iconst_4 ?_
        refine lv_iadd hx hb dX8_binary_60 ?_
        obtain ⟨v15, h16, hf⟩ := o_bind hf
        refine pw_bald hC hw h16 dX8_binary_61 ?_
        refine lv_iconst (v := 2) hx hb dX8_binary_62 nc_iconst_2 ?_
        refine lv_icmp_ne (tgt := 103) hx hb dX8_binary_63 (by decide) (fun c17 => ?_) (fun c17 => ?_)
        · have hf := o_neg c17 hf
          exact w_X8_binary_L103 hC hr hlocks _ _ _ _ _ ls (lv_sub hl [2, 0] rfl) hw hf
        · have hf := o_pos c17 hf
          refine lv_iload_n hx hb dX8_binary_66 rfl (lv_at hl 0 rfl) ?_
          refine lv_iconst (v := 4) hx hb dX8_binary_67 nc_iconst_4 ?_
          refine lv_icmp_ge (tgt := 78) hx hb dX8_binary_68 (by decide) (fun c18 => ?_) (fun c18 => ?_)
          · have hf := o_pos c18 hf
            refine lv_aload_n hx hb dX8_binary_78 rfl (lv_at hl 1 rfl) ?_
            obtain ⟨q19, h20, hf⟩ := o_bind hf
            refine pw_get hC fl_X8_13 hw (rdR_F h20) dX8_binary_79 ?_
            refine lv_iload_n hx hb dX8_binary_82 rfl (lv_at hl 2 rfl) ?_
            refine lv_iconst (v := 5) hx hb dX8_binary_83 nc_iconst_5 ?_
            refine lv_iadd hx hb dX8_binary_84 ?_
            obtain ⟨r23, μ22, h21, hf⟩ := o_bind2 hf
            refine pw_goI hw (pw_runS (As := [.ref q19, .int (a1 + 5)]) (rest := []) hC mm_X8_intAt tw_1245 (c_X8_intAt h21 _) ⟨rfl, rfl, by decide, by decide⟩ hw rfl hl.1 (Nat.le_of_ble_eq_true rfl) ⟨Nat.zero_le _, Nat.zero_le _⟩ rfl dX8_binary_85) (fun H locs hw => ?_)
            refine lv_iload_n hx hb dX8_binary_88 rfl (lv_at hl 0 rfl) ?_
            refine lv_iconst (v := 4) hx hb dX8_binary_89 nc_iconst_4 ?_
            refine lv_isub hx hb dX8_binary_90 ?_
            refine lv_icmp_eq (tgt := 103) hx hb dX8_binary_91 (by decide) (fun c24 => ?_) (fun c24 => ?_)
            · have hf := o_pos c24 hf
              exact w_X8_binary_L103 hC hr hlocks _ _ _ _ _ ls (lv_sub hl [2, 0] rfl) hw hf
            · have hf := o_neg c24 hf
              refine lv_aload_n hx hb dX8_binary_94 rfl (lv_at hl 1 rfl) ?_
              refine lv_iconst (v := 2) hx hb dX8_binary_95 nc_iconst_2 ?_
              refine lv_iload_n hx hb dX8_binary_96 rfl (lv_at hl 2 rfl) ?_
              refine lv_iconst (v := 5) hx hb dX8_binary_97 nc_iconst_5 ?_
              refine lv_iadd hx hb dX8_binary_98 ?_
              obtain ⟨h26, hf⟩ := o_ite hf
              obtain ⟨r28, μ27, h25, hf⟩ := o_bind2 hf
              refine pw_goI hw (pw_runV (As := [.int 2, .int (a1 + 5)]) (rest := []) hC mm_X8_wrong tw_1237 (c_X8_wrong h25 _) ⟨rfl, rfl, by decide, by decide⟩ hw h26 rfl hl.1 (Nat.le_of_ble_eq_true rfl) ⟨Nat.zero_le _, Nat.zero_le _⟩ rfl dX8_binary_99) (fun H locs hw => ?_)
              obtain ⟨rfl, rfl⟩ := o_ret hf
              exact pw_iret hC hr hlocks hw dX8_binary_102
          · have hf := o_neg c18 hf
            refine lv_aload_n hx hb dX8_binary_71 rfl (lv_at hl 1 rfl) ?_
            refine lv_iconst (v := 2) hx hb dX8_binary_72 nc_iconst_2 ?_
            refine lv_iload_n hx hb dX8_binary_73 rfl (lv_at hl 2 rfl) ?_
            obtain ⟨h30, hf⟩ := o_ite hf
            obtain ⟨r32, μ31, h29, hf⟩ := o_bind2 hf
            refine pw_goI hw (pw_runV (As := [.int 2, .int a1]) (rest := []) hC mm_X8_wrong tw_1237 (c_X8_wrong h29 _) ⟨rfl, rfl, by decide, by decide⟩ hw h30 rfl hl.1 (Nat.le_of_ble_eq_true rfl) ⟨Nat.zero_le _, Nat.zero_le _⟩ rfl dX8_binary_74) (fun H locs hw => ?_)
            obtain ⟨rfl, rfl⟩ := o_ret hf
            exact pw_iret hC hr hlocks hw dX8_binary_77
      · have hf := o_neg c12 hf
        refine lv_aload_n hx hb dX8_binary_47 rfl (lv_at hl 1 rfl) ?_
        refine lv_iconst (v := 1) hx hb dX8_binary_48 nc_iconst_1 ?_
        refine lv_iload_n hx hb dX8_binary_49 rfl (lv_at hl 2 rfl) ?_
        obtain ⟨h34, hf⟩ := o_ite hf
        obtain ⟨r36, μ35, h33, hf⟩ := o_bind2 hf
        refine pw_goI hw (pw_runV (As := [.int 1, .int a1]) (rest := []) hC mm_X8_wrong tw_1237 (c_X8_wrong h33 _) ⟨rfl, rfl, by decide, by decide⟩ hw h34 rfl hl.1 (Nat.le_of_ble_eq_true rfl) ⟨Nat.zero_le _, Nat.zero_le _⟩ rfl dX8_binary_50) (fun H locs hw => ?_)
        obtain ⟨rfl, rfl⟩ := o_ret hf
        exact pw_iret hC hr hlocks hw dX8_binary_53
    · have hf := o_neg c11 hf
      refine lv_aload_n hx hb dX8_binary_25 rfl (lv_at hl 1 rfl) ?_
      refine lv_iconst (v := 2) hx hb dX8_binary_26 nc_iconst_2 ?_
      refine lv_iload_n hx hb dX8_binary_27 rfl (lv_at hl 2 rfl) ?_
      obtain ⟨h38, hf⟩ := o_ite hf
      obtain ⟨r40, μ39, h37, hf⟩ := o_bind2 hf
      refine pw_goI hw (pw_runV (As := [.int 2, .int a1]) (rest := []) hC mm_X8_wrong tw_1237 (c_X8_wrong h37 _) ⟨rfl, rfl, by decide, by decide⟩ hw h38 rfl hl.1 (Nat.le_of_ble_eq_true rfl) ⟨Nat.zero_le _, Nat.zero_le _⟩ rfl dX8_binary_28) (fun H locs hw => ?_)
      obtain ⟨rfl, rfl⟩ := o_ret hf
      exact pw_iret hC hr hlocks hw dX8_binary_31
  · have hf := o_neg c5 hf
    refine lv_iconst (v := (-1)) hx hb dX8_binary_10 nc_iconst_m1 ?_
    obtain ⟨rfl, rfl⟩ := o_ret hf
    exact pw_iret hC hr hlocks hw dX8_binary_11
abbrev rm_MD (d : Nat) : Room := { frames := 3 + d, cells := 0, slots := 0, locals := 75 + 28 * d }
theorem fit_MD (d : Nat) {nL : Nat} (h : nL ≤ 9) : fitR (rm_MD (d + 1)) (rm_MD d) nL := ⟨rfl, rfl, by show 3 + d + 1 ≤ 3 + (d + 1); omega, by show 8 + (nL + 11) + (75 + 28 * d) ≤ 75 + 28 * (d + 1); omega⟩
theorem fio_MD (d : Nat) {rm : Room} {nL : Nat} (h : rm.cells = 0 ∧ rm.slots = 0 ∧ rm.frames + 1 ≤ 3 ∧ 8 + (nL + 11) + rm.locals ≤ 75) : fitR (rm_MD (d + 1)) rm nL := ⟨h.1, h.2.1, by have := h.2.2.1; show rm.frames + 1 ≤ 3 + (d + 1); omega, by have := h.2.2.2; show 8 + (nL + 11) + rm.locals ≤ 75 + 28 * (d + 1); omega⟩
theorem fim_MD (d : Nat) : 1 ≤ (rm_MD (d + 1)).frames ∧ 40 ≤ (rm_MD (d + 1)).locals := ⟨by show 1 ≤ 3 + (d + 1); omega, by show 40 ≤ 75 + 28 * (d + 1); omega⟩
theorem dX8_document_0 : decode cX8_document 0 = .ok (.iload_n 3, 1) := by decide +kernel
theorem dX8_document_1 : decode cX8_document 1 = .ok (.bipush 24, 2) := by decide +kernel
theorem dX8_document_3 : decode cX8_document 3 = .ok (.if_icmp .le 11, 3) := by decide +kernel
theorem dX8_document_6 : decode cX8_document 6 = .ok (.aload_n 0, 1) := by decide +kernel
theorem dX8_document_7 : decode cX8_document 7 = .ok (.bipush 8, 2) := by decide +kernel
theorem dX8_document_9 : decode cX8_document 9 = .ok (.iload_n 1, 1) := by decide +kernel
theorem dX8_document_10 : decode cX8_document 10 = .ok (.invokevirtual 109, 3) := by decide +kernel
theorem dX8_document_13 : decode cX8_document 13 = .ok (.ireturn, 1) := by decide +kernel
theorem dX8_document_14 : decode cX8_document 14 = .ok (.aload_n 0, 1) := by decide +kernel
theorem dX8_document_15 : decode cX8_document 15 = .ok (.iload_n 1, 1) := by decide +kernel
theorem dX8_document_16 : decode cX8_document 16 = .ok (.iconst 4, 1) := by decide +kernel
theorem dX8_document_17 : decode cX8_document 17 = .ok (.iload_n 2, 1) := by decide +kernel
theorem dX8_document_18 : decode cX8_document 18 = .ok (.invokevirtual 135, 3) := by decide +kernel
theorem dX8_document_21 : decode cX8_document 21 = .ok (.ifCond .ge 5, 3) := by decide +kernel
theorem dX8_document_24 : decode cX8_document 24 = .ok (.iconst (-1), 1) := by decide +kernel
theorem dX8_document_25 : decode cX8_document 25 = .ok (.ireturn, 1) := by decide +kernel
theorem dX8_document_26 : decode cX8_document 26 = .ok (.aload_n 0, 1) := by decide +kernel
theorem dX8_document_27 : decode cX8_document 27 = .ok (.getfield 13, 3) := by decide +kernel
theorem dX8_document_30 : decode cX8_document 30 = .ok (.iload_n 1, 1) := by decide +kernel
theorem dX8_document_31 : decode cX8_document 31 = .ok (.invokestatic 97, 3) := by decide +kernel
theorem dX8_document_34 : decode cX8_document 34 = .ok (.istore 5, 2) := by decide +kernel
theorem dX8_document_36 : decode cX8_document 36 = .ok (.iload 5, 2) := by decide +kernel
theorem dX8_document_38 : decode cX8_document 38 = .ok (.iconst 5, 1) := by decide +kernel
theorem dX8_document_39 : decode cX8_document 39 = .ok (.if_icmp .ge 10, 3) := by decide +kernel
theorem dX8_document_42 : decode cX8_document 42 = .ok (.aload_n 0, 1) := by decide +kernel
theorem dX8_document_43 : decode cX8_document 43 = .ok (.iconst 2, 1) := by decide +kernel
theorem dX8_document_44 : decode cX8_document 44 = .ok (.iload_n 1, 1) := by decide +kernel
theorem dX8_document_45 : decode cX8_document 45 = .ok (.invokevirtual 109, 3) := by decide +kernel
theorem dX8_document_48 : decode cX8_document 48 = .ok (.ireturn, 1) := by decide +kernel
theorem dX8_document_49 : decode cX8_document 49 = .ok (.iload_n 1, 1) := by decide +kernel
theorem dX8_document_50 : decode cX8_document 50 = .ok (.i2l, 1) := by decide +kernel
theorem dX8_document_51 : decode cX8_document 51 = .ok (.iload 5, 2) := by decide +kernel
theorem dX8_document_53 : decode cX8_document 53 = .ok (.i2l, 1) := by decide +kernel
theorem dX8_document_54 : decode cX8_document 54 = .ok (.ladd, 1) := by decide +kernel
theorem dX8_document_55 : decode cX8_document 55 = .ok (.iload_n 2, 1) := by decide +kernel
theorem dX8_document_56 : decode cX8_document 56 = .ok (.i2l, 1) := by decide +kernel
theorem dX8_document_57 : decode cX8_document 57 = .ok (.lcmp, 1) := by decide +kernel
theorem dX8_document_58 : decode cX8_document 58 = .ok (.ifCond .le 10, 3) := by decide +kernel
theorem dX8_document_61 : decode cX8_document 61 = .ok (.aload_n 0, 1) := by decide +kernel
theorem dX8_document_62 : decode cX8_document 62 = .ok (.iconst 1, 1) := by decide +kernel
theorem dX8_document_63 : decode cX8_document 63 = .ok (.iload_n 1, 1) := by decide +kernel
theorem dX8_document_64 : decode cX8_document 64 = .ok (.invokevirtual 109, 3) := by decide +kernel
theorem dX8_document_67 : decode cX8_document 67 = .ok (.ireturn, 1) := by decide +kernel
theorem dX8_document_68 : decode cX8_document 68 = .ok (.iload_n 1, 1) := by decide +kernel
theorem dX8_document_69 : decode cX8_document 69 = .ok (.iload 5, 2) := by decide +kernel
theorem dX8_document_71 : decode cX8_document 71 = .ok (.iadd, 1) := by decide +kernel
theorem dX8_document_72 : decode cX8_document 72 = .ok (.iconst 1, 1) := by decide +kernel
theorem dX8_document_73 : decode cX8_document 73 = .ok (.isub, 1) := by decide +kernel
theorem dX8_document_74 : decode cX8_document 74 = .ok (.istore 6, 2) := by decide +kernel
theorem dX8_document_76 : decode cX8_document 76 = .ok (.iload_n 1, 1) := by decide +kernel
theorem dX8_document_77 : decode cX8_document 77 = .ok (.iconst 4, 1) := by decide +kernel
theorem dX8_document_78 : decode cX8_document 78 = .ok (.iadd, 1) := by decide +kernel
theorem dX8_document_79 : decode cX8_document 79 = .ok (.istore 7, 2) := by decide +kernel
theorem dX8_document_81 : decode cX8_document 81 = .ok (.iconst 0, 1) := by decide +kernel
theorem dX8_document_82 : decode cX8_document 82 = .ok (.istore 8, 2) := by decide +kernel
theorem dX8_document_84 : decode cX8_document 84 = .ok (.iload 7, 2) := by decide +kernel
theorem dX8_document_86 : decode cX8_document 86 = .ok (.iload 6, 2) := by decide +kernel
theorem dX8_document_88 : decode cX8_document 88 = .ok (.if_icmp .ge 38, 3) := by decide +kernel
theorem dX8_document_91 : decode cX8_document 91 = .ok (.aload_n 0, 1) := by decide +kernel
theorem dX8_document_92 : decode cX8_document 92 = .ok (.iload 7, 2) := by decide +kernel
theorem dX8_document_94 : decode cX8_document 94 = .ok (.iload 6, 2) := by decide +kernel
theorem dX8_document_96 : decode cX8_document 96 = .ok (.iload_n 3, 1) := by decide +kernel
theorem dX8_document_97 : decode cX8_document 97 = .ok (.iload 4, 2) := by decide +kernel
theorem dX8_document_99 : decode cX8_document 99 = .ok (.ifCond .eq 8, 3) := by decide +kernel
theorem dX8_document_102 : decode cX8_document 102 = .ok (.iload 8, 2) := by decide +kernel
theorem dX8_document_104 : decode cX8_document 104 = .ok (.goto 4, 3) := by decide +kernel
theorem dX8_document_107 : decode cX8_document 107 = .ok (.iconst (-1), 1) := by decide +kernel
theorem dX8_document_108 : decode cX8_document 108 = .ok (.invokevirtual 141, 3) := by decide +kernel
theorem dX8_document_111 : decode cX8_document 111 = .ok (.istore 7, 2) := by decide +kernel
theorem dX8_document_113 : decode cX8_document 113 = .ok (.iload 7, 2) := by decide +kernel
theorem dX8_document_115 : decode cX8_document 115 = .ok (.ifCond .ge 5, 3) := by decide +kernel
theorem dX8_document_118 : decode cX8_document 118 = .ok (.iconst (-1), 1) := by decide +kernel
theorem dX8_document_119 : decode cX8_document 119 = .ok (.ireturn, 1) := by decide +kernel
theorem dX8_document_120 : decode cX8_document 120 = .ok (.iinc 8 1, 3) := by decide +kernel
theorem dX8_document_123 : decode cX8_document 123 = .ok (.goto (-39), 3) := by decide +kernel
theorem dX8_document_126 : decode cX8_document 126 = .ok (.aload_n 0, 1) := by decide +kernel
theorem dX8_document_127 : decode cX8_document 127 = .ok (.getfield 13, 3) := by decide +kernel
theorem dX8_document_130 : decode cX8_document 130 = .ok (.iload 6, 2) := by decide +kernel
theorem dX8_document_132 : decode cX8_document 132 = .ok (.baload, 1) := by decide +kernel
theorem dX8_document_133 : decode cX8_document 133 = .ok (.ifCond .eq 13, 3) := by decide +kernel
theorem dX8_document_136 : decode cX8_document 136 = .ok (.aload_n 0, 1) := by decide +kernel
theorem dX8_document_137 : decode cX8_document 137 = .ok (.iconst 4, 1) := by decide +kernel
theorem dX8_document_138 : decode cX8_document 138 = .ok (.iload 6, 2) := by decide +kernel
theorem dX8_document_140 : decode cX8_document 140 = .ok (.invokevirtual 109, 3) := by decide +kernel
theorem dX8_document_143 : decode cX8_document 143 = .ok (.goto 7, 3) := by decide +kernel
theorem dX8_document_146 : decode cX8_document 146 = .ok (.iload 6, 2) := by decide +kernel
theorem dX8_document_148 : decode cX8_document 148 = .ok (.iconst 1, 1) := by decide +kernel
theorem dX8_document_149 : decode cX8_document 149 = .ok (.iadd, 1) := by decide +kernel
theorem dX8_document_150 : decode cX8_document 150 = .ok (.ireturn, 1) := by decide +kernel
def f_X8_document_L108 (cy : Nat → ClassId) (r_X8_element : Nat → Int32 → Int32 → Int32 → Int32 → Mem → Option (Int32 × Mem)) (k84 : Nat → Int32 → Int32 → Int32 → Int32 → Int32 → Mem → Option (Int32 × Mem)) (a0 : Nat) (a3 : Int32) (a4 : Int32) (a6 : Int32) (a8 : Int32) (t0 : Nat) (t1 : Int32) (t2 : Int32) (t3 : Int32) (t4 : Int32) (μ : Mem) : Option (Int32 × Mem) :=
  if isO μ t0 7 = true then (ob2 (r_X8_element t0 t1 t2 t3 t4 μ) fun r104 μ103 => if 0 ≤ r104 then (k84 a0 a3 a4 a6 r104 (a8 + 1) μ103) else some ((-1), μ103)) else none
set_option maxRecDepth 100000 in
set_option maxHeartbeats 4000000 in
theorem w_X8_document_L108 {p : Program} {l : Launch} {e : Env} {s : State} {m : MethodId} {args : Array Value} {below : List Frame} {meth : Method} {c : Code} {A : Nat → Prop} {g : Wg} {L : List Nat} {r : Int32} {μ' : Mem} (hC : CX p m c cX8_document 9 s args RX8) (hr : meth.sig.returnType = (some .int)) (hlocks : meth.locks = false) {d : Nat} {r_X8_element : Nat → Int32 → Int32 → Int32 → Int32 → Mem → Option (Int32 × Mem)} (hr_X8_element : ∀ {a0 : Nat} {a1 : Int32} {a2 : Int32} {a3 : Int32} {a4 : Int32} {μ : Mem} {r9 : Int32} {μ9 : Mem}, r_X8_element a0 a1 a2 a3 a4 μ = some (r9, μ9) → MetI l yX8_element cX8_element 7 (some .int) (rm_MD d) g L μ [.ref a0, .int a1, .int a2, .int a3, .int a4] r9 μ9) {k84 : Nat → Int32 → Int32 → Int32 → Int32 → Int32 → Mem → Option (Int32 × Mem)} (hk84 : ∀ (a0 : Nat) (a3 : Int32) (a4 : Int32) (a6 : Int32) (a7 : Int32) (a8 : Int32) (μ : Mem) (H : Heap) (locs : List Loc) (ls : Array Slot), lv_has ls 9 [(0, .ref a0), (3, .int a3), (4, .int a4), (6, .int a6), (7, .int a7), (8, .int a8)] → PW g L μ A s H locs → k84 a0 a3 a4 a6 a7 a8 μ = some (r, μ') → W p l e (rm_MD (d + 1)) s m args below meth c H locs 0 0 (MQ below (QI g L A r μ') args s 0 0 A) (F0 m 84 ls [])) : ∀ (a0 : Nat) (a3 : Int32) (a4 : Int32) (a6 : Int32) (a8 : Int32) (t0 : Nat) (t1 : Int32) (t2 : Int32) (t3 : Int32) (t4 : Int32) (μ : Mem) (H : Heap) (locs : List Loc) (ls : Array Slot), lv_has ls 9 [(0, .ref a0), (3, .int a3), (4, .int a4), (6, .int a6), (8, .int a8)] → PW g L μ A s H locs → f_X8_document_L108 g.2 r_X8_element k84 a0 a3 a4 a6 a8 t0 t1 t2 t3 t4 μ = some (r, μ') → W p l e (rm_MD (d + 1)) s m args below meth c H locs 0 0 (MQ below (QI g L A r μ') args s 0 0 A) (F0 m 108 ls [.int t4, .int t3, .int t2, .int t1, .ref t0]) := by
  have hx := hC.1
  have hb := hC.2.1
  intro a0 a3 a4 a6 a8 t0 t1 t2 t3 t4 μ H locs ls hl hw hf
  unfold f_X8_document_L108 at hf
  obtain ⟨h102, hf⟩ := o_ite hf
  obtain ⟨r104, μ103, h101, hf⟩ := o_bind2 hf
  refine pw_goI hw (pw_runV (As := [.int t1, .int t2, .int t3, .int t4]) (rest := []) hC mm_X8_element tw_1248 (hr_X8_element h101 _) (fit_MD d (by decide)) hw h102 rfl hl.1 (Nat.le_of_ble_eq_true rfl) ⟨Nat.zero_le _, Nat.zero_le _⟩ rfl dX8_document_108) (fun H locs hw => ?_)
  refine lv_istore (lv' := [(7, .int r104), (0, .ref a0), (3, .int a3), (4, .int a4), (6, .int a6), (8, .int a8)]) hx hb dX8_document_111 hl (by decide) rfl (fun ls hl => ?_)
  refine lv_iload hx hb dX8_document_113 (lv_at hl 0 rfl) ?_
  refine lv_if_ge (tgt := 120) hx hb dX8_document_115 (by decide) (fun c105 => ?_) (fun c105 => ?_)
  · have hf := o_pos c105 hf
    refine lv_iinc (v := (a8 + 1)) (lv' := [(8, .int (a8 + 1)), (7, .int r104), (0, .ref a0), (3, .int a3), (4, .int a4), (6, .int a6)]) hx hb dX8_document_120 hl (k := 5) rfl (by first | rfl | decide +kernel) (by decide) rfl (fun ls hl => ?_)
    refine lv_goto (tgt := 84) hx hb dX8_document_123 (by decide) ?_
    exact hk84 _ _ _ _ _ _ _ _ _ ls (lv_sub hl [2, 3, 4, 5, 1, 0] rfl) hw hf
  · have hf := o_neg c105 hf
    refine lv_iconst (v := (-1)) hx hb dX8_document_118 nc_iconst_m1 ?_
    obtain ⟨rfl, rfl⟩ := o_ret hf
    exact pw_iret hC hr hlocks hw dX8_document_119
def f_X8_document_L84 (cy : Nat → ClassId) (r_X8_element : Nat → Int32 → Int32 → Int32 → Int32 → Mem → Option (Int32 × Mem)) : Nat → Nat → Int32 → Int32 → Int32 → Int32 → Int32 → Mem → Option (Int32 × Mem)
  | 0, _, _, _, _, _, _, _ => none
  | n + 1, a0, a3, a4, a6, a7, a8, μ => if a6 ≤ a7 then ((rdR μ a0 7 1).bind fun q102 => (rdA cy μ 0 q102 a6).bind fun v104 => if v104 = 0 then (some ((a6 + 1), μ)) else if isO μ a0 7 = true then (ob2 (f_X8_wrong cy a0 4 a6 μ) fun r110 μ109 => some (r110, μ109)) else none) else if a4 = 0 then (f_X8_document_L108 cy r_X8_element (f_X8_document_L84 cy r_X8_element n) a0 a3 a4 a6 a8 a0 a7 a6 a3 (-1) μ) else f_X8_document_L108 cy r_X8_element (f_X8_document_L84 cy r_X8_element n) a0 a3 a4 a6 a8 a0 a7 a6 a3 a8 μ
set_option maxRecDepth 100000 in
set_option maxHeartbeats 4000000 in
theorem w_X8_document_L84 {p : Program} {l : Launch} {e : Env} {s : State} {m : MethodId} {args : Array Value} {below : List Frame} {meth : Method} {c : Code} {A : Nat → Prop} {g : Wg} {L : List Nat} {r : Int32} {μ' : Mem} (hC : CX p m c cX8_document 9 s args RX8) (hr : meth.sig.returnType = (some .int)) (hlocks : meth.locks = false) {d : Nat} {r_X8_element : Nat → Int32 → Int32 → Int32 → Int32 → Mem → Option (Int32 × Mem)} (hr_X8_element : ∀ {a0 : Nat} {a1 : Int32} {a2 : Int32} {a3 : Int32} {a4 : Int32} {μ : Mem} {r9 : Int32} {μ9 : Mem}, r_X8_element a0 a1 a2 a3 a4 μ = some (r9, μ9) → MetI l yX8_element cX8_element 7 (some .int) (rm_MD d) g L μ [.ref a0, .int a1, .int a2, .int a3, .int a4] r9 μ9) : ∀ (n : Nat), ∀ (a0 : Nat) (a3 : Int32) (a4 : Int32) (a6 : Int32) (a7 : Int32) (a8 : Int32) (μ : Mem) (H : Heap) (locs : List Loc) (ls : Array Slot), lv_has ls 9 [(0, .ref a0), (3, .int a3), (4, .int a4), (6, .int a6), (7, .int a7), (8, .int a8)] → PW g L μ A s H locs → f_X8_document_L84 g.2 r_X8_element n a0 a3 a4 a6 a7 a8 μ = some (r, μ') → W p l e (rm_MD (d + 1)) s m args below meth c H locs 0 0 (MQ below (QI g L A r μ') args s 0 0 A) (F0 m 84 ls []) := by
  have hx := hC.1
  have hb := hC.2.1
  intro n
  induction n with
  | zero => intro a0 a3 a4 a6 a7 a8 μ H locs ls hl hw hf; cases hf
  | succ n ih =>
    intro a0 a3 a4 a6 a7 a8 μ H locs ls hl hw hf
    rw [f_X8_document_L84] at hf
    refine lv_iload hx hb dX8_document_84 (lv_at hl 4 rfl) ?_
    refine lv_iload hx hb dX8_document_86 (lv_at hl 3 rfl) ?_
    refine lv_icmp_ge (tgt := 126) hx hb dX8_document_88 (by decide) (fun c101 => ?_) (fun c101 => ?_)
    · have hf := o_pos c101 hf
      refine lv_aload_n hx hb dX8_document_126 rfl (lv_at hl 0 rfl) ?_
      obtain ⟨q102, h103, hf⟩ := o_bind hf
      refine pw_get hC fl_X8_13 hw (rdR_F h103) dX8_document_127 ?_
      refine lv_iload hx hb dX8_document_130 (lv_at hl 3 rfl) ?_
      obtain ⟨v104, h105, hf⟩ := o_bind hf
      refine pw_bald hC hw h105 dX8_document_132 ?_
      refine lv_if_eq (tgt := 146) hx hb dX8_document_133 (by decide) (fun c106 => ?_) (fun c106 => ?_)
      · have hf := o_pos c106 hf
        refine lv_iload hx hb dX8_document_146 (lv_at hl 3 rfl) ?_
        refine lv_iconst (v := 1) hx hb dX8_document_148 nc_iconst_1 ?_
        refine lv_iadd hx hb dX8_document_149 ?_
        obtain ⟨rfl, rfl⟩ := o_ret hf
        exact pw_iret hC hr hlocks hw dX8_document_150
      · have hf := o_neg c106 hf
        refine lv_aload_n hx hb dX8_document_136 rfl (lv_at hl 0 rfl) ?_
        refine lv_iconst (v := 4) hx hb dX8_document_137 nc_iconst_4 ?_
        refine lv_iload hx hb dX8_document_138 (lv_at hl 3 rfl) ?_
        obtain ⟨h108, hf⟩ := o_ite hf
        obtain ⟨r110, μ109, h107, hf⟩ := o_bind2 hf
        refine pw_goI hw (pw_runV (As := [.int 4, .int a6]) (rest := []) hC mm_X8_wrong tw_1237 (c_X8_wrong h107 _) (fio_MD d (by decide)) hw h108 rfl hl.1 (Nat.le_of_ble_eq_true rfl) ⟨Nat.zero_le _, Nat.zero_le _⟩ rfl dX8_document_140) (fun H locs hw => ?_)
        refine lv_goto (tgt := 150) hx hb dX8_document_143 (by decide) ?_
        obtain ⟨rfl, rfl⟩ := o_ret hf
        exact pw_iret hC hr hlocks hw dX8_document_150
    · have hf := o_neg c101 hf
      refine lv_aload_n hx hb dX8_document_91 rfl (lv_at hl 0 rfl) ?_
      refine lv_iload hx hb dX8_document_92 (lv_at hl 4 rfl) ?_
      refine lv_iload hx hb dX8_document_94 (lv_at hl 3 rfl) ?_
      refine lv_iload_n hx hb dX8_document_96 rfl (lv_at hl 1 rfl) ?_
      refine lv_iload hx hb dX8_document_97 (lv_at hl 2 rfl) ?_
      refine lv_if_eq (tgt := 107) hx hb dX8_document_99 (by decide) (fun c111 => ?_) (fun c111 => ?_)
      · have hf := o_pos c111 hf
        refine lv_iconst (v := (-1)) hx hb dX8_document_107 nc_iconst_m1 ?_
        exact w_X8_document_L108 hC hr hlocks hr_X8_element ih _ _ _ _ _ _ _ _ _ _ _ _ _ ls (lv_sub hl [0, 1, 2, 3, 5] rfl) hw hf
      · have hf := o_neg c111 hf
        refine lv_iload hx hb dX8_document_102 (lv_at hl 5 rfl) ?_
        refine lv_goto (tgt := 108) hx hb dX8_document_104 (by decide) ?_
        exact w_X8_document_L108 hC hr hlocks hr_X8_element ih _ _ _ _ _ _ _ _ _ _ _ _ _ ls (lv_sub hl [0, 1, 2, 3, 5] rfl) hw hf
def fo_X8_document (cy : Nat → ClassId) (r_X8_element : Nat → Int32 → Int32 → Int32 → Int32 → Mem → Option (Int32 × Mem)) (a0 : Nat) (a1 : Int32) (a2 : Int32) (a3 : Int32) (a4 : Int32) (μ : Mem) : Option (Int32 × Mem) :=
  if a3 ≤ 24 then (if isO μ a0 7 = true then (ob2 (f_X8_some cy a0 a1 4 a2 μ) fun r5 μ4 => if 0 ≤ r5 then ((rdR μ4 a0 7 1).bind fun q7 => ob2 (f_X8_intAt cy q7 a1 μ4) fun r11 μ10 => if 5 ≤ r11 then (if (lg_cmp ((Int32.toInt64 a1) + (Int32.toInt64 r11)) (Int32.toInt64 a2)) ≤ 0 then (f_X8_document_L84 cy r_X8_element FU a0 a3 a4 ((a1 + r11) - 1) (a1 + 4) 0 μ10) else if isO μ10 a0 7 = true then (ob2 (f_X8_wrong cy a0 1 a1 μ10) fun r17 μ16 => some (r17, μ16)) else none) else if isO μ10 a0 7 = true then (ob2 (f_X8_wrong cy a0 2 a1 μ10) fun r21 μ20 => some (r21, μ20)) else none) else some ((-1), μ4)) else none) else if isO μ a0 7 = true then (ob2 (f_X8_wrong cy a0 8 a1 μ) fun r25 μ24 => some (r25, μ24)) else none
set_option maxRecDepth 100000 in
set_option maxHeartbeats 4000000 in
theorem co_X8_document {l : Launch} {g : Wg} {L : List Nat} {d : Nat} {r_X8_element : Nat → Int32 → Int32 → Int32 → Int32 → Mem → Option (Int32 × Mem)} (hr_X8_element : ∀ {a0 : Nat} {a1 : Int32} {a2 : Int32} {a3 : Int32} {a4 : Int32} {μ : Mem} {r9 : Int32} {μ9 : Mem}, r_X8_element a0 a1 a2 a3 a4 μ = some (r9, μ9) → MetI l yX8_element cX8_element 7 (some .int) (rm_MD d) g L μ [.ref a0, .int a1, .int a2, .int a3, .int a4] r9 μ9) {μ : Mem} {a0 : Nat} {a1 : Int32} {a2 : Int32} {a3 : Int32} {a4 : Int32} {r : Int32} {μ' : Mem} (hf : fo_X8_document g.2 r_X8_element a0 a1 a2 a3 a4 μ = some (r, μ')) : MetI l yX8_document cX8_document 9 (some .int) (rm_MD (d + 1)) g L μ [.ref a0, .int a1, .int a2, .int a3, .int a4] r μ' := by
  refine pw_met (Qc := fun A => QI g L A r μ') (by decide) (Nat.le_of_ble_eq_true rfl) ?_
  intro p e s m args below meth c A ls H locs hC hr hlocks hl hw
  have hx := hC.1
  have hb := hC.2.1
  have hl : lv_has ls 9 [(0, .ref a0), (1, .int a1), (2, .int a2), (3, .int a3), (4, .int a4)] := hl
  unfold fo_X8_document at hf
  refine lv_iload_n hx hb dX8_document_0 rfl (lv_at hl 3 rfl) ?_
  refine lv_bipush (v := 24) hx hb dX8_document_1 nc_bipush_24 ?_
  refine lv_icmp_le (tgt := 14) hx hb dX8_document_3 (by decide) (fun c1 => ?_) (fun c1 => ?_)
  · have hf := o_pos c1 hf
    refine lv_aload_n hx hb dX8_document_14 rfl (lv_at hl 0 rfl) ?_
    refine lv_iload_n hx hb dX8_document_15 rfl (lv_at hl 1 rfl) ?_
    refine lv_iconst (v := 4) hx hb dX8_document_16 nc_iconst_4 ?_
    refine lv_iload_n hx hb dX8_document_17 rfl (lv_at hl 2 rfl) ?_
    obtain ⟨h3, hf⟩ := o_ite hf
    obtain ⟨r5, μ4, h2, hf⟩ := o_bind2 hf
    refine pw_goI hw (pw_runV (As := [.int a1, .int 4, .int a2]) (rest := []) hC mm_X8_some tw_1241 (c_X8_some h2 _) (fio_MD d (by decide)) hw h3 rfl hl.1 (Nat.le_of_ble_eq_true rfl) ⟨Nat.zero_le _, Nat.zero_le _⟩ rfl dX8_document_18) (fun H locs hw => ?_)
    refine lv_if_ge (tgt := 26) hx hb dX8_document_21 (by decide) (fun c6 => ?_) (fun c6 => ?_)
    · have hf := o_pos c6 hf
      refine lv_aload_n hx hb dX8_document_26 rfl (lv_at hl 0 rfl) ?_
      obtain ⟨q7, h8, hf⟩ := o_bind hf
      refine pw_get hC fl_X8_13 hw (rdR_F h8) dX8_document_27 ?_
      refine lv_iload_n hx hb dX8_document_30 rfl (lv_at hl 1 rfl) ?_
      obtain ⟨r11, μ10, h9, hf⟩ := o_bind2 hf
      refine pw_goI hw (pw_runS (As := [.ref q7, .int a1]) (rest := []) hC mm_X8_intAt tw_1245 (c_X8_intAt h9 _) (fio_MD d (by decide)) hw rfl hl.1 (Nat.le_of_ble_eq_true rfl) ⟨Nat.zero_le _, Nat.zero_le _⟩ rfl dX8_document_31) (fun H locs hw => ?_)
      refine lv_istore (lv' := [(5, .int r11), (0, .ref a0), (1, .int a1), (2, .int a2), (3, .int a3), (4, .int a4)]) hx hb dX8_document_34 hl (by decide) rfl (fun ls hl => ?_)
      refine lv_iload hx hb dX8_document_36 (lv_at hl 0 rfl) ?_
      refine lv_iconst (v := 5) hx hb dX8_document_38 nc_iconst_5 ?_
      refine lv_icmp_ge (tgt := 49) hx hb dX8_document_39 (by decide) (fun c12 => ?_) (fun c12 => ?_)
      · have hf := o_pos c12 hf
        refine lv_iload_n hx hb dX8_document_49 rfl (lv_at hl 2 rfl) ?_
        refine lv_i2l hx hb dX8_document_50 rfl ?_
        refine lv_iload hx hb dX8_document_51 (lv_at hl 0 rfl) ?_
        refine lv_i2l hx hb dX8_document_53 rfl ?_
        refine lv_ladd hx hb dX8_document_54 ?_
        refine lv_iload_n hx hb dX8_document_55 rfl (lv_at hl 3 rfl) ?_
        refine lv_i2l hx hb dX8_document_56 rfl ?_
        refine W.lcmp hx hb dX8_document_57 ?_
        refine lv_if_le (tgt := 68) hx hb dX8_document_58 (by decide) (fun c13 => ?_) (fun c13 => ?_)
        · have hf := o_pos c13 hf
          refine lv_iload_n hx hb dX8_document_68 rfl (lv_at hl 2 rfl) ?_
          refine lv_iload hx hb dX8_document_69 (lv_at hl 0 rfl) ?_
          refine lv_iadd hx hb dX8_document_71 ?_
          refine lv_iconst (v := 1) hx hb dX8_document_72 nc_iconst_1 ?_
          refine lv_isub hx hb dX8_document_73 ?_
          refine lv_istore (lv' := [(6, .int ((a1 + r11) - 1)), (5, .int r11), (0, .ref a0), (1, .int a1), (2, .int a2), (3, .int a3), (4, .int a4)]) hx hb dX8_document_74 hl (by decide) rfl (fun ls hl => ?_)
          refine lv_iload_n hx hb dX8_document_76 rfl (lv_at hl 3 rfl) ?_
          refine lv_iconst (v := 4) hx hb dX8_document_77 nc_iconst_4 ?_
          refine lv_iadd hx hb dX8_document_78 ?_
          refine lv_istore (lv' := [(7, .int (a1 + 4)), (6, .int ((a1 + r11) - 1)), (5, .int r11), (0, .ref a0), (1, .int a1), (2, .int a2), (3, .int a3), (4, .int a4)]) hx hb dX8_document_79 hl (by decide) rfl (fun ls hl => ?_)
          refine lv_iconst (v := 0) hx hb dX8_document_81 nc_iconst_0 ?_
          refine lv_istore (lv' := [(8, .int 0), (7, .int (a1 + 4)), (6, .int ((a1 + r11) - 1)), (5, .int r11), (0, .ref a0), (1, .int a1), (2, .int a2), (3, .int a3), (4, .int a4)]) hx hb dX8_document_82 hl (by decide) rfl (fun ls hl => ?_)
          exact w_X8_document_L84 hC hr hlocks hr_X8_element FU _ _ _ _ _ _ _ _ _ ls (lv_sub hl [4, 7, 8, 2, 1, 0] rfl) hw hf
        · have hf := o_neg c13 hf
          refine lv_aload_n hx hb dX8_document_61 rfl (lv_at hl 1 rfl) ?_
          refine lv_iconst (v := 1) hx hb dX8_document_62 nc_iconst_1 ?_
          refine lv_iload_n hx hb dX8_document_63 rfl (lv_at hl 2 rfl) ?_
          obtain ⟨h15, hf⟩ := o_ite hf
          obtain ⟨r17, μ16, h14, hf⟩ := o_bind2 hf
          refine pw_goI hw (pw_runV (As := [.int 1, .int a1]) (rest := []) hC mm_X8_wrong tw_1237 (c_X8_wrong h14 _) (fio_MD d (by decide)) hw h15 rfl hl.1 (Nat.le_of_ble_eq_true rfl) ⟨Nat.zero_le _, Nat.zero_le _⟩ rfl dX8_document_64) (fun H locs hw => ?_)
          obtain ⟨rfl, rfl⟩ := o_ret hf
          exact pw_iret hC hr hlocks hw dX8_document_67
      · have hf := o_neg c12 hf
        refine lv_aload_n hx hb dX8_document_42 rfl (lv_at hl 1 rfl) ?_
        refine lv_iconst (v := 2) hx hb dX8_document_43 nc_iconst_2 ?_
        refine lv_iload_n hx hb dX8_document_44 rfl (lv_at hl 2 rfl) ?_
        obtain ⟨h19, hf⟩ := o_ite hf
        obtain ⟨r21, μ20, h18, hf⟩ := o_bind2 hf
        refine pw_goI hw (pw_runV (As := [.int 2, .int a1]) (rest := []) hC mm_X8_wrong tw_1237 (c_X8_wrong h18 _) (fio_MD d (by decide)) hw h19 rfl hl.1 (Nat.le_of_ble_eq_true rfl) ⟨Nat.zero_le _, Nat.zero_le _⟩ rfl dX8_document_45) (fun H locs hw => ?_)
        obtain ⟨rfl, rfl⟩ := o_ret hf
        exact pw_iret hC hr hlocks hw dX8_document_48
    · have hf := o_neg c6 hf
      refine lv_iconst (v := (-1)) hx hb dX8_document_24 nc_iconst_m1 ?_
      obtain ⟨rfl, rfl⟩ := o_ret hf
      exact pw_iret hC hr hlocks hw dX8_document_25
  · have hf := o_neg c1 hf
    refine lv_aload_n hx hb dX8_document_6 rfl (lv_at hl 0 rfl) ?_
    refine lv_bipush (v := 8) hx hb dX8_document_7 nc_bipush_8 ?_
    refine lv_iload_n hx hb dX8_document_9 rfl (lv_at hl 1 rfl) ?_
    obtain ⟨h23, hf⟩ := o_ite hf
    obtain ⟨r25, μ24, h22, hf⟩ := o_bind2 hf
    refine pw_goI hw (pw_runV (As := [.int 8, .int a1]) (rest := []) hC mm_X8_wrong tw_1237 (c_X8_wrong h22 _) (fio_MD d (by decide)) hw h23 rfl hl.1 (Nat.le_of_ble_eq_true rfl) ⟨Nat.zero_le _, Nat.zero_le _⟩ rfl dX8_document_10) (fun H locs hw => ?_)
    obtain ⟨rfl, rfl⟩ := o_ret hf
    exact pw_iret hC hr hlocks hw dX8_document_13
theorem dX8_element_0 : decode cX8_element 0 = .ok (.aload_n 0, 1) := by decide +kernel
theorem dX8_element_1 : decode cX8_element 1 = .ok (.getfield 13, 3) := by decide +kernel
theorem dX8_element_4 : decode cX8_element 4 = .ok (.iload_n 1, 1) := by decide +kernel
theorem dX8_element_5 : decode cX8_element 5 = .ok (.baload, 1) := by decide +kernel
theorem dX8_element_6 : decode cX8_element 6 = .ok (.sipush 255, 3) := by decide +kernel
theorem dX8_element_9 : decode cX8_element 9 = .ok (.iand, 1) := by decide +kernel
theorem dX8_element_10 : decode cX8_element 10 = .ok (.istore 5, 2) := by decide +kernel
theorem dX8_element_12 : decode cX8_element 12 = .ok (.iload 5, 2) := by decide +kernel
theorem dX8_element_14 : decode cX8_element 14 = .ok (.invokestatic 145, 3) := by decide +kernel
theorem dX8_element_17 : decode cX8_element 17 = .ok (.ifCond .ne 10, 3) := by decide +kernel
theorem dX8_element_20 : decode cX8_element 20 = .ok (.aload_n 0, 1) := by decide +kernel
theorem dX8_element_21 : decode cX8_element 21 = .ok (.iconst 3, 1) := by decide +kernel
theorem dX8_element_22 : decode cX8_element 22 = .ok (.iload_n 1, 1) := by decide +kernel
theorem dX8_element_23 : decode cX8_element 23 = .ok (.invokevirtual 109, 3) := by decide +kernel
theorem dX8_element_26 : decode cX8_element 26 = .ok (.ireturn, 1) := by decide +kernel
theorem dX8_element_27 : decode cX8_element 27 = .ok (.aload_n 0, 1) := by decide +kernel
theorem dX8_element_28 : decode cX8_element 28 = .ok (.iload_n 1, 1) := by decide +kernel
theorem dX8_element_29 : decode cX8_element 29 = .ok (.iconst 1, 1) := by decide +kernel
theorem dX8_element_30 : decode cX8_element 30 = .ok (.iadd, 1) := by decide +kernel
theorem dX8_element_31 : decode cX8_element 31 = .ok (.iload_n 2, 1) := by decide +kernel
theorem dX8_element_32 : decode cX8_element 32 = .ok (.iload 4, 2) := by decide +kernel
theorem dX8_element_34 : decode cX8_element 34 = .ok (.invokevirtual 149, 3) := by decide +kernel
theorem dX8_element_37 : decode cX8_element 37 = .ok (.istore 6, 2) := by decide +kernel
theorem dX8_element_39 : decode cX8_element 39 = .ok (.iload 6, 2) := by decide +kernel
theorem dX8_element_41 : decode cX8_element 41 = .ok (.ifCond .ge 7, 3) := by decide +kernel
theorem dX8_element_44 : decode cX8_element 44 = .ok (.iconst (-1), 1) := by decide +kernel
theorem dX8_element_45 : decode cX8_element 45 = .ok (.goto 13, 3) := by decide +kernel
theorem dX8_element_48 : decode cX8_element 48 = .ok (.aload_n 0, 1) := by decide +kernel
theorem dX8_element_49 : decode cX8_element 49 = .ok (.iload 5, 2) := by decide +kernel
theorem dX8_element_51 : decode cX8_element 51 = .ok (.iload 6, 2) := by decide +kernel
theorem dX8_element_53 : decode cX8_element 53 = .ok (.iload_n 2, 1) := by decide +kernel
theorem dX8_element_54 : decode cX8_element 54 = .ok (.iload_n 3, 1) := by decide +kernel
theorem dX8_element_55 : decode cX8_element 55 = .ok (.invokevirtual 152, 3) := by decide +kernel
theorem dX8_element_58 : decode cX8_element 58 = .ok (.ireturn, 1) := by decide +kernel
def fo_X8_element (cy : Nat → ClassId) (r_X8_value : Nat → Int32 → Int32 → Int32 → Int32 → Mem → Option (Int32 × Mem)) (a0 : Nat) (a1 : Int32) (a2 : Int32) (a3 : Int32) (a4 : Int32) (μ : Mem) : Option (Int32 × Mem) :=
  (rdR μ a0 7 1).bind fun q1 => (rdA cy μ 0 q1 a1).bind fun v3 => ob2 (f_X8_isType cy (v3 &&& 255) μ) fun r7 μ6 => if r7 = 0 then (if isO μ6 a0 7 = true then (ob2 (f_X8_wrong cy a0 3 a1 μ6) fun r21 μ20 => some (r21, μ20)) else none) else if isO μ6 a0 7 = true then (ob2 (f_X8_name cy a0 (a1 + 1) a2 a4 μ6) fun r12 μ11 => if 0 ≤ r12 then (if isO μ11 a0 7 = true then (ob2 (r_X8_value a0 (v3 &&& 255) r12 a2 a3 μ11) fun r17 μ16 => some (r17, μ16)) else none) else some ((-1), μ11)) else none
set_option maxRecDepth 100000 in
set_option maxHeartbeats 4000000 in
theorem co_X8_element {l : Launch} {g : Wg} {L : List Nat} {d : Nat} {r_X8_value : Nat → Int32 → Int32 → Int32 → Int32 → Mem → Option (Int32 × Mem)} (hr_X8_value : ∀ {a0 : Nat} {a1 : Int32} {a2 : Int32} {a3 : Int32} {a4 : Int32} {μ : Mem} {r9 : Int32} {μ9 : Mem}, r_X8_value a0 a1 a2 a3 a4 μ = some (r9, μ9) → MetI l yX8_value cX8_value 6 (some .int) (rm_MD d) g L μ [.ref a0, .int a1, .int a2, .int a3, .int a4] r9 μ9) {μ : Mem} {a0 : Nat} {a1 : Int32} {a2 : Int32} {a3 : Int32} {a4 : Int32} {r : Int32} {μ' : Mem} (hf : fo_X8_element g.2 r_X8_value a0 a1 a2 a3 a4 μ = some (r, μ')) : MetI l yX8_element cX8_element 7 (some .int) (rm_MD (d + 1)) g L μ [.ref a0, .int a1, .int a2, .int a3, .int a4] r μ' := by
  refine pw_met (Qc := fun A => QI g L A r μ') (by decide) (Nat.le_of_ble_eq_true rfl) ?_
  intro p e s m args below meth c A ls H locs hC hr hlocks hl hw
  have hx := hC.1
  have hb := hC.2.1
  have hl : lv_has ls 7 [(0, .ref a0), (1, .int a1), (2, .int a2), (3, .int a3), (4, .int a4)] := hl
  unfold fo_X8_element at hf
  refine lv_aload_n hx hb dX8_element_0 rfl (lv_at hl 0 rfl) ?_
  obtain ⟨q1, h2, hf⟩ := o_bind hf
  refine pw_get hC fl_X8_13 hw (rdR_F h2) dX8_element_1 ?_
  refine lv_iload_n hx hb dX8_element_4 rfl (lv_at hl 1 rfl) ?_
  obtain ⟨v3, h4, hf⟩ := o_bind hf
  refine pw_bald hC hw h4 dX8_element_5 ?_
  refine lv_sipush (v := 255) hx hb dX8_element_6 nc_sipush_255 ?_
  refine lv_iand hx hb dX8_element_9 ?_
  refine lv_istore (lv' := [(5, .int (v3 &&& 255)), (0, .ref a0), (1, .int a1), (2, .int a2), (3, .int a3), (4, .int a4)]) hx hb dX8_element_10 hl (by decide) rfl (fun ls hl => ?_)
  refine lv_iload hx hb dX8_element_12 (lv_at hl 0 rfl) ?_
  obtain ⟨r7, μ6, h5, hf⟩ := o_bind2 hf
  refine pw_goI hw (pw_runS (As := [.int (v3 &&& 255)]) (rest := []) hC mm_X8_isType tw_1252 (c_X8_isType h5 _) (fio_MD d (by decide)) hw rfl hl.1 (Nat.le_of_ble_eq_true rfl) ⟨Nat.zero_le _, Nat.zero_le _⟩ rfl dX8_element_14) (fun H locs hw => ?_)
  refine lv_if_ne (tgt := 27) hx hb dX8_element_17 (by decide) (fun c8 => ?_) (fun c8 => ?_)
  · have hf := o_neg c8 hf
    refine lv_aload_n hx hb dX8_element_27 rfl (lv_at hl 1 rfl) ?_
    refine lv_iload_n hx hb dX8_element_28 rfl (lv_at hl 2 rfl) ?_
    refine lv_iconst (v := 1) hx hb dX8_element_29 nc_iconst_1 ?_
    refine lv_iadd hx hb dX8_element_30 ?_
    refine lv_iload_n hx hb dX8_element_31 rfl (lv_at hl 3 rfl) ?_
    refine lv_iload hx hb dX8_element_32 (lv_at hl 5 rfl) ?_
    obtain ⟨h10, hf⟩ := o_ite hf
    obtain ⟨r12, μ11, h9, hf⟩ := o_bind2 hf
    refine pw_goI hw (pw_runV (As := [.int (a1 + 1), .int a2, .int a4]) (rest := []) hC mm_X8_name tw_1255 (c_X8_name h9 _) (fio_MD d (by decide)) hw h10 rfl hl.1 (Nat.le_of_ble_eq_true rfl) ⟨Nat.zero_le _, Nat.zero_le _⟩ rfl dX8_element_34) (fun H locs hw => ?_)
    refine lv_istore (lv' := [(6, .int r12), (5, .int (v3 &&& 255)), (0, .ref a0), (1, .int a1), (2, .int a2), (3, .int a3), (4, .int a4)]) hx hb dX8_element_37 hl (by decide) rfl (fun ls hl => ?_)
    refine lv_iload hx hb dX8_element_39 (lv_at hl 0 rfl) ?_
    refine lv_if_ge (tgt := 48) hx hb dX8_element_41 (by decide) (fun c13 => ?_) (fun c13 => ?_)
    · have hf := o_pos c13 hf
      refine lv_aload_n hx hb dX8_element_48 rfl (lv_at hl 2 rfl) ?_
      refine lv_iload hx hb dX8_element_49 (lv_at hl 1 rfl) ?_
      refine lv_iload hx hb dX8_element_51 (lv_at hl 0 rfl) ?_
      refine lv_iload_n hx hb dX8_element_53 rfl (lv_at hl 4 rfl) ?_
      refine lv_iload_n hx hb dX8_element_54 rfl (lv_at hl 5 rfl) ?_
      obtain ⟨h15, hf⟩ := o_ite hf
      obtain ⟨r17, μ16, h14, hf⟩ := o_bind2 hf
      refine pw_goI hw (pw_runV (As := [.int (v3 &&& 255), .int r12, .int a2, .int a3]) (rest := []) hC mm_X8_value tw_1283 (hr_X8_value h14 _) (fit_MD d (by decide)) hw h15 rfl hl.1 (Nat.le_of_ble_eq_true rfl) ⟨Nat.zero_le _, Nat.zero_le _⟩ rfl dX8_element_55) (fun H locs hw => ?_)
      obtain ⟨rfl, rfl⟩ := o_ret hf
      exact pw_iret hC hr hlocks hw dX8_element_58
    · have hf := o_neg c13 hf
      refine lv_iconst (v := (-1)) hx hb dX8_element_44 nc_iconst_m1 ?_
      refine lv_goto (tgt := 58) hx hb dX8_element_45 (by decide) ?_
      obtain ⟨rfl, rfl⟩ := o_ret hf
      exact pw_iret hC hr hlocks hw dX8_element_58
  · have hf := o_pos c8 hf
    refine lv_aload_n hx hb dX8_element_20 rfl (lv_at hl 1 rfl) ?_
    refine lv_iconst (v := 3) hx hb dX8_element_21 nc_iconst_3 ?_
    refine lv_iload_n hx hb dX8_element_22 rfl (lv_at hl 2 rfl) ?_
    obtain ⟨h19, hf⟩ := o_ite hf
    obtain ⟨r21, μ20, h18, hf⟩ := o_bind2 hf
    refine pw_goI hw (pw_runV (As := [.int 3, .int a1]) (rest := []) hC mm_X8_wrong tw_1237 (c_X8_wrong h18 _) (fio_MD d (by decide)) hw h19 rfl hl.1 (Nat.le_of_ble_eq_true rfl) ⟨Nat.zero_le _, Nat.zero_le _⟩ rfl dX8_element_23) (fun H locs hw => ?_)
    obtain ⟨rfl, rfl⟩ := o_ret hf
    exact pw_iret hC hr hlocks hw dX8_element_26
theorem dX8_value_0 : decode cX8_value 0 = .ok (.iload_n 1, 1) := by decide +kernel
theorem dX8_value_1 : decode cX8_value 1 = .ok (.tableswitch 269 1 19 #[91, 100, 107, 107, 128, 269, 135, 144, 91, 269, 189, 216, 100, 100, 243, 252, 91, 91, 260], 91) := by decide +kernel
theorem dX8_value_92 : decode cX8_value 92 = .ok (.aload_n 0, 1) := by decide +kernel
theorem dX8_value_93 : decode cX8_value 93 = .ok (.iload_n 2, 1) := by decide +kernel
theorem dX8_value_94 : decode cX8_value 94 = .ok (.bipush 8, 2) := by decide +kernel
theorem dX8_value_96 : decode cX8_value 96 = .ok (.iload_n 3, 1) := by decide +kernel
theorem dX8_value_97 : decode cX8_value 97 = .ok (.invokevirtual 135, 3) := by decide +kernel
theorem dX8_value_100 : decode cX8_value 100 = .ok (.ireturn, 1) := by decide +kernel
theorem dX8_value_101 : decode cX8_value 101 = .ok (.aload_n 0, 1) := by decide +kernel
theorem dX8_value_102 : decode cX8_value 102 = .ok (.iload_n 2, 1) := by decide +kernel
theorem dX8_value_103 : decode cX8_value 103 = .ok (.iload_n 3, 1) := by decide +kernel
theorem dX8_value_104 : decode cX8_value 104 = .ok (.invokevirtual 155, 3) := by decide +kernel
theorem dX8_value_107 : decode cX8_value 107 = .ok (.ireturn, 1) := by decide +kernel
theorem dX8_value_108 : decode cX8_value 108 = .ok (.aload_n 0, 1) := by decide +kernel
theorem dX8_value_109 : decode cX8_value 109 = .ok (.iload_n 2, 1) := by decide +kernel
theorem dX8_value_110 : decode cX8_value 110 = .ok (.iload_n 3, 1) := by decide +kernel
theorem dX8_value_111 : decode cX8_value 111 = .ok (.iload 4, 2) := by decide +kernel
theorem dX8_value_113 : decode cX8_value 113 = .ok (.iconst 1, 1) := by decide +kernel
theorem dX8_value_114 : decode cX8_value 114 = .ok (.iadd, 1) := by decide +kernel
theorem dX8_value_115 : decode cX8_value 115 = .ok (.iload_n 1, 1) := by decide +kernel
theorem dX8_value_116 : decode cX8_value 116 = .ok (.iconst 4, 1) := by decide +kernel
theorem dX8_value_117 : decode cX8_value 117 = .ok (.if_icmp .ne 7, 3) := by decide +kernel
theorem dX8_value_120 : decode cX8_value 120 = .ok (.iconst 1, 1) := by decide +kernel
theorem dX8_value_121 : decode cX8_value 121 = .ok (.goto 4, 3) := by decide +kernel
theorem dX8_value_124 : decode cX8_value 124 = .ok (.iconst 0, 1) := by decide +kernel
theorem dX8_value_125 : decode cX8_value 125 = .ok (.invokevirtual 158, 3) := by decide +kernel
theorem dX8_value_128 : decode cX8_value 128 = .ok (.ireturn, 1) := by decide +kernel
theorem dX8_value_129 : decode cX8_value 129 = .ok (.aload_n 0, 1) := by decide +kernel
theorem dX8_value_130 : decode cX8_value 130 = .ok (.iload_n 2, 1) := by decide +kernel
theorem dX8_value_131 : decode cX8_value 131 = .ok (.iload_n 3, 1) := by decide +kernel
theorem dX8_value_132 : decode cX8_value 132 = .ok (.invokevirtual 162, 3) := by decide +kernel
theorem dX8_value_135 : decode cX8_value 135 = .ok (.ireturn, 1) := by decide +kernel
theorem dX8_value_136 : decode cX8_value 136 = .ok (.aload_n 0, 1) := by decide +kernel
theorem dX8_value_137 : decode cX8_value 137 = .ok (.iload_n 2, 1) := by decide +kernel
theorem dX8_value_138 : decode cX8_value 138 = .ok (.bipush 12, 2) := by decide +kernel
theorem dX8_value_140 : decode cX8_value 140 = .ok (.iload_n 3, 1) := by decide +kernel
theorem dX8_value_141 : decode cX8_value 141 = .ok (.invokevirtual 135, 3) := by decide +kernel
theorem dX8_value_144 : decode cX8_value 144 = .ok (.ireturn, 1) := by decide +kernel
theorem dX8_value_145 : decode cX8_value 145 = .ok (.aload_n 0, 1) := by decide +kernel
theorem dX8_value_146 : decode cX8_value 146 = .ok (.iload_n 2, 1) := by decide +kernel
theorem dX8_value_147 : decode cX8_value 147 = .ok (.iconst 1, 1) := by decide +kernel
theorem dX8_value_148 : decode cX8_value 148 = .ok (.iload_n 3, 1) := by decide +kernel
theorem dX8_value_149 : decode cX8_value 149 = .ok (.invokevirtual 135, 3) := by decide +kernel
theorem dX8_value_152 : decode cX8_value 152 = .ok (.ifCond .ge 5, 3) := by decide +kernel
theorem dX8_value_155 : decode cX8_value 155 = .ok (.iconst (-1), 1) := by decide +kernel
theorem dX8_value_156 : decode cX8_value 156 = .ok (.ireturn, 1) := by decide +kernel
theorem dX8_value_157 : decode cX8_value 157 = .ok (.aload_n 0, 1) := by decide +kernel
theorem dX8_value_158 : decode cX8_value 158 = .ok (.getfield 13, 3) := by decide +kernel
theorem dX8_value_161 : decode cX8_value 161 = .ok (.iload_n 2, 1) := by decide +kernel
theorem dX8_value_162 : decode cX8_value 162 = .ok (.baload, 1) := by decide +kernel
theorem dX8_value_163 : decode cX8_value 163 = .ok (.ifCond .eq 23, 3) := by decide +kernel
theorem dX8_value_166 : decode cX8_value 166 = .ok (.aload_n 0, 1) := by decide +kernel
theorem dX8_value_167 : decode cX8_value 167 = .ok (.getfield 13, 3) := by decide +kernel
theorem dX8_value_170 : decode cX8_value 170 = .ok (.iload_n 2, 1) := by decide +kernel
theorem dX8_value_171 : decode cX8_value 171 = .ok (.baload, 1) := by decide +kernel
theorem dX8_value_172 : decode cX8_value 172 = .ok (.iconst 1, 1) := by decide +kernel
theorem dX8_value_173 : decode cX8_value 173 = .ok (.if_icmp .eq 13, 3) := by decide +kernel
theorem dX8_value_176 : decode cX8_value 176 = .ok (.aload_n 0, 1) := by decide +kernel
theorem dX8_value_177 : decode cX8_value 177 = .ok (.bipush 7, 2) := by decide +kernel
theorem dX8_value_179 : decode cX8_value 179 = .ok (.iload_n 2, 1) := by decide +kernel
theorem dX8_value_180 : decode cX8_value 180 = .ok (.invokevirtual 109, 3) := by decide +kernel
theorem dX8_value_183 : decode cX8_value 183 = .ok (.goto 6, 3) := by decide +kernel
theorem dX8_value_186 : decode cX8_value 186 = .ok (.iload_n 2, 1) := by decide +kernel
theorem dX8_value_187 : decode cX8_value 187 = .ok (.iconst 1, 1) := by decide +kernel
theorem dX8_value_188 : decode cX8_value 188 = .ok (.iadd, 1) := by decide +kernel
theorem dX8_value_189 : decode cX8_value 189 = .ok (.ireturn, 1) := by decide +kernel
theorem dX8_value_190 : decode cX8_value 190 = .ok (.aload_n 0, 1) := by decide +kernel
theorem dX8_value_191 : decode cX8_value 191 = .ok (.iload_n 2, 1) := by decide +kernel
theorem dX8_value_192 : decode cX8_value 192 = .ok (.iload_n 3, 1) := by decide +kernel
theorem dX8_value_193 : decode cX8_value 193 = .ok (.iconst (-1), 1) := by decide +kernel
theorem dX8_value_194 : decode cX8_value 194 = .ok (.invokevirtual 149, 3) := by decide +kernel
theorem dX8_value_197 : decode cX8_value 197 = .ok (.istore 5, 2) := by decide +kernel
theorem dX8_value_199 : decode cX8_value 199 = .ok (.iload 5, 2) := by decide +kernel
theorem dX8_value_201 : decode cX8_value 201 = .ok (.ifCond .ge 7, 3) := by decide +kernel
theorem dX8_value_204 : decode cX8_value 204 = .ok (.iconst (-1), 1) := by decide +kernel
theorem dX8_value_205 : decode cX8_value 205 = .ok (.goto 11, 3) := by decide +kernel
theorem dX8_value_208 : decode cX8_value 208 = .ok (.aload_n 0, 1) := by decide +kernel
theorem dX8_value_209 : decode cX8_value 209 = .ok (.iload 5, 2) := by decide +kernel
theorem dX8_value_211 : decode cX8_value 211 = .ok (.iload_n 3, 1) := by decide +kernel
theorem dX8_value_212 : decode cX8_value 212 = .ok (.iconst (-1), 1) := by decide +kernel
theorem dX8_value_213 : decode cX8_value 213 = .ok (.invokevirtual 149, 3) := by decide +kernel
theorem dX8_value_216 : decode cX8_value 216 = .ok (.ireturn, 1) := by decide +kernel
theorem dX8_value_217 : decode cX8_value 217 = .ok (.aload_n 0, 1) := by decide +kernel
theorem dX8_value_218 : decode cX8_value 218 = .ok (.iload_n 2, 1) := by decide +kernel
theorem dX8_value_219 : decode cX8_value 219 = .ok (.iload_n 3, 1) := by decide +kernel
theorem dX8_value_220 : decode cX8_value 220 = .ok (.invokevirtual 155, 3) := by decide +kernel
theorem dX8_value_223 : decode cX8_value 223 = .ok (.istore 5, 2) := by decide +kernel
theorem dX8_value_225 : decode cX8_value 225 = .ok (.iload 5, 2) := by decide +kernel
theorem dX8_value_227 : decode cX8_value 227 = .ok (.ifCond .ge 7, 3) := by decide +kernel
theorem dX8_value_230 : decode cX8_value 230 = .ok (.iconst (-1), 1) := by decide +kernel
theorem dX8_value_231 : decode cX8_value 231 = .ok (.goto 12, 3) := by decide +kernel
theorem dX8_value_234 : decode cX8_value 234 = .ok (.aload_n 0, 1) := by decide +kernel
theorem dX8_value_235 : decode cX8_value 235 = .ok (.iload 5, 2) := by decide +kernel
theorem dX8_value_237 : decode cX8_value 237 = .ok (.bipush 12, 2) := by decide +kernel
theorem dX8_value_239 : decode cX8_value 239 = .ok (.iload_n 3, 1) := by decide +kernel
theorem dX8_value_240 : decode cX8_value 240 = .ok (.invokevirtual 135, 3) := by decide +kernel
theorem dX8_value_243 : decode cX8_value 243 = .ok (.ireturn, 1) := by decide +kernel
theorem dX8_value_244 : decode cX8_value 244 = .ok (.aload_n 0, 1) := by decide +kernel
theorem dX8_value_245 : decode cX8_value 245 = .ok (.iload_n 2, 1) := by decide +kernel
theorem dX8_value_246 : decode cX8_value 246 = .ok (.iload_n 3, 1) := by decide +kernel
theorem dX8_value_247 : decode cX8_value 247 = .ok (.iload 4, 2) := by decide +kernel
theorem dX8_value_249 : decode cX8_value 249 = .ok (.invokevirtual 165, 3) := by decide +kernel
theorem dX8_value_252 : decode cX8_value 252 = .ok (.ireturn, 1) := by decide +kernel
theorem dX8_value_253 : decode cX8_value 253 = .ok (.aload_n 0, 1) := by decide +kernel
theorem dX8_value_254 : decode cX8_value 254 = .ok (.iload_n 2, 1) := by decide +kernel
theorem dX8_value_255 : decode cX8_value 255 = .ok (.iconst 4, 1) := by decide +kernel
theorem dX8_value_256 : decode cX8_value 256 = .ok (.iload_n 3, 1) := by decide +kernel
theorem dX8_value_257 : decode cX8_value 257 = .ok (.invokevirtual 135, 3) := by decide +kernel
theorem dX8_value_260 : decode cX8_value 260 = .ok (.ireturn, 1) := by decide +kernel
theorem dX8_value_261 : decode cX8_value 261 = .ok (.aload_n 0, 1) := by decide +kernel
theorem dX8_value_262 : decode cX8_value 262 = .ok (.iload_n 2, 1) := by decide +kernel
theorem dX8_value_263 : decode cX8_value 263 = .ok (.bipush 16, 2) := by decide +kernel
theorem dX8_value_265 : decode cX8_value 265 = .ok (.iload_n 3, 1) := by decide +kernel
theorem dX8_value_266 : decode cX8_value 266 = .ok (.invokevirtual 135, 3) := by decide +kernel
theorem dX8_value_269 : decode cX8_value 269 = .ok (.ireturn, 1) := by decide +kernel
theorem dX8_value_270 : decode cX8_value 270 = .ok (.iload_n 2, 1) := by decide +kernel
theorem dX8_value_271 : decode cX8_value 271 = .ok (.ireturn, 1) := by decide +kernel
def f_X8_value_L125 (cy : Nat → ClassId) (r_X8_document : Nat → Int32 → Int32 → Int32 → Int32 → Mem → Option (Int32 × Mem)) (r_X8_scoped : Nat → Int32 → Int32 → Int32 → Mem → Option (Int32 × Mem)) (t0 : Nat) (t1 : Int32) (t2 : Int32) (t3 : Int32) (t4 : Int32) (μ : Mem) : Option (Int32 × Mem) :=
  if isO μ t0 7 = true then (ob2 (r_X8_document t0 t1 t2 t3 t4 μ) fun r104 μ103 => some (r104, μ103)) else none
set_option maxRecDepth 100000 in
set_option maxHeartbeats 4000000 in
theorem w_X8_value_L125 {p : Program} {l : Launch} {e : Env} {s : State} {m : MethodId} {args : Array Value} {below : List Frame} {meth : Method} {c : Code} {A : Nat → Prop} {g : Wg} {L : List Nat} {r : Int32} {μ' : Mem} (hC : CX p m c cX8_value 6 s args RX8) (hr : meth.sig.returnType = (some .int)) (hlocks : meth.locks = false) {d : Nat} {r_X8_document : Nat → Int32 → Int32 → Int32 → Int32 → Mem → Option (Int32 × Mem)} (hr_X8_document : ∀ {a0 : Nat} {a1 : Int32} {a2 : Int32} {a3 : Int32} {a4 : Int32} {μ : Mem} {r9 : Int32} {μ9 : Mem}, r_X8_document a0 a1 a2 a3 a4 μ = some (r9, μ9) → MetI l yX8_document cX8_document 9 (some .int) (rm_MD d) g L μ [.ref a0, .int a1, .int a2, .int a3, .int a4] r9 μ9) {r_X8_scoped : Nat → Int32 → Int32 → Int32 → Mem → Option (Int32 × Mem)} (hr_X8_scoped : ∀ {a0 : Nat} {a1 : Int32} {a2 : Int32} {a3 : Int32} {μ : Mem} {r9 : Int32} {μ9 : Mem}, r_X8_scoped a0 a1 a2 a3 μ = some (r9, μ9) → MetI l yX8_scoped cX8_scoped 6 (some .int) (rm_MD d) g L μ [.ref a0, .int a1, .int a2, .int a3] r9 μ9) : ∀ (t0 : Nat) (t1 : Int32) (t2 : Int32) (t3 : Int32) (t4 : Int32) (μ : Mem) (H : Heap) (locs : List Loc) (ls : Array Slot), lv_has ls 6 [] → PW g L μ A s H locs → f_X8_value_L125 g.2 r_X8_document r_X8_scoped t0 t1 t2 t3 t4 μ = some (r, μ') → W p l e (rm_MD (d + 1)) s m args below meth c H locs 0 0 (MQ below (QI g L A r μ') args s 0 0 A) (F0 m 125 ls [.int t4, .int t3, .int t2, .int t1, .ref t0]) := by
  have hx := hC.1
  have hb := hC.2.1
  intro t0 t1 t2 t3 t4 μ H locs ls hl hw hf
  unfold f_X8_value_L125 at hf
  obtain ⟨h102, hf⟩ := o_ite hf
  obtain ⟨r104, μ103, h101, hf⟩ := o_bind2 hf
  refine pw_goI hw (pw_runV (As := [.int t1, .int t2, .int t3, .int t4]) (rest := []) hC mm_X8_document tw_1233 (hr_X8_document h101 _) (fit_MD d (by decide)) hw h102 rfl hl.1 (Nat.le_of_ble_eq_true rfl) ⟨Nat.zero_le _, Nat.zero_le _⟩ rfl dX8_value_125) (fun H locs hw => ?_)
  obtain ⟨rfl, rfl⟩ := o_ret hf
  exact pw_iret hC hr hlocks hw dX8_value_128
def f_X8_value_L186 (cy : Nat → ClassId) (r_X8_document : Nat → Int32 → Int32 → Int32 → Int32 → Mem → Option (Int32 × Mem)) (r_X8_scoped : Nat → Int32 → Int32 → Int32 → Mem → Option (Int32 × Mem)) (a2 : Int32) (μ : Mem) : Option (Int32 × Mem) :=
  some ((a2 + 1), μ)
set_option maxRecDepth 100000 in
set_option maxHeartbeats 4000000 in
theorem w_X8_value_L186 {p : Program} {l : Launch} {e : Env} {s : State} {m : MethodId} {args : Array Value} {below : List Frame} {meth : Method} {c : Code} {A : Nat → Prop} {g : Wg} {L : List Nat} {r : Int32} {μ' : Mem} (hC : CX p m c cX8_value 6 s args RX8) (hr : meth.sig.returnType = (some .int)) (hlocks : meth.locks = false) {d : Nat} {r_X8_document : Nat → Int32 → Int32 → Int32 → Int32 → Mem → Option (Int32 × Mem)} (hr_X8_document : ∀ {a0 : Nat} {a1 : Int32} {a2 : Int32} {a3 : Int32} {a4 : Int32} {μ : Mem} {r9 : Int32} {μ9 : Mem}, r_X8_document a0 a1 a2 a3 a4 μ = some (r9, μ9) → MetI l yX8_document cX8_document 9 (some .int) (rm_MD d) g L μ [.ref a0, .int a1, .int a2, .int a3, .int a4] r9 μ9) {r_X8_scoped : Nat → Int32 → Int32 → Int32 → Mem → Option (Int32 × Mem)} (hr_X8_scoped : ∀ {a0 : Nat} {a1 : Int32} {a2 : Int32} {a3 : Int32} {μ : Mem} {r9 : Int32} {μ9 : Mem}, r_X8_scoped a0 a1 a2 a3 μ = some (r9, μ9) → MetI l yX8_scoped cX8_scoped 6 (some .int) (rm_MD d) g L μ [.ref a0, .int a1, .int a2, .int a3] r9 μ9) : ∀ (a2 : Int32) (μ : Mem) (H : Heap) (locs : List Loc) (ls : Array Slot), lv_has ls 6 [(2, .int a2)] → PW g L μ A s H locs → f_X8_value_L186 g.2 r_X8_document r_X8_scoped a2 μ = some (r, μ') → W p l e (rm_MD (d + 1)) s m args below meth c H locs 0 0 (MQ below (QI g L A r μ') args s 0 0 A) (F0 m 186 ls []) := by
  have hx := hC.1
  have hb := hC.2.1
  intro a2 μ H locs ls hl hw hf
  unfold f_X8_value_L186 at hf
  refine lv_iload_n hx hb dX8_value_186 rfl (lv_at hl 0 rfl) ?_
  refine lv_iconst (v := 1) hx hb dX8_value_187 nc_iconst_1 ?_
  refine lv_iadd hx hb dX8_value_188 ?_
  obtain ⟨rfl, rfl⟩ := o_ret hf
  exact pw_iret hC hr hlocks hw dX8_value_189
def fo_X8_value (cy : Nat → ClassId) (r_X8_document : Nat → Int32 → Int32 → Int32 → Int32 → Mem → Option (Int32 × Mem)) (r_X8_scoped : Nat → Int32 → Int32 → Int32 → Mem → Option (Int32 × Mem)) (a0 : Nat) (a1 : Int32) (a2 : Int32) (a3 : Int32) (a4 : Int32) (μ : Mem) : Option (Int32 × Mem) :=
  if Int32.toInt a1 < 1 ∨ 19 < Int32.toInt a1 then (some (a2, μ)) else if a1 = 1 ∨ a1 = 9 ∨ a1 = 17 ∨ a1 = 18 then (if isO μ a0 7 = true then (ob2 (f_X8_some cy a0 a2 8 a3 μ) fun r6 μ5 => some (r6, μ5)) else none) else if a1 = 2 ∨ a1 = 13 ∨ a1 = 14 then (if isO μ a0 7 = true then (ob2 (f_X8_text cy a0 a2 a3 μ) fun r11 μ10 => some (r11, μ10)) else none) else if a1 = 3 ∨ a1 = 4 then (if a1 = 4 then (f_X8_value_L125 cy r_X8_document r_X8_scoped a0 a2 a3 (a4 + 1) 1 μ) else f_X8_value_L125 cy r_X8_document r_X8_scoped a0 a2 a3 (a4 + 1) 0 μ) else if a1 = 5 then (if isO μ a0 7 = true then (ob2 (f_X8_binary cy a0 a2 a3 μ) fun r18 μ17 => some (r18, μ17)) else none) else if a1 = 6 ∨ a1 = 10 then (some (a2, μ)) else if a1 = 7 then (if isO μ a0 7 = true then (ob2 (f_X8_some cy a0 a2 12 a3 μ) fun r24 μ23 => some (r24, μ23)) else none) else if a1 = 8 then (if isO μ a0 7 = true then (ob2 (f_X8_some cy a0 a2 1 a3 μ) fun r29 μ28 => if 0 ≤ r29 then ((rdR μ28 a0 7 1).bind fun q31 => (rdA cy μ28 0 q31 a2).bind fun v33 => if v33 = 0 then (f_X8_value_L186 cy r_X8_document r_X8_scoped a2 μ28) else (rdR μ28 a0 7 1).bind fun q36 => (rdA cy μ28 0 q36 a2).bind fun v38 => if v38 = 1 then (f_X8_value_L186 cy r_X8_document r_X8_scoped a2 μ28) else if isO μ28 a0 7 = true then (ob2 (f_X8_wrong cy a0 7 a2 μ28) fun r44 μ43 => some (r44, μ43)) else none) else some ((-1), μ28)) else none) else if a1 = 11 then (if isO μ a0 7 = true then (ob2 (f_X8_name cy a0 a2 a3 (-1) μ) fun r49 μ48 => if 0 ≤ r49 then (if isO μ48 a0 7 = true then (ob2 (f_X8_name cy a0 r49 a3 (-1) μ48) fun r54 μ53 => some (r54, μ53)) else none) else some ((-1), μ48)) else none) else if a1 = 12 then (if isO μ a0 7 = true then (ob2 (f_X8_text cy a0 a2 a3 μ) fun r59 μ58 => if 0 ≤ r59 then (if isO μ58 a0 7 = true then (ob2 (f_X8_some cy a0 r59 12 a3 μ58) fun r64 μ63 => some (r64, μ63)) else none) else some ((-1), μ58)) else none) else if a1 = 15 then (if isO μ a0 7 = true then (ob2 (r_X8_scoped a0 a2 a3 a4 μ) fun r69 μ68 => some (r69, μ68)) else none) else if a1 = 16 then (if isO μ a0 7 = true then (ob2 (f_X8_some cy a0 a2 4 a3 μ) fun r74 μ73 => some (r74, μ73)) else none) else if a1 = 19 then (if isO μ a0 7 = true then (ob2 (f_X8_some cy a0 a2 16 a3 μ) fun r79 μ78 => some (r79, μ78)) else none) else none
set_option maxRecDepth 100000 in
set_option maxHeartbeats 4000000 in
theorem co_X8_value {l : Launch} {g : Wg} {L : List Nat} {d : Nat} {r_X8_document : Nat → Int32 → Int32 → Int32 → Int32 → Mem → Option (Int32 × Mem)} (hr_X8_document : ∀ {a0 : Nat} {a1 : Int32} {a2 : Int32} {a3 : Int32} {a4 : Int32} {μ : Mem} {r9 : Int32} {μ9 : Mem}, r_X8_document a0 a1 a2 a3 a4 μ = some (r9, μ9) → MetI l yX8_document cX8_document 9 (some .int) (rm_MD d) g L μ [.ref a0, .int a1, .int a2, .int a3, .int a4] r9 μ9) {r_X8_scoped : Nat → Int32 → Int32 → Int32 → Mem → Option (Int32 × Mem)} (hr_X8_scoped : ∀ {a0 : Nat} {a1 : Int32} {a2 : Int32} {a3 : Int32} {μ : Mem} {r9 : Int32} {μ9 : Mem}, r_X8_scoped a0 a1 a2 a3 μ = some (r9, μ9) → MetI l yX8_scoped cX8_scoped 6 (some .int) (rm_MD d) g L μ [.ref a0, .int a1, .int a2, .int a3] r9 μ9) {μ : Mem} {a0 : Nat} {a1 : Int32} {a2 : Int32} {a3 : Int32} {a4 : Int32} {r : Int32} {μ' : Mem} (hf : fo_X8_value g.2 r_X8_document r_X8_scoped a0 a1 a2 a3 a4 μ = some (r, μ')) : MetI l yX8_value cX8_value 6 (some .int) (rm_MD (d + 1)) g L μ [.ref a0, .int a1, .int a2, .int a3, .int a4] r μ' := by
  refine pw_met (Qc := fun A => QI g L A r μ') (by decide) (Nat.le_of_ble_eq_true rfl) ?_
  intro p e s m args below meth c A ls H locs hC hr hlocks hl hw
  have hx := hC.1
  have hb := hC.2.1
  have hl : lv_has ls 6 [(0, .ref a0), (1, .int a1), (2, .int a2), (3, .int a3), (4, .int a4)] := hl
  unfold fo_X8_value at hf
  refine lv_iload_n hx hb dX8_value_0 rfl (lv_at hl 1 rfl) ?_
  rcases o_if hf with ⟨c1, hf⟩ | ⟨c1, hf⟩
  · refine lv_tableOut (tgt := 270) hx hb dX8_value_1 c1 (by decide) ?_
    refine lv_iload_n hx hb dX8_value_270 rfl (lv_at hl 2 rfl) ?_
    obtain ⟨rfl, rfl⟩ := o_ret hf
    exact pw_iret hC hr hlocks hw dX8_value_271
  · rcases o_if hf with ⟨c2, hf⟩ | ⟨-, hf⟩
    · have hj : W p l e (rm_MD (d + 1)) s m args below meth c H locs 0 0 (MQ below (QI g L A r μ') args s 0 0 A) (F0 m 92 ls []) := by
        refine lv_aload_n hx hb dX8_value_92 rfl (lv_at hl 0 rfl) ?_
        refine lv_iload_n hx hb dX8_value_93 rfl (lv_at hl 2 rfl) ?_
        refine lv_bipush (v := 8) hx hb dX8_value_94 nc_bipush_8 ?_
        refine lv_iload_n hx hb dX8_value_96 rfl (lv_at hl 3 rfl) ?_
        obtain ⟨h4, hf⟩ := o_ite hf
        obtain ⟨r6, μ5, h3, hf⟩ := o_bind2 hf
        refine pw_goI hw (pw_runV (As := [.int a2, .int 8, .int a3]) (rest := []) hC mm_X8_some tw_1241 (c_X8_some h3 _) (fio_MD d (by decide)) hw h4 rfl hl.1 (Nat.le_of_ble_eq_true rfl) ⟨Nat.zero_le _, Nat.zero_le _⟩ rfl dX8_value_97) (fun H locs hw => ?_)
        obtain ⟨rfl, rfl⟩ := o_ret hf
        exact pw_iret hC hr hlocks hw dX8_value_100
      rcases c2 with c2 | c2 | c2 | c2
      · exact lv_tableIn (tgt := 92) hx hb dX8_value_1 (by rw [c2]; decide) (by rw [c2]; decide) (by rw [c2]; rfl) (by decide) hj
      · exact lv_tableIn (tgt := 92) hx hb dX8_value_1 (by rw [c2]; decide) (by rw [c2]; decide) (by rw [c2]; rfl) (by decide) hj
      · exact lv_tableIn (tgt := 92) hx hb dX8_value_1 (by rw [c2]; decide) (by rw [c2]; decide) (by rw [c2]; rfl) (by decide) hj
      · exact lv_tableIn (tgt := 92) hx hb dX8_value_1 (by rw [c2]; decide) (by rw [c2]; decide) (by rw [c2]; rfl) (by decide) hj
    · rcases o_if hf with ⟨c7, hf⟩ | ⟨-, hf⟩
      · have hj : W p l e (rm_MD (d + 1)) s m args below meth c H locs 0 0 (MQ below (QI g L A r μ') args s 0 0 A) (F0 m 101 ls []) := by
          refine lv_aload_n hx hb dX8_value_101 rfl (lv_at hl 0 rfl) ?_
          refine lv_iload_n hx hb dX8_value_102 rfl (lv_at hl 2 rfl) ?_
          refine lv_iload_n hx hb dX8_value_103 rfl (lv_at hl 3 rfl) ?_
          obtain ⟨h9, hf⟩ := o_ite hf
          obtain ⟨r11, μ10, h8, hf⟩ := o_bind2 hf
          refine pw_goI hw (pw_runV (As := [.int a2, .int a3]) (rest := []) hC mm_X8_text tw_1287 (c_X8_text h8 _) (fio_MD d (by decide)) hw h9 rfl hl.1 (Nat.le_of_ble_eq_true rfl) ⟨Nat.zero_le _, Nat.zero_le _⟩ rfl dX8_value_104) (fun H locs hw => ?_)
          obtain ⟨rfl, rfl⟩ := o_ret hf
          exact pw_iret hC hr hlocks hw dX8_value_107
        rcases c7 with c7 | c7 | c7
        · exact lv_tableIn (tgt := 101) hx hb dX8_value_1 (by rw [c7]; decide) (by rw [c7]; decide) (by rw [c7]; rfl) (by decide) hj
        · exact lv_tableIn (tgt := 101) hx hb dX8_value_1 (by rw [c7]; decide) (by rw [c7]; decide) (by rw [c7]; rfl) (by decide) hj
        · exact lv_tableIn (tgt := 101) hx hb dX8_value_1 (by rw [c7]; decide) (by rw [c7]; decide) (by rw [c7]; rfl) (by decide) hj
      · rcases o_if hf with ⟨c12, hf⟩ | ⟨-, hf⟩
        · have hj : W p l e (rm_MD (d + 1)) s m args below meth c H locs 0 0 (MQ below (QI g L A r μ') args s 0 0 A) (F0 m 108 ls []) := by
            refine lv_aload_n hx hb dX8_value_108 rfl (lv_at hl 0 rfl) ?_
            refine lv_iload_n hx hb dX8_value_109 rfl (lv_at hl 2 rfl) ?_
            refine lv_iload_n hx hb dX8_value_110 rfl (lv_at hl 3 rfl) ?_
            refine lv_iload hx hb dX8_value_111 (lv_at hl 4 rfl) ?_
            refine lv_iconst (v := 1) hx hb dX8_value_113 nc_iconst_1 ?_
            refine lv_iadd hx hb dX8_value_114 ?_
            refine lv_iload_n hx hb dX8_value_115 rfl (lv_at hl 1 rfl) ?_
            refine lv_iconst (v := 4) hx hb dX8_value_116 nc_iconst_4 ?_
            refine lv_icmp_ne (tgt := 124) hx hb dX8_value_117 (by decide) (fun c13 => ?_) (fun c13 => ?_)
            · have hf := o_neg c13 hf
              refine lv_iconst (v := 0) hx hb dX8_value_124 nc_iconst_0 ?_
              exact w_X8_value_L125 hC hr hlocks hr_X8_document hr_X8_scoped _ _ _ _ _ _ _ _ ls (lv_sub hl [] rfl) hw hf
            · have hf := o_pos c13 hf
              refine lv_iconst (v := 1) hx hb dX8_value_120 nc_iconst_1 ?_
              refine lv_goto (tgt := 125) hx hb dX8_value_121 (by decide) ?_
              exact w_X8_value_L125 hC hr hlocks hr_X8_document hr_X8_scoped _ _ _ _ _ _ _ _ ls (lv_sub hl [] rfl) hw hf
          rcases c12 with c12 | c12
          · exact lv_tableIn (tgt := 108) hx hb dX8_value_1 (by rw [c12]; decide) (by rw [c12]; decide) (by rw [c12]; rfl) (by decide) hj
          · exact lv_tableIn (tgt := 108) hx hb dX8_value_1 (by rw [c12]; decide) (by rw [c12]; decide) (by rw [c12]; rfl) (by decide) hj
        · rcases o_if hf with ⟨c14, hf⟩ | ⟨-, hf⟩
          · refine lv_tableIn (tgt := 129) hx hb dX8_value_1 (by rw [c14]; decide) (by rw [c14]; decide) (by rw [c14]; rfl) (by decide) ?_
            refine lv_aload_n hx hb dX8_value_129 rfl (lv_at hl 0 rfl) ?_
            refine lv_iload_n hx hb dX8_value_130 rfl (lv_at hl 2 rfl) ?_
            refine lv_iload_n hx hb dX8_value_131 rfl (lv_at hl 3 rfl) ?_
            obtain ⟨h16, hf⟩ := o_ite hf
            obtain ⟨r18, μ17, h15, hf⟩ := o_bind2 hf
            refine pw_goI hw (pw_runV (As := [.int a2, .int a3]) (rest := []) hC mm_X8_binary tw_1292 (c_X8_binary h15 _) (fio_MD d (by decide)) hw h16 rfl hl.1 (Nat.le_of_ble_eq_true rfl) ⟨Nat.zero_le _, Nat.zero_le _⟩ rfl dX8_value_132) (fun H locs hw => ?_)
            obtain ⟨rfl, rfl⟩ := o_ret hf
            exact pw_iret hC hr hlocks hw dX8_value_135
          · rcases o_if hf with ⟨c19, hf⟩ | ⟨-, hf⟩
            · have hj : W p l e (rm_MD (d + 1)) s m args below meth c H locs 0 0 (MQ below (QI g L A r μ') args s 0 0 A) (F0 m 270 ls []) := by
                refine lv_iload_n hx hb dX8_value_270 rfl (lv_at hl 2 rfl) ?_
                obtain ⟨rfl, rfl⟩ := o_ret hf
                exact pw_iret hC hr hlocks hw dX8_value_271
              rcases c19 with c19 | c19
              · exact lv_tableIn (tgt := 270) hx hb dX8_value_1 (by rw [c19]; decide) (by rw [c19]; decide) (by rw [c19]; rfl) (by decide) hj
              · exact lv_tableIn (tgt := 270) hx hb dX8_value_1 (by rw [c19]; decide) (by rw [c19]; decide) (by rw [c19]; rfl) (by decide) hj
            · rcases o_if hf with ⟨c20, hf⟩ | ⟨-, hf⟩
              · refine lv_tableIn (tgt := 136) hx hb dX8_value_1 (by rw [c20]; decide) (by rw [c20]; decide) (by rw [c20]; rfl) (by decide) ?_
                refine lv_aload_n hx hb dX8_value_136 rfl (lv_at hl 0 rfl) ?_
                refine lv_iload_n hx hb dX8_value_137 rfl (lv_at hl 2 rfl) ?_
                refine lv_bipush (v := 12) hx hb dX8_value_138 nc_bipush_12 ?_
                refine lv_iload_n hx hb dX8_value_140 rfl (lv_at hl 3 rfl) ?_
                obtain ⟨h22, hf⟩ := o_ite hf
                obtain ⟨r24, μ23, h21, hf⟩ := o_bind2 hf
                refine pw_goI hw (pw_runV (As := [.int a2, .int 12, .int a3]) (rest := []) hC mm_X8_some tw_1241 (c_X8_some h21 _) (fio_MD d (by decide)) hw h22 rfl hl.1 (Nat.le_of_ble_eq_true rfl) ⟨Nat.zero_le _, Nat.zero_le _⟩ rfl dX8_value_141) (fun H locs hw => ?_)
                obtain ⟨rfl, rfl⟩ := o_ret hf
                exact pw_iret hC hr hlocks hw dX8_value_144
              · rcases o_if hf with ⟨c25, hf⟩ | ⟨-, hf⟩
                · refine lv_tableIn (tgt := 145) hx hb dX8_value_1 (by rw [c25]; decide) (by rw [c25]; decide) (by rw [c25]; rfl) (by decide) ?_
                  refine lv_aload_n hx hb dX8_value_145 rfl (lv_at hl 0 rfl) ?_
                  refine lv_iload_n hx hb dX8_value_146 rfl (lv_at hl 2 rfl) ?_
                  refine lv_iconst (v := 1) hx hb dX8_value_147 nc_iconst_1 ?_
                  refine lv_iload_n hx hb dX8_value_148 rfl (lv_at hl 3 rfl) ?_
                  obtain ⟨h27, hf⟩ := o_ite hf
                  obtain ⟨r29, μ28, h26, hf⟩ := o_bind2 hf
                  refine pw_goI hw (pw_runV (As := [.int a2, .int 1, .int a3]) (rest := []) hC mm_X8_some tw_1241 (c_X8_some h26 _) (fio_MD d (by decide)) hw h27 rfl hl.1 (Nat.le_of_ble_eq_true rfl) ⟨Nat.zero_le _, Nat.zero_le _⟩ rfl dX8_value_149) (fun H locs hw => ?_)
                  refine lv_if_ge (tgt := 157) hx hb dX8_value_152 (by decide) (fun c30 => ?_) (fun c30 => ?_)
                  · have hf := o_pos c30 hf
                    refine lv_aload_n hx hb dX8_value_157 rfl (lv_at hl 0 rfl) ?_
                    obtain ⟨q31, h32, hf⟩ := o_bind hf
                    refine pw_get hC fl_X8_13 hw (rdR_F h32) dX8_value_158 ?_
                    refine lv_iload_n hx hb dX8_value_161 rfl (lv_at hl 2 rfl) ?_
                    obtain ⟨v33, h34, hf⟩ := o_bind hf
                    refine pw_bald hC hw h34 dX8_value_162 ?_
                    refine lv_if_eq (tgt := 186) hx hb dX8_value_163 (by decide) (fun c35 => ?_) (fun c35 => ?_)
                    · have hf := o_pos c35 hf
                      exact w_X8_value_L186 hC hr hlocks hr_X8_document hr_X8_scoped _ _ _ _ ls (lv_sub hl [2] rfl) hw hf
                    · have hf := o_neg c35 hf
                      refine lv_aload_n hx hb dX8_value_166 rfl (lv_at hl 0 rfl) ?_
                      obtain ⟨q36, h37, hf⟩ := o_bind hf
                      refine pw_get hC fl_X8_13 hw (rdR_F h37) dX8_value_167 ?_
                      refine lv_iload_n hx hb dX8_value_170 rfl (lv_at hl 2 rfl) ?_
                      obtain ⟨v38, h39, hf⟩ := o_bind hf
                      refine pw_bald hC hw h39 dX8_value_171 ?_
                      refine lv_iconst (v := 1) hx hb dX8_value_172 nc_iconst_1 ?_
                      refine lv_icmp_eq (tgt := 186) hx hb dX8_value_173 (by decide) (fun c40 => ?_) (fun c40 => ?_)
                      · have hf := o_pos c40 hf
                        exact w_X8_value_L186 hC hr hlocks hr_X8_document hr_X8_scoped _ _ _ _ ls (lv_sub hl [2] rfl) hw hf
                      · have hf := o_neg c40 hf
                        refine lv_aload_n hx hb dX8_value_176 rfl (lv_at hl 0 rfl) ?_
                        refine lv_bipush (v := 7) hx hb dX8_value_177 nc_bipush_7 ?_
                        refine lv_iload_n hx hb dX8_value_179 rfl (lv_at hl 2 rfl) ?_
                        obtain ⟨h42, hf⟩ := o_ite hf
                        obtain ⟨r44, μ43, h41, hf⟩ := o_bind2 hf
                        refine pw_goI hw (pw_runV (As := [.int 7, .int a2]) (rest := []) hC mm_X8_wrong tw_1237 (c_X8_wrong h41 _) (fio_MD d (by decide)) hw h42 rfl hl.1 (Nat.le_of_ble_eq_true rfl) ⟨Nat.zero_le _, Nat.zero_le _⟩ rfl dX8_value_180) (fun H locs hw => ?_)
                        refine lv_goto (tgt := 189) hx hb dX8_value_183 (by decide) ?_
                        obtain ⟨rfl, rfl⟩ := o_ret hf
                        exact pw_iret hC hr hlocks hw dX8_value_189
                  · have hf := o_neg c30 hf
                    refine lv_iconst (v := (-1)) hx hb dX8_value_155 nc_iconst_m1 ?_
                    obtain ⟨rfl, rfl⟩ := o_ret hf
                    exact pw_iret hC hr hlocks hw dX8_value_156
                · rcases o_if hf with ⟨c45, hf⟩ | ⟨-, hf⟩
                  · refine lv_tableIn (tgt := 190) hx hb dX8_value_1 (by rw [c45]; decide) (by rw [c45]; decide) (by rw [c45]; rfl) (by decide) ?_
                    refine lv_aload_n hx hb dX8_value_190 rfl (lv_at hl 0 rfl) ?_
                    refine lv_iload_n hx hb dX8_value_191 rfl (lv_at hl 2 rfl) ?_
                    refine lv_iload_n hx hb dX8_value_192 rfl (lv_at hl 3 rfl) ?_
                    refine lv_iconst (v := (-1)) hx hb dX8_value_193 nc_iconst_m1 ?_
                    obtain ⟨h47, hf⟩ := o_ite hf
                    obtain ⟨r49, μ48, h46, hf⟩ := o_bind2 hf
                    refine pw_goI hw (pw_runV (As := [.int a2, .int a3, .int (-1)]) (rest := []) hC mm_X8_name tw_1255 (c_X8_name h46 _) (fio_MD d (by decide)) hw h47 rfl hl.1 (Nat.le_of_ble_eq_true rfl) ⟨Nat.zero_le _, Nat.zero_le _⟩ rfl dX8_value_194) (fun H locs hw => ?_)
                    refine lv_istore (lv' := [(5, .int r49), (0, .ref a0), (1, .int a1), (2, .int a2), (3, .int a3), (4, .int a4)]) hx hb dX8_value_197 hl (by decide) rfl (fun ls hl => ?_)
                    refine lv_iload hx hb dX8_value_199 (lv_at hl 0 rfl) ?_
                    refine lv_if_ge (tgt := 208) hx hb dX8_value_201 (by decide) (fun c50 => ?_) (fun c50 => ?_)
                    · have hf := o_pos c50 hf
                      refine lv_aload_n hx hb dX8_value_208 rfl (lv_at hl 1 rfl) ?_
                      refine lv_iload hx hb dX8_value_209 (lv_at hl 0 rfl) ?_
                      refine lv_iload_n hx hb dX8_value_211 rfl (lv_at hl 4 rfl) ?_
                      refine lv_iconst (v := (-1)) hx hb dX8_value_212 nc_iconst_m1 ?_
                      obtain ⟨h52, hf⟩ := o_ite hf
                      obtain ⟨r54, μ53, h51, hf⟩ := o_bind2 hf
                      refine pw_goI hw (pw_runV (As := [.int r49, .int a3, .int (-1)]) (rest := []) hC mm_X8_name tw_1255 (c_X8_name h51 _) (fio_MD d (by decide)) hw h52 rfl hl.1 (Nat.le_of_ble_eq_true rfl) ⟨Nat.zero_le _, Nat.zero_le _⟩ rfl dX8_value_213) (fun H locs hw => ?_)
                      obtain ⟨rfl, rfl⟩ := o_ret hf
                      exact pw_iret hC hr hlocks hw dX8_value_216
                    · have hf := o_neg c50 hf
                      refine lv_iconst (v := (-1)) hx hb dX8_value_204 nc_iconst_m1 ?_
                      refine lv_goto (tgt := 216) hx hb dX8_value_205 (by decide) ?_
                      obtain ⟨rfl, rfl⟩ := o_ret hf
                      exact pw_iret hC hr hlocks hw dX8_value_216
                  · rcases o_if hf with ⟨c55, hf⟩ | ⟨-, hf⟩
                    · refine lv_tableIn (tgt := 217) hx hb dX8_value_1 (by rw [c55]; decide) (by rw [c55]; decide) (by rw [c55]; rfl) (by decide) ?_
                      refine lv_aload_n hx hb dX8_value_217 rfl (lv_at hl 0 rfl) ?_
                      refine lv_iload_n hx hb dX8_value_218 rfl (lv_at hl 2 rfl) ?_
                      refine lv_iload_n hx hb dX8_value_219 rfl (lv_at hl 3 rfl) ?_
                      obtain ⟨h57, hf⟩ := o_ite hf
                      obtain ⟨r59, μ58, h56, hf⟩ := o_bind2 hf
                      refine pw_goI hw (pw_runV (As := [.int a2, .int a3]) (rest := []) hC mm_X8_text tw_1287 (c_X8_text h56 _) (fio_MD d (by decide)) hw h57 rfl hl.1 (Nat.le_of_ble_eq_true rfl) ⟨Nat.zero_le _, Nat.zero_le _⟩ rfl dX8_value_220) (fun H locs hw => ?_)
                      refine lv_istore (lv' := [(5, .int r59), (0, .ref a0), (1, .int a1), (2, .int a2), (3, .int a3), (4, .int a4)]) hx hb dX8_value_223 hl (by decide) rfl (fun ls hl => ?_)
                      refine lv_iload hx hb dX8_value_225 (lv_at hl 0 rfl) ?_
                      refine lv_if_ge (tgt := 234) hx hb dX8_value_227 (by decide) (fun c60 => ?_) (fun c60 => ?_)
                      · have hf := o_pos c60 hf
                        refine lv_aload_n hx hb dX8_value_234 rfl (lv_at hl 1 rfl) ?_
                        refine lv_iload hx hb dX8_value_235 (lv_at hl 0 rfl) ?_
                        refine lv_bipush (v := 12) hx hb dX8_value_237 nc_bipush_12 ?_
                        refine lv_iload_n hx hb dX8_value_239 rfl (lv_at hl 4 rfl) ?_
                        obtain ⟨h62, hf⟩ := o_ite hf
                        obtain ⟨r64, μ63, h61, hf⟩ := o_bind2 hf
                        refine pw_goI hw (pw_runV (As := [.int r59, .int 12, .int a3]) (rest := []) hC mm_X8_some tw_1241 (c_X8_some h61 _) (fio_MD d (by decide)) hw h62 rfl hl.1 (Nat.le_of_ble_eq_true rfl) ⟨Nat.zero_le _, Nat.zero_le _⟩ rfl dX8_value_240) (fun H locs hw => ?_)
                        obtain ⟨rfl, rfl⟩ := o_ret hf
                        exact pw_iret hC hr hlocks hw dX8_value_243
                      · have hf := o_neg c60 hf
                        refine lv_iconst (v := (-1)) hx hb dX8_value_230 nc_iconst_m1 ?_
                        refine lv_goto (tgt := 243) hx hb dX8_value_231 (by decide) ?_
                        obtain ⟨rfl, rfl⟩ := o_ret hf
                        exact pw_iret hC hr hlocks hw dX8_value_243
                    · rcases o_if hf with ⟨c65, hf⟩ | ⟨-, hf⟩
                      · refine lv_tableIn (tgt := 244) hx hb dX8_value_1 (by rw [c65]; decide) (by rw [c65]; decide) (by rw [c65]; rfl) (by decide) ?_
                        refine lv_aload_n hx hb dX8_value_244 rfl (lv_at hl 0 rfl) ?_
                        refine lv_iload_n hx hb dX8_value_245 rfl (lv_at hl 2 rfl) ?_
                        refine lv_iload_n hx hb dX8_value_246 rfl (lv_at hl 3 rfl) ?_
                        refine lv_iload hx hb dX8_value_247 (lv_at hl 4 rfl) ?_
                        obtain ⟨h67, hf⟩ := o_ite hf
                        obtain ⟨r69, μ68, h66, hf⟩ := o_bind2 hf
                        refine pw_goI hw (pw_runV (As := [.int a2, .int a3, .int a4]) (rest := []) hC mm_X8_scoped tw_1297 (hr_X8_scoped h66 _) (fit_MD d (by decide)) hw h67 rfl hl.1 (Nat.le_of_ble_eq_true rfl) ⟨Nat.zero_le _, Nat.zero_le _⟩ rfl dX8_value_249) (fun H locs hw => ?_)
                        obtain ⟨rfl, rfl⟩ := o_ret hf
                        exact pw_iret hC hr hlocks hw dX8_value_252
                      · rcases o_if hf with ⟨c70, hf⟩ | ⟨-, hf⟩
                        · refine lv_tableIn (tgt := 253) hx hb dX8_value_1 (by rw [c70]; decide) (by rw [c70]; decide) (by rw [c70]; rfl) (by decide) ?_
                          refine lv_aload_n hx hb dX8_value_253 rfl (lv_at hl 0 rfl) ?_
                          refine lv_iload_n hx hb dX8_value_254 rfl (lv_at hl 2 rfl) ?_
                          refine lv_iconst (v := 4) hx hb dX8_value_255 nc_iconst_4 ?_
                          refine lv_iload_n hx hb dX8_value_256 rfl (lv_at hl 3 rfl) ?_
                          obtain ⟨h72, hf⟩ := o_ite hf
                          obtain ⟨r74, μ73, h71, hf⟩ := o_bind2 hf
                          refine pw_goI hw (pw_runV (As := [.int a2, .int 4, .int a3]) (rest := []) hC mm_X8_some tw_1241 (c_X8_some h71 _) (fio_MD d (by decide)) hw h72 rfl hl.1 (Nat.le_of_ble_eq_true rfl) ⟨Nat.zero_le _, Nat.zero_le _⟩ rfl dX8_value_257) (fun H locs hw => ?_)
                          obtain ⟨rfl, rfl⟩ := o_ret hf
                          exact pw_iret hC hr hlocks hw dX8_value_260
                        · rcases o_if hf with ⟨c75, hf⟩ | ⟨-, hf⟩
                          · refine lv_tableIn (tgt := 261) hx hb dX8_value_1 (by rw [c75]; decide) (by rw [c75]; decide) (by rw [c75]; rfl) (by decide) ?_
                            refine lv_aload_n hx hb dX8_value_261 rfl (lv_at hl 0 rfl) ?_
                            refine lv_iload_n hx hb dX8_value_262 rfl (lv_at hl 2 rfl) ?_
                            refine lv_bipush (v := 16) hx hb dX8_value_263 nc_bipush_16 ?_
                            refine lv_iload_n hx hb dX8_value_265 rfl (lv_at hl 3 rfl) ?_
                            obtain ⟨h77, hf⟩ := o_ite hf
                            obtain ⟨r79, μ78, h76, hf⟩ := o_bind2 hf
                            refine pw_goI hw (pw_runV (As := [.int a2, .int 16, .int a3]) (rest := []) hC mm_X8_some tw_1241 (c_X8_some h76 _) (fio_MD d (by decide)) hw h77 rfl hl.1 (Nat.le_of_ble_eq_true rfl) ⟨Nat.zero_le _, Nat.zero_le _⟩ rfl dX8_value_266) (fun H locs hw => ?_)
                            obtain ⟨rfl, rfl⟩ := o_ret hf
                            exact pw_iret hC hr hlocks hw dX8_value_269
                          · cases hf
theorem dX8_scoped_0 : decode cX8_scoped 0 = .ok (.aload_n 0, 1) := by decide +kernel
theorem dX8_scoped_1 : decode cX8_scoped 1 = .ok (.iload_n 1, 1) := by decide +kernel
theorem dX8_scoped_2 : decode cX8_scoped 2 = .ok (.iconst 4, 1) := by decide +kernel
theorem dX8_scoped_3 : decode cX8_scoped 3 = .ok (.iload_n 2, 1) := by decide +kernel
theorem dX8_scoped_4 : decode cX8_scoped 4 = .ok (.invokevirtual 135, 3) := by decide +kernel
theorem dX8_scoped_7 : decode cX8_scoped 7 = .ok (.ifCond .ge 5, 3) := by decide +kernel
theorem dX8_scoped_10 : decode cX8_scoped 10 = .ok (.iconst (-1), 1) := by decide +kernel
theorem dX8_scoped_11 : decode cX8_scoped 11 = .ok (.ireturn, 1) := by decide +kernel
theorem dX8_scoped_12 : decode cX8_scoped 12 = .ok (.aload_n 0, 1) := by decide +kernel
theorem dX8_scoped_13 : decode cX8_scoped 13 = .ok (.getfield 13, 3) := by decide +kernel
theorem dX8_scoped_16 : decode cX8_scoped 16 = .ok (.iload_n 1, 1) := by decide +kernel
theorem dX8_scoped_17 : decode cX8_scoped 17 = .ok (.invokestatic 97, 3) := by decide +kernel
theorem dX8_scoped_20 : decode cX8_scoped 20 = .ok (.istore 4, 2) := by decide +kernel
theorem dX8_scoped_22 : decode cX8_scoped 22 = .ok (.iload 4, 2) := by decide +kernel
theorem dX8_scoped_24 : decode cX8_scoped 24 = .ok (.bipush 14, 2) := by decide +kernel
theorem dX8_scoped_26 : decode cX8_scoped 26 = .ok (.if_icmp .ge 10, 3) := by decide +kernel
theorem dX8_scoped_29 : decode cX8_scoped 29 = .ok (.aload_n 0, 1) := by decide +kernel
theorem dX8_scoped_30 : decode cX8_scoped 30 = .ok (.iconst 2, 1) := by decide +kernel
theorem dX8_scoped_31 : decode cX8_scoped 31 = .ok (.iload_n 1, 1) := by decide +kernel
theorem dX8_scoped_32 : decode cX8_scoped 32 = .ok (.invokevirtual 109, 3) := by decide +kernel
theorem dX8_scoped_35 : decode cX8_scoped 35 = .ok (.ireturn, 1) := by decide +kernel
theorem dX8_scoped_36 : decode cX8_scoped 36 = .ok (.iload_n 1, 1) := by decide +kernel
theorem dX8_scoped_37 : decode cX8_scoped 37 = .ok (.i2l, 1) := by decide +kernel
theorem dX8_scoped_38 : decode cX8_scoped 38 = .ok (.iload 4, 2) := by decide +kernel
theorem dX8_scoped_40 : decode cX8_scoped 40 = .ok (.i2l, 1) := by decide +kernel
theorem dX8_scoped_41 : decode cX8_scoped 41 = .ok (.ladd, 1) := by decide +kernel
theorem dX8_scoped_42 : decode cX8_scoped 42 = .ok (.iload_n 2, 1) := by decide +kernel
theorem dX8_scoped_43 : decode cX8_scoped 43 = .ok (.i2l, 1) := by decide +kernel
theorem dX8_scoped_44 : decode cX8_scoped 44 = .ok (.lcmp, 1) := by decide +kernel
theorem dX8_scoped_45 : decode cX8_scoped 45 = .ok (.ifCond .le 10, 3) := by decide +kernel
theorem dX8_scoped_48 : decode cX8_scoped 48 = .ok (.aload_n 0, 1) := by decide +kernel
theorem dX8_scoped_49 : decode cX8_scoped 49 = .ok (.iconst 1, 1) := by decide +kernel
theorem dX8_scoped_50 : decode cX8_scoped 50 = .ok (.iload_n 1, 1) := by decide +kernel
theorem dX8_scoped_51 : decode cX8_scoped 51 = .ok (.invokevirtual 109, 3) := by decide +kernel
theorem dX8_scoped_54 : decode cX8_scoped 54 = .ok (.ireturn, 1) := by decide +kernel
theorem dX8_scoped_55 : decode cX8_scoped 55 = .ok (.aload_n 0, 1) := by decide +kernel
theorem dX8_scoped_56 : decode cX8_scoped 56 = .ok (.iload_n 1, 1) := by decide +kernel
theorem dX8_scoped_57 : decode cX8_scoped 57 = .ok (.iconst 4, 1) := by decide +kernel
theorem dX8_scoped_58 : decode cX8_scoped 58 = .ok (.iadd, 1) := by decide +kernel
theorem dX8_scoped_59 : decode cX8_scoped 59 = .ok (.iload_n 1, 1) := by decide +kernel
theorem dX8_scoped_60 : decode cX8_scoped 60 = .ok (.iload 4, 2) := by decide +kernel
theorem dX8_scoped_62 : decode cX8_scoped 62 = .ok (.iadd, 1) := by decide +kernel
theorem dX8_scoped_63 : decode cX8_scoped 63 = .ok (.invokevirtual 155, 3) := by decide +kernel
theorem dX8_scoped_66 : decode cX8_scoped 66 = .ok (.istore 5, 2) := by decide +kernel
theorem dX8_scoped_68 : decode cX8_scoped 68 = .ok (.iload 5, 2) := by decide +kernel
theorem dX8_scoped_70 : decode cX8_scoped 70 = .ok (.ifCond .ge 5, 3) := by decide +kernel
theorem dX8_scoped_73 : decode cX8_scoped 73 = .ok (.iconst (-1), 1) := by decide +kernel
theorem dX8_scoped_74 : decode cX8_scoped 74 = .ok (.ireturn, 1) := by decide +kernel
theorem dX8_scoped_75 : decode cX8_scoped 75 = .ok (.aload_n 0, 1) := by decide +kernel
theorem dX8_scoped_76 : decode cX8_scoped 76 = .ok (.iload 5, 2) := by decide +kernel
theorem dX8_scoped_78 : decode cX8_scoped 78 = .ok (.iload_n 1, 1) := by decide +kernel
theorem dX8_scoped_79 : decode cX8_scoped 79 = .ok (.iload 4, 2) := by decide +kernel
theorem dX8_scoped_81 : decode cX8_scoped 81 = .ok (.iadd, 1) := by decide +kernel
theorem dX8_scoped_82 : decode cX8_scoped 82 = .ok (.iload_n 3, 1) := by decide +kernel
theorem dX8_scoped_83 : decode cX8_scoped 83 = .ok (.iconst 1, 1) := by decide +kernel
theorem dX8_scoped_84 : decode cX8_scoped 84 = .ok (.iadd, 1) := by decide +kernel
theorem dX8_scoped_85 : decode cX8_scoped 85 = .ok (.iconst 0, 1) := by decide +kernel
theorem dX8_scoped_86 : decode cX8_scoped 86 = .ok (.invokevirtual 158, 3) := by decide +kernel
theorem dX8_scoped_89 : decode cX8_scoped 89 = .ok (.istore 5, 2) := by decide +kernel
theorem dX8_scoped_91 : decode cX8_scoped 91 = .ok (.iload 5, 2) := by decide +kernel
theorem dX8_scoped_93 : decode cX8_scoped 93 = .ok (.ifCond .ge 5, 3) := by decide +kernel
theorem dX8_scoped_96 : decode cX8_scoped 96 = .ok (.iconst (-1), 1) := by decide +kernel
theorem dX8_scoped_97 : decode cX8_scoped 97 = .ok (.ireturn, 1) := by decide +kernel
theorem dX8_scoped_98 : decode cX8_scoped 98 = .ok (.iload 5, 2) := by decide +kernel
theorem dX8_scoped_100 : decode cX8_scoped 100 = .ok (.iload_n 1, 1) := by decide +kernel
theorem dX8_scoped_101 : decode cX8_scoped 101 = .ok (.iload 4, 2) := by decide +kernel
theorem dX8_scoped_103 : decode cX8_scoped 103 = .ok (.iadd, 1) := by decide +kernel
theorem dX8_scoped_104 : decode cX8_scoped 104 = .ok (.if_icmp .eq 12, 3) := by decide +kernel
theorem dX8_scoped_107 : decode cX8_scoped 107 = .ok (.aload_n 0, 1) := by decide +kernel
theorem dX8_scoped_108 : decode cX8_scoped 108 = .ok (.iconst 2, 1) := by decide +kernel
theorem dX8_scoped_109 : decode cX8_scoped 109 = .ok (.iload_n 1, 1) := by decide +kernel
theorem dX8_scoped_110 : decode cX8_scoped 110 = .ok (.invokevirtual 109, 3) := by decide +kernel
theorem dX8_scoped_113 : decode cX8_scoped 113 = .ok (.goto 5, 3) := by decide +kernel
theorem dX8_scoped_116 : decode cX8_scoped 116 = .ok (.iload 5, 2) := by decide +kernel
theorem dX8_scoped_118 : decode cX8_scoped 118 = .ok (.ireturn, 1) := by decide +kernel
def fo_X8_scoped (cy : Nat → ClassId) (r_X8_document : Nat → Int32 → Int32 → Int32 → Int32 → Mem → Option (Int32 × Mem)) (a0 : Nat) (a1 : Int32) (a2 : Int32) (a3 : Int32) (μ : Mem) : Option (Int32 × Mem) :=
  if isO μ a0 7 = true then (ob2 (f_X8_some cy a0 a1 4 a2 μ) fun r4 μ3 => if 0 ≤ r4 then ((rdR μ3 a0 7 1).bind fun q6 => ob2 (f_X8_intAt cy q6 a1 μ3) fun r10 μ9 => if 14 ≤ r10 then (if (lg_cmp ((Int32.toInt64 a1) + (Int32.toInt64 r10)) (Int32.toInt64 a2)) ≤ 0 then (if isO μ9 a0 7 = true then (ob2 (f_X8_text cy a0 (a1 + 4) (a1 + r10) μ9) fun r16 μ15 => if 0 ≤ r16 then (if isO μ15 a0 7 = true then (ob2 (r_X8_document a0 r16 (a1 + r10) (a3 + 1) 0 μ15) fun r21 μ20 => if 0 ≤ r21 then (if r21 = (a1 + r10) then (some (r21, μ20)) else if isO μ20 a0 7 = true then (ob2 (f_X8_wrong cy a0 2 a1 μ20) fun r27 μ26 => some (r27, μ26)) else none) else some ((-1), μ20)) else none) else some ((-1), μ15)) else none) else if isO μ9 a0 7 = true then (ob2 (f_X8_wrong cy a0 1 a1 μ9) fun r31 μ30 => some (r31, μ30)) else none) else if isO μ9 a0 7 = true then (ob2 (f_X8_wrong cy a0 2 a1 μ9) fun r35 μ34 => some (r35, μ34)) else none) else some ((-1), μ3)) else none
set_option maxRecDepth 100000 in
set_option maxHeartbeats 4000000 in
theorem co_X8_scoped {l : Launch} {g : Wg} {L : List Nat} {d : Nat} {r_X8_document : Nat → Int32 → Int32 → Int32 → Int32 → Mem → Option (Int32 × Mem)} (hr_X8_document : ∀ {a0 : Nat} {a1 : Int32} {a2 : Int32} {a3 : Int32} {a4 : Int32} {μ : Mem} {r9 : Int32} {μ9 : Mem}, r_X8_document a0 a1 a2 a3 a4 μ = some (r9, μ9) → MetI l yX8_document cX8_document 9 (some .int) (rm_MD d) g L μ [.ref a0, .int a1, .int a2, .int a3, .int a4] r9 μ9) {μ : Mem} {a0 : Nat} {a1 : Int32} {a2 : Int32} {a3 : Int32} {r : Int32} {μ' : Mem} (hf : fo_X8_scoped g.2 r_X8_document a0 a1 a2 a3 μ = some (r, μ')) : MetI l yX8_scoped cX8_scoped 6 (some .int) (rm_MD (d + 1)) g L μ [.ref a0, .int a1, .int a2, .int a3] r μ' := by
  refine pw_met (Qc := fun A => QI g L A r μ') (by decide) (Nat.le_of_ble_eq_true rfl) ?_
  intro p e s m args below meth c A ls H locs hC hr hlocks hl hw
  have hx := hC.1
  have hb := hC.2.1
  have hl : lv_has ls 6 [(0, .ref a0), (1, .int a1), (2, .int a2), (3, .int a3)] := hl
  unfold fo_X8_scoped at hf
  refine lv_aload_n hx hb dX8_scoped_0 rfl (lv_at hl 0 rfl) ?_
  refine lv_iload_n hx hb dX8_scoped_1 rfl (lv_at hl 1 rfl) ?_
  refine lv_iconst (v := 4) hx hb dX8_scoped_2 nc_iconst_4 ?_
  refine lv_iload_n hx hb dX8_scoped_3 rfl (lv_at hl 2 rfl) ?_
  obtain ⟨h2, hf⟩ := o_ite hf
  obtain ⟨r4, μ3, h1, hf⟩ := o_bind2 hf
  refine pw_goI hw (pw_runV (As := [.int a1, .int 4, .int a2]) (rest := []) hC mm_X8_some tw_1241 (c_X8_some h1 _) (fio_MD d (by decide)) hw h2 rfl hl.1 (Nat.le_of_ble_eq_true rfl) ⟨Nat.zero_le _, Nat.zero_le _⟩ rfl dX8_scoped_4) (fun H locs hw => ?_)
  refine lv_if_ge (tgt := 12) hx hb dX8_scoped_7 (by decide) (fun c5 => ?_) (fun c5 => ?_)
  · have hf := o_pos c5 hf
    refine lv_aload_n hx hb dX8_scoped_12 rfl (lv_at hl 0 rfl) ?_
    obtain ⟨q6, h7, hf⟩ := o_bind hf
    refine pw_get hC fl_X8_13 hw (rdR_F h7) dX8_scoped_13 ?_
    refine lv_iload_n hx hb dX8_scoped_16 rfl (lv_at hl 1 rfl) ?_
    obtain ⟨r10, μ9, h8, hf⟩ := o_bind2 hf
    refine pw_goI hw (pw_runS (As := [.ref q6, .int a1]) (rest := []) hC mm_X8_intAt tw_1245 (c_X8_intAt h8 _) (fio_MD d (by decide)) hw rfl hl.1 (Nat.le_of_ble_eq_true rfl) ⟨Nat.zero_le _, Nat.zero_le _⟩ rfl dX8_scoped_17) (fun H locs hw => ?_)
    refine lv_istore (lv' := [(4, .int r10), (0, .ref a0), (1, .int a1), (2, .int a2), (3, .int a3)]) hx hb dX8_scoped_20 hl (by decide) rfl (fun ls hl => ?_)
    refine lv_iload hx hb dX8_scoped_22 (lv_at hl 0 rfl) ?_
    refine lv_bipush (v := 14) hx hb dX8_scoped_24 nc_bipush_14 ?_
    refine lv_icmp_ge (tgt := 36) hx hb dX8_scoped_26 (by decide) (fun c11 => ?_) (fun c11 => ?_)
    · have hf := o_pos c11 hf
      refine lv_iload_n hx hb dX8_scoped_36 rfl (lv_at hl 2 rfl) ?_
      refine lv_i2l hx hb dX8_scoped_37 rfl ?_
      refine lv_iload hx hb dX8_scoped_38 (lv_at hl 0 rfl) ?_
      refine lv_i2l hx hb dX8_scoped_40 rfl ?_
      refine lv_ladd hx hb dX8_scoped_41 ?_
      refine lv_iload_n hx hb dX8_scoped_42 rfl (lv_at hl 3 rfl) ?_
      refine lv_i2l hx hb dX8_scoped_43 rfl ?_
      refine W.lcmp hx hb dX8_scoped_44 ?_
      refine lv_if_le (tgt := 55) hx hb dX8_scoped_45 (by decide) (fun c12 => ?_) (fun c12 => ?_)
      · have hf := o_pos c12 hf
        refine lv_aload_n hx hb dX8_scoped_55 rfl (lv_at hl 1 rfl) ?_
        refine lv_iload_n hx hb dX8_scoped_56 rfl (lv_at hl 2 rfl) ?_
        refine lv_iconst (v := 4) hx hb dX8_scoped_57 nc_iconst_4 ?_
        refine lv_iadd hx hb dX8_scoped_58 ?_
        refine lv_iload_n hx hb dX8_scoped_59 rfl (lv_at hl 2 rfl) ?_
        refine lv_iload hx hb dX8_scoped_60 (lv_at hl 0 rfl) ?_
        refine lv_iadd hx hb dX8_scoped_62 ?_
        obtain ⟨h14, hf⟩ := o_ite hf
        obtain ⟨r16, μ15, h13, hf⟩ := o_bind2 hf
        refine pw_goI hw (pw_runV (As := [.int (a1 + 4), .int (a1 + r10)]) (rest := []) hC mm_X8_text tw_1287 (c_X8_text h13 _) (fio_MD d (by decide)) hw h14 rfl hl.1 (Nat.le_of_ble_eq_true rfl) ⟨Nat.zero_le _, Nat.zero_le _⟩ rfl dX8_scoped_63) (fun H locs hw => ?_)
        refine lv_istore (lv' := [(5, .int r16), (4, .int r10), (0, .ref a0), (1, .int a1), (2, .int a2), (3, .int a3)]) hx hb dX8_scoped_66 hl (by decide) rfl (fun ls hl => ?_)
        refine lv_iload hx hb dX8_scoped_68 (lv_at hl 0 rfl) ?_
        refine lv_if_ge (tgt := 75) hx hb dX8_scoped_70 (by decide) (fun c17 => ?_) (fun c17 => ?_)
        · have hf := o_pos c17 hf
          refine lv_aload_n hx hb dX8_scoped_75 rfl (lv_at hl 2 rfl) ?_
          refine lv_iload hx hb dX8_scoped_76 (lv_at hl 0 rfl) ?_
          refine lv_iload_n hx hb dX8_scoped_78 rfl (lv_at hl 3 rfl) ?_
          refine lv_iload hx hb dX8_scoped_79 (lv_at hl 1 rfl) ?_
          refine lv_iadd hx hb dX8_scoped_81 ?_
          refine lv_iload_n hx hb dX8_scoped_82 rfl (lv_at hl 5 rfl) ?_
          refine lv_iconst (v := 1) hx hb dX8_scoped_83 nc_iconst_1 ?_
          refine lv_iadd hx hb dX8_scoped_84 ?_
          refine lv_iconst (v := 0) hx hb dX8_scoped_85 nc_iconst_0 ?_
          obtain ⟨h19, hf⟩ := o_ite hf
          obtain ⟨r21, μ20, h18, hf⟩ := o_bind2 hf
          refine pw_goI hw (pw_runV (As := [.int r16, .int (a1 + r10), .int (a3 + 1), .int 0]) (rest := []) hC mm_X8_document tw_1233 (hr_X8_document h18 _) (fit_MD d (by decide)) hw h19 rfl hl.1 (Nat.le_of_ble_eq_true rfl) ⟨Nat.zero_le _, Nat.zero_le _⟩ rfl dX8_scoped_86) (fun H locs hw => ?_)
          refine lv_istore (lv' := [(5, .int r21), (4, .int r10), (0, .ref a0), (1, .int a1), (2, .int a2), (3, .int a3)]) hx hb dX8_scoped_89 hl (by decide) rfl (fun ls hl => ?_)
          refine lv_iload hx hb dX8_scoped_91 (lv_at hl 0 rfl) ?_
          refine lv_if_ge (tgt := 98) hx hb dX8_scoped_93 (by decide) (fun c22 => ?_) (fun c22 => ?_)
          · have hf := o_pos c22 hf
            refine lv_iload hx hb dX8_scoped_98 (lv_at hl 0 rfl) ?_
            refine lv_iload_n hx hb dX8_scoped_100 rfl (lv_at hl 3 rfl) ?_
            refine lv_iload hx hb dX8_scoped_101 (lv_at hl 1 rfl) ?_
            refine lv_iadd hx hb dX8_scoped_103 ?_
            refine lv_icmp_eq (tgt := 116) hx hb dX8_scoped_104 (by decide) (fun c23 => ?_) (fun c23 => ?_)
            · have hf := o_pos c23 hf
              refine lv_iload hx hb dX8_scoped_116 (lv_at hl 0 rfl) ?_
              obtain ⟨rfl, rfl⟩ := o_ret hf
              exact pw_iret hC hr hlocks hw dX8_scoped_118
            · have hf := o_neg c23 hf
              refine lv_aload_n hx hb dX8_scoped_107 rfl (lv_at hl 2 rfl) ?_
              refine lv_iconst (v := 2) hx hb dX8_scoped_108 nc_iconst_2 ?_
              refine lv_iload_n hx hb dX8_scoped_109 rfl (lv_at hl 3 rfl) ?_
              obtain ⟨h25, hf⟩ := o_ite hf
              obtain ⟨r27, μ26, h24, hf⟩ := o_bind2 hf
              refine pw_goI hw (pw_runV (As := [.int 2, .int a1]) (rest := []) hC mm_X8_wrong tw_1237 (c_X8_wrong h24 _) (fio_MD d (by decide)) hw h25 rfl hl.1 (Nat.le_of_ble_eq_true rfl) ⟨Nat.zero_le _, Nat.zero_le _⟩ rfl dX8_scoped_110) (fun H locs hw => ?_)
              refine lv_goto (tgt := 118) hx hb dX8_scoped_113 (by decide) ?_
              obtain ⟨rfl, rfl⟩ := o_ret hf
              exact pw_iret hC hr hlocks hw dX8_scoped_118
          · have hf := o_neg c22 hf
            refine lv_iconst (v := (-1)) hx hb dX8_scoped_96 nc_iconst_m1 ?_
            obtain ⟨rfl, rfl⟩ := o_ret hf
            exact pw_iret hC hr hlocks hw dX8_scoped_97
        · have hf := o_neg c17 hf
          refine lv_iconst (v := (-1)) hx hb dX8_scoped_73 nc_iconst_m1 ?_
          obtain ⟨rfl, rfl⟩ := o_ret hf
          exact pw_iret hC hr hlocks hw dX8_scoped_74
      · have hf := o_neg c12 hf
        refine lv_aload_n hx hb dX8_scoped_48 rfl (lv_at hl 1 rfl) ?_
        refine lv_iconst (v := 1) hx hb dX8_scoped_49 nc_iconst_1 ?_
        refine lv_iload_n hx hb dX8_scoped_50 rfl (lv_at hl 2 rfl) ?_
        obtain ⟨h29, hf⟩ := o_ite hf
        obtain ⟨r31, μ30, h28, hf⟩ := o_bind2 hf
        refine pw_goI hw (pw_runV (As := [.int 1, .int a1]) (rest := []) hC mm_X8_wrong tw_1237 (c_X8_wrong h28 _) (fio_MD d (by decide)) hw h29 rfl hl.1 (Nat.le_of_ble_eq_true rfl) ⟨Nat.zero_le _, Nat.zero_le _⟩ rfl dX8_scoped_51) (fun H locs hw => ?_)
        obtain ⟨rfl, rfl⟩ := o_ret hf
        exact pw_iret hC hr hlocks hw dX8_scoped_54
    · have hf := o_neg c11 hf
      refine lv_aload_n hx hb dX8_scoped_29 rfl (lv_at hl 1 rfl) ?_
      refine lv_iconst (v := 2) hx hb dX8_scoped_30 nc_iconst_2 ?_
      refine lv_iload_n hx hb dX8_scoped_31 rfl (lv_at hl 2 rfl) ?_
      obtain ⟨h33, hf⟩ := o_ite hf
      obtain ⟨r35, μ34, h32, hf⟩ := o_bind2 hf
      refine pw_goI hw (pw_runV (As := [.int 2, .int a1]) (rest := []) hC mm_X8_wrong tw_1237 (c_X8_wrong h32 _) (fio_MD d (by decide)) hw h33 rfl hl.1 (Nat.le_of_ble_eq_true rfl) ⟨Nat.zero_le _, Nat.zero_le _⟩ rfl dX8_scoped_32) (fun H locs hw => ?_)
      obtain ⟨rfl, rfl⟩ := o_ret hf
      exact pw_iret hC hr hlocks hw dX8_scoped_35
  · have hf := o_neg c5 hf
    refine lv_iconst (v := (-1)) hx hb dX8_scoped_10 nc_iconst_m1 ?_
    obtain ⟨rfl, rfl⟩ := o_ret hf
    exact pw_iret hC hr hlocks hw dX8_scoped_11
def g_MD (cy : Nat → ClassId) : Nat → (Nat → Int32 → Int32 → Int32 → Int32 → Mem → Option (Int32 × Mem)) × (Nat → Int32 → Int32 → Int32 → Int32 → Mem → Option (Int32 × Mem)) × (Nat → Int32 → Int32 → Int32 → Int32 → Mem → Option (Int32 × Mem)) × (Nat → Int32 → Int32 → Int32 → Mem → Option (Int32 × Mem))
  | 0 => (fun _ _ _ _ _ _ => none, fun _ _ _ _ _ _ => none, fun _ _ _ _ _ _ => none, fun _ _ _ _ _ => none)
  | d + 1 => (fo_X8_document cy (g_MD cy d).2.1, fo_X8_element cy (g_MD cy d).2.2.1, fo_X8_value cy (g_MD cy d).1 (g_MD cy d).2.2.2, fo_X8_scoped cy (g_MD cy d).1)
def f_X8_document (cy : Nat → ClassId) (d : Nat) : Nat → Int32 → Int32 → Int32 → Int32 → Mem → Option (Int32 × Mem) := (g_MD cy d).1
def f_X8_element (cy : Nat → ClassId) (d : Nat) : Nat → Int32 → Int32 → Int32 → Int32 → Mem → Option (Int32 × Mem) := (g_MD cy d).2.1
def f_X8_value (cy : Nat → ClassId) (d : Nat) : Nat → Int32 → Int32 → Int32 → Int32 → Mem → Option (Int32 × Mem) := (g_MD cy d).2.2.1
def f_X8_scoped (cy : Nat → ClassId) (d : Nat) : Nat → Int32 → Int32 → Int32 → Mem → Option (Int32 × Mem) := (g_MD cy d).2.2.2
theorem f_X8_document_s (cy : Nat → ClassId) (d : Nat) : f_X8_document cy (d + 1) = fo_X8_document cy (f_X8_element cy d) := rfl
theorem f_X8_element_s (cy : Nat → ClassId) (d : Nat) : f_X8_element cy (d + 1) = fo_X8_element cy (f_X8_value cy d) := rfl
theorem f_X8_value_s (cy : Nat → ClassId) (d : Nat) : f_X8_value cy (d + 1) = fo_X8_value cy (f_X8_document cy d) (f_X8_scoped cy d) := rfl
theorem f_X8_scoped_s (cy : Nat → ClassId) (d : Nat) : f_X8_scoped cy (d + 1) = fo_X8_scoped cy (f_X8_document cy d) := rfl
theorem ca_MD {l : Launch} {g : Wg} {L : List Nat} : ∀ (d : Nat), (∀ {a0 : Nat} {a1 : Int32} {a2 : Int32} {a3 : Int32} {a4 : Int32} {μ : Mem} {r9 : Int32} {μ9 : Mem}, f_X8_document g.2 d a0 a1 a2 a3 a4 μ = some (r9, μ9) → MetI l yX8_document cX8_document 9 (some .int) (rm_MD d) g L μ [.ref a0, .int a1, .int a2, .int a3, .int a4] r9 μ9) ∧ (∀ {a0 : Nat} {a1 : Int32} {a2 : Int32} {a3 : Int32} {a4 : Int32} {μ : Mem} {r9 : Int32} {μ9 : Mem}, f_X8_element g.2 d a0 a1 a2 a3 a4 μ = some (r9, μ9) → MetI l yX8_element cX8_element 7 (some .int) (rm_MD d) g L μ [.ref a0, .int a1, .int a2, .int a3, .int a4] r9 μ9) ∧ (∀ {a0 : Nat} {a1 : Int32} {a2 : Int32} {a3 : Int32} {a4 : Int32} {μ : Mem} {r9 : Int32} {μ9 : Mem}, f_X8_value g.2 d a0 a1 a2 a3 a4 μ = some (r9, μ9) → MetI l yX8_value cX8_value 6 (some .int) (rm_MD d) g L μ [.ref a0, .int a1, .int a2, .int a3, .int a4] r9 μ9) ∧ (∀ {a0 : Nat} {a1 : Int32} {a2 : Int32} {a3 : Int32} {μ : Mem} {r9 : Int32} {μ9 : Mem}, f_X8_scoped g.2 d a0 a1 a2 a3 μ = some (r9, μ9) → MetI l yX8_scoped cX8_scoped 6 (some .int) (rm_MD d) g L μ [.ref a0, .int a1, .int a2, .int a3] r9 μ9) := by
  intro d
  induction d with
  | zero => exact ⟨(fun h => by cases h), (fun h => by cases h), (fun h => by cases h), (fun h => by cases h)⟩
  | succ d ih =>
    obtain ⟨h0, h1, h2, h3⟩ := ih
    exact ⟨(fun h => co_X8_document h1 h), (fun h => co_X8_element h2 h), (fun h => co_X8_value h0 h3 h), (fun h => co_X8_scoped h0 h)⟩
theorem c_X8_document {l : Launch} {g : Wg} {L : List Nat} {d : Nat} {μ : Mem} {a0 : Nat} {a1 : Int32} {a2 : Int32} {a3 : Int32} {a4 : Int32} {r9 : Int32} {μ9 : Mem} (hf : f_X8_document g.2 d a0 a1 a2 a3 a4 μ = some (r9, μ9)) : MetI l yX8_document cX8_document 9 (some .int) (rm_MD d) g L μ [.ref a0, .int a1, .int a2, .int a3, .int a4] r9 μ9 := (ca_MD d).1 hf
theorem c_X8_element {l : Launch} {g : Wg} {L : List Nat} {d : Nat} {μ : Mem} {a0 : Nat} {a1 : Int32} {a2 : Int32} {a3 : Int32} {a4 : Int32} {r9 : Int32} {μ9 : Mem} (hf : f_X8_element g.2 d a0 a1 a2 a3 a4 μ = some (r9, μ9)) : MetI l yX8_element cX8_element 7 (some .int) (rm_MD d) g L μ [.ref a0, .int a1, .int a2, .int a3, .int a4] r9 μ9 := (ca_MD d).2.1 hf
theorem c_X8_value {l : Launch} {g : Wg} {L : List Nat} {d : Nat} {μ : Mem} {a0 : Nat} {a1 : Int32} {a2 : Int32} {a3 : Int32} {a4 : Int32} {r9 : Int32} {μ9 : Mem} (hf : f_X8_value g.2 d a0 a1 a2 a3 a4 μ = some (r9, μ9)) : MetI l yX8_value cX8_value 6 (some .int) (rm_MD d) g L μ [.ref a0, .int a1, .int a2, .int a3, .int a4] r9 μ9 := (ca_MD d).2.2.1 hf
theorem c_X8_scoped {l : Launch} {g : Wg} {L : List Nat} {d : Nat} {μ : Mem} {a0 : Nat} {a1 : Int32} {a2 : Int32} {a3 : Int32} {r9 : Int32} {μ9 : Mem} (hf : f_X8_scoped g.2 d a0 a1 a2 a3 μ = some (r9, μ9)) : MetI l yX8_scoped cX8_scoped 6 (some .int) (rm_MD d) g L μ [.ref a0, .int a1, .int a2, .int a3] r9 μ9 := (ca_MD d).2.2.2 hf
theorem dX8_isAll_0 : decode cX8_isAll 0 = .ok (.iload_n 1, 1) := by decide +kernel
theorem dX8_isAll_1 : decode cX8_isAll 1 = .ok (.ifCond .lt 19, 3) := by decide +kernel
theorem dX8_isAll_4 : decode cX8_isAll 4 = .ok (.iload_n 1, 1) := by decide +kernel
theorem dX8_isAll_5 : decode cX8_isAll 5 = .ok (.aload_n 0, 1) := by decide +kernel
theorem dX8_isAll_6 : decode cX8_isAll 6 = .ok (.getfield 103, 3) := by decide +kernel
theorem dX8_isAll_9 : decode cX8_isAll 9 = .ok (.if_icmp .ge 11, 3) := by decide +kernel
theorem dX8_isAll_12 : decode cX8_isAll 12 = .ok (.aload_n 0, 1) := by decide +kernel
theorem dX8_isAll_13 : decode cX8_isAll 13 = .ok (.bipush 9, 2) := by decide +kernel
theorem dX8_isAll_15 : decode cX8_isAll 15 = .ok (.iload_n 1, 1) := by decide +kernel
theorem dX8_isAll_16 : decode cX8_isAll 16 = .ok (.invokevirtual 109, 3) := by decide +kernel
theorem dX8_isAll_19 : decode cX8_isAll 19 = .ok (.pop, 1) := by decide +kernel
theorem dX8_isAll_20 : decode cX8_isAll 20 = .ok (.aload_n 0, 1) := by decide +kernel
theorem dX8_isAll_21 : decode cX8_isAll 21 = .ok (.getfield 106, 3) := by decide +kernel
theorem dX8_isAll_24 : decode cX8_isAll 24 = .ok (.ifCond .ne 7, 3) := by decide +kernel
theorem dX8_isAll_27 : decode cX8_isAll 27 = .ok (.iconst 1, 1) := by decide +kernel
theorem dX8_isAll_28 : decode cX8_isAll 28 = .ok (.goto 4, 3) := by decide +kernel
theorem dX8_isAll_31 : decode cX8_isAll 31 = .ok (.iconst 0, 1) := by decide +kernel
theorem dX8_isAll_32 : decode cX8_isAll 32 = .ok (.ireturn, 1) := by decide +kernel
abbrev rm_X8_isAll : Room := { frames := 1, cells := 0, slots := 0, locals := 22 }
def f_X8_isAll_L20 (cy : Nat → ClassId) (a0 : Nat) (μ : Mem) : Option (Int32 × Mem) :=
  (rdI μ a0 7 3).bind fun v101 => if v101 = 0 then (some (1, μ)) else some (0, μ)
set_option maxRecDepth 100000 in
set_option maxHeartbeats 4000000 in
theorem w_X8_isAll_L20 {p : Program} {l : Launch} {e : Env} {s : State} {m : MethodId} {args : Array Value} {below : List Frame} {meth : Method} {c : Code} {A : Nat → Prop} {g : Wg} {L : List Nat} {r : Int32} {μ' : Mem} (hC : CX p m c cX8_isAll 2 s args RX8) (hr : meth.sig.returnType = (some .boolean)) (hlocks : meth.locks = false) : ∀ (a0 : Nat) (μ : Mem) (H : Heap) (locs : List Loc) (ls : Array Slot), lv_has ls 2 [(0, .ref a0)] → PW g L μ A s H locs → f_X8_isAll_L20 g.2 a0 μ = some (r, μ') → W p l e rm_X8_isAll s m args below meth c H locs 0 0 (MQ below (QI g L A r μ') args s 0 0 A) (F0 m 20 ls []) := by
  have hx := hC.1
  have hb := hC.2.1
  intro a0 μ H locs ls hl hw hf
  unfold f_X8_isAll_L20 at hf
  refine lv_aload_n hx hb dX8_isAll_20 rfl (lv_at hl 0 rfl) ?_
  obtain ⟨v101, h102, hf⟩ := o_bind hf
  refine pw_get hC fl_X8_106 hw (rdI_F h102) dX8_isAll_21 ?_
  refine lv_if_ne (tgt := 31) hx hb dX8_isAll_24 (by decide) (fun c103 => ?_) (fun c103 => ?_)
  · have hf := o_neg c103 hf
    refine lv_iconst (v := 0) hx hb dX8_isAll_31 nc_iconst_0 ?_
    obtain ⟨rfl, rfl⟩ := o_ret hf
    exact pw_zret hC hr hlocks (Or.inl rfl) hw dX8_isAll_32
  · have hf := o_pos c103 hf
    refine lv_iconst (v := 1) hx hb dX8_isAll_27 nc_iconst_1 ?_
    refine lv_goto (tgt := 32) hx hb dX8_isAll_28 (by decide) ?_
    obtain ⟨rfl, rfl⟩ := o_ret hf
    exact pw_zret hC hr hlocks (Or.inr rfl) hw dX8_isAll_32
def f_X8_isAll (cy : Nat → ClassId) (a0 : Nat) (a1 : Int32) (μ : Mem) : Option (Int32 × Mem) :=
  if a1 < 0 then (f_X8_isAll_L20 cy a0 μ) else (rdI μ a0 7 2).bind fun v2 => if v2 ≤ a1 then (f_X8_isAll_L20 cy a0 μ) else if isO μ a0 7 = true then (ob2 (f_X8_wrong cy a0 9 a1 μ) fun r8 μ7 => f_X8_isAll_L20 cy a0 μ7) else none
set_option maxRecDepth 100000 in
set_option maxHeartbeats 4000000 in
theorem c_X8_isAll {l : Launch} {g : Wg} {L : List Nat} {μ : Mem} {a0 : Nat} {a1 : Int32} {r : Int32} {μ' : Mem} (hf : f_X8_isAll g.2 a0 a1 μ = some (r, μ')) : MetI l yX8_isAll cX8_isAll 2 (some .boolean) rm_X8_isAll g L μ [.ref a0, .int a1] r μ' := by
  refine pw_met (Qc := fun A => QI g L A r μ') (by decide) (Nat.le_of_ble_eq_true rfl) ?_
  intro p e s m args below meth c A ls H locs hC hr hlocks hl hw
  have hx := hC.1
  have hb := hC.2.1
  have hl : lv_has ls 2 [(0, .ref a0), (1, .int a1)] := hl
  unfold f_X8_isAll at hf
  refine lv_iload_n hx hb dX8_isAll_0 rfl (lv_at hl 1 rfl) ?_
  refine lv_if_lt (tgt := 20) hx hb dX8_isAll_1 (by decide) (fun c1 => ?_) (fun c1 => ?_)
  · have hf := o_pos c1 hf
    exact w_X8_isAll_L20 hC hr hlocks _ _ _ _ ls (lv_sub hl [0] rfl) hw hf
  · have hf := o_neg c1 hf
    refine lv_iload_n hx hb dX8_isAll_4 rfl (lv_at hl 1 rfl) ?_
    refine lv_aload_n hx hb dX8_isAll_5 rfl (lv_at hl 0 rfl) ?_
    obtain ⟨v2, h3, hf⟩ := o_bind hf
    refine pw_get hC fl_X8_103 hw (rdI_F h3) dX8_isAll_6 ?_
    refine lv_icmp_ge (tgt := 20) hx hb dX8_isAll_9 (by decide) (fun c4 => ?_) (fun c4 => ?_)
    · have hf := o_pos c4 hf
      exact w_X8_isAll_L20 hC hr hlocks _ _ _ _ ls (lv_sub hl [0] rfl) hw hf
    · have hf := o_neg c4 hf
      refine lv_aload_n hx hb dX8_isAll_12 rfl (lv_at hl 0 rfl) ?_
      refine lv_bipush (v := 9) hx hb dX8_isAll_13 nc_bipush_9 ?_
      refine lv_iload_n hx hb dX8_isAll_15 rfl (lv_at hl 1 rfl) ?_
      obtain ⟨h6, hf⟩ := o_ite hf
      obtain ⟨r8, μ7, h5, hf⟩ := o_bind2 hf
      refine pw_goI hw (pw_runV (As := [.int 9, .int a1]) (rest := []) hC mm_X8_wrong tw_1237 (c_X8_wrong h5 _) ⟨rfl, rfl, by decide, by decide⟩ hw h6 rfl hl.1 (Nat.le_of_ble_eq_true rfl) ⟨Nat.zero_le _, Nat.zero_le _⟩ rfl dX8_isAll_16) (fun H locs hw => ?_)
      refine lv_pop hx hb dX8_isAll_19 rfl ?_
      exact w_X8_isAll_L20 hC hr hlocks _ _ _ _ ls (lv_sub hl [0] rfl) hw hf
theorem dX8_fault_0 : decode cX8_fault 0 = .ok (.aload_n 0, 1) := by decide +kernel
theorem dX8_fault_1 : decode cX8_fault 1 = .ok (.iconst 0, 1) := by decide +kernel
theorem dX8_fault_2 : decode cX8_fault 2 = .ok (.putfield 1, 3) := by decide +kernel
theorem dX8_fault_5 : decode cX8_fault 5 = .ok (.iload_n 1, 1) := by decide +kernel
theorem dX8_fault_6 : decode cX8_fault 6 = .ok (.ifCond .ne 10, 3) := by decide +kernel
theorem dX8_fault_9 : decode cX8_fault 9 = .ok (.aload_n 0, 1) := by decide +kernel
theorem dX8_fault_10 : decode cX8_fault 10 = .ok (.getfield 106, 3) := by decide +kernel
theorem dX8_fault_13 : decode cX8_fault 13 = .ok (.goto 16, 3) := by decide +kernel
theorem dX8_fault_16 : decode cX8_fault 16 = .ok (.iload_n 1, 1) := by decide +kernel
theorem dX8_fault_17 : decode cX8_fault 17 = .ok (.iconst 1, 1) := by decide +kernel
theorem dX8_fault_18 : decode cX8_fault 18 = .ok (.if_icmp .ne 10, 3) := by decide +kernel
theorem dX8_fault_21 : decode cX8_fault 21 = .ok (.aload_n 0, 1) := by decide +kernel
theorem dX8_fault_22 : decode cX8_fault 22 = .ok (.getfield 17, 3) := by decide +kernel
theorem dX8_fault_25 : decode cX8_fault 25 = .ok (.goto 4, 3) := by decide +kernel
theorem dX8_fault_28 : decode cX8_fault 28 = .ok (.iconst (-1), 1) := by decide +kernel
theorem dX8_fault_29 : decode cX8_fault 29 = .ok (.ireturn, 1) := by decide +kernel
abbrev rm_X8_fault : Room := { frames := 0, cells := 0, slots := 0, locals := 0 }
def f_X8_fault (cy : Nat → ClassId) (a0 : Nat) (a1 : Int32) (μ : Mem) : Option (Int32 × Mem) :=
  (wrF μ a0 7 0 (.int 0)).bind fun μ1 => if a1 = 0 then ((rdI μ1 a0 7 3).bind fun v7 => some (v7, μ1)) else if a1 = 1 then ((rdI μ1 a0 7 4).bind fun v5 => some (v5, μ1)) else some ((-1), μ1)
set_option maxRecDepth 100000 in
set_option maxHeartbeats 4000000 in
theorem c_X8_fault {l : Launch} {g : Wg} {L : List Nat} {μ : Mem} {a0 : Nat} {a1 : Int32} {r : Int32} {μ' : Mem} (hf : f_X8_fault g.2 a0 a1 μ = some (r, μ')) : MetI l yX8_fault cX8_fault 2 (some .int) rm_X8_fault g L μ [.ref a0, .int a1] r μ' := by
  refine pw_met (Qc := fun A => QI g L A r μ') (by decide) (Nat.le_of_ble_eq_true rfl) ?_
  intro p e s m args below meth c A ls H locs hC hr hlocks hl hw
  have hx := hC.1
  have hb := hC.2.1
  have hl : lv_has ls 2 [(0, .ref a0), (1, .int a1)] := hl
  unfold f_X8_fault at hf
  refine lv_aload_n hx hb dX8_fault_0 rfl (lv_at hl 0 rfl) ?_
  refine lv_iconst (v := 0) hx hb dX8_fault_1 nc_iconst_0 ?_
  obtain ⟨μ1, h2, hf⟩ := o_bind hf
  refine pw_put hC fl_X8_1 hw h2 .int fd_X8_0 rfl rfl dX8_fault_2 (fun H locs hw => ?_)
  refine lv_iload_n hx hb dX8_fault_5 rfl (lv_at hl 1 rfl) ?_
  refine lv_if_ne (tgt := 16) hx hb dX8_fault_6 (by decide) (fun c3 => ?_) (fun c3 => ?_)
  · have hf := o_neg c3 hf
    refine lv_iload_n hx hb dX8_fault_16 rfl (lv_at hl 1 rfl) ?_
    refine lv_iconst (v := 1) hx hb dX8_fault_17 nc_iconst_1 ?_
    refine lv_icmp_ne (tgt := 28) hx hb dX8_fault_18 (by decide) (fun c4 => ?_) (fun c4 => ?_)
    · have hf := o_neg c4 hf
      refine lv_iconst (v := (-1)) hx hb dX8_fault_28 nc_iconst_m1 ?_
      obtain ⟨rfl, rfl⟩ := o_ret hf
      exact pw_iret hC hr hlocks hw dX8_fault_29
    · have hf := o_pos c4 hf
      refine lv_aload_n hx hb dX8_fault_21 rfl (lv_at hl 0 rfl) ?_
      obtain ⟨v5, h6, hf⟩ := o_bind hf
      refine pw_get hC fl_X8_17 hw (rdI_F h6) dX8_fault_22 ?_
      refine lv_goto (tgt := 29) hx hb dX8_fault_25 (by decide) ?_
      obtain ⟨rfl, rfl⟩ := o_ret hf
      exact pw_iret hC hr hlocks hw dX8_fault_29
  · have hf := o_pos c3 hf
    refine lv_aload_n hx hb dX8_fault_9 rfl (lv_at hl 0 rfl) ?_
    obtain ⟨v7, h8, hf⟩ := o_bind hf
    refine pw_get hC fl_X8_106 hw (rdI_F h8) dX8_fault_10 ?_
    refine lv_goto (tgt := 29) hx hb dX8_fault_13 (by decide) ?_
    obtain ⟨rfl, rfl⟩ := o_ret hf
    exact pw_iret hC hr hlocks hw dX8_fault_29
theorem dX8_stands_0 : decode cX8_stands 0 = .ok (.iconst 0, 1) := by decide +kernel
theorem dX8_stands_1 : decode cX8_stands 1 = .ok (.istore_n 3, 1) := by decide +kernel
theorem dX8_stands_2 : decode cX8_stands 2 = .ok (.iconst 0, 1) := by decide +kernel
theorem dX8_stands_3 : decode cX8_stands 3 = .ok (.istore 4, 2) := by decide +kernel
theorem dX8_stands_5 : decode cX8_stands 5 = .ok (.iload 4, 2) := by decide +kernel
theorem dX8_stands_7 : decode cX8_stands 7 = .ok (.aload_n 0, 1) := by decide +kernel
theorem dX8_stands_8 : decode cX8_stands 8 = .ok (.getfield 34, 3) := by decide +kernel
theorem dX8_stands_11 : decode cX8_stands 11 = .ok (.iload_n 2, 1) := by decide +kernel
theorem dX8_stands_12 : decode cX8_stands 12 = .ok (.iaload, 1) := by decide +kernel
theorem dX8_stands_13 : decode cX8_stands 13 = .ok (.if_icmp .ge 24, 3) := by decide +kernel
theorem dX8_stands_16 : decode cX8_stands 16 = .ok (.aload_n 1, 1) := by decide +kernel
theorem dX8_stands_17 : decode cX8_stands 17 = .ok (.iload_n 3, 1) := by decide +kernel
theorem dX8_stands_18 : decode cX8_stands 18 = .ok (.aload_n 0, 1) := by decide +kernel
theorem dX8_stands_19 : decode cX8_stands 19 = .ok (.getfield 31, 3) := by decide +kernel
theorem dX8_stands_22 : decode cX8_stands 22 = .ok (.iload_n 2, 1) := by decide +kernel
theorem dX8_stands_23 : decode cX8_stands 23 = .ok (.aaload, 1) := by decide +kernel
theorem dX8_stands_24 : decode cX8_stands 24 = .ok (.iload 4, 2) := by decide +kernel
theorem dX8_stands_26 : decode cX8_stands 26 = .ok (.iaload, 1) := by decide +kernel
theorem dX8_stands_27 : decode cX8_stands 27 = .ok (.invokevirtual 180, 3) := by decide +kernel
theorem dX8_stands_30 : decode cX8_stands 30 = .ok (.istore_n 3, 1) := by decide +kernel
theorem dX8_stands_31 : decode cX8_stands 31 = .ok (.iinc 4 1, 3) := by decide +kernel
theorem dX8_stands_34 : decode cX8_stands 34 = .ok (.goto (-29), 3) := by decide +kernel
theorem dX8_stands_37 : decode cX8_stands 37 = .ok (.iload_n 3, 1) := by decide +kernel
theorem dX8_stands_38 : decode cX8_stands 38 = .ok (.ireturn, 1) := by decide +kernel
abbrev rm_X8_stands : Room := { frames := 1, cells := 0, slots := 0, locals := 24 }
def f_X8_stands_L5 (cy : Nat → ClassId) : Nat → Nat → Nat → Int32 → Int32 → Int32 → Mem → Option (Int32 × Mem)
  | 0, _, _, _, _, _, _ => none
  | n + 1, a0, a1, a2, a3, a4, μ => (rdR μ a0 7 8).bind fun q101 => (rdA cy μ 1 q101 a2).bind fun v103 => if v103 ≤ a4 then (some (a3, μ)) else (rdR μ a0 7 7).bind fun q106 => (rdQ cy μ 6 q106 a2).bind fun q108 => (rdA cy μ 1 q108 a4).bind fun v110 => if isO μ a1 6 = true then (ob2 (f_X7_child cy a1 a3 v110 μ) fun r115 μ114 => f_X8_stands_L5 cy n a0 a1 a2 r115 (a4 + 1) μ114) else none
set_option maxRecDepth 100000 in
set_option maxHeartbeats 4000000 in
theorem w_X8_stands_L5 {p : Program} {l : Launch} {e : Env} {s : State} {m : MethodId} {args : Array Value} {below : List Frame} {meth : Method} {c : Code} {A : Nat → Prop} {g : Wg} {L : List Nat} {r : Int32} {μ' : Mem} (hC : CX p m c cX8_stands 5 s args RX8) (hr : meth.sig.returnType = (some .int)) (hlocks : meth.locks = false) : ∀ (n : Nat), ∀ (a0 : Nat) (a1 : Nat) (a2 : Int32) (a3 : Int32) (a4 : Int32) (μ : Mem) (H : Heap) (locs : List Loc) (ls : Array Slot), lv_has ls 5 [(0, .ref a0), (1, .ref a1), (2, .int a2), (3, .int a3), (4, .int a4)] → PW g L μ A s H locs → f_X8_stands_L5 g.2 n a0 a1 a2 a3 a4 μ = some (r, μ') → W p l e rm_X8_stands s m args below meth c H locs 0 0 (MQ below (QI g L A r μ') args s 0 0 A) (F0 m 5 ls []) := by
  have hx := hC.1
  have hb := hC.2.1
  intro n
  induction n with
  | zero => intro a0 a1 a2 a3 a4 μ H locs ls hl hw hf; cases hf
  | succ n ih =>
    intro a0 a1 a2 a3 a4 μ H locs ls hl hw hf
    rw [f_X8_stands_L5] at hf
    refine lv_iload hx hb dX8_stands_5 (lv_at hl 4 rfl) ?_
    refine lv_aload_n hx hb dX8_stands_7 rfl (lv_at hl 0 rfl) ?_
    obtain ⟨q101, h102, hf⟩ := o_bind hf
    refine pw_get hC fl_X8_34 hw (rdR_F h102) dX8_stands_8 ?_
    refine lv_iload_n hx hb dX8_stands_11 rfl (lv_at hl 2 rfl) ?_
    obtain ⟨v103, h104, hf⟩ := o_bind hf
    refine pw_iald hC hw h104 dX8_stands_12 ?_
    refine lv_icmp_ge (tgt := 37) hx hb dX8_stands_13 (by decide) (fun c105 => ?_) (fun c105 => ?_)
    · have hf := o_pos c105 hf
      refine lv_iload_n hx hb dX8_stands_37 rfl (lv_at hl 3 rfl) ?_
      obtain ⟨rfl, rfl⟩ := o_ret hf
      exact pw_iret hC hr hlocks hw dX8_stands_38
    · have hf := o_neg c105 hf
      refine lv_aload_n hx hb dX8_stands_16 rfl (lv_at hl 1 rfl) ?_
      refine lv_iload_n hx hb dX8_stands_17 rfl (lv_at hl 3 rfl) ?_
      refine lv_aload_n hx hb dX8_stands_18 rfl (lv_at hl 0 rfl) ?_
      obtain ⟨q106, h107, hf⟩ := o_bind hf
      refine pw_get hC fl_X8_31 hw (rdR_F h107) dX8_stands_19 ?_
      refine lv_iload_n hx hb dX8_stands_22 rfl (lv_at hl 2 rfl) ?_
      obtain ⟨q108, h109, hf⟩ := o_bind hf
      refine pw_aald hC hw 6 rfl rfl h109 dX8_stands_23 ?_
      refine lv_iload hx hb dX8_stands_24 (lv_at hl 4 rfl) ?_
      obtain ⟨v110, h111, hf⟩ := o_bind hf
      refine pw_iald hC hw h111 dX8_stands_26 ?_
      obtain ⟨h113, hf⟩ := o_ite hf
      obtain ⟨r115, μ114, h112, hf⟩ := o_bind2 hf
      refine pw_goI hw (pw_runV (As := [.int a3, .int v110]) (rest := []) hC mm_X7_child tw_1346 (c_X7_child h112 _) ⟨rfl, rfl, by decide, by decide⟩ hw h113 rfl hl.1 (Nat.le_of_ble_eq_true rfl) ⟨Nat.zero_le _, Nat.zero_le _⟩ rfl dX8_stands_27) (fun H locs hw => ?_)
      refine lv_istore_n (lv' := [(3, .int r115), (0, .ref a0), (1, .ref a1), (2, .int a2), (4, .int a4)]) hx hb dX8_stands_30 rfl hl (by decide) rfl (fun ls hl => ?_)
      refine lv_iinc (v := (a4 + 1)) (lv' := [(4, .int (a4 + 1)), (3, .int r115), (0, .ref a0), (1, .ref a1), (2, .int a2)]) hx hb dX8_stands_31 hl (k := 4) rfl (by first | rfl | decide +kernel) (by decide) rfl (fun ls hl => ?_)
      refine lv_goto (tgt := 5) hx hb dX8_stands_34 (by decide) ?_
      exact ih _ _ _ _ _ _ _ _ ls (lv_sub hl [2, 3, 4, 1, 0] rfl) hw hf
def f_X8_stands (cy : Nat → ClassId) (a0 : Nat) (a1 : Nat) (a2 : Int32) (μ : Mem) : Option (Int32 × Mem) :=
  f_X8_stands_L5 cy FU a0 a1 a2 0 0 μ
set_option maxRecDepth 100000 in
set_option maxHeartbeats 4000000 in
theorem c_X8_stands {l : Launch} {g : Wg} {L : List Nat} {μ : Mem} {a0 : Nat} {a1 : Nat} {a2 : Int32} {r : Int32} {μ' : Mem} (hf : f_X8_stands g.2 a0 a1 a2 μ = some (r, μ')) : MetI l yX8_stands cX8_stands 5 (some .int) rm_X8_stands g L μ [.ref a0, .ref a1, .int a2] r μ' := by
  refine pw_met (Qc := fun A => QI g L A r μ') (by decide) (Nat.le_of_ble_eq_true rfl) ?_
  intro p e s m args below meth c A ls H locs hC hr hlocks hl hw
  have hx := hC.1
  have hb := hC.2.1
  have hl : lv_has ls 5 [(0, .ref a0), (1, .ref a1), (2, .int a2)] := hl
  unfold f_X8_stands at hf
  refine lv_iconst (v := 0) hx hb dX8_stands_0 nc_iconst_0 ?_
  refine lv_istore_n (lv' := [(3, .int 0), (0, .ref a0), (1, .ref a1), (2, .int a2)]) hx hb dX8_stands_1 rfl hl (by decide) rfl (fun ls hl => ?_)
  refine lv_iconst (v := 0) hx hb dX8_stands_2 nc_iconst_0 ?_
  refine lv_istore (lv' := [(4, .int 0), (3, .int 0), (0, .ref a0), (1, .ref a1), (2, .int a2)]) hx hb dX8_stands_3 hl (by decide) rfl (fun ls hl => ?_)
  exact w_X8_stands_L5 hC hr hlocks FU _ _ _ _ _ _ _ _ ls (lv_sub hl [2, 3, 4, 1, 0] rfl) hw hf
theorem dX8_noShelf_0 : decode cX8_noShelf 0 = .ok (.iload_n 1, 1) := by decide +kernel
theorem dX8_noShelf_1 : decode cX8_noShelf 1 = .ok (.ifCond .lt 8, 3) := by decide +kernel
theorem dX8_noShelf_4 : decode cX8_noShelf 4 = .ok (.iload_n 1, 1) := by decide +kernel
theorem dX8_noShelf_5 : decode cX8_noShelf 5 = .ok (.iconst 3, 1) := by decide +kernel
theorem dX8_noShelf_6 : decode cX8_noShelf 6 = .ok (.if_icmp .le 7, 3) := by decide +kernel
theorem dX8_noShelf_9 : decode cX8_noShelf 9 = .ok (.iconst 1, 1) := by decide +kernel
theorem dX8_noShelf_10 : decode cX8_noShelf 10 = .ok (.goto 4, 3) := by decide +kernel
theorem dX8_noShelf_13 : decode cX8_noShelf 13 = .ok (.iconst 0, 1) := by decide +kernel
theorem dX8_noShelf_14 : decode cX8_noShelf 14 = .ok (.istore_n 2, 1) := by decide +kernel
theorem dX8_noShelf_15 : decode cX8_noShelf 15 = .ok (.aload_n 0, 1) := by decide +kernel
theorem dX8_noShelf_16 : decode cX8_noShelf 16 = .ok (.iload_n 2, 1) := by decide +kernel
theorem dX8_noShelf_17 : decode cX8_noShelf 17 = .ok (.ifCond .eq 7, 3) := by decide +kernel
theorem dX8_noShelf_20 : decode cX8_noShelf 20 = .ok (.iconst 1, 1) := by decide +kernel
theorem dX8_noShelf_21 : decode cX8_noShelf 21 = .ok (.goto 4, 3) := by decide +kernel
theorem dX8_noShelf_24 : decode cX8_noShelf 24 = .ok (.iconst 0, 1) := by decide +kernel
theorem dX8_noShelf_25 : decode cX8_noShelf 25 = .ok (.putfield 1, 3) := by decide +kernel
theorem dX8_noShelf_28 : decode cX8_noShelf 28 = .ok (.iload_n 2, 1) := by decide +kernel
theorem dX8_noShelf_29 : decode cX8_noShelf 29 = .ok (.ireturn, 1) := by decide +kernel
abbrev rm_X8_noShelf : Room := { frames := 0, cells := 0, slots := 0, locals := 0 }
def f_X8_noShelf_L25 (cy : Nat → ClassId) (a2 : Int32) (t0 : Nat) (t1 : Int32) (μ : Mem) : Option (Int32 × Mem) :=
  (wrF μ t0 7 0 (.int t1)).bind fun μ101 => if a2 = 0 ∨ a2 = 1 then some (a2, μ101) else none
set_option maxRecDepth 100000 in
set_option maxHeartbeats 4000000 in
theorem w_X8_noShelf_L25 {p : Program} {l : Launch} {e : Env} {s : State} {m : MethodId} {args : Array Value} {below : List Frame} {meth : Method} {c : Code} {A : Nat → Prop} {g : Wg} {L : List Nat} {r : Int32} {μ' : Mem} (hC : CX p m c cX8_noShelf 3 s args RX8) (hr : meth.sig.returnType = (some .boolean)) (hlocks : meth.locks = false) : ∀ (a2 : Int32) (t0 : Nat) (t1 : Int32) (μ : Mem) (H : Heap) (locs : List Loc) (ls : Array Slot), lv_has ls 3 [(2, .int a2)] → PW g L μ A s H locs → f_X8_noShelf_L25 g.2 a2 t0 t1 μ = some (r, μ') → W p l e rm_X8_noShelf s m args below meth c H locs 0 0 (MQ below (QI g L A r μ') args s 0 0 A) (F0 m 25 ls [.int t1, .ref t0]) := by
  have hx := hC.1
  have hb := hC.2.1
  intro a2 t0 t1 μ H locs ls hl hw hf
  unfold f_X8_noShelf_L25 at hf
  obtain ⟨μ101, h102, hf⟩ := o_bind hf
  refine pw_put hC fl_X8_1 hw h102 .int fd_X8_0 rfl rfl dX8_noShelf_25 (fun H locs hw => ?_)
  refine lv_iload_n hx hb dX8_noShelf_28 rfl (lv_at hl 0 rfl) ?_
  obtain ⟨h103, hf⟩ := o_ite hf
  obtain ⟨rfl, rfl⟩ := o_ret hf
  exact pw_zret hC hr hlocks h103 hw dX8_noShelf_29
def f_X8_noShelf_L14 (cy : Nat → ClassId) (a0 : Nat) (t0 : Int32) (μ : Mem) : Option (Int32 × Mem) :=
  if t0 = 0 then (f_X8_noShelf_L25 cy t0 a0 0 μ) else f_X8_noShelf_L25 cy t0 a0 1 μ
set_option maxRecDepth 100000 in
set_option maxHeartbeats 4000000 in
theorem w_X8_noShelf_L14 {p : Program} {l : Launch} {e : Env} {s : State} {m : MethodId} {args : Array Value} {below : List Frame} {meth : Method} {c : Code} {A : Nat → Prop} {g : Wg} {L : List Nat} {r : Int32} {μ' : Mem} (hC : CX p m c cX8_noShelf 3 s args RX8) (hr : meth.sig.returnType = (some .boolean)) (hlocks : meth.locks = false) : ∀ (a0 : Nat) (t0 : Int32) (μ : Mem) (H : Heap) (locs : List Loc) (ls : Array Slot), lv_has ls 3 [(0, .ref a0)] → PW g L μ A s H locs → f_X8_noShelf_L14 g.2 a0 t0 μ = some (r, μ') → W p l e rm_X8_noShelf s m args below meth c H locs 0 0 (MQ below (QI g L A r μ') args s 0 0 A) (F0 m 14 ls [.int t0]) := by
  have hx := hC.1
  have hb := hC.2.1
  intro a0 t0 μ H locs ls hl hw hf
  unfold f_X8_noShelf_L14 at hf
  refine lv_istore_n (lv' := [(2, .int t0), (0, .ref a0)]) hx hb dX8_noShelf_14 rfl hl (by decide) rfl (fun ls hl => ?_)
  refine lv_aload_n hx hb dX8_noShelf_15 rfl (lv_at hl 1 rfl) ?_
  refine lv_iload_n hx hb dX8_noShelf_16 rfl (lv_at hl 0 rfl) ?_
  refine lv_if_eq (tgt := 24) hx hb dX8_noShelf_17 (by decide) (fun c101 => ?_) (fun c101 => ?_)
  · have hf := o_pos c101 hf
    refine lv_iconst (v := 0) hx hb dX8_noShelf_24 nc_iconst_0 ?_
    exact w_X8_noShelf_L25 hC hr hlocks _ _ _ _ _ _ ls (lv_sub hl [0] rfl) hw hf
  · have hf := o_neg c101 hf
    refine lv_iconst (v := 1) hx hb dX8_noShelf_20 nc_iconst_1 ?_
    refine lv_goto (tgt := 25) hx hb dX8_noShelf_21 (by decide) ?_
    exact w_X8_noShelf_L25 hC hr hlocks _ _ _ _ _ _ ls (lv_sub hl [0] rfl) hw hf
def f_X8_noShelf_L9 (cy : Nat → ClassId) (a0 : Nat) (μ : Mem) : Option (Int32 × Mem) :=
  f_X8_noShelf_L14 cy a0 1 μ
set_option maxRecDepth 100000 in
set_option maxHeartbeats 4000000 in
theorem w_X8_noShelf_L9 {p : Program} {l : Launch} {e : Env} {s : State} {m : MethodId} {args : Array Value} {below : List Frame} {meth : Method} {c : Code} {A : Nat → Prop} {g : Wg} {L : List Nat} {r : Int32} {μ' : Mem} (hC : CX p m c cX8_noShelf 3 s args RX8) (hr : meth.sig.returnType = (some .boolean)) (hlocks : meth.locks = false) : ∀ (a0 : Nat) (μ : Mem) (H : Heap) (locs : List Loc) (ls : Array Slot), lv_has ls 3 [(0, .ref a0)] → PW g L μ A s H locs → f_X8_noShelf_L9 g.2 a0 μ = some (r, μ') → W p l e rm_X8_noShelf s m args below meth c H locs 0 0 (MQ below (QI g L A r μ') args s 0 0 A) (F0 m 9 ls []) := by
  have hx := hC.1
  have hb := hC.2.1
  intro a0 μ H locs ls hl hw hf
  unfold f_X8_noShelf_L9 at hf
  refine lv_iconst (v := 1) hx hb dX8_noShelf_9 nc_iconst_1 ?_
  refine lv_goto (tgt := 14) hx hb dX8_noShelf_10 (by decide) ?_
  exact w_X8_noShelf_L14 hC hr hlocks _ _ _ _ _ ls (lv_sub hl [0] rfl) hw hf
def f_X8_noShelf (cy : Nat → ClassId) (a0 : Nat) (a1 : Int32) (μ : Mem) : Option (Int32 × Mem) :=
  if a1 < 0 then (f_X8_noShelf_L9 cy a0 μ) else if a1 ≤ 3 then (f_X8_noShelf_L14 cy a0 0 μ) else f_X8_noShelf_L9 cy a0 μ
set_option maxRecDepth 100000 in
set_option maxHeartbeats 4000000 in
theorem c_X8_noShelf {l : Launch} {g : Wg} {L : List Nat} {μ : Mem} {a0 : Nat} {a1 : Int32} {r : Int32} {μ' : Mem} (hf : f_X8_noShelf g.2 a0 a1 μ = some (r, μ')) : MetI l yX8_noShelf cX8_noShelf 3 (some .boolean) rm_X8_noShelf g L μ [.ref a0, .int a1] r μ' := by
  refine pw_met (Qc := fun A => QI g L A r μ') (by decide) (Nat.le_of_ble_eq_true rfl) ?_
  intro p e s m args below meth c A ls H locs hC hr hlocks hl hw
  have hx := hC.1
  have hb := hC.2.1
  have hl : lv_has ls 3 [(0, .ref a0), (1, .int a1)] := hl
  unfold f_X8_noShelf at hf
  refine lv_iload_n hx hb dX8_noShelf_0 rfl (lv_at hl 1 rfl) ?_
  refine lv_if_lt (tgt := 9) hx hb dX8_noShelf_1 (by decide) (fun c1 => ?_) (fun c1 => ?_)
  · have hf := o_pos c1 hf
    exact w_X8_noShelf_L9 hC hr hlocks _ _ _ _ ls (lv_sub hl [0] rfl) hw hf
  · have hf := o_neg c1 hf
    refine lv_iload_n hx hb dX8_noShelf_4 rfl (lv_at hl 1 rfl) ?_
    refine lv_iconst (v := 3) hx hb dX8_noShelf_5 nc_iconst_3 ?_
    refine lv_icmp_le (tgt := 13) hx hb dX8_noShelf_6 (by decide) (fun c2 => ?_) (fun c2 => ?_)
    · have hf := o_pos c2 hf
      refine lv_iconst (v := 0) hx hb dX8_noShelf_13 nc_iconst_0 ?_
      exact w_X8_noShelf_L14 hC hr hlocks _ _ _ _ _ ls (lv_sub hl [0] rfl) hw hf
    · have hf := o_neg c2 hf
      exact w_X8_noShelf_L9 hC hr hlocks _ _ _ _ ls (lv_sub hl [0] rfl) hw hf
theorem dX8_throwsIf_0 : decode cX8_throwsIf 0 = .ok (.iload_n 1, 1) := by decide +kernel
theorem dX8_throwsIf_1 : decode cX8_throwsIf 1 = .ok (.ifCond .eq 8, 3) := by decide +kernel
theorem dX8_throwsIf_4 : decode cX8_throwsIf 4 = .ok (.aload_n 0, 1) := by decide +kernel
theorem dX8_throwsIf_5 : decode cX8_throwsIf 5 = .ok (.iload_n 2, 1) := by decide +kernel
theorem dX8_throwsIf_6 : decode cX8_throwsIf 6 = .ok (.putfield 1, 3) := by decide +kernel
theorem dX8_throwsIf_9 : decode cX8_throwsIf 9 = .ok (.iload_n 1, 1) := by decide +kernel
theorem dX8_throwsIf_10 : decode cX8_throwsIf 10 = .ok (.ireturn, 1) := by decide +kernel
abbrev rm_X8_throwsIf : Room := { frames := 0, cells := 0, slots := 0, locals := 0 }
def f_X8_throwsIf_L9 (cy : Nat → ClassId) (a1 : Int32) (μ : Mem) : Option (Int32 × Mem) :=
  if a1 = 0 ∨ a1 = 1 then some (a1, μ) else none
set_option maxRecDepth 100000 in
set_option maxHeartbeats 4000000 in
theorem w_X8_throwsIf_L9 {p : Program} {l : Launch} {e : Env} {s : State} {m : MethodId} {args : Array Value} {below : List Frame} {meth : Method} {c : Code} {A : Nat → Prop} {g : Wg} {L : List Nat} {r : Int32} {μ' : Mem} (hC : CX p m c cX8_throwsIf 3 s args RX8) (hr : meth.sig.returnType = (some .boolean)) (hlocks : meth.locks = false) : ∀ (a1 : Int32) (μ : Mem) (H : Heap) (locs : List Loc) (ls : Array Slot), lv_has ls 3 [(1, .int a1)] → PW g L μ A s H locs → f_X8_throwsIf_L9 g.2 a1 μ = some (r, μ') → W p l e rm_X8_throwsIf s m args below meth c H locs 0 0 (MQ below (QI g L A r μ') args s 0 0 A) (F0 m 9 ls []) := by
  have hx := hC.1
  have hb := hC.2.1
  intro a1 μ H locs ls hl hw hf
  unfold f_X8_throwsIf_L9 at hf
  refine lv_iload_n hx hb dX8_throwsIf_9 rfl (lv_at hl 0 rfl) ?_
  obtain ⟨h101, hf⟩ := o_ite hf
  obtain ⟨rfl, rfl⟩ := o_ret hf
  exact pw_zret hC hr hlocks h101 hw dX8_throwsIf_10
def f_X8_throwsIf (cy : Nat → ClassId) (a0 : Nat) (a1 : Int32) (a2 : Int32) (μ : Mem) : Option (Int32 × Mem) :=
  if a1 = 0 then (f_X8_throwsIf_L9 cy a1 μ) else (wrF μ a0 7 0 (.int a2)).bind fun μ2 => f_X8_throwsIf_L9 cy a1 μ2
set_option maxRecDepth 100000 in
set_option maxHeartbeats 4000000 in
theorem c_X8_throwsIf {l : Launch} {g : Wg} {L : List Nat} {μ : Mem} {a0 : Nat} {a1 : Int32} {a2 : Int32} {r : Int32} {μ' : Mem} (hf : f_X8_throwsIf g.2 a0 a1 a2 μ = some (r, μ')) : MetI l yX8_throwsIf cX8_throwsIf 3 (some .boolean) rm_X8_throwsIf g L μ [.ref a0, .int a1, .int a2] r μ' := by
  refine pw_met (Qc := fun A => QI g L A r μ') (by decide) (Nat.le_of_ble_eq_true rfl) ?_
  intro p e s m args below meth c A ls H locs hC hr hlocks hl hw
  have hx := hC.1
  have hb := hC.2.1
  have hl : lv_has ls 3 [(0, .ref a0), (1, .int a1), (2, .int a2)] := hl
  unfold f_X8_throwsIf at hf
  refine lv_iload_n hx hb dX8_throwsIf_0 rfl (lv_at hl 1 rfl) ?_
  refine lv_if_eq (tgt := 9) hx hb dX8_throwsIf_1 (by decide) (fun c1 => ?_) (fun c1 => ?_)
  · have hf := o_pos c1 hf
    exact w_X8_throwsIf_L9 hC hr hlocks _ _ _ _ ls (lv_sub hl [1] rfl) hw hf
  · have hf := o_neg c1 hf
    refine lv_aload_n hx hb dX8_throwsIf_4 rfl (lv_at hl 0 rfl) ?_
    refine lv_iload_n hx hb dX8_throwsIf_5 rfl (lv_at hl 2 rfl) ?_
    obtain ⟨μ2, h3, hf⟩ := o_bind hf
    refine pw_put hC fl_X8_1 hw h3 .int fd_X8_0 rfl rfl dX8_throwsIf_6 (fun H locs hw => ?_)
    exact w_X8_throwsIf_L9 hC hr hlocks _ _ _ _ ls (lv_sub hl [1] rfl) hw hf
theorem dX8_judgeRoot_0 : decode cX8_judgeRoot 0 = .ok (.aload_n 0, 1) := by decide +kernel
theorem dX8_judgeRoot_1 : decode cX8_judgeRoot 1 = .ok (.invokevirtual 170, 3) := by decide +kernel
theorem dX8_judgeRoot_4 : decode cX8_judgeRoot 4 = .ok (.aload_n 0, 1) := by decide +kernel
theorem dX8_judgeRoot_5 : decode cX8_judgeRoot 5 = .ok (.aload_n 0, 1) := by decide +kernel
theorem dX8_judgeRoot_6 : decode cX8_judgeRoot 6 = .ok (.iconst 0, 1) := by decide +kernel
theorem dX8_judgeRoot_7 : decode cX8_judgeRoot 7 = .ok (.aload_n 0, 1) := by decide +kernel
theorem dX8_judgeRoot_8 : decode cX8_judgeRoot 8 = .ok (.getfield 103, 3) := by decide +kernel
theorem dX8_judgeRoot_11 : decode cX8_judgeRoot 11 = .ok (.iconst 1, 1) := by decide +kernel
theorem dX8_judgeRoot_12 : decode cX8_judgeRoot 12 = .ok (.iconst 0, 1) := by decide +kernel
theorem dX8_judgeRoot_13 : decode cX8_judgeRoot 13 = .ok (.invokevirtual 158, 3) := by decide +kernel
theorem dX8_judgeRoot_16 : decode cX8_judgeRoot 16 = .ok (.invokevirtual 173, 3) := by decide +kernel
theorem dX8_judgeRoot_19 : decode cX8_judgeRoot 19 = .ok (.ireturn, 1) := by decide +kernel
abbrev rm_X8_judgeRoot : Room := { frames := 124, cells := 0, slots := 0, locals := 3463 }
def f_X8_judgeRoot (cy : Nat → ClassId) (a0 : Nat) (μ : Mem) : Option (Int32 × Mem) :=
  if isO μ a0 7 = true then ((f_X8_judges cy a0 μ).bind fun μ3 => (rdI μ3 a0 7 2).bind fun v4 => if isO μ3 a0 7 = true then (ob2 (f_X8_document cy DP a0 0 v4 1 0 μ3) fun r9 μ8 => if isO μ8 a0 7 = true then (ob2 (f_X8_isAll cy a0 r9 μ8) fun r13 μ12 => if r13 = 0 ∨ r13 = 1 then some (r13, μ12) else none) else none) else none) else none
set_option maxRecDepth 100000 in
set_option maxHeartbeats 4000000 in
theorem c_X8_judgeRoot {l : Launch} {g : Wg} {L : List Nat} {μ : Mem} {a0 : Nat} {r : Int32} {μ' : Mem} (hf : f_X8_judgeRoot g.2 a0 μ = some (r, μ')) : MetI l yX8_judgeRoot cX8_judgeRoot 1 (some .boolean) rm_X8_judgeRoot g L μ [.ref a0] r μ' := by
  refine pw_met (Qc := fun A => QI g L A r μ') (by decide) (Nat.le_of_ble_eq_true rfl) ?_
  intro p e s m args below meth c A ls H locs hC hr hlocks hl hw
  have hx := hC.1
  have hb := hC.2.1
  have hl : lv_has ls 1 [(0, .ref a0)] := hl
  unfold f_X8_judgeRoot at hf
  refine lv_aload_n hx hb dX8_judgeRoot_0 rfl (lv_at hl 0 rfl) ?_
  obtain ⟨h2, hf⟩ := o_ite hf
  obtain ⟨μ3, h1, hf⟩ := o_bind hf
  refine pw_goV hw (pw_runV (As := []) (rest := []) hC mm_X8_judges tw_1229 (c_X8_judges h1 _) ⟨rfl, rfl, by decide, by decide⟩ hw h2 rfl hl.1 (Nat.le_of_ble_eq_true rfl) ⟨Nat.zero_le _, Nat.zero_le _⟩ rfl dX8_judgeRoot_1) (fun H locs hw => ?_)
  refine lv_aload_n hx hb dX8_judgeRoot_4 rfl (lv_at hl 0 rfl) ?_
  refine lv_aload_n hx hb dX8_judgeRoot_5 rfl (lv_at hl 0 rfl) ?_
  refine lv_iconst (v := 0) hx hb dX8_judgeRoot_6 nc_iconst_0 ?_
  refine lv_aload_n hx hb dX8_judgeRoot_7 rfl (lv_at hl 0 rfl) ?_
  obtain ⟨v4, h5, hf⟩ := o_bind hf
  refine pw_get hC fl_X8_103 hw (rdI_F h5) dX8_judgeRoot_8 ?_
  refine lv_iconst (v := 1) hx hb dX8_judgeRoot_11 nc_iconst_1 ?_
  refine lv_iconst (v := 0) hx hb dX8_judgeRoot_12 nc_iconst_0 ?_
  obtain ⟨h7, hf⟩ := o_ite hf
  obtain ⟨r9, μ8, h6, hf⟩ := o_bind2 hf
  refine pw_goI hw (pw_runV (As := [.int 0, .int v4, .int 1, .int 0]) (rest := [.ref a0]) hC mm_X8_document tw_1233 (c_X8_document (d := DP) h6 _) ⟨rfl, rfl, by decide, by decide⟩ hw h7 rfl hl.1 (Nat.le_of_ble_eq_true rfl) ⟨Nat.zero_le _, Nat.zero_le _⟩ rfl dX8_judgeRoot_13) (fun H locs hw => ?_)
  obtain ⟨h11, hf⟩ := o_ite hf
  obtain ⟨r13, μ12, h10, hf⟩ := o_bind2 hf
  refine pw_goI hw (pw_runV (As := [.int r9]) (rest := []) hC mm_X8_isAll tw_1301 (c_X8_isAll h10 _) ⟨rfl, rfl, by decide, by decide⟩ hw h11 rfl hl.1 (Nat.le_of_ble_eq_true rfl) ⟨Nat.zero_le _, Nat.zero_le _⟩ rfl dX8_judgeRoot_16) (fun H locs hw => ?_)
  obtain ⟨h14, hf⟩ := o_ite hf
  obtain ⟨rfl, rfl⟩ := o_ret hf
  exact pw_zret hC hr hlocks h14 hw dX8_judgeRoot_19
theorem dX8_judge_0 : decode cX8_judge 0 = .ok (.aload_n 0, 1) := by decide +kernel
theorem dX8_judge_1 : decode cX8_judge 1 = .ok (.iconst 0, 1) := by decide +kernel
theorem dX8_judge_2 : decode cX8_judge 2 = .ok (.putfield 1, 3) := by decide +kernel
theorem dX8_judge_5 : decode cX8_judge 5 = .ok (.aload_n 0, 1) := by decide +kernel
theorem dX8_judge_6 : decode cX8_judge 6 = .ok (.invokevirtual 176, 3) := by decide +kernel
theorem dX8_judge_9 : decode cX8_judge 9 = .ok (.istore_n 1, 1) := by decide +kernel
theorem dX8_judge_10 : decode cX8_judge 10 = .ok (.aload_n 0, 1) := by decide +kernel
theorem dX8_judge_11 : decode cX8_judge 11 = .ok (.getfield 106, 3) := by decide +kernel
theorem dX8_judge_14 : decode cX8_judge 14 = .ok (.ireturn, 1) := by decide +kernel
abbrev rm_X8_judge : Room := { frames := 125, cells := 0, slots := 0, locals := 3483 }
def f_X8_judge (cy : Nat → ClassId) (a0 : Nat) (μ : Mem) : Option (Int32 × Mem) :=
  (wrF μ a0 7 0 (.int 0)).bind fun μ1 => if isO μ1 a0 7 = true then (ob2 (f_X8_judgeRoot cy a0 μ1) fun r6 μ5 => (rdI μ5 a0 7 3).bind fun v7 => some (v7, μ5)) else none
set_option maxRecDepth 100000 in
set_option maxHeartbeats 4000000 in
theorem c_X8_judge {l : Launch} {g : Wg} {L : List Nat} {μ : Mem} {a0 : Nat} {r : Int32} {μ' : Mem} (hf : f_X8_judge g.2 a0 μ = some (r, μ')) : MetI l yX8_judge cX8_judge 2 (some .int) rm_X8_judge g L μ [.ref a0] r μ' := by
  refine pw_met (Qc := fun A => QI g L A r μ') (by decide) (Nat.le_of_ble_eq_true rfl) ?_
  intro p e s m args below meth c A ls H locs hC hr hlocks hl hw
  have hx := hC.1
  have hb := hC.2.1
  have hl : lv_has ls 2 [(0, .ref a0)] := hl
  unfold f_X8_judge at hf
  refine lv_aload_n hx hb dX8_judge_0 rfl (lv_at hl 0 rfl) ?_
  refine lv_iconst (v := 0) hx hb dX8_judge_1 nc_iconst_0 ?_
  obtain ⟨μ1, h2, hf⟩ := o_bind hf
  refine pw_put hC fl_X8_1 hw h2 .int fd_X8_0 rfl rfl dX8_judge_2 (fun H locs hw => ?_)
  refine lv_aload_n hx hb dX8_judge_5 rfl (lv_at hl 0 rfl) ?_
  obtain ⟨h4, hf⟩ := o_ite hf
  obtain ⟨r6, μ5, h3, hf⟩ := o_bind2 hf
  refine pw_goI hw (pw_runV (As := []) (rest := []) hC mm_X8_judgeRoot tw_1225 (c_X8_judgeRoot h3 _) ⟨rfl, rfl, by decide, by decide⟩ hw h4 rfl hl.1 (Nat.le_of_ble_eq_true rfl) ⟨Nat.zero_le _, Nat.zero_le _⟩ rfl dX8_judge_6) (fun H locs hw => ?_)
  refine lv_istore_n (lv' := [(1, .int r6), (0, .ref a0)]) hx hb dX8_judge_9 rfl hl (by decide) rfl (fun ls hl => ?_)
  refine lv_aload_n hx hb dX8_judge_10 rfl (lv_at hl 1 rfl) ?_
  obtain ⟨v7, h8, hf⟩ := o_bind hf
  refine pw_get hC fl_X8_106 hw (rdI_F h8) dX8_judge_11 ?_
  obtain ⟨rfl, rfl⟩ := o_ret hf
  exact pw_iret hC hr hlocks hw dX8_judge_14
