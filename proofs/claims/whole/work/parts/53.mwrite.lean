theorem tw_1015 : (Jvm.Cond.fieldLinkNest "SpanShelvesModel" (213 : Nat) "SpanShelvesModel$Tree" "of" "[B" "SpanShelvesModel") ∈ tw := tw_t 1015 (by decide +kernel) (by decide +kernel)
theorem tw_1019 : (Jvm.Cond.fieldLinkNest "SpanShelvesModel" (228 : Nat) "SpanShelvesModel$Tree" "type" "[I" "SpanShelvesModel") ∈ tw := tw_t 1019 (by decide +kernel) (by decide +kernel)
theorem tw_1021 : (Jvm.Cond.fieldLinkNest "SpanShelvesModel" (319 : Nat) "SpanShelvesModel$Tree" "parent" "[I" "SpanShelvesModel") ∈ tw := tw_t 1021 (by decide +kernel) (by decide +kernel)
theorem tw_1023 : (Jvm.Cond.fieldLinkNest "SpanShelvesModel" (201 : Nat) "SpanShelvesModel$Tree" "first" "[I" "SpanShelvesModel") ∈ tw := tw_t 1023 (by decide +kernel) (by decide +kernel)
theorem tw_1025 : (Jvm.Cond.fieldLinkNest "SpanShelvesModel" (207 : Nat) "SpanShelvesModel$Tree" "next" "[I" "SpanShelvesModel") ∈ tw := tw_t 1025 (by decide +kernel) (by decide +kernel)
theorem tw_1027 : (Jvm.Cond.fieldLinkNest "SpanShelvesModel" (216 : Nat) "SpanShelvesModel$Tree" "place" "[I" "SpanShelvesModel") ∈ tw := tw_t 1027 (by decide +kernel) (by decide +kernel)
theorem tw_1029 : (Jvm.Cond.fieldLinkNest "SpanShelvesModel" (210 : Nat) "SpanShelvesModel$Tree" "nameSize" "[I" "SpanShelvesModel") ∈ tw := tw_t 1029 (by decide +kernel) (by decide +kernel)
theorem tw_1031 : (Jvm.Cond.fieldLinkNest "SpanShelvesModel" (231 : Nat) "SpanShelvesModel$Tree" "valueAt" "[I" "SpanShelvesModel") ∈ tw := tw_t 1031 (by decide +kernel) (by decide +kernel)
theorem tw_1033 : (Jvm.Cond.fieldLinkNest "SpanShelvesModel" (234 : Nat) "SpanShelvesModel$Tree" "valueSize" "[I" "SpanShelvesModel") ∈ tw := tw_t 1033 (by decide +kernel) (by decide +kernel)
theorem tw_1035 : (Jvm.Cond.fieldLinkNest "SpanShelvesModel" (222 : Nat) "SpanShelvesModel$Tree" "docAt" "[I" "SpanShelvesModel") ∈ tw := tw_t 1035 (by decide +kernel) (by decide +kernel)
theorem tw_1093 : (Jvm.Cond.fieldLink "SpanShelvesModel" (55 : Nat) "SpanShelvesModel" "told" "[I") ∈ tw := tw_t 1093 (by decide +kernel) (by decide +kernel)
theorem tw_1096 : (Jvm.Cond.fieldLink "SpanShelvesModel" (67 : Nat) "SpanShelvesModel" "tree" "LSpanShelvesModel$Tree;") ∈ tw := tw_t 1096 (by decide +kernel) (by decide +kernel)
theorem tw_1101 : (Jvm.Cond.fieldLink "SpanShelvesModel" (77 : Nat) "SpanShelvesModel" "out" "[B") ∈ tw := tw_t 1101 (by decide +kernel) (by decide +kernel)
theorem tw_1102 : (Jvm.Cond.fieldLink "SpanShelvesModel" (256 : Nat) "SpanShelvesModel" "outSize" "I") ∈ tw := tw_t 1102 (by decide +kernel) (by decide +kernel)
theorem tw_1103 : (Jvm.Cond.fieldLink "SpanShelvesModel" (262 : Nat) "SpanShelvesModel" "changedDoc" "I") ∈ tw := tw_t 1103 (by decide +kernel) (by decide +kernel)
theorem tw_1104 : (Jvm.Cond.fieldLink "SpanShelvesModel" (265 : Nat) "SpanShelvesModel" "changed" "I") ∈ tw := tw_t 1104 (by decide +kernel) (by decide +kernel)
theorem tw_1105 : (Jvm.Cond.fieldLink "SpanShelvesModel" (80 : Nat) "SpanShelvesModel" "order" "[I") ∈ tw := tw_t 1105 (by decide +kernel) (by decide +kernel)
theorem tw_1106 : (Jvm.Cond.fieldLink "SpanShelvesModel" (268 : Nat) "SpanShelvesModel" "orderMany" "I") ∈ tw := tw_t 1106 (by decide +kernel) (by decide +kernel)
theorem tw_1107 : (Jvm.Cond.fieldLink "SpanShelvesModel" (271 : Nat) "SpanShelvesModel" "hasType" "Z") ∈ tw := tw_t 1107 (by decide +kernel) (by decide +kernel)
theorem tw_1108 : (Jvm.Cond.fieldLink "SpanShelvesModel" (275 : Nat) "SpanShelvesModel" "hasName" "Z") ∈ tw := tw_t 1108 (by decide +kernel) (by decide +kernel)
theorem tw_1109 : (Jvm.Cond.fieldLink "SpanShelvesModel" (286 : Nat) "SpanShelvesModel" "newType" "I") ∈ tw := tw_t 1109 (by decide +kernel) (by decide +kernel)
theorem tw_1110 : (Jvm.Cond.fieldLink "SpanShelvesModel" (292 : Nat) "SpanShelvesModel" "nameOf" "[B") ∈ tw := tw_t 1110 (by decide +kernel) (by decide +kernel)
theorem tw_1111 : (Jvm.Cond.fieldLink "SpanShelvesModel" (301 : Nat) "SpanShelvesModel" "valueOf" "[B") ∈ tw := tw_t 1111 (by decide +kernel) (by decide +kernel)
theorem tw_1112 : (Jvm.Cond.fieldLink "SpanShelvesModel" (295 : Nat) "SpanShelvesModel" "nameFrom" "I") ∈ tw := tw_t 1112 (by decide +kernel) (by decide +kernel)
theorem tw_1113 : (Jvm.Cond.fieldLink "SpanShelvesModel" (298 : Nat) "SpanShelvesModel" "nameLength" "I") ∈ tw := tw_t 1113 (by decide +kernel) (by decide +kernel)
theorem tw_1114 : (Jvm.Cond.fieldLink "SpanShelvesModel" (304 : Nat) "SpanShelvesModel" "valueFrom" "I") ∈ tw := tw_t 1114 (by decide +kernel) (by decide +kernel)
theorem tw_1115 : (Jvm.Cond.fieldLink "SpanShelvesModel" (307 : Nat) "SpanShelvesModel" "valueLength" "I") ∈ tw := tw_t 1115 (by decide +kernel) (by decide +kernel)
theorem tw_1116 : (Jvm.Cond.fieldLink "SpanShelvesModel" (83 : Nat) "SpanShelvesModel" "aside" "[Z") ∈ tw := tw_t 1116 (by decide +kernel) (by decide +kernel)
theorem tw_1117 : (Jvm.Cond.fieldLink "SpanShelvesModel" (339 : Nat) "SpanShelvesModel" "pieceFrom" "I") ∈ tw := tw_t 1117 (by decide +kernel) (by decide +kernel)
theorem tw_1325 : (Jvm.Cond.methodLink "SpanShelvesModel" (190 : Nat) ({ cls := "SpanShelvesModel$Tree", name := "read", desc := "([B)V" } : Jvm.MethodName)) ∈ tw := tw_t 1325 (by decide +kernel) (by decide +kernel)
theorem tw_1326 : (Jvm.Cond.instanceMethod ({ cls := "SpanShelvesModel$Tree", name := "read", desc := "([B)V" } : Jvm.MethodName)) ∈ tw := tw_t 1326 (by decide +kernel) (by decide +kernel)
theorem tw_1327 : (Jvm.Cond.selects "SpanShelvesModel$Tree" ({ cls := "SpanShelvesModel$Tree", name := "read", desc := "([B)V" } : Jvm.MethodName) ({ cls := "SpanShelvesModel$Tree", name := "read", desc := "([B)V" } : Jvm.MethodName)) ∈ tw := tw_t 1327 (by decide +kernel) (by decide +kernel)
theorem tw_1328 : (Jvm.Cond.code ({ cls := "SpanShelvesModel$Tree", name := "read", desc := "([B)V" } : Jvm.MethodName) prog_10_method_2_code (2 : Nat) (Option.none : Option Jvm.ClassFile.FieldType)) ∈ tw := tw_t 1328 (by decide +kernel) (by decide +kernel)
theorem tw_1342 : (Jvm.Cond.methodLink "SpanShelvesModel" (197 : Nat) ({ cls := "SpanShelvesModel", name := "stands", desc := "(LSpanShelvesModel$Tree;I)I" } : Jvm.MethodName)) ∈ tw := tw_t 1342 (by decide +kernel) (by decide +kernel)
theorem tw_1344 : (Jvm.Cond.instanceMethod ({ cls := "SpanShelvesModel", name := "stands", desc := "(LSpanShelvesModel$Tree;I)I" } : Jvm.MethodName)) ∈ tw := tw_t 1344 (by decide +kernel) (by decide +kernel)
theorem tw_1345 : (Jvm.Cond.code ({ cls := "SpanShelvesModel", name := "stands", desc := "(LSpanShelvesModel$Tree;I)I" } : Jvm.MethodName) prog_9_method_30_code (5 : Nat) (Option.some Jvm.ClassFile.FieldType.int)) ∈ tw := tw_t 1345 (by decide +kernel) (by decide +kernel)
theorem tw_1418 : (Jvm.Cond.methodLink "SpanShelvesModel" (325 : Nat) ({ cls := "SpanShelvesModel", name := "isValue", desc := "(III)Z" } : Jvm.MethodName)) ∈ tw := tw_t 1418 (by decide +kernel) (by decide +kernel)
theorem tw_1420 : (Jvm.Cond.instanceMethod ({ cls := "SpanShelvesModel", name := "isValue", desc := "(III)Z" } : Jvm.MethodName)) ∈ tw := tw_t 1420 (by decide +kernel) (by decide +kernel)
theorem tw_1421 : (Jvm.Cond.code ({ cls := "SpanShelvesModel", name := "isValue", desc := "(III)Z" } : Jvm.MethodName) prog_9_method_60_code (4 : Nat) (Option.some Jvm.ClassFile.FieldType.boolean)) ∈ tw := tw_t 1421 (by decide +kernel) (by decide +kernel)
theorem tw_1430 : (Jvm.Cond.methodLink "SpanShelvesModel" (313 : Nat) ({ cls := "SpanShelvesModel", name := "writeDoc", desc := "(I)V" } : Jvm.MethodName)) ∈ tw := tw_t 1430 (by decide +kernel) (by decide +kernel)
theorem tw_1432 : (Jvm.Cond.instanceMethod ({ cls := "SpanShelvesModel", name := "writeDoc", desc := "(I)V" } : Jvm.MethodName)) ∈ tw := tw_t 1432 (by decide +kernel) (by decide +kernel)
theorem tw_1433 : (Jvm.Cond.code ({ cls := "SpanShelvesModel", name := "writeDoc", desc := "(I)V" } : Jvm.MethodName) prog_9_method_52_code (5 : Nat) (Option.none : Option Jvm.ClassFile.FieldType)) ∈ tw := tw_t 1433 (by decide +kernel) (by decide +kernel)
theorem tw_1434 : (Jvm.Cond.methodLink "SpanShelvesModel" (278 : Nat) ({ cls := "SpanShelvesModel", name := "lengthAt", desc := "([BII)V" } : Jvm.MethodName)) ∈ tw := tw_t 1434 (by decide +kernel) (by decide +kernel)
theorem tw_1436 : (Jvm.Cond.instanceMethod ({ cls := "SpanShelvesModel", name := "lengthAt", desc := "([BII)V" } : Jvm.MethodName)) ∈ tw := tw_t 1436 (by decide +kernel) (by decide +kernel)
theorem tw_1437 : (Jvm.Cond.code ({ cls := "SpanShelvesModel", name := "lengthAt", desc := "([BII)V" } : Jvm.MethodName) prog_9_method_50_code (5 : Nat) (Option.none : Option Jvm.ClassFile.FieldType)) ∈ tw := tw_t 1437 (by decide +kernel) (by decide +kernel)
theorem tw_1438 : (Jvm.Cond.methodLink "SpanShelvesModel" (282 : Nat) ({ cls := "SpanShelvesModel", name := "writeElement", desc := "(IIZ)V" } : Jvm.MethodName)) ∈ tw := tw_t 1438 (by decide +kernel) (by decide +kernel)
theorem tw_1440 : (Jvm.Cond.instanceMethod ({ cls := "SpanShelvesModel", name := "writeElement", desc := "(IIZ)V" } : Jvm.MethodName)) ∈ tw := tw_t 1440 (by decide +kernel) (by decide +kernel)
theorem tw_1441 : (Jvm.Cond.code ({ cls := "SpanShelvesModel", name := "writeElement", desc := "(IIZ)V" } : Jvm.MethodName) prog_9_method_53_code (5 : Nat) (Option.none : Option Jvm.ClassFile.FieldType)) ∈ tw := tw_t 1441 (by decide +kernel) (by decide +kernel)
theorem tw_1442 : (Jvm.Cond.methodLink "SpanShelvesModel" (259 : Nat) ({ cls := "SpanShelvesModel", name := "puts", desc := "(I)V" } : Jvm.MethodName)) ∈ tw := tw_t 1442 (by decide +kernel) (by decide +kernel)
theorem tw_1444 : (Jvm.Cond.instanceMethod ({ cls := "SpanShelvesModel", name := "puts", desc := "(I)V" } : Jvm.MethodName)) ∈ tw := tw_t 1444 (by decide +kernel) (by decide +kernel)
theorem tw_1445 : (Jvm.Cond.code ({ cls := "SpanShelvesModel", name := "puts", desc := "(I)V" } : Jvm.MethodName) prog_9_method_48_code (2 : Nat) (Option.none : Option Jvm.ClassFile.FieldType)) ∈ tw := tw_t 1445 (by decide +kernel) (by decide +kernel)
theorem tw_1446 : (Jvm.Cond.methodLink "SpanShelvesModel" (289 : Nat) ({ cls := "SpanShelvesModel", name := "putsAll", desc := "([BII)V" } : Jvm.MethodName)) ∈ tw := tw_t 1446 (by decide +kernel) (by decide +kernel)
theorem tw_1448 : (Jvm.Cond.instanceMethod ({ cls := "SpanShelvesModel", name := "putsAll", desc := "([BII)V" } : Jvm.MethodName)) ∈ tw := tw_t 1448 (by decide +kernel) (by decide +kernel)
theorem tw_1449 : (Jvm.Cond.code ({ cls := "SpanShelvesModel", name := "putsAll", desc := "([BII)V" } : Jvm.MethodName) prog_9_method_49_code (5 : Nat) (Option.none : Option Jvm.ClassFile.FieldType)) ∈ tw := tw_t 1449 (by decide +kernel) (by decide +kernel)
theorem tw_1450 : (Jvm.Cond.methodLink "SpanShelvesModel" (310 : Nat) ({ cls := "SpanShelvesModel", name := "writeValue", desc := "(I)V" } : Jvm.MethodName)) ∈ tw := tw_t 1450 (by decide +kernel) (by decide +kernel)
theorem tw_1452 : (Jvm.Cond.instanceMethod ({ cls := "SpanShelvesModel", name := "writeValue", desc := "(I)V" } : Jvm.MethodName)) ∈ tw := tw_t 1452 (by decide +kernel) (by decide +kernel)
theorem tw_1453 : (Jvm.Cond.code ({ cls := "SpanShelvesModel", name := "writeValue", desc := "(I)V" } : Jvm.MethodName) prog_9_method_54_code (3 : Nat) (Option.none : Option Jvm.ClassFile.FieldType)) ∈ tw := tw_t 1453 (by decide +kernel) (by decide +kernel)
theorem tw_1454 : (Jvm.Cond.methodLink "SpanShelvesModel" (316 : Nat) ({ cls := "SpanShelvesModel", name := "around", desc := "(I)I" } : Jvm.MethodName)) ∈ tw := tw_t 1454 (by decide +kernel) (by decide +kernel)
theorem tw_1456 : (Jvm.Cond.instanceMethod ({ cls := "SpanShelvesModel", name := "around", desc := "(I)I" } : Jvm.MethodName)) ∈ tw := tw_t 1456 (by decide +kernel) (by decide +kernel)
theorem tw_1457 : (Jvm.Cond.code ({ cls := "SpanShelvesModel", name := "around", desc := "(I)I" } : Jvm.MethodName) prog_9_method_56_code (3 : Nat) (Option.some Jvm.ClassFile.FieldType.int)) ∈ tw := tw_t 1457 (by decide +kernel) (by decide +kernel)
theorem twp_49 : (Jvm.Cond.selects "SpanShelvesModel" ({ cls := "SpanShelvesModel", name := "stands", desc := "(LSpanShelvesModel$Tree;I)I" } : Jvm.MethodName) ({ cls := "SpanShelvesModel", name := "stands", desc := "(LSpanShelvesModel$Tree;I)I" } : Jvm.MethodName)) ∈ tw := tw_p 49 (q := (({ cls := "SpanShelvesModel", name := "stands", desc := "(LSpanShelvesModel$Tree;I)I" } : Jvm.MethodName), 44)) (by decide +kernel) (by decide +kernel)
theorem twp_55 : (Jvm.Cond.selects "SpanShelvesModel" ({ cls := "SpanShelvesModel", name := "isValue", desc := "(III)Z" } : Jvm.MethodName) ({ cls := "SpanShelvesModel", name := "isValue", desc := "(III)Z" } : Jvm.MethodName)) ∈ tw := tw_p 55 (q := (({ cls := "SpanShelvesModel", name := "isValue", desc := "(III)Z" } : Jvm.MethodName), 44)) (by decide +kernel) (by decide +kernel)
theorem twp_58 : (Jvm.Cond.selects "SpanShelvesModel" ({ cls := "SpanShelvesModel", name := "writeDoc", desc := "(I)V" } : Jvm.MethodName) ({ cls := "SpanShelvesModel", name := "writeDoc", desc := "(I)V" } : Jvm.MethodName)) ∈ tw := tw_p 58 (q := (({ cls := "SpanShelvesModel", name := "writeDoc", desc := "(I)V" } : Jvm.MethodName), 44)) (by decide +kernel) (by decide +kernel)
theorem twp_59 : (Jvm.Cond.selects "SpanShelvesModel" ({ cls := "SpanShelvesModel", name := "lengthAt", desc := "([BII)V" } : Jvm.MethodName) ({ cls := "SpanShelvesModel", name := "lengthAt", desc := "([BII)V" } : Jvm.MethodName)) ∈ tw := tw_p 59 (q := (({ cls := "SpanShelvesModel", name := "lengthAt", desc := "([BII)V" } : Jvm.MethodName), 44)) (by decide +kernel) (by decide +kernel)
theorem twp_60 : (Jvm.Cond.selects "SpanShelvesModel" ({ cls := "SpanShelvesModel", name := "writeElement", desc := "(IIZ)V" } : Jvm.MethodName) ({ cls := "SpanShelvesModel", name := "writeElement", desc := "(IIZ)V" } : Jvm.MethodName)) ∈ tw := tw_p 60 (q := (({ cls := "SpanShelvesModel", name := "writeElement", desc := "(IIZ)V" } : Jvm.MethodName), 44)) (by decide +kernel) (by decide +kernel)
theorem twp_61 : (Jvm.Cond.selects "SpanShelvesModel" ({ cls := "SpanShelvesModel", name := "puts", desc := "(I)V" } : Jvm.MethodName) ({ cls := "SpanShelvesModel", name := "puts", desc := "(I)V" } : Jvm.MethodName)) ∈ tw := tw_p 61 (q := (({ cls := "SpanShelvesModel", name := "puts", desc := "(I)V" } : Jvm.MethodName), 44)) (by decide +kernel) (by decide +kernel)
theorem twp_62 : (Jvm.Cond.selects "SpanShelvesModel" ({ cls := "SpanShelvesModel", name := "putsAll", desc := "([BII)V" } : Jvm.MethodName) ({ cls := "SpanShelvesModel", name := "putsAll", desc := "([BII)V" } : Jvm.MethodName)) ∈ tw := tw_p 62 (q := (({ cls := "SpanShelvesModel", name := "putsAll", desc := "([BII)V" } : Jvm.MethodName), 44)) (by decide +kernel) (by decide +kernel)
theorem twp_63 : (Jvm.Cond.selects "SpanShelvesModel" ({ cls := "SpanShelvesModel", name := "writeValue", desc := "(I)V" } : Jvm.MethodName) ({ cls := "SpanShelvesModel", name := "writeValue", desc := "(I)V" } : Jvm.MethodName)) ∈ tw := tw_p 63 (q := (({ cls := "SpanShelvesModel", name := "writeValue", desc := "(I)V" } : Jvm.MethodName), 44)) (by decide +kernel) (by decide +kernel)
theorem twp_64 : (Jvm.Cond.selects "SpanShelvesModel" ({ cls := "SpanShelvesModel", name := "around", desc := "(I)I" } : Jvm.MethodName) ({ cls := "SpanShelvesModel", name := "around", desc := "(I)I" } : Jvm.MethodName)) ∈ tw := tw_p 64 (q := (({ cls := "SpanShelvesModel", name := "around", desc := "(I)I" } : Jvm.MethodName), 44)) (by decide +kernel) (by decide +kernel)
theorem fl_X8_55 : FL RX8 55 7 18 := ⟨by decide, RX8, TX8, 44, tyX8, rfl, by decide, rfl, iw_X8, tyX8_ok, nmX8, Or.inl tw_1093⟩
theorem fl_X8_67 : FL RX8 67 7 21 := ⟨by decide, RX8, TX8, 44, tyX8, rfl, by decide, rfl, iw_X8, tyX8_ok, nmX8, Or.inl tw_1096⟩
theorem fl_X8_77 : FL RX8 77 7 26 := ⟨by decide, RX8, TX8, 44, tyX8, rfl, by decide, rfl, iw_X8, tyX8_ok, nmX8, Or.inl tw_1101⟩
theorem fl_X8_80 : FL RX8 80 7 30 := ⟨by decide, RX8, TX8, 44, tyX8, rfl, by decide, rfl, iw_X8, tyX8_ok, nmX8, Or.inl tw_1105⟩
theorem fl_X8_83 : FL RX8 83 7 41 := ⟨by decide, RX8, TX8, 44, tyX8, rfl, by decide, rfl, iw_X8, tyX8_ok, nmX8, Or.inl tw_1116⟩
theorem fl_X8_201 : FL RX8 201 6 4 := ⟨by decide, RX7, TX7, 13, tyX7, rfl, by decide, rfl, iw_X7, tyX7_ok, nmX7, Or.inr ⟨_, tw_1023⟩⟩
theorem fl_X8_207 : FL RX8 207 6 5 := ⟨by decide, RX7, TX7, 13, tyX7, rfl, by decide, rfl, iw_X7, tyX7_ok, nmX7, Or.inr ⟨_, tw_1025⟩⟩
theorem fl_X8_210 : FL RX8 210 6 7 := ⟨by decide, RX7, TX7, 13, tyX7, rfl, by decide, rfl, iw_X7, tyX7_ok, nmX7, Or.inr ⟨_, tw_1029⟩⟩
theorem fl_X8_213 : FL RX8 213 6 0 := ⟨by decide, RX7, TX7, 13, tyX7, rfl, by decide, rfl, iw_X7, tyX7_ok, nmX7, Or.inr ⟨_, tw_1015⟩⟩
theorem fl_X8_216 : FL RX8 216 6 6 := ⟨by decide, RX7, TX7, 13, tyX7, rfl, by decide, rfl, iw_X7, tyX7_ok, nmX7, Or.inr ⟨_, tw_1027⟩⟩
theorem fl_X8_222 : FL RX8 222 6 10 := ⟨by decide, RX7, TX7, 13, tyX7, rfl, by decide, rfl, iw_X7, tyX7_ok, nmX7, Or.inr ⟨_, tw_1035⟩⟩
theorem fl_X8_228 : FL RX8 228 6 2 := ⟨by decide, RX7, TX7, 13, tyX7, rfl, by decide, rfl, iw_X7, tyX7_ok, nmX7, Or.inr ⟨_, tw_1019⟩⟩
theorem fl_X8_231 : FL RX8 231 6 8 := ⟨by decide, RX7, TX7, 13, tyX7, rfl, by decide, rfl, iw_X7, tyX7_ok, nmX7, Or.inr ⟨_, tw_1031⟩⟩
theorem fl_X8_234 : FL RX8 234 6 9 := ⟨by decide, RX7, TX7, 13, tyX7, rfl, by decide, rfl, iw_X7, tyX7_ok, nmX7, Or.inr ⟨_, tw_1033⟩⟩
theorem fl_X8_256 : FL RX8 256 7 27 := ⟨by decide, RX8, TX8, 44, tyX8, rfl, by decide, rfl, iw_X8, tyX8_ok, nmX8, Or.inl tw_1102⟩
theorem fl_X8_262 : FL RX8 262 7 28 := ⟨by decide, RX8, TX8, 44, tyX8, rfl, by decide, rfl, iw_X8, tyX8_ok, nmX8, Or.inl tw_1103⟩
theorem fl_X8_265 : FL RX8 265 7 29 := ⟨by decide, RX8, TX8, 44, tyX8, rfl, by decide, rfl, iw_X8, tyX8_ok, nmX8, Or.inl tw_1104⟩
theorem fl_X8_268 : FL RX8 268 7 31 := ⟨by decide, RX8, TX8, 44, tyX8, rfl, by decide, rfl, iw_X8, tyX8_ok, nmX8, Or.inl tw_1106⟩
theorem fl_X8_271 : FL RX8 271 7 32 := ⟨by decide, RX8, TX8, 44, tyX8, rfl, by decide, rfl, iw_X8, tyX8_ok, nmX8, Or.inl tw_1107⟩
theorem fl_X8_275 : FL RX8 275 7 33 := ⟨by decide, RX8, TX8, 44, tyX8, rfl, by decide, rfl, iw_X8, tyX8_ok, nmX8, Or.inl tw_1108⟩
theorem fl_X8_286 : FL RX8 286 7 34 := ⟨by decide, RX8, TX8, 44, tyX8, rfl, by decide, rfl, iw_X8, tyX8_ok, nmX8, Or.inl tw_1109⟩
theorem fl_X8_292 : FL RX8 292 7 35 := ⟨by decide, RX8, TX8, 44, tyX8, rfl, by decide, rfl, iw_X8, tyX8_ok, nmX8, Or.inl tw_1110⟩
theorem fl_X8_295 : FL RX8 295 7 37 := ⟨by decide, RX8, TX8, 44, tyX8, rfl, by decide, rfl, iw_X8, tyX8_ok, nmX8, Or.inl tw_1112⟩
theorem fl_X8_298 : FL RX8 298 7 38 := ⟨by decide, RX8, TX8, 44, tyX8, rfl, by decide, rfl, iw_X8, tyX8_ok, nmX8, Or.inl tw_1113⟩
theorem fl_X8_301 : FL RX8 301 7 36 := ⟨by decide, RX8, TX8, 44, tyX8, rfl, by decide, rfl, iw_X8, tyX8_ok, nmX8, Or.inl tw_1111⟩
theorem fl_X8_304 : FL RX8 304 7 39 := ⟨by decide, RX8, TX8, 44, tyX8, rfl, by decide, rfl, iw_X8, tyX8_ok, nmX8, Or.inl tw_1114⟩
theorem fl_X8_307 : FL RX8 307 7 40 := ⟨by decide, RX8, TX8, 44, tyX8, rfl, by decide, rfl, iw_X8, tyX8_ok, nmX8, Or.inl tw_1115⟩
theorem fl_X8_319 : FL RX8 319 6 3 := ⟨by decide, RX7, TX7, 13, tyX7, rfl, by decide, rfl, iw_X7, tyX7_ok, nmX7, Or.inr ⟨_, tw_1021⟩⟩
theorem fl_X8_339 : FL RX8 339 7 42 := ⟨by decide, RX8, TX8, 44, tyX8, rfl, by decide, rfl, iw_X8, tyX8_ok, nmX8, Or.inl tw_1117⟩
theorem fd_X8_27 : ∀ (C : String) (T : u_T) (N : Nat), vwCl[7]? = some (C, T, N) → (T 27).2.2.2 = false ∧ parseFieldDescriptor (T 27).2.2.1 = some .int := by intro C T N h; cases h; exact ⟨rfl, by decide +kernel⟩
theorem fd_X8_28 : ∀ (C : String) (T : u_T) (N : Nat), vwCl[7]? = some (C, T, N) → (T 28).2.2.2 = false ∧ parseFieldDescriptor (T 28).2.2.1 = some .int := by intro C T N h; cases h; exact ⟨rfl, by decide +kernel⟩
theorem fd_X8_29 : ∀ (C : String) (T : u_T) (N : Nat), vwCl[7]? = some (C, T, N) → (T 29).2.2.2 = false ∧ parseFieldDescriptor (T 29).2.2.1 = some .int := by intro C T N h; cases h; exact ⟨rfl, by decide +kernel⟩
theorem fd_X8_31 : ∀ (C : String) (T : u_T) (N : Nat), vwCl[7]? = some (C, T, N) → (T 31).2.2.2 = false ∧ parseFieldDescriptor (T 31).2.2.1 = some .int := by intro C T N h; cases h; exact ⟨rfl, by decide +kernel⟩
theorem fd_X8_32 : ∀ (C : String) (T : u_T) (N : Nat), vwCl[7]? = some (C, T, N) → (T 32).2.2.2 = false ∧ parseFieldDescriptor (T 32).2.2.1 = some .boolean := by intro C T N h; cases h; exact ⟨rfl, by decide +kernel⟩
theorem fd_X8_33 : ∀ (C : String) (T : u_T) (N : Nat), vwCl[7]? = some (C, T, N) → (T 33).2.2.2 = false ∧ parseFieldDescriptor (T 33).2.2.1 = some .boolean := by intro C T N h; cases h; exact ⟨rfl, by decide +kernel⟩
theorem fd_X8_34 : ∀ (C : String) (T : u_T) (N : Nat), vwCl[7]? = some (C, T, N) → (T 34).2.2.2 = false ∧ parseFieldDescriptor (T 34).2.2.1 = some .int := by intro C T N h; cases h; exact ⟨rfl, by decide +kernel⟩
theorem fd_X8_35 : ∀ (C : String) (T : u_T) (N : Nat), vwCl[7]? = some (C, T, N) → (T 35).2.2.2 = false ∧ parseFieldDescriptor (T 35).2.2.1 = some (.array .byte) := by intro C T N h; cases h; exact ⟨rfl, by decide +kernel⟩
theorem fd_X8_36 : ∀ (C : String) (T : u_T) (N : Nat), vwCl[7]? = some (C, T, N) → (T 36).2.2.2 = false ∧ parseFieldDescriptor (T 36).2.2.1 = some (.array .byte) := by intro C T N h; cases h; exact ⟨rfl, by decide +kernel⟩
theorem fd_X8_37 : ∀ (C : String) (T : u_T) (N : Nat), vwCl[7]? = some (C, T, N) → (T 37).2.2.2 = false ∧ parseFieldDescriptor (T 37).2.2.1 = some .int := by intro C T N h; cases h; exact ⟨rfl, by decide +kernel⟩
theorem fd_X8_38 : ∀ (C : String) (T : u_T) (N : Nat), vwCl[7]? = some (C, T, N) → (T 38).2.2.2 = false ∧ parseFieldDescriptor (T 38).2.2.1 = some .int := by intro C T N h; cases h; exact ⟨rfl, by decide +kernel⟩
theorem fd_X8_39 : ∀ (C : String) (T : u_T) (N : Nat), vwCl[7]? = some (C, T, N) → (T 39).2.2.2 = false ∧ parseFieldDescriptor (T 39).2.2.1 = some .int := by intro C T N h; cases h; exact ⟨rfl, by decide +kernel⟩
theorem fd_X8_40 : ∀ (C : String) (T : u_T) (N : Nat), vwCl[7]? = some (C, T, N) → (T 40).2.2.2 = false ∧ parseFieldDescriptor (T 40).2.2.1 = some .int := by intro C T N h; cases h; exact ⟨rfl, by decide +kernel⟩
theorem fd_X8_42 : ∀ (C : String) (T : u_T) (N : Nat), vwCl[7]? = some (C, T, N) → (T 42).2.2.2 = false ∧ parseFieldDescriptor (T 42).2.2.1 = some .int := by intro C T N h; cases h; exact ⟨rfl, by decide +kernel⟩
theorem mm_X7_read : MM 6 yX7_read cX7_read 2 none 1 := ⟨by decide, RX7, TX7, 13, rfl, tw_1326, tw_1327, tw_1328, tw_11, by decide +kernel, by decide +kernel, by decide +kernel⟩
theorem mm_X8_around : MM 7 yX8_around cX8_around 3 (some .int) 1 := ⟨by decide, RX8, TX8, 44, rfl, tw_1456, twp_64, tw_1457, tw_10, by decide +kernel, by decide +kernel, by decide +kernel⟩
theorem mm_X8_isValue : MM 7 yX8_isValue cX8_isValue 4 (some .boolean) 3 := ⟨by decide, RX8, TX8, 44, rfl, tw_1420, twp_55, tw_1421, tw_10, by decide +kernel, by decide +kernel, by decide +kernel⟩
theorem mm_X8_lengthAt : MM 7 yX8_lengthAt cX8_lengthAt 5 none 3 := ⟨by decide, RX8, TX8, 44, rfl, tw_1436, twp_59, tw_1437, tw_10, by decide +kernel, by decide +kernel, by decide +kernel⟩
theorem mm_X8_puts : MM 7 yX8_puts cX8_puts 2 none 1 := ⟨by decide, RX8, TX8, 44, rfl, tw_1444, twp_61, tw_1445, tw_10, by decide +kernel, by decide +kernel, by decide +kernel⟩
theorem mm_X8_putsAll : MM 7 yX8_putsAll cX8_putsAll 5 none 3 := ⟨by decide, RX8, TX8, 44, rfl, tw_1448, twp_62, tw_1449, tw_10, by decide +kernel, by decide +kernel, by decide +kernel⟩
theorem mm_X8_stands : MM 7 yX8_stands cX8_stands 5 (some .int) 2 := ⟨by decide, RX8, TX8, 44, rfl, tw_1344, twp_49, tw_1345, tw_10, by decide +kernel, by decide +kernel, by decide +kernel⟩
theorem mm_X8_writeDoc : MM 7 yX8_writeDoc cX8_writeDoc 5 none 1 := ⟨by decide, RX8, TX8, 44, rfl, tw_1432, twp_58, tw_1433, tw_10, by decide +kernel, by decide +kernel, by decide +kernel⟩
theorem mm_X8_writeElement : MM 7 yX8_writeElement cX8_writeElement 5 none 3 := ⟨by decide, RX8, TX8, 44, rfl, tw_1440, twp_60, tw_1441, tw_10, by decide +kernel, by decide +kernel, by decide +kernel⟩
theorem mm_X8_writeValue : MM 7 yX8_writeValue cX8_writeValue 3 none 1 := ⟨by decide, RX8, TX8, 44, rfl, tw_1452, twp_63, tw_1453, tw_10, by decide +kernel, by decide +kernel, by decide +kernel⟩
theorem dX8_puts_0 : decode cX8_puts 0 = .ok (.aload_n 0, 1) := by decide +kernel
theorem dX8_puts_1 : decode cX8_puts 1 = .ok (.getfield 77, 3) := by decide +kernel
theorem dX8_puts_4 : decode cX8_puts 4 = .ok (.aload_n 0, 1) := by decide +kernel
theorem dX8_puts_5 : decode cX8_puts 5 = .ok (.getfield 256, 3) := by decide +kernel
theorem dX8_puts_8 : decode cX8_puts 8 = .ok (.iload_n 1, 1) := by decide +kernel
theorem dX8_puts_9 : decode cX8_puts 9 = .ok (.i2b, 1) := by decide +kernel
theorem dX8_puts_10 : decode cX8_puts 10 = .ok (.bastore, 1) := by decide +kernel
theorem dX8_puts_11 : decode cX8_puts 11 = .ok (.aload_n 0, 1) := by decide +kernel
theorem dX8_puts_12 : decode cX8_puts 12 = .ok (.dup, 1) := by decide +kernel
theorem dX8_puts_13 : decode cX8_puts 13 = .ok (.getfield 256, 3) := by decide +kernel
theorem dX8_puts_16 : decode cX8_puts 16 = .ok (.iconst 1, 1) := by decide +kernel
theorem dX8_puts_17 : decode cX8_puts 17 = .ok (.iadd, 1) := by decide +kernel
theorem dX8_puts_18 : decode cX8_puts 18 = .ok (.putfield 256, 3) := by decide +kernel
theorem dX8_puts_21 : decode cX8_puts 21 = .ok (.return_, 1) := by decide +kernel
abbrev rm_X8_puts : Room := { frames := 0, cells := 0, slots := 0, locals := 0 }
def f_X8_puts (cy : Nat → ClassId) (a0 : Nat) (a1 : Int32) (μ : Mem) : Option Mem :=
  (rdR μ a0 7 26).bind fun q1 => (rdI μ a0 7 27).bind fun v3 => (wrA cy μ 0 q1 v3 (vp_nar .byte ((Int32.toInt8 a1).toInt32))).bind fun μ5 => (rdI μ5 a0 7 27).bind fun v7 => (wrF μ5 a0 7 27 (.int (v7 + 1))).bind fun μ9 => some μ9
set_option maxRecDepth 100000 in
set_option maxHeartbeats 4000000 in
theorem c_X8_puts {l : Launch} {g : Wg} {L : List Nat} {μ : Mem} {a0 : Nat} {a1 : Int32} {μ' : Mem} (hf : f_X8_puts g.2 a0 a1 μ = some μ') : MetV l yX8_puts cX8_puts 2 none rm_X8_puts g L μ [.ref a0, .int a1] μ' := by
  refine pw_met (Qc := fun A => QV g L A μ') (by decide) (Nat.le_of_ble_eq_true rfl) ?_
  intro p e s m args below meth c A ls H locs hC hr hlocks hl hw
  have hx := hC.1
  have hb := hC.2.1
  have hl : lv_has ls 2 [(0, .ref a0), (1, .int a1)] := hl
  unfold f_X8_puts at hf
  refine lv_aload_n hx hb dX8_puts_0 rfl (lv_at hl 0 rfl) ?_
  obtain ⟨q1, h2, hf⟩ := o_bind hf
  refine pw_get hC fl_X8_77 hw (rdR_F h2) dX8_puts_1 ?_
  refine lv_aload_n hx hb dX8_puts_4 rfl (lv_at hl 0 rfl) ?_
  obtain ⟨v3, h4, hf⟩ := o_bind hf
  refine pw_get hC fl_X8_256 hw (rdI_F h4) dX8_puts_5 ?_
  refine lv_iload_n hx hb dX8_puts_8 rfl (lv_at hl 1 rfl) ?_
  refine lv_i2b hx hb dX8_puts_9 rfl ?_
  obtain ⟨μ5, h6, hf⟩ := o_bind hf
  refine pw_bast hC hw h6 dX8_puts_10 (fun H locs hw => ?_)
  refine lv_aload_n hx hb dX8_puts_11 rfl (lv_at hl 0 rfl) ?_
  refine lv_dup hx hb dX8_puts_12 rfl ?_
  obtain ⟨v7, h8, hf⟩ := o_bind hf
  refine pw_get hC fl_X8_256 hw (rdI_F h8) dX8_puts_13 ?_
  refine lv_iconst (v := 1) hx hb dX8_puts_16 nc_iconst_1 ?_
  refine lv_iadd hx hb dX8_puts_17 ?_
  obtain ⟨μ9, h10, hf⟩ := o_bind hf
  refine pw_put hC fl_X8_256 hw h10 .int fd_X8_27 rfl rfl dX8_puts_18 (fun H locs hw => ?_)
  obtain rfl := o_retv hf
  exact pw_vret hC hr hlocks hw dX8_puts_21
theorem dX8_lengthAt_0 : decode cX8_lengthAt 0 = .ok (.iconst 0, 1) := by decide +kernel
theorem dX8_lengthAt_1 : decode cX8_lengthAt 1 = .ok (.istore 4, 2) := by decide +kernel
theorem dX8_lengthAt_3 : decode cX8_lengthAt 3 = .ok (.iload 4, 2) := by decide +kernel
theorem dX8_lengthAt_5 : decode cX8_lengthAt 5 = .ok (.iconst 4, 1) := by decide +kernel
theorem dX8_lengthAt_6 : decode cX8_lengthAt 6 = .ok (.if_icmp .ge 23, 3) := by decide +kernel
theorem dX8_lengthAt_9 : decode cX8_lengthAt 9 = .ok (.aload_n 1, 1) := by decide +kernel
theorem dX8_lengthAt_10 : decode cX8_lengthAt 10 = .ok (.iload_n 2, 1) := by decide +kernel
theorem dX8_lengthAt_11 : decode cX8_lengthAt 11 = .ok (.iload 4, 2) := by decide +kernel
theorem dX8_lengthAt_13 : decode cX8_lengthAt 13 = .ok (.iadd, 1) := by decide +kernel
theorem dX8_lengthAt_14 : decode cX8_lengthAt 14 = .ok (.iload_n 3, 1) := by decide +kernel
theorem dX8_lengthAt_15 : decode cX8_lengthAt 15 = .ok (.bipush 8, 2) := by decide +kernel
theorem dX8_lengthAt_17 : decode cX8_lengthAt 17 = .ok (.iload 4, 2) := by decide +kernel
theorem dX8_lengthAt_19 : decode cX8_lengthAt 19 = .ok (.imul, 1) := by decide +kernel
theorem dX8_lengthAt_20 : decode cX8_lengthAt 20 = .ok (.ishr, 1) := by decide +kernel
theorem dX8_lengthAt_21 : decode cX8_lengthAt 21 = .ok (.i2b, 1) := by decide +kernel
theorem dX8_lengthAt_22 : decode cX8_lengthAt 22 = .ok (.bastore, 1) := by decide +kernel
theorem dX8_lengthAt_23 : decode cX8_lengthAt 23 = .ok (.iinc 4 1, 3) := by decide +kernel
theorem dX8_lengthAt_26 : decode cX8_lengthAt 26 = .ok (.goto (-23), 3) := by decide +kernel
theorem dX8_lengthAt_29 : decode cX8_lengthAt 29 = .ok (.return_, 1) := by decide +kernel
abbrev rm_X8_lengthAt : Room := { frames := 0, cells := 0, slots := 0, locals := 0 }
def f_X8_lengthAt_L3 (cy : Nat → ClassId) : Nat → Nat → Int32 → Int32 → Int32 → Mem → Option Mem
  | 0, _, _, _, _, _ => none
  | n + 1, a1, a2, a3, a4, μ => if 4 ≤ a4 then (some μ) else (wrA cy μ 0 a1 (a2 + a4) (vp_nar .byte ((Int32.toInt8 (a3 >>> ((8 * a4) &&& 31))).toInt32))).bind fun μ102 => f_X8_lengthAt_L3 cy n a1 a2 a3 (a4 + 1) μ102
set_option maxRecDepth 100000 in
set_option maxHeartbeats 4000000 in
theorem w_X8_lengthAt_L3 {p : Program} {l : Launch} {e : Env} {s : State} {m : MethodId} {args : Array Value} {below : List Frame} {meth : Method} {c : Code} {A : Nat → Prop} {g : Wg} {L : List Nat} {μ' : Mem} (hC : CX p m c cX8_lengthAt 5 s args RX8) (hr : meth.sig.returnType = none) (hlocks : meth.locks = false) : ∀ (n : Nat), ∀ (a1 : Nat) (a2 : Int32) (a3 : Int32) (a4 : Int32) (μ : Mem) (H : Heap) (locs : List Loc) (ls : Array Slot), lv_has ls 5 [(1, .ref a1), (2, .int a2), (3, .int a3), (4, .int a4)] → PW g L μ A s H locs → f_X8_lengthAt_L3 g.2 n a1 a2 a3 a4 μ = some μ' → W p l e rm_X8_lengthAt s m args below meth c H locs 0 0 (MQ below (QV g L A μ') args s 0 0 A) (F0 m 3 ls []) := by
  have hx := hC.1
  have hb := hC.2.1
  intro n
  induction n with
  | zero => intro a1 a2 a3 a4 μ H locs ls hl hw hf; cases hf
  | succ n ih =>
    intro a1 a2 a3 a4 μ H locs ls hl hw hf
    rw [f_X8_lengthAt_L3] at hf
    refine lv_iload hx hb dX8_lengthAt_3 (lv_at hl 3 rfl) ?_
    refine lv_iconst (v := 4) hx hb dX8_lengthAt_5 nc_iconst_4 ?_
    refine lv_icmp_ge (tgt := 29) hx hb dX8_lengthAt_6 (by decide) (fun c101 => ?_) (fun c101 => ?_)
    · have hf := o_pos c101 hf
      obtain rfl := o_retv hf
      exact pw_vret hC hr hlocks hw dX8_lengthAt_29
    · have hf := o_neg c101 hf
      refine lv_aload_n hx hb dX8_lengthAt_9 rfl (lv_at hl 0 rfl) ?_
      refine lv_iload_n hx hb dX8_lengthAt_10 rfl (lv_at hl 1 rfl) ?_
      refine lv_iload hx hb dX8_lengthAt_11 (lv_at hl 3 rfl) ?_
      refine lv_iadd hx hb dX8_lengthAt_13 ?_
      refine lv_iload_n hx hb dX8_lengthAt_14 rfl (lv_at hl 2 rfl) ?_
      refine lv_bipush (v := 8) hx hb dX8_lengthAt_15 nc_bipush_8 ?_
      refine lv_iload hx hb dX8_lengthAt_17 (lv_at hl 3 rfl) ?_
      refine lv_imul hx hb dX8_lengthAt_19 ?_
      refine lv_ishr hx hb dX8_lengthAt_20 ?_
      refine lv_i2b hx hb dX8_lengthAt_21 rfl ?_
      obtain ⟨μ102, h103, hf⟩ := o_bind hf
      refine pw_bast hC hw h103 dX8_lengthAt_22 (fun H locs hw => ?_)
      refine lv_iinc (v := (a4 + 1)) (lv' := [(4, .int (a4 + 1)), (1, .ref a1), (2, .int a2), (3, .int a3)]) hx hb dX8_lengthAt_23 hl (k := 3) rfl (by first | rfl | decide +kernel) (by decide) rfl (fun ls hl => ?_)
      refine lv_goto (tgt := 3) hx hb dX8_lengthAt_26 (by decide) ?_
      exact ih _ _ _ _ _ _ _ ls (lv_sub hl [1, 2, 3, 0] rfl) hw hf
def f_X8_lengthAt (cy : Nat → ClassId) (a0 : Nat) (a1 : Nat) (a2 : Int32) (a3 : Int32) (μ : Mem) : Option Mem :=
  f_X8_lengthAt_L3 cy FU a1 a2 a3 0 μ
set_option maxRecDepth 100000 in
set_option maxHeartbeats 4000000 in
theorem c_X8_lengthAt {l : Launch} {g : Wg} {L : List Nat} {μ : Mem} {a0 : Nat} {a1 : Nat} {a2 : Int32} {a3 : Int32} {μ' : Mem} (hf : f_X8_lengthAt g.2 a0 a1 a2 a3 μ = some μ') : MetV l yX8_lengthAt cX8_lengthAt 5 none rm_X8_lengthAt g L μ [.ref a0, .ref a1, .int a2, .int a3] μ' := by
  refine pw_met (Qc := fun A => QV g L A μ') (by decide) (Nat.le_of_ble_eq_true rfl) ?_
  intro p e s m args below meth c A ls H locs hC hr hlocks hl hw
  have hx := hC.1
  have hb := hC.2.1
  have hl : lv_has ls 5 [(0, .ref a0), (1, .ref a1), (2, .int a2), (3, .int a3)] := hl
  unfold f_X8_lengthAt at hf
  refine lv_iconst (v := 0) hx hb dX8_lengthAt_0 nc_iconst_0 ?_
  refine lv_istore (lv' := [(4, .int 0), (0, .ref a0), (1, .ref a1), (2, .int a2), (3, .int a3)]) hx hb dX8_lengthAt_1 hl (by decide) rfl (fun ls hl => ?_)
  exact w_X8_lengthAt_L3 hC hr hlocks FU _ _ _ _ _ _ _ ls (lv_sub hl [2, 3, 4, 0] rfl) hw hf
theorem dX8_putsAll_0 : decode cX8_putsAll 0 = .ok (.iconst 0, 1) := by decide +kernel
theorem dX8_putsAll_1 : decode cX8_putsAll 1 = .ok (.istore 4, 2) := by decide +kernel
theorem dX8_putsAll_3 : decode cX8_putsAll 3 = .ok (.iload 4, 2) := by decide +kernel
theorem dX8_putsAll_5 : decode cX8_putsAll 5 = .ok (.iload_n 3, 1) := by decide +kernel
theorem dX8_putsAll_6 : decode cX8_putsAll 6 = .ok (.if_icmp .ge 19, 3) := by decide +kernel
theorem dX8_putsAll_9 : decode cX8_putsAll 9 = .ok (.aload_n 0, 1) := by decide +kernel
theorem dX8_putsAll_10 : decode cX8_putsAll 10 = .ok (.aload_n 1, 1) := by decide +kernel
theorem dX8_putsAll_11 : decode cX8_putsAll 11 = .ok (.iload_n 2, 1) := by decide +kernel
theorem dX8_putsAll_12 : decode cX8_putsAll 12 = .ok (.iload 4, 2) := by decide +kernel
theorem dX8_putsAll_14 : decode cX8_putsAll 14 = .ok (.iadd, 1) := by decide +kernel
theorem dX8_putsAll_15 : decode cX8_putsAll 15 = .ok (.baload, 1) := by decide +kernel
theorem dX8_putsAll_16 : decode cX8_putsAll 16 = .ok (.invokevirtual 259, 3) := by decide +kernel
theorem dX8_putsAll_19 : decode cX8_putsAll 19 = .ok (.iinc 4 1, 3) := by decide +kernel
theorem dX8_putsAll_22 : decode cX8_putsAll 22 = .ok (.goto (-19), 3) := by decide +kernel
theorem dX8_putsAll_25 : decode cX8_putsAll 25 = .ok (.return_, 1) := by decide +kernel
abbrev rm_X8_putsAll : Room := { frames := 1, cells := 0, slots := 0, locals := 21 }
def f_X8_putsAll_L3 (cy : Nat → ClassId) : Nat → Nat → Nat → Int32 → Int32 → Int32 → Mem → Option Mem
  | 0, _, _, _, _, _, _ => none
  | n + 1, a0, a1, a2, a3, a4, μ => if a3 ≤ a4 then (some μ) else (rdA cy μ 0 a1 (a2 + a4)).bind fun v102 => if isO μ a0 7 = true then ((f_X8_puts cy a0 v102 μ).bind fun μ106 => f_X8_putsAll_L3 cy n a0 a1 a2 a3 (a4 + 1) μ106) else none
set_option maxRecDepth 100000 in
set_option maxHeartbeats 4000000 in
theorem w_X8_putsAll_L3 {p : Program} {l : Launch} {e : Env} {s : State} {m : MethodId} {args : Array Value} {below : List Frame} {meth : Method} {c : Code} {A : Nat → Prop} {g : Wg} {L : List Nat} {μ' : Mem} (hC : CX p m c cX8_putsAll 5 s args RX8) (hr : meth.sig.returnType = none) (hlocks : meth.locks = false) : ∀ (n : Nat), ∀ (a0 : Nat) (a1 : Nat) (a2 : Int32) (a3 : Int32) (a4 : Int32) (μ : Mem) (H : Heap) (locs : List Loc) (ls : Array Slot), lv_has ls 5 [(0, .ref a0), (1, .ref a1), (2, .int a2), (3, .int a3), (4, .int a4)] → PW g L μ A s H locs → f_X8_putsAll_L3 g.2 n a0 a1 a2 a3 a4 μ = some μ' → W p l e rm_X8_putsAll s m args below meth c H locs 0 0 (MQ below (QV g L A μ') args s 0 0 A) (F0 m 3 ls []) := by
  have hx := hC.1
  have hb := hC.2.1
  intro n
  induction n with
  | zero => intro a0 a1 a2 a3 a4 μ H locs ls hl hw hf; cases hf
  | succ n ih =>
    intro a0 a1 a2 a3 a4 μ H locs ls hl hw hf
    rw [f_X8_putsAll_L3] at hf
    refine lv_iload hx hb dX8_putsAll_3 (lv_at hl 4 rfl) ?_
    refine lv_iload_n hx hb dX8_putsAll_5 rfl (lv_at hl 3 rfl) ?_
    refine lv_icmp_ge (tgt := 25) hx hb dX8_putsAll_6 (by decide) (fun c101 => ?_) (fun c101 => ?_)
    · have hf := o_pos c101 hf
      obtain rfl := o_retv hf
      exact pw_vret hC hr hlocks hw dX8_putsAll_25
    · have hf := o_neg c101 hf
      refine lv_aload_n hx hb dX8_putsAll_9 rfl (lv_at hl 0 rfl) ?_
      refine lv_aload_n hx hb dX8_putsAll_10 rfl (lv_at hl 1 rfl) ?_
      refine lv_iload_n hx hb dX8_putsAll_11 rfl (lv_at hl 2 rfl) ?_
      refine lv_iload hx hb dX8_putsAll_12 (lv_at hl 4 rfl) ?_
      refine lv_iadd hx hb dX8_putsAll_14 ?_
      obtain ⟨v102, h103, hf⟩ := o_bind hf
      refine pw_bald hC hw h103 dX8_putsAll_15 ?_
      obtain ⟨h105, hf⟩ := o_ite hf
      obtain ⟨μ106, h104, hf⟩ := o_bind hf
      refine pw_goV hw (pw_runV (As := [.int v102]) (rest := []) hC mm_X8_puts tw_1442 (c_X8_puts h104 _) ⟨rfl, rfl, by decide, by decide⟩ hw h105 rfl hl.1 (Nat.le_of_ble_eq_true rfl) ⟨Nat.zero_le _, Nat.zero_le _⟩ rfl dX8_putsAll_16) (fun H locs hw => ?_)
      refine lv_iinc (v := (a4 + 1)) (lv' := [(4, .int (a4 + 1)), (0, .ref a0), (1, .ref a1), (2, .int a2), (3, .int a3)]) hx hb dX8_putsAll_19 hl (k := 4) rfl (by first | rfl | decide +kernel) (by decide) rfl (fun ls hl => ?_)
      refine lv_goto (tgt := 3) hx hb dX8_putsAll_22 (by decide) ?_
      exact ih _ _ _ _ _ _ _ _ ls (lv_sub hl [1, 2, 3, 4, 0] rfl) hw hf
def f_X8_putsAll (cy : Nat → ClassId) (a0 : Nat) (a1 : Nat) (a2 : Int32) (a3 : Int32) (μ : Mem) : Option Mem :=
  f_X8_putsAll_L3 cy FU a0 a1 a2 a3 0 μ
set_option maxRecDepth 100000 in
set_option maxHeartbeats 4000000 in
theorem c_X8_putsAll {l : Launch} {g : Wg} {L : List Nat} {μ : Mem} {a0 : Nat} {a1 : Nat} {a2 : Int32} {a3 : Int32} {μ' : Mem} (hf : f_X8_putsAll g.2 a0 a1 a2 a3 μ = some μ') : MetV l yX8_putsAll cX8_putsAll 5 none rm_X8_putsAll g L μ [.ref a0, .ref a1, .int a2, .int a3] μ' := by
  refine pw_met (Qc := fun A => QV g L A μ') (by decide) (Nat.le_of_ble_eq_true rfl) ?_
  intro p e s m args below meth c A ls H locs hC hr hlocks hl hw
  have hx := hC.1
  have hb := hC.2.1
  have hl : lv_has ls 5 [(0, .ref a0), (1, .ref a1), (2, .int a2), (3, .int a3)] := hl
  unfold f_X8_putsAll at hf
  refine lv_iconst (v := 0) hx hb dX8_putsAll_0 nc_iconst_0 ?_
  refine lv_istore (lv' := [(4, .int 0), (0, .ref a0), (1, .ref a1), (2, .int a2), (3, .int a3)]) hx hb dX8_putsAll_1 hl (by decide) rfl (fun ls hl => ?_)
  exact w_X8_putsAll_L3 hC hr hlocks FU _ _ _ _ _ _ _ _ ls (lv_sub hl [1, 2, 3, 4, 0] rfl) hw hf
abbrev rm_WR (d : Nat) : Room := { frames := 2 + d, cells := 0, slots := 0, locals := 45 + 24 * d }
theorem fit_WR (d : Nat) {nL : Nat} (h : nL ≤ 5) : fitR (rm_WR (d + 1)) (rm_WR d) nL := ⟨rfl, rfl, by show 2 + d + 1 ≤ 2 + (d + 1); omega, by show 8 + (nL + 11) + (45 + 24 * d) ≤ 45 + 24 * (d + 1); omega⟩
theorem fio_WR (d : Nat) {rm : Room} {nL : Nat} (h : rm.cells = 0 ∧ rm.slots = 0 ∧ rm.frames + 1 ≤ 2 ∧ 8 + (nL + 11) + rm.locals ≤ 45) : fitR (rm_WR (d + 1)) rm nL := ⟨h.1, h.2.1, by have := h.2.2.1; show rm.frames + 1 ≤ 2 + (d + 1); omega, by have := h.2.2.2; show 8 + (nL + 11) + rm.locals ≤ 45 + 24 * (d + 1); omega⟩
theorem fim_WR (d : Nat) : 1 ≤ (rm_WR (d + 1)).frames ∧ 40 ≤ (rm_WR (d + 1)).locals := ⟨by show 1 ≤ 2 + (d + 1); omega, by show 40 ≤ 45 + 24 * (d + 1); omega⟩
theorem dX8_writeDoc_0 : decode cX8_writeDoc 0 = .ok (.aload_n 0, 1) := by decide +kernel
theorem dX8_writeDoc_1 : decode cX8_writeDoc 1 = .ok (.getfield 256, 3) := by decide +kernel
theorem dX8_writeDoc_4 : decode cX8_writeDoc 4 = .ok (.istore_n 2, 1) := by decide +kernel
theorem dX8_writeDoc_5 : decode cX8_writeDoc 5 = .ok (.aload_n 0, 1) := by decide +kernel
theorem dX8_writeDoc_6 : decode cX8_writeDoc 6 = .ok (.aload_n 0, 1) := by decide +kernel
theorem dX8_writeDoc_7 : decode cX8_writeDoc 7 = .ok (.getfield 77, 3) := by decide +kernel
theorem dX8_writeDoc_10 : decode cX8_writeDoc 10 = .ok (.aload_n 0, 1) := by decide +kernel
theorem dX8_writeDoc_11 : decode cX8_writeDoc 11 = .ok (.getfield 256, 3) := by decide +kernel
theorem dX8_writeDoc_14 : decode cX8_writeDoc 14 = .ok (.iconst 0, 1) := by decide +kernel
theorem dX8_writeDoc_15 : decode cX8_writeDoc 15 = .ok (.invokevirtual 278, 3) := by decide +kernel
theorem dX8_writeDoc_18 : decode cX8_writeDoc 18 = .ok (.aload_n 0, 1) := by decide +kernel
theorem dX8_writeDoc_19 : decode cX8_writeDoc 19 = .ok (.dup, 1) := by decide +kernel
theorem dX8_writeDoc_20 : decode cX8_writeDoc 20 = .ok (.getfield 256, 3) := by decide +kernel
theorem dX8_writeDoc_23 : decode cX8_writeDoc 23 = .ok (.iconst 4, 1) := by decide +kernel
theorem dX8_writeDoc_24 : decode cX8_writeDoc 24 = .ok (.iadd, 1) := by decide +kernel
theorem dX8_writeDoc_25 : decode cX8_writeDoc 25 = .ok (.putfield 256, 3) := by decide +kernel
theorem dX8_writeDoc_28 : decode cX8_writeDoc 28 = .ok (.iload_n 1, 1) := by decide +kernel
theorem dX8_writeDoc_29 : decode cX8_writeDoc 29 = .ok (.aload_n 0, 1) := by decide +kernel
theorem dX8_writeDoc_30 : decode cX8_writeDoc 30 = .ok (.getfield 262, 3) := by decide +kernel
theorem dX8_writeDoc_33 : decode cX8_writeDoc 33 = .ok (.if_icmp .ne 51, 3) := by decide +kernel
theorem dX8_writeDoc_36 : decode cX8_writeDoc 36 = .ok (.iconst 0, 1) := by decide +kernel
theorem dX8_writeDoc_37 : decode cX8_writeDoc 37 = .ok (.istore_n 3, 1) := by decide +kernel
theorem dX8_writeDoc_38 : decode cX8_writeDoc 38 = .ok (.iload_n 3, 1) := by decide +kernel
theorem dX8_writeDoc_39 : decode cX8_writeDoc 39 = .ok (.aload_n 0, 1) := by decide +kernel
theorem dX8_writeDoc_40 : decode cX8_writeDoc 40 = .ok (.getfield 268, 3) := by decide +kernel
theorem dX8_writeDoc_43 : decode cX8_writeDoc 43 = .ok (.if_icmp .ge 38, 3) := by decide +kernel
theorem dX8_writeDoc_46 : decode cX8_writeDoc 46 = .ok (.aload_n 0, 1) := by decide +kernel
theorem dX8_writeDoc_47 : decode cX8_writeDoc 47 = .ok (.aload_n 0, 1) := by decide +kernel
theorem dX8_writeDoc_48 : decode cX8_writeDoc 48 = .ok (.getfield 80, 3) := by decide +kernel
theorem dX8_writeDoc_51 : decode cX8_writeDoc 51 = .ok (.iload_n 3, 1) := by decide +kernel
theorem dX8_writeDoc_52 : decode cX8_writeDoc 52 = .ok (.iaload, 1) := by decide +kernel
theorem dX8_writeDoc_53 : decode cX8_writeDoc 53 = .ok (.iload_n 3, 1) := by decide +kernel
theorem dX8_writeDoc_54 : decode cX8_writeDoc 54 = .ok (.aload_n 0, 1) := by decide +kernel
theorem dX8_writeDoc_55 : decode cX8_writeDoc 55 = .ok (.getfield 67, 3) := by decide +kernel
theorem dX8_writeDoc_58 : decode cX8_writeDoc 58 = .ok (.getfield 228, 3) := by decide +kernel
theorem dX8_writeDoc_61 : decode cX8_writeDoc 61 = .ok (.iload_n 1, 1) := by decide +kernel
theorem dX8_writeDoc_62 : decode cX8_writeDoc 62 = .ok (.iaload, 1) := by decide +kernel
theorem dX8_writeDoc_63 : decode cX8_writeDoc 63 = .ok (.iconst 4, 1) := by decide +kernel
theorem dX8_writeDoc_64 : decode cX8_writeDoc 64 = .ok (.if_icmp .ne 7, 3) := by decide +kernel
theorem dX8_writeDoc_67 : decode cX8_writeDoc 67 = .ok (.iconst 1, 1) := by decide +kernel
theorem dX8_writeDoc_68 : decode cX8_writeDoc 68 = .ok (.goto 4, 3) := by decide +kernel
theorem dX8_writeDoc_71 : decode cX8_writeDoc 71 = .ok (.iconst 0, 1) := by decide +kernel
theorem dX8_writeDoc_72 : decode cX8_writeDoc 72 = .ok (.invokevirtual 282, 3) := by decide +kernel
theorem dX8_writeDoc_75 : decode cX8_writeDoc 75 = .ok (.iinc 3 1, 3) := by decide +kernel
theorem dX8_writeDoc_78 : decode cX8_writeDoc 78 = .ok (.goto (-40), 3) := by decide +kernel
theorem dX8_writeDoc_81 : decode cX8_writeDoc 81 = .ok (.goto 64, 3) := by decide +kernel
theorem dX8_writeDoc_84 : decode cX8_writeDoc 84 = .ok (.iconst 0, 1) := by decide +kernel
theorem dX8_writeDoc_85 : decode cX8_writeDoc 85 = .ok (.istore_n 3, 1) := by decide +kernel
theorem dX8_writeDoc_86 : decode cX8_writeDoc 86 = .ok (.aload_n 0, 1) := by decide +kernel
theorem dX8_writeDoc_87 : decode cX8_writeDoc 87 = .ok (.getfield 67, 3) := by decide +kernel
theorem dX8_writeDoc_90 : decode cX8_writeDoc 90 = .ok (.getfield 201, 3) := by decide +kernel
theorem dX8_writeDoc_93 : decode cX8_writeDoc 93 = .ok (.iload_n 1, 1) := by decide +kernel
theorem dX8_writeDoc_94 : decode cX8_writeDoc 94 = .ok (.iaload, 1) := by decide +kernel
theorem dX8_writeDoc_95 : decode cX8_writeDoc 95 = .ok (.istore 4, 2) := by decide +kernel
theorem dX8_writeDoc_97 : decode cX8_writeDoc 97 = .ok (.iload 4, 2) := by decide +kernel
theorem dX8_writeDoc_99 : decode cX8_writeDoc 99 = .ok (.ifCond .lt 46, 3) := by decide +kernel
theorem dX8_writeDoc_102 : decode cX8_writeDoc 102 = .ok (.aload_n 0, 1) := by decide +kernel
theorem dX8_writeDoc_103 : decode cX8_writeDoc 103 = .ok (.iload 4, 2) := by decide +kernel
theorem dX8_writeDoc_105 : decode cX8_writeDoc 105 = .ok (.iload_n 3, 1) := by decide +kernel
theorem dX8_writeDoc_106 : decode cX8_writeDoc 106 = .ok (.aload_n 0, 1) := by decide +kernel
theorem dX8_writeDoc_107 : decode cX8_writeDoc 107 = .ok (.getfield 67, 3) := by decide +kernel
theorem dX8_writeDoc_110 : decode cX8_writeDoc 110 = .ok (.getfield 228, 3) := by decide +kernel
theorem dX8_writeDoc_113 : decode cX8_writeDoc 113 = .ok (.iload_n 1, 1) := by decide +kernel
theorem dX8_writeDoc_114 : decode cX8_writeDoc 114 = .ok (.iaload, 1) := by decide +kernel
theorem dX8_writeDoc_115 : decode cX8_writeDoc 115 = .ok (.iconst 4, 1) := by decide +kernel
theorem dX8_writeDoc_116 : decode cX8_writeDoc 116 = .ok (.if_icmp .ne 7, 3) := by decide +kernel
theorem dX8_writeDoc_119 : decode cX8_writeDoc 119 = .ok (.iconst 1, 1) := by decide +kernel
theorem dX8_writeDoc_120 : decode cX8_writeDoc 120 = .ok (.goto 4, 3) := by decide +kernel
theorem dX8_writeDoc_123 : decode cX8_writeDoc 123 = .ok (.iconst 0, 1) := by decide +kernel
theorem dX8_writeDoc_124 : decode cX8_writeDoc 124 = .ok (.invokevirtual 282, 3) := by decide +kernel
theorem dX8_writeDoc_127 : decode cX8_writeDoc 127 = .ok (.iinc 3 1, 3) := by decide +kernel
theorem dX8_writeDoc_130 : decode cX8_writeDoc 130 = .ok (.aload_n 0, 1) := by decide +kernel
theorem dX8_writeDoc_131 : decode cX8_writeDoc 131 = .ok (.getfield 67, 3) := by decide +kernel
theorem dX8_writeDoc_134 : decode cX8_writeDoc 134 = .ok (.getfield 207, 3) := by decide +kernel
theorem dX8_writeDoc_137 : decode cX8_writeDoc 137 = .ok (.iload 4, 2) := by decide +kernel
theorem dX8_writeDoc_139 : decode cX8_writeDoc 139 = .ok (.iaload, 1) := by decide +kernel
theorem dX8_writeDoc_140 : decode cX8_writeDoc 140 = .ok (.istore 4, 2) := by decide +kernel
theorem dX8_writeDoc_142 : decode cX8_writeDoc 142 = .ok (.goto (-45), 3) := by decide +kernel
theorem dX8_writeDoc_145 : decode cX8_writeDoc 145 = .ok (.aload_n 0, 1) := by decide +kernel
theorem dX8_writeDoc_146 : decode cX8_writeDoc 146 = .ok (.iconst 0, 1) := by decide +kernel
theorem dX8_writeDoc_147 : decode cX8_writeDoc 147 = .ok (.invokevirtual 259, 3) := by decide +kernel
theorem dX8_writeDoc_150 : decode cX8_writeDoc 150 = .ok (.aload_n 0, 1) := by decide +kernel
theorem dX8_writeDoc_151 : decode cX8_writeDoc 151 = .ok (.aload_n 0, 1) := by decide +kernel
theorem dX8_writeDoc_152 : decode cX8_writeDoc 152 = .ok (.getfield 77, 3) := by decide +kernel
theorem dX8_writeDoc_155 : decode cX8_writeDoc 155 = .ok (.iload_n 2, 1) := by decide +kernel
theorem dX8_writeDoc_156 : decode cX8_writeDoc 156 = .ok (.aload_n 0, 1) := by decide +kernel
theorem dX8_writeDoc_157 : decode cX8_writeDoc 157 = .ok (.getfield 256, 3) := by decide +kernel
theorem dX8_writeDoc_160 : decode cX8_writeDoc 160 = .ok (.iload_n 2, 1) := by decide +kernel
theorem dX8_writeDoc_161 : decode cX8_writeDoc 161 = .ok (.isub, 1) := by decide +kernel
theorem dX8_writeDoc_162 : decode cX8_writeDoc 162 = .ok (.invokevirtual 278, 3) := by decide +kernel
theorem dX8_writeDoc_165 : decode cX8_writeDoc 165 = .ok (.return_, 1) := by decide +kernel
def f_X8_writeDoc_L72 (cy : Nat → ClassId) (r_X8_writeElement : Nat → Int32 → Int32 → Int32 → Mem → Option Mem) (k38 : Nat → Int32 → Int32 → Int32 → Mem → Option Mem) (a0 : Nat) (a1 : Int32) (a2 : Int32) (a3 : Int32) (t0 : Nat) (t1 : Int32) (t2 : Int32) (t3 : Int32) (μ : Mem) : Option Mem :=
  if isO μ t0 7 = true then ((r_X8_writeElement t0 t1 t2 t3 μ).bind fun μ103 => k38 a0 a1 a2 (a3 + 1) μ103) else none
set_option maxRecDepth 100000 in
set_option maxHeartbeats 4000000 in
theorem w_X8_writeDoc_L72 {p : Program} {l : Launch} {e : Env} {s : State} {m : MethodId} {args : Array Value} {below : List Frame} {meth : Method} {c : Code} {A : Nat → Prop} {g : Wg} {L : List Nat} {μ' : Mem} (hC : CX p m c cX8_writeDoc 5 s args RX8) (hr : meth.sig.returnType = none) (hlocks : meth.locks = false) {d : Nat} {r_X8_writeElement : Nat → Int32 → Int32 → Int32 → Mem → Option Mem} (hr_X8_writeElement : ∀ {a0 : Nat} {a1 : Int32} {a2 : Int32} {a3 : Int32} {μ : Mem} {μ9 : Mem}, r_X8_writeElement a0 a1 a2 a3 μ = some μ9 → MetV l yX8_writeElement cX8_writeElement 5 none (rm_WR d) g L μ [.ref a0, .int a1, .int a2, .int a3] μ9) {k38 : Nat → Int32 → Int32 → Int32 → Mem → Option Mem} (hk38 : ∀ (a0 : Nat) (a1 : Int32) (a2 : Int32) (a3 : Int32) (μ : Mem) (H : Heap) (locs : List Loc) (ls : Array Slot), lv_has ls 5 [(0, .ref a0), (1, .int a1), (2, .int a2), (3, .int a3)] → PW g L μ A s H locs → k38 a0 a1 a2 a3 μ = some μ' → W p l e (rm_WR (d + 1)) s m args below meth c H locs 0 0 (MQ below (QV g L A μ') args s 0 0 A) (F0 m 38 ls [])) : ∀ (a0 : Nat) (a1 : Int32) (a2 : Int32) (a3 : Int32) (t0 : Nat) (t1 : Int32) (t2 : Int32) (t3 : Int32) (μ : Mem) (H : Heap) (locs : List Loc) (ls : Array Slot), lv_has ls 5 [(0, .ref a0), (1, .int a1), (2, .int a2), (3, .int a3)] → PW g L μ A s H locs → f_X8_writeDoc_L72 g.2 r_X8_writeElement k38 a0 a1 a2 a3 t0 t1 t2 t3 μ = some μ' → W p l e (rm_WR (d + 1)) s m args below meth c H locs 0 0 (MQ below (QV g L A μ') args s 0 0 A) (F0 m 72 ls [.int t3, .int t2, .int t1, .ref t0]) := by
  have hx := hC.1
  have hb := hC.2.1
  intro a0 a1 a2 a3 t0 t1 t2 t3 μ H locs ls hl hw hf
  unfold f_X8_writeDoc_L72 at hf
  obtain ⟨h102, hf⟩ := o_ite hf
  obtain ⟨μ103, h101, hf⟩ := o_bind hf
  refine pw_goV hw (pw_runV (As := [.int t1, .int t2, .int t3]) (rest := []) hC mm_X8_writeElement tw_1438 (hr_X8_writeElement h101 _) (fit_WR d (by decide)) hw h102 rfl hl.1 (Nat.le_of_ble_eq_true rfl) ⟨Nat.zero_le _, Nat.zero_le _⟩ rfl dX8_writeDoc_72) (fun H locs hw => ?_)
  refine lv_iinc (v := (a3 + 1)) (lv' := [(3, .int (a3 + 1)), (0, .ref a0), (1, .int a1), (2, .int a2)]) hx hb dX8_writeDoc_75 hl (k := 3) rfl (by first | rfl | decide +kernel) (by decide) rfl (fun ls hl => ?_)
  refine lv_goto (tgt := 38) hx hb dX8_writeDoc_78 (by decide) ?_
  exact hk38 _ _ _ _ _ _ _ ls (lv_sub hl [1, 2, 3, 0] rfl) hw hf
def f_X8_writeDoc_L124 (cy : Nat → ClassId) (r_X8_writeElement : Nat → Int32 → Int32 → Int32 → Mem → Option Mem) (k97 : Nat → Int32 → Int32 → Int32 → Int32 → Mem → Option Mem) (a0 : Nat) (a1 : Int32) (a2 : Int32) (a3 : Int32) (a4 : Int32) (t0 : Nat) (t1 : Int32) (t2 : Int32) (t3 : Int32) (μ : Mem) : Option Mem :=
  if isO μ t0 7 = true then ((r_X8_writeElement t0 t1 t2 t3 μ).bind fun μ103 => (rdR μ103 a0 7 21).bind fun q104 => (rdR μ103 q104 6 5).bind fun q106 => (rdA cy μ103 1 q106 a4).bind fun v108 => k97 a0 a1 a2 (a3 + 1) v108 μ103) else none
set_option maxRecDepth 100000 in
set_option maxHeartbeats 4000000 in
theorem w_X8_writeDoc_L124 {p : Program} {l : Launch} {e : Env} {s : State} {m : MethodId} {args : Array Value} {below : List Frame} {meth : Method} {c : Code} {A : Nat → Prop} {g : Wg} {L : List Nat} {μ' : Mem} (hC : CX p m c cX8_writeDoc 5 s args RX8) (hr : meth.sig.returnType = none) (hlocks : meth.locks = false) {d : Nat} {r_X8_writeElement : Nat → Int32 → Int32 → Int32 → Mem → Option Mem} (hr_X8_writeElement : ∀ {a0 : Nat} {a1 : Int32} {a2 : Int32} {a3 : Int32} {μ : Mem} {μ9 : Mem}, r_X8_writeElement a0 a1 a2 a3 μ = some μ9 → MetV l yX8_writeElement cX8_writeElement 5 none (rm_WR d) g L μ [.ref a0, .int a1, .int a2, .int a3] μ9) {k97 : Nat → Int32 → Int32 → Int32 → Int32 → Mem → Option Mem} (hk97 : ∀ (a0 : Nat) (a1 : Int32) (a2 : Int32) (a3 : Int32) (a4 : Int32) (μ : Mem) (H : Heap) (locs : List Loc) (ls : Array Slot), lv_has ls 5 [(0, .ref a0), (1, .int a1), (2, .int a2), (3, .int a3), (4, .int a4)] → PW g L μ A s H locs → k97 a0 a1 a2 a3 a4 μ = some μ' → W p l e (rm_WR (d + 1)) s m args below meth c H locs 0 0 (MQ below (QV g L A μ') args s 0 0 A) (F0 m 97 ls [])) : ∀ (a0 : Nat) (a1 : Int32) (a2 : Int32) (a3 : Int32) (a4 : Int32) (t0 : Nat) (t1 : Int32) (t2 : Int32) (t3 : Int32) (μ : Mem) (H : Heap) (locs : List Loc) (ls : Array Slot), lv_has ls 5 [(0, .ref a0), (1, .int a1), (2, .int a2), (3, .int a3), (4, .int a4)] → PW g L μ A s H locs → f_X8_writeDoc_L124 g.2 r_X8_writeElement k97 a0 a1 a2 a3 a4 t0 t1 t2 t3 μ = some μ' → W p l e (rm_WR (d + 1)) s m args below meth c H locs 0 0 (MQ below (QV g L A μ') args s 0 0 A) (F0 m 124 ls [.int t3, .int t2, .int t1, .ref t0]) := by
  have hx := hC.1
  have hb := hC.2.1
  intro a0 a1 a2 a3 a4 t0 t1 t2 t3 μ H locs ls hl hw hf
  unfold f_X8_writeDoc_L124 at hf
  obtain ⟨h102, hf⟩ := o_ite hf
  obtain ⟨μ103, h101, hf⟩ := o_bind hf
  refine pw_goV hw (pw_runV (As := [.int t1, .int t2, .int t3]) (rest := []) hC mm_X8_writeElement tw_1438 (hr_X8_writeElement h101 _) (fit_WR d (by decide)) hw h102 rfl hl.1 (Nat.le_of_ble_eq_true rfl) ⟨Nat.zero_le _, Nat.zero_le _⟩ rfl dX8_writeDoc_124) (fun H locs hw => ?_)
  refine lv_iinc (v := (a3 + 1)) (lv' := [(3, .int (a3 + 1)), (0, .ref a0), (1, .int a1), (2, .int a2), (4, .int a4)]) hx hb dX8_writeDoc_127 hl (k := 3) rfl (by first | rfl | decide +kernel) (by decide) rfl (fun ls hl => ?_)
  refine lv_aload_n hx hb dX8_writeDoc_130 rfl (lv_at hl 1 rfl) ?_
  obtain ⟨q104, h105, hf⟩ := o_bind hf
  refine pw_get hC fl_X8_67 hw (rdR_F h105) dX8_writeDoc_131 ?_
  obtain ⟨q106, h107, hf⟩ := o_bind hf
  refine pw_get hC fl_X8_207 hw (rdR_F h107) dX8_writeDoc_134 ?_
  refine lv_iload hx hb dX8_writeDoc_137 (lv_at hl 4 rfl) ?_
  obtain ⟨v108, h109, hf⟩ := o_bind hf
  refine pw_iald hC hw h109 dX8_writeDoc_139 ?_
  refine lv_istore (lv' := [(4, .int v108), (3, .int (a3 + 1)), (0, .ref a0), (1, .int a1), (2, .int a2)]) hx hb dX8_writeDoc_140 hl (by decide) rfl (fun ls hl => ?_)
  refine lv_goto (tgt := 97) hx hb dX8_writeDoc_142 (by decide) ?_
  exact hk97 _ _ _ _ _ _ _ _ ls (lv_sub hl [2, 3, 4, 1, 0] rfl) hw hf
def f_X8_writeDoc_L145 (cy : Nat → ClassId) (r_X8_writeElement : Nat → Int32 → Int32 → Int32 → Mem → Option Mem) (a0 : Nat) (a2 : Int32) (μ : Mem) : Option Mem :=
  if isO μ a0 7 = true then ((f_X8_puts cy a0 0 μ).bind fun μ103 => (rdR μ103 a0 7 26).bind fun q104 => (rdI μ103 a0 7 27).bind fun v106 => if isO μ103 a0 7 = true then ((f_X8_lengthAt cy a0 q104 a2 (v106 - a2) μ103).bind fun μ110 => some μ110) else none) else none
set_option maxRecDepth 100000 in
set_option maxHeartbeats 4000000 in
theorem w_X8_writeDoc_L145 {p : Program} {l : Launch} {e : Env} {s : State} {m : MethodId} {args : Array Value} {below : List Frame} {meth : Method} {c : Code} {A : Nat → Prop} {g : Wg} {L : List Nat} {μ' : Mem} (hC : CX p m c cX8_writeDoc 5 s args RX8) (hr : meth.sig.returnType = none) (hlocks : meth.locks = false) {d : Nat} {r_X8_writeElement : Nat → Int32 → Int32 → Int32 → Mem → Option Mem} (hr_X8_writeElement : ∀ {a0 : Nat} {a1 : Int32} {a2 : Int32} {a3 : Int32} {μ : Mem} {μ9 : Mem}, r_X8_writeElement a0 a1 a2 a3 μ = some μ9 → MetV l yX8_writeElement cX8_writeElement 5 none (rm_WR d) g L μ [.ref a0, .int a1, .int a2, .int a3] μ9) : ∀ (a0 : Nat) (a2 : Int32) (μ : Mem) (H : Heap) (locs : List Loc) (ls : Array Slot), lv_has ls 5 [(0, .ref a0), (2, .int a2)] → PW g L μ A s H locs → f_X8_writeDoc_L145 g.2 r_X8_writeElement a0 a2 μ = some μ' → W p l e (rm_WR (d + 1)) s m args below meth c H locs 0 0 (MQ below (QV g L A μ') args s 0 0 A) (F0 m 145 ls []) := by
  have hx := hC.1
  have hb := hC.2.1
  intro a0 a2 μ H locs ls hl hw hf
  unfold f_X8_writeDoc_L145 at hf
  refine lv_aload_n hx hb dX8_writeDoc_145 rfl (lv_at hl 0 rfl) ?_
  refine lv_iconst (v := 0) hx hb dX8_writeDoc_146 nc_iconst_0 ?_
  obtain ⟨h102, hf⟩ := o_ite hf
  obtain ⟨μ103, h101, hf⟩ := o_bind hf
  refine pw_goV hw (pw_runV (As := [.int 0]) (rest := []) hC mm_X8_puts tw_1442 (c_X8_puts h101 _) (fio_WR d (by decide)) hw h102 rfl hl.1 (Nat.le_of_ble_eq_true rfl) ⟨Nat.zero_le _, Nat.zero_le _⟩ rfl dX8_writeDoc_147) (fun H locs hw => ?_)
  refine lv_aload_n hx hb dX8_writeDoc_150 rfl (lv_at hl 0 rfl) ?_
  refine lv_aload_n hx hb dX8_writeDoc_151 rfl (lv_at hl 0 rfl) ?_
  obtain ⟨q104, h105, hf⟩ := o_bind hf
  refine pw_get hC fl_X8_77 hw (rdR_F h105) dX8_writeDoc_152 ?_
  refine lv_iload_n hx hb dX8_writeDoc_155 rfl (lv_at hl 1 rfl) ?_
  refine lv_aload_n hx hb dX8_writeDoc_156 rfl (lv_at hl 0 rfl) ?_
  obtain ⟨v106, h107, hf⟩ := o_bind hf
  refine pw_get hC fl_X8_256 hw (rdI_F h107) dX8_writeDoc_157 ?_
  refine lv_iload_n hx hb dX8_writeDoc_160 rfl (lv_at hl 1 rfl) ?_
  refine lv_isub hx hb dX8_writeDoc_161 ?_
  obtain ⟨h109, hf⟩ := o_ite hf
  obtain ⟨μ110, h108, hf⟩ := o_bind hf
  refine pw_goV hw (pw_runV (As := [.ref q104, .int a2, .int (v106 - a2)]) (rest := []) hC mm_X8_lengthAt tw_1434 (c_X8_lengthAt h108 _) (fio_WR d (by decide)) hw h109 rfl hl.1 (Nat.le_of_ble_eq_true rfl) ⟨Nat.zero_le _, Nat.zero_le _⟩ rfl dX8_writeDoc_162) (fun H locs hw => ?_)
  obtain rfl := o_retv hf
  exact pw_vret hC hr hlocks hw dX8_writeDoc_165
def f_X8_writeDoc_L38 (cy : Nat → ClassId) (r_X8_writeElement : Nat → Int32 → Int32 → Int32 → Mem → Option Mem) : Nat → Nat → Int32 → Int32 → Int32 → Mem → Option Mem
  | 0, _, _, _, _, _ => none
  | n + 1, a0, a1, a2, a3, μ => (rdI μ a0 7 31).bind fun v101 => if v101 ≤ a3 then (f_X8_writeDoc_L145 cy r_X8_writeElement a0 a2 μ) else (rdR μ a0 7 30).bind fun q104 => (rdA cy μ 1 q104 a3).bind fun v106 => (rdR μ a0 7 21).bind fun q108 => (rdR μ q108 6 2).bind fun q110 => (rdA cy μ 1 q110 a1).bind fun v112 => if v112 = 4 then (f_X8_writeDoc_L72 cy r_X8_writeElement (f_X8_writeDoc_L38 cy r_X8_writeElement n) a0 a1 a2 a3 a0 v106 a3 1 μ) else f_X8_writeDoc_L72 cy r_X8_writeElement (f_X8_writeDoc_L38 cy r_X8_writeElement n) a0 a1 a2 a3 a0 v106 a3 0 μ
set_option maxRecDepth 100000 in
set_option maxHeartbeats 4000000 in
theorem w_X8_writeDoc_L38 {p : Program} {l : Launch} {e : Env} {s : State} {m : MethodId} {args : Array Value} {below : List Frame} {meth : Method} {c : Code} {A : Nat → Prop} {g : Wg} {L : List Nat} {μ' : Mem} (hC : CX p m c cX8_writeDoc 5 s args RX8) (hr : meth.sig.returnType = none) (hlocks : meth.locks = false) {d : Nat} {r_X8_writeElement : Nat → Int32 → Int32 → Int32 → Mem → Option Mem} (hr_X8_writeElement : ∀ {a0 : Nat} {a1 : Int32} {a2 : Int32} {a3 : Int32} {μ : Mem} {μ9 : Mem}, r_X8_writeElement a0 a1 a2 a3 μ = some μ9 → MetV l yX8_writeElement cX8_writeElement 5 none (rm_WR d) g L μ [.ref a0, .int a1, .int a2, .int a3] μ9) : ∀ (n : Nat), ∀ (a0 : Nat) (a1 : Int32) (a2 : Int32) (a3 : Int32) (μ : Mem) (H : Heap) (locs : List Loc) (ls : Array Slot), lv_has ls 5 [(0, .ref a0), (1, .int a1), (2, .int a2), (3, .int a3)] → PW g L μ A s H locs → f_X8_writeDoc_L38 g.2 r_X8_writeElement n a0 a1 a2 a3 μ = some μ' → W p l e (rm_WR (d + 1)) s m args below meth c H locs 0 0 (MQ below (QV g L A μ') args s 0 0 A) (F0 m 38 ls []) := by
  have hx := hC.1
  have hb := hC.2.1
  intro n
  induction n with
  | zero => intro a0 a1 a2 a3 μ H locs ls hl hw hf; cases hf
  | succ n ih =>
    intro a0 a1 a2 a3 μ H locs ls hl hw hf
    rw [f_X8_writeDoc_L38] at hf
    refine lv_iload_n hx hb dX8_writeDoc_38 rfl (lv_at hl 3 rfl) ?_
    refine lv_aload_n hx hb dX8_writeDoc_39 rfl (lv_at hl 0 rfl) ?_
    obtain ⟨v101, h102, hf⟩ := o_bind hf
    refine pw_get hC fl_X8_268 hw (rdI_F h102) dX8_writeDoc_40 ?_
    refine lv_icmp_ge (tgt := 81) hx hb dX8_writeDoc_43 (by decide) (fun c103 => ?_) (fun c103 => ?_)
    · have hf := o_pos c103 hf
      refine lv_goto (tgt := 145) hx hb dX8_writeDoc_81 (by decide) ?_
      exact w_X8_writeDoc_L145 hC hr hlocks hr_X8_writeElement _ _ _ _ _ ls (lv_sub hl [0, 2] rfl) hw hf
    · have hf := o_neg c103 hf
      refine lv_aload_n hx hb dX8_writeDoc_46 rfl (lv_at hl 0 rfl) ?_
      refine lv_aload_n hx hb dX8_writeDoc_47 rfl (lv_at hl 0 rfl) ?_
      obtain ⟨q104, h105, hf⟩ := o_bind hf
      refine pw_get hC fl_X8_80 hw (rdR_F h105) dX8_writeDoc_48 ?_
      refine lv_iload_n hx hb dX8_writeDoc_51 rfl (lv_at hl 3 rfl) ?_
      obtain ⟨v106, h107, hf⟩ := o_bind hf
      refine pw_iald hC hw h107 dX8_writeDoc_52 ?_
      refine lv_iload_n hx hb dX8_writeDoc_53 rfl (lv_at hl 3 rfl) ?_
      refine lv_aload_n hx hb dX8_writeDoc_54 rfl (lv_at hl 0 rfl) ?_
      obtain ⟨q108, h109, hf⟩ := o_bind hf
      refine pw_get hC fl_X8_67 hw (rdR_F h109) dX8_writeDoc_55 ?_
      obtain ⟨q110, h111, hf⟩ := o_bind hf
      refine pw_get hC fl_X8_228 hw (rdR_F h111) dX8_writeDoc_58 ?_
      refine lv_iload_n hx hb dX8_writeDoc_61 rfl (lv_at hl 1 rfl) ?_
      obtain ⟨v112, h113, hf⟩ := o_bind hf
      refine pw_iald hC hw h113 dX8_writeDoc_62 ?_
      refine lv_iconst (v := 4) hx hb dX8_writeDoc_63 nc_iconst_4 ?_
      refine lv_icmp_ne (tgt := 71) hx hb dX8_writeDoc_64 (by decide) (fun c114 => ?_) (fun c114 => ?_)
      · have hf := o_neg c114 hf
        refine lv_iconst (v := 0) hx hb dX8_writeDoc_71 nc_iconst_0 ?_
        exact w_X8_writeDoc_L72 hC hr hlocks hr_X8_writeElement ih _ _ _ _ _ _ _ _ _ _ _ ls (lv_sub hl [0, 1, 2, 3] rfl) hw hf
      · have hf := o_pos c114 hf
        refine lv_iconst (v := 1) hx hb dX8_writeDoc_67 nc_iconst_1 ?_
        refine lv_goto (tgt := 72) hx hb dX8_writeDoc_68 (by decide) ?_
        exact w_X8_writeDoc_L72 hC hr hlocks hr_X8_writeElement ih _ _ _ _ _ _ _ _ _ _ _ ls (lv_sub hl [0, 1, 2, 3] rfl) hw hf
def f_X8_writeDoc_L97 (cy : Nat → ClassId) (r_X8_writeElement : Nat → Int32 → Int32 → Int32 → Mem → Option Mem) : Nat → Nat → Int32 → Int32 → Int32 → Int32 → Mem → Option Mem
  | 0, _, _, _, _, _, _ => none
  | n + 1, a0, a1, a2, a3, a4, μ => if a4 < 0 then (f_X8_writeDoc_L145 cy r_X8_writeElement a0 a2 μ) else (rdR μ a0 7 21).bind fun q102 => (rdR μ q102 6 2).bind fun q104 => (rdA cy μ 1 q104 a1).bind fun v106 => if v106 = 4 then (f_X8_writeDoc_L124 cy r_X8_writeElement (f_X8_writeDoc_L97 cy r_X8_writeElement n) a0 a1 a2 a3 a4 a0 a4 a3 1 μ) else f_X8_writeDoc_L124 cy r_X8_writeElement (f_X8_writeDoc_L97 cy r_X8_writeElement n) a0 a1 a2 a3 a4 a0 a4 a3 0 μ
set_option maxRecDepth 100000 in
set_option maxHeartbeats 4000000 in
theorem w_X8_writeDoc_L97 {p : Program} {l : Launch} {e : Env} {s : State} {m : MethodId} {args : Array Value} {below : List Frame} {meth : Method} {c : Code} {A : Nat → Prop} {g : Wg} {L : List Nat} {μ' : Mem} (hC : CX p m c cX8_writeDoc 5 s args RX8) (hr : meth.sig.returnType = none) (hlocks : meth.locks = false) {d : Nat} {r_X8_writeElement : Nat → Int32 → Int32 → Int32 → Mem → Option Mem} (hr_X8_writeElement : ∀ {a0 : Nat} {a1 : Int32} {a2 : Int32} {a3 : Int32} {μ : Mem} {μ9 : Mem}, r_X8_writeElement a0 a1 a2 a3 μ = some μ9 → MetV l yX8_writeElement cX8_writeElement 5 none (rm_WR d) g L μ [.ref a0, .int a1, .int a2, .int a3] μ9) : ∀ (n : Nat), ∀ (a0 : Nat) (a1 : Int32) (a2 : Int32) (a3 : Int32) (a4 : Int32) (μ : Mem) (H : Heap) (locs : List Loc) (ls : Array Slot), lv_has ls 5 [(0, .ref a0), (1, .int a1), (2, .int a2), (3, .int a3), (4, .int a4)] → PW g L μ A s H locs → f_X8_writeDoc_L97 g.2 r_X8_writeElement n a0 a1 a2 a3 a4 μ = some μ' → W p l e (rm_WR (d + 1)) s m args below meth c H locs 0 0 (MQ below (QV g L A μ') args s 0 0 A) (F0 m 97 ls []) := by
  have hx := hC.1
  have hb := hC.2.1
  intro n
  induction n with
  | zero => intro a0 a1 a2 a3 a4 μ H locs ls hl hw hf; cases hf
  | succ n ih =>
    intro a0 a1 a2 a3 a4 μ H locs ls hl hw hf
    rw [f_X8_writeDoc_L97] at hf
    refine lv_iload hx hb dX8_writeDoc_97 (lv_at hl 4 rfl) ?_
    refine lv_if_lt (tgt := 145) hx hb dX8_writeDoc_99 (by decide) (fun c101 => ?_) (fun c101 => ?_)
    · have hf := o_pos c101 hf
      exact w_X8_writeDoc_L145 hC hr hlocks hr_X8_writeElement _ _ _ _ _ ls (lv_sub hl [0, 2] rfl) hw hf
    · have hf := o_neg c101 hf
      refine lv_aload_n hx hb dX8_writeDoc_102 rfl (lv_at hl 0 rfl) ?_
      refine lv_iload hx hb dX8_writeDoc_103 (lv_at hl 4 rfl) ?_
      refine lv_iload_n hx hb dX8_writeDoc_105 rfl (lv_at hl 3 rfl) ?_
      refine lv_aload_n hx hb dX8_writeDoc_106 rfl (lv_at hl 0 rfl) ?_
      obtain ⟨q102, h103, hf⟩ := o_bind hf
      refine pw_get hC fl_X8_67 hw (rdR_F h103) dX8_writeDoc_107 ?_
      obtain ⟨q104, h105, hf⟩ := o_bind hf
      refine pw_get hC fl_X8_228 hw (rdR_F h105) dX8_writeDoc_110 ?_
      refine lv_iload_n hx hb dX8_writeDoc_113 rfl (lv_at hl 1 rfl) ?_
      obtain ⟨v106, h107, hf⟩ := o_bind hf
      refine pw_iald hC hw h107 dX8_writeDoc_114 ?_
      refine lv_iconst (v := 4) hx hb dX8_writeDoc_115 nc_iconst_4 ?_
      refine lv_icmp_ne (tgt := 123) hx hb dX8_writeDoc_116 (by decide) (fun c108 => ?_) (fun c108 => ?_)
      · have hf := o_neg c108 hf
        refine lv_iconst (v := 0) hx hb dX8_writeDoc_123 nc_iconst_0 ?_
        exact w_X8_writeDoc_L124 hC hr hlocks hr_X8_writeElement ih _ _ _ _ _ _ _ _ _ _ _ _ ls (lv_sub hl [0, 1, 2, 3, 4] rfl) hw hf
      · have hf := o_pos c108 hf
        refine lv_iconst (v := 1) hx hb dX8_writeDoc_119 nc_iconst_1 ?_
        refine lv_goto (tgt := 124) hx hb dX8_writeDoc_120 (by decide) ?_
        exact w_X8_writeDoc_L124 hC hr hlocks hr_X8_writeElement ih _ _ _ _ _ _ _ _ _ _ _ _ ls (lv_sub hl [0, 1, 2, 3, 4] rfl) hw hf
def fo_X8_writeDoc (cy : Nat → ClassId) (r_X8_writeElement : Nat → Int32 → Int32 → Int32 → Mem → Option Mem) (a0 : Nat) (a1 : Int32) (μ : Mem) : Option Mem :=
  (rdI μ a0 7 27).bind fun v1 => (rdR μ a0 7 26).bind fun q3 => (rdI μ a0 7 27).bind fun v5 => if isO μ a0 7 = true then ((f_X8_lengthAt cy a0 q3 v5 0 μ).bind fun μ9 => (rdI μ9 a0 7 27).bind fun v10 => (wrF μ9 a0 7 27 (.int (v10 + 4))).bind fun μ12 => (rdI μ12 a0 7 28).bind fun v14 => if a1 = v14 then (f_X8_writeDoc_L38 cy r_X8_writeElement FU a0 a1 v1 0 μ12) else (rdR μ12 a0 7 21).bind fun q17 => (rdR μ12 q17 6 4).bind fun q19 => (rdA cy μ12 1 q19 a1).bind fun v21 => f_X8_writeDoc_L97 cy r_X8_writeElement FU a0 a1 v1 0 v21 μ12) else none
set_option maxRecDepth 100000 in
set_option maxHeartbeats 4000000 in
theorem co_X8_writeDoc {l : Launch} {g : Wg} {L : List Nat} {d : Nat} {r_X8_writeElement : Nat → Int32 → Int32 → Int32 → Mem → Option Mem} (hr_X8_writeElement : ∀ {a0 : Nat} {a1 : Int32} {a2 : Int32} {a3 : Int32} {μ : Mem} {μ9 : Mem}, r_X8_writeElement a0 a1 a2 a3 μ = some μ9 → MetV l yX8_writeElement cX8_writeElement 5 none (rm_WR d) g L μ [.ref a0, .int a1, .int a2, .int a3] μ9) {μ : Mem} {a0 : Nat} {a1 : Int32} {μ' : Mem} (hf : fo_X8_writeDoc g.2 r_X8_writeElement a0 a1 μ = some μ') : MetV l yX8_writeDoc cX8_writeDoc 5 none (rm_WR (d + 1)) g L μ [.ref a0, .int a1] μ' := by
  refine pw_met (Qc := fun A => QV g L A μ') (by decide) (Nat.le_of_ble_eq_true rfl) ?_
  intro p e s m args below meth c A ls H locs hC hr hlocks hl hw
  have hx := hC.1
  have hb := hC.2.1
  have hl : lv_has ls 5 [(0, .ref a0), (1, .int a1)] := hl
  unfold fo_X8_writeDoc at hf
  refine lv_aload_n hx hb dX8_writeDoc_0 rfl (lv_at hl 0 rfl) ?_
  obtain ⟨v1, h2, hf⟩ := o_bind hf
  refine pw_get hC fl_X8_256 hw (rdI_F h2) dX8_writeDoc_1 ?_
  refine lv_istore_n (lv' := [(2, .int v1), (0, .ref a0), (1, .int a1)]) hx hb dX8_writeDoc_4 rfl hl (by decide) rfl (fun ls hl => ?_)
  refine lv_aload_n hx hb dX8_writeDoc_5 rfl (lv_at hl 1 rfl) ?_
  refine lv_aload_n hx hb dX8_writeDoc_6 rfl (lv_at hl 1 rfl) ?_
  obtain ⟨q3, h4, hf⟩ := o_bind hf
  refine pw_get hC fl_X8_77 hw (rdR_F h4) dX8_writeDoc_7 ?_
  refine lv_aload_n hx hb dX8_writeDoc_10 rfl (lv_at hl 1 rfl) ?_
  obtain ⟨v5, h6, hf⟩ := o_bind hf
  refine pw_get hC fl_X8_256 hw (rdI_F h6) dX8_writeDoc_11 ?_
  refine lv_iconst (v := 0) hx hb dX8_writeDoc_14 nc_iconst_0 ?_
  obtain ⟨h8, hf⟩ := o_ite hf
  obtain ⟨μ9, h7, hf⟩ := o_bind hf
  refine pw_goV hw (pw_runV (As := [.ref q3, .int v5, .int 0]) (rest := []) hC mm_X8_lengthAt tw_1434 (c_X8_lengthAt h7 _) (fio_WR d (by decide)) hw h8 rfl hl.1 (Nat.le_of_ble_eq_true rfl) ⟨Nat.zero_le _, Nat.zero_le _⟩ rfl dX8_writeDoc_15) (fun H locs hw => ?_)
  refine lv_aload_n hx hb dX8_writeDoc_18 rfl (lv_at hl 1 rfl) ?_
  refine lv_dup hx hb dX8_writeDoc_19 rfl ?_
  obtain ⟨v10, h11, hf⟩ := o_bind hf
  refine pw_get hC fl_X8_256 hw (rdI_F h11) dX8_writeDoc_20 ?_
  refine lv_iconst (v := 4) hx hb dX8_writeDoc_23 nc_iconst_4 ?_
  refine lv_iadd hx hb dX8_writeDoc_24 ?_
  obtain ⟨μ12, h13, hf⟩ := o_bind hf
  refine pw_put hC fl_X8_256 hw h13 .int fd_X8_27 rfl rfl dX8_writeDoc_25 (fun H locs hw => ?_)
  refine lv_iload_n hx hb dX8_writeDoc_28 rfl (lv_at hl 2 rfl) ?_
  refine lv_aload_n hx hb dX8_writeDoc_29 rfl (lv_at hl 1 rfl) ?_
  obtain ⟨v14, h15, hf⟩ := o_bind hf
  refine pw_get hC fl_X8_262 hw (rdI_F h15) dX8_writeDoc_30 ?_
  refine lv_icmp_ne (tgt := 84) hx hb dX8_writeDoc_33 (by decide) (fun c16 => ?_) (fun c16 => ?_)
  · have hf := o_neg c16 hf
    refine lv_iconst (v := 0) hx hb dX8_writeDoc_84 nc_iconst_0 ?_
    refine lv_istore_n (lv' := [(3, .int 0), (2, .int v1), (0, .ref a0), (1, .int a1)]) hx hb dX8_writeDoc_85 rfl hl (by decide) rfl (fun ls hl => ?_)
    refine lv_aload_n hx hb dX8_writeDoc_86 rfl (lv_at hl 2 rfl) ?_
    obtain ⟨q17, h18, hf⟩ := o_bind hf
    refine pw_get hC fl_X8_67 hw (rdR_F h18) dX8_writeDoc_87 ?_
    obtain ⟨q19, h20, hf⟩ := o_bind hf
    refine pw_get hC fl_X8_201 hw (rdR_F h20) dX8_writeDoc_90 ?_
    refine lv_iload_n hx hb dX8_writeDoc_93 rfl (lv_at hl 3 rfl) ?_
    obtain ⟨v21, h22, hf⟩ := o_bind hf
    refine pw_iald hC hw h22 dX8_writeDoc_94 ?_
    refine lv_istore (lv' := [(4, .int v21), (3, .int 0), (2, .int v1), (0, .ref a0), (1, .int a1)]) hx hb dX8_writeDoc_95 hl (by decide) rfl (fun ls hl => ?_)
    exact w_X8_writeDoc_L97 hC hr hlocks hr_X8_writeElement FU _ _ _ _ _ _ _ _ ls (lv_sub hl [3, 4, 2, 1, 0] rfl) hw hf
  · have hf := o_pos c16 hf
    refine lv_iconst (v := 0) hx hb dX8_writeDoc_36 nc_iconst_0 ?_
    refine lv_istore_n (lv' := [(3, .int 0), (2, .int v1), (0, .ref a0), (1, .int a1)]) hx hb dX8_writeDoc_37 rfl hl (by decide) rfl (fun ls hl => ?_)
    exact w_X8_writeDoc_L38 hC hr hlocks hr_X8_writeElement FU _ _ _ _ _ _ _ ls (lv_sub hl [2, 3, 1, 0] rfl) hw hf
theorem dX8_writeElement_0 : decode cX8_writeElement 0 = .ok (.iload_n 1, 1) := by decide +kernel
theorem dX8_writeElement_1 : decode cX8_writeElement 1 = .ok (.aload_n 0, 1) := by decide +kernel
theorem dX8_writeElement_2 : decode cX8_writeElement 2 = .ok (.getfield 265, 3) := by decide +kernel
theorem dX8_writeElement_5 : decode cX8_writeElement 5 = .ok (.if_icmp .ne 7, 3) := by decide +kernel
theorem dX8_writeElement_8 : decode cX8_writeElement 8 = .ok (.iconst 1, 1) := by decide +kernel
theorem dX8_writeElement_9 : decode cX8_writeElement 9 = .ok (.goto 4, 3) := by decide +kernel
theorem dX8_writeElement_12 : decode cX8_writeElement 12 = .ok (.iconst 0, 1) := by decide +kernel
theorem dX8_writeElement_13 : decode cX8_writeElement 13 = .ok (.istore 4, 2) := by decide +kernel
theorem dX8_writeElement_15 : decode cX8_writeElement 15 = .ok (.aload_n 0, 1) := by decide +kernel
theorem dX8_writeElement_16 : decode cX8_writeElement 16 = .ok (.iload 4, 2) := by decide +kernel
theorem dX8_writeElement_18 : decode cX8_writeElement 18 = .ok (.ifCond .eq 17, 3) := by decide +kernel
theorem dX8_writeElement_21 : decode cX8_writeElement 21 = .ok (.aload_n 0, 1) := by decide +kernel
theorem dX8_writeElement_22 : decode cX8_writeElement 22 = .ok (.getfield 271, 3) := by decide +kernel
theorem dX8_writeElement_25 : decode cX8_writeElement 25 = .ok (.ifCond .eq 10, 3) := by decide +kernel
theorem dX8_writeElement_28 : decode cX8_writeElement 28 = .ok (.aload_n 0, 1) := by decide +kernel
theorem dX8_writeElement_29 : decode cX8_writeElement 29 = .ok (.getfield 286, 3) := by decide +kernel
theorem dX8_writeElement_32 : decode cX8_writeElement 32 = .ok (.goto 12, 3) := by decide +kernel
theorem dX8_writeElement_35 : decode cX8_writeElement 35 = .ok (.aload_n 0, 1) := by decide +kernel
theorem dX8_writeElement_36 : decode cX8_writeElement 36 = .ok (.getfield 67, 3) := by decide +kernel
theorem dX8_writeElement_39 : decode cX8_writeElement 39 = .ok (.getfield 228, 3) := by decide +kernel
theorem dX8_writeElement_42 : decode cX8_writeElement 42 = .ok (.iload_n 1, 1) := by decide +kernel
theorem dX8_writeElement_43 : decode cX8_writeElement 43 = .ok (.iaload, 1) := by decide +kernel
theorem dX8_writeElement_44 : decode cX8_writeElement 44 = .ok (.invokevirtual 259, 3) := by decide +kernel
theorem dX8_writeElement_47 : decode cX8_writeElement 47 = .ok (.iload_n 3, 1) := by decide +kernel
theorem dX8_writeElement_48 : decode cX8_writeElement 48 = .ok (.ifCond .eq 20, 3) := by decide +kernel
theorem dX8_writeElement_51 : decode cX8_writeElement 51 = .ok (.aload_n 0, 1) := by decide +kernel
theorem dX8_writeElement_52 : decode cX8_writeElement 52 = .ok (.aload_n 0, 1) := by decide +kernel
theorem dX8_writeElement_53 : decode cX8_writeElement 53 = .ok (.getfield 61, 3) := by decide +kernel
theorem dX8_writeElement_56 : decode cX8_writeElement 56 = .ok (.iconst 0, 1) := by decide +kernel
theorem dX8_writeElement_57 : decode cX8_writeElement 57 = .ok (.aload_n 0, 1) := by decide +kernel
theorem dX8_writeElement_58 : decode cX8_writeElement 58 = .ok (.iload_n 2, 1) := by decide +kernel
theorem dX8_writeElement_59 : decode cX8_writeElement 59 = .ok (.invokevirtual 131, 3) := by decide +kernel
theorem dX8_writeElement_62 : decode cX8_writeElement 62 = .ok (.invokevirtual 289, 3) := by decide +kernel
theorem dX8_writeElement_65 : decode cX8_writeElement 65 = .ok (.goto 65, 3) := by decide +kernel
theorem dX8_writeElement_68 : decode cX8_writeElement 68 = .ok (.iload 4, 2) := by decide +kernel
theorem dX8_writeElement_70 : decode cX8_writeElement 70 = .ok (.ifCond .eq 29, 3) := by decide +kernel
theorem dX8_writeElement_73 : decode cX8_writeElement 73 = .ok (.aload_n 0, 1) := by decide +kernel
theorem dX8_writeElement_74 : decode cX8_writeElement 74 = .ok (.getfield 275, 3) := by decide +kernel
theorem dX8_writeElement_77 : decode cX8_writeElement 77 = .ok (.ifCond .eq 22, 3) := by decide +kernel
theorem dX8_writeElement_80 : decode cX8_writeElement 80 = .ok (.aload_n 0, 1) := by decide +kernel
theorem dX8_writeElement_81 : decode cX8_writeElement 81 = .ok (.aload_n 0, 1) := by decide +kernel
theorem dX8_writeElement_82 : decode cX8_writeElement 82 = .ok (.getfield 292, 3) := by decide +kernel
theorem dX8_writeElement_85 : decode cX8_writeElement 85 = .ok (.aload_n 0, 1) := by decide +kernel
theorem dX8_writeElement_86 : decode cX8_writeElement 86 = .ok (.getfield 295, 3) := by decide +kernel
theorem dX8_writeElement_89 : decode cX8_writeElement 89 = .ok (.aload_n 0, 1) := by decide +kernel
theorem dX8_writeElement_90 : decode cX8_writeElement 90 = .ok (.getfield 298, 3) := by decide +kernel
theorem dX8_writeElement_93 : decode cX8_writeElement 93 = .ok (.invokevirtual 289, 3) := by decide +kernel
theorem dX8_writeElement_96 : decode cX8_writeElement 96 = .ok (.goto 34, 3) := by decide +kernel
theorem dX8_writeElement_99 : decode cX8_writeElement 99 = .ok (.aload_n 0, 1) := by decide +kernel
theorem dX8_writeElement_100 : decode cX8_writeElement 100 = .ok (.aload_n 0, 1) := by decide +kernel
theorem dX8_writeElement_101 : decode cX8_writeElement 101 = .ok (.getfield 67, 3) := by decide +kernel
theorem dX8_writeElement_104 : decode cX8_writeElement 104 = .ok (.getfield 213, 3) := by decide +kernel
theorem dX8_writeElement_107 : decode cX8_writeElement 107 = .ok (.aload_n 0, 1) := by decide +kernel
theorem dX8_writeElement_108 : decode cX8_writeElement 108 = .ok (.getfield 67, 3) := by decide +kernel
theorem dX8_writeElement_111 : decode cX8_writeElement 111 = .ok (.getfield 216, 3) := by decide +kernel
theorem dX8_writeElement_114 : decode cX8_writeElement 114 = .ok (.iload_n 1, 1) := by decide +kernel
theorem dX8_writeElement_115 : decode cX8_writeElement 115 = .ok (.iaload, 1) := by decide +kernel
theorem dX8_writeElement_116 : decode cX8_writeElement 116 = .ok (.iconst 1, 1) := by decide +kernel
theorem dX8_writeElement_117 : decode cX8_writeElement 117 = .ok (.iadd, 1) := by decide +kernel
theorem dX8_writeElement_118 : decode cX8_writeElement 118 = .ok (.aload_n 0, 1) := by decide +kernel
theorem dX8_writeElement_119 : decode cX8_writeElement 119 = .ok (.getfield 67, 3) := by decide +kernel
theorem dX8_writeElement_122 : decode cX8_writeElement 122 = .ok (.getfield 210, 3) := by decide +kernel
theorem dX8_writeElement_125 : decode cX8_writeElement 125 = .ok (.iload_n 1, 1) := by decide +kernel
theorem dX8_writeElement_126 : decode cX8_writeElement 126 = .ok (.iaload, 1) := by decide +kernel
theorem dX8_writeElement_127 : decode cX8_writeElement 127 = .ok (.invokevirtual 289, 3) := by decide +kernel
theorem dX8_writeElement_130 : decode cX8_writeElement 130 = .ok (.aload_n 0, 1) := by decide +kernel
theorem dX8_writeElement_131 : decode cX8_writeElement 131 = .ok (.iconst 0, 1) := by decide +kernel
theorem dX8_writeElement_132 : decode cX8_writeElement 132 = .ok (.invokevirtual 259, 3) := by decide +kernel
theorem dX8_writeElement_135 : decode cX8_writeElement 135 = .ok (.iload 4, 2) := by decide +kernel
theorem dX8_writeElement_137 : decode cX8_writeElement 137 = .ok (.ifCond .eq 29, 3) := by decide +kernel
theorem dX8_writeElement_140 : decode cX8_writeElement 140 = .ok (.aload_n 0, 1) := by decide +kernel
theorem dX8_writeElement_141 : decode cX8_writeElement 141 = .ok (.getfield 271, 3) := by decide +kernel
theorem dX8_writeElement_144 : decode cX8_writeElement 144 = .ok (.ifCond .eq 22, 3) := by decide +kernel
theorem dX8_writeElement_147 : decode cX8_writeElement 147 = .ok (.aload_n 0, 1) := by decide +kernel
theorem dX8_writeElement_148 : decode cX8_writeElement 148 = .ok (.aload_n 0, 1) := by decide +kernel
theorem dX8_writeElement_149 : decode cX8_writeElement 149 = .ok (.getfield 301, 3) := by decide +kernel
theorem dX8_writeElement_152 : decode cX8_writeElement 152 = .ok (.aload_n 0, 1) := by decide +kernel
theorem dX8_writeElement_153 : decode cX8_writeElement 153 = .ok (.getfield 304, 3) := by decide +kernel
theorem dX8_writeElement_156 : decode cX8_writeElement 156 = .ok (.aload_n 0, 1) := by decide +kernel
theorem dX8_writeElement_157 : decode cX8_writeElement 157 = .ok (.getfield 307, 3) := by decide +kernel
theorem dX8_writeElement_160 : decode cX8_writeElement 160 = .ok (.invokevirtual 289, 3) := by decide +kernel
theorem dX8_writeElement_163 : decode cX8_writeElement 163 = .ok (.goto 8, 3) := by decide +kernel
theorem dX8_writeElement_166 : decode cX8_writeElement 166 = .ok (.aload_n 0, 1) := by decide +kernel
theorem dX8_writeElement_167 : decode cX8_writeElement 167 = .ok (.iload_n 1, 1) := by decide +kernel
theorem dX8_writeElement_168 : decode cX8_writeElement 168 = .ok (.invokevirtual 310, 3) := by decide +kernel
theorem dX8_writeElement_171 : decode cX8_writeElement 171 = .ok (.return_, 1) := by decide +kernel
def f_X8_writeElement_L166 (cy : Nat → ClassId) (r_X8_writeValue : Nat → Int32 → Mem → Option Mem) (a0 : Nat) (a1 : Int32) (μ : Mem) : Option Mem :=
  if isO μ a0 7 = true then ((r_X8_writeValue a0 a1 μ).bind fun μ103 => some μ103) else none
set_option maxRecDepth 100000 in
set_option maxHeartbeats 4000000 in
theorem w_X8_writeElement_L166 {p : Program} {l : Launch} {e : Env} {s : State} {m : MethodId} {args : Array Value} {below : List Frame} {meth : Method} {c : Code} {A : Nat → Prop} {g : Wg} {L : List Nat} {μ' : Mem} (hC : CX p m c cX8_writeElement 5 s args RX8) (hr : meth.sig.returnType = none) (hlocks : meth.locks = false) {d : Nat} {r_X8_writeValue : Nat → Int32 → Mem → Option Mem} (hr_X8_writeValue : ∀ {a0 : Nat} {a1 : Int32} {μ : Mem} {μ9 : Mem}, r_X8_writeValue a0 a1 μ = some μ9 → MetV l yX8_writeValue cX8_writeValue 3 none (rm_WR d) g L μ [.ref a0, .int a1] μ9) : ∀ (a0 : Nat) (a1 : Int32) (μ : Mem) (H : Heap) (locs : List Loc) (ls : Array Slot), lv_has ls 5 [(0, .ref a0), (1, .int a1)] → PW g L μ A s H locs → f_X8_writeElement_L166 g.2 r_X8_writeValue a0 a1 μ = some μ' → W p l e (rm_WR (d + 1)) s m args below meth c H locs 0 0 (MQ below (QV g L A μ') args s 0 0 A) (F0 m 166 ls []) := by
  have hx := hC.1
  have hb := hC.2.1
  intro a0 a1 μ H locs ls hl hw hf
  unfold f_X8_writeElement_L166 at hf
  refine lv_aload_n hx hb dX8_writeElement_166 rfl (lv_at hl 0 rfl) ?_
  refine lv_iload_n hx hb dX8_writeElement_167 rfl (lv_at hl 1 rfl) ?_
  obtain ⟨h102, hf⟩ := o_ite hf
  obtain ⟨μ103, h101, hf⟩ := o_bind hf
  refine pw_goV hw (pw_runV (As := [.int a1]) (rest := []) hC mm_X8_writeValue tw_1450 (hr_X8_writeValue h101 _) (fit_WR d (by decide)) hw h102 rfl hl.1 (Nat.le_of_ble_eq_true rfl) ⟨Nat.zero_le _, Nat.zero_le _⟩ rfl dX8_writeElement_168) (fun H locs hw => ?_)
  obtain rfl := o_retv hf
  exact pw_vret hC hr hlocks hw dX8_writeElement_171
def f_X8_writeElement_L130 (cy : Nat → ClassId) (r_X8_writeValue : Nat → Int32 → Mem → Option Mem) (a0 : Nat) (a1 : Int32) (a4 : Int32) (μ : Mem) : Option Mem :=
  if isO μ a0 7 = true then ((f_X8_puts cy a0 0 μ).bind fun μ103 => if a4 = 0 then (f_X8_writeElement_L166 cy r_X8_writeValue a0 a1 μ103) else (rdI μ103 a0 7 32).bind fun v105 => if v105 = 0 then (f_X8_writeElement_L166 cy r_X8_writeValue a0 a1 μ103) else (rdR μ103 a0 7 36).bind fun q108 => (rdI μ103 a0 7 39).bind fun v110 => (rdI μ103 a0 7 40).bind fun v112 => if isO μ103 a0 7 = true then ((f_X8_putsAll cy a0 q108 v110 v112 μ103).bind fun μ116 => some μ116) else none) else none
set_option maxRecDepth 100000 in
set_option maxHeartbeats 4000000 in
theorem w_X8_writeElement_L130 {p : Program} {l : Launch} {e : Env} {s : State} {m : MethodId} {args : Array Value} {below : List Frame} {meth : Method} {c : Code} {A : Nat → Prop} {g : Wg} {L : List Nat} {μ' : Mem} (hC : CX p m c cX8_writeElement 5 s args RX8) (hr : meth.sig.returnType = none) (hlocks : meth.locks = false) {d : Nat} {r_X8_writeValue : Nat → Int32 → Mem → Option Mem} (hr_X8_writeValue : ∀ {a0 : Nat} {a1 : Int32} {μ : Mem} {μ9 : Mem}, r_X8_writeValue a0 a1 μ = some μ9 → MetV l yX8_writeValue cX8_writeValue 3 none (rm_WR d) g L μ [.ref a0, .int a1] μ9) : ∀ (a0 : Nat) (a1 : Int32) (a4 : Int32) (μ : Mem) (H : Heap) (locs : List Loc) (ls : Array Slot), lv_has ls 5 [(0, .ref a0), (1, .int a1), (4, .int a4)] → PW g L μ A s H locs → f_X8_writeElement_L130 g.2 r_X8_writeValue a0 a1 a4 μ = some μ' → W p l e (rm_WR (d + 1)) s m args below meth c H locs 0 0 (MQ below (QV g L A μ') args s 0 0 A) (F0 m 130 ls []) := by
  have hx := hC.1
  have hb := hC.2.1
  intro a0 a1 a4 μ H locs ls hl hw hf
  unfold f_X8_writeElement_L130 at hf
  refine lv_aload_n hx hb dX8_writeElement_130 rfl (lv_at hl 0 rfl) ?_
  refine lv_iconst (v := 0) hx hb dX8_writeElement_131 nc_iconst_0 ?_
  obtain ⟨h102, hf⟩ := o_ite hf
  obtain ⟨μ103, h101, hf⟩ := o_bind hf
  refine pw_goV hw (pw_runV (As := [.int 0]) (rest := []) hC mm_X8_puts tw_1442 (c_X8_puts h101 _) (fio_WR d (by decide)) hw h102 rfl hl.1 (Nat.le_of_ble_eq_true rfl) ⟨Nat.zero_le _, Nat.zero_le _⟩ rfl dX8_writeElement_132) (fun H locs hw => ?_)
  refine lv_iload hx hb dX8_writeElement_135 (lv_at hl 2 rfl) ?_
  refine lv_if_eq (tgt := 166) hx hb dX8_writeElement_137 (by decide) (fun c104 => ?_) (fun c104 => ?_)
  · have hf := o_pos c104 hf
    exact w_X8_writeElement_L166 hC hr hlocks hr_X8_writeValue _ _ _ _ _ ls (lv_sub hl [0, 1] rfl) hw hf
  · have hf := o_neg c104 hf
    refine lv_aload_n hx hb dX8_writeElement_140 rfl (lv_at hl 0 rfl) ?_
    obtain ⟨v105, h106, hf⟩ := o_bind hf
    refine pw_get hC fl_X8_271 hw (rdI_F h106) dX8_writeElement_141 ?_
    refine lv_if_eq (tgt := 166) hx hb dX8_writeElement_144 (by decide) (fun c107 => ?_) (fun c107 => ?_)
    · have hf := o_pos c107 hf
      exact w_X8_writeElement_L166 hC hr hlocks hr_X8_writeValue _ _ _ _ _ ls (lv_sub hl [0, 1] rfl) hw hf
    · have hf := o_neg c107 hf
      refine lv_aload_n hx hb dX8_writeElement_147 rfl (lv_at hl 0 rfl) ?_
      refine lv_aload_n hx hb dX8_writeElement_148 rfl (lv_at hl 0 rfl) ?_
      obtain ⟨q108, h109, hf⟩ := o_bind hf
      refine pw_get hC fl_X8_301 hw (rdR_F h109) dX8_writeElement_149 ?_
      refine lv_aload_n hx hb dX8_writeElement_152 rfl (lv_at hl 0 rfl) ?_
      obtain ⟨v110, h111, hf⟩ := o_bind hf
      refine pw_get hC fl_X8_304 hw (rdI_F h111) dX8_writeElement_153 ?_
      refine lv_aload_n hx hb dX8_writeElement_156 rfl (lv_at hl 0 rfl) ?_
      obtain ⟨v112, h113, hf⟩ := o_bind hf
      refine pw_get hC fl_X8_307 hw (rdI_F h113) dX8_writeElement_157 ?_
      obtain ⟨h115, hf⟩ := o_ite hf
      obtain ⟨μ116, h114, hf⟩ := o_bind hf
      refine pw_goV hw (pw_runV (As := [.ref q108, .int v110, .int v112]) (rest := []) hC mm_X8_putsAll tw_1446 (c_X8_putsAll h114 _) (fio_WR d (by decide)) hw h115 rfl hl.1 (Nat.le_of_ble_eq_true rfl) ⟨Nat.zero_le _, Nat.zero_le _⟩ rfl dX8_writeElement_160) (fun H locs hw => ?_)
      refine lv_goto (tgt := 171) hx hb dX8_writeElement_163 (by decide) ?_
      obtain rfl := o_retv hf
      exact pw_vret hC hr hlocks hw dX8_writeElement_171
def f_X8_writeElement_L99 (cy : Nat → ClassId) (r_X8_writeValue : Nat → Int32 → Mem → Option Mem) (a0 : Nat) (a1 : Int32) (a4 : Int32) (μ : Mem) : Option Mem :=
  (rdR μ a0 7 21).bind fun q101 => (rdR μ q101 6 0).bind fun q103 => (rdR μ a0 7 21).bind fun q105 => (rdR μ q105 6 6).bind fun q107 => (rdA cy μ 1 q107 a1).bind fun v109 => (rdR μ a0 7 21).bind fun q111 => (rdR μ q111 6 7).bind fun q113 => (rdA cy μ 1 q113 a1).bind fun v115 => if isO μ a0 7 = true then ((f_X8_putsAll cy a0 q103 (v109 + 1) v115 μ).bind fun μ119 => f_X8_writeElement_L130 cy r_X8_writeValue a0 a1 a4 μ119) else none
set_option maxRecDepth 100000 in
set_option maxHeartbeats 4000000 in
theorem w_X8_writeElement_L99 {p : Program} {l : Launch} {e : Env} {s : State} {m : MethodId} {args : Array Value} {below : List Frame} {meth : Method} {c : Code} {A : Nat → Prop} {g : Wg} {L : List Nat} {μ' : Mem} (hC : CX p m c cX8_writeElement 5 s args RX8) (hr : meth.sig.returnType = none) (hlocks : meth.locks = false) {d : Nat} {r_X8_writeValue : Nat → Int32 → Mem → Option Mem} (hr_X8_writeValue : ∀ {a0 : Nat} {a1 : Int32} {μ : Mem} {μ9 : Mem}, r_X8_writeValue a0 a1 μ = some μ9 → MetV l yX8_writeValue cX8_writeValue 3 none (rm_WR d) g L μ [.ref a0, .int a1] μ9) : ∀ (a0 : Nat) (a1 : Int32) (a4 : Int32) (μ : Mem) (H : Heap) (locs : List Loc) (ls : Array Slot), lv_has ls 5 [(0, .ref a0), (1, .int a1), (4, .int a4)] → PW g L μ A s H locs → f_X8_writeElement_L99 g.2 r_X8_writeValue a0 a1 a4 μ = some μ' → W p l e (rm_WR (d + 1)) s m args below meth c H locs 0 0 (MQ below (QV g L A μ') args s 0 0 A) (F0 m 99 ls []) := by
  have hx := hC.1
  have hb := hC.2.1
  intro a0 a1 a4 μ H locs ls hl hw hf
  unfold f_X8_writeElement_L99 at hf
  refine lv_aload_n hx hb dX8_writeElement_99 rfl (lv_at hl 0 rfl) ?_
  refine lv_aload_n hx hb dX8_writeElement_100 rfl (lv_at hl 0 rfl) ?_
  obtain ⟨q101, h102, hf⟩ := o_bind hf
  refine pw_get hC fl_X8_67 hw (rdR_F h102) dX8_writeElement_101 ?_
  obtain ⟨q103, h104, hf⟩ := o_bind hf
  refine pw_get hC fl_X8_213 hw (rdR_F h104) dX8_writeElement_104 ?_
  refine lv_aload_n hx hb dX8_writeElement_107 rfl (lv_at hl 0 rfl) ?_
  obtain ⟨q105, h106, hf⟩ := o_bind hf
  refine pw_get hC fl_X8_67 hw (rdR_F h106) dX8_writeElement_108 ?_
  obtain ⟨q107, h108, hf⟩ := o_bind hf
  refine pw_get hC fl_X8_216 hw (rdR_F h108) dX8_writeElement_111 ?_
  refine lv_iload_n hx hb dX8_writeElement_114 rfl (lv_at hl 1 rfl) ?_
  obtain ⟨v109, h110, hf⟩ := o_bind hf
  refine pw_iald hC hw h110 dX8_writeElement_115 ?_
  refine lv_iconst (v := 1) hx hb dX8_writeElement_116 nc_iconst_1 ?_
  refine lv_iadd hx hb dX8_writeElement_117 ?_
  refine lv_aload_n hx hb dX8_writeElement_118 rfl (lv_at hl 0 rfl) ?_
  obtain ⟨q111, h112, hf⟩ := o_bind hf
  refine pw_get hC fl_X8_67 hw (rdR_F h112) dX8_writeElement_119 ?_
  obtain ⟨q113, h114, hf⟩ := o_bind hf
  refine pw_get hC fl_X8_210 hw (rdR_F h114) dX8_writeElement_122 ?_
  refine lv_iload_n hx hb dX8_writeElement_125 rfl (lv_at hl 1 rfl) ?_
  obtain ⟨v115, h116, hf⟩ := o_bind hf
  refine pw_iald hC hw h116 dX8_writeElement_126 ?_
  obtain ⟨h118, hf⟩ := o_ite hf
  obtain ⟨μ119, h117, hf⟩ := o_bind hf
  refine pw_goV hw (pw_runV (As := [.ref q103, .int (v109 + 1), .int v115]) (rest := []) hC mm_X8_putsAll tw_1446 (c_X8_putsAll h117 _) (fio_WR d (by decide)) hw h118 rfl hl.1 (Nat.le_of_ble_eq_true rfl) ⟨Nat.zero_le _, Nat.zero_le _⟩ rfl dX8_writeElement_127) (fun H locs hw => ?_)
  exact w_X8_writeElement_L130 hC hr hlocks hr_X8_writeValue _ _ _ _ _ _ ls (lv_sub hl [0, 1, 2] rfl) hw hf
def f_X8_writeElement_L44 (cy : Nat → ClassId) (r_X8_writeValue : Nat → Int32 → Mem → Option Mem) (a0 : Nat) (a1 : Int32) (a2 : Int32) (a3 : Int32) (a4 : Int32) (t0 : Nat) (t1 : Int32) (μ : Mem) : Option Mem :=
  if isO μ t0 7 = true then ((f_X8_puts cy t0 t1 μ).bind fun μ103 => if a3 = 0 then (if a4 = 0 then (f_X8_writeElement_L99 cy r_X8_writeValue a0 a1 a4 μ103) else (rdI μ103 a0 7 33).bind fun v106 => if v106 = 0 then (f_X8_writeElement_L99 cy r_X8_writeValue a0 a1 a4 μ103) else (rdR μ103 a0 7 35).bind fun q109 => (rdI μ103 a0 7 37).bind fun v111 => (rdI μ103 a0 7 38).bind fun v113 => if isO μ103 a0 7 = true then ((f_X8_putsAll cy a0 q109 v111 v113 μ103).bind fun μ117 => f_X8_writeElement_L130 cy r_X8_writeValue a0 a1 a4 μ117) else none) else (rdR μ103 a0 7 20).bind fun q118 => if isO μ103 a0 7 = true then (ob2 (f_X8_decimals cy a0 a2 μ103) fun r123 μ122 => if isO μ122 a0 7 = true then ((f_X8_putsAll cy a0 q118 0 r123 μ122).bind fun μ126 => f_X8_writeElement_L130 cy r_X8_writeValue a0 a1 a4 μ126) else none) else none) else none
set_option maxRecDepth 100000 in
set_option maxHeartbeats 4000000 in
theorem w_X8_writeElement_L44 {p : Program} {l : Launch} {e : Env} {s : State} {m : MethodId} {args : Array Value} {below : List Frame} {meth : Method} {c : Code} {A : Nat → Prop} {g : Wg} {L : List Nat} {μ' : Mem} (hC : CX p m c cX8_writeElement 5 s args RX8) (hr : meth.sig.returnType = none) (hlocks : meth.locks = false) {d : Nat} {r_X8_writeValue : Nat → Int32 → Mem → Option Mem} (hr_X8_writeValue : ∀ {a0 : Nat} {a1 : Int32} {μ : Mem} {μ9 : Mem}, r_X8_writeValue a0 a1 μ = some μ9 → MetV l yX8_writeValue cX8_writeValue 3 none (rm_WR d) g L μ [.ref a0, .int a1] μ9) : ∀ (a0 : Nat) (a1 : Int32) (a2 : Int32) (a3 : Int32) (a4 : Int32) (t0 : Nat) (t1 : Int32) (μ : Mem) (H : Heap) (locs : List Loc) (ls : Array Slot), lv_has ls 5 [(0, .ref a0), (1, .int a1), (2, .int a2), (3, .int a3), (4, .int a4)] → PW g L μ A s H locs → f_X8_writeElement_L44 g.2 r_X8_writeValue a0 a1 a2 a3 a4 t0 t1 μ = some μ' → W p l e (rm_WR (d + 1)) s m args below meth c H locs 0 0 (MQ below (QV g L A μ') args s 0 0 A) (F0 m 44 ls [.int t1, .ref t0]) := by
  have hx := hC.1
  have hb := hC.2.1
  intro a0 a1 a2 a3 a4 t0 t1 μ H locs ls hl hw hf
  unfold f_X8_writeElement_L44 at hf
  obtain ⟨h102, hf⟩ := o_ite hf
  obtain ⟨μ103, h101, hf⟩ := o_bind hf
  refine pw_goV hw (pw_runV (As := [.int t1]) (rest := []) hC mm_X8_puts tw_1442 (c_X8_puts h101 _) (fio_WR d (by decide)) hw h102 rfl hl.1 (Nat.le_of_ble_eq_true rfl) ⟨Nat.zero_le _, Nat.zero_le _⟩ rfl dX8_writeElement_44) (fun H locs hw => ?_)
  refine lv_iload_n hx hb dX8_writeElement_47 rfl (lv_at hl 3 rfl) ?_
  refine lv_if_eq (tgt := 68) hx hb dX8_writeElement_48 (by decide) (fun c104 => ?_) (fun c104 => ?_)
  · have hf := o_pos c104 hf
    refine lv_iload hx hb dX8_writeElement_68 (lv_at hl 4 rfl) ?_
    refine lv_if_eq (tgt := 99) hx hb dX8_writeElement_70 (by decide) (fun c105 => ?_) (fun c105 => ?_)
    · have hf := o_pos c105 hf
      exact w_X8_writeElement_L99 hC hr hlocks hr_X8_writeValue _ _ _ _ _ _ ls (lv_sub hl [0, 1, 4] rfl) hw hf
    · have hf := o_neg c105 hf
      refine lv_aload_n hx hb dX8_writeElement_73 rfl (lv_at hl 0 rfl) ?_
      obtain ⟨v106, h107, hf⟩ := o_bind hf
      refine pw_get hC fl_X8_275 hw (rdI_F h107) dX8_writeElement_74 ?_
      refine lv_if_eq (tgt := 99) hx hb dX8_writeElement_77 (by decide) (fun c108 => ?_) (fun c108 => ?_)
      · have hf := o_pos c108 hf
        exact w_X8_writeElement_L99 hC hr hlocks hr_X8_writeValue _ _ _ _ _ _ ls (lv_sub hl [0, 1, 4] rfl) hw hf
      · have hf := o_neg c108 hf
        refine lv_aload_n hx hb dX8_writeElement_80 rfl (lv_at hl 0 rfl) ?_
        refine lv_aload_n hx hb dX8_writeElement_81 rfl (lv_at hl 0 rfl) ?_
        obtain ⟨q109, h110, hf⟩ := o_bind hf
        refine pw_get hC fl_X8_292 hw (rdR_F h110) dX8_writeElement_82 ?_
        refine lv_aload_n hx hb dX8_writeElement_85 rfl (lv_at hl 0 rfl) ?_
        obtain ⟨v111, h112, hf⟩ := o_bind hf
        refine pw_get hC fl_X8_295 hw (rdI_F h112) dX8_writeElement_86 ?_
        refine lv_aload_n hx hb dX8_writeElement_89 rfl (lv_at hl 0 rfl) ?_
        obtain ⟨v113, h114, hf⟩ := o_bind hf
        refine pw_get hC fl_X8_298 hw (rdI_F h114) dX8_writeElement_90 ?_
        obtain ⟨h116, hf⟩ := o_ite hf
        obtain ⟨μ117, h115, hf⟩ := o_bind hf
        refine pw_goV hw (pw_runV (As := [.ref q109, .int v111, .int v113]) (rest := []) hC mm_X8_putsAll tw_1446 (c_X8_putsAll h115 _) (fio_WR d (by decide)) hw h116 rfl hl.1 (Nat.le_of_ble_eq_true rfl) ⟨Nat.zero_le _, Nat.zero_le _⟩ rfl dX8_writeElement_93) (fun H locs hw => ?_)
        refine lv_goto (tgt := 130) hx hb dX8_writeElement_96 (by decide) ?_
        exact w_X8_writeElement_L130 hC hr hlocks hr_X8_writeValue _ _ _ _ _ _ ls (lv_sub hl [0, 1, 4] rfl) hw hf
  · have hf := o_neg c104 hf
    refine lv_aload_n hx hb dX8_writeElement_51 rfl (lv_at hl 0 rfl) ?_
    refine lv_aload_n hx hb dX8_writeElement_52 rfl (lv_at hl 0 rfl) ?_
    obtain ⟨q118, h119, hf⟩ := o_bind hf
    refine pw_get hC fl_X8_61 hw (rdR_F h119) dX8_writeElement_53 ?_
    refine lv_iconst (v := 0) hx hb dX8_writeElement_56 nc_iconst_0 ?_
    refine lv_aload_n hx hb dX8_writeElement_57 rfl (lv_at hl 0 rfl) ?_
    refine lv_iload_n hx hb dX8_writeElement_58 rfl (lv_at hl 2 rfl) ?_
    obtain ⟨h121, hf⟩ := o_ite hf
    obtain ⟨r123, μ122, h120, hf⟩ := o_bind2 hf
    refine pw_goI hw (pw_runV (As := [.int a2]) (rest := [.int 0, .ref q118, .ref a0]) hC mm_X8_decimals tw_1267 (c_X8_decimals h120 _) (fio_WR d (by decide)) hw h121 rfl hl.1 (Nat.le_of_ble_eq_true rfl) ⟨Nat.zero_le _, Nat.zero_le _⟩ rfl dX8_writeElement_59) (fun H locs hw => ?_)
    obtain ⟨h125, hf⟩ := o_ite hf
    obtain ⟨μ126, h124, hf⟩ := o_bind hf
    refine pw_goV hw (pw_runV (As := [.ref q118, .int 0, .int r123]) (rest := []) hC mm_X8_putsAll tw_1446 (c_X8_putsAll h124 _) (fio_WR d (by decide)) hw h125 rfl hl.1 (Nat.le_of_ble_eq_true rfl) ⟨Nat.zero_le _, Nat.zero_le _⟩ rfl dX8_writeElement_62) (fun H locs hw => ?_)
    refine lv_goto (tgt := 130) hx hb dX8_writeElement_65 (by decide) ?_
    exact w_X8_writeElement_L130 hC hr hlocks hr_X8_writeValue _ _ _ _ _ _ ls (lv_sub hl [0, 1, 4] rfl) hw hf
def f_X8_writeElement_L35 (cy : Nat → ClassId) (r_X8_writeValue : Nat → Int32 → Mem → Option Mem) (a0 : Nat) (a1 : Int32) (a2 : Int32) (a3 : Int32) (a4 : Int32) (t0 : Nat) (μ : Mem) : Option Mem :=
  (rdR μ a0 7 21).bind fun q101 => (rdR μ q101 6 2).bind fun q103 => (rdA cy μ 1 q103 a1).bind fun v105 => f_X8_writeElement_L44 cy r_X8_writeValue a0 a1 a2 a3 a4 t0 v105 μ
set_option maxRecDepth 100000 in
set_option maxHeartbeats 4000000 in
theorem w_X8_writeElement_L35 {p : Program} {l : Launch} {e : Env} {s : State} {m : MethodId} {args : Array Value} {below : List Frame} {meth : Method} {c : Code} {A : Nat → Prop} {g : Wg} {L : List Nat} {μ' : Mem} (hC : CX p m c cX8_writeElement 5 s args RX8) (hr : meth.sig.returnType = none) (hlocks : meth.locks = false) {d : Nat} {r_X8_writeValue : Nat → Int32 → Mem → Option Mem} (hr_X8_writeValue : ∀ {a0 : Nat} {a1 : Int32} {μ : Mem} {μ9 : Mem}, r_X8_writeValue a0 a1 μ = some μ9 → MetV l yX8_writeValue cX8_writeValue 3 none (rm_WR d) g L μ [.ref a0, .int a1] μ9) : ∀ (a0 : Nat) (a1 : Int32) (a2 : Int32) (a3 : Int32) (a4 : Int32) (t0 : Nat) (μ : Mem) (H : Heap) (locs : List Loc) (ls : Array Slot), lv_has ls 5 [(0, .ref a0), (1, .int a1), (2, .int a2), (3, .int a3), (4, .int a4)] → PW g L μ A s H locs → f_X8_writeElement_L35 g.2 r_X8_writeValue a0 a1 a2 a3 a4 t0 μ = some μ' → W p l e (rm_WR (d + 1)) s m args below meth c H locs 0 0 (MQ below (QV g L A μ') args s 0 0 A) (F0 m 35 ls [.ref t0]) := by
  have hx := hC.1
  have hb := hC.2.1
  intro a0 a1 a2 a3 a4 t0 μ H locs ls hl hw hf
  unfold f_X8_writeElement_L35 at hf
  refine lv_aload_n hx hb dX8_writeElement_35 rfl (lv_at hl 0 rfl) ?_
  obtain ⟨q101, h102, hf⟩ := o_bind hf
  refine pw_get hC fl_X8_67 hw (rdR_F h102) dX8_writeElement_36 ?_
  obtain ⟨q103, h104, hf⟩ := o_bind hf
  refine pw_get hC fl_X8_228 hw (rdR_F h104) dX8_writeElement_39 ?_
  refine lv_iload_n hx hb dX8_writeElement_42 rfl (lv_at hl 1 rfl) ?_
  obtain ⟨v105, h106, hf⟩ := o_bind hf
  refine pw_iald hC hw h106 dX8_writeElement_43 ?_
  exact w_X8_writeElement_L44 hC hr hlocks hr_X8_writeValue _ _ _ _ _ _ _ _ _ _ ls (lv_sub hl [0, 1, 2, 3, 4] rfl) hw hf
def f_X8_writeElement_L13 (cy : Nat → ClassId) (r_X8_writeValue : Nat → Int32 → Mem → Option Mem) (a0 : Nat) (a1 : Int32) (a2 : Int32) (a3 : Int32) (t0 : Int32) (μ : Mem) : Option Mem :=
  if t0 = 0 then (f_X8_writeElement_L35 cy r_X8_writeValue a0 a1 a2 a3 t0 a0 μ) else (rdI μ a0 7 32).bind fun v102 => if v102 = 0 then (f_X8_writeElement_L35 cy r_X8_writeValue a0 a1 a2 a3 t0 a0 μ) else (rdI μ a0 7 34).bind fun v105 => f_X8_writeElement_L44 cy r_X8_writeValue a0 a1 a2 a3 t0 a0 v105 μ
set_option maxRecDepth 100000 in
set_option maxHeartbeats 4000000 in
theorem w_X8_writeElement_L13 {p : Program} {l : Launch} {e : Env} {s : State} {m : MethodId} {args : Array Value} {below : List Frame} {meth : Method} {c : Code} {A : Nat → Prop} {g : Wg} {L : List Nat} {μ' : Mem} (hC : CX p m c cX8_writeElement 5 s args RX8) (hr : meth.sig.returnType = none) (hlocks : meth.locks = false) {d : Nat} {r_X8_writeValue : Nat → Int32 → Mem → Option Mem} (hr_X8_writeValue : ∀ {a0 : Nat} {a1 : Int32} {μ : Mem} {μ9 : Mem}, r_X8_writeValue a0 a1 μ = some μ9 → MetV l yX8_writeValue cX8_writeValue 3 none (rm_WR d) g L μ [.ref a0, .int a1] μ9) : ∀ (a0 : Nat) (a1 : Int32) (a2 : Int32) (a3 : Int32) (t0 : Int32) (μ : Mem) (H : Heap) (locs : List Loc) (ls : Array Slot), lv_has ls 5 [(0, .ref a0), (1, .int a1), (2, .int a2), (3, .int a3)] → PW g L μ A s H locs → f_X8_writeElement_L13 g.2 r_X8_writeValue a0 a1 a2 a3 t0 μ = some μ' → W p l e (rm_WR (d + 1)) s m args below meth c H locs 0 0 (MQ below (QV g L A μ') args s 0 0 A) (F0 m 13 ls [.int t0]) := by
  have hx := hC.1
  have hb := hC.2.1
  intro a0 a1 a2 a3 t0 μ H locs ls hl hw hf
  unfold f_X8_writeElement_L13 at hf
  refine lv_istore (lv' := [(4, .int t0), (0, .ref a0), (1, .int a1), (2, .int a2), (3, .int a3)]) hx hb dX8_writeElement_13 hl (by decide) rfl (fun ls hl => ?_)
  refine lv_aload_n hx hb dX8_writeElement_15 rfl (lv_at hl 1 rfl) ?_
  refine lv_iload hx hb dX8_writeElement_16 (lv_at hl 0 rfl) ?_
  refine lv_if_eq (tgt := 35) hx hb dX8_writeElement_18 (by decide) (fun c101 => ?_) (fun c101 => ?_)
  · have hf := o_pos c101 hf
    exact w_X8_writeElement_L35 hC hr hlocks hr_X8_writeValue _ _ _ _ _ _ _ _ _ ls (lv_sub hl [1, 2, 3, 4, 0] rfl) hw hf
  · have hf := o_neg c101 hf
    refine lv_aload_n hx hb dX8_writeElement_21 rfl (lv_at hl 1 rfl) ?_
    obtain ⟨v102, h103, hf⟩ := o_bind hf
    refine pw_get hC fl_X8_271 hw (rdI_F h103) dX8_writeElement_22 ?_
    refine lv_if_eq (tgt := 35) hx hb dX8_writeElement_25 (by decide) (fun c104 => ?_) (fun c104 => ?_)
    · have hf := o_pos c104 hf
      exact w_X8_writeElement_L35 hC hr hlocks hr_X8_writeValue _ _ _ _ _ _ _ _ _ ls (lv_sub hl [1, 2, 3, 4, 0] rfl) hw hf
    · have hf := o_neg c104 hf
      refine lv_aload_n hx hb dX8_writeElement_28 rfl (lv_at hl 1 rfl) ?_
      obtain ⟨v105, h106, hf⟩ := o_bind hf
      refine pw_get hC fl_X8_286 hw (rdI_F h106) dX8_writeElement_29 ?_
      refine lv_goto (tgt := 44) hx hb dX8_writeElement_32 (by decide) ?_
      exact w_X8_writeElement_L44 hC hr hlocks hr_X8_writeValue _ _ _ _ _ _ _ _ _ _ ls (lv_sub hl [1, 2, 3, 4, 0] rfl) hw hf
def fo_X8_writeElement (cy : Nat → ClassId) (r_X8_writeValue : Nat → Int32 → Mem → Option Mem) (a0 : Nat) (a1 : Int32) (a2 : Int32) (a3 : Int32) (μ : Mem) : Option Mem :=
  (rdI μ a0 7 29).bind fun v1 => if a1 = v1 then (f_X8_writeElement_L13 cy r_X8_writeValue a0 a1 a2 a3 1 μ) else f_X8_writeElement_L13 cy r_X8_writeValue a0 a1 a2 a3 0 μ
set_option maxRecDepth 100000 in
set_option maxHeartbeats 4000000 in
theorem co_X8_writeElement {l : Launch} {g : Wg} {L : List Nat} {d : Nat} {r_X8_writeValue : Nat → Int32 → Mem → Option Mem} (hr_X8_writeValue : ∀ {a0 : Nat} {a1 : Int32} {μ : Mem} {μ9 : Mem}, r_X8_writeValue a0 a1 μ = some μ9 → MetV l yX8_writeValue cX8_writeValue 3 none (rm_WR d) g L μ [.ref a0, .int a1] μ9) {μ : Mem} {a0 : Nat} {a1 : Int32} {a2 : Int32} {a3 : Int32} {μ' : Mem} (hf : fo_X8_writeElement g.2 r_X8_writeValue a0 a1 a2 a3 μ = some μ') : MetV l yX8_writeElement cX8_writeElement 5 none (rm_WR (d + 1)) g L μ [.ref a0, .int a1, .int a2, .int a3] μ' := by
  refine pw_met (Qc := fun A => QV g L A μ') (by decide) (Nat.le_of_ble_eq_true rfl) ?_
  intro p e s m args below meth c A ls H locs hC hr hlocks hl hw
  have hx := hC.1
  have hb := hC.2.1
  have hl : lv_has ls 5 [(0, .ref a0), (1, .int a1), (2, .int a2), (3, .int a3)] := hl
  unfold fo_X8_writeElement at hf
  refine lv_iload_n hx hb dX8_writeElement_0 rfl (lv_at hl 1 rfl) ?_
  refine lv_aload_n hx hb dX8_writeElement_1 rfl (lv_at hl 0 rfl) ?_
  obtain ⟨v1, h2, hf⟩ := o_bind hf
  refine pw_get hC fl_X8_265 hw (rdI_F h2) dX8_writeElement_2 ?_
  refine lv_icmp_ne (tgt := 12) hx hb dX8_writeElement_5 (by decide) (fun c3 => ?_) (fun c3 => ?_)
  · have hf := o_neg c3 hf
    refine lv_iconst (v := 0) hx hb dX8_writeElement_12 nc_iconst_0 ?_
    exact w_X8_writeElement_L13 hC hr hlocks hr_X8_writeValue _ _ _ _ _ _ _ _ ls (lv_sub hl [0, 1, 2, 3] rfl) hw hf
  · have hf := o_pos c3 hf
    refine lv_iconst (v := 1) hx hb dX8_writeElement_8 nc_iconst_1 ?_
    refine lv_goto (tgt := 13) hx hb dX8_writeElement_9 (by decide) ?_
    exact w_X8_writeElement_L13 hC hr hlocks hr_X8_writeValue _ _ _ _ _ _ _ _ ls (lv_sub hl [0, 1, 2, 3] rfl) hw hf
theorem dX8_writeValue_0 : decode cX8_writeValue 0 = .ok (.aload_n 0, 1) := by decide +kernel
theorem dX8_writeValue_1 : decode cX8_writeValue 1 = .ok (.getfield 67, 3) := by decide +kernel
theorem dX8_writeValue_4 : decode cX8_writeValue 4 = .ok (.getfield 222, 3) := by decide +kernel
theorem dX8_writeValue_7 : decode cX8_writeValue 7 = .ok (.iload_n 1, 1) := by decide +kernel
theorem dX8_writeValue_8 : decode cX8_writeValue 8 = .ok (.iaload, 1) := by decide +kernel
theorem dX8_writeValue_9 : decode cX8_writeValue 9 = .ok (.ifCond .ge 33, 3) := by decide +kernel
theorem dX8_writeValue_12 : decode cX8_writeValue 12 = .ok (.aload_n 0, 1) := by decide +kernel
theorem dX8_writeValue_13 : decode cX8_writeValue 13 = .ok (.aload_n 0, 1) := by decide +kernel
theorem dX8_writeValue_14 : decode cX8_writeValue 14 = .ok (.getfield 67, 3) := by decide +kernel
theorem dX8_writeValue_17 : decode cX8_writeValue 17 = .ok (.getfield 213, 3) := by decide +kernel
theorem dX8_writeValue_20 : decode cX8_writeValue 20 = .ok (.aload_n 0, 1) := by decide +kernel
theorem dX8_writeValue_21 : decode cX8_writeValue 21 = .ok (.getfield 67, 3) := by decide +kernel
theorem dX8_writeValue_24 : decode cX8_writeValue 24 = .ok (.getfield 231, 3) := by decide +kernel
theorem dX8_writeValue_27 : decode cX8_writeValue 27 = .ok (.iload_n 1, 1) := by decide +kernel
theorem dX8_writeValue_28 : decode cX8_writeValue 28 = .ok (.iaload, 1) := by decide +kernel
theorem dX8_writeValue_29 : decode cX8_writeValue 29 = .ok (.aload_n 0, 1) := by decide +kernel
theorem dX8_writeValue_30 : decode cX8_writeValue 30 = .ok (.getfield 67, 3) := by decide +kernel
theorem dX8_writeValue_33 : decode cX8_writeValue 33 = .ok (.getfield 234, 3) := by decide +kernel
theorem dX8_writeValue_36 : decode cX8_writeValue 36 = .ok (.iload_n 1, 1) := by decide +kernel
theorem dX8_writeValue_37 : decode cX8_writeValue 37 = .ok (.iaload, 1) := by decide +kernel
theorem dX8_writeValue_38 : decode cX8_writeValue 38 = .ok (.invokevirtual 289, 3) := by decide +kernel
theorem dX8_writeValue_41 : decode cX8_writeValue 41 = .ok (.return_, 1) := by decide +kernel
theorem dX8_writeValue_42 : decode cX8_writeValue 42 = .ok (.aload_n 0, 1) := by decide +kernel
theorem dX8_writeValue_43 : decode cX8_writeValue 43 = .ok (.getfield 256, 3) := by decide +kernel
theorem dX8_writeValue_46 : decode cX8_writeValue 46 = .ok (.istore_n 2, 1) := by decide +kernel
theorem dX8_writeValue_47 : decode cX8_writeValue 47 = .ok (.aload_n 0, 1) := by decide +kernel
theorem dX8_writeValue_48 : decode cX8_writeValue 48 = .ok (.getfield 67, 3) := by decide +kernel
theorem dX8_writeValue_51 : decode cX8_writeValue 51 = .ok (.getfield 228, 3) := by decide +kernel
theorem dX8_writeValue_54 : decode cX8_writeValue 54 = .ok (.iload_n 1, 1) := by decide +kernel
theorem dX8_writeValue_55 : decode cX8_writeValue 55 = .ok (.iaload, 1) := by decide +kernel
theorem dX8_writeValue_56 : decode cX8_writeValue 56 = .ok (.bipush 15, 2) := by decide +kernel
theorem dX8_writeValue_58 : decode cX8_writeValue 58 = .ok (.if_icmp .ne 42, 3) := by decide +kernel
theorem dX8_writeValue_61 : decode cX8_writeValue 61 = .ok (.aload_n 0, 1) := by decide +kernel
theorem dX8_writeValue_62 : decode cX8_writeValue 62 = .ok (.aload_n 0, 1) := by decide +kernel
theorem dX8_writeValue_63 : decode cX8_writeValue 63 = .ok (.getfield 67, 3) := by decide +kernel
theorem dX8_writeValue_66 : decode cX8_writeValue 66 = .ok (.getfield 213, 3) := by decide +kernel
theorem dX8_writeValue_69 : decode cX8_writeValue 69 = .ok (.aload_n 0, 1) := by decide +kernel
theorem dX8_writeValue_70 : decode cX8_writeValue 70 = .ok (.getfield 67, 3) := by decide +kernel
theorem dX8_writeValue_73 : decode cX8_writeValue 73 = .ok (.getfield 231, 3) := by decide +kernel
theorem dX8_writeValue_76 : decode cX8_writeValue 76 = .ok (.iload_n 1, 1) := by decide +kernel
theorem dX8_writeValue_77 : decode cX8_writeValue 77 = .ok (.iaload, 1) := by decide +kernel
theorem dX8_writeValue_78 : decode cX8_writeValue 78 = .ok (.aload_n 0, 1) := by decide +kernel
theorem dX8_writeValue_79 : decode cX8_writeValue 79 = .ok (.getfield 67, 3) := by decide +kernel
theorem dX8_writeValue_82 : decode cX8_writeValue 82 = .ok (.getfield 222, 3) := by decide +kernel
theorem dX8_writeValue_85 : decode cX8_writeValue 85 = .ok (.iload_n 1, 1) := by decide +kernel
theorem dX8_writeValue_86 : decode cX8_writeValue 86 = .ok (.iaload, 1) := by decide +kernel
theorem dX8_writeValue_87 : decode cX8_writeValue 87 = .ok (.aload_n 0, 1) := by decide +kernel
theorem dX8_writeValue_88 : decode cX8_writeValue 88 = .ok (.getfield 67, 3) := by decide +kernel
theorem dX8_writeValue_91 : decode cX8_writeValue 91 = .ok (.getfield 231, 3) := by decide +kernel
theorem dX8_writeValue_94 : decode cX8_writeValue 94 = .ok (.iload_n 1, 1) := by decide +kernel
theorem dX8_writeValue_95 : decode cX8_writeValue 95 = .ok (.iaload, 1) := by decide +kernel
theorem dX8_writeValue_96 : decode cX8_writeValue 96 = .ok (.isub, 1) := by decide +kernel
theorem dX8_writeValue_97 : decode cX8_writeValue 97 = .ok (.invokevirtual 289, 3) := by decide +kernel
theorem dX8_writeValue_100 : decode cX8_writeValue 100 = .ok (.aload_n 0, 1) := by decide +kernel
theorem dX8_writeValue_101 : decode cX8_writeValue 101 = .ok (.iload_n 1, 1) := by decide +kernel
theorem dX8_writeValue_102 : decode cX8_writeValue 102 = .ok (.invokevirtual 313, 3) := by decide +kernel
theorem dX8_writeValue_105 : decode cX8_writeValue 105 = .ok (.aload_n 0, 1) := by decide +kernel
theorem dX8_writeValue_106 : decode cX8_writeValue 106 = .ok (.getfield 67, 3) := by decide +kernel
theorem dX8_writeValue_109 : decode cX8_writeValue 109 = .ok (.getfield 228, 3) := by decide +kernel
theorem dX8_writeValue_112 : decode cX8_writeValue 112 = .ok (.iload_n 1, 1) := by decide +kernel
theorem dX8_writeValue_113 : decode cX8_writeValue 113 = .ok (.iaload, 1) := by decide +kernel
theorem dX8_writeValue_114 : decode cX8_writeValue 114 = .ok (.bipush 15, 2) := by decide +kernel
theorem dX8_writeValue_116 : decode cX8_writeValue 116 = .ok (.if_icmp .ne 18, 3) := by decide +kernel
theorem dX8_writeValue_119 : decode cX8_writeValue 119 = .ok (.aload_n 0, 1) := by decide +kernel
theorem dX8_writeValue_120 : decode cX8_writeValue 120 = .ok (.aload_n 0, 1) := by decide +kernel
theorem dX8_writeValue_121 : decode cX8_writeValue 121 = .ok (.getfield 77, 3) := by decide +kernel
theorem dX8_writeValue_124 : decode cX8_writeValue 124 = .ok (.iload_n 2, 1) := by decide +kernel
theorem dX8_writeValue_125 : decode cX8_writeValue 125 = .ok (.aload_n 0, 1) := by decide +kernel
theorem dX8_writeValue_126 : decode cX8_writeValue 126 = .ok (.getfield 256, 3) := by decide +kernel
theorem dX8_writeValue_129 : decode cX8_writeValue 129 = .ok (.iload_n 2, 1) := by decide +kernel
theorem dX8_writeValue_130 : decode cX8_writeValue 130 = .ok (.isub, 1) := by decide +kernel
theorem dX8_writeValue_131 : decode cX8_writeValue 131 = .ok (.invokevirtual 278, 3) := by decide +kernel
theorem dX8_writeValue_134 : decode cX8_writeValue 134 = .ok (.return_, 1) := by decide +kernel
def f_X8_writeValue_L100 (cy : Nat → ClassId) (r_X8_writeDoc : Nat → Int32 → Mem → Option Mem) (a0 : Nat) (a1 : Int32) (a2 : Int32) (μ : Mem) : Option Mem :=
  if isO μ a0 7 = true then ((r_X8_writeDoc a0 a1 μ).bind fun μ103 => (rdR μ103 a0 7 21).bind fun q104 => (rdR μ103 q104 6 2).bind fun q106 => (rdA cy μ103 1 q106 a1).bind fun v108 => if v108 = 15 then ((rdR μ103 a0 7 26).bind fun q111 => (rdI μ103 a0 7 27).bind fun v113 => if isO μ103 a0 7 = true then ((f_X8_lengthAt cy a0 q111 a2 (v113 - a2) μ103).bind fun μ117 => some μ117) else none) else some μ103) else none
set_option maxRecDepth 100000 in
set_option maxHeartbeats 4000000 in
theorem w_X8_writeValue_L100 {p : Program} {l : Launch} {e : Env} {s : State} {m : MethodId} {args : Array Value} {below : List Frame} {meth : Method} {c : Code} {A : Nat → Prop} {g : Wg} {L : List Nat} {μ' : Mem} (hC : CX p m c cX8_writeValue 3 s args RX8) (hr : meth.sig.returnType = none) (hlocks : meth.locks = false) {d : Nat} {r_X8_writeDoc : Nat → Int32 → Mem → Option Mem} (hr_X8_writeDoc : ∀ {a0 : Nat} {a1 : Int32} {μ : Mem} {μ9 : Mem}, r_X8_writeDoc a0 a1 μ = some μ9 → MetV l yX8_writeDoc cX8_writeDoc 5 none (rm_WR d) g L μ [.ref a0, .int a1] μ9) : ∀ (a0 : Nat) (a1 : Int32) (a2 : Int32) (μ : Mem) (H : Heap) (locs : List Loc) (ls : Array Slot), lv_has ls 3 [(0, .ref a0), (1, .int a1), (2, .int a2)] → PW g L μ A s H locs → f_X8_writeValue_L100 g.2 r_X8_writeDoc a0 a1 a2 μ = some μ' → W p l e (rm_WR (d + 1)) s m args below meth c H locs 0 0 (MQ below (QV g L A μ') args s 0 0 A) (F0 m 100 ls []) := by
  have hx := hC.1
  have hb := hC.2.1
  intro a0 a1 a2 μ H locs ls hl hw hf
  unfold f_X8_writeValue_L100 at hf
  refine lv_aload_n hx hb dX8_writeValue_100 rfl (lv_at hl 0 rfl) ?_
  refine lv_iload_n hx hb dX8_writeValue_101 rfl (lv_at hl 1 rfl) ?_
  obtain ⟨h102, hf⟩ := o_ite hf
  obtain ⟨μ103, h101, hf⟩ := o_bind hf
  refine pw_goV hw (pw_runV (As := [.int a1]) (rest := []) hC mm_X8_writeDoc tw_1430 (hr_X8_writeDoc h101 _) (fit_WR d (by decide)) hw h102 rfl hl.1 (Nat.le_of_ble_eq_true rfl) ⟨Nat.zero_le _, Nat.zero_le _⟩ rfl dX8_writeValue_102) (fun H locs hw => ?_)
  refine lv_aload_n hx hb dX8_writeValue_105 rfl (lv_at hl 0 rfl) ?_
  obtain ⟨q104, h105, hf⟩ := o_bind hf
  refine pw_get hC fl_X8_67 hw (rdR_F h105) dX8_writeValue_106 ?_
  obtain ⟨q106, h107, hf⟩ := o_bind hf
  refine pw_get hC fl_X8_228 hw (rdR_F h107) dX8_writeValue_109 ?_
  refine lv_iload_n hx hb dX8_writeValue_112 rfl (lv_at hl 1 rfl) ?_
  obtain ⟨v108, h109, hf⟩ := o_bind hf
  refine pw_iald hC hw h109 dX8_writeValue_113 ?_
  refine lv_bipush (v := 15) hx hb dX8_writeValue_114 nc_bipush_15 ?_
  refine lv_icmp_ne (tgt := 134) hx hb dX8_writeValue_116 (by decide) (fun c110 => ?_) (fun c110 => ?_)
  · have hf := o_neg c110 hf
    obtain rfl := o_retv hf
    exact pw_vret hC hr hlocks hw dX8_writeValue_134
  · have hf := o_pos c110 hf
    refine lv_aload_n hx hb dX8_writeValue_119 rfl (lv_at hl 0 rfl) ?_
    refine lv_aload_n hx hb dX8_writeValue_120 rfl (lv_at hl 0 rfl) ?_
    obtain ⟨q111, h112, hf⟩ := o_bind hf
    refine pw_get hC fl_X8_77 hw (rdR_F h112) dX8_writeValue_121 ?_
    refine lv_iload_n hx hb dX8_writeValue_124 rfl (lv_at hl 2 rfl) ?_
    refine lv_aload_n hx hb dX8_writeValue_125 rfl (lv_at hl 0 rfl) ?_
    obtain ⟨v113, h114, hf⟩ := o_bind hf
    refine pw_get hC fl_X8_256 hw (rdI_F h114) dX8_writeValue_126 ?_
    refine lv_iload_n hx hb dX8_writeValue_129 rfl (lv_at hl 2 rfl) ?_
    refine lv_isub hx hb dX8_writeValue_130 ?_
    obtain ⟨h116, hf⟩ := o_ite hf
    obtain ⟨μ117, h115, hf⟩ := o_bind hf
    refine pw_goV hw (pw_runV (As := [.ref q111, .int a2, .int (v113 - a2)]) (rest := []) hC mm_X8_lengthAt tw_1434 (c_X8_lengthAt h115 _) (fio_WR d (by decide)) hw h116 rfl hl.1 (Nat.le_of_ble_eq_true rfl) ⟨Nat.zero_le _, Nat.zero_le _⟩ rfl dX8_writeValue_131) (fun H locs hw => ?_)
    obtain rfl := o_retv hf
    exact pw_vret hC hr hlocks hw dX8_writeValue_134
def fo_X8_writeValue (cy : Nat → ClassId) (r_X8_writeDoc : Nat → Int32 → Mem → Option Mem) (a0 : Nat) (a1 : Int32) (μ : Mem) : Option Mem :=
  (rdR μ a0 7 21).bind fun q1 => (rdR μ q1 6 10).bind fun q3 => (rdA cy μ 1 q3 a1).bind fun v5 => if 0 ≤ v5 then ((rdI μ a0 7 27).bind fun v8 => (rdR μ a0 7 21).bind fun q10 => (rdR μ q10 6 2).bind fun q12 => (rdA cy μ 1 q12 a1).bind fun v14 => if v14 = 15 then ((rdR μ a0 7 21).bind fun q17 => (rdR μ q17 6 0).bind fun q19 => (rdR μ a0 7 21).bind fun q21 => (rdR μ q21 6 8).bind fun q23 => (rdA cy μ 1 q23 a1).bind fun v25 => (rdR μ a0 7 21).bind fun q27 => (rdR μ q27 6 10).bind fun q29 => (rdA cy μ 1 q29 a1).bind fun v31 => (rdR μ a0 7 21).bind fun q33 => (rdR μ q33 6 8).bind fun q35 => (rdA cy μ 1 q35 a1).bind fun v37 => if isO μ a0 7 = true then ((f_X8_putsAll cy a0 q19 v25 (v31 - v37) μ).bind fun μ41 => f_X8_writeValue_L100 cy r_X8_writeDoc a0 a1 v8 μ41) else none) else f_X8_writeValue_L100 cy r_X8_writeDoc a0 a1 v8 μ) else (rdR μ a0 7 21).bind fun q42 => (rdR μ q42 6 0).bind fun q44 => (rdR μ a0 7 21).bind fun q46 => (rdR μ q46 6 8).bind fun q48 => (rdA cy μ 1 q48 a1).bind fun v50 => (rdR μ a0 7 21).bind fun q52 => (rdR μ q52 6 9).bind fun q54 => (rdA cy μ 1 q54 a1).bind fun v56 => if isO μ a0 7 = true then ((f_X8_putsAll cy a0 q44 v50 v56 μ).bind fun μ60 => some μ60) else none
set_option maxRecDepth 100000 in
set_option maxHeartbeats 4000000 in
theorem co_X8_writeValue {l : Launch} {g : Wg} {L : List Nat} {d : Nat} {r_X8_writeDoc : Nat → Int32 → Mem → Option Mem} (hr_X8_writeDoc : ∀ {a0 : Nat} {a1 : Int32} {μ : Mem} {μ9 : Mem}, r_X8_writeDoc a0 a1 μ = some μ9 → MetV l yX8_writeDoc cX8_writeDoc 5 none (rm_WR d) g L μ [.ref a0, .int a1] μ9) {μ : Mem} {a0 : Nat} {a1 : Int32} {μ' : Mem} (hf : fo_X8_writeValue g.2 r_X8_writeDoc a0 a1 μ = some μ') : MetV l yX8_writeValue cX8_writeValue 3 none (rm_WR (d + 1)) g L μ [.ref a0, .int a1] μ' := by
  refine pw_met (Qc := fun A => QV g L A μ') (by decide) (Nat.le_of_ble_eq_true rfl) ?_
  intro p e s m args below meth c A ls H locs hC hr hlocks hl hw
  have hx := hC.1
  have hb := hC.2.1
  have hl : lv_has ls 3 [(0, .ref a0), (1, .int a1)] := hl
  unfold fo_X8_writeValue at hf
  refine lv_aload_n hx hb dX8_writeValue_0 rfl (lv_at hl 0 rfl) ?_
  obtain ⟨q1, h2, hf⟩ := o_bind hf
  refine pw_get hC fl_X8_67 hw (rdR_F h2) dX8_writeValue_1 ?_
  obtain ⟨q3, h4, hf⟩ := o_bind hf
  refine pw_get hC fl_X8_222 hw (rdR_F h4) dX8_writeValue_4 ?_
  refine lv_iload_n hx hb dX8_writeValue_7 rfl (lv_at hl 1 rfl) ?_
  obtain ⟨v5, h6, hf⟩ := o_bind hf
  refine pw_iald hC hw h6 dX8_writeValue_8 ?_
  refine lv_if_ge (tgt := 42) hx hb dX8_writeValue_9 (by decide) (fun c7 => ?_) (fun c7 => ?_)
  · have hf := o_pos c7 hf
    refine lv_aload_n hx hb dX8_writeValue_42 rfl (lv_at hl 0 rfl) ?_
    obtain ⟨v8, h9, hf⟩ := o_bind hf
    refine pw_get hC fl_X8_256 hw (rdI_F h9) dX8_writeValue_43 ?_
    refine lv_istore_n (lv' := [(2, .int v8), (0, .ref a0), (1, .int a1)]) hx hb dX8_writeValue_46 rfl hl (by decide) rfl (fun ls hl => ?_)
    refine lv_aload_n hx hb dX8_writeValue_47 rfl (lv_at hl 1 rfl) ?_
    obtain ⟨q10, h11, hf⟩ := o_bind hf
    refine pw_get hC fl_X8_67 hw (rdR_F h11) dX8_writeValue_48 ?_
    obtain ⟨q12, h13, hf⟩ := o_bind hf
    refine pw_get hC fl_X8_228 hw (rdR_F h13) dX8_writeValue_51 ?_
    refine lv_iload_n hx hb dX8_writeValue_54 rfl (lv_at hl 2 rfl) ?_
    obtain ⟨v14, h15, hf⟩ := o_bind hf
    refine pw_iald hC hw h15 dX8_writeValue_55 ?_
    refine lv_bipush (v := 15) hx hb dX8_writeValue_56 nc_bipush_15 ?_
    refine lv_icmp_ne (tgt := 100) hx hb dX8_writeValue_58 (by decide) (fun c16 => ?_) (fun c16 => ?_)
    · have hf := o_neg c16 hf
      exact w_X8_writeValue_L100 hC hr hlocks hr_X8_writeDoc _ _ _ _ _ _ ls (lv_sub hl [1, 2, 0] rfl) hw hf
    · have hf := o_pos c16 hf
      refine lv_aload_n hx hb dX8_writeValue_61 rfl (lv_at hl 1 rfl) ?_
      refine lv_aload_n hx hb dX8_writeValue_62 rfl (lv_at hl 1 rfl) ?_
      obtain ⟨q17, h18, hf⟩ := o_bind hf
      refine pw_get hC fl_X8_67 hw (rdR_F h18) dX8_writeValue_63 ?_
      obtain ⟨q19, h20, hf⟩ := o_bind hf
      refine pw_get hC fl_X8_213 hw (rdR_F h20) dX8_writeValue_66 ?_
      refine lv_aload_n hx hb dX8_writeValue_69 rfl (lv_at hl 1 rfl) ?_
      obtain ⟨q21, h22, hf⟩ := o_bind hf
      refine pw_get hC fl_X8_67 hw (rdR_F h22) dX8_writeValue_70 ?_
      obtain ⟨q23, h24, hf⟩ := o_bind hf
      refine pw_get hC fl_X8_231 hw (rdR_F h24) dX8_writeValue_73 ?_
      refine lv_iload_n hx hb dX8_writeValue_76 rfl (lv_at hl 2 rfl) ?_
      obtain ⟨v25, h26, hf⟩ := o_bind hf
      refine pw_iald hC hw h26 dX8_writeValue_77 ?_
      refine lv_aload_n hx hb dX8_writeValue_78 rfl (lv_at hl 1 rfl) ?_
      obtain ⟨q27, h28, hf⟩ := o_bind hf
      refine pw_get hC fl_X8_67 hw (rdR_F h28) dX8_writeValue_79 ?_
      obtain ⟨q29, h30, hf⟩ := o_bind hf
      refine pw_get hC fl_X8_222 hw (rdR_F h30) dX8_writeValue_82 ?_
      refine lv_iload_n hx hb dX8_writeValue_85 rfl (lv_at hl 2 rfl) ?_
      obtain ⟨v31, h32, hf⟩ := o_bind hf
      refine pw_iald hC hw h32 dX8_writeValue_86 ?_
      refine lv_aload_n hx hb dX8_writeValue_87 rfl (lv_at hl 1 rfl) ?_
      obtain ⟨q33, h34, hf⟩ := o_bind hf
      refine pw_get hC fl_X8_67 hw (rdR_F h34) dX8_writeValue_88 ?_
      obtain ⟨q35, h36, hf⟩ := o_bind hf
      refine pw_get hC fl_X8_231 hw (rdR_F h36) dX8_writeValue_91 ?_
      refine lv_iload_n hx hb dX8_writeValue_94 rfl (lv_at hl 2 rfl) ?_
      obtain ⟨v37, h38, hf⟩ := o_bind hf
      refine pw_iald hC hw h38 dX8_writeValue_95 ?_
      refine lv_isub hx hb dX8_writeValue_96 ?_
      obtain ⟨h40, hf⟩ := o_ite hf
      obtain ⟨μ41, h39, hf⟩ := o_bind hf
      refine pw_goV hw (pw_runV (As := [.ref q19, .int v25, .int (v31 - v37)]) (rest := []) hC mm_X8_putsAll tw_1446 (c_X8_putsAll h39 _) (fio_WR d (by decide)) hw h40 rfl hl.1 (Nat.le_of_ble_eq_true rfl) ⟨Nat.zero_le _, Nat.zero_le _⟩ rfl dX8_writeValue_97) (fun H locs hw => ?_)
      exact w_X8_writeValue_L100 hC hr hlocks hr_X8_writeDoc _ _ _ _ _ _ ls (lv_sub hl [1, 2, 0] rfl) hw hf
  · have hf := o_neg c7 hf
    refine lv_aload_n hx hb dX8_writeValue_12 rfl (lv_at hl 0 rfl) ?_
    refine lv_aload_n hx hb dX8_writeValue_13 rfl (lv_at hl 0 rfl) ?_
    obtain ⟨q42, h43, hf⟩ := o_bind hf
    refine pw_get hC fl_X8_67 hw (rdR_F h43) dX8_writeValue_14 ?_
    obtain ⟨q44, h45, hf⟩ := o_bind hf
    refine pw_get hC fl_X8_213 hw (rdR_F h45) dX8_writeValue_17 ?_
    refine lv_aload_n hx hb dX8_writeValue_20 rfl (lv_at hl 0 rfl) ?_
    obtain ⟨q46, h47, hf⟩ := o_bind hf
    refine pw_get hC fl_X8_67 hw (rdR_F h47) dX8_writeValue_21 ?_
    obtain ⟨q48, h49, hf⟩ := o_bind hf
    refine pw_get hC fl_X8_231 hw (rdR_F h49) dX8_writeValue_24 ?_
    refine lv_iload_n hx hb dX8_writeValue_27 rfl (lv_at hl 1 rfl) ?_
    obtain ⟨v50, h51, hf⟩ := o_bind hf
    refine pw_iald hC hw h51 dX8_writeValue_28 ?_
    refine lv_aload_n hx hb dX8_writeValue_29 rfl (lv_at hl 0 rfl) ?_
    obtain ⟨q52, h53, hf⟩ := o_bind hf
    refine pw_get hC fl_X8_67 hw (rdR_F h53) dX8_writeValue_30 ?_
    obtain ⟨q54, h55, hf⟩ := o_bind hf
    refine pw_get hC fl_X8_234 hw (rdR_F h55) dX8_writeValue_33 ?_
    refine lv_iload_n hx hb dX8_writeValue_36 rfl (lv_at hl 1 rfl) ?_
    obtain ⟨v56, h57, hf⟩ := o_bind hf
    refine pw_iald hC hw h57 dX8_writeValue_37 ?_
    obtain ⟨h59, hf⟩ := o_ite hf
    obtain ⟨μ60, h58, hf⟩ := o_bind hf
    refine pw_goV hw (pw_runV (As := [.ref q44, .int v50, .int v56]) (rest := []) hC mm_X8_putsAll tw_1446 (c_X8_putsAll h58 _) (fio_WR d (by decide)) hw h59 rfl hl.1 (Nat.le_of_ble_eq_true rfl) ⟨Nat.zero_le _, Nat.zero_le _⟩ rfl dX8_writeValue_38) (fun H locs hw => ?_)
    obtain rfl := o_retv hf
    exact pw_vret hC hr hlocks hw dX8_writeValue_41
def g_WR (cy : Nat → ClassId) : Nat → (Nat → Int32 → Mem → Option Mem) × (Nat → Int32 → Int32 → Int32 → Mem → Option Mem) × (Nat → Int32 → Mem → Option Mem)
  | 0 => (fun _ _ _ => none, fun _ _ _ _ _ => none, fun _ _ _ => none)
  | d + 1 => (fo_X8_writeDoc cy (g_WR cy d).2.1, fo_X8_writeElement cy (g_WR cy d).2.2, fo_X8_writeValue cy (g_WR cy d).1)
def f_X8_writeDoc (cy : Nat → ClassId) (d : Nat) : Nat → Int32 → Mem → Option Mem := (g_WR cy d).1
def f_X8_writeElement (cy : Nat → ClassId) (d : Nat) : Nat → Int32 → Int32 → Int32 → Mem → Option Mem := (g_WR cy d).2.1
def f_X8_writeValue (cy : Nat → ClassId) (d : Nat) : Nat → Int32 → Mem → Option Mem := (g_WR cy d).2.2
theorem f_X8_writeDoc_s (cy : Nat → ClassId) (d : Nat) : f_X8_writeDoc cy (d + 1) = fo_X8_writeDoc cy (f_X8_writeElement cy d) := rfl
theorem f_X8_writeElement_s (cy : Nat → ClassId) (d : Nat) : f_X8_writeElement cy (d + 1) = fo_X8_writeElement cy (f_X8_writeValue cy d) := rfl
theorem f_X8_writeValue_s (cy : Nat → ClassId) (d : Nat) : f_X8_writeValue cy (d + 1) = fo_X8_writeValue cy (f_X8_writeDoc cy d) := rfl
theorem ca_WR {l : Launch} {g : Wg} {L : List Nat} : ∀ (d : Nat), (∀ {a0 : Nat} {a1 : Int32} {μ : Mem} {μ9 : Mem}, f_X8_writeDoc g.2 d a0 a1 μ = some μ9 → MetV l yX8_writeDoc cX8_writeDoc 5 none (rm_WR d) g L μ [.ref a0, .int a1] μ9) ∧ (∀ {a0 : Nat} {a1 : Int32} {a2 : Int32} {a3 : Int32} {μ : Mem} {μ9 : Mem}, f_X8_writeElement g.2 d a0 a1 a2 a3 μ = some μ9 → MetV l yX8_writeElement cX8_writeElement 5 none (rm_WR d) g L μ [.ref a0, .int a1, .int a2, .int a3] μ9) ∧ (∀ {a0 : Nat} {a1 : Int32} {μ : Mem} {μ9 : Mem}, f_X8_writeValue g.2 d a0 a1 μ = some μ9 → MetV l yX8_writeValue cX8_writeValue 3 none (rm_WR d) g L μ [.ref a0, .int a1] μ9) := by
  intro d
  induction d with
  | zero => exact ⟨(fun h => by cases h), (fun h => by cases h), (fun h => by cases h)⟩
  | succ d ih =>
    obtain ⟨h0, h1, h2⟩ := ih
    exact ⟨(fun h => co_X8_writeDoc h1 h), (fun h => co_X8_writeElement h2 h), (fun h => co_X8_writeValue h0 h)⟩
theorem c_X8_writeDoc {l : Launch} {g : Wg} {L : List Nat} {d : Nat} {μ : Mem} {a0 : Nat} {a1 : Int32} {μ9 : Mem} (hf : f_X8_writeDoc g.2 d a0 a1 μ = some μ9) : MetV l yX8_writeDoc cX8_writeDoc 5 none (rm_WR d) g L μ [.ref a0, .int a1] μ9 := (ca_WR d).1 hf
theorem c_X8_writeElement {l : Launch} {g : Wg} {L : List Nat} {d : Nat} {μ : Mem} {a0 : Nat} {a1 : Int32} {a2 : Int32} {a3 : Int32} {μ9 : Mem} (hf : f_X8_writeElement g.2 d a0 a1 a2 a3 μ = some μ9) : MetV l yX8_writeElement cX8_writeElement 5 none (rm_WR d) g L μ [.ref a0, .int a1, .int a2, .int a3] μ9 := (ca_WR d).2.1 hf
theorem c_X8_writeValue {l : Launch} {g : Wg} {L : List Nat} {d : Nat} {μ : Mem} {a0 : Nat} {a1 : Int32} {μ9 : Mem} (hf : f_X8_writeValue g.2 d a0 a1 μ = some μ9) : MetV l yX8_writeValue cX8_writeValue 3 none (rm_WR d) g L μ [.ref a0, .int a1] μ9 := (ca_WR d).2.2 hf
theorem dX8_changes_0 : decode cX8_changes 0 = .ok (.aload_n 0, 1) := by decide +kernel
theorem dX8_changes_1 : decode cX8_changes 1 = .ok (.getfield 67, 3) := by decide +kernel
theorem dX8_changes_4 : decode cX8_changes 4 = .ok (.aload_n 0, 1) := by decide +kernel
theorem dX8_changes_5 : decode cX8_changes 5 = .ok (.getfield 22, 3) := by decide +kernel
theorem dX8_changes_8 : decode cX8_changes 8 = .ok (.iload_n 1, 1) := by decide +kernel
theorem dX8_changes_9 : decode cX8_changes 9 = .ok (.aaload, 1) := by decide +kernel
theorem dX8_changes_10 : decode cX8_changes 10 = .ok (.invokevirtual 190, 3) := by decide +kernel
theorem dX8_changes_13 : decode cX8_changes 13 = .ok (.aload_n 0, 1) := by decide +kernel
theorem dX8_changes_14 : decode cX8_changes 14 = .ok (.aload_n 0, 1) := by decide +kernel
theorem dX8_changes_15 : decode cX8_changes 15 = .ok (.getfield 67, 3) := by decide +kernel
theorem dX8_changes_18 : decode cX8_changes 18 = .ok (.iload_n 1, 1) := by decide +kernel
theorem dX8_changes_19 : decode cX8_changes 19 = .ok (.invokevirtual 197, 3) := by decide +kernel
theorem dX8_changes_22 : decode cX8_changes 22 = .ok (.istore_n 2, 1) := by decide +kernel
theorem dX8_changes_23 : decode cX8_changes 23 = .ok (.aload_n 0, 1) := by decide +kernel
theorem dX8_changes_24 : decode cX8_changes 24 = .ok (.iload_n 2, 1) := by decide +kernel
theorem dX8_changes_25 : decode cX8_changes 25 = .ok (.putfield 262, 3) := by decide +kernel
theorem dX8_changes_28 : decode cX8_changes 28 = .ok (.aload_n 0, 1) := by decide +kernel
theorem dX8_changes_29 : decode cX8_changes 29 = .ok (.iconst (-1), 1) := by decide +kernel
theorem dX8_changes_30 : decode cX8_changes 30 = .ok (.putfield 265, 3) := by decide +kernel
theorem dX8_changes_33 : decode cX8_changes 33 = .ok (.aload_n 0, 1) := by decide +kernel
theorem dX8_changes_34 : decode cX8_changes 34 = .ok (.iconst 0, 1) := by decide +kernel
theorem dX8_changes_35 : decode cX8_changes 35 = .ok (.putfield 268, 3) := by decide +kernel
theorem dX8_changes_38 : decode cX8_changes 38 = .ok (.aload_n 0, 1) := by decide +kernel
theorem dX8_changes_39 : decode cX8_changes 39 = .ok (.getfield 67, 3) := by decide +kernel
theorem dX8_changes_42 : decode cX8_changes 42 = .ok (.getfield 201, 3) := by decide +kernel
theorem dX8_changes_45 : decode cX8_changes 45 = .ok (.iload_n 2, 1) := by decide +kernel
theorem dX8_changes_46 : decode cX8_changes 46 = .ok (.iaload, 1) := by decide +kernel
theorem dX8_changes_47 : decode cX8_changes 47 = .ok (.istore_n 3, 1) := by decide +kernel
theorem dX8_changes_48 : decode cX8_changes 48 = .ok (.iload_n 3, 1) := by decide +kernel
theorem dX8_changes_49 : decode cX8_changes 49 = .ok (.ifCond .lt 36, 3) := by decide +kernel
theorem dX8_changes_52 : decode cX8_changes 52 = .ok (.aload_n 0, 1) := by decide +kernel
theorem dX8_changes_53 : decode cX8_changes 53 = .ok (.getfield 80, 3) := by decide +kernel
theorem dX8_changes_56 : decode cX8_changes 56 = .ok (.aload_n 0, 1) := by decide +kernel
theorem dX8_changes_57 : decode cX8_changes 57 = .ok (.getfield 268, 3) := by decide +kernel
theorem dX8_changes_60 : decode cX8_changes 60 = .ok (.iload_n 3, 1) := by decide +kernel
theorem dX8_changes_61 : decode cX8_changes 61 = .ok (.iastore, 1) := by decide +kernel
theorem dX8_changes_62 : decode cX8_changes 62 = .ok (.aload_n 0, 1) := by decide +kernel
theorem dX8_changes_63 : decode cX8_changes 63 = .ok (.dup, 1) := by decide +kernel
theorem dX8_changes_64 : decode cX8_changes 64 = .ok (.getfield 268, 3) := by decide +kernel
theorem dX8_changes_67 : decode cX8_changes 67 = .ok (.iconst 1, 1) := by decide +kernel
theorem dX8_changes_68 : decode cX8_changes 68 = .ok (.iadd, 1) := by decide +kernel
theorem dX8_changes_69 : decode cX8_changes 69 = .ok (.putfield 268, 3) := by decide +kernel
theorem dX8_changes_72 : decode cX8_changes 72 = .ok (.aload_n 0, 1) := by decide +kernel
theorem dX8_changes_73 : decode cX8_changes 73 = .ok (.getfield 67, 3) := by decide +kernel
theorem dX8_changes_76 : decode cX8_changes 76 = .ok (.getfield 207, 3) := by decide +kernel
theorem dX8_changes_79 : decode cX8_changes 79 = .ok (.iload_n 3, 1) := by decide +kernel
theorem dX8_changes_80 : decode cX8_changes 80 = .ok (.iaload, 1) := by decide +kernel
theorem dX8_changes_81 : decode cX8_changes 81 = .ok (.istore_n 3, 1) := by decide +kernel
theorem dX8_changes_82 : decode cX8_changes 82 = .ok (.goto (-34), 3) := by decide +kernel
theorem dX8_changes_85 : decode cX8_changes 85 = .ok (.aload_n 0, 1) := by decide +kernel
theorem dX8_changes_86 : decode cX8_changes 86 = .ok (.iconst 0, 1) := by decide +kernel
theorem dX8_changes_87 : decode cX8_changes 87 = .ok (.putfield 271, 3) := by decide +kernel
theorem dX8_changes_90 : decode cX8_changes 90 = .ok (.aload_n 0, 1) := by decide +kernel
theorem dX8_changes_91 : decode cX8_changes 91 = .ok (.iconst 0, 1) := by decide +kernel
theorem dX8_changes_92 : decode cX8_changes 92 = .ok (.putfield 275, 3) := by decide +kernel
theorem dX8_changes_95 : decode cX8_changes 95 = .ok (.iload_n 2, 1) := by decide +kernel
theorem dX8_changes_96 : decode cX8_changes 96 = .ok (.ireturn, 1) := by decide +kernel
abbrev rm_X8_changes : Room := { frames := 124, cells := 0, slots := 0, locals := 3090 }
def f_X8_changes_L48 (cy : Nat → ClassId) : Nat → Nat → Int32 → Int32 → Mem → Option (Int32 × Mem)
  | 0, _, _, _, _ => none
  | n + 1, a0, a2, a3, μ => if a3 < 0 then ((wrF μ a0 7 32 (.int 0)).bind fun μ102 => (wrF μ102 a0 7 33 (.int 0)).bind fun μ104 => some (a2, μ104)) else (rdR μ a0 7 30).bind fun q106 => (rdI μ a0 7 31).bind fun v108 => (wrA cy μ 1 q106 v108 a3).bind fun μ110 => (rdI μ110 a0 7 31).bind fun v112 => (wrF μ110 a0 7 31 (.int (v112 + 1))).bind fun μ114 => (rdR μ114 a0 7 21).bind fun q116 => (rdR μ114 q116 6 5).bind fun q118 => (rdA cy μ114 1 q118 a3).bind fun v120 => f_X8_changes_L48 cy n a0 a2 v120 μ114
set_option maxRecDepth 100000 in
set_option maxHeartbeats 4000000 in
theorem w_X8_changes_L48 {p : Program} {l : Launch} {e : Env} {s : State} {m : MethodId} {args : Array Value} {below : List Frame} {meth : Method} {c : Code} {A : Nat → Prop} {g : Wg} {L : List Nat} {r : Int32} {μ' : Mem} (hC : CX p m c cX8_changes 4 s args RX8) (hr : meth.sig.returnType = (some .int)) (hlocks : meth.locks = false) : ∀ (n : Nat), ∀ (a0 : Nat) (a2 : Int32) (a3 : Int32) (μ : Mem) (H : Heap) (locs : List Loc) (ls : Array Slot), lv_has ls 4 [(0, .ref a0), (2, .int a2), (3, .int a3)] → PW g L μ A s H locs → f_X8_changes_L48 g.2 n a0 a2 a3 μ = some (r, μ') → W p l e rm_X8_changes s m args below meth c H locs 0 0 (MQ below (QI g L A r μ') args s 0 0 A) (F0 m 48 ls []) := by
  have hx := hC.1
  have hb := hC.2.1
  intro n
  induction n with
  | zero => intro a0 a2 a3 μ H locs ls hl hw hf; cases hf
  | succ n ih =>
    intro a0 a2 a3 μ H locs ls hl hw hf
    rw [f_X8_changes_L48] at hf
    refine lv_iload_n hx hb dX8_changes_48 rfl (lv_at hl 2 rfl) ?_
    refine lv_if_lt (tgt := 85) hx hb dX8_changes_49 (by decide) (fun c101 => ?_) (fun c101 => ?_)
    · have hf := o_pos c101 hf
      refine lv_aload_n hx hb dX8_changes_85 rfl (lv_at hl 0 rfl) ?_
      refine lv_iconst (v := 0) hx hb dX8_changes_86 nc_iconst_0 ?_
      obtain ⟨μ102, h103, hf⟩ := o_bind hf
      refine pw_put hC fl_X8_271 hw h103 .boolean fd_X8_32 (by decide +kernel) rfl dX8_changes_87 (fun H locs hw => ?_)
      refine lv_aload_n hx hb dX8_changes_90 rfl (lv_at hl 0 rfl) ?_
      refine lv_iconst (v := 0) hx hb dX8_changes_91 nc_iconst_0 ?_
      obtain ⟨μ104, h105, hf⟩ := o_bind hf
      refine pw_put hC fl_X8_275 hw h105 .boolean fd_X8_33 (by decide +kernel) rfl dX8_changes_92 (fun H locs hw => ?_)
      refine lv_iload_n hx hb dX8_changes_95 rfl (lv_at hl 1 rfl) ?_
      obtain ⟨rfl, rfl⟩ := o_ret hf
      exact pw_iret hC hr hlocks hw dX8_changes_96
    · have hf := o_neg c101 hf
      refine lv_aload_n hx hb dX8_changes_52 rfl (lv_at hl 0 rfl) ?_
      obtain ⟨q106, h107, hf⟩ := o_bind hf
      refine pw_get hC fl_X8_80 hw (rdR_F h107) dX8_changes_53 ?_
      refine lv_aload_n hx hb dX8_changes_56 rfl (lv_at hl 0 rfl) ?_
      obtain ⟨v108, h109, hf⟩ := o_bind hf
      refine pw_get hC fl_X8_268 hw (rdI_F h109) dX8_changes_57 ?_
      refine lv_iload_n hx hb dX8_changes_60 rfl (lv_at hl 2 rfl) ?_
      obtain ⟨μ110, h111, hf⟩ := o_bind hf
      refine pw_iast hC hw h111 dX8_changes_61 (fun H locs hw => ?_)
      refine lv_aload_n hx hb dX8_changes_62 rfl (lv_at hl 0 rfl) ?_
      refine lv_dup hx hb dX8_changes_63 rfl ?_
      obtain ⟨v112, h113, hf⟩ := o_bind hf
      refine pw_get hC fl_X8_268 hw (rdI_F h113) dX8_changes_64 ?_
      refine lv_iconst (v := 1) hx hb dX8_changes_67 nc_iconst_1 ?_
      refine lv_iadd hx hb dX8_changes_68 ?_
      obtain ⟨μ114, h115, hf⟩ := o_bind hf
      refine pw_put hC fl_X8_268 hw h115 .int fd_X8_31 rfl rfl dX8_changes_69 (fun H locs hw => ?_)
      refine lv_aload_n hx hb dX8_changes_72 rfl (lv_at hl 0 rfl) ?_
      obtain ⟨q116, h117, hf⟩ := o_bind hf
      refine pw_get hC fl_X8_67 hw (rdR_F h117) dX8_changes_73 ?_
      obtain ⟨q118, h119, hf⟩ := o_bind hf
      refine pw_get hC fl_X8_207 hw (rdR_F h119) dX8_changes_76 ?_
      refine lv_iload_n hx hb dX8_changes_79 rfl (lv_at hl 2 rfl) ?_
      obtain ⟨v120, h121, hf⟩ := o_bind hf
      refine pw_iald hC hw h121 dX8_changes_80 ?_
      refine lv_istore_n (lv' := [(3, .int v120), (0, .ref a0), (2, .int a2)]) hx hb dX8_changes_81 rfl hl (by decide) rfl (fun ls hl => ?_)
      refine lv_goto (tgt := 48) hx hb dX8_changes_82 (by decide) ?_
      exact ih _ _ _ _ _ _ ls (lv_sub hl [1, 2, 0] rfl) hw hf
def f_X8_changes (cy : Nat → ClassId) (a0 : Nat) (a1 : Int32) (μ : Mem) : Option (Int32 × Mem) :=
  (rdR μ a0 7 21).bind fun q1 => (rdR μ a0 7 5).bind fun q3 => (rdQ cy μ 5 q3 a1).bind fun q5 => if isO μ q1 6 = true then ((f_X7_read cy q1 q5 μ).bind fun μ9 => (rdR μ9 a0 7 21).bind fun q10 => if isO μ9 a0 7 = true then (ob2 (f_X8_stands cy a0 q10 a1 μ9) fun r15 μ14 => (wrF μ14 a0 7 28 (.int r15)).bind fun μ16 => (wrF μ16 a0 7 29 (.int (-1))).bind fun μ18 => (wrF μ18 a0 7 31 (.int 0)).bind fun μ20 => (rdR μ20 a0 7 21).bind fun q22 => (rdR μ20 q22 6 4).bind fun q24 => (rdA cy μ20 1 q24 r15).bind fun v26 => f_X8_changes_L48 cy FU a0 r15 v26 μ20) else none) else none
set_option maxRecDepth 100000 in
set_option maxHeartbeats 4000000 in
theorem c_X8_changes {l : Launch} {g : Wg} {L : List Nat} {μ : Mem} {a0 : Nat} {a1 : Int32} {r : Int32} {μ' : Mem} (hf : f_X8_changes g.2 a0 a1 μ = some (r, μ')) : MetI l yX8_changes cX8_changes 4 (some .int) rm_X8_changes g L μ [.ref a0, .int a1] r μ' := by
  refine pw_met (Qc := fun A => QI g L A r μ') (by decide) (Nat.le_of_ble_eq_true rfl) ?_
  intro p e s m args below meth c A ls H locs hC hr hlocks hl hw
  have hx := hC.1
  have hb := hC.2.1
  have hl : lv_has ls 4 [(0, .ref a0), (1, .int a1)] := hl
  unfold f_X8_changes at hf
  refine lv_aload_n hx hb dX8_changes_0 rfl (lv_at hl 0 rfl) ?_
  obtain ⟨q1, h2, hf⟩ := o_bind hf
  refine pw_get hC fl_X8_67 hw (rdR_F h2) dX8_changes_1 ?_
  refine lv_aload_n hx hb dX8_changes_4 rfl (lv_at hl 0 rfl) ?_
  obtain ⟨q3, h4, hf⟩ := o_bind hf
  refine pw_get hC fl_X8_22 hw (rdR_F h4) dX8_changes_5 ?_
  refine lv_iload_n hx hb dX8_changes_8 rfl (lv_at hl 1 rfl) ?_
  obtain ⟨q5, h6, hf⟩ := o_bind hf
  refine pw_aald hC hw 5 rfl rfl h6 dX8_changes_9 ?_
  obtain ⟨h8, hf⟩ := o_ite hf
  obtain ⟨μ9, h7, hf⟩ := o_bind hf
  refine pw_goV hw (pw_runV (As := [.ref q5]) (rest := []) hC mm_X7_read tw_1325 (c_X7_read h7 _) ⟨rfl, rfl, by decide, by decide⟩ hw h8 rfl hl.1 (Nat.le_of_ble_eq_true rfl) ⟨Nat.zero_le _, Nat.zero_le _⟩ rfl dX8_changes_10) (fun H locs hw => ?_)
  refine lv_aload_n hx hb dX8_changes_13 rfl (lv_at hl 0 rfl) ?_
  refine lv_aload_n hx hb dX8_changes_14 rfl (lv_at hl 0 rfl) ?_
  obtain ⟨q10, h11, hf⟩ := o_bind hf
  refine pw_get hC fl_X8_67 hw (rdR_F h11) dX8_changes_15 ?_
  refine lv_iload_n hx hb dX8_changes_18 rfl (lv_at hl 1 rfl) ?_
  obtain ⟨h13, hf⟩ := o_ite hf
  obtain ⟨r15, μ14, h12, hf⟩ := o_bind2 hf
  refine pw_goI hw (pw_runV (As := [.ref q10, .int a1]) (rest := []) hC mm_X8_stands tw_1342 (c_X8_stands h12 _) ⟨rfl, rfl, by decide, by decide⟩ hw h13 rfl hl.1 (Nat.le_of_ble_eq_true rfl) ⟨Nat.zero_le _, Nat.zero_le _⟩ rfl dX8_changes_19) (fun H locs hw => ?_)
  refine lv_istore_n (lv' := [(2, .int r15), (0, .ref a0), (1, .int a1)]) hx hb dX8_changes_22 rfl hl (by decide) rfl (fun ls hl => ?_)
  refine lv_aload_n hx hb dX8_changes_23 rfl (lv_at hl 1 rfl) ?_
  refine lv_iload_n hx hb dX8_changes_24 rfl (lv_at hl 0 rfl) ?_
  obtain ⟨μ16, h17, hf⟩ := o_bind hf
  refine pw_put hC fl_X8_262 hw h17 .int fd_X8_28 rfl rfl dX8_changes_25 (fun H locs hw => ?_)
  refine lv_aload_n hx hb dX8_changes_28 rfl (lv_at hl 1 rfl) ?_
  refine lv_iconst (v := (-1)) hx hb dX8_changes_29 nc_iconst_m1 ?_
  obtain ⟨μ18, h19, hf⟩ := o_bind hf
  refine pw_put hC fl_X8_265 hw h19 .int fd_X8_29 rfl rfl dX8_changes_30 (fun H locs hw => ?_)
  refine lv_aload_n hx hb dX8_changes_33 rfl (lv_at hl 1 rfl) ?_
  refine lv_iconst (v := 0) hx hb dX8_changes_34 nc_iconst_0 ?_
  obtain ⟨μ20, h21, hf⟩ := o_bind hf
  refine pw_put hC fl_X8_268 hw h21 .int fd_X8_31 rfl rfl dX8_changes_35 (fun H locs hw => ?_)
  refine lv_aload_n hx hb dX8_changes_38 rfl (lv_at hl 1 rfl) ?_
  obtain ⟨q22, h23, hf⟩ := o_bind hf
  refine pw_get hC fl_X8_67 hw (rdR_F h23) dX8_changes_39 ?_
  obtain ⟨q24, h25, hf⟩ := o_bind hf
  refine pw_get hC fl_X8_201 hw (rdR_F h25) dX8_changes_42 ?_
  refine lv_iload_n hx hb dX8_changes_45 rfl (lv_at hl 0 rfl) ?_
  obtain ⟨v26, h27, hf⟩ := o_bind hf
  refine pw_iald hC hw h27 dX8_changes_46 ?_
  refine lv_istore_n (lv' := [(3, .int v26), (2, .int r15), (0, .ref a0), (1, .int a1)]) hx hb dX8_changes_47 rfl hl (by decide) rfl (fun ls hl => ?_)
  exact w_X8_changes_L48 hC hr hlocks FU _ _ _ _ _ _ ls (lv_sub hl [2, 1, 0] rfl) hw hf
theorem dX8_around_0 : decode cX8_around 0 = .ok (.iconst 0, 1) := by decide +kernel
theorem dX8_around_1 : decode cX8_around 1 = .ok (.istore_n 2, 1) := by decide +kernel
theorem dX8_around_2 : decode cX8_around 2 = .ok (.iload_n 2, 1) := by decide +kernel
theorem dX8_around_3 : decode cX8_around 3 = .ok (.iconst 4, 1) := by decide +kernel
theorem dX8_around_4 : decode cX8_around 4 = .ok (.if_icmp .ge 18, 3) := by decide +kernel
theorem dX8_around_7 : decode cX8_around 7 = .ok (.aload_n 0, 1) := by decide +kernel
theorem dX8_around_8 : decode cX8_around 8 = .ok (.getfield 83, 3) := by decide +kernel
theorem dX8_around_11 : decode cX8_around 11 = .ok (.iload_n 1, 1) := by decide +kernel
theorem dX8_around_12 : decode cX8_around 12 = .ok (.iload_n 2, 1) := by decide +kernel
theorem dX8_around_13 : decode cX8_around 13 = .ok (.iadd, 1) := by decide +kernel
theorem dX8_around_14 : decode cX8_around 14 = .ok (.iconst 1, 1) := by decide +kernel
theorem dX8_around_15 : decode cX8_around 15 = .ok (.bastore, 1) := by decide +kernel
theorem dX8_around_16 : decode cX8_around 16 = .ok (.iinc 2 1, 3) := by decide +kernel
theorem dX8_around_19 : decode cX8_around 19 = .ok (.goto (-17), 3) := by decide +kernel
theorem dX8_around_22 : decode cX8_around 22 = .ok (.aload_n 0, 1) := by decide +kernel
theorem dX8_around_23 : decode cX8_around 23 = .ok (.getfield 77, 3) := by decide +kernel
theorem dX8_around_26 : decode cX8_around 26 = .ok (.iload_n 1, 1) := by decide +kernel
theorem dX8_around_27 : decode cX8_around 27 = .ok (.invokestatic 97, 3) := by decide +kernel
theorem dX8_around_30 : decode cX8_around 30 = .ok (.aload_n 0, 1) := by decide +kernel
theorem dX8_around_31 : decode cX8_around 31 = .ok (.getfield 67, 3) := by decide +kernel
theorem dX8_around_34 : decode cX8_around 34 = .ok (.getfield 213, 3) := by decide +kernel
theorem dX8_around_37 : decode cX8_around 37 = .ok (.iload_n 1, 1) := by decide +kernel
theorem dX8_around_38 : decode cX8_around 38 = .ok (.invokestatic 97, 3) := by decide +kernel
theorem dX8_around_41 : decode cX8_around 41 = .ok (.if_icmp .ne 7, 3) := by decide +kernel
theorem dX8_around_44 : decode cX8_around 44 = .ok (.iconst 0, 1) := by decide +kernel
theorem dX8_around_45 : decode cX8_around 45 = .ok (.goto 4, 3) := by decide +kernel
theorem dX8_around_48 : decode cX8_around 48 = .ok (.iconst 1, 1) := by decide +kernel
theorem dX8_around_49 : decode cX8_around 49 = .ok (.ireturn, 1) := by decide +kernel
abbrev rm_X8_around : Room := { frames := 1, cells := 0, slots := 0, locals := 21 }
def f_X8_around_L2 (cy : Nat → ClassId) : Nat → Nat → Int32 → Int32 → Mem → Option (Int32 × Mem)
  | 0, _, _, _, _ => none
  | n + 1, a0, a1, a2, μ => if 4 ≤ a2 then ((rdR μ a0 7 26).bind fun q102 => ob2 (f_X8_intAt cy q102 a1 μ) fun r106 μ105 => (rdR μ105 a0 7 21).bind fun q107 => (rdR μ105 q107 6 0).bind fun q109 => ob2 (f_X8_intAt cy q109 a1 μ105) fun r113 μ112 => if r106 = r113 then (some (0, μ112)) else some (1, μ112)) else (rdR μ a0 7 41).bind fun q115 => (wrA cy μ 2 q115 (a1 + a2) (vp_nar .boolean 1)).bind fun μ117 => f_X8_around_L2 cy n a0 a1 (a2 + 1) μ117
set_option maxRecDepth 100000 in
set_option maxHeartbeats 4000000 in
theorem w_X8_around_L2 {p : Program} {l : Launch} {e : Env} {s : State} {m : MethodId} {args : Array Value} {below : List Frame} {meth : Method} {c : Code} {A : Nat → Prop} {g : Wg} {L : List Nat} {r : Int32} {μ' : Mem} (hC : CX p m c cX8_around 3 s args RX8) (hr : meth.sig.returnType = (some .int)) (hlocks : meth.locks = false) : ∀ (n : Nat), ∀ (a0 : Nat) (a1 : Int32) (a2 : Int32) (μ : Mem) (H : Heap) (locs : List Loc) (ls : Array Slot), lv_has ls 3 [(0, .ref a0), (1, .int a1), (2, .int a2)] → PW g L μ A s H locs → f_X8_around_L2 g.2 n a0 a1 a2 μ = some (r, μ') → W p l e rm_X8_around s m args below meth c H locs 0 0 (MQ below (QI g L A r μ') args s 0 0 A) (F0 m 2 ls []) := by
  have hx := hC.1
  have hb := hC.2.1
  intro n
  induction n with
  | zero => intro a0 a1 a2 μ H locs ls hl hw hf; cases hf
  | succ n ih =>
    intro a0 a1 a2 μ H locs ls hl hw hf
    rw [f_X8_around_L2] at hf
    refine lv_iload_n hx hb dX8_around_2 rfl (lv_at hl 2 rfl) ?_
    refine lv_iconst (v := 4) hx hb dX8_around_3 nc_iconst_4 ?_
    refine lv_icmp_ge (tgt := 22) hx hb dX8_around_4 (by decide) (fun c101 => ?_) (fun c101 => ?_)
    · have hf := o_pos c101 hf
      refine lv_aload_n hx hb dX8_around_22 rfl (lv_at hl 0 rfl) ?_
      obtain ⟨q102, h103, hf⟩ := o_bind hf
      refine pw_get hC fl_X8_77 hw (rdR_F h103) dX8_around_23 ?_
      refine lv_iload_n hx hb dX8_around_26 rfl (lv_at hl 1 rfl) ?_
      obtain ⟨r106, μ105, h104, hf⟩ := o_bind2 hf
      refine pw_goI hw (pw_runS (As := [.ref q102, .int a1]) (rest := []) hC mm_X8_intAt tw_1245 (c_X8_intAt h104 _) ⟨rfl, rfl, by decide, by decide⟩ hw rfl hl.1 (Nat.le_of_ble_eq_true rfl) ⟨Nat.zero_le _, Nat.zero_le _⟩ rfl dX8_around_27) (fun H locs hw => ?_)
      refine lv_aload_n hx hb dX8_around_30 rfl (lv_at hl 0 rfl) ?_
      obtain ⟨q107, h108, hf⟩ := o_bind hf
      refine pw_get hC fl_X8_67 hw (rdR_F h108) dX8_around_31 ?_
      obtain ⟨q109, h110, hf⟩ := o_bind hf
      refine pw_get hC fl_X8_213 hw (rdR_F h110) dX8_around_34 ?_
      refine lv_iload_n hx hb dX8_around_37 rfl (lv_at hl 1 rfl) ?_
      obtain ⟨r113, μ112, h111, hf⟩ := o_bind2 hf
      refine pw_goI hw (pw_runS (As := [.ref q109, .int a1]) (rest := [.int r106]) hC mm_X8_intAt tw_1245 (c_X8_intAt h111 _) ⟨rfl, rfl, by decide, by decide⟩ hw rfl hl.1 (Nat.le_of_ble_eq_true rfl) ⟨Nat.zero_le _, Nat.zero_le _⟩ rfl dX8_around_38) (fun H locs hw => ?_)
      refine lv_icmp_ne (tgt := 48) hx hb dX8_around_41 (by decide) (fun c114 => ?_) (fun c114 => ?_)
      · have hf := o_neg c114 hf
        refine lv_iconst (v := 1) hx hb dX8_around_48 nc_iconst_1 ?_
        obtain ⟨rfl, rfl⟩ := o_ret hf
        exact pw_iret hC hr hlocks hw dX8_around_49
      · have hf := o_pos c114 hf
        refine lv_iconst (v := 0) hx hb dX8_around_44 nc_iconst_0 ?_
        refine lv_goto (tgt := 49) hx hb dX8_around_45 (by decide) ?_
        obtain ⟨rfl, rfl⟩ := o_ret hf
        exact pw_iret hC hr hlocks hw dX8_around_49
    · have hf := o_neg c101 hf
      refine lv_aload_n hx hb dX8_around_7 rfl (lv_at hl 0 rfl) ?_
      obtain ⟨q115, h116, hf⟩ := o_bind hf
      refine pw_get hC fl_X8_83 hw (rdR_F h116) dX8_around_8 ?_
      refine lv_iload_n hx hb dX8_around_11 rfl (lv_at hl 1 rfl) ?_
      refine lv_iload_n hx hb dX8_around_12 rfl (lv_at hl 2 rfl) ?_
      refine lv_iadd hx hb dX8_around_13 ?_
      refine lv_iconst (v := 1) hx hb dX8_around_14 nc_iconst_1 ?_
      obtain ⟨μ117, h118, hf⟩ := o_bind hf
      refine pw_zast hC hw h118 dX8_around_15 (fun H locs hw => ?_)
      refine lv_iinc (v := (a2 + 1)) (lv' := [(2, .int (a2 + 1)), (0, .ref a0), (1, .int a1)]) hx hb dX8_around_16 hl (k := 2) rfl (by first | rfl | decide +kernel) (by decide) rfl (fun ls hl => ?_)
      refine lv_goto (tgt := 2) hx hb dX8_around_19 (by decide) ?_
      exact ih _ _ _ _ _ _ ls (lv_sub hl [1, 2, 0] rfl) hw hf
def f_X8_around (cy : Nat → ClassId) (a0 : Nat) (a1 : Int32) (μ : Mem) : Option (Int32 × Mem) :=
  f_X8_around_L2 cy FU a0 a1 0 μ
set_option maxRecDepth 100000 in
set_option maxHeartbeats 4000000 in
theorem c_X8_around {l : Launch} {g : Wg} {L : List Nat} {μ : Mem} {a0 : Nat} {a1 : Int32} {r : Int32} {μ' : Mem} (hf : f_X8_around g.2 a0 a1 μ = some (r, μ')) : MetI l yX8_around cX8_around 3 (some .int) rm_X8_around g L μ [.ref a0, .int a1] r μ' := by
  refine pw_met (Qc := fun A => QI g L A r μ') (by decide) (Nat.le_of_ble_eq_true rfl) ?_
  intro p e s m args below meth c A ls H locs hC hr hlocks hl hw
  have hx := hC.1
  have hb := hC.2.1
  have hl : lv_has ls 3 [(0, .ref a0), (1, .int a1)] := hl
  unfold f_X8_around at hf
  refine lv_iconst (v := 0) hx hb dX8_around_0 nc_iconst_0 ?_
  refine lv_istore_n (lv' := [(2, .int 0), (0, .ref a0), (1, .int a1)]) hx hb dX8_around_1 rfl hl (by decide) rfl (fun ls hl => ?_)
  exact w_X8_around_L2 hC hr hlocks FU _ _ _ _ _ _ ls (lv_sub hl [1, 2, 0] rfl) hw hf
theorem dX8_valueIs_0 : decode cX8_valueIs 0 = .ok (.aload_n 0, 1) := by decide +kernel
theorem dX8_valueIs_1 : decode cX8_valueIs 1 = .ok (.iconst 1, 1) := by decide +kernel
theorem dX8_valueIs_2 : decode cX8_valueIs 2 = .ok (.putfield 271, 3) := by decide +kernel
theorem dX8_valueIs_5 : decode cX8_valueIs 5 = .ok (.aload_n 0, 1) := by decide +kernel
theorem dX8_valueIs_6 : decode cX8_valueIs 6 = .ok (.iload_n 1, 1) := by decide +kernel
theorem dX8_valueIs_7 : decode cX8_valueIs 7 = .ok (.putfield 286, 3) := by decide +kernel
theorem dX8_valueIs_10 : decode cX8_valueIs 10 = .ok (.aload_n 0, 1) := by decide +kernel
theorem dX8_valueIs_11 : decode cX8_valueIs 11 = .ok (.aload_n 2, 1) := by decide +kernel
theorem dX8_valueIs_12 : decode cX8_valueIs 12 = .ok (.putfield 301, 3) := by decide +kernel
theorem dX8_valueIs_15 : decode cX8_valueIs 15 = .ok (.aload_n 0, 1) := by decide +kernel
theorem dX8_valueIs_16 : decode cX8_valueIs 16 = .ok (.iload_n 3, 1) := by decide +kernel
theorem dX8_valueIs_17 : decode cX8_valueIs 17 = .ok (.putfield 304, 3) := by decide +kernel
theorem dX8_valueIs_20 : decode cX8_valueIs 20 = .ok (.aload_n 0, 1) := by decide +kernel
theorem dX8_valueIs_21 : decode cX8_valueIs 21 = .ok (.iload 4, 2) := by decide +kernel
theorem dX8_valueIs_23 : decode cX8_valueIs 23 = .ok (.putfield 307, 3) := by decide +kernel
theorem dX8_valueIs_26 : decode cX8_valueIs 26 = .ok (.return_, 1) := by decide +kernel
abbrev rm_X8_valueIs : Room := { frames := 0, cells := 0, slots := 0, locals := 0 }
def f_X8_valueIs (cy : Nat → ClassId) (a0 : Nat) (a1 : Int32) (a2 : Nat) (a3 : Int32) (a4 : Int32) (μ : Mem) : Option Mem :=
  (wrF μ a0 7 32 (.int 1)).bind fun μ1 => (wrF μ1 a0 7 34 (.int a1)).bind fun μ3 => (wrF μ3 a0 7 36 (.ref a2)).bind fun μ5 => (wrF μ5 a0 7 39 (.int a3)).bind fun μ7 => (wrF μ7 a0 7 40 (.int a4)).bind fun μ9 => some μ9
set_option maxRecDepth 100000 in
set_option maxHeartbeats 4000000 in
theorem c_X8_valueIs {l : Launch} {g : Wg} {L : List Nat} {μ : Mem} {a0 : Nat} {a1 : Int32} {a2 : Nat} {a3 : Int32} {a4 : Int32} {μ' : Mem} (hf : f_X8_valueIs g.2 a0 a1 a2 a3 a4 μ = some μ') : MetV l yX8_valueIs cX8_valueIs 5 none rm_X8_valueIs g L μ [.ref a0, .int a1, .ref a2, .int a3, .int a4] μ' := by
  refine pw_met (Qc := fun A => QV g L A μ') (by decide) (Nat.le_of_ble_eq_true rfl) ?_
  intro p e s m args below meth c A ls H locs hC hr hlocks hl hw
  have hx := hC.1
  have hb := hC.2.1
  have hl : lv_has ls 5 [(0, .ref a0), (1, .int a1), (2, .ref a2), (3, .int a3), (4, .int a4)] := hl
  unfold f_X8_valueIs at hf
  refine lv_aload_n hx hb dX8_valueIs_0 rfl (lv_at hl 0 rfl) ?_
  refine lv_iconst (v := 1) hx hb dX8_valueIs_1 nc_iconst_1 ?_
  obtain ⟨μ1, h2, hf⟩ := o_bind hf
  refine pw_put hC fl_X8_271 hw h2 .boolean fd_X8_32 (by decide +kernel) rfl dX8_valueIs_2 (fun H locs hw => ?_)
  refine lv_aload_n hx hb dX8_valueIs_5 rfl (lv_at hl 0 rfl) ?_
  refine lv_iload_n hx hb dX8_valueIs_6 rfl (lv_at hl 1 rfl) ?_
  obtain ⟨μ3, h4, hf⟩ := o_bind hf
  refine pw_put hC fl_X8_286 hw h4 .int fd_X8_34 rfl rfl dX8_valueIs_7 (fun H locs hw => ?_)
  refine lv_aload_n hx hb dX8_valueIs_10 rfl (lv_at hl 0 rfl) ?_
  refine lv_aload_n hx hb dX8_valueIs_11 rfl (lv_at hl 2 rfl) ?_
  obtain ⟨μ5, h6, hf⟩ := o_bind hf
  refine pw_put hC fl_X8_301 hw h6 (.array .byte) fd_X8_36 rfl rfl dX8_valueIs_12 (fun H locs hw => ?_)
  refine lv_aload_n hx hb dX8_valueIs_15 rfl (lv_at hl 0 rfl) ?_
  refine lv_iload_n hx hb dX8_valueIs_16 rfl (lv_at hl 3 rfl) ?_
  obtain ⟨μ7, h8, hf⟩ := o_bind hf
  refine pw_put hC fl_X8_304 hw h8 .int fd_X8_39 rfl rfl dX8_valueIs_17 (fun H locs hw => ?_)
  refine lv_aload_n hx hb dX8_valueIs_20 rfl (lv_at hl 0 rfl) ?_
  refine lv_iload hx hb dX8_valueIs_21 (lv_at hl 4 rfl) ?_
  obtain ⟨μ9, h10, hf⟩ := o_bind hf
  refine pw_put hC fl_X8_307 hw h10 .int fd_X8_40 rfl rfl dX8_valueIs_23 (fun H locs hw => ?_)
  obtain rfl := o_retv hf
  exact pw_vret hC hr hlocks hw dX8_valueIs_26
theorem dX8_nameIs_0 : decode cX8_nameIs 0 = .ok (.aload_n 0, 1) := by decide +kernel
theorem dX8_nameIs_1 : decode cX8_nameIs 1 = .ok (.iconst 1, 1) := by decide +kernel
theorem dX8_nameIs_2 : decode cX8_nameIs 2 = .ok (.putfield 275, 3) := by decide +kernel
theorem dX8_nameIs_5 : decode cX8_nameIs 5 = .ok (.aload_n 0, 1) := by decide +kernel
theorem dX8_nameIs_6 : decode cX8_nameIs 6 = .ok (.aload_n 1, 1) := by decide +kernel
theorem dX8_nameIs_7 : decode cX8_nameIs 7 = .ok (.putfield 292, 3) := by decide +kernel
theorem dX8_nameIs_10 : decode cX8_nameIs 10 = .ok (.aload_n 0, 1) := by decide +kernel
theorem dX8_nameIs_11 : decode cX8_nameIs 11 = .ok (.iload_n 2, 1) := by decide +kernel
theorem dX8_nameIs_12 : decode cX8_nameIs 12 = .ok (.putfield 295, 3) := by decide +kernel
theorem dX8_nameIs_15 : decode cX8_nameIs 15 = .ok (.aload_n 0, 1) := by decide +kernel
theorem dX8_nameIs_16 : decode cX8_nameIs 16 = .ok (.iload_n 3, 1) := by decide +kernel
theorem dX8_nameIs_17 : decode cX8_nameIs 17 = .ok (.putfield 298, 3) := by decide +kernel
theorem dX8_nameIs_20 : decode cX8_nameIs 20 = .ok (.return_, 1) := by decide +kernel
abbrev rm_X8_nameIs : Room := { frames := 0, cells := 0, slots := 0, locals := 0 }
def f_X8_nameIs (cy : Nat → ClassId) (a0 : Nat) (a1 : Nat) (a2 : Int32) (a3 : Int32) (μ : Mem) : Option Mem :=
  (wrF μ a0 7 33 (.int 1)).bind fun μ1 => (wrF μ1 a0 7 35 (.ref a1)).bind fun μ3 => (wrF μ3 a0 7 37 (.int a2)).bind fun μ5 => (wrF μ5 a0 7 38 (.int a3)).bind fun μ7 => some μ7
set_option maxRecDepth 100000 in
set_option maxHeartbeats 4000000 in
theorem c_X8_nameIs {l : Launch} {g : Wg} {L : List Nat} {μ : Mem} {a0 : Nat} {a1 : Nat} {a2 : Int32} {a3 : Int32} {μ' : Mem} (hf : f_X8_nameIs g.2 a0 a1 a2 a3 μ = some μ') : MetV l yX8_nameIs cX8_nameIs 4 none rm_X8_nameIs g L μ [.ref a0, .ref a1, .int a2, .int a3] μ' := by
  refine pw_met (Qc := fun A => QV g L A μ') (by decide) (Nat.le_of_ble_eq_true rfl) ?_
  intro p e s m args below meth c A ls H locs hC hr hlocks hl hw
  have hx := hC.1
  have hb := hC.2.1
  have hl : lv_has ls 4 [(0, .ref a0), (1, .ref a1), (2, .int a2), (3, .int a3)] := hl
  unfold f_X8_nameIs at hf
  refine lv_aload_n hx hb dX8_nameIs_0 rfl (lv_at hl 0 rfl) ?_
  refine lv_iconst (v := 1) hx hb dX8_nameIs_1 nc_iconst_1 ?_
  obtain ⟨μ1, h2, hf⟩ := o_bind hf
  refine pw_put hC fl_X8_275 hw h2 .boolean fd_X8_33 (by decide +kernel) rfl dX8_nameIs_2 (fun H locs hw => ?_)
  refine lv_aload_n hx hb dX8_nameIs_5 rfl (lv_at hl 0 rfl) ?_
  refine lv_aload_n hx hb dX8_nameIs_6 rfl (lv_at hl 1 rfl) ?_
  obtain ⟨μ3, h4, hf⟩ := o_bind hf
  refine pw_put hC fl_X8_292 hw h4 (.array .byte) fd_X8_35 rfl rfl dX8_nameIs_7 (fun H locs hw => ?_)
  refine lv_aload_n hx hb dX8_nameIs_10 rfl (lv_at hl 0 rfl) ?_
  refine lv_iload_n hx hb dX8_nameIs_11 rfl (lv_at hl 2 rfl) ?_
  obtain ⟨μ5, h6, hf⟩ := o_bind hf
  refine pw_put hC fl_X8_295 hw h6 .int fd_X8_37 rfl rfl dX8_nameIs_12 (fun H locs hw => ?_)
  refine lv_aload_n hx hb dX8_nameIs_15 rfl (lv_at hl 0 rfl) ?_
  refine lv_iload_n hx hb dX8_nameIs_16 rfl (lv_at hl 3 rfl) ?_
  obtain ⟨μ7, h8, hf⟩ := o_bind hf
  refine pw_put hC fl_X8_298 hw h8 .int fd_X8_38 rfl rfl dX8_nameIs_17 (fun H locs hw => ?_)
  obtain rfl := o_retv hf
  exact pw_vret hC hr hlocks hw dX8_nameIs_20
theorem dX8_isValue_0 : decode cX8_isValue 0 = .ok (.iload_n 1, 1) := by decide +kernel
theorem dX8_isValue_1 : decode cX8_isValue 1 = .ok (.invokestatic 145, 3) := by decide +kernel
theorem dX8_isValue_4 : decode cX8_isValue 4 = .ok (.ifCond .ne 12, 3) := by decide +kernel
theorem dX8_isValue_7 : decode cX8_isValue 7 = .ok (.aload_n 0, 1) := by decide +kernel
theorem dX8_isValue_8 : decode cX8_isValue 8 = .ok (.iconst 3, 1) := by decide +kernel
theorem dX8_isValue_9 : decode cX8_isValue 9 = .ok (.iconst 0, 1) := by decide +kernel
theorem dX8_isValue_10 : decode cX8_isValue 10 = .ok (.invokevirtual 109, 3) := by decide +kernel
theorem dX8_isValue_13 : decode cX8_isValue 13 = .ok (.pop, 1) := by decide +kernel
theorem dX8_isValue_14 : decode cX8_isValue 14 = .ok (.iconst 0, 1) := by decide +kernel
theorem dX8_isValue_15 : decode cX8_isValue 15 = .ok (.ireturn, 1) := by decide +kernel
theorem dX8_isValue_16 : decode cX8_isValue 16 = .ok (.aload_n 0, 1) := by decide +kernel
theorem dX8_isValue_17 : decode cX8_isValue 17 = .ok (.aload_n 0, 1) := by decide +kernel
theorem dX8_isValue_18 : decode cX8_isValue 18 = .ok (.iload_n 1, 1) := by decide +kernel
theorem dX8_isValue_19 : decode cX8_isValue 19 = .ok (.iload_n 2, 1) := by decide +kernel
theorem dX8_isValue_20 : decode cX8_isValue 20 = .ok (.aload_n 0, 1) := by decide +kernel
theorem dX8_isValue_21 : decode cX8_isValue 21 = .ok (.getfield 103, 3) := by decide +kernel
theorem dX8_isValue_24 : decode cX8_isValue 24 = .ok (.iload_n 3, 1) := by decide +kernel
theorem dX8_isValue_25 : decode cX8_isValue 25 = .ok (.invokevirtual 152, 3) := by decide +kernel
theorem dX8_isValue_28 : decode cX8_isValue 28 = .ok (.invokevirtual 173, 3) := by decide +kernel
theorem dX8_isValue_31 : decode cX8_isValue 31 = .ok (.ireturn, 1) := by decide +kernel
abbrev rm_X8_isValue : Room := { frames := 124, cells := 0, slots := 0, locals := 3460 }
def f_X8_isValue (cy : Nat → ClassId) (a0 : Nat) (a1 : Int32) (a2 : Int32) (a3 : Int32) (μ : Mem) : Option (Int32 × Mem) :=
  ob2 (f_X8_isType cy a1 μ) fun r3 μ2 => if r3 = 0 then (if isO μ2 a0 7 = true then (ob2 (f_X8_wrong cy a0 3 0 μ2) fun r19 μ18 => some (0, μ18)) else none) else (rdI μ2 a0 7 2).bind fun v5 => if isO μ2 a0 7 = true then (ob2 (f_X8_value cy DP a0 a1 a2 v5 a3 μ2) fun r10 μ9 => if isO μ9 a0 7 = true then (ob2 (f_X8_isAll cy a0 r10 μ9) fun r14 μ13 => if r14 = 0 ∨ r14 = 1 then some (r14, μ13) else none) else none) else none
set_option maxRecDepth 100000 in
set_option maxHeartbeats 4000000 in
theorem c_X8_isValue {l : Launch} {g : Wg} {L : List Nat} {μ : Mem} {a0 : Nat} {a1 : Int32} {a2 : Int32} {a3 : Int32} {r : Int32} {μ' : Mem} (hf : f_X8_isValue g.2 a0 a1 a2 a3 μ = some (r, μ')) : MetI l yX8_isValue cX8_isValue 4 (some .boolean) rm_X8_isValue g L μ [.ref a0, .int a1, .int a2, .int a3] r μ' := by
  refine pw_met (Qc := fun A => QI g L A r μ') (by decide) (Nat.le_of_ble_eq_true rfl) ?_
  intro p e s m args below meth c A ls H locs hC hr hlocks hl hw
  have hx := hC.1
  have hb := hC.2.1
  have hl : lv_has ls 4 [(0, .ref a0), (1, .int a1), (2, .int a2), (3, .int a3)] := hl
  unfold f_X8_isValue at hf
  refine lv_iload_n hx hb dX8_isValue_0 rfl (lv_at hl 1 rfl) ?_
  obtain ⟨r3, μ2, h1, hf⟩ := o_bind2 hf
  refine pw_goI hw (pw_runS (As := [.int a1]) (rest := []) hC mm_X8_isType tw_1252 (c_X8_isType h1 _) ⟨rfl, rfl, by decide, by decide⟩ hw rfl hl.1 (Nat.le_of_ble_eq_true rfl) ⟨Nat.zero_le _, Nat.zero_le _⟩ rfl dX8_isValue_1) (fun H locs hw => ?_)
  refine lv_if_ne (tgt := 16) hx hb dX8_isValue_4 (by decide) (fun c4 => ?_) (fun c4 => ?_)
  · have hf := o_neg c4 hf
    refine lv_aload_n hx hb dX8_isValue_16 rfl (lv_at hl 0 rfl) ?_
    refine lv_aload_n hx hb dX8_isValue_17 rfl (lv_at hl 0 rfl) ?_
    refine lv_iload_n hx hb dX8_isValue_18 rfl (lv_at hl 1 rfl) ?_
    refine lv_iload_n hx hb dX8_isValue_19 rfl (lv_at hl 2 rfl) ?_
    refine lv_aload_n hx hb dX8_isValue_20 rfl (lv_at hl 0 rfl) ?_
    obtain ⟨v5, h6, hf⟩ := o_bind hf
    refine pw_get hC fl_X8_103 hw (rdI_F h6) dX8_isValue_21 ?_
    refine lv_iload_n hx hb dX8_isValue_24 rfl (lv_at hl 3 rfl) ?_
    obtain ⟨h8, hf⟩ := o_ite hf
    obtain ⟨r10, μ9, h7, hf⟩ := o_bind2 hf
    refine pw_goI hw (pw_runV (As := [.int a1, .int a2, .int v5, .int a3]) (rest := [.ref a0]) hC mm_X8_value tw_1283 (c_X8_value (d := DP) h7 _) ⟨rfl, rfl, by decide, by decide⟩ hw h8 rfl hl.1 (Nat.le_of_ble_eq_true rfl) ⟨Nat.zero_le _, Nat.zero_le _⟩ rfl dX8_isValue_25) (fun H locs hw => ?_)
    obtain ⟨h12, hf⟩ := o_ite hf
    obtain ⟨r14, μ13, h11, hf⟩ := o_bind2 hf
    refine pw_goI hw (pw_runV (As := [.int r10]) (rest := []) hC mm_X8_isAll tw_1301 (c_X8_isAll h11 _) ⟨rfl, rfl, by decide, by decide⟩ hw h12 rfl hl.1 (Nat.le_of_ble_eq_true rfl) ⟨Nat.zero_le _, Nat.zero_le _⟩ rfl dX8_isValue_28) (fun H locs hw => ?_)
    obtain ⟨h15, hf⟩ := o_ite hf
    obtain ⟨rfl, rfl⟩ := o_ret hf
    exact pw_zret hC hr hlocks h15 hw dX8_isValue_31
  · have hf := o_pos c4 hf
    refine lv_aload_n hx hb dX8_isValue_7 rfl (lv_at hl 0 rfl) ?_
    refine lv_iconst (v := 3) hx hb dX8_isValue_8 nc_iconst_3 ?_
    refine lv_iconst (v := 0) hx hb dX8_isValue_9 nc_iconst_0 ?_
    obtain ⟨h17, hf⟩ := o_ite hf
    obtain ⟨r19, μ18, h16, hf⟩ := o_bind2 hf
    refine pw_goI hw (pw_runV (As := [.int 3, .int 0]) (rest := []) hC mm_X8_wrong tw_1237 (c_X8_wrong h16 _) ⟨rfl, rfl, by decide, by decide⟩ hw h17 rfl hl.1 (Nat.le_of_ble_eq_true rfl) ⟨Nat.zero_le _, Nat.zero_le _⟩ rfl dX8_isValue_10) (fun H locs hw => ?_)
    refine lv_pop hx hb dX8_isValue_13 rfl ?_
    refine lv_iconst (v := 0) hx hb dX8_isValue_14 nc_iconst_0 ?_
    obtain ⟨rfl, rfl⟩ := o_ret hf
    exact pw_zret hC hr hlocks (Or.inl rfl) hw dX8_isValue_15
theorem dX8_lays_0 : decode cX8_lays 0 = .ok (.aload_n 0, 1) := by decide +kernel
theorem dX8_lays_1 : decode cX8_lays 1 = .ok (.iconst 0, 1) := by decide +kernel
theorem dX8_lays_2 : decode cX8_lays 2 = .ok (.putfield 256, 3) := by decide +kernel
theorem dX8_lays_5 : decode cX8_lays 5 = .ok (.aload_n 0, 1) := by decide +kernel
theorem dX8_lays_6 : decode cX8_lays 6 = .ok (.iconst 0, 1) := by decide +kernel
theorem dX8_lays_7 : decode cX8_lays 7 = .ok (.invokevirtual 313, 3) := by decide +kernel
theorem dX8_lays_10 : decode cX8_lays 10 = .ok (.aload_n 0, 1) := by decide +kernel
theorem dX8_lays_11 : decode cX8_lays 11 = .ok (.getfield 256, 3) := by decide +kernel
theorem dX8_lays_14 : decode cX8_lays 14 = .ok (.sipush 2400, 3) := by decide +kernel
theorem dX8_lays_17 : decode cX8_lays 17 = .ok (.if_icmp .le 5, 3) := by decide +kernel
theorem dX8_lays_20 : decode cX8_lays 20 = .ok (.iconst 0, 1) := by decide +kernel
theorem dX8_lays_21 : decode cX8_lays 21 = .ok (.ireturn, 1) := by decide +kernel
theorem dX8_lays_22 : decode cX8_lays 22 = .ok (.iconst 0, 1) := by decide +kernel
theorem dX8_lays_23 : decode cX8_lays 23 = .ok (.istore_n 2, 1) := by decide +kernel
theorem dX8_lays_24 : decode cX8_lays 24 = .ok (.iload_n 2, 1) := by decide +kernel
theorem dX8_lays_25 : decode cX8_lays 25 = .ok (.sipush 2400, 3) := by decide +kernel
theorem dX8_lays_28 : decode cX8_lays 28 = .ok (.if_icmp .ge 16, 3) := by decide +kernel
theorem dX8_lays_31 : decode cX8_lays 31 = .ok (.aload_n 0, 1) := by decide +kernel
theorem dX8_lays_32 : decode cX8_lays 32 = .ok (.getfield 83, 3) := by decide +kernel
theorem dX8_lays_35 : decode cX8_lays 35 = .ok (.iload_n 2, 1) := by decide +kernel
theorem dX8_lays_36 : decode cX8_lays 36 = .ok (.iconst 0, 1) := by decide +kernel
theorem dX8_lays_37 : decode cX8_lays 37 = .ok (.bastore, 1) := by decide +kernel
theorem dX8_lays_38 : decode cX8_lays 38 = .ok (.iinc 2 1, 3) := by decide +kernel
theorem dX8_lays_41 : decode cX8_lays 41 = .ok (.goto (-17), 3) := by decide +kernel
theorem dX8_lays_44 : decode cX8_lays 44 = .ok (.iconst 0, 1) := by decide +kernel
theorem dX8_lays_45 : decode cX8_lays 45 = .ok (.istore_n 2, 1) := by decide +kernel
theorem dX8_lays_46 : decode cX8_lays 46 = .ok (.aload_n 0, 1) := by decide +kernel
theorem dX8_lays_47 : decode cX8_lays 47 = .ok (.getfield 262, 3) := by decide +kernel
theorem dX8_lays_50 : decode cX8_lays 50 = .ok (.istore_n 3, 1) := by decide +kernel
theorem dX8_lays_51 : decode cX8_lays 51 = .ok (.iload_n 3, 1) := by decide +kernel
theorem dX8_lays_52 : decode cX8_lays 52 = .ok (.ifCond .lt 62, 3) := by decide +kernel
theorem dX8_lays_55 : decode cX8_lays 55 = .ok (.iload_n 2, 1) := by decide +kernel
theorem dX8_lays_56 : decode cX8_lays 56 = .ok (.aload_n 0, 1) := by decide +kernel
theorem dX8_lays_57 : decode cX8_lays 57 = .ok (.aload_n 0, 1) := by decide +kernel
theorem dX8_lays_58 : decode cX8_lays 58 = .ok (.getfield 67, 3) := by decide +kernel
theorem dX8_lays_61 : decode cX8_lays 61 = .ok (.getfield 222, 3) := by decide +kernel
theorem dX8_lays_64 : decode cX8_lays 64 = .ok (.iload_n 3, 1) := by decide +kernel
theorem dX8_lays_65 : decode cX8_lays 65 = .ok (.iaload, 1) := by decide +kernel
theorem dX8_lays_66 : decode cX8_lays 66 = .ok (.invokevirtual 316, 3) := by decide +kernel
theorem dX8_lays_69 : decode cX8_lays 69 = .ok (.iadd, 1) := by decide +kernel
theorem dX8_lays_70 : decode cX8_lays 70 = .ok (.istore_n 2, 1) := by decide +kernel
theorem dX8_lays_71 : decode cX8_lays 71 = .ok (.aload_n 0, 1) := by decide +kernel
theorem dX8_lays_72 : decode cX8_lays 72 = .ok (.getfield 67, 3) := by decide +kernel
theorem dX8_lays_75 : decode cX8_lays 75 = .ok (.getfield 228, 3) := by decide +kernel
theorem dX8_lays_78 : decode cX8_lays 78 = .ok (.iload_n 3, 1) := by decide +kernel
theorem dX8_lays_79 : decode cX8_lays 79 = .ok (.iaload, 1) := by decide +kernel
theorem dX8_lays_80 : decode cX8_lays 80 = .ok (.bipush 15, 2) := by decide +kernel
theorem dX8_lays_82 : decode cX8_lays 82 = .ok (.if_icmp .ne 19, 3) := by decide +kernel
theorem dX8_lays_85 : decode cX8_lays 85 = .ok (.iload_n 2, 1) := by decide +kernel
theorem dX8_lays_86 : decode cX8_lays 86 = .ok (.aload_n 0, 1) := by decide +kernel
theorem dX8_lays_87 : decode cX8_lays 87 = .ok (.aload_n 0, 1) := by decide +kernel
theorem dX8_lays_88 : decode cX8_lays 88 = .ok (.getfield 67, 3) := by decide +kernel
theorem dX8_lays_91 : decode cX8_lays 91 = .ok (.getfield 231, 3) := by decide +kernel
theorem dX8_lays_94 : decode cX8_lays 94 = .ok (.iload_n 3, 1) := by decide +kernel
theorem dX8_lays_95 : decode cX8_lays 95 = .ok (.iaload, 1) := by decide +kernel
theorem dX8_lays_96 : decode cX8_lays 96 = .ok (.invokevirtual 316, 3) := by decide +kernel
theorem dX8_lays_99 : decode cX8_lays 99 = .ok (.iadd, 1) := by decide +kernel
theorem dX8_lays_100 : decode cX8_lays 100 = .ok (.istore_n 2, 1) := by decide +kernel
theorem dX8_lays_101 : decode cX8_lays 101 = .ok (.aload_n 0, 1) := by decide +kernel
theorem dX8_lays_102 : decode cX8_lays 102 = .ok (.getfield 67, 3) := by decide +kernel
theorem dX8_lays_105 : decode cX8_lays 105 = .ok (.getfield 319, 3) := by decide +kernel
theorem dX8_lays_108 : decode cX8_lays 108 = .ok (.iload_n 3, 1) := by decide +kernel
theorem dX8_lays_109 : decode cX8_lays 109 = .ok (.iaload, 1) := by decide +kernel
theorem dX8_lays_110 : decode cX8_lays 110 = .ok (.istore_n 3, 1) := by decide +kernel
theorem dX8_lays_111 : decode cX8_lays 111 = .ok (.goto (-60), 3) := by decide +kernel
theorem dX8_lays_114 : decode cX8_lays 114 = .ok (.iconst 0, 1) := by decide +kernel
theorem dX8_lays_115 : decode cX8_lays 115 = .ok (.istore_n 3, 1) := by decide +kernel
theorem dX8_lays_116 : decode cX8_lays 116 = .ok (.aload_n 0, 1) := by decide +kernel
theorem dX8_lays_117 : decode cX8_lays 117 = .ok (.getfield 256, 3) := by decide +kernel
theorem dX8_lays_120 : decode cX8_lays 120 = .ok (.aload_n 0, 1) := by decide +kernel
theorem dX8_lays_121 : decode cX8_lays 121 = .ok (.getfield 25, 3) := by decide +kernel
theorem dX8_lays_124 : decode cX8_lays 124 = .ok (.iload_n 1, 1) := by decide +kernel
theorem dX8_lays_125 : decode cX8_lays 125 = .ok (.iaload, 1) := by decide +kernel
theorem dX8_lays_126 : decode cX8_lays 126 = .ok (.if_icmp .le 10, 3) := by decide +kernel
theorem dX8_lays_129 : decode cX8_lays 129 = .ok (.aload_n 0, 1) := by decide +kernel
theorem dX8_lays_130 : decode cX8_lays 130 = .ok (.getfield 256, 3) := by decide +kernel
theorem dX8_lays_133 : decode cX8_lays 133 = .ok (.goto 9, 3) := by decide +kernel
theorem dX8_lays_136 : decode cX8_lays 136 = .ok (.aload_n 0, 1) := by decide +kernel
theorem dX8_lays_137 : decode cX8_lays 137 = .ok (.getfield 25, 3) := by decide +kernel
theorem dX8_lays_140 : decode cX8_lays 140 = .ok (.iload_n 1, 1) := by decide +kernel
theorem dX8_lays_141 : decode cX8_lays 141 = .ok (.iaload, 1) := by decide +kernel
theorem dX8_lays_142 : decode cX8_lays 142 = .ok (.istore 4, 2) := by decide +kernel
theorem dX8_lays_144 : decode cX8_lays 144 = .ok (.iload_n 3, 1) := by decide +kernel
theorem dX8_lays_145 : decode cX8_lays 145 = .ok (.iload 4, 2) := by decide +kernel
theorem dX8_lays_147 : decode cX8_lays 147 = .ok (.if_icmp .ge 53, 3) := by decide +kernel
theorem dX8_lays_150 : decode cX8_lays 150 = .ok (.aload_n 0, 1) := by decide +kernel
theorem dX8_lays_151 : decode cX8_lays 151 = .ok (.getfield 83, 3) := by decide +kernel
theorem dX8_lays_154 : decode cX8_lays 154 = .ok (.iload_n 3, 1) := by decide +kernel
theorem dX8_lays_155 : decode cX8_lays 155 = .ok (.baload, 1) := by decide +kernel
theorem dX8_lays_156 : decode cX8_lays 156 = .ok (.ifCond .ne 38, 3) := by decide +kernel
theorem dX8_lays_159 : decode cX8_lays 159 = .ok (.iload_n 3, 1) := by decide +kernel
theorem dX8_lays_160 : decode cX8_lays 160 = .ok (.aload_n 0, 1) := by decide +kernel
theorem dX8_lays_161 : decode cX8_lays 161 = .ok (.getfield 256, 3) := by decide +kernel
theorem dX8_lays_164 : decode cX8_lays 164 = .ok (.if_icmp .ge 36, 3) := by decide +kernel
theorem dX8_lays_167 : decode cX8_lays 167 = .ok (.iload_n 3, 1) := by decide +kernel
theorem dX8_lays_168 : decode cX8_lays 168 = .ok (.aload_n 0, 1) := by decide +kernel
theorem dX8_lays_169 : decode cX8_lays 169 = .ok (.getfield 25, 3) := by decide +kernel
theorem dX8_lays_172 : decode cX8_lays 172 = .ok (.iload_n 1, 1) := by decide +kernel
theorem dX8_lays_173 : decode cX8_lays 173 = .ok (.iaload, 1) := by decide +kernel
theorem dX8_lays_174 : decode cX8_lays 174 = .ok (.if_icmp .ge 26, 3) := by decide +kernel
theorem dX8_lays_177 : decode cX8_lays 177 = .ok (.aload_n 0, 1) := by decide +kernel
theorem dX8_lays_178 : decode cX8_lays 178 = .ok (.getfield 77, 3) := by decide +kernel
theorem dX8_lays_181 : decode cX8_lays 181 = .ok (.iload_n 3, 1) := by decide +kernel
theorem dX8_lays_182 : decode cX8_lays 182 = .ok (.baload, 1) := by decide +kernel
theorem dX8_lays_183 : decode cX8_lays 183 = .ok (.aload_n 0, 1) := by decide +kernel
theorem dX8_lays_184 : decode cX8_lays 184 = .ok (.getfield 22, 3) := by decide +kernel
theorem dX8_lays_187 : decode cX8_lays 187 = .ok (.iload_n 1, 1) := by decide +kernel
theorem dX8_lays_188 : decode cX8_lays 188 = .ok (.aaload, 1) := by decide +kernel
theorem dX8_lays_189 : decode cX8_lays 189 = .ok (.iload_n 3, 1) := by decide +kernel
theorem dX8_lays_190 : decode cX8_lays 190 = .ok (.baload, 1) := by decide +kernel
theorem dX8_lays_191 : decode cX8_lays 191 = .ok (.if_icmp .ne 9, 3) := by decide +kernel
theorem dX8_lays_194 : decode cX8_lays 194 = .ok (.iinc 3 1, 3) := by decide +kernel
theorem dX8_lays_197 : decode cX8_lays 197 = .ok (.goto (-53), 3) := by decide +kernel
theorem dX8_lays_200 : decode cX8_lays 200 = .ok (.aload_n 0, 1) := by decide +kernel
theorem dX8_lays_201 : decode cX8_lays 201 = .ok (.getfield 55, 3) := by decide +kernel
theorem dX8_lays_204 : decode cX8_lays 204 = .ok (.iconst 0, 1) := by decide +kernel
theorem dX8_lays_205 : decode cX8_lays 205 = .ok (.iload_n 3, 1) := by decide +kernel
theorem dX8_lays_206 : decode cX8_lays 206 = .ok (.iload 4, 2) := by decide +kernel
theorem dX8_lays_208 : decode cX8_lays 208 = .ok (.if_icmp .ge 7, 3) := by decide +kernel
theorem dX8_lays_211 : decode cX8_lays 211 = .ok (.iload_n 3, 1) := by decide +kernel
theorem dX8_lays_212 : decode cX8_lays 212 = .ok (.goto 4, 3) := by decide +kernel
theorem dX8_lays_215 : decode cX8_lays 215 = .ok (.iconst (-1), 1) := by decide +kernel
theorem dX8_lays_216 : decode cX8_lays 216 = .ok (.iastore, 1) := by decide +kernel
theorem dX8_lays_217 : decode cX8_lays 217 = .ok (.aload_n 0, 1) := by decide +kernel
theorem dX8_lays_218 : decode cX8_lays 218 = .ok (.getfield 55, 3) := by decide +kernel
theorem dX8_lays_221 : decode cX8_lays 221 = .ok (.iconst 1, 1) := by decide +kernel
theorem dX8_lays_222 : decode cX8_lays 222 = .ok (.iload_n 2, 1) := by decide +kernel
theorem dX8_lays_223 : decode cX8_lays 223 = .ok (.iastore, 1) := by decide +kernel
theorem dX8_lays_224 : decode cX8_lays 224 = .ok (.aload_n 0, 1) := by decide +kernel
theorem dX8_lays_225 : decode cX8_lays 225 = .ok (.getfield 55, 3) := by decide +kernel
theorem dX8_lays_228 : decode cX8_lays 228 = .ok (.iconst 2, 1) := by decide +kernel
theorem dX8_lays_229 : decode cX8_lays 229 = .ok (.aload_n 0, 1) := by decide +kernel
theorem dX8_lays_230 : decode cX8_lays 230 = .ok (.getfield 256, 3) := by decide +kernel
theorem dX8_lays_233 : decode cX8_lays 233 = .ok (.aload_n 0, 1) := by decide +kernel
theorem dX8_lays_234 : decode cX8_lays 234 = .ok (.getfield 25, 3) := by decide +kernel
theorem dX8_lays_237 : decode cX8_lays 237 = .ok (.iload_n 1, 1) := by decide +kernel
theorem dX8_lays_238 : decode cX8_lays 238 = .ok (.iaload, 1) := by decide +kernel
theorem dX8_lays_239 : decode cX8_lays 239 = .ok (.isub, 1) := by decide +kernel
theorem dX8_lays_240 : decode cX8_lays 240 = .ok (.iastore, 1) := by decide +kernel
theorem dX8_lays_241 : decode cX8_lays 241 = .ok (.aload_n 0, 1) := by decide +kernel
theorem dX8_lays_242 : decode cX8_lays 242 = .ok (.getfield 55, 3) := by decide +kernel
theorem dX8_lays_245 : decode cX8_lays 245 = .ok (.iconst 3, 1) := by decide +kernel
theorem dX8_lays_246 : decode cX8_lays 246 = .ok (.iload_n 1, 1) := by decide +kernel
theorem dX8_lays_247 : decode cX8_lays 247 = .ok (.iastore, 1) := by decide +kernel
theorem dX8_lays_248 : decode cX8_lays 248 = .ok (.iconst 0, 1) := by decide +kernel
theorem dX8_lays_249 : decode cX8_lays 249 = .ok (.istore 5, 2) := by decide +kernel
theorem dX8_lays_251 : decode cX8_lays 251 = .ok (.iload 5, 2) := by decide +kernel
theorem dX8_lays_253 : decode cX8_lays 253 = .ok (.aload_n 0, 1) := by decide +kernel
theorem dX8_lays_254 : decode cX8_lays 254 = .ok (.getfield 256, 3) := by decide +kernel
theorem dX8_lays_257 : decode cX8_lays 257 = .ok (.if_icmp .ge 25, 3) := by decide +kernel
theorem dX8_lays_260 : decode cX8_lays 260 = .ok (.aload_n 0, 1) := by decide +kernel
theorem dX8_lays_261 : decode cX8_lays 261 = .ok (.getfield 22, 3) := by decide +kernel
theorem dX8_lays_264 : decode cX8_lays 264 = .ok (.iload_n 1, 1) := by decide +kernel
theorem dX8_lays_265 : decode cX8_lays 265 = .ok (.aaload, 1) := by decide +kernel
theorem dX8_lays_266 : decode cX8_lays 266 = .ok (.iload 5, 2) := by decide +kernel
theorem dX8_lays_268 : decode cX8_lays 268 = .ok (.aload_n 0, 1) := by decide +kernel
theorem dX8_lays_269 : decode cX8_lays 269 = .ok (.getfield 77, 3) := by decide +kernel
theorem dX8_lays_272 : decode cX8_lays 272 = .ok (.iload 5, 2) := by decide +kernel
theorem dX8_lays_274 : decode cX8_lays 274 = .ok (.baload, 1) := by decide +kernel
theorem dX8_lays_275 : decode cX8_lays 275 = .ok (.bastore, 1) := by decide +kernel
theorem dX8_lays_276 : decode cX8_lays 276 = .ok (.iinc 5 1, 3) := by decide +kernel
theorem dX8_lays_279 : decode cX8_lays 279 = .ok (.goto (-28), 3) := by decide +kernel
theorem dX8_lays_282 : decode cX8_lays 282 = .ok (.aload_n 0, 1) := by decide +kernel
theorem dX8_lays_283 : decode cX8_lays 283 = .ok (.getfield 25, 3) := by decide +kernel
theorem dX8_lays_286 : decode cX8_lays 286 = .ok (.iload_n 1, 1) := by decide +kernel
theorem dX8_lays_287 : decode cX8_lays 287 = .ok (.aload_n 0, 1) := by decide +kernel
theorem dX8_lays_288 : decode cX8_lays 288 = .ok (.getfield 256, 3) := by decide +kernel
theorem dX8_lays_291 : decode cX8_lays 291 = .ok (.iastore, 1) := by decide +kernel
theorem dX8_lays_292 : decode cX8_lays 292 = .ok (.iconst 1, 1) := by decide +kernel
theorem dX8_lays_293 : decode cX8_lays 293 = .ok (.ireturn, 1) := by decide +kernel
abbrev rm_X8_lays : Room := { frames := 123, cells := 0, slots := 0, locals := 2949 }
def f_X8_lays_L101 (cy : Nat → ClassId) (k51 : Nat → Int32 → Int32 → Int32 → Mem → Option (Int32 × Mem)) (a0 : Nat) (a1 : Int32) (a2 : Int32) (a3 : Int32) (μ : Mem) : Option (Int32 × Mem) :=
  (rdR μ a0 7 21).bind fun q101 => (rdR μ q101 6 3).bind fun q103 => (rdA cy μ 1 q103 a3).bind fun v105 => k51 a0 a1 a2 v105 μ
set_option maxRecDepth 100000 in
set_option maxHeartbeats 4000000 in
theorem w_X8_lays_L101 {p : Program} {l : Launch} {e : Env} {s : State} {m : MethodId} {args : Array Value} {below : List Frame} {meth : Method} {c : Code} {A : Nat → Prop} {g : Wg} {L : List Nat} {r : Int32} {μ' : Mem} (hC : CX p m c cX8_lays 6 s args RX8) (hr : meth.sig.returnType = (some .boolean)) (hlocks : meth.locks = false) {k51 : Nat → Int32 → Int32 → Int32 → Mem → Option (Int32 × Mem)} (hk51 : ∀ (a0 : Nat) (a1 : Int32) (a2 : Int32) (a3 : Int32) (μ : Mem) (H : Heap) (locs : List Loc) (ls : Array Slot), lv_has ls 6 [(0, .ref a0), (1, .int a1), (2, .int a2), (3, .int a3)] → PW g L μ A s H locs → k51 a0 a1 a2 a3 μ = some (r, μ') → W p l e rm_X8_lays s m args below meth c H locs 0 0 (MQ below (QI g L A r μ') args s 0 0 A) (F0 m 51 ls [])) : ∀ (a0 : Nat) (a1 : Int32) (a2 : Int32) (a3 : Int32) (μ : Mem) (H : Heap) (locs : List Loc) (ls : Array Slot), lv_has ls 6 [(0, .ref a0), (1, .int a1), (2, .int a2), (3, .int a3)] → PW g L μ A s H locs → f_X8_lays_L101 g.2 k51 a0 a1 a2 a3 μ = some (r, μ') → W p l e rm_X8_lays s m args below meth c H locs 0 0 (MQ below (QI g L A r μ') args s 0 0 A) (F0 m 101 ls []) := by
  have hx := hC.1
  have hb := hC.2.1
  intro a0 a1 a2 a3 μ H locs ls hl hw hf
  unfold f_X8_lays_L101 at hf
  refine lv_aload_n hx hb dX8_lays_101 rfl (lv_at hl 0 rfl) ?_
  obtain ⟨q101, h102, hf⟩ := o_bind hf
  refine pw_get hC fl_X8_67 hw (rdR_F h102) dX8_lays_102 ?_
  obtain ⟨q103, h104, hf⟩ := o_bind hf
  refine pw_get hC fl_X8_319 hw (rdR_F h104) dX8_lays_105 ?_
  refine lv_iload_n hx hb dX8_lays_108 rfl (lv_at hl 3 rfl) ?_
  obtain ⟨v105, h106, hf⟩ := o_bind hf
  refine pw_iald hC hw h106 dX8_lays_109 ?_
  refine lv_istore_n (lv' := [(3, .int v105), (0, .ref a0), (1, .int a1), (2, .int a2)]) hx hb dX8_lays_110 rfl hl (by decide) rfl (fun ls hl => ?_)
  refine lv_goto (tgt := 51) hx hb dX8_lays_111 (by decide) ?_
  exact hk51 _ _ _ _ _ _ _ ls (lv_sub hl [1, 2, 3, 0] rfl) hw hf
def f_X8_lays_L194 (cy : Nat → ClassId) (k144 : Nat → Int32 → Int32 → Int32 → Int32 → Mem → Option (Int32 × Mem)) (a0 : Nat) (a1 : Int32) (a2 : Int32) (a3 : Int32) (a4 : Int32) (μ : Mem) : Option (Int32 × Mem) :=
  k144 a0 a1 a2 (a3 + 1) a4 μ
set_option maxRecDepth 100000 in
set_option maxHeartbeats 4000000 in
theorem w_X8_lays_L194 {p : Program} {l : Launch} {e : Env} {s : State} {m : MethodId} {args : Array Value} {below : List Frame} {meth : Method} {c : Code} {A : Nat → Prop} {g : Wg} {L : List Nat} {r : Int32} {μ' : Mem} (hC : CX p m c cX8_lays 6 s args RX8) (hr : meth.sig.returnType = (some .boolean)) (hlocks : meth.locks = false) {k144 : Nat → Int32 → Int32 → Int32 → Int32 → Mem → Option (Int32 × Mem)} (hk144 : ∀ (a0 : Nat) (a1 : Int32) (a2 : Int32) (a3 : Int32) (a4 : Int32) (μ : Mem) (H : Heap) (locs : List Loc) (ls : Array Slot), lv_has ls 6 [(0, .ref a0), (1, .int a1), (2, .int a2), (3, .int a3), (4, .int a4)] → PW g L μ A s H locs → k144 a0 a1 a2 a3 a4 μ = some (r, μ') → W p l e rm_X8_lays s m args below meth c H locs 0 0 (MQ below (QI g L A r μ') args s 0 0 A) (F0 m 144 ls [])) : ∀ (a0 : Nat) (a1 : Int32) (a2 : Int32) (a3 : Int32) (a4 : Int32) (μ : Mem) (H : Heap) (locs : List Loc) (ls : Array Slot), lv_has ls 6 [(0, .ref a0), (1, .int a1), (2, .int a2), (3, .int a3), (4, .int a4)] → PW g L μ A s H locs → f_X8_lays_L194 g.2 k144 a0 a1 a2 a3 a4 μ = some (r, μ') → W p l e rm_X8_lays s m args below meth c H locs 0 0 (MQ below (QI g L A r μ') args s 0 0 A) (F0 m 194 ls []) := by
  have hx := hC.1
  have hb := hC.2.1
  intro a0 a1 a2 a3 a4 μ H locs ls hl hw hf
  unfold f_X8_lays_L194 at hf
  refine lv_iinc (v := (a3 + 1)) (lv' := [(3, .int (a3 + 1)), (0, .ref a0), (1, .int a1), (2, .int a2), (4, .int a4)]) hx hb dX8_lays_194 hl (k := 3) rfl (by first | rfl | decide +kernel) (by decide) rfl (fun ls hl => ?_)
  refine lv_goto (tgt := 144) hx hb dX8_lays_197 (by decide) ?_
  exact hk144 _ _ _ _ _ _ _ _ ls (lv_sub hl [1, 2, 3, 0, 4] rfl) hw hf
def f_X8_lays_L251 (cy : Nat → ClassId) : Nat → Nat → Int32 → Int32 → Mem → Option (Int32 × Mem)
  | 0, _, _, _, _ => none
  | n + 1, a0, a1, a5, μ => (rdI μ a0 7 27).bind fun v101 => if v101 ≤ a5 then ((rdR μ a0 7 6).bind fun q104 => (rdI μ a0 7 27).bind fun v106 => (wrA cy μ 1 q104 a1 v106).bind fun μ108 => some (1, μ108)) else (rdR μ a0 7 5).bind fun q110 => (rdQ cy μ 5 q110 a1).bind fun q112 => (rdR μ a0 7 26).bind fun q114 => (rdA cy μ 0 q114 a5).bind fun v116 => (wrA cy μ 0 q112 a5 (vp_nar .byte v116)).bind fun μ118 => f_X8_lays_L251 cy n a0 a1 (a5 + 1) μ118
set_option maxRecDepth 100000 in
set_option maxHeartbeats 4000000 in
theorem w_X8_lays_L251 {p : Program} {l : Launch} {e : Env} {s : State} {m : MethodId} {args : Array Value} {below : List Frame} {meth : Method} {c : Code} {A : Nat → Prop} {g : Wg} {L : List Nat} {r : Int32} {μ' : Mem} (hC : CX p m c cX8_lays 6 s args RX8) (hr : meth.sig.returnType = (some .boolean)) (hlocks : meth.locks = false) : ∀ (n : Nat), ∀ (a0 : Nat) (a1 : Int32) (a5 : Int32) (μ : Mem) (H : Heap) (locs : List Loc) (ls : Array Slot), lv_has ls 6 [(0, .ref a0), (1, .int a1), (5, .int a5)] → PW g L μ A s H locs → f_X8_lays_L251 g.2 n a0 a1 a5 μ = some (r, μ') → W p l e rm_X8_lays s m args below meth c H locs 0 0 (MQ below (QI g L A r μ') args s 0 0 A) (F0 m 251 ls []) := by
  have hx := hC.1
  have hb := hC.2.1
  intro n
  induction n with
  | zero => intro a0 a1 a5 μ H locs ls hl hw hf; cases hf
  | succ n ih =>
    intro a0 a1 a5 μ H locs ls hl hw hf
    rw [f_X8_lays_L251] at hf
    refine lv_iload hx hb dX8_lays_251 (lv_at hl 2 rfl) ?_
    refine lv_aload_n hx hb dX8_lays_253 rfl (lv_at hl 0 rfl) ?_
    obtain ⟨v101, h102, hf⟩ := o_bind hf
    refine pw_get hC fl_X8_256 hw (rdI_F h102) dX8_lays_254 ?_
    refine lv_icmp_ge (tgt := 282) hx hb dX8_lays_257 (by decide) (fun c103 => ?_) (fun c103 => ?_)
    · have hf := o_pos c103 hf
      refine lv_aload_n hx hb dX8_lays_282 rfl (lv_at hl 0 rfl) ?_
      obtain ⟨q104, h105, hf⟩ := o_bind hf
      refine pw_get hC fl_X8_25 hw (rdR_F h105) dX8_lays_283 ?_
      refine lv_iload_n hx hb dX8_lays_286 rfl (lv_at hl 1 rfl) ?_
      refine lv_aload_n hx hb dX8_lays_287 rfl (lv_at hl 0 rfl) ?_
      obtain ⟨v106, h107, hf⟩ := o_bind hf
      refine pw_get hC fl_X8_256 hw (rdI_F h107) dX8_lays_288 ?_
      obtain ⟨μ108, h109, hf⟩ := o_bind hf
      refine pw_iast hC hw h109 dX8_lays_291 (fun H locs hw => ?_)
      refine lv_iconst (v := 1) hx hb dX8_lays_292 nc_iconst_1 ?_
      obtain ⟨rfl, rfl⟩ := o_ret hf
      exact pw_zret hC hr hlocks (Or.inr rfl) hw dX8_lays_293
    · have hf := o_neg c103 hf
      refine lv_aload_n hx hb dX8_lays_260 rfl (lv_at hl 0 rfl) ?_
      obtain ⟨q110, h111, hf⟩ := o_bind hf
      refine pw_get hC fl_X8_22 hw (rdR_F h111) dX8_lays_261 ?_
      refine lv_iload_n hx hb dX8_lays_264 rfl (lv_at hl 1 rfl) ?_
      obtain ⟨q112, h113, hf⟩ := o_bind hf
      refine pw_aald hC hw 5 rfl rfl h113 dX8_lays_265 ?_
      refine lv_iload hx hb dX8_lays_266 (lv_at hl 2 rfl) ?_
      refine lv_aload_n hx hb dX8_lays_268 rfl (lv_at hl 0 rfl) ?_
      obtain ⟨q114, h115, hf⟩ := o_bind hf
      refine pw_get hC fl_X8_77 hw (rdR_F h115) dX8_lays_269 ?_
      refine lv_iload hx hb dX8_lays_272 (lv_at hl 2 rfl) ?_
      obtain ⟨v116, h117, hf⟩ := o_bind hf
      refine pw_bald hC hw h117 dX8_lays_274 ?_
      obtain ⟨μ118, h119, hf⟩ := o_bind hf
      refine pw_bast hC hw h119 dX8_lays_275 (fun H locs hw => ?_)
      refine lv_iinc (v := (a5 + 1)) (lv' := [(5, .int (a5 + 1)), (0, .ref a0), (1, .int a1)]) hx hb dX8_lays_276 hl (k := 2) rfl (by first | rfl | decide +kernel) (by decide) rfl (fun ls hl => ?_)
      refine lv_goto (tgt := 251) hx hb dX8_lays_279 (by decide) ?_
      exact ih _ _ _ _ _ _ ls (lv_sub hl [1, 2, 0] rfl) hw hf
def f_X8_lays_L216 (cy : Nat → ClassId) (a0 : Nat) (a1 : Int32) (a2 : Int32) (t0 : Nat) (t1 : Int32) (t2 : Int32) (μ : Mem) : Option (Int32 × Mem) :=
  (wrA cy μ 1 t0 t1 t2).bind fun μ101 => (rdR μ101 a0 7 18).bind fun q103 => (wrA cy μ101 1 q103 1 a2).bind fun μ105 => (rdR μ105 a0 7 18).bind fun q107 => (rdI μ105 a0 7 27).bind fun v109 => (rdR μ105 a0 7 6).bind fun q111 => (rdA cy μ105 1 q111 a1).bind fun v113 => (wrA cy μ105 1 q107 2 (v109 - v113)).bind fun μ115 => (rdR μ115 a0 7 18).bind fun q117 => (wrA cy μ115 1 q117 3 a1).bind fun μ119 => f_X8_lays_L251 cy FU a0 a1 0 μ119
set_option maxRecDepth 100000 in
set_option maxHeartbeats 4000000 in
theorem w_X8_lays_L216 {p : Program} {l : Launch} {e : Env} {s : State} {m : MethodId} {args : Array Value} {below : List Frame} {meth : Method} {c : Code} {A : Nat → Prop} {g : Wg} {L : List Nat} {r : Int32} {μ' : Mem} (hC : CX p m c cX8_lays 6 s args RX8) (hr : meth.sig.returnType = (some .boolean)) (hlocks : meth.locks = false) : ∀ (a0 : Nat) (a1 : Int32) (a2 : Int32) (t0 : Nat) (t1 : Int32) (t2 : Int32) (μ : Mem) (H : Heap) (locs : List Loc) (ls : Array Slot), lv_has ls 6 [(0, .ref a0), (1, .int a1), (2, .int a2)] → PW g L μ A s H locs → f_X8_lays_L216 g.2 a0 a1 a2 t0 t1 t2 μ = some (r, μ') → W p l e rm_X8_lays s m args below meth c H locs 0 0 (MQ below (QI g L A r μ') args s 0 0 A) (F0 m 216 ls [.int t2, .int t1, .ref t0]) := by
  have hx := hC.1
  have hb := hC.2.1
  intro a0 a1 a2 t0 t1 t2 μ H locs ls hl hw hf
  unfold f_X8_lays_L216 at hf
  obtain ⟨μ101, h102, hf⟩ := o_bind hf
  refine pw_iast hC hw h102 dX8_lays_216 (fun H locs hw => ?_)
  refine lv_aload_n hx hb dX8_lays_217 rfl (lv_at hl 0 rfl) ?_
  obtain ⟨q103, h104, hf⟩ := o_bind hf
  refine pw_get hC fl_X8_55 hw (rdR_F h104) dX8_lays_218 ?_
  refine lv_iconst (v := 1) hx hb dX8_lays_221 nc_iconst_1 ?_
  refine lv_iload_n hx hb dX8_lays_222 rfl (lv_at hl 2 rfl) ?_
  obtain ⟨μ105, h106, hf⟩ := o_bind hf
  refine pw_iast hC hw h106 dX8_lays_223 (fun H locs hw => ?_)
  refine lv_aload_n hx hb dX8_lays_224 rfl (lv_at hl 0 rfl) ?_
  obtain ⟨q107, h108, hf⟩ := o_bind hf
  refine pw_get hC fl_X8_55 hw (rdR_F h108) dX8_lays_225 ?_
  refine lv_iconst (v := 2) hx hb dX8_lays_228 nc_iconst_2 ?_
  refine lv_aload_n hx hb dX8_lays_229 rfl (lv_at hl 0 rfl) ?_
  obtain ⟨v109, h110, hf⟩ := o_bind hf
  refine pw_get hC fl_X8_256 hw (rdI_F h110) dX8_lays_230 ?_
  refine lv_aload_n hx hb dX8_lays_233 rfl (lv_at hl 0 rfl) ?_
  obtain ⟨q111, h112, hf⟩ := o_bind hf
  refine pw_get hC fl_X8_25 hw (rdR_F h112) dX8_lays_234 ?_
  refine lv_iload_n hx hb dX8_lays_237 rfl (lv_at hl 1 rfl) ?_
  obtain ⟨v113, h114, hf⟩ := o_bind hf
  refine pw_iald hC hw h114 dX8_lays_238 ?_
  refine lv_isub hx hb dX8_lays_239 ?_
  obtain ⟨μ115, h116, hf⟩ := o_bind hf
  refine pw_iast hC hw h116 dX8_lays_240 (fun H locs hw => ?_)
  refine lv_aload_n hx hb dX8_lays_241 rfl (lv_at hl 0 rfl) ?_
  obtain ⟨q117, h118, hf⟩ := o_bind hf
  refine pw_get hC fl_X8_55 hw (rdR_F h118) dX8_lays_242 ?_
  refine lv_iconst (v := 3) hx hb dX8_lays_245 nc_iconst_3 ?_
  refine lv_iload_n hx hb dX8_lays_246 rfl (lv_at hl 1 rfl) ?_
  obtain ⟨μ119, h120, hf⟩ := o_bind hf
  refine pw_iast hC hw h120 dX8_lays_247 (fun H locs hw => ?_)
  refine lv_iconst (v := 0) hx hb dX8_lays_248 nc_iconst_0 ?_
  refine lv_istore (lv' := [(5, .int 0), (0, .ref a0), (1, .int a1), (2, .int a2)]) hx hb dX8_lays_249 hl (by decide) rfl (fun ls hl => ?_)
  exact w_X8_lays_L251 hC hr hlocks FU _ _ _ _ _ _ ls (lv_sub hl [1, 2, 0] rfl) hw hf
def f_X8_lays_L200 (cy : Nat → ClassId) (a0 : Nat) (a1 : Int32) (a2 : Int32) (a3 : Int32) (a4 : Int32) (μ : Mem) : Option (Int32 × Mem) :=
  (rdR μ a0 7 18).bind fun q101 => if a4 ≤ a3 then (f_X8_lays_L216 cy a0 a1 a2 q101 0 (-1) μ) else f_X8_lays_L216 cy a0 a1 a2 q101 0 a3 μ
set_option maxRecDepth 100000 in
set_option maxHeartbeats 4000000 in
theorem w_X8_lays_L200 {p : Program} {l : Launch} {e : Env} {s : State} {m : MethodId} {args : Array Value} {below : List Frame} {meth : Method} {c : Code} {A : Nat → Prop} {g : Wg} {L : List Nat} {r : Int32} {μ' : Mem} (hC : CX p m c cX8_lays 6 s args RX8) (hr : meth.sig.returnType = (some .boolean)) (hlocks : meth.locks = false) : ∀ (a0 : Nat) (a1 : Int32) (a2 : Int32) (a3 : Int32) (a4 : Int32) (μ : Mem) (H : Heap) (locs : List Loc) (ls : Array Slot), lv_has ls 6 [(0, .ref a0), (1, .int a1), (2, .int a2), (3, .int a3), (4, .int a4)] → PW g L μ A s H locs → f_X8_lays_L200 g.2 a0 a1 a2 a3 a4 μ = some (r, μ') → W p l e rm_X8_lays s m args below meth c H locs 0 0 (MQ below (QI g L A r μ') args s 0 0 A) (F0 m 200 ls []) := by
  have hx := hC.1
  have hb := hC.2.1
  intro a0 a1 a2 a3 a4 μ H locs ls hl hw hf
  unfold f_X8_lays_L200 at hf
  refine lv_aload_n hx hb dX8_lays_200 rfl (lv_at hl 0 rfl) ?_
  obtain ⟨q101, h102, hf⟩ := o_bind hf
  refine pw_get hC fl_X8_55 hw (rdR_F h102) dX8_lays_201 ?_
  refine lv_iconst (v := 0) hx hb dX8_lays_204 nc_iconst_0 ?_
  refine lv_iload_n hx hb dX8_lays_205 rfl (lv_at hl 3 rfl) ?_
  refine lv_iload hx hb dX8_lays_206 (lv_at hl 4 rfl) ?_
  refine lv_icmp_ge (tgt := 215) hx hb dX8_lays_208 (by decide) (fun c103 => ?_) (fun c103 => ?_)
  · have hf := o_pos c103 hf
    refine lv_iconst (v := (-1)) hx hb dX8_lays_215 nc_iconst_m1 ?_
    exact w_X8_lays_L216 hC hr hlocks _ _ _ _ _ _ _ _ _ ls (lv_sub hl [0, 1, 2] rfl) hw hf
  · have hf := o_neg c103 hf
    refine lv_iload_n hx hb dX8_lays_211 rfl (lv_at hl 3 rfl) ?_
    refine lv_goto (tgt := 216) hx hb dX8_lays_212 (by decide) ?_
    exact w_X8_lays_L216 hC hr hlocks _ _ _ _ _ _ _ _ _ ls (lv_sub hl [0, 1, 2] rfl) hw hf
def f_X8_lays_L144 (cy : Nat → ClassId) : Nat → Nat → Int32 → Int32 → Int32 → Int32 → Mem → Option (Int32 × Mem)
  | 0, _, _, _, _, _, _ => none
  | n + 1, a0, a1, a2, a3, a4, μ => if a4 ≤ a3 then (f_X8_lays_L200 cy a0 a1 a2 a3 a4 μ) else (rdR μ a0 7 41).bind fun q102 => (rdA cy μ 2 q102 a3).bind fun v104 => if v104 = 0 then ((rdI μ a0 7 27).bind fun v107 => if v107 ≤ a3 then (f_X8_lays_L200 cy a0 a1 a2 a3 a4 μ) else (rdR μ a0 7 6).bind fun q110 => (rdA cy μ 1 q110 a1).bind fun v112 => if v112 ≤ a3 then (f_X8_lays_L200 cy a0 a1 a2 a3 a4 μ) else (rdR μ a0 7 26).bind fun q115 => (rdA cy μ 0 q115 a3).bind fun v117 => (rdR μ a0 7 5).bind fun q119 => (rdQ cy μ 5 q119 a1).bind fun q121 => (rdA cy μ 0 q121 a3).bind fun v123 => if v117 = v123 then (f_X8_lays_L194 cy (f_X8_lays_L144 cy n) a0 a1 a2 a3 a4 μ) else f_X8_lays_L200 cy a0 a1 a2 a3 a4 μ) else f_X8_lays_L194 cy (f_X8_lays_L144 cy n) a0 a1 a2 a3 a4 μ
set_option maxRecDepth 100000 in
set_option maxHeartbeats 4000000 in
theorem w_X8_lays_L144 {p : Program} {l : Launch} {e : Env} {s : State} {m : MethodId} {args : Array Value} {below : List Frame} {meth : Method} {c : Code} {A : Nat → Prop} {g : Wg} {L : List Nat} {r : Int32} {μ' : Mem} (hC : CX p m c cX8_lays 6 s args RX8) (hr : meth.sig.returnType = (some .boolean)) (hlocks : meth.locks = false) : ∀ (n : Nat), ∀ (a0 : Nat) (a1 : Int32) (a2 : Int32) (a3 : Int32) (a4 : Int32) (μ : Mem) (H : Heap) (locs : List Loc) (ls : Array Slot), lv_has ls 6 [(0, .ref a0), (1, .int a1), (2, .int a2), (3, .int a3), (4, .int a4)] → PW g L μ A s H locs → f_X8_lays_L144 g.2 n a0 a1 a2 a3 a4 μ = some (r, μ') → W p l e rm_X8_lays s m args below meth c H locs 0 0 (MQ below (QI g L A r μ') args s 0 0 A) (F0 m 144 ls []) := by
  have hx := hC.1
  have hb := hC.2.1
  intro n
  induction n with
  | zero => intro a0 a1 a2 a3 a4 μ H locs ls hl hw hf; cases hf
  | succ n ih =>
    intro a0 a1 a2 a3 a4 μ H locs ls hl hw hf
    rw [f_X8_lays_L144] at hf
    refine lv_iload_n hx hb dX8_lays_144 rfl (lv_at hl 3 rfl) ?_
    refine lv_iload hx hb dX8_lays_145 (lv_at hl 4 rfl) ?_
    refine lv_icmp_ge (tgt := 200) hx hb dX8_lays_147 (by decide) (fun c101 => ?_) (fun c101 => ?_)
    · have hf := o_pos c101 hf
      exact w_X8_lays_L200 hC hr hlocks _ _ _ _ _ _ _ _ ls (lv_sub hl [0, 1, 2, 3, 4] rfl) hw hf
    · have hf := o_neg c101 hf
      refine lv_aload_n hx hb dX8_lays_150 rfl (lv_at hl 0 rfl) ?_
      obtain ⟨q102, h103, hf⟩ := o_bind hf
      refine pw_get hC fl_X8_83 hw (rdR_F h103) dX8_lays_151 ?_
      refine lv_iload_n hx hb dX8_lays_154 rfl (lv_at hl 3 rfl) ?_
      obtain ⟨v104, h105, hf⟩ := o_bind hf
      refine pw_zald hC hw h105 dX8_lays_155 ?_
      refine lv_if_ne (tgt := 194) hx hb dX8_lays_156 (by decide) (fun c106 => ?_) (fun c106 => ?_)
      · have hf := o_neg c106 hf
        exact w_X8_lays_L194 hC hr hlocks ih _ _ _ _ _ _ _ _ ls (lv_sub hl [0, 1, 2, 3, 4] rfl) hw hf
      · have hf := o_pos c106 hf
        refine lv_iload_n hx hb dX8_lays_159 rfl (lv_at hl 3 rfl) ?_
        refine lv_aload_n hx hb dX8_lays_160 rfl (lv_at hl 0 rfl) ?_
        obtain ⟨v107, h108, hf⟩ := o_bind hf
        refine pw_get hC fl_X8_256 hw (rdI_F h108) dX8_lays_161 ?_
        refine lv_icmp_ge (tgt := 200) hx hb dX8_lays_164 (by decide) (fun c109 => ?_) (fun c109 => ?_)
        · have hf := o_pos c109 hf
          exact w_X8_lays_L200 hC hr hlocks _ _ _ _ _ _ _ _ ls (lv_sub hl [0, 1, 2, 3, 4] rfl) hw hf
        · have hf := o_neg c109 hf
          refine lv_iload_n hx hb dX8_lays_167 rfl (lv_at hl 3 rfl) ?_
          refine lv_aload_n hx hb dX8_lays_168 rfl (lv_at hl 0 rfl) ?_
          obtain ⟨q110, h111, hf⟩ := o_bind hf
          refine pw_get hC fl_X8_25 hw (rdR_F h111) dX8_lays_169 ?_
          refine lv_iload_n hx hb dX8_lays_172 rfl (lv_at hl 1 rfl) ?_
          obtain ⟨v112, h113, hf⟩ := o_bind hf
          refine pw_iald hC hw h113 dX8_lays_173 ?_
          refine lv_icmp_ge (tgt := 200) hx hb dX8_lays_174 (by decide) (fun c114 => ?_) (fun c114 => ?_)
          · have hf := o_pos c114 hf
            exact w_X8_lays_L200 hC hr hlocks _ _ _ _ _ _ _ _ ls (lv_sub hl [0, 1, 2, 3, 4] rfl) hw hf
          · have hf := o_neg c114 hf
            refine lv_aload_n hx hb dX8_lays_177 rfl (lv_at hl 0 rfl) ?_
            obtain ⟨q115, h116, hf⟩ := o_bind hf
            refine pw_get hC fl_X8_77 hw (rdR_F h116) dX8_lays_178 ?_
            refine lv_iload_n hx hb dX8_lays_181 rfl (lv_at hl 3 rfl) ?_
            obtain ⟨v117, h118, hf⟩ := o_bind hf
            refine pw_bald hC hw h118 dX8_lays_182 ?_
            refine lv_aload_n hx hb dX8_lays_183 rfl (lv_at hl 0 rfl) ?_
            obtain ⟨q119, h120, hf⟩ := o_bind hf
            refine pw_get hC fl_X8_22 hw (rdR_F h120) dX8_lays_184 ?_
            refine lv_iload_n hx hb dX8_lays_187 rfl (lv_at hl 1 rfl) ?_
            obtain ⟨q121, h122, hf⟩ := o_bind hf
            refine pw_aald hC hw 5 rfl rfl h122 dX8_lays_188 ?_
            refine lv_iload_n hx hb dX8_lays_189 rfl (lv_at hl 3 rfl) ?_
            obtain ⟨v123, h124, hf⟩ := o_bind hf
            refine pw_bald hC hw h124 dX8_lays_190 ?_
            refine lv_icmp_ne (tgt := 200) hx hb dX8_lays_191 (by decide) (fun c125 => ?_) (fun c125 => ?_)
            · have hf := o_neg c125 hf
              exact w_X8_lays_L200 hC hr hlocks _ _ _ _ _ _ _ _ ls (lv_sub hl [0, 1, 2, 3, 4] rfl) hw hf
            · have hf := o_pos c125 hf
              exact w_X8_lays_L194 hC hr hlocks ih _ _ _ _ _ _ _ _ ls (lv_sub hl [0, 1, 2, 3, 4] rfl) hw hf
def f_X8_lays_L142 (cy : Nat → ClassId) (a0 : Nat) (a1 : Int32) (a2 : Int32) (a3 : Int32) (t0 : Int32) (μ : Mem) : Option (Int32 × Mem) :=
  f_X8_lays_L144 cy FU a0 a1 a2 a3 t0 μ
set_option maxRecDepth 100000 in
set_option maxHeartbeats 4000000 in
theorem w_X8_lays_L142 {p : Program} {l : Launch} {e : Env} {s : State} {m : MethodId} {args : Array Value} {below : List Frame} {meth : Method} {c : Code} {A : Nat → Prop} {g : Wg} {L : List Nat} {r : Int32} {μ' : Mem} (hC : CX p m c cX8_lays 6 s args RX8) (hr : meth.sig.returnType = (some .boolean)) (hlocks : meth.locks = false) : ∀ (a0 : Nat) (a1 : Int32) (a2 : Int32) (a3 : Int32) (t0 : Int32) (μ : Mem) (H : Heap) (locs : List Loc) (ls : Array Slot), lv_has ls 6 [(0, .ref a0), (1, .int a1), (2, .int a2), (3, .int a3)] → PW g L μ A s H locs → f_X8_lays_L142 g.2 a0 a1 a2 a3 t0 μ = some (r, μ') → W p l e rm_X8_lays s m args below meth c H locs 0 0 (MQ below (QI g L A r μ') args s 0 0 A) (F0 m 142 ls [.int t0]) := by
  have hx := hC.1
  have hb := hC.2.1
  intro a0 a1 a2 a3 t0 μ H locs ls hl hw hf
  unfold f_X8_lays_L142 at hf
  refine lv_istore (lv' := [(4, .int t0), (0, .ref a0), (1, .int a1), (2, .int a2), (3, .int a3)]) hx hb dX8_lays_142 hl (by decide) rfl (fun ls hl => ?_)
  exact w_X8_lays_L144 hC hr hlocks FU _ _ _ _ _ _ _ _ ls (lv_sub hl [1, 2, 3, 4, 0] rfl) hw hf
def f_X8_lays_L51 (cy : Nat → ClassId) : Nat → Nat → Int32 → Int32 → Int32 → Mem → Option (Int32 × Mem)
  | 0, _, _, _, _, _ => none
  | n + 1, a0, a1, a2, a3, μ => if a3 < 0 then ((rdI μ a0 7 27).bind fun v102 => (rdR μ a0 7 6).bind fun q104 => (rdA cy μ 1 q104 a1).bind fun v106 => if v102 ≤ v106 then ((rdR μ a0 7 6).bind fun q109 => (rdA cy μ 1 q109 a1).bind fun v111 => f_X8_lays_L142 cy a0 a1 a2 0 v111 μ) else (rdI μ a0 7 27).bind fun v113 => f_X8_lays_L142 cy a0 a1 a2 0 v113 μ) else (rdR μ a0 7 21).bind fun q115 => (rdR μ q115 6 10).bind fun q117 => (rdA cy μ 1 q117 a3).bind fun v119 => if isO μ a0 7 = true then (ob2 (f_X8_around cy a0 v119 μ) fun r124 μ123 => (rdR μ123 a0 7 21).bind fun q125 => (rdR μ123 q125 6 2).bind fun q127 => (rdA cy μ123 1 q127 a3).bind fun v129 => if v129 = 15 then ((rdR μ123 a0 7 21).bind fun q132 => (rdR μ123 q132 6 8).bind fun q134 => (rdA cy μ123 1 q134 a3).bind fun v136 => if isO μ123 a0 7 = true then (ob2 (f_X8_around cy a0 v136 μ123) fun r141 μ140 => f_X8_lays_L101 cy (f_X8_lays_L51 cy n) a0 a1 ((a2 + r124) + r141) a3 μ140) else none) else f_X8_lays_L101 cy (f_X8_lays_L51 cy n) a0 a1 (a2 + r124) a3 μ123) else none
set_option maxRecDepth 100000 in
set_option maxHeartbeats 4000000 in
theorem w_X8_lays_L51 {p : Program} {l : Launch} {e : Env} {s : State} {m : MethodId} {args : Array Value} {below : List Frame} {meth : Method} {c : Code} {A : Nat → Prop} {g : Wg} {L : List Nat} {r : Int32} {μ' : Mem} (hC : CX p m c cX8_lays 6 s args RX8) (hr : meth.sig.returnType = (some .boolean)) (hlocks : meth.locks = false) : ∀ (n : Nat), ∀ (a0 : Nat) (a1 : Int32) (a2 : Int32) (a3 : Int32) (μ : Mem) (H : Heap) (locs : List Loc) (ls : Array Slot), lv_has ls 6 [(0, .ref a0), (1, .int a1), (2, .int a2), (3, .int a3)] → PW g L μ A s H locs → f_X8_lays_L51 g.2 n a0 a1 a2 a3 μ = some (r, μ') → W p l e rm_X8_lays s m args below meth c H locs 0 0 (MQ below (QI g L A r μ') args s 0 0 A) (F0 m 51 ls []) := by
  have hx := hC.1
  have hb := hC.2.1
  intro n
  induction n with
  | zero => intro a0 a1 a2 a3 μ H locs ls hl hw hf; cases hf
  | succ n ih =>
    intro a0 a1 a2 a3 μ H locs ls hl hw hf
    rw [f_X8_lays_L51] at hf
    refine lv_iload_n hx hb dX8_lays_51 rfl (lv_at hl 3 rfl) ?_
    refine lv_if_lt (tgt := 114) hx hb dX8_lays_52 (by decide) (fun c101 => ?_) (fun c101 => ?_)
    · have hf := o_pos c101 hf
      refine lv_iconst (v := 0) hx hb dX8_lays_114 nc_iconst_0 ?_
      refine lv_istore_n (lv' := [(3, .int 0), (0, .ref a0), (1, .int a1), (2, .int a2)]) hx hb dX8_lays_115 rfl hl (by decide) rfl (fun ls hl => ?_)
      refine lv_aload_n hx hb dX8_lays_116 rfl (lv_at hl 1 rfl) ?_
      obtain ⟨v102, h103, hf⟩ := o_bind hf
      refine pw_get hC fl_X8_256 hw (rdI_F h103) dX8_lays_117 ?_
      refine lv_aload_n hx hb dX8_lays_120 rfl (lv_at hl 1 rfl) ?_
      obtain ⟨q104, h105, hf⟩ := o_bind hf
      refine pw_get hC fl_X8_25 hw (rdR_F h105) dX8_lays_121 ?_
      refine lv_iload_n hx hb dX8_lays_124 rfl (lv_at hl 2 rfl) ?_
      obtain ⟨v106, h107, hf⟩ := o_bind hf
      refine pw_iald hC hw h107 dX8_lays_125 ?_
      refine lv_icmp_le (tgt := 136) hx hb dX8_lays_126 (by decide) (fun c108 => ?_) (fun c108 => ?_)
      · have hf := o_pos c108 hf
        refine lv_aload_n hx hb dX8_lays_136 rfl (lv_at hl 1 rfl) ?_
        obtain ⟨q109, h110, hf⟩ := o_bind hf
        refine pw_get hC fl_X8_25 hw (rdR_F h110) dX8_lays_137 ?_
        refine lv_iload_n hx hb dX8_lays_140 rfl (lv_at hl 2 rfl) ?_
        obtain ⟨v111, h112, hf⟩ := o_bind hf
        refine pw_iald hC hw h112 dX8_lays_141 ?_
        exact w_X8_lays_L142 hC hr hlocks _ _ _ _ _ _ _ _ ls (lv_sub hl [1, 2, 3, 0] rfl) hw hf
      · have hf := o_neg c108 hf
        refine lv_aload_n hx hb dX8_lays_129 rfl (lv_at hl 1 rfl) ?_
        obtain ⟨v113, h114, hf⟩ := o_bind hf
        refine pw_get hC fl_X8_256 hw (rdI_F h114) dX8_lays_130 ?_
        refine lv_goto (tgt := 142) hx hb dX8_lays_133 (by decide) ?_
        exact w_X8_lays_L142 hC hr hlocks _ _ _ _ _ _ _ _ ls (lv_sub hl [1, 2, 3, 0] rfl) hw hf
    · have hf := o_neg c101 hf
      refine lv_iload_n hx hb dX8_lays_55 rfl (lv_at hl 2 rfl) ?_
      refine lv_aload_n hx hb dX8_lays_56 rfl (lv_at hl 0 rfl) ?_
      refine lv_aload_n hx hb dX8_lays_57 rfl (lv_at hl 0 rfl) ?_
      obtain ⟨q115, h116, hf⟩ := o_bind hf
      refine pw_get hC fl_X8_67 hw (rdR_F h116) dX8_lays_58 ?_
      obtain ⟨q117, h118, hf⟩ := o_bind hf
      refine pw_get hC fl_X8_222 hw (rdR_F h118) dX8_lays_61 ?_
      refine lv_iload_n hx hb dX8_lays_64 rfl (lv_at hl 3 rfl) ?_
      obtain ⟨v119, h120, hf⟩ := o_bind hf
      refine pw_iald hC hw h120 dX8_lays_65 ?_
      obtain ⟨h122, hf⟩ := o_ite hf
      obtain ⟨r124, μ123, h121, hf⟩ := o_bind2 hf
      refine pw_goI hw (pw_runV (As := [.int v119]) (rest := [.int a2]) hC mm_X8_around tw_1454 (c_X8_around h121 _) ⟨rfl, rfl, by decide, by decide⟩ hw h122 rfl hl.1 (Nat.le_of_ble_eq_true rfl) ⟨Nat.zero_le _, Nat.zero_le _⟩ rfl dX8_lays_66) (fun H locs hw => ?_)
      refine lv_iadd hx hb dX8_lays_69 ?_
      refine lv_istore_n (lv' := [(2, .int (a2 + r124)), (0, .ref a0), (1, .int a1), (3, .int a3)]) hx hb dX8_lays_70 rfl hl (by decide) rfl (fun ls hl => ?_)
      refine lv_aload_n hx hb dX8_lays_71 rfl (lv_at hl 1 rfl) ?_
      obtain ⟨q125, h126, hf⟩ := o_bind hf
      refine pw_get hC fl_X8_67 hw (rdR_F h126) dX8_lays_72 ?_
      obtain ⟨q127, h128, hf⟩ := o_bind hf
      refine pw_get hC fl_X8_228 hw (rdR_F h128) dX8_lays_75 ?_
      refine lv_iload_n hx hb dX8_lays_78 rfl (lv_at hl 3 rfl) ?_
      obtain ⟨v129, h130, hf⟩ := o_bind hf
      refine pw_iald hC hw h130 dX8_lays_79 ?_
      refine lv_bipush (v := 15) hx hb dX8_lays_80 nc_bipush_15 ?_
      refine lv_icmp_ne (tgt := 101) hx hb dX8_lays_82 (by decide) (fun c131 => ?_) (fun c131 => ?_)
      · have hf := o_neg c131 hf
        exact w_X8_lays_L101 hC hr hlocks ih _ _ _ _ _ _ _ ls (lv_sub hl [1, 2, 0, 3] rfl) hw hf
      · have hf := o_pos c131 hf
        refine lv_iload_n hx hb dX8_lays_85 rfl (lv_at hl 0 rfl) ?_
        refine lv_aload_n hx hb dX8_lays_86 rfl (lv_at hl 1 rfl) ?_
        refine lv_aload_n hx hb dX8_lays_87 rfl (lv_at hl 1 rfl) ?_
        obtain ⟨q132, h133, hf⟩ := o_bind hf
        refine pw_get hC fl_X8_67 hw (rdR_F h133) dX8_lays_88 ?_
        obtain ⟨q134, h135, hf⟩ := o_bind hf
        refine pw_get hC fl_X8_231 hw (rdR_F h135) dX8_lays_91 ?_
        refine lv_iload_n hx hb dX8_lays_94 rfl (lv_at hl 3 rfl) ?_
        obtain ⟨v136, h137, hf⟩ := o_bind hf
        refine pw_iald hC hw h137 dX8_lays_95 ?_
        obtain ⟨h139, hf⟩ := o_ite hf
        obtain ⟨r141, μ140, h138, hf⟩ := o_bind2 hf
        refine pw_goI hw (pw_runV (As := [.int v136]) (rest := [.int (a2 + r124)]) hC mm_X8_around tw_1454 (c_X8_around h138 _) ⟨rfl, rfl, by decide, by decide⟩ hw h139 rfl hl.1 (Nat.le_of_ble_eq_true rfl) ⟨Nat.zero_le _, Nat.zero_le _⟩ rfl dX8_lays_96) (fun H locs hw => ?_)
        refine lv_iadd hx hb dX8_lays_99 ?_
        refine lv_istore_n (lv' := [(2, .int ((a2 + r124) + r141)), (0, .ref a0), (1, .int a1), (3, .int a3)]) hx hb dX8_lays_100 rfl hl (by decide) rfl (fun ls hl => ?_)
        exact w_X8_lays_L101 hC hr hlocks ih _ _ _ _ _ _ _ ls (lv_sub hl [1, 2, 0, 3] rfl) hw hf
def f_X8_lays_L24 (cy : Nat → ClassId) : Nat → Nat → Int32 → Int32 → Mem → Option (Int32 × Mem)
  | 0, _, _, _, _ => none
  | n + 1, a0, a1, a2, μ => if 2400 ≤ a2 then ((rdI μ a0 7 28).bind fun v102 => f_X8_lays_L51 cy FU a0 a1 0 v102 μ) else (rdR μ a0 7 41).bind fun q104 => (wrA cy μ 2 q104 a2 (vp_nar .boolean 0)).bind fun μ106 => f_X8_lays_L24 cy n a0 a1 (a2 + 1) μ106
set_option maxRecDepth 100000 in
set_option maxHeartbeats 4000000 in
theorem w_X8_lays_L24 {p : Program} {l : Launch} {e : Env} {s : State} {m : MethodId} {args : Array Value} {below : List Frame} {meth : Method} {c : Code} {A : Nat → Prop} {g : Wg} {L : List Nat} {r : Int32} {μ' : Mem} (hC : CX p m c cX8_lays 6 s args RX8) (hr : meth.sig.returnType = (some .boolean)) (hlocks : meth.locks = false) : ∀ (n : Nat), ∀ (a0 : Nat) (a1 : Int32) (a2 : Int32) (μ : Mem) (H : Heap) (locs : List Loc) (ls : Array Slot), lv_has ls 6 [(0, .ref a0), (1, .int a1), (2, .int a2)] → PW g L μ A s H locs → f_X8_lays_L24 g.2 n a0 a1 a2 μ = some (r, μ') → W p l e rm_X8_lays s m args below meth c H locs 0 0 (MQ below (QI g L A r μ') args s 0 0 A) (F0 m 24 ls []) := by
  have hx := hC.1
  have hb := hC.2.1
  intro n
  induction n with
  | zero => intro a0 a1 a2 μ H locs ls hl hw hf; cases hf
  | succ n ih =>
    intro a0 a1 a2 μ H locs ls hl hw hf
    rw [f_X8_lays_L24] at hf
    refine lv_iload_n hx hb dX8_lays_24 rfl (lv_at hl 2 rfl) ?_
    refine lv_sipush (v := 2400) hx hb dX8_lays_25 nc_sipush_2400 ?_
    refine lv_icmp_ge (tgt := 44) hx hb dX8_lays_28 (by decide) (fun c101 => ?_) (fun c101 => ?_)
    · have hf := o_pos c101 hf
      refine lv_iconst (v := 0) hx hb dX8_lays_44 nc_iconst_0 ?_
      refine lv_istore_n (lv' := [(2, .int 0), (0, .ref a0), (1, .int a1)]) hx hb dX8_lays_45 rfl hl (by decide) rfl (fun ls hl => ?_)
      refine lv_aload_n hx hb dX8_lays_46 rfl (lv_at hl 1 rfl) ?_
      obtain ⟨v102, h103, hf⟩ := o_bind hf
      refine pw_get hC fl_X8_262 hw (rdI_F h103) dX8_lays_47 ?_
      refine lv_istore_n (lv' := [(3, .int v102), (2, .int 0), (0, .ref a0), (1, .int a1)]) hx hb dX8_lays_50 rfl hl (by decide) rfl (fun ls hl => ?_)
      exact w_X8_lays_L51 hC hr hlocks FU _ _ _ _ _ _ _ ls (lv_sub hl [2, 3, 1, 0] rfl) hw hf
    · have hf := o_neg c101 hf
      refine lv_aload_n hx hb dX8_lays_31 rfl (lv_at hl 0 rfl) ?_
      obtain ⟨q104, h105, hf⟩ := o_bind hf
      refine pw_get hC fl_X8_83 hw (rdR_F h105) dX8_lays_32 ?_
      refine lv_iload_n hx hb dX8_lays_35 rfl (lv_at hl 2 rfl) ?_
      refine lv_iconst (v := 0) hx hb dX8_lays_36 nc_iconst_0 ?_
      obtain ⟨μ106, h107, hf⟩ := o_bind hf
      refine pw_zast hC hw h107 dX8_lays_37 (fun H locs hw => ?_)
      refine lv_iinc (v := (a2 + 1)) (lv' := [(2, .int (a2 + 1)), (0, .ref a0), (1, .int a1)]) hx hb dX8_lays_38 hl (k := 2) rfl (by first | rfl | decide +kernel) (by decide) rfl (fun ls hl => ?_)
      refine lv_goto (tgt := 24) hx hb dX8_lays_41 (by decide) ?_
      exact ih _ _ _ _ _ _ ls (lv_sub hl [1, 2, 0] rfl) hw hf
def f_X8_lays (cy : Nat → ClassId) (a0 : Nat) (a1 : Int32) (μ : Mem) : Option (Int32 × Mem) :=
  (wrF μ a0 7 27 (.int 0)).bind fun μ1 => if isO μ1 a0 7 = true then ((f_X8_writeDoc cy DP a0 0 μ1).bind fun μ5 => (rdI μ5 a0 7 27).bind fun v6 => if v6 ≤ 2400 then (f_X8_lays_L24 cy FU a0 a1 0 μ5) else some (0, μ5)) else none
set_option maxRecDepth 100000 in
set_option maxHeartbeats 4000000 in
theorem c_X8_lays {l : Launch} {g : Wg} {L : List Nat} {μ : Mem} {a0 : Nat} {a1 : Int32} {r : Int32} {μ' : Mem} (hf : f_X8_lays g.2 a0 a1 μ = some (r, μ')) : MetI l yX8_lays cX8_lays 6 (some .boolean) rm_X8_lays g L μ [.ref a0, .int a1] r μ' := by
  refine pw_met (Qc := fun A => QI g L A r μ') (by decide) (Nat.le_of_ble_eq_true rfl) ?_
  intro p e s m args below meth c A ls H locs hC hr hlocks hl hw
  have hx := hC.1
  have hb := hC.2.1
  have hl : lv_has ls 6 [(0, .ref a0), (1, .int a1)] := hl
  unfold f_X8_lays at hf
  refine lv_aload_n hx hb dX8_lays_0 rfl (lv_at hl 0 rfl) ?_
  refine lv_iconst (v := 0) hx hb dX8_lays_1 nc_iconst_0 ?_
  obtain ⟨μ1, h2, hf⟩ := o_bind hf
  refine pw_put hC fl_X8_256 hw h2 .int fd_X8_27 rfl rfl dX8_lays_2 (fun H locs hw => ?_)
  refine lv_aload_n hx hb dX8_lays_5 rfl (lv_at hl 0 rfl) ?_
  refine lv_iconst (v := 0) hx hb dX8_lays_6 nc_iconst_0 ?_
  obtain ⟨h4, hf⟩ := o_ite hf
  obtain ⟨μ5, h3, hf⟩ := o_bind hf
  refine pw_goV hw (pw_runV (As := [.int 0]) (rest := []) hC mm_X8_writeDoc tw_1430 (c_X8_writeDoc (d := DP) h3 _) ⟨rfl, rfl, by decide, by decide⟩ hw h4 rfl hl.1 (Nat.le_of_ble_eq_true rfl) ⟨Nat.zero_le _, Nat.zero_le _⟩ rfl dX8_lays_7) (fun H locs hw => ?_)
  refine lv_aload_n hx hb dX8_lays_10 rfl (lv_at hl 0 rfl) ?_
  obtain ⟨v6, h7, hf⟩ := o_bind hf
  refine pw_get hC fl_X8_256 hw (rdI_F h7) dX8_lays_11 ?_
  refine lv_sipush (v := 2400) hx hb dX8_lays_14 nc_sipush_2400 ?_
  refine lv_icmp_le (tgt := 22) hx hb dX8_lays_17 (by decide) (fun c8 => ?_) (fun c8 => ?_)
  · have hf := o_pos c8 hf
    refine lv_iconst (v := 0) hx hb dX8_lays_22 nc_iconst_0 ?_
    refine lv_istore_n (lv' := [(2, .int 0), (0, .ref a0), (1, .int a1)]) hx hb dX8_lays_23 rfl hl (by decide) rfl (fun ls hl => ?_)
    exact w_X8_lays_L24 hC hr hlocks FU _ _ _ _ _ _ ls (lv_sub hl [1, 2, 0] rfl) hw hf
  · have hf := o_neg c8 hf
    refine lv_iconst (v := 0) hx hb dX8_lays_20 nc_iconst_0 ?_
    obtain ⟨rfl, rfl⟩ := o_ret hf
    exact pw_zret hC hr hlocks (Or.inl rfl) hw dX8_lays_21
theorem dX8_isPiece_0 : decode cX8_isPiece 0 = .ok (.aload_n 0, 1) := by decide +kernel
theorem dX8_isPiece_1 : decode cX8_isPiece 1 = .ok (.iconst 0, 1) := by decide +kernel
theorem dX8_isPiece_2 : decode cX8_isPiece 2 = .ok (.putfield 339, 3) := by decide +kernel
theorem dX8_isPiece_5 : decode cX8_isPiece 5 = .ok (.iload_n 1, 1) := by decide +kernel
theorem dX8_isPiece_6 : decode cX8_isPiece 6 = .ok (.invokestatic 145, 3) := by decide +kernel
theorem dX8_isPiece_9 : decode cX8_isPiece 9 = .ok (.ifCond .ne 12, 3) := by decide +kernel
theorem dX8_isPiece_12 : decode cX8_isPiece 12 = .ok (.aload_n 0, 1) := by decide +kernel
theorem dX8_isPiece_13 : decode cX8_isPiece 13 = .ok (.iconst 3, 1) := by decide +kernel
theorem dX8_isPiece_14 : decode cX8_isPiece 14 = .ok (.iconst 0, 1) := by decide +kernel
theorem dX8_isPiece_15 : decode cX8_isPiece 15 = .ok (.invokevirtual 109, 3) := by decide +kernel
theorem dX8_isPiece_18 : decode cX8_isPiece 18 = .ok (.pop, 1) := by decide +kernel
theorem dX8_isPiece_19 : decode cX8_isPiece 19 = .ok (.iconst 0, 1) := by decide +kernel
theorem dX8_isPiece_20 : decode cX8_isPiece 20 = .ok (.ireturn, 1) := by decide +kernel
theorem dX8_isPiece_21 : decode cX8_isPiece 21 = .ok (.iload_n 2, 1) := by decide +kernel
theorem dX8_isPiece_22 : decode cX8_isPiece 22 = .ok (.ifCond .ne 17, 3) := by decide +kernel
theorem dX8_isPiece_25 : decode cX8_isPiece 25 = .ok (.aload_n 0, 1) := by decide +kernel
theorem dX8_isPiece_26 : decode cX8_isPiece 26 = .ok (.aload_n 0, 1) := by decide +kernel
theorem dX8_isPiece_27 : decode cX8_isPiece 27 = .ok (.iconst 0, 1) := by decide +kernel
theorem dX8_isPiece_28 : decode cX8_isPiece 28 = .ok (.aload_n 0, 1) := by decide +kernel
theorem dX8_isPiece_29 : decode cX8_isPiece 29 = .ok (.getfield 103, 3) := by decide +kernel
theorem dX8_isPiece_32 : decode cX8_isPiece 32 = .ok (.iconst (-1), 1) := by decide +kernel
theorem dX8_isPiece_33 : decode cX8_isPiece 33 = .ok (.invokevirtual 149, 3) := by decide +kernel
theorem dX8_isPiece_36 : decode cX8_isPiece 36 = .ok (.putfield 339, 3) := by decide +kernel
theorem dX8_isPiece_39 : decode cX8_isPiece 39 = .ok (.aload_n 0, 1) := by decide +kernel
theorem dX8_isPiece_40 : decode cX8_isPiece 40 = .ok (.getfield 339, 3) := by decide +kernel
theorem dX8_isPiece_43 : decode cX8_isPiece 43 = .ok (.ifCond .lt 20, 3) := by decide +kernel
theorem dX8_isPiece_46 : decode cX8_isPiece 46 = .ok (.aload_n 0, 1) := by decide +kernel
theorem dX8_isPiece_47 : decode cX8_isPiece 47 = .ok (.iload_n 1, 1) := by decide +kernel
theorem dX8_isPiece_48 : decode cX8_isPiece 48 = .ok (.aload_n 0, 1) := by decide +kernel
theorem dX8_isPiece_49 : decode cX8_isPiece 49 = .ok (.getfield 339, 3) := by decide +kernel
theorem dX8_isPiece_52 : decode cX8_isPiece 52 = .ok (.iload_n 3, 1) := by decide +kernel
theorem dX8_isPiece_53 : decode cX8_isPiece 53 = .ok (.invokevirtual 325, 3) := by decide +kernel
theorem dX8_isPiece_56 : decode cX8_isPiece 56 = .ok (.ifCond .eq 7, 3) := by decide +kernel
theorem dX8_isPiece_59 : decode cX8_isPiece 59 = .ok (.iconst 1, 1) := by decide +kernel
theorem dX8_isPiece_60 : decode cX8_isPiece 60 = .ok (.goto 4, 3) := by decide +kernel
theorem dX8_isPiece_63 : decode cX8_isPiece 63 = .ok (.iconst 0, 1) := by decide +kernel
theorem dX8_isPiece_64 : decode cX8_isPiece 64 = .ok (.ireturn, 1) := by decide +kernel
abbrev rm_X8_isPiece : Room := { frames := 125, cells := 0, slots := 0, locals := 3483 }
def f_X8_isPiece_L63 (cy : Nat → ClassId)  (μ : Mem) : Option (Int32 × Mem) :=
  some (0, μ)
set_option maxRecDepth 100000 in
set_option maxHeartbeats 4000000 in
theorem w_X8_isPiece_L63 {p : Program} {l : Launch} {e : Env} {s : State} {m : MethodId} {args : Array Value} {below : List Frame} {meth : Method} {c : Code} {A : Nat → Prop} {g : Wg} {L : List Nat} {r : Int32} {μ' : Mem} (hC : CX p m c cX8_isPiece 4 s args RX8) (hr : meth.sig.returnType = (some .boolean)) (hlocks : meth.locks = false) : ∀  (μ : Mem) (H : Heap) (locs : List Loc) (ls : Array Slot), lv_has ls 4 [] → PW g L μ A s H locs → f_X8_isPiece_L63 g.2  μ = some (r, μ') → W p l e rm_X8_isPiece s m args below meth c H locs 0 0 (MQ below (QI g L A r μ') args s 0 0 A) (F0 m 63 ls []) := by
  have hx := hC.1
  have hb := hC.2.1
  intro  μ H locs ls hl hw hf
  unfold f_X8_isPiece_L63 at hf
  refine lv_iconst (v := 0) hx hb dX8_isPiece_63 nc_iconst_0 ?_
  obtain ⟨rfl, rfl⟩ := o_ret hf
  exact pw_zret hC hr hlocks (Or.inl rfl) hw dX8_isPiece_64
def f_X8_isPiece_L39 (cy : Nat → ClassId) (a0 : Nat) (a1 : Int32) (a3 : Int32) (μ : Mem) : Option (Int32 × Mem) :=
  (rdI μ a0 7 42).bind fun v101 => if v101 < 0 then (f_X8_isPiece_L63 cy  μ) else (rdI μ a0 7 42).bind fun v104 => if isO μ a0 7 = true then (ob2 (f_X8_isValue cy a0 a1 v104 a3 μ) fun r109 μ108 => if r109 = 0 then (f_X8_isPiece_L63 cy  μ108) else some (1, μ108)) else none
set_option maxRecDepth 100000 in
set_option maxHeartbeats 4000000 in
theorem w_X8_isPiece_L39 {p : Program} {l : Launch} {e : Env} {s : State} {m : MethodId} {args : Array Value} {below : List Frame} {meth : Method} {c : Code} {A : Nat → Prop} {g : Wg} {L : List Nat} {r : Int32} {μ' : Mem} (hC : CX p m c cX8_isPiece 4 s args RX8) (hr : meth.sig.returnType = (some .boolean)) (hlocks : meth.locks = false) : ∀ (a0 : Nat) (a1 : Int32) (a3 : Int32) (μ : Mem) (H : Heap) (locs : List Loc) (ls : Array Slot), lv_has ls 4 [(0, .ref a0), (1, .int a1), (3, .int a3)] → PW g L μ A s H locs → f_X8_isPiece_L39 g.2 a0 a1 a3 μ = some (r, μ') → W p l e rm_X8_isPiece s m args below meth c H locs 0 0 (MQ below (QI g L A r μ') args s 0 0 A) (F0 m 39 ls []) := by
  have hx := hC.1
  have hb := hC.2.1
  intro a0 a1 a3 μ H locs ls hl hw hf
  unfold f_X8_isPiece_L39 at hf
  refine lv_aload_n hx hb dX8_isPiece_39 rfl (lv_at hl 0 rfl) ?_
  obtain ⟨v101, h102, hf⟩ := o_bind hf
  refine pw_get hC fl_X8_339 hw (rdI_F h102) dX8_isPiece_40 ?_
  refine lv_if_lt (tgt := 63) hx hb dX8_isPiece_43 (by decide) (fun c103 => ?_) (fun c103 => ?_)
  · have hf := o_pos c103 hf
    exact w_X8_isPiece_L63 hC hr hlocks  _ _ _ ls (lv_sub hl [] rfl) hw hf
  · have hf := o_neg c103 hf
    refine lv_aload_n hx hb dX8_isPiece_46 rfl (lv_at hl 0 rfl) ?_
    refine lv_iload_n hx hb dX8_isPiece_47 rfl (lv_at hl 1 rfl) ?_
    refine lv_aload_n hx hb dX8_isPiece_48 rfl (lv_at hl 0 rfl) ?_
    obtain ⟨v104, h105, hf⟩ := o_bind hf
    refine pw_get hC fl_X8_339 hw (rdI_F h105) dX8_isPiece_49 ?_
    refine lv_iload_n hx hb dX8_isPiece_52 rfl (lv_at hl 2 rfl) ?_
    obtain ⟨h107, hf⟩ := o_ite hf
    obtain ⟨r109, μ108, h106, hf⟩ := o_bind2 hf
    refine pw_goI hw (pw_runV (As := [.int a1, .int v104, .int a3]) (rest := []) hC mm_X8_isValue tw_1418 (c_X8_isValue h106 _) ⟨rfl, rfl, by decide, by decide⟩ hw h107 rfl hl.1 (Nat.le_of_ble_eq_true rfl) ⟨Nat.zero_le _, Nat.zero_le _⟩ rfl dX8_isPiece_53) (fun H locs hw => ?_)
    refine lv_if_eq (tgt := 63) hx hb dX8_isPiece_56 (by decide) (fun c110 => ?_) (fun c110 => ?_)
    · have hf := o_pos c110 hf
      exact w_X8_isPiece_L63 hC hr hlocks  _ _ _ ls (lv_sub hl [] rfl) hw hf
    · have hf := o_neg c110 hf
      refine lv_iconst (v := 1) hx hb dX8_isPiece_59 nc_iconst_1 ?_
      refine lv_goto (tgt := 64) hx hb dX8_isPiece_60 (by decide) ?_
      obtain ⟨rfl, rfl⟩ := o_ret hf
      exact pw_zret hC hr hlocks (Or.inr rfl) hw dX8_isPiece_64
def f_X8_isPiece (cy : Nat → ClassId) (a0 : Nat) (a1 : Int32) (a2 : Int32) (a3 : Int32) (μ : Mem) : Option (Int32 × Mem) :=
  (wrF μ a0 7 42 (.int 0)).bind fun μ1 => ob2 (f_X8_isType cy a1 μ1) fun r5 μ4 => if r5 = 0 then (if isO μ4 a0 7 = true then (ob2 (f_X8_wrong cy a0 3 0 μ4) fun r19 μ18 => some (0, μ18)) else none) else if a2 = 0 then ((rdI μ4 a0 7 2).bind fun v8 => if isO μ4 a0 7 = true then (ob2 (f_X8_name cy a0 0 v8 (-1) μ4) fun r13 μ12 => (wrF μ12 a0 7 42 (.int r13)).bind fun μ14 => f_X8_isPiece_L39 cy a0 a1 a3 μ14) else none) else f_X8_isPiece_L39 cy a0 a1 a3 μ4
set_option maxRecDepth 100000 in
set_option maxHeartbeats 4000000 in
theorem c_X8_isPiece {l : Launch} {g : Wg} {L : List Nat} {μ : Mem} {a0 : Nat} {a1 : Int32} {a2 : Int32} {a3 : Int32} {r : Int32} {μ' : Mem} (hf : f_X8_isPiece g.2 a0 a1 a2 a3 μ = some (r, μ')) : MetI l yX8_isPiece cX8_isPiece 4 (some .boolean) rm_X8_isPiece g L μ [.ref a0, .int a1, .int a2, .int a3] r μ' := by
  refine pw_met (Qc := fun A => QI g L A r μ') (by decide) (Nat.le_of_ble_eq_true rfl) ?_
  intro p e s m args below meth c A ls H locs hC hr hlocks hl hw
  have hx := hC.1
  have hb := hC.2.1
  have hl : lv_has ls 4 [(0, .ref a0), (1, .int a1), (2, .int a2), (3, .int a3)] := hl
  unfold f_X8_isPiece at hf
  refine lv_aload_n hx hb dX8_isPiece_0 rfl (lv_at hl 0 rfl) ?_
  refine lv_iconst (v := 0) hx hb dX8_isPiece_1 nc_iconst_0 ?_
  obtain ⟨μ1, h2, hf⟩ := o_bind hf
  refine pw_put hC fl_X8_339 hw h2 .int fd_X8_42 rfl rfl dX8_isPiece_2 (fun H locs hw => ?_)
  refine lv_iload_n hx hb dX8_isPiece_5 rfl (lv_at hl 1 rfl) ?_
  obtain ⟨r5, μ4, h3, hf⟩ := o_bind2 hf
  refine pw_goI hw (pw_runS (As := [.int a1]) (rest := []) hC mm_X8_isType tw_1252 (c_X8_isType h3 _) ⟨rfl, rfl, by decide, by decide⟩ hw rfl hl.1 (Nat.le_of_ble_eq_true rfl) ⟨Nat.zero_le _, Nat.zero_le _⟩ rfl dX8_isPiece_6) (fun H locs hw => ?_)
  refine lv_if_ne (tgt := 21) hx hb dX8_isPiece_9 (by decide) (fun c6 => ?_) (fun c6 => ?_)
  · have hf := o_neg c6 hf
    refine lv_iload_n hx hb dX8_isPiece_21 rfl (lv_at hl 2 rfl) ?_
    refine lv_if_ne (tgt := 39) hx hb dX8_isPiece_22 (by decide) (fun c7 => ?_) (fun c7 => ?_)
    · have hf := o_neg c7 hf
      exact w_X8_isPiece_L39 hC hr hlocks _ _ _ _ _ _ ls (lv_sub hl [0, 1, 3] rfl) hw hf
    · have hf := o_pos c7 hf
      refine lv_aload_n hx hb dX8_isPiece_25 rfl (lv_at hl 0 rfl) ?_
      refine lv_aload_n hx hb dX8_isPiece_26 rfl (lv_at hl 0 rfl) ?_
      refine lv_iconst (v := 0) hx hb dX8_isPiece_27 nc_iconst_0 ?_
      refine lv_aload_n hx hb dX8_isPiece_28 rfl (lv_at hl 0 rfl) ?_
      obtain ⟨v8, h9, hf⟩ := o_bind hf
      refine pw_get hC fl_X8_103 hw (rdI_F h9) dX8_isPiece_29 ?_
      refine lv_iconst (v := (-1)) hx hb dX8_isPiece_32 nc_iconst_m1 ?_
      obtain ⟨h11, hf⟩ := o_ite hf
      obtain ⟨r13, μ12, h10, hf⟩ := o_bind2 hf
      refine pw_goI hw (pw_runV (As := [.int 0, .int v8, .int (-1)]) (rest := [.ref a0]) hC mm_X8_name tw_1255 (c_X8_name h10 _) ⟨rfl, rfl, by decide, by decide⟩ hw h11 rfl hl.1 (Nat.le_of_ble_eq_true rfl) ⟨Nat.zero_le _, Nat.zero_le _⟩ rfl dX8_isPiece_33) (fun H locs hw => ?_)
      obtain ⟨μ14, h15, hf⟩ := o_bind hf
      refine pw_put hC fl_X8_339 hw h15 .int fd_X8_42 rfl rfl dX8_isPiece_36 (fun H locs hw => ?_)
      exact w_X8_isPiece_L39 hC hr hlocks _ _ _ _ _ _ ls (lv_sub hl [0, 1, 3] rfl) hw hf
  · have hf := o_pos c6 hf
    refine lv_aload_n hx hb dX8_isPiece_12 rfl (lv_at hl 0 rfl) ?_
    refine lv_iconst (v := 3) hx hb dX8_isPiece_13 nc_iconst_3 ?_
    refine lv_iconst (v := 0) hx hb dX8_isPiece_14 nc_iconst_0 ?_
    obtain ⟨h17, hf⟩ := o_ite hf
    obtain ⟨r19, μ18, h16, hf⟩ := o_bind2 hf
    refine pw_goI hw (pw_runV (As := [.int 3, .int 0]) (rest := []) hC mm_X8_wrong tw_1237 (c_X8_wrong h16 _) ⟨rfl, rfl, by decide, by decide⟩ hw h17 rfl hl.1 (Nat.le_of_ble_eq_true rfl) ⟨Nat.zero_le _, Nat.zero_le _⟩ rfl dX8_isPiece_15) (fun H locs hw => ?_)
    refine lv_pop hx hb dX8_isPiece_18 rfl ?_
    refine lv_iconst (v := 0) hx hb dX8_isPiece_19 nc_iconst_0 ?_
    obtain ⟨rfl, rfl⟩ := o_ret hf
    exact pw_zret hC hr hlocks (Or.inl rfl) hw dX8_isPiece_20
