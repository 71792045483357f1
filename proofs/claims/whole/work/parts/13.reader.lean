theorem nc_bipush_6 : (Int8.ofInt 6).toInt32 = 6 := by decide +kernel
theorem nc_bipush_7 : (Int8.ofInt 7).toInt32 = 7 := by decide +kernel
theorem nc_bipush_14 : (Int8.ofInt 14).toInt32 = 14 := by decide +kernel
theorem tw_4 : (Jvm.Cond.initialized "SpanShelves$Reader") ∈ tw := tw_t 4 (by decide +kernel) (by decide +kernel)
theorem tw_35 : (Jvm.Cond.static ({ cls := "java/lang/Math", name := "max", desc := "(II)I" } : Jvm.MethodName)) ∈ tw := tw_t 35 (by decide +kernel) (by decide +kernel)
theorem tw_36 : (Jvm.Cond.code ({ cls := "java/lang/Math", name := "max", desc := "(II)I" } : Jvm.MethodName) prog_15_method_65_code (2 : Nat) (Option.some Jvm.ClassFile.FieldType.int)) ∈ tw := tw_t 36 (by decide +kernel) (by decide +kernel)
theorem tw_40 : (Jvm.Cond.fieldLinkNest "SpanShelves$Reader" (58 : Nat) "SpanShelves$Span" "size" "I" "SpanShelves") ∈ tw := tw_t 40 (by decide +kernel) (by decide +kernel)
theorem tw_61 : (Jvm.Cond.fieldLink "SpanShelves$Reader" (14 : Nat) "SpanShelves$Reader" "from" "LSpanShelves$Span;") ∈ tw := tw_t 61 (by decide +kernel) (by decide +kernel)
theorem tw_62 : (Jvm.Cond.fieldLink "SpanShelves$Reader" (20 : Nat) "SpanShelves$Reader" "fault" "I") ∈ tw := tw_t 62 (by decide +kernel) (by decide +kernel)
theorem tw_64 : (Jvm.Cond.fieldLink "SpanShelves$Reader" (24 : Nat) "SpanShelves$Reader" "place" "I") ∈ tw := tw_t 64 (by decide +kernel) (by decide +kernel)
theorem tw_66 : (Jvm.Cond.fieldLink "SpanShelves$Reader" (27 : Nat) "SpanShelves$Reader" "valuePlace" "I") ∈ tw := tw_t 66 (by decide +kernel) (by decide +kernel)
theorem tw_68 : (Jvm.Cond.fieldLink "SpanShelves$Reader" (30 : Nat) "SpanShelves$Reader" "elements" "I") ∈ tw := tw_t 68 (by decide +kernel) (by decide +kernel)
theorem tw_70 : (Jvm.Cond.fieldLink "SpanShelves$Reader" (33 : Nat) "SpanShelves$Reader" "deepest" "I") ∈ tw := tw_t 70 (by decide +kernel) (by decide +kernel)
theorem tw_72 : (Jvm.Cond.fieldLink "SpanShelves$Reader" (36 : Nat) "SpanShelves$Reader" "documents" "I") ∈ tw := tw_t 72 (by decide +kernel) (by decide +kernel)
theorem tw_74 : (Jvm.Cond.fieldLink "SpanShelves$Reader" (39 : Nat) "SpanShelves$Reader" "lengths" "I") ∈ tw := tw_t 74 (by decide +kernel) (by decide +kernel)
theorem tw_76 : (Jvm.Cond.fieldLink "SpanShelves$Reader" (42 : Nat) "SpanShelves$Reader" "lengthSum" "I") ∈ tw := tw_t 76 (by decide +kernel) (by decide +kernel)
theorem tw_78 : (Jvm.Cond.fieldLink "SpanShelves$Reader" (45 : Nat) "SpanShelves$Reader" "nameBytes" "I") ∈ tw := tw_t 78 (by decide +kernel) (by decide +kernel)
theorem tw_80 : (Jvm.Cond.fieldLink "SpanShelves$Reader" (48 : Nat) "SpanShelves$Reader" "wantedType" "I") ∈ tw := tw_t 80 (by decide +kernel) (by decide +kernel)
theorem tw_81 : (Jvm.Cond.fieldLink "SpanShelves$Reader" (51 : Nat) "SpanShelves$Reader" "wanted" "I") ∈ tw := tw_t 81 (by decide +kernel) (by decide +kernel)
theorem tw_337 : (Jvm.Cond.methodLink "SpanShelves$Reader" (54 : Nat) ({ cls := "SpanShelves$Reader", name := "restart", desc := "(LSpanShelves$Span;I)V" } : Jvm.MethodName)) ∈ tw := tw_t 337 (by decide +kernel) (by decide +kernel)
theorem tw_339 : (Jvm.Cond.instanceMethod ({ cls := "SpanShelves$Reader", name := "restart", desc := "(LSpanShelves$Span;I)V" } : Jvm.MethodName)) ∈ tw := tw_t 339 (by decide +kernel) (by decide +kernel)
theorem tw_340 : (Jvm.Cond.code ({ cls := "SpanShelves$Reader", name := "restart", desc := "(LSpanShelves$Span;I)V" } : Jvm.MethodName) prog_4_method_8_code (3 : Nat) (Option.none : Option Jvm.ClassFile.FieldType)) ∈ tw := tw_t 340 (by decide +kernel) (by decide +kernel)
theorem tw_341 : (Jvm.Cond.methodLink "SpanShelves$Reader" (61 : Nat) ({ cls := "SpanShelves$Reader", name := "readDocument", desc := "(IIIZ)I" } : Jvm.MethodName)) ∈ tw := tw_t 341 (by decide +kernel) (by decide +kernel)
theorem tw_343 : (Jvm.Cond.instanceMethod ({ cls := "SpanShelves$Reader", name := "readDocument", desc := "(IIIZ)I" } : Jvm.MethodName)) ∈ tw := tw_t 343 (by decide +kernel) (by decide +kernel)
theorem tw_344 : (Jvm.Cond.code ({ cls := "SpanShelves$Reader", name := "readDocument", desc := "(IIIZ)I" } : Jvm.MethodName) prog_4_method_19_code (9 : Nat) (Option.some Jvm.ClassFile.FieldType.int)) ∈ tw := tw_t 344 (by decide +kernel) (by decide +kernel)
theorem tw_345 : (Jvm.Cond.methodLink "SpanShelves$Reader" (78 : Nat) ({ cls := "SpanShelves$Reader", name := "refuse", desc := "(II)I" } : Jvm.MethodName)) ∈ tw := tw_t 345 (by decide +kernel) (by decide +kernel)
theorem tw_347 : (Jvm.Cond.instanceMethod ({ cls := "SpanShelves$Reader", name := "refuse", desc := "(II)I" } : Jvm.MethodName)) ∈ tw := tw_t 347 (by decide +kernel) (by decide +kernel)
theorem tw_348 : (Jvm.Cond.code ({ cls := "SpanShelves$Reader", name := "refuse", desc := "(II)I" } : Jvm.MethodName) prog_4_method_9_code (3 : Nat) (Option.some Jvm.ClassFile.FieldType.int)) ∈ tw := tw_t 348 (by decide +kernel) (by decide +kernel)
theorem tw_349 : (Jvm.Cond.methodLink "SpanShelves$Reader" (102 : Nat) ({ cls := "SpanShelves$Reader", name := "readBytes", desc := "(III)I" } : Jvm.MethodName)) ∈ tw := tw_t 349 (by decide +kernel) (by decide +kernel)
theorem tw_351 : (Jvm.Cond.instanceMethod ({ cls := "SpanShelves$Reader", name := "readBytes", desc := "(III)I" } : Jvm.MethodName)) ∈ tw := tw_t 351 (by decide +kernel) (by decide +kernel)
theorem tw_352 : (Jvm.Cond.code ({ cls := "SpanShelves$Reader", name := "readBytes", desc := "(III)I" } : Jvm.MethodName) prog_4_method_12_code (4 : Nat) (Option.some Jvm.ClassFile.FieldType.int)) ∈ tw := tw_t 352 (by decide +kernel) (by decide +kernel)
theorem tw_353 : (Jvm.Cond.methodLink "SpanShelves$Reader" (106 : Nat) ({ cls := "SpanShelves$Span", name := "intAt", desc := "(I)I" } : Jvm.MethodName)) ∈ tw := tw_t 353 (by decide +kernel) (by decide +kernel)
theorem tw_354 : (Jvm.Cond.methodLink "SpanShelves$Reader" (116 : Nat) ({ cls := "java/lang/Math", name := "max", desc := "(II)I" } : Jvm.MethodName)) ∈ tw := tw_t 354 (by decide +kernel) (by decide +kernel)
theorem tw_355 : (Jvm.Cond.methodLink "SpanShelves$Reader" (113 : Nat) ({ cls := "SpanShelves$Reader", name := "countLength", desc := "(I)V" } : Jvm.MethodName)) ∈ tw := tw_t 355 (by decide +kernel) (by decide +kernel)
theorem tw_357 : (Jvm.Cond.instanceMethod ({ cls := "SpanShelves$Reader", name := "countLength", desc := "(I)V" } : Jvm.MethodName)) ∈ tw := tw_t 357 (by decide +kernel) (by decide +kernel)
theorem tw_358 : (Jvm.Cond.code ({ cls := "SpanShelves$Reader", name := "countLength", desc := "(I)V" } : Jvm.MethodName) prog_4_method_11_code (2 : Nat) (Option.none : Option Jvm.ClassFile.FieldType)) ∈ tw := tw_t 358 (by decide +kernel) (by decide +kernel)
theorem tw_359 : (Jvm.Cond.methodLink "SpanShelves$Reader" (121 : Nat) ({ cls := "SpanShelves$Reader", name := "readElement", desc := "(IIII)I" } : Jvm.MethodName)) ∈ tw := tw_t 359 (by decide +kernel) (by decide +kernel)
theorem tw_361 : (Jvm.Cond.instanceMethod ({ cls := "SpanShelves$Reader", name := "readElement", desc := "(IIII)I" } : Jvm.MethodName)) ∈ tw := tw_t 361 (by decide +kernel) (by decide +kernel)
theorem tw_362 : (Jvm.Cond.code ({ cls := "SpanShelves$Reader", name := "readElement", desc := "(IIII)I" } : Jvm.MethodName) prog_4_method_20_code (7 : Nat) (Option.some Jvm.ClassFile.FieldType.int)) ∈ tw := tw_t 362 (by decide +kernel) (by decide +kernel)
theorem tw_363 : (Jvm.Cond.methodLink "SpanShelves$Reader" (110 : Nat) ({ cls := "SpanShelves$Span", name := "at", desc := "(I)I" } : Jvm.MethodName)) ∈ tw := tw_t 363 (by decide +kernel) (by decide +kernel)
theorem tw_364 : (Jvm.Cond.methodLink "SpanShelves$Reader" (72 : Nat) ({ cls := "SpanShelves$Form", name := "isType", desc := "(I)Z" } : Jvm.MethodName)) ∈ tw := tw_t 364 (by decide +kernel) (by decide +kernel)
theorem tw_365 : (Jvm.Cond.static ({ cls := "SpanShelves$Form", name := "isType", desc := "(I)Z" } : Jvm.MethodName)) ∈ tw := tw_t 365 (by decide +kernel) (by decide +kernel)
theorem tw_366 : (Jvm.Cond.code ({ cls := "SpanShelves$Form", name := "isType", desc := "(I)Z" } : Jvm.MethodName) prog_3_method_2_code (1 : Nat) (Option.some Jvm.ClassFile.FieldType.boolean)) ∈ tw := tw_t 366 (by decide +kernel) (by decide +kernel)
theorem tw_367 : (Jvm.Cond.methodLink "SpanShelves$Reader" (68 : Nat) ({ cls := "SpanShelves$Reader", name := "readName", desc := "(II)I" } : Jvm.MethodName)) ∈ tw := tw_t 367 (by decide +kernel) (by decide +kernel)
theorem tw_369 : (Jvm.Cond.instanceMethod ({ cls := "SpanShelves$Reader", name := "readName", desc := "(II)I" } : Jvm.MethodName)) ∈ tw := tw_t 369 (by decide +kernel) (by decide +kernel)
theorem tw_370 : (Jvm.Cond.code ({ cls := "SpanShelves$Reader", name := "readName", desc := "(II)I" } : Jvm.MethodName) prog_4_method_13_code (5 : Nat) (Option.some Jvm.ClassFile.FieldType.int)) ∈ tw := tw_t 370 (by decide +kernel) (by decide +kernel)
theorem tw_371 : (Jvm.Cond.methodLink "SpanShelves$Reader" (91 : Nat) ({ cls := "SpanShelves$Span", name := "zeroFrom", desc := "(II)I" } : Jvm.MethodName)) ∈ tw := tw_t 371 (by decide +kernel) (by decide +kernel)
theorem tw_372 : (Jvm.Cond.methodLink "SpanShelves$Reader" (94 : Nat) ({ cls := "SpanShelves$Form", name := "firstBadSign", desc := "(LSpanShelves$Span;II)I" } : Jvm.MethodName)) ∈ tw := tw_t 372 (by decide +kernel) (by decide +kernel)
theorem tw_373 : (Jvm.Cond.static ({ cls := "SpanShelves$Form", name := "firstBadSign", desc := "(LSpanShelves$Span;II)I" } : Jvm.MethodName)) ∈ tw := tw_t 373 (by decide +kernel) (by decide +kernel)
theorem tw_374 : (Jvm.Cond.code ({ cls := "SpanShelves$Form", name := "firstBadSign", desc := "(LSpanShelves$Span;II)I" } : Jvm.MethodName) prog_3_method_10_code (6 : Nat) (Option.some Jvm.ClassFile.FieldType.int)) ∈ tw := tw_t 374 (by decide +kernel) (by decide +kernel)
theorem tw_382 : (Jvm.Cond.methodLink "SpanShelves$Reader" (124 : Nat) ({ cls := "SpanShelves$Reader", name := "readRowName", desc := "(III)I" } : Jvm.MethodName)) ∈ tw := tw_t 382 (by decide +kernel) (by decide +kernel)
theorem tw_384 : (Jvm.Cond.instanceMethod ({ cls := "SpanShelves$Reader", name := "readRowName", desc := "(III)I" } : Jvm.MethodName)) ∈ tw := tw_t 384 (by decide +kernel) (by decide +kernel)
theorem tw_385 : (Jvm.Cond.code ({ cls := "SpanShelves$Reader", name := "readRowName", desc := "(III)I" } : Jvm.MethodName) prog_4_method_14_code (5 : Nat) (Option.some Jvm.ClassFile.FieldType.int)) ∈ tw := tw_t 385 (by decide +kernel) (by decide +kernel)
theorem tw_386 : (Jvm.Cond.methodLink "SpanShelves$Reader" (98 : Nat) ({ cls := "SpanShelves$Form", name := "isRowName", desc := "(LSpanShelves$Span;III)Z" } : Jvm.MethodName)) ∈ tw := tw_t 386 (by decide +kernel) (by decide +kernel)
theorem tw_387 : (Jvm.Cond.static ({ cls := "SpanShelves$Form", name := "isRowName", desc := "(LSpanShelves$Span;III)Z" } : Jvm.MethodName)) ∈ tw := tw_t 387 (by decide +kernel) (by decide +kernel)
theorem tw_388 : (Jvm.Cond.code ({ cls := "SpanShelves$Form", name := "isRowName", desc := "(LSpanShelves$Span;III)Z" } : Jvm.MethodName) prog_3_method_9_code (7 : Nat) (Option.some Jvm.ClassFile.FieldType.boolean)) ∈ tw := tw_t 388 (by decide +kernel) (by decide +kernel)
theorem tw_392 : (Jvm.Cond.methodLink "SpanShelves$Reader" (81 : Nat) ({ cls := "SpanShelves$Reader", name := "readValue", desc := "(IIII)I" } : Jvm.MethodName)) ∈ tw := tw_t 392 (by decide +kernel) (by decide +kernel)
theorem tw_394 : (Jvm.Cond.instanceMethod ({ cls := "SpanShelves$Reader", name := "readValue", desc := "(IIII)I" } : Jvm.MethodName)) ∈ tw := tw_t 394 (by decide +kernel) (by decide +kernel)
theorem tw_395 : (Jvm.Cond.code ({ cls := "SpanShelves$Reader", name := "readValue", desc := "(IIII)I" } : Jvm.MethodName) prog_4_method_21_code (5 : Nat) (Option.some Jvm.ClassFile.FieldType.int)) ∈ tw := tw_t 395 (by decide +kernel) (by decide +kernel)
theorem tw_396 : (Jvm.Cond.methodLink "SpanShelves$Reader" (88 : Nat) ({ cls := "SpanShelves$Reader", name := "readText", desc := "(II)I" } : Jvm.MethodName)) ∈ tw := tw_t 396 (by decide +kernel) (by decide +kernel)
theorem tw_398 : (Jvm.Cond.instanceMethod ({ cls := "SpanShelves$Reader", name := "readText", desc := "(II)I" } : Jvm.MethodName)) ∈ tw := tw_t 398 (by decide +kernel) (by decide +kernel)
theorem tw_399 : (Jvm.Cond.code ({ cls := "SpanShelves$Reader", name := "readText", desc := "(II)I" } : Jvm.MethodName) prog_4_method_15_code (6 : Nat) (Option.some Jvm.ClassFile.FieldType.int)) ∈ tw := tw_t 399 (by decide +kernel) (by decide +kernel)
theorem tw_400 : (Jvm.Cond.methodLink "SpanShelves$Reader" (127 : Nat) ({ cls := "SpanShelves$Reader", name := "readBinary", desc := "(II)I" } : Jvm.MethodName)) ∈ tw := tw_t 400 (by decide +kernel) (by decide +kernel)
theorem tw_402 : (Jvm.Cond.instanceMethod ({ cls := "SpanShelves$Reader", name := "readBinary", desc := "(II)I" } : Jvm.MethodName)) ∈ tw := tw_t 402 (by decide +kernel) (by decide +kernel)
theorem tw_403 : (Jvm.Cond.code ({ cls := "SpanShelves$Reader", name := "readBinary", desc := "(II)I" } : Jvm.MethodName) prog_4_method_16_code (4 : Nat) (Option.some Jvm.ClassFile.FieldType.int)) ∈ tw := tw_t 403 (by decide +kernel) (by decide +kernel)
theorem tw_404 : (Jvm.Cond.methodLink "SpanShelves$Reader" (130 : Nat) ({ cls := "SpanShelves$Reader", name := "readBoolean", desc := "(II)I" } : Jvm.MethodName)) ∈ tw := tw_t 404 (by decide +kernel) (by decide +kernel)
theorem tw_406 : (Jvm.Cond.instanceMethod ({ cls := "SpanShelves$Reader", name := "readBoolean", desc := "(II)I" } : Jvm.MethodName)) ∈ tw := tw_t 406 (by decide +kernel) (by decide +kernel)
theorem tw_407 : (Jvm.Cond.code ({ cls := "SpanShelves$Reader", name := "readBoolean", desc := "(II)I" } : Jvm.MethodName) prog_4_method_17_code (4 : Nat) (Option.some Jvm.ClassFile.FieldType.int)) ∈ tw := tw_t 407 (by decide +kernel) (by decide +kernel)
theorem tw_408 : (Jvm.Cond.methodLink "SpanShelves$Reader" (133 : Nat) ({ cls := "SpanShelves$Reader", name := "readScoped", desc := "(III)I" } : Jvm.MethodName)) ∈ tw := tw_t 408 (by decide +kernel) (by decide +kernel)
theorem tw_410 : (Jvm.Cond.instanceMethod ({ cls := "SpanShelves$Reader", name := "readScoped", desc := "(III)I" } : Jvm.MethodName)) ∈ tw := tw_t 410 (by decide +kernel) (by decide +kernel)
theorem tw_411 : (Jvm.Cond.code ({ cls := "SpanShelves$Reader", name := "readScoped", desc := "(III)I" } : Jvm.MethodName) prog_4_method_18_code (6 : Nat) (Option.some Jvm.ClassFile.FieldType.int)) ∈ tw := tw_t 411 (by decide +kernel) (by decide +kernel)
theorem tw_412 : (Jvm.Cond.methodLink "SpanShelves$Reader" (136 : Nat) ({ cls := "SpanShelves$Form", name := "widthOf", desc := "(I)I" } : Jvm.MethodName)) ∈ tw := tw_t 412 (by decide +kernel) (by decide +kernel)
theorem tw_413 : (Jvm.Cond.methodLink "SpanShelves$Reader" (65 : Nat) ({ cls := "SpanShelves$Reader", name := "refuseLeftOver", desc := "(I)V" } : Jvm.MethodName)) ∈ tw := tw_t 413 (by decide +kernel) (by decide +kernel)
theorem tw_415 : (Jvm.Cond.instanceMethod ({ cls := "SpanShelves$Reader", name := "refuseLeftOver", desc := "(I)V" } : Jvm.MethodName)) ∈ tw := tw_t 415 (by decide +kernel) (by decide +kernel)
theorem tw_416 : (Jvm.Cond.code ({ cls := "SpanShelves$Reader", name := "refuseLeftOver", desc := "(I)V" } : Jvm.MethodName) prog_4_method_10_code (2 : Nat) (Option.none : Option Jvm.ClassFile.FieldType)) ∈ tw := tw_t 416 (by decide +kernel) (by decide +kernel)
theorem tw_968 : (Jvm.Cond.methodLink "SpanShelves$Reader" (85 : Nat) ({ cls := "SpanShelves$Form", name := "hasDocument", desc := "(I)Z" } : Jvm.MethodName)) ∈ tw := tw_t 968 (by decide +kernel) (by decide +kernel)
theorem twp_0 : (Jvm.Cond.selects "SpanShelves$Reader" ({ cls := "SpanShelves$Reader", name := "restart", desc := "(LSpanShelves$Span;I)V" } : Jvm.MethodName) ({ cls := "SpanShelves$Reader", name := "restart", desc := "(LSpanShelves$Span;I)V" } : Jvm.MethodName)) ∈ tw := tw_p 0 (q := (({ cls := "SpanShelves$Reader", name := "restart", desc := "(LSpanShelves$Span;I)V" } : Jvm.MethodName), 12)) (by decide +kernel) (by decide +kernel)
theorem twp_1 : (Jvm.Cond.selects "SpanShelves$Reader" ({ cls := "SpanShelves$Reader", name := "readDocument", desc := "(IIIZ)I" } : Jvm.MethodName) ({ cls := "SpanShelves$Reader", name := "readDocument", desc := "(IIIZ)I" } : Jvm.MethodName)) ∈ tw := tw_p 1 (q := (({ cls := "SpanShelves$Reader", name := "readDocument", desc := "(IIIZ)I" } : Jvm.MethodName), 12)) (by decide +kernel) (by decide +kernel)
theorem twp_2 : (Jvm.Cond.selects "SpanShelves$Reader" ({ cls := "SpanShelves$Reader", name := "refuse", desc := "(II)I" } : Jvm.MethodName) ({ cls := "SpanShelves$Reader", name := "refuse", desc := "(II)I" } : Jvm.MethodName)) ∈ tw := tw_p 2 (q := (({ cls := "SpanShelves$Reader", name := "refuse", desc := "(II)I" } : Jvm.MethodName), 12)) (by decide +kernel) (by decide +kernel)
theorem twp_3 : (Jvm.Cond.selects "SpanShelves$Reader" ({ cls := "SpanShelves$Reader", name := "readBytes", desc := "(III)I" } : Jvm.MethodName) ({ cls := "SpanShelves$Reader", name := "readBytes", desc := "(III)I" } : Jvm.MethodName)) ∈ tw := tw_p 3 (q := (({ cls := "SpanShelves$Reader", name := "readBytes", desc := "(III)I" } : Jvm.MethodName), 12)) (by decide +kernel) (by decide +kernel)
theorem twp_4 : (Jvm.Cond.selects "SpanShelves$Reader" ({ cls := "SpanShelves$Reader", name := "countLength", desc := "(I)V" } : Jvm.MethodName) ({ cls := "SpanShelves$Reader", name := "countLength", desc := "(I)V" } : Jvm.MethodName)) ∈ tw := tw_p 4 (q := (({ cls := "SpanShelves$Reader", name := "countLength", desc := "(I)V" } : Jvm.MethodName), 12)) (by decide +kernel) (by decide +kernel)
theorem twp_5 : (Jvm.Cond.selects "SpanShelves$Reader" ({ cls := "SpanShelves$Reader", name := "readElement", desc := "(IIII)I" } : Jvm.MethodName) ({ cls := "SpanShelves$Reader", name := "readElement", desc := "(IIII)I" } : Jvm.MethodName)) ∈ tw := tw_p 5 (q := (({ cls := "SpanShelves$Reader", name := "readElement", desc := "(IIII)I" } : Jvm.MethodName), 12)) (by decide +kernel) (by decide +kernel)
theorem twp_6 : (Jvm.Cond.selects "SpanShelves$Reader" ({ cls := "SpanShelves$Reader", name := "readName", desc := "(II)I" } : Jvm.MethodName) ({ cls := "SpanShelves$Reader", name := "readName", desc := "(II)I" } : Jvm.MethodName)) ∈ tw := tw_p 6 (q := (({ cls := "SpanShelves$Reader", name := "readName", desc := "(II)I" } : Jvm.MethodName), 12)) (by decide +kernel) (by decide +kernel)
theorem twp_7 : (Jvm.Cond.selects "SpanShelves$Reader" ({ cls := "SpanShelves$Reader", name := "readRowName", desc := "(III)I" } : Jvm.MethodName) ({ cls := "SpanShelves$Reader", name := "readRowName", desc := "(III)I" } : Jvm.MethodName)) ∈ tw := tw_p 7 (q := (({ cls := "SpanShelves$Reader", name := "readRowName", desc := "(III)I" } : Jvm.MethodName), 12)) (by decide +kernel) (by decide +kernel)
theorem twp_8 : (Jvm.Cond.selects "SpanShelves$Reader" ({ cls := "SpanShelves$Reader", name := "readValue", desc := "(IIII)I" } : Jvm.MethodName) ({ cls := "SpanShelves$Reader", name := "readValue", desc := "(IIII)I" } : Jvm.MethodName)) ∈ tw := tw_p 8 (q := (({ cls := "SpanShelves$Reader", name := "readValue", desc := "(IIII)I" } : Jvm.MethodName), 12)) (by decide +kernel) (by decide +kernel)
theorem twp_9 : (Jvm.Cond.selects "SpanShelves$Reader" ({ cls := "SpanShelves$Reader", name := "readText", desc := "(II)I" } : Jvm.MethodName) ({ cls := "SpanShelves$Reader", name := "readText", desc := "(II)I" } : Jvm.MethodName)) ∈ tw := tw_p 9 (q := (({ cls := "SpanShelves$Reader", name := "readText", desc := "(II)I" } : Jvm.MethodName), 12)) (by decide +kernel) (by decide +kernel)
theorem twp_10 : (Jvm.Cond.selects "SpanShelves$Reader" ({ cls := "SpanShelves$Reader", name := "readBinary", desc := "(II)I" } : Jvm.MethodName) ({ cls := "SpanShelves$Reader", name := "readBinary", desc := "(II)I" } : Jvm.MethodName)) ∈ tw := tw_p 10 (q := (({ cls := "SpanShelves$Reader", name := "readBinary", desc := "(II)I" } : Jvm.MethodName), 12)) (by decide +kernel) (by decide +kernel)
theorem twp_11 : (Jvm.Cond.selects "SpanShelves$Reader" ({ cls := "SpanShelves$Reader", name := "readBoolean", desc := "(II)I" } : Jvm.MethodName) ({ cls := "SpanShelves$Reader", name := "readBoolean", desc := "(II)I" } : Jvm.MethodName)) ∈ tw := tw_p 11 (q := (({ cls := "SpanShelves$Reader", name := "readBoolean", desc := "(II)I" } : Jvm.MethodName), 12)) (by decide +kernel) (by decide +kernel)
theorem twp_12 : (Jvm.Cond.selects "SpanShelves$Reader" ({ cls := "SpanShelves$Reader", name := "readScoped", desc := "(III)I" } : Jvm.MethodName) ({ cls := "SpanShelves$Reader", name := "readScoped", desc := "(III)I" } : Jvm.MethodName)) ∈ tw := tw_p 12 (q := (({ cls := "SpanShelves$Reader", name := "readScoped", desc := "(III)I" } : Jvm.MethodName), 12)) (by decide +kernel) (by decide +kernel)
theorem twp_13 : (Jvm.Cond.selects "SpanShelves$Reader" ({ cls := "SpanShelves$Reader", name := "refuseLeftOver", desc := "(I)V" } : Jvm.MethodName) ({ cls := "SpanShelves$Reader", name := "refuseLeftOver", desc := "(I)V" } : Jvm.MethodName)) ∈ tw := tw_p 13 (q := (({ cls := "SpanShelves$Reader", name := "refuseLeftOver", desc := "(I)V" } : Jvm.MethodName), 12)) (by decide +kernel) (by decide +kernel)
theorem iw_X2 : ∀ w ∈ u_ws RX2 TX2 12, w ∈ tw := fun w h => List.mem_filter.mpr ⟨(show ∀ w ∈ u_ws RX2 TX2 12, w ∈ lw_tbl by decide +kernel) w h, (show ∀ w ∈ u_ws RX2 TX2 12, tw_ok w = true by decide +kernel) w h⟩
theorem fl_X2_14 : FL RX2 14 1 0 := ⟨by decide, RX2, TX2, 12, tyX2, rfl, by decide, rfl, iw_X2, tyX2_ok, nmX2, Or.inl tw_61⟩
theorem fl_X2_20 : FL RX2 20 1 1 := ⟨by decide, RX2, TX2, 12, tyX2, rfl, by decide, rfl, iw_X2, tyX2_ok, nmX2, Or.inl tw_62⟩
theorem fl_X2_24 : FL RX2 24 1 2 := ⟨by decide, RX2, TX2, 12, tyX2, rfl, by decide, rfl, iw_X2, tyX2_ok, nmX2, Or.inl tw_64⟩
theorem fl_X2_27 : FL RX2 27 1 3 := ⟨by decide, RX2, TX2, 12, tyX2, rfl, by decide, rfl, iw_X2, tyX2_ok, nmX2, Or.inl tw_66⟩
theorem fl_X2_30 : FL RX2 30 1 4 := ⟨by decide, RX2, TX2, 12, tyX2, rfl, by decide, rfl, iw_X2, tyX2_ok, nmX2, Or.inl tw_68⟩
theorem fl_X2_33 : FL RX2 33 1 5 := ⟨by decide, RX2, TX2, 12, tyX2, rfl, by decide, rfl, iw_X2, tyX2_ok, nmX2, Or.inl tw_70⟩
theorem fl_X2_36 : FL RX2 36 1 6 := ⟨by decide, RX2, TX2, 12, tyX2, rfl, by decide, rfl, iw_X2, tyX2_ok, nmX2, Or.inl tw_72⟩
theorem fl_X2_39 : FL RX2 39 1 7 := ⟨by decide, RX2, TX2, 12, tyX2, rfl, by decide, rfl, iw_X2, tyX2_ok, nmX2, Or.inl tw_74⟩
theorem fl_X2_42 : FL RX2 42 1 8 := ⟨by decide, RX2, TX2, 12, tyX2, rfl, by decide, rfl, iw_X2, tyX2_ok, nmX2, Or.inl tw_76⟩
theorem fl_X2_45 : FL RX2 45 1 9 := ⟨by decide, RX2, TX2, 12, tyX2, rfl, by decide, rfl, iw_X2, tyX2_ok, nmX2, Or.inl tw_78⟩
theorem fl_X2_48 : FL RX2 48 1 10 := ⟨by decide, RX2, TX2, 12, tyX2, rfl, by decide, rfl, iw_X2, tyX2_ok, nmX2, Or.inl tw_80⟩
theorem fl_X2_51 : FL RX2 51 1 11 := ⟨by decide, RX2, TX2, 12, tyX2, rfl, by decide, rfl, iw_X2, tyX2_ok, nmX2, Or.inl tw_81⟩
theorem fl_X2_58 : FL RX2 58 4 1 := ⟨by decide, RX5, TX5, 3, tyX5, rfl, by decide, rfl, iw_X5, tyX5_ok, nmX5, Or.inr ⟨_, tw_40⟩⟩
theorem fd_X2_0 : ∀ (C : String) (T : u_T) (N : Nat), vwCl[1]? = some (C, T, N) → (T 0).2.2.2 = false ∧ parseFieldDescriptor (T 0).2.2.1 = some (.object "SpanShelves$Span") := by intro C T N h; cases h; exact ⟨rfl, by decide +kernel⟩
theorem fd_X2_1 : ∀ (C : String) (T : u_T) (N : Nat), vwCl[1]? = some (C, T, N) → (T 1).2.2.2 = false ∧ parseFieldDescriptor (T 1).2.2.1 = some .int := by intro C T N h; cases h; exact ⟨rfl, by decide +kernel⟩
theorem fd_X2_2 : ∀ (C : String) (T : u_T) (N : Nat), vwCl[1]? = some (C, T, N) → (T 2).2.2.2 = false ∧ parseFieldDescriptor (T 2).2.2.1 = some .int := by intro C T N h; cases h; exact ⟨rfl, by decide +kernel⟩
theorem fd_X2_3 : ∀ (C : String) (T : u_T) (N : Nat), vwCl[1]? = some (C, T, N) → (T 3).2.2.2 = false ∧ parseFieldDescriptor (T 3).2.2.1 = some .int := by intro C T N h; cases h; exact ⟨rfl, by decide +kernel⟩
theorem fd_X2_4 : ∀ (C : String) (T : u_T) (N : Nat), vwCl[1]? = some (C, T, N) → (T 4).2.2.2 = false ∧ parseFieldDescriptor (T 4).2.2.1 = some .int := by intro C T N h; cases h; exact ⟨rfl, by decide +kernel⟩
theorem fd_X2_5 : ∀ (C : String) (T : u_T) (N : Nat), vwCl[1]? = some (C, T, N) → (T 5).2.2.2 = false ∧ parseFieldDescriptor (T 5).2.2.1 = some .int := by intro C T N h; cases h; exact ⟨rfl, by decide +kernel⟩
theorem fd_X2_6 : ∀ (C : String) (T : u_T) (N : Nat), vwCl[1]? = some (C, T, N) → (T 6).2.2.2 = false ∧ parseFieldDescriptor (T 6).2.2.1 = some .int := by intro C T N h; cases h; exact ⟨rfl, by decide +kernel⟩
theorem fd_X2_7 : ∀ (C : String) (T : u_T) (N : Nat), vwCl[1]? = some (C, T, N) → (T 7).2.2.2 = false ∧ parseFieldDescriptor (T 7).2.2.1 = some .int := by intro C T N h; cases h; exact ⟨rfl, by decide +kernel⟩
theorem fd_X2_8 : ∀ (C : String) (T : u_T) (N : Nat), vwCl[1]? = some (C, T, N) → (T 8).2.2.2 = false ∧ parseFieldDescriptor (T 8).2.2.1 = some .int := by intro C T N h; cases h; exact ⟨rfl, by decide +kernel⟩
theorem fd_X2_9 : ∀ (C : String) (T : u_T) (N : Nat), vwCl[1]? = some (C, T, N) → (T 9).2.2.2 = false ∧ parseFieldDescriptor (T 9).2.2.1 = some .int := by intro C T N h; cases h; exact ⟨rfl, by decide +kernel⟩
theorem fd_X2_10 : ∀ (C : String) (T : u_T) (N : Nat), vwCl[1]? = some (C, T, N) → (T 10).2.2.2 = false ∧ parseFieldDescriptor (T 10).2.2.1 = some .int := by intro C T N h; cases h; exact ⟨rfl, by decide +kernel⟩
theorem fd_X2_11 : ∀ (C : String) (T : u_T) (N : Nat), vwCl[1]? = some (C, T, N) → (T 11).2.2.2 = false ∧ parseFieldDescriptor (T 11).2.2.1 = some .int := by intro C T N h; cases h; exact ⟨rfl, by decide +kernel⟩
theorem mm_X1_firstBadSign : MS yX1_firstBadSign cX1_firstBadSign 6 (some .int) 3 := ⟨tw_373, tw_374, tw_9, by decide +kernel, by decide +kernel, by decide +kernel⟩
theorem mm_X1_isRowName : MS yX1_isRowName cX1_isRowName 7 (some .boolean) 4 := ⟨tw_387, tw_388, tw_9, by decide +kernel, by decide +kernel, by decide +kernel⟩
theorem mm_X1_isType : MS yX1_isType cX1_isType 1 (some .boolean) 1 := ⟨tw_365, tw_366, tw_9, by decide +kernel, by decide +kernel, by decide +kernel⟩
theorem mm_X2_countLength : MM 1 yX2_countLength cX2_countLength 2 none 1 := ⟨by decide, RX2, TX2, 12, rfl, tw_357, twp_4, tw_358, tw_4, by decide +kernel, by decide +kernel, by decide +kernel⟩
theorem mm_X2_readBinary : MM 1 yX2_readBinary cX2_readBinary 4 (some .int) 2 := ⟨by decide, RX2, TX2, 12, rfl, tw_402, twp_10, tw_403, tw_4, by decide +kernel, by decide +kernel, by decide +kernel⟩
theorem mm_X2_readBoolean : MM 1 yX2_readBoolean cX2_readBoolean 4 (some .int) 2 := ⟨by decide, RX2, TX2, 12, rfl, tw_406, twp_11, tw_407, tw_4, by decide +kernel, by decide +kernel, by decide +kernel⟩
theorem mm_X2_readBytes : MM 1 yX2_readBytes cX2_readBytes 4 (some .int) 3 := ⟨by decide, RX2, TX2, 12, rfl, tw_351, twp_3, tw_352, tw_4, by decide +kernel, by decide +kernel, by decide +kernel⟩
theorem mm_X2_readDocument : MM 1 yX2_readDocument cX2_readDocument 9 (some .int) 4 := ⟨by decide, RX2, TX2, 12, rfl, tw_343, twp_1, tw_344, tw_4, by decide +kernel, by decide +kernel, by decide +kernel⟩
theorem mm_X2_readElement : MM 1 yX2_readElement cX2_readElement 7 (some .int) 4 := ⟨by decide, RX2, TX2, 12, rfl, tw_361, twp_5, tw_362, tw_4, by decide +kernel, by decide +kernel, by decide +kernel⟩
theorem mm_X2_readName : MM 1 yX2_readName cX2_readName 5 (some .int) 2 := ⟨by decide, RX2, TX2, 12, rfl, tw_369, twp_6, tw_370, tw_4, by decide +kernel, by decide +kernel, by decide +kernel⟩
theorem mm_X2_readRowName : MM 1 yX2_readRowName cX2_readRowName 5 (some .int) 3 := ⟨by decide, RX2, TX2, 12, rfl, tw_384, twp_7, tw_385, tw_4, by decide +kernel, by decide +kernel, by decide +kernel⟩
theorem mm_X2_readScoped : MM 1 yX2_readScoped cX2_readScoped 6 (some .int) 3 := ⟨by decide, RX2, TX2, 12, rfl, tw_410, twp_12, tw_411, tw_4, by decide +kernel, by decide +kernel, by decide +kernel⟩
theorem mm_X2_readText : MM 1 yX2_readText cX2_readText 6 (some .int) 2 := ⟨by decide, RX2, TX2, 12, rfl, tw_398, twp_9, tw_399, tw_4, by decide +kernel, by decide +kernel, by decide +kernel⟩
theorem mm_X2_readValue : MM 1 yX2_readValue cX2_readValue 5 (some .int) 4 := ⟨by decide, RX2, TX2, 12, rfl, tw_394, twp_8, tw_395, tw_4, by decide +kernel, by decide +kernel, by decide +kernel⟩
theorem mm_X2_refuse : MM 1 yX2_refuse cX2_refuse 3 (some .int) 2 := ⟨by decide, RX2, TX2, 12, rfl, tw_347, twp_2, tw_348, tw_4, by decide +kernel, by decide +kernel, by decide +kernel⟩
theorem mm_X2_refuseLeftOver : MM 1 yX2_refuseLeftOver cX2_refuseLeftOver 2 none 1 := ⟨by decide, RX2, TX2, 12, rfl, tw_415, twp_13, tw_416, tw_4, by decide +kernel, by decide +kernel, by decide +kernel⟩
theorem mm_X2_restart : MM 1 yX2_restart cX2_restart 3 none 2 := ⟨by decide, RX2, TX2, 12, rfl, tw_339, twp_0, tw_340, tw_4, by decide +kernel, by decide +kernel, by decide +kernel⟩
theorem dX2_restart_0 : decode cX2_restart 0 = .ok (.aload_n 0, 1) := by decide +kernel
theorem dX2_restart_1 : decode cX2_restart 1 = .ok (.aload_n 1, 1) := by decide +kernel
theorem dX2_restart_2 : decode cX2_restart 2 = .ok (.putfield 14, 3) := by decide +kernel
theorem dX2_restart_5 : decode cX2_restart 5 = .ok (.aload_n 0, 1) := by decide +kernel
theorem dX2_restart_6 : decode cX2_restart 6 = .ok (.iconst 0, 1) := by decide +kernel
theorem dX2_restart_7 : decode cX2_restart 7 = .ok (.putfield 20, 3) := by decide +kernel
theorem dX2_restart_10 : decode cX2_restart 10 = .ok (.aload_n 0, 1) := by decide +kernel
theorem dX2_restart_11 : decode cX2_restart 11 = .ok (.iconst (-1), 1) := by decide +kernel
theorem dX2_restart_12 : decode cX2_restart 12 = .ok (.putfield 24, 3) := by decide +kernel
theorem dX2_restart_15 : decode cX2_restart 15 = .ok (.aload_n 0, 1) := by decide +kernel
theorem dX2_restart_16 : decode cX2_restart 16 = .ok (.iconst 0, 1) := by decide +kernel
theorem dX2_restart_17 : decode cX2_restart 17 = .ok (.putfield 27, 3) := by decide +kernel
theorem dX2_restart_20 : decode cX2_restart 20 = .ok (.aload_n 0, 1) := by decide +kernel
theorem dX2_restart_21 : decode cX2_restart 21 = .ok (.iconst 0, 1) := by decide +kernel
theorem dX2_restart_22 : decode cX2_restart 22 = .ok (.putfield 30, 3) := by decide +kernel
theorem dX2_restart_25 : decode cX2_restart 25 = .ok (.aload_n 0, 1) := by decide +kernel
theorem dX2_restart_26 : decode cX2_restart 26 = .ok (.iconst 0, 1) := by decide +kernel
theorem dX2_restart_27 : decode cX2_restart 27 = .ok (.putfield 33, 3) := by decide +kernel
theorem dX2_restart_30 : decode cX2_restart 30 = .ok (.aload_n 0, 1) := by decide +kernel
theorem dX2_restart_31 : decode cX2_restart 31 = .ok (.iconst 0, 1) := by decide +kernel
theorem dX2_restart_32 : decode cX2_restart 32 = .ok (.putfield 36, 3) := by decide +kernel
theorem dX2_restart_35 : decode cX2_restart 35 = .ok (.aload_n 0, 1) := by decide +kernel
theorem dX2_restart_36 : decode cX2_restart 36 = .ok (.iconst 0, 1) := by decide +kernel
theorem dX2_restart_37 : decode cX2_restart 37 = .ok (.putfield 39, 3) := by decide +kernel
theorem dX2_restart_40 : decode cX2_restart 40 = .ok (.aload_n 0, 1) := by decide +kernel
theorem dX2_restart_41 : decode cX2_restart 41 = .ok (.iconst 0, 1) := by decide +kernel
theorem dX2_restart_42 : decode cX2_restart 42 = .ok (.putfield 42, 3) := by decide +kernel
theorem dX2_restart_45 : decode cX2_restart 45 = .ok (.aload_n 0, 1) := by decide +kernel
theorem dX2_restart_46 : decode cX2_restart 46 = .ok (.iconst 0, 1) := by decide +kernel
theorem dX2_restart_47 : decode cX2_restart 47 = .ok (.putfield 45, 3) := by decide +kernel
theorem dX2_restart_50 : decode cX2_restart 50 = .ok (.aload_n 0, 1) := by decide +kernel
theorem dX2_restart_51 : decode cX2_restart 51 = .ok (.iload_n 2, 1) := by decide +kernel
theorem dX2_restart_52 : decode cX2_restart 52 = .ok (.putfield 48, 3) := by decide +kernel
theorem dX2_restart_55 : decode cX2_restart 55 = .ok (.aload_n 0, 1) := by decide +kernel
theorem dX2_restart_56 : decode cX2_restart 56 = .ok (.iconst 0, 1) := by decide +kernel
theorem dX2_restart_57 : decode cX2_restart 57 = .ok (.putfield 51, 3) := by decide +kernel
theorem dX2_restart_60 : decode cX2_restart 60 = .ok (.return_, 1) := by decide +kernel
abbrev rm_X2_restart : Room := { frames := 0, cells := 0, slots := 0, locals := 0 }
def f_X2_restart (cy : Nat → ClassId) (a0 : Nat) (a1 : Nat) (a2 : Int32) (μ : Mem) : Option Mem :=
  (wrF μ a0 1 0 (.ref a1)).bind fun μ1 => (wrF μ1 a0 1 1 (.int 0)).bind fun μ3 => (wrF μ3 a0 1 2 (.int (-1))).bind fun μ5 => (wrF μ5 a0 1 3 (.int 0)).bind fun μ7 => (wrF μ7 a0 1 4 (.int 0)).bind fun μ9 => (wrF μ9 a0 1 5 (.int 0)).bind fun μ11 => (wrF μ11 a0 1 6 (.int 0)).bind fun μ13 => (wrF μ13 a0 1 7 (.int 0)).bind fun μ15 => (wrF μ15 a0 1 8 (.int 0)).bind fun μ17 => (wrF μ17 a0 1 9 (.int 0)).bind fun μ19 => (wrF μ19 a0 1 10 (.int a2)).bind fun μ21 => (wrF μ21 a0 1 11 (.int 0)).bind fun μ23 => some μ23
set_option maxRecDepth 100000 in
set_option maxHeartbeats 4000000 in
theorem c_X2_restart {l : Launch} {g : Wg} {L : List Nat} {μ : Mem} {a0 : Nat} {a1 : Nat} {a2 : Int32} {μ' : Mem} (hf : f_X2_restart g.2 a0 a1 a2 μ = some μ') : MetV l yX2_restart cX2_restart 3 none rm_X2_restart g L μ [.ref a0, .ref a1, .int a2] μ' := by
  refine pw_met (Qc := fun A => QV g L A μ') (by decide) (Nat.le_of_ble_eq_true rfl) ?_
  intro p e s m args below meth c A ls H locs hC hr hlocks hl hw
  have hx := hC.1
  have hb := hC.2.1
  have hl : lv_has ls 3 [(0, .ref a0), (1, .ref a1), (2, .int a2)] := hl
  unfold f_X2_restart at hf
  refine lv_aload_n hx hb dX2_restart_0 rfl (lv_at hl 0 rfl) ?_
  refine lv_aload_n hx hb dX2_restart_1 rfl (lv_at hl 1 rfl) ?_
  obtain ⟨μ1, h2, hf⟩ := o_bind hf
  refine pw_put hC fl_X2_14 hw h2 (.object "SpanShelves$Span") fd_X2_0 rfl rfl dX2_restart_2 (fun H locs hw => ?_)
  refine lv_aload_n hx hb dX2_restart_5 rfl (lv_at hl 0 rfl) ?_
  refine lv_iconst (v := 0) hx hb dX2_restart_6 nc_iconst_0 ?_
  obtain ⟨μ3, h4, hf⟩ := o_bind hf
  refine pw_put hC fl_X2_20 hw h4 .int fd_X2_1 rfl rfl dX2_restart_7 (fun H locs hw => ?_)
  refine lv_aload_n hx hb dX2_restart_10 rfl (lv_at hl 0 rfl) ?_
  refine lv_iconst (v := (-1)) hx hb dX2_restart_11 nc_iconst_m1 ?_
  obtain ⟨μ5, h6, hf⟩ := o_bind hf
  refine pw_put hC fl_X2_24 hw h6 .int fd_X2_2 rfl rfl dX2_restart_12 (fun H locs hw => ?_)
  refine lv_aload_n hx hb dX2_restart_15 rfl (lv_at hl 0 rfl) ?_
  refine lv_iconst (v := 0) hx hb dX2_restart_16 nc_iconst_0 ?_
  obtain ⟨μ7, h8, hf⟩ := o_bind hf
  refine pw_put hC fl_X2_27 hw h8 .int fd_X2_3 rfl rfl dX2_restart_17 (fun H locs hw => ?_)
  refine lv_aload_n hx hb dX2_restart_20 rfl (lv_at hl 0 rfl) ?_
  refine lv_iconst (v := 0) hx hb dX2_restart_21 nc_iconst_0 ?_
  obtain ⟨μ9, h10, hf⟩ := o_bind hf
  refine pw_put hC fl_X2_30 hw h10 .int fd_X2_4 rfl rfl dX2_restart_22 (fun H locs hw => ?_)
  refine lv_aload_n hx hb dX2_restart_25 rfl (lv_at hl 0 rfl) ?_
  refine lv_iconst (v := 0) hx hb dX2_restart_26 nc_iconst_0 ?_
  obtain ⟨μ11, h12, hf⟩ := o_bind hf
  refine pw_put hC fl_X2_33 hw h12 .int fd_X2_5 rfl rfl dX2_restart_27 (fun H locs hw => ?_)
  refine lv_aload_n hx hb dX2_restart_30 rfl (lv_at hl 0 rfl) ?_
  refine lv_iconst (v := 0) hx hb dX2_restart_31 nc_iconst_0 ?_
  obtain ⟨μ13, h14, hf⟩ := o_bind hf
  refine pw_put hC fl_X2_36 hw h14 .int fd_X2_6 rfl rfl dX2_restart_32 (fun H locs hw => ?_)
  refine lv_aload_n hx hb dX2_restart_35 rfl (lv_at hl 0 rfl) ?_
  refine lv_iconst (v := 0) hx hb dX2_restart_36 nc_iconst_0 ?_
  obtain ⟨μ15, h16, hf⟩ := o_bind hf
  refine pw_put hC fl_X2_39 hw h16 .int fd_X2_7 rfl rfl dX2_restart_37 (fun H locs hw => ?_)
  refine lv_aload_n hx hb dX2_restart_40 rfl (lv_at hl 0 rfl) ?_
  refine lv_iconst (v := 0) hx hb dX2_restart_41 nc_iconst_0 ?_
  obtain ⟨μ17, h18, hf⟩ := o_bind hf
  refine pw_put hC fl_X2_42 hw h18 .int fd_X2_8 rfl rfl dX2_restart_42 (fun H locs hw => ?_)
  refine lv_aload_n hx hb dX2_restart_45 rfl (lv_at hl 0 rfl) ?_
  refine lv_iconst (v := 0) hx hb dX2_restart_46 nc_iconst_0 ?_
  obtain ⟨μ19, h20, hf⟩ := o_bind hf
  refine pw_put hC fl_X2_45 hw h20 .int fd_X2_9 rfl rfl dX2_restart_47 (fun H locs hw => ?_)
  refine lv_aload_n hx hb dX2_restart_50 rfl (lv_at hl 0 rfl) ?_
  refine lv_iload_n hx hb dX2_restart_51 rfl (lv_at hl 2 rfl) ?_
  obtain ⟨μ21, h22, hf⟩ := o_bind hf
  refine pw_put hC fl_X2_48 hw h22 .int fd_X2_10 rfl rfl dX2_restart_52 (fun H locs hw => ?_)
  refine lv_aload_n hx hb dX2_restart_55 rfl (lv_at hl 0 rfl) ?_
  refine lv_iconst (v := 0) hx hb dX2_restart_56 nc_iconst_0 ?_
  obtain ⟨μ23, h24, hf⟩ := o_bind hf
  refine pw_put hC fl_X2_51 hw h24 .int fd_X2_11 rfl rfl dX2_restart_57 (fun H locs hw => ?_)
  obtain rfl := o_retv hf
  exact pw_vret hC hr hlocks hw dX2_restart_60
theorem dX2_refuse_0 : decode cX2_refuse 0 = .ok (.aload_n 0, 1) := by decide +kernel
theorem dX2_refuse_1 : decode cX2_refuse 1 = .ok (.iload_n 1, 1) := by decide +kernel
theorem dX2_refuse_2 : decode cX2_refuse 2 = .ok (.putfield 20, 3) := by decide +kernel
theorem dX2_refuse_5 : decode cX2_refuse 5 = .ok (.aload_n 0, 1) := by decide +kernel
theorem dX2_refuse_6 : decode cX2_refuse 6 = .ok (.iload_n 2, 1) := by decide +kernel
theorem dX2_refuse_7 : decode cX2_refuse 7 = .ok (.putfield 24, 3) := by decide +kernel
theorem dX2_refuse_10 : decode cX2_refuse 10 = .ok (.iconst (-1), 1) := by decide +kernel
theorem dX2_refuse_11 : decode cX2_refuse 11 = .ok (.ireturn, 1) := by decide +kernel
abbrev rm_X2_refuse : Room := { frames := 0, cells := 0, slots := 0, locals := 0 }
def f_X2_refuse (cy : Nat → ClassId) (a0 : Nat) (a1 : Int32) (a2 : Int32) (μ : Mem) : Option (Int32 × Mem) :=
  (wrF μ a0 1 1 (.int a1)).bind fun μ1 => (wrF μ1 a0 1 2 (.int a2)).bind fun μ3 => some ((-1), μ3)
set_option maxRecDepth 100000 in
set_option maxHeartbeats 4000000 in
theorem c_X2_refuse {l : Launch} {g : Wg} {L : List Nat} {μ : Mem} {a0 : Nat} {a1 : Int32} {a2 : Int32} {r : Int32} {μ' : Mem} (hf : f_X2_refuse g.2 a0 a1 a2 μ = some (r, μ')) : MetI l yX2_refuse cX2_refuse 3 (some .int) rm_X2_refuse g L μ [.ref a0, .int a1, .int a2] r μ' := by
  refine pw_met (Qc := fun A => QI g L A r μ') (by decide) (Nat.le_of_ble_eq_true rfl) ?_
  intro p e s m args below meth c A ls H locs hC hr hlocks hl hw
  have hx := hC.1
  have hb := hC.2.1
  have hl : lv_has ls 3 [(0, .ref a0), (1, .int a1), (2, .int a2)] := hl
  unfold f_X2_refuse at hf
  refine lv_aload_n hx hb dX2_refuse_0 rfl (lv_at hl 0 rfl) ?_
  refine lv_iload_n hx hb dX2_refuse_1 rfl (lv_at hl 1 rfl) ?_
  obtain ⟨μ1, h2, hf⟩ := o_bind hf
  refine pw_put hC fl_X2_20 hw h2 .int fd_X2_1 rfl rfl dX2_refuse_2 (fun H locs hw => ?_)
  refine lv_aload_n hx hb dX2_refuse_5 rfl (lv_at hl 0 rfl) ?_
  refine lv_iload_n hx hb dX2_refuse_6 rfl (lv_at hl 2 rfl) ?_
  obtain ⟨μ3, h4, hf⟩ := o_bind hf
  refine pw_put hC fl_X2_24 hw h4 .int fd_X2_2 rfl rfl dX2_refuse_7 (fun H locs hw => ?_)
  refine lv_iconst (v := (-1)) hx hb dX2_refuse_10 nc_iconst_m1 ?_
  obtain ⟨rfl, rfl⟩ := o_ret hf
  exact pw_iret hC hr hlocks hw dX2_refuse_11
theorem dX2_refuseLeftOver_0 : decode cX2_refuseLeftOver 0 = .ok (.aload_n 0, 1) := by decide +kernel
theorem dX2_refuseLeftOver_1 : decode cX2_refuseLeftOver 1 = .ok (.getfield 20, 3) := by decide +kernel
theorem dX2_refuseLeftOver_4 : decode cX2_refuseLeftOver 4 = .ok (.ifCond .ne 22, 3) := by decide +kernel
theorem dX2_refuseLeftOver_7 : decode cX2_refuseLeftOver 7 = .ok (.iload_n 1, 1) := by decide +kernel
theorem dX2_refuseLeftOver_8 : decode cX2_refuseLeftOver 8 = .ok (.aload_n 0, 1) := by decide +kernel
theorem dX2_refuseLeftOver_9 : decode cX2_refuseLeftOver 9 = .ok (.getfield 14, 3) := by decide +kernel
theorem dX2_refuseLeftOver_12 : decode cX2_refuseLeftOver 12 = .ok (.getfield 58, 3) := by decide +kernel
theorem dX2_refuseLeftOver_15 : decode cX2_refuseLeftOver 15 = .ok (.if_icmp .ge 11, 3) := by decide +kernel
theorem dX2_refuseLeftOver_18 : decode cX2_refuseLeftOver 18 = .ok (.aload_n 0, 1) := by decide +kernel
theorem dX2_refuseLeftOver_19 : decode cX2_refuseLeftOver 19 = .ok (.bipush 9, 2) := by decide +kernel
theorem dX2_refuseLeftOver_21 : decode cX2_refuseLeftOver 21 = .ok (.iload_n 1, 1) := by decide +kernel
theorem dX2_refuseLeftOver_22 : decode cX2_refuseLeftOver 22 = .ok (.invokevirtual 78, 3) := by decide +kernel
theorem dX2_refuseLeftOver_25 : decode cX2_refuseLeftOver 25 = .ok (.pop, 1) := by decide +kernel
theorem dX2_refuseLeftOver_26 : decode cX2_refuseLeftOver 26 = .ok (.return_, 1) := by decide +kernel
abbrev rm_X2_refuseLeftOver : Room := { frames := 1, cells := 0, slots := 0, locals := 22 }
def f_X2_refuseLeftOver (cy : Nat → ClassId) (a0 : Nat) (a1 : Int32) (μ : Mem) : Option Mem :=
  (rdI μ a0 1 1).bind fun v1 => if v1 = 0 then ((rdR μ a0 1 0).bind fun q4 => (rdI μ q4 4 1).bind fun v6 => if v6 ≤ a1 then (some μ) else if isO μ a0 1 = true then (ob2 (f_X2_refuse cy a0 9 a1 μ) fun r12 μ11 => some μ11) else none) else some μ
set_option maxRecDepth 100000 in
set_option maxHeartbeats 4000000 in
theorem c_X2_refuseLeftOver {l : Launch} {g : Wg} {L : List Nat} {μ : Mem} {a0 : Nat} {a1 : Int32} {μ' : Mem} (hf : f_X2_refuseLeftOver g.2 a0 a1 μ = some μ') : MetV l yX2_refuseLeftOver cX2_refuseLeftOver 2 none rm_X2_refuseLeftOver g L μ [.ref a0, .int a1] μ' := by
  refine pw_met (Qc := fun A => QV g L A μ') (by decide) (Nat.le_of_ble_eq_true rfl) ?_
  intro p e s m args below meth c A ls H locs hC hr hlocks hl hw
  have hx := hC.1
  have hb := hC.2.1
  have hl : lv_has ls 2 [(0, .ref a0), (1, .int a1)] := hl
  unfold f_X2_refuseLeftOver at hf
  refine lv_aload_n hx hb dX2_refuseLeftOver_0 rfl (lv_at hl 0 rfl) ?_
  obtain ⟨v1, h2, hf⟩ := o_bind hf
  refine pw_get hC fl_X2_20 hw (rdI_F h2) dX2_refuseLeftOver_1 ?_
  refine lv_if_ne (tgt := 26) hx hb dX2_refuseLeftOver_4 (by decide) (fun c3 => ?_) (fun c3 => ?_)
  · have hf := o_neg c3 hf
    obtain rfl := o_retv hf
    exact pw_vret hC hr hlocks hw dX2_refuseLeftOver_26
  · have hf := o_pos c3 hf
    refine lv_iload_n hx hb dX2_refuseLeftOver_7 rfl (lv_at hl 1 rfl) ?_
    refine lv_aload_n hx hb dX2_refuseLeftOver_8 rfl (lv_at hl 0 rfl) ?_
    obtain ⟨q4, h5, hf⟩ := o_bind hf
    refine pw_get hC fl_X2_14 hw (rdR_F h5) dX2_refuseLeftOver_9 ?_
    obtain ⟨v6, h7, hf⟩ := o_bind hf
    refine pw_get hC fl_X2_58 hw (rdI_F h7) dX2_refuseLeftOver_12 ?_
    refine lv_icmp_ge (tgt := 26) hx hb dX2_refuseLeftOver_15 (by decide) (fun c8 => ?_) (fun c8 => ?_)
    · have hf := o_pos c8 hf
      obtain rfl := o_retv hf
      exact pw_vret hC hr hlocks hw dX2_refuseLeftOver_26
    · have hf := o_neg c8 hf
      refine lv_aload_n hx hb dX2_refuseLeftOver_18 rfl (lv_at hl 0 rfl) ?_
      refine lv_bipush (v := 9) hx hb dX2_refuseLeftOver_19 nc_bipush_9 ?_
      refine lv_iload_n hx hb dX2_refuseLeftOver_21 rfl (lv_at hl 1 rfl) ?_
      obtain ⟨h10, hf⟩ := o_ite hf
      obtain ⟨r12, μ11, h9, hf⟩ := o_bind2 hf
      refine pw_goI hw (pw_runV (As := [.int 9, .int a1]) (rest := []) hC mm_X2_refuse tw_345 (c_X2_refuse h9 _) ⟨rfl, rfl, by decide, by decide⟩ hw h10 rfl hl.1 (Nat.le_of_ble_eq_true rfl) ⟨Nat.zero_le _, Nat.zero_le _⟩ rfl dX2_refuseLeftOver_22) (fun H locs hw => ?_)
      refine lv_pop hx hb dX2_refuseLeftOver_25 rfl ?_
      obtain rfl := o_retv hf
      exact pw_vret hC hr hlocks hw dX2_refuseLeftOver_26
theorem dX2_countLength_0 : decode cX2_countLength 0 = .ok (.aload_n 0, 1) := by decide +kernel
theorem dX2_countLength_1 : decode cX2_countLength 1 = .ok (.dup, 1) := by decide +kernel
theorem dX2_countLength_2 : decode cX2_countLength 2 = .ok (.getfield 39, 3) := by decide +kernel
theorem dX2_countLength_5 : decode cX2_countLength 5 = .ok (.iconst 1, 1) := by decide +kernel
theorem dX2_countLength_6 : decode cX2_countLength 6 = .ok (.iadd, 1) := by decide +kernel
theorem dX2_countLength_7 : decode cX2_countLength 7 = .ok (.putfield 39, 3) := by decide +kernel
theorem dX2_countLength_10 : decode cX2_countLength 10 = .ok (.aload_n 0, 1) := by decide +kernel
theorem dX2_countLength_11 : decode cX2_countLength 11 = .ok (.dup, 1) := by decide +kernel
theorem dX2_countLength_12 : decode cX2_countLength 12 = .ok (.getfield 42, 3) := by decide +kernel
theorem dX2_countLength_15 : decode cX2_countLength 15 = .ok (.iload_n 1, 1) := by decide +kernel
theorem dX2_countLength_16 : decode cX2_countLength 16 = .ok (.iadd, 1) := by decide +kernel
theorem dX2_countLength_17 : decode cX2_countLength 17 = .ok (.putfield 42, 3) := by decide +kernel
theorem dX2_countLength_20 : decode cX2_countLength 20 = .ok (.return_, 1) := by decide +kernel
abbrev rm_X2_countLength : Room := { frames := 0, cells := 0, slots := 0, locals := 0 }
def f_X2_countLength (cy : Nat → ClassId) (a0 : Nat) (a1 : Int32) (μ : Mem) : Option Mem :=
  (rdI μ a0 1 7).bind fun v1 => (wrF μ a0 1 7 (.int (v1 + 1))).bind fun μ3 => (rdI μ3 a0 1 8).bind fun v5 => (wrF μ3 a0 1 8 (.int (v5 + a1))).bind fun μ7 => some μ7
set_option maxRecDepth 100000 in
set_option maxHeartbeats 4000000 in
theorem c_X2_countLength {l : Launch} {g : Wg} {L : List Nat} {μ : Mem} {a0 : Nat} {a1 : Int32} {μ' : Mem} (hf : f_X2_countLength g.2 a0 a1 μ = some μ') : MetV l yX2_countLength cX2_countLength 2 none rm_X2_countLength g L μ [.ref a0, .int a1] μ' := by
  refine pw_met (Qc := fun A => QV g L A μ') (by decide) (Nat.le_of_ble_eq_true rfl) ?_
  intro p e s m args below meth c A ls H locs hC hr hlocks hl hw
  have hx := hC.1
  have hb := hC.2.1
  have hl : lv_has ls 2 [(0, .ref a0), (1, .int a1)] := hl
  unfold f_X2_countLength at hf
  refine lv_aload_n hx hb dX2_countLength_0 rfl (lv_at hl 0 rfl) ?_
  refine lv_dup hx hb dX2_countLength_1 rfl ?_
  obtain ⟨v1, h2, hf⟩ := o_bind hf
  refine pw_get hC fl_X2_39 hw (rdI_F h2) dX2_countLength_2 ?_
  refine lv_iconst (v := 1) hx hb dX2_countLength_5 nc_iconst_1 ?_
  refine lv_iadd hx hb dX2_countLength_6 ?_
  obtain ⟨μ3, h4, hf⟩ := o_bind hf
  refine pw_put hC fl_X2_39 hw h4 .int fd_X2_7 rfl rfl dX2_countLength_7 (fun H locs hw => ?_)
  refine lv_aload_n hx hb dX2_countLength_10 rfl (lv_at hl 0 rfl) ?_
  refine lv_dup hx hb dX2_countLength_11 rfl ?_
  obtain ⟨v5, h6, hf⟩ := o_bind hf
  refine pw_get hC fl_X2_42 hw (rdI_F h6) dX2_countLength_12 ?_
  refine lv_iload_n hx hb dX2_countLength_15 rfl (lv_at hl 1 rfl) ?_
  refine lv_iadd hx hb dX2_countLength_16 ?_
  obtain ⟨μ7, h8, hf⟩ := o_bind hf
  refine pw_put hC fl_X2_42 hw h8 .int fd_X2_8 rfl rfl dX2_countLength_17 (fun H locs hw => ?_)
  obtain rfl := o_retv hf
  exact pw_vret hC hr hlocks hw dX2_countLength_20
theorem dX2_readBytes_0 : decode cX2_readBytes 0 = .ok (.iload_n 1, 1) := by decide +kernel
theorem dX2_readBytes_1 : decode cX2_readBytes 1 = .ok (.iconst (-1), 1) := by decide +kernel
theorem dX2_readBytes_2 : decode cX2_readBytes 2 = .ok (.if_icmp .ne 5, 3) := by decide +kernel
theorem dX2_readBytes_5 : decode cX2_readBytes 5 = .ok (.iconst (-1), 1) := by decide +kernel
theorem dX2_readBytes_6 : decode cX2_readBytes 6 = .ok (.ireturn, 1) := by decide +kernel
theorem dX2_readBytes_7 : decode cX2_readBytes 7 = .ok (.iload_n 2, 1) := by decide +kernel
theorem dX2_readBytes_8 : decode cX2_readBytes 8 = .ok (.iload_n 3, 1) := by decide +kernel
theorem dX2_readBytes_9 : decode cX2_readBytes 9 = .ok (.iload_n 1, 1) := by decide +kernel
theorem dX2_readBytes_10 : decode cX2_readBytes 10 = .ok (.isub, 1) := by decide +kernel
theorem dX2_readBytes_11 : decode cX2_readBytes 11 = .ok (.if_icmp .le 12, 3) := by decide +kernel
theorem dX2_readBytes_14 : decode cX2_readBytes 14 = .ok (.aload_n 0, 1) := by decide +kernel
theorem dX2_readBytes_15 : decode cX2_readBytes 15 = .ok (.iconst 1, 1) := by decide +kernel
theorem dX2_readBytes_16 : decode cX2_readBytes 16 = .ok (.iload_n 1, 1) := by decide +kernel
theorem dX2_readBytes_17 : decode cX2_readBytes 17 = .ok (.invokevirtual 78, 3) := by decide +kernel
theorem dX2_readBytes_20 : decode cX2_readBytes 20 = .ok (.goto 6, 3) := by decide +kernel
theorem dX2_readBytes_23 : decode cX2_readBytes 23 = .ok (.iload_n 1, 1) := by decide +kernel
theorem dX2_readBytes_24 : decode cX2_readBytes 24 = .ok (.iload_n 2, 1) := by decide +kernel
theorem dX2_readBytes_25 : decode cX2_readBytes 25 = .ok (.iadd, 1) := by decide +kernel
theorem dX2_readBytes_26 : decode cX2_readBytes 26 = .ok (.ireturn, 1) := by decide +kernel
abbrev rm_X2_readBytes : Room := { frames := 1, cells := 0, slots := 0, locals := 22 }
def f_X2_readBytes (cy : Nat → ClassId) (a0 : Nat) (a1 : Int32) (a2 : Int32) (a3 : Int32) (μ : Mem) : Option (Int32 × Mem) :=
  if a1 = (-1) then (some ((-1), μ)) else if a2 ≤ (a3 - a1) then (some ((a1 + a2), μ)) else if isO μ a0 1 = true then (ob2 (f_X2_refuse cy a0 1 a1 μ) fun r6 μ5 => some (r6, μ5)) else none
set_option maxRecDepth 100000 in
set_option maxHeartbeats 4000000 in
theorem c_X2_readBytes {l : Launch} {g : Wg} {L : List Nat} {μ : Mem} {a0 : Nat} {a1 : Int32} {a2 : Int32} {a3 : Int32} {r : Int32} {μ' : Mem} (hf : f_X2_readBytes g.2 a0 a1 a2 a3 μ = some (r, μ')) : MetI l yX2_readBytes cX2_readBytes 4 (some .int) rm_X2_readBytes g L μ [.ref a0, .int a1, .int a2, .int a3] r μ' := by
  refine pw_met (Qc := fun A => QI g L A r μ') (by decide) (Nat.le_of_ble_eq_true rfl) ?_
  intro p e s m args below meth c A ls H locs hC hr hlocks hl hw
  have hx := hC.1
  have hb := hC.2.1
  have hl : lv_has ls 4 [(0, .ref a0), (1, .int a1), (2, .int a2), (3, .int a3)] := hl
  unfold f_X2_readBytes at hf
  refine lv_iload_n hx hb dX2_readBytes_0 rfl (lv_at hl 1 rfl) ?_
  refine lv_iconst (v := (-1)) hx hb dX2_readBytes_1 nc_iconst_m1 ?_
  refine lv_icmp_ne (tgt := 7) hx hb dX2_readBytes_2 (by decide) (fun c1 => ?_) (fun c1 => ?_)
  · have hf := o_neg c1 hf
    refine lv_iload_n hx hb dX2_readBytes_7 rfl (lv_at hl 2 rfl) ?_
    refine lv_iload_n hx hb dX2_readBytes_8 rfl (lv_at hl 3 rfl) ?_
    refine lv_iload_n hx hb dX2_readBytes_9 rfl (lv_at hl 1 rfl) ?_
    refine lv_isub hx hb dX2_readBytes_10 ?_
    refine lv_icmp_le (tgt := 23) hx hb dX2_readBytes_11 (by decide) (fun c2 => ?_) (fun c2 => ?_)
    · have hf := o_pos c2 hf
      refine lv_iload_n hx hb dX2_readBytes_23 rfl (lv_at hl 1 rfl) ?_
      refine lv_iload_n hx hb dX2_readBytes_24 rfl (lv_at hl 2 rfl) ?_
      refine lv_iadd hx hb dX2_readBytes_25 ?_
      obtain ⟨rfl, rfl⟩ := o_ret hf
      exact pw_iret hC hr hlocks hw dX2_readBytes_26
    · have hf := o_neg c2 hf
      refine lv_aload_n hx hb dX2_readBytes_14 rfl (lv_at hl 0 rfl) ?_
      refine lv_iconst (v := 1) hx hb dX2_readBytes_15 nc_iconst_1 ?_
      refine lv_iload_n hx hb dX2_readBytes_16 rfl (lv_at hl 1 rfl) ?_
      obtain ⟨h4, hf⟩ := o_ite hf
      obtain ⟨r6, μ5, h3, hf⟩ := o_bind2 hf
      refine pw_goI hw (pw_runV (As := [.int 1, .int a1]) (rest := []) hC mm_X2_refuse tw_345 (c_X2_refuse h3 _) ⟨rfl, rfl, by decide, by decide⟩ hw h4 rfl hl.1 (Nat.le_of_ble_eq_true rfl) ⟨Nat.zero_le _, Nat.zero_le _⟩ rfl dX2_readBytes_17) (fun H locs hw => ?_)
      refine lv_goto (tgt := 26) hx hb dX2_readBytes_20 (by decide) ?_
      obtain ⟨rfl, rfl⟩ := o_ret hf
      exact pw_iret hC hr hlocks hw dX2_readBytes_26
  · have hf := o_pos c1 hf
    refine lv_iconst (v := (-1)) hx hb dX2_readBytes_5 nc_iconst_m1 ?_
    obtain ⟨rfl, rfl⟩ := o_ret hf
    exact pw_iret hC hr hlocks hw dX2_readBytes_6
theorem dX2_readName_0 : decode cX2_readName 0 = .ok (.iload_n 1, 1) := by decide +kernel
theorem dX2_readName_1 : decode cX2_readName 1 = .ok (.iconst (-1), 1) := by decide +kernel
theorem dX2_readName_2 : decode cX2_readName 2 = .ok (.if_icmp .ne 5, 3) := by decide +kernel
theorem dX2_readName_5 : decode cX2_readName 5 = .ok (.iconst (-1), 1) := by decide +kernel
theorem dX2_readName_6 : decode cX2_readName 6 = .ok (.ireturn, 1) := by decide +kernel
theorem dX2_readName_7 : decode cX2_readName 7 = .ok (.aload_n 0, 1) := by decide +kernel
theorem dX2_readName_8 : decode cX2_readName 8 = .ok (.getfield 14, 3) := by decide +kernel
theorem dX2_readName_11 : decode cX2_readName 11 = .ok (.iload_n 1, 1) := by decide +kernel
theorem dX2_readName_12 : decode cX2_readName 12 = .ok (.iload_n 2, 1) := by decide +kernel
theorem dX2_readName_13 : decode cX2_readName 13 = .ok (.invokevirtual 91, 3) := by decide +kernel
theorem dX2_readName_16 : decode cX2_readName 16 = .ok (.istore_n 3, 1) := by decide +kernel
theorem dX2_readName_17 : decode cX2_readName 17 = .ok (.iload_n 3, 1) := by decide +kernel
theorem dX2_readName_18 : decode cX2_readName 18 = .ok (.iconst (-1), 1) := by decide +kernel
theorem dX2_readName_19 : decode cX2_readName 19 = .ok (.if_icmp .ne 10, 3) := by decide +kernel
theorem dX2_readName_22 : decode cX2_readName 22 = .ok (.aload_n 0, 1) := by decide +kernel
theorem dX2_readName_23 : decode cX2_readName 23 = .ok (.iconst 1, 1) := by decide +kernel
theorem dX2_readName_24 : decode cX2_readName 24 = .ok (.iload_n 1, 1) := by decide +kernel
theorem dX2_readName_25 : decode cX2_readName 25 = .ok (.invokevirtual 78, 3) := by decide +kernel
theorem dX2_readName_28 : decode cX2_readName 28 = .ok (.ireturn, 1) := by decide +kernel
theorem dX2_readName_29 : decode cX2_readName 29 = .ok (.aload_n 0, 1) := by decide +kernel
theorem dX2_readName_30 : decode cX2_readName 30 = .ok (.getfield 14, 3) := by decide +kernel
theorem dX2_readName_33 : decode cX2_readName 33 = .ok (.iload_n 1, 1) := by decide +kernel
theorem dX2_readName_34 : decode cX2_readName 34 = .ok (.iload_n 3, 1) := by decide +kernel
theorem dX2_readName_35 : decode cX2_readName 35 = .ok (.invokestatic 94, 3) := by decide +kernel
theorem dX2_readName_38 : decode cX2_readName 38 = .ok (.istore 4, 2) := by decide +kernel
theorem dX2_readName_40 : decode cX2_readName 40 = .ok (.iload 4, 2) := by decide +kernel
theorem dX2_readName_42 : decode cX2_readName 42 = .ok (.iconst (-1), 1) := by decide +kernel
theorem dX2_readName_43 : decode cX2_readName 43 = .ok (.if_icmp .ne 9, 3) := by decide +kernel
theorem dX2_readName_46 : decode cX2_readName 46 = .ok (.iload_n 3, 1) := by decide +kernel
theorem dX2_readName_47 : decode cX2_readName 47 = .ok (.iconst 1, 1) := by decide +kernel
theorem dX2_readName_48 : decode cX2_readName 48 = .ok (.iadd, 1) := by decide +kernel
theorem dX2_readName_49 : decode cX2_readName 49 = .ok (.goto 10, 3) := by decide +kernel
theorem dX2_readName_52 : decode cX2_readName 52 = .ok (.aload_n 0, 1) := by decide +kernel
theorem dX2_readName_53 : decode cX2_readName 53 = .ok (.iconst 5, 1) := by decide +kernel
theorem dX2_readName_54 : decode cX2_readName 54 = .ok (.iload 4, 2) := by decide +kernel
theorem dX2_readName_56 : decode cX2_readName 56 = .ok (.invokevirtual 78, 3) := by decide +kernel
theorem dX2_readName_59 : decode cX2_readName 59 = .ok (.ireturn, 1) := by decide +kernel
abbrev rm_X2_readName : Room := { frames := 3, cells := 0, slots := 0, locals := 69 }
def f_X2_readName (cy : Nat → ClassId) (a0 : Nat) (a1 : Int32) (a2 : Int32) (μ : Mem) : Option (Int32 × Mem) :=
  if a1 = (-1) then (some ((-1), μ)) else (rdR μ a0 1 0).bind fun q2 => if isO μ q2 4 = true then (ob2 (f_X5_zeroFrom cy q2 a1 a2 μ) fun r7 μ6 => if r7 = (-1) then (if isO μ6 a0 1 = true then (ob2 (f_X2_refuse cy a0 1 a1 μ6) fun r22 μ21 => some (r22, μ21)) else none) else (rdR μ6 a0 1 0).bind fun q9 => ob2 (f_X1_firstBadSign cy q9 a1 r7 μ6) fun r13 μ12 => if r13 = (-1) then (some ((r7 + 1), μ12)) else if isO μ12 a0 1 = true then (ob2 (f_X2_refuse cy a0 5 r13 μ12) fun r18 μ17 => some (r18, μ17)) else none) else none
set_option maxRecDepth 100000 in
set_option maxHeartbeats 4000000 in
theorem c_X2_readName {l : Launch} {g : Wg} {L : List Nat} {μ : Mem} {a0 : Nat} {a1 : Int32} {a2 : Int32} {r : Int32} {μ' : Mem} (hf : f_X2_readName g.2 a0 a1 a2 μ = some (r, μ')) : MetI l yX2_readName cX2_readName 5 (some .int) rm_X2_readName g L μ [.ref a0, .int a1, .int a2] r μ' := by
  refine pw_met (Qc := fun A => QI g L A r μ') (by decide) (Nat.le_of_ble_eq_true rfl) ?_
  intro p e s m args below meth c A ls H locs hC hr hlocks hl hw
  have hx := hC.1
  have hb := hC.2.1
  have hl : lv_has ls 5 [(0, .ref a0), (1, .int a1), (2, .int a2)] := hl
  unfold f_X2_readName at hf
  refine lv_iload_n hx hb dX2_readName_0 rfl (lv_at hl 1 rfl) ?_
  refine lv_iconst (v := (-1)) hx hb dX2_readName_1 nc_iconst_m1 ?_
  refine lv_icmp_ne (tgt := 7) hx hb dX2_readName_2 (by decide) (fun c1 => ?_) (fun c1 => ?_)
  · have hf := o_neg c1 hf
    refine lv_aload_n hx hb dX2_readName_7 rfl (lv_at hl 0 rfl) ?_
    obtain ⟨q2, h3, hf⟩ := o_bind hf
    refine pw_get hC fl_X2_14 hw (rdR_F h3) dX2_readName_8 ?_
    refine lv_iload_n hx hb dX2_readName_11 rfl (lv_at hl 1 rfl) ?_
    refine lv_iload_n hx hb dX2_readName_12 rfl (lv_at hl 2 rfl) ?_
    obtain ⟨h5, hf⟩ := o_ite hf
    obtain ⟨r7, μ6, h4, hf⟩ := o_bind2 hf
    refine pw_goI hw (pw_runV (As := [.int a1, .int a2]) (rest := []) hC mm_X5_zeroFrom tw_371 (c_X5_zeroFrom h4 _) ⟨rfl, rfl, by decide, by decide⟩ hw h5 rfl hl.1 (Nat.le_of_ble_eq_true rfl) ⟨Nat.zero_le _, Nat.zero_le _⟩ rfl dX2_readName_13) (fun H locs hw => ?_)
    refine lv_istore_n (lv' := [(3, .int r7), (0, .ref a0), (1, .int a1), (2, .int a2)]) hx hb dX2_readName_16 rfl hl (by decide) rfl (fun ls hl => ?_)
    refine lv_iload_n hx hb dX2_readName_17 rfl (lv_at hl 0 rfl) ?_
    refine lv_iconst (v := (-1)) hx hb dX2_readName_18 nc_iconst_m1 ?_
    refine lv_icmp_ne (tgt := 29) hx hb dX2_readName_19 (by decide) (fun c8 => ?_) (fun c8 => ?_)
    · have hf := o_neg c8 hf
      refine lv_aload_n hx hb dX2_readName_29 rfl (lv_at hl 1 rfl) ?_
      obtain ⟨q9, h10, hf⟩ := o_bind hf
      refine pw_get hC fl_X2_14 hw (rdR_F h10) dX2_readName_30 ?_
      refine lv_iload_n hx hb dX2_readName_33 rfl (lv_at hl 2 rfl) ?_
      refine lv_iload_n hx hb dX2_readName_34 rfl (lv_at hl 0 rfl) ?_
      obtain ⟨r13, μ12, h11, hf⟩ := o_bind2 hf
      refine pw_goI hw (pw_runS (As := [.ref q9, .int a1, .int r7]) (rest := []) hC mm_X1_firstBadSign tw_372 (c_X1_firstBadSign h11 _) ⟨rfl, rfl, by decide, by decide⟩ hw rfl hl.1 (Nat.le_of_ble_eq_true rfl) ⟨Nat.zero_le _, Nat.zero_le _⟩ rfl dX2_readName_35) (fun H locs hw => ?_)
      refine lv_istore (lv' := [(4, .int r13), (3, .int r7), (0, .ref a0), (1, .int a1), (2, .int a2)]) hx hb dX2_readName_38 hl (by decide) rfl (fun ls hl => ?_)
      refine lv_iload hx hb dX2_readName_40 (lv_at hl 0 rfl) ?_
      refine lv_iconst (v := (-1)) hx hb dX2_readName_42 nc_iconst_m1 ?_
      refine lv_icmp_ne (tgt := 52) hx hb dX2_readName_43 (by decide) (fun c14 => ?_) (fun c14 => ?_)
      · have hf := o_neg c14 hf
        refine lv_aload_n hx hb dX2_readName_52 rfl (lv_at hl 2 rfl) ?_
        refine lv_iconst (v := 5) hx hb dX2_readName_53 nc_iconst_5 ?_
        refine lv_iload hx hb dX2_readName_54 (lv_at hl 0 rfl) ?_
        obtain ⟨h16, hf⟩ := o_ite hf
        obtain ⟨r18, μ17, h15, hf⟩ := o_bind2 hf
        refine pw_goI hw (pw_runV (As := [.int 5, .int r13]) (rest := []) hC mm_X2_refuse tw_345 (c_X2_refuse h15 _) ⟨rfl, rfl, by decide, by decide⟩ hw h16 rfl hl.1 (Nat.le_of_ble_eq_true rfl) ⟨Nat.zero_le _, Nat.zero_le _⟩ rfl dX2_readName_56) (fun H locs hw => ?_)
        obtain ⟨rfl, rfl⟩ := o_ret hf
        exact pw_iret hC hr hlocks hw dX2_readName_59
      · have hf := o_pos c14 hf
        refine lv_iload_n hx hb dX2_readName_46 rfl (lv_at hl 1 rfl) ?_
        refine lv_iconst (v := 1) hx hb dX2_readName_47 nc_iconst_1 ?_
        refine lv_iadd hx hb dX2_readName_48 ?_
        refine lv_goto (tgt := 59) hx hb dX2_readName_49 (by decide) ?_
        obtain ⟨rfl, rfl⟩ := o_ret hf
        exact pw_iret hC hr hlocks hw dX2_readName_59
    · have hf := o_pos c8 hf
      refine lv_aload_n hx hb dX2_readName_22 rfl (lv_at hl 1 rfl) ?_
      refine lv_iconst (v := 1) hx hb dX2_readName_23 nc_iconst_1 ?_
      refine lv_iload_n hx hb dX2_readName_24 rfl (lv_at hl 2 rfl) ?_
      obtain ⟨h20, hf⟩ := o_ite hf
      obtain ⟨r22, μ21, h19, hf⟩ := o_bind2 hf
      refine pw_goI hw (pw_runV (As := [.int 1, .int a1]) (rest := []) hC mm_X2_refuse tw_345 (c_X2_refuse h19 _) ⟨rfl, rfl, by decide, by decide⟩ hw h20 rfl hl.1 (Nat.le_of_ble_eq_true rfl) ⟨Nat.zero_le _, Nat.zero_le _⟩ rfl dX2_readName_25) (fun H locs hw => ?_)
      obtain ⟨rfl, rfl⟩ := o_ret hf
      exact pw_iret hC hr hlocks hw dX2_readName_28
  · have hf := o_pos c1 hf
    refine lv_iconst (v := (-1)) hx hb dX2_readName_5 nc_iconst_m1 ?_
    obtain ⟨rfl, rfl⟩ := o_ret hf
    exact pw_iret hC hr hlocks hw dX2_readName_6
theorem dX2_readRowName_0 : decode cX2_readRowName 0 = .ok (.aload_n 0, 1) := by decide +kernel
theorem dX2_readRowName_1 : decode cX2_readRowName 1 = .ok (.getfield 14, 3) := by decide +kernel
theorem dX2_readRowName_4 : decode cX2_readRowName 4 = .ok (.iload_n 1, 1) := by decide +kernel
theorem dX2_readRowName_5 : decode cX2_readRowName 5 = .ok (.iload_n 2, 1) := by decide +kernel
theorem dX2_readRowName_6 : decode cX2_readRowName 6 = .ok (.invokevirtual 91, 3) := by decide +kernel
theorem dX2_readRowName_9 : decode cX2_readRowName 9 = .ok (.istore 4, 2) := by decide +kernel
theorem dX2_readRowName_11 : decode cX2_readRowName 11 = .ok (.iload 4, 2) := by decide +kernel
theorem dX2_readRowName_13 : decode cX2_readRowName 13 = .ok (.iconst (-1), 1) := by decide +kernel
theorem dX2_readRowName_14 : decode cX2_readRowName 14 = .ok (.if_icmp .ne 10, 3) := by decide +kernel
theorem dX2_readRowName_17 : decode cX2_readRowName 17 = .ok (.aload_n 0, 1) := by decide +kernel
theorem dX2_readRowName_18 : decode cX2_readRowName 18 = .ok (.iconst 1, 1) := by decide +kernel
theorem dX2_readRowName_19 : decode cX2_readRowName 19 = .ok (.iload_n 1, 1) := by decide +kernel
theorem dX2_readRowName_20 : decode cX2_readRowName 20 = .ok (.invokevirtual 78, 3) := by decide +kernel
theorem dX2_readRowName_23 : decode cX2_readRowName 23 = .ok (.ireturn, 1) := by decide +kernel
theorem dX2_readRowName_24 : decode cX2_readRowName 24 = .ok (.aload_n 0, 1) := by decide +kernel
theorem dX2_readRowName_25 : decode cX2_readRowName 25 = .ok (.getfield 14, 3) := by decide +kernel
theorem dX2_readRowName_28 : decode cX2_readRowName 28 = .ok (.iload_n 1, 1) := by decide +kernel
theorem dX2_readRowName_29 : decode cX2_readRowName 29 = .ok (.iload 4, 2) := by decide +kernel
theorem dX2_readRowName_31 : decode cX2_readRowName 31 = .ok (.iload_n 3, 1) := by decide +kernel
theorem dX2_readRowName_32 : decode cX2_readRowName 32 = .ok (.invokestatic 98, 3) := by decide +kernel
theorem dX2_readRowName_35 : decode cX2_readRowName 35 = .ok (.ifCond .eq 10, 3) := by decide +kernel
theorem dX2_readRowName_38 : decode cX2_readRowName 38 = .ok (.iload 4, 2) := by decide +kernel
theorem dX2_readRowName_40 : decode cX2_readRowName 40 = .ok (.iconst 1, 1) := by decide +kernel
theorem dX2_readRowName_41 : decode cX2_readRowName 41 = .ok (.iadd, 1) := by decide +kernel
theorem dX2_readRowName_42 : decode cX2_readRowName 42 = .ok (.goto 10, 3) := by decide +kernel
theorem dX2_readRowName_45 : decode cX2_readRowName 45 = .ok (.aload_n 0, 1) := by decide +kernel
theorem dX2_readRowName_46 : decode cX2_readRowName 46 = .ok (.bipush 6, 2) := by decide +kernel
theorem dX2_readRowName_48 : decode cX2_readRowName 48 = .ok (.iload_n 1, 1) := by decide +kernel
theorem dX2_readRowName_49 : decode cX2_readRowName 49 = .ok (.invokevirtual 78, 3) := by decide +kernel
theorem dX2_readRowName_52 : decode cX2_readRowName 52 = .ok (.ireturn, 1) := by decide +kernel
abbrev rm_X2_readRowName : Room := { frames := 2, cells := 0, slots := 0, locals := 49 }
def f_X2_readRowName (cy : Nat → ClassId) (a0 : Nat) (a1 : Int32) (a2 : Int32) (a3 : Int32) (μ : Mem) : Option (Int32 × Mem) :=
  (rdR μ a0 1 0).bind fun q1 => if isO μ q1 4 = true then (ob2 (f_X5_zeroFrom cy q1 a1 a2 μ) fun r6 μ5 => if r6 = (-1) then (if isO μ5 a0 1 = true then (ob2 (f_X2_refuse cy a0 1 a1 μ5) fun r21 μ20 => some (r21, μ20)) else none) else (rdR μ5 a0 1 0).bind fun q8 => ob2 (f_X1_isRowName cy q8 a1 r6 a3 μ5) fun r12 μ11 => if r12 = 0 then (if isO μ11 a0 1 = true then (ob2 (f_X2_refuse cy a0 6 a1 μ11) fun r17 μ16 => some (r17, μ16)) else none) else some ((r6 + 1), μ11)) else none
set_option maxRecDepth 100000 in
set_option maxHeartbeats 4000000 in
theorem c_X2_readRowName {l : Launch} {g : Wg} {L : List Nat} {μ : Mem} {a0 : Nat} {a1 : Int32} {a2 : Int32} {a3 : Int32} {r : Int32} {μ' : Mem} (hf : f_X2_readRowName g.2 a0 a1 a2 a3 μ = some (r, μ')) : MetI l yX2_readRowName cX2_readRowName 5 (some .int) rm_X2_readRowName g L μ [.ref a0, .int a1, .int a2, .int a3] r μ' := by
  refine pw_met (Qc := fun A => QI g L A r μ') (by decide) (Nat.le_of_ble_eq_true rfl) ?_
  intro p e s m args below meth c A ls H locs hC hr hlocks hl hw
  have hx := hC.1
  have hb := hC.2.1
  have hl : lv_has ls 5 [(0, .ref a0), (1, .int a1), (2, .int a2), (3, .int a3)] := hl
  unfold f_X2_readRowName at hf
  refine lv_aload_n hx hb dX2_readRowName_0 rfl (lv_at hl 0 rfl) ?_
  obtain ⟨q1, h2, hf⟩ := o_bind hf
  refine pw_get hC fl_X2_14 hw (rdR_F h2) dX2_readRowName_1 ?_
  refine lv_iload_n hx hb dX2_readRowName_4 rfl (lv_at hl 1 rfl) ?_
  refine lv_iload_n hx hb dX2_readRowName_5 rfl (lv_at hl 2 rfl) ?_
  obtain ⟨h4, hf⟩ := o_ite hf
  obtain ⟨r6, μ5, h3, hf⟩ := o_bind2 hf
  refine pw_goI hw (pw_runV (As := [.int a1, .int a2]) (rest := []) hC mm_X5_zeroFrom tw_371 (c_X5_zeroFrom h3 _) ⟨rfl, rfl, by decide, by decide⟩ hw h4 rfl hl.1 (Nat.le_of_ble_eq_true rfl) ⟨Nat.zero_le _, Nat.zero_le _⟩ rfl dX2_readRowName_6) (fun H locs hw => ?_)
  refine lv_istore (lv' := [(4, .int r6), (0, .ref a0), (1, .int a1), (2, .int a2), (3, .int a3)]) hx hb dX2_readRowName_9 hl (by decide) rfl (fun ls hl => ?_)
  refine lv_iload hx hb dX2_readRowName_11 (lv_at hl 0 rfl) ?_
  refine lv_iconst (v := (-1)) hx hb dX2_readRowName_13 nc_iconst_m1 ?_
  refine lv_icmp_ne (tgt := 24) hx hb dX2_readRowName_14 (by decide) (fun c7 => ?_) (fun c7 => ?_)
  · have hf := o_neg c7 hf
    refine lv_aload_n hx hb dX2_readRowName_24 rfl (lv_at hl 1 rfl) ?_
    obtain ⟨q8, h9, hf⟩ := o_bind hf
    refine pw_get hC fl_X2_14 hw (rdR_F h9) dX2_readRowName_25 ?_
    refine lv_iload_n hx hb dX2_readRowName_28 rfl (lv_at hl 2 rfl) ?_
    refine lv_iload hx hb dX2_readRowName_29 (lv_at hl 0 rfl) ?_
    refine lv_iload_n hx hb dX2_readRowName_31 rfl (lv_at hl 4 rfl) ?_
    obtain ⟨r12, μ11, h10, hf⟩ := o_bind2 hf
    refine pw_goI hw (pw_runS (As := [.ref q8, .int a1, .int r6, .int a3]) (rest := []) hC mm_X1_isRowName tw_386 (c_X1_isRowName h10 _) ⟨rfl, rfl, by decide, by decide⟩ hw rfl hl.1 (Nat.le_of_ble_eq_true rfl) ⟨Nat.zero_le _, Nat.zero_le _⟩ rfl dX2_readRowName_32) (fun H locs hw => ?_)
    refine lv_if_eq (tgt := 45) hx hb dX2_readRowName_35 (by decide) (fun c13 => ?_) (fun c13 => ?_)
    · have hf := o_pos c13 hf
      refine lv_aload_n hx hb dX2_readRowName_45 rfl (lv_at hl 1 rfl) ?_
      refine lv_bipush (v := 6) hx hb dX2_readRowName_46 nc_bipush_6 ?_
      refine lv_iload_n hx hb dX2_readRowName_48 rfl (lv_at hl 2 rfl) ?_
      obtain ⟨h15, hf⟩ := o_ite hf
      obtain ⟨r17, μ16, h14, hf⟩ := o_bind2 hf
      refine pw_goI hw (pw_runV (As := [.int 6, .int a1]) (rest := []) hC mm_X2_refuse tw_345 (c_X2_refuse h14 _) ⟨rfl, rfl, by decide, by decide⟩ hw h15 rfl hl.1 (Nat.le_of_ble_eq_true rfl) ⟨Nat.zero_le _, Nat.zero_le _⟩ rfl dX2_readRowName_49) (fun H locs hw => ?_)
      obtain ⟨rfl, rfl⟩ := o_ret hf
      exact pw_iret hC hr hlocks hw dX2_readRowName_52
    · have hf := o_neg c13 hf
      refine lv_iload hx hb dX2_readRowName_38 (lv_at hl 0 rfl) ?_
      refine lv_iconst (v := 1) hx hb dX2_readRowName_40 nc_iconst_1 ?_
      refine lv_iadd hx hb dX2_readRowName_41 ?_
      refine lv_goto (tgt := 52) hx hb dX2_readRowName_42 (by decide) ?_
      obtain ⟨rfl, rfl⟩ := o_ret hf
      exact pw_iret hC hr hlocks hw dX2_readRowName_52
  · have hf := o_pos c7 hf
    refine lv_aload_n hx hb dX2_readRowName_17 rfl (lv_at hl 1 rfl) ?_
    refine lv_iconst (v := 1) hx hb dX2_readRowName_18 nc_iconst_1 ?_
    refine lv_iload_n hx hb dX2_readRowName_19 rfl (lv_at hl 2 rfl) ?_
    obtain ⟨h19, hf⟩ := o_ite hf
    obtain ⟨r21, μ20, h18, hf⟩ := o_bind2 hf
    refine pw_goI hw (pw_runV (As := [.int 1, .int a1]) (rest := []) hC mm_X2_refuse tw_345 (c_X2_refuse h18 _) ⟨rfl, rfl, by decide, by decide⟩ hw h19 rfl hl.1 (Nat.le_of_ble_eq_true rfl) ⟨Nat.zero_le _, Nat.zero_le _⟩ rfl dX2_readRowName_20) (fun H locs hw => ?_)
    obtain ⟨rfl, rfl⟩ := o_ret hf
    exact pw_iret hC hr hlocks hw dX2_readRowName_23
theorem dX2_readText_0 : decode cX2_readText 0 = .ok (.aload_n 0, 1) := by decide +kernel
theorem dX2_readText_1 : decode cX2_readText 1 = .ok (.iload_n 1, 1) := by decide +kernel
theorem dX2_readText_2 : decode cX2_readText 2 = .ok (.iconst 4, 1) := by decide +kernel
theorem dX2_readText_3 : decode cX2_readText 3 = .ok (.iload_n 2, 1) := by decide +kernel
theorem dX2_readText_4 : decode cX2_readText 4 = .ok (.invokevirtual 102, 3) := by decide +kernel
theorem dX2_readText_7 : decode cX2_readText 7 = .ok (.iconst (-1), 1) := by decide +kernel
theorem dX2_readText_8 : decode cX2_readText 8 = .ok (.if_icmp .ne 5, 3) := by decide +kernel
theorem dX2_readText_11 : decode cX2_readText 11 = .ok (.iconst (-1), 1) := by decide +kernel
theorem dX2_readText_12 : decode cX2_readText 12 = .ok (.ireturn, 1) := by decide +kernel
theorem dX2_readText_13 : decode cX2_readText 13 = .ok (.aload_n 0, 1) := by decide +kernel
theorem dX2_readText_14 : decode cX2_readText 14 = .ok (.getfield 14, 3) := by decide +kernel
theorem dX2_readText_17 : decode cX2_readText 17 = .ok (.iload_n 1, 1) := by decide +kernel
theorem dX2_readText_18 : decode cX2_readText 18 = .ok (.invokevirtual 106, 3) := by decide +kernel
theorem dX2_readText_21 : decode cX2_readText 21 = .ok (.istore_n 3, 1) := by decide +kernel
theorem dX2_readText_22 : decode cX2_readText 22 = .ok (.iload_n 3, 1) := by decide +kernel
theorem dX2_readText_23 : decode cX2_readText 23 = .ok (.iconst 1, 1) := by decide +kernel
theorem dX2_readText_24 : decode cX2_readText 24 = .ok (.if_icmp .ge 10, 3) := by decide +kernel
theorem dX2_readText_27 : decode cX2_readText 27 = .ok (.aload_n 0, 1) := by decide +kernel
theorem dX2_readText_28 : decode cX2_readText 28 = .ok (.iconst 2, 1) := by decide +kernel
theorem dX2_readText_29 : decode cX2_readText 29 = .ok (.iload_n 1, 1) := by decide +kernel
theorem dX2_readText_30 : decode cX2_readText 30 = .ok (.invokevirtual 78, 3) := by decide +kernel
theorem dX2_readText_33 : decode cX2_readText 33 = .ok (.ireturn, 1) := by decide +kernel
theorem dX2_readText_34 : decode cX2_readText 34 = .ok (.iload_n 3, 1) := by decide +kernel
theorem dX2_readText_35 : decode cX2_readText 35 = .ok (.iload_n 2, 1) := by decide +kernel
theorem dX2_readText_36 : decode cX2_readText 36 = .ok (.iload_n 1, 1) := by decide +kernel
theorem dX2_readText_37 : decode cX2_readText 37 = .ok (.isub, 1) := by decide +kernel
theorem dX2_readText_38 : decode cX2_readText 38 = .ok (.iconst 4, 1) := by decide +kernel
theorem dX2_readText_39 : decode cX2_readText 39 = .ok (.isub, 1) := by decide +kernel
theorem dX2_readText_40 : decode cX2_readText 40 = .ok (.if_icmp .le 10, 3) := by decide +kernel
theorem dX2_readText_43 : decode cX2_readText 43 = .ok (.aload_n 0, 1) := by decide +kernel
theorem dX2_readText_44 : decode cX2_readText 44 = .ok (.iconst 1, 1) := by decide +kernel
theorem dX2_readText_45 : decode cX2_readText 45 = .ok (.iload_n 1, 1) := by decide +kernel
theorem dX2_readText_46 : decode cX2_readText 46 = .ok (.invokevirtual 78, 3) := by decide +kernel
theorem dX2_readText_49 : decode cX2_readText 49 = .ok (.ireturn, 1) := by decide +kernel
theorem dX2_readText_50 : decode cX2_readText 50 = .ok (.iload_n 1, 1) := by decide +kernel
theorem dX2_readText_51 : decode cX2_readText 51 = .ok (.iconst 3, 1) := by decide +kernel
theorem dX2_readText_52 : decode cX2_readText 52 = .ok (.iadd, 1) := by decide +kernel
theorem dX2_readText_53 : decode cX2_readText 53 = .ok (.iload_n 3, 1) := by decide +kernel
theorem dX2_readText_54 : decode cX2_readText 54 = .ok (.iadd, 1) := by decide +kernel
theorem dX2_readText_55 : decode cX2_readText 55 = .ok (.istore 4, 2) := by decide +kernel
theorem dX2_readText_57 : decode cX2_readText 57 = .ok (.aload_n 0, 1) := by decide +kernel
theorem dX2_readText_58 : decode cX2_readText 58 = .ok (.getfield 14, 3) := by decide +kernel
theorem dX2_readText_61 : decode cX2_readText 61 = .ok (.iload 4, 2) := by decide +kernel
theorem dX2_readText_63 : decode cX2_readText 63 = .ok (.invokevirtual 110, 3) := by decide +kernel
theorem dX2_readText_66 : decode cX2_readText 66 = .ok (.ifCond .eq 11, 3) := by decide +kernel
theorem dX2_readText_69 : decode cX2_readText 69 = .ok (.aload_n 0, 1) := by decide +kernel
theorem dX2_readText_70 : decode cX2_readText 70 = .ok (.iconst 4, 1) := by decide +kernel
theorem dX2_readText_71 : decode cX2_readText 71 = .ok (.iload 4, 2) := by decide +kernel
theorem dX2_readText_73 : decode cX2_readText 73 = .ok (.invokevirtual 78, 3) := by decide +kernel
theorem dX2_readText_76 : decode cX2_readText 76 = .ok (.ireturn, 1) := by decide +kernel
theorem dX2_readText_77 : decode cX2_readText 77 = .ok (.aload_n 0, 1) := by decide +kernel
theorem dX2_readText_78 : decode cX2_readText 78 = .ok (.getfield 14, 3) := by decide +kernel
theorem dX2_readText_81 : decode cX2_readText 81 = .ok (.iload_n 1, 1) := by decide +kernel
theorem dX2_readText_82 : decode cX2_readText 82 = .ok (.iconst 4, 1) := by decide +kernel
theorem dX2_readText_83 : decode cX2_readText 83 = .ok (.iadd, 1) := by decide +kernel
theorem dX2_readText_84 : decode cX2_readText 84 = .ok (.iload 4, 2) := by decide +kernel
theorem dX2_readText_86 : decode cX2_readText 86 = .ok (.invokestatic 94, 3) := by decide +kernel
theorem dX2_readText_89 : decode cX2_readText 89 = .ok (.istore 5, 2) := by decide +kernel
theorem dX2_readText_91 : decode cX2_readText 91 = .ok (.iload 5, 2) := by decide +kernel
theorem dX2_readText_93 : decode cX2_readText 93 = .ok (.iconst (-1), 1) := by decide +kernel
theorem dX2_readText_94 : decode cX2_readText 94 = .ok (.if_icmp .eq 11, 3) := by decide +kernel
theorem dX2_readText_97 : decode cX2_readText 97 = .ok (.aload_n 0, 1) := by decide +kernel
theorem dX2_readText_98 : decode cX2_readText 98 = .ok (.iconst 5, 1) := by decide +kernel
theorem dX2_readText_99 : decode cX2_readText 99 = .ok (.iload 5, 2) := by decide +kernel
theorem dX2_readText_101 : decode cX2_readText 101 = .ok (.invokevirtual 78, 3) := by decide +kernel
theorem dX2_readText_104 : decode cX2_readText 104 = .ok (.ireturn, 1) := by decide +kernel
theorem dX2_readText_105 : decode cX2_readText 105 = .ok (.aload_n 0, 1) := by decide +kernel
theorem dX2_readText_106 : decode cX2_readText 106 = .ok (.iload_n 3, 1) := by decide +kernel
theorem dX2_readText_107 : decode cX2_readText 107 = .ok (.invokevirtual 113, 3) := by decide +kernel
theorem dX2_readText_110 : decode cX2_readText 110 = .ok (.iload 4, 2) := by decide +kernel
theorem dX2_readText_112 : decode cX2_readText 112 = .ok (.iconst 1, 1) := by decide +kernel
theorem dX2_readText_113 : decode cX2_readText 113 = .ok (.iadd, 1) := by decide +kernel
theorem dX2_readText_114 : decode cX2_readText 114 = .ok (.ireturn, 1) := by decide +kernel
abbrev rm_X2_readText : Room := { frames := 3, cells := 0, slots := 0, locals := 69 }
def f_X2_readText (cy : Nat → ClassId) (a0 : Nat) (a1 : Int32) (a2 : Int32) (μ : Mem) : Option (Int32 × Mem) :=
  if isO μ a0 1 = true then (ob2 (f_X2_readBytes cy a0 a1 4 a2 μ) fun r4 μ3 => if r4 = (-1) then (some ((-1), μ3)) else (rdR μ3 a0 1 0).bind fun q6 => if isO μ3 q6 4 = true then (ob2 (f_X5_intAt cy q6 a1 μ3) fun r11 μ10 => if 1 ≤ r11 then (if r11 ≤ ((a2 - a1) - 4) then ((rdR μ10 a0 1 0).bind fun q14 => if isO μ10 q14 4 = true then (ob2 (f_X5_at cy q14 ((a1 + 3) + r11) μ10) fun r19 μ18 => if r19 = 0 then ((rdR μ18 a0 1 0).bind fun q21 => ob2 (f_X1_firstBadSign cy q21 (a1 + 4) ((a1 + 3) + r11) μ18) fun r25 μ24 => if r25 = (-1) then (if isO μ24 a0 1 = true then ((f_X2_countLength cy a0 r11 μ24).bind fun μ29 => some ((((a1 + 3) + r11) + 1), μ29)) else none) else if isO μ24 a0 1 = true then (ob2 (f_X2_refuse cy a0 5 r25 μ24) fun r33 μ32 => some (r33, μ32)) else none) else if isO μ18 a0 1 = true then (ob2 (f_X2_refuse cy a0 4 ((a1 + 3) + r11) μ18) fun r37 μ36 => some (r37, μ36)) else none) else none) else if isO μ10 a0 1 = true then (ob2 (f_X2_refuse cy a0 1 a1 μ10) fun r41 μ40 => some (r41, μ40)) else none) else if isO μ10 a0 1 = true then (ob2 (f_X2_refuse cy a0 2 a1 μ10) fun r45 μ44 => some (r45, μ44)) else none) else none) else none
set_option maxRecDepth 100000 in
set_option maxHeartbeats 4000000 in
theorem c_X2_readText {l : Launch} {g : Wg} {L : List Nat} {μ : Mem} {a0 : Nat} {a1 : Int32} {a2 : Int32} {r : Int32} {μ' : Mem} (hf : f_X2_readText g.2 a0 a1 a2 μ = some (r, μ')) : MetI l yX2_readText cX2_readText 6 (some .int) rm_X2_readText g L μ [.ref a0, .int a1, .int a2] r μ' := by
  refine pw_met (Qc := fun A => QI g L A r μ') (by decide) (Nat.le_of_ble_eq_true rfl) ?_
  intro p e s m args below meth c A ls H locs hC hr hlocks hl hw
  have hx := hC.1
  have hb := hC.2.1
  have hl : lv_has ls 6 [(0, .ref a0), (1, .int a1), (2, .int a2)] := hl
  unfold f_X2_readText at hf
  refine lv_aload_n hx hb dX2_readText_0 rfl (lv_at hl 0 rfl) ?_
  refine lv_iload_n hx hb dX2_readText_1 rfl (lv_at hl 1 rfl) ?_
  refine lv_iconst (v := 4) hx hb dX2_readText_2 nc_iconst_4 ?_
  refine lv_iload_n hx hb dX2_readText_3 rfl (lv_at hl 2 rfl) ?_
  obtain ⟨h2, hf⟩ := o_ite hf
  obtain ⟨r4, μ3, h1, hf⟩ := o_bind2 hf
  refine pw_goI hw (pw_runV (As := [.int a1, .int 4, .int a2]) (rest := []) hC mm_X2_readBytes tw_349 (c_X2_readBytes h1 _) ⟨rfl, rfl, by decide, by decide⟩ hw h2 rfl hl.1 (Nat.le_of_ble_eq_true rfl) ⟨Nat.zero_le _, Nat.zero_le _⟩ rfl dX2_readText_4) (fun H locs hw => ?_)
  refine lv_iconst (v := (-1)) hx hb dX2_readText_7 nc_iconst_m1 ?_
  refine lv_icmp_ne (tgt := 13) hx hb dX2_readText_8 (by decide) (fun c5 => ?_) (fun c5 => ?_)
  · have hf := o_neg c5 hf
    refine lv_aload_n hx hb dX2_readText_13 rfl (lv_at hl 0 rfl) ?_
    obtain ⟨q6, h7, hf⟩ := o_bind hf
    refine pw_get hC fl_X2_14 hw (rdR_F h7) dX2_readText_14 ?_
    refine lv_iload_n hx hb dX2_readText_17 rfl (lv_at hl 1 rfl) ?_
    obtain ⟨h9, hf⟩ := o_ite hf
    obtain ⟨r11, μ10, h8, hf⟩ := o_bind2 hf
    refine pw_goI hw (pw_runV (As := [.int a1]) (rest := []) hC mm_X5_intAt tw_353 (c_X5_intAt h8 _) ⟨rfl, rfl, by decide, by decide⟩ hw h9 rfl hl.1 (Nat.le_of_ble_eq_true rfl) ⟨Nat.zero_le _, Nat.zero_le _⟩ rfl dX2_readText_18) (fun H locs hw => ?_)
    refine lv_istore_n (lv' := [(3, .int r11), (0, .ref a0), (1, .int a1), (2, .int a2)]) hx hb dX2_readText_21 rfl hl (by decide) rfl (fun ls hl => ?_)
    refine lv_iload_n hx hb dX2_readText_22 rfl (lv_at hl 0 rfl) ?_
    refine lv_iconst (v := 1) hx hb dX2_readText_23 nc_iconst_1 ?_
    refine lv_icmp_ge (tgt := 34) hx hb dX2_readText_24 (by decide) (fun c12 => ?_) (fun c12 => ?_)
    · have hf := o_pos c12 hf
      refine lv_iload_n hx hb dX2_readText_34 rfl (lv_at hl 0 rfl) ?_
      refine lv_iload_n hx hb dX2_readText_35 rfl (lv_at hl 3 rfl) ?_
      refine lv_iload_n hx hb dX2_readText_36 rfl (lv_at hl 2 rfl) ?_
      refine lv_isub hx hb dX2_readText_37 ?_
      refine lv_iconst (v := 4) hx hb dX2_readText_38 nc_iconst_4 ?_
      refine lv_isub hx hb dX2_readText_39 ?_
      refine lv_icmp_le (tgt := 50) hx hb dX2_readText_40 (by decide) (fun c13 => ?_) (fun c13 => ?_)
      · have hf := o_pos c13 hf
        refine lv_iload_n hx hb dX2_readText_50 rfl (lv_at hl 2 rfl) ?_
        refine lv_iconst (v := 3) hx hb dX2_readText_51 nc_iconst_3 ?_
        refine lv_iadd hx hb dX2_readText_52 ?_
        refine lv_iload_n hx hb dX2_readText_53 rfl (lv_at hl 0 rfl) ?_
        refine lv_iadd hx hb dX2_readText_54 ?_
        refine lv_istore (lv' := [(4, .int ((a1 + 3) + r11)), (3, .int r11), (0, .ref a0), (1, .int a1), (2, .int a2)]) hx hb dX2_readText_55 hl (by decide) rfl (fun ls hl => ?_)
        refine lv_aload_n hx hb dX2_readText_57 rfl (lv_at hl 2 rfl) ?_
        obtain ⟨q14, h15, hf⟩ := o_bind hf
        refine pw_get hC fl_X2_14 hw (rdR_F h15) dX2_readText_58 ?_
        refine lv_iload hx hb dX2_readText_61 (lv_at hl 0 rfl) ?_
        obtain ⟨h17, hf⟩ := o_ite hf
        obtain ⟨r19, μ18, h16, hf⟩ := o_bind2 hf
        refine pw_goI hw (pw_runV (As := [.int ((a1 + 3) + r11)]) (rest := []) hC mm_X5_at tw_363 (c_X5_at h16 _) ⟨rfl, rfl, by decide, by decide⟩ hw h17 rfl hl.1 (Nat.le_of_ble_eq_true rfl) ⟨Nat.zero_le _, Nat.zero_le _⟩ rfl dX2_readText_63) (fun H locs hw => ?_)
        refine lv_if_eq (tgt := 77) hx hb dX2_readText_66 (by decide) (fun c20 => ?_) (fun c20 => ?_)
        · have hf := o_pos c20 hf
          refine lv_aload_n hx hb dX2_readText_77 rfl (lv_at hl 2 rfl) ?_
          obtain ⟨q21, h22, hf⟩ := o_bind hf
          refine pw_get hC fl_X2_14 hw (rdR_F h22) dX2_readText_78 ?_
          refine lv_iload_n hx hb dX2_readText_81 rfl (lv_at hl 3 rfl) ?_
          refine lv_iconst (v := 4) hx hb dX2_readText_82 nc_iconst_4 ?_
          refine lv_iadd hx hb dX2_readText_83 ?_
          refine lv_iload hx hb dX2_readText_84 (lv_at hl 0 rfl) ?_
          obtain ⟨r25, μ24, h23, hf⟩ := o_bind2 hf
          refine pw_goI hw (pw_runS (As := [.ref q21, .int (a1 + 4), .int ((a1 + 3) + r11)]) (rest := []) hC mm_X1_firstBadSign tw_372 (c_X1_firstBadSign h23 _) ⟨rfl, rfl, by decide, by decide⟩ hw rfl hl.1 (Nat.le_of_ble_eq_true rfl) ⟨Nat.zero_le _, Nat.zero_le _⟩ rfl dX2_readText_86) (fun H locs hw => ?_)
          refine lv_istore (lv' := [(5, .int r25), (4, .int ((a1 + 3) + r11)), (3, .int r11), (0, .ref a0), (1, .int a1), (2, .int a2)]) hx hb dX2_readText_89 hl (by decide) rfl (fun ls hl => ?_)
          refine lv_iload hx hb dX2_readText_91 (lv_at hl 0 rfl) ?_
          refine lv_iconst (v := (-1)) hx hb dX2_readText_93 nc_iconst_m1 ?_
          refine lv_icmp_eq (tgt := 105) hx hb dX2_readText_94 (by decide) (fun c26 => ?_) (fun c26 => ?_)
          · have hf := o_pos c26 hf
            refine lv_aload_n hx hb dX2_readText_105 rfl (lv_at hl 3 rfl) ?_
            refine lv_iload_n hx hb dX2_readText_106 rfl (lv_at hl 2 rfl) ?_
            obtain ⟨h28, hf⟩ := o_ite hf
            obtain ⟨μ29, h27, hf⟩ := o_bind hf
            refine pw_goV hw (pw_runV (As := [.int r11]) (rest := []) hC mm_X2_countLength tw_355 (c_X2_countLength h27 _) ⟨rfl, rfl, by decide, by decide⟩ hw h28 rfl hl.1 (Nat.le_of_ble_eq_true rfl) ⟨Nat.zero_le _, Nat.zero_le _⟩ rfl dX2_readText_107) (fun H locs hw => ?_)
            refine lv_iload hx hb dX2_readText_110 (lv_at hl 1 rfl) ?_
            refine lv_iconst (v := 1) hx hb dX2_readText_112 nc_iconst_1 ?_
            refine lv_iadd hx hb dX2_readText_113 ?_
            obtain ⟨rfl, rfl⟩ := o_ret hf
            exact pw_iret hC hr hlocks hw dX2_readText_114
          · have hf := o_neg c26 hf
            refine lv_aload_n hx hb dX2_readText_97 rfl (lv_at hl 3 rfl) ?_
            refine lv_iconst (v := 5) hx hb dX2_readText_98 nc_iconst_5 ?_
            refine lv_iload hx hb dX2_readText_99 (lv_at hl 0 rfl) ?_
            obtain ⟨h31, hf⟩ := o_ite hf
            obtain ⟨r33, μ32, h30, hf⟩ := o_bind2 hf
            refine pw_goI hw (pw_runV (As := [.int 5, .int r25]) (rest := []) hC mm_X2_refuse tw_345 (c_X2_refuse h30 _) ⟨rfl, rfl, by decide, by decide⟩ hw h31 rfl hl.1 (Nat.le_of_ble_eq_true rfl) ⟨Nat.zero_le _, Nat.zero_le _⟩ rfl dX2_readText_101) (fun H locs hw => ?_)
            obtain ⟨rfl, rfl⟩ := o_ret hf
            exact pw_iret hC hr hlocks hw dX2_readText_104
        · have hf := o_neg c20 hf
          refine lv_aload_n hx hb dX2_readText_69 rfl (lv_at hl 2 rfl) ?_
          refine lv_iconst (v := 4) hx hb dX2_readText_70 nc_iconst_4 ?_
          refine lv_iload hx hb dX2_readText_71 (lv_at hl 0 rfl) ?_
          obtain ⟨h35, hf⟩ := o_ite hf
          obtain ⟨r37, μ36, h34, hf⟩ := o_bind2 hf
          refine pw_goI hw (pw_runV (As := [.int 4, .int ((a1 + 3) + r11)]) (rest := []) hC mm_X2_refuse tw_345 (c_X2_refuse h34 _) ⟨rfl, rfl, by decide, by decide⟩ hw h35 rfl hl.1 (Nat.le_of_ble_eq_true rfl) ⟨Nat.zero_le _, Nat.zero_le _⟩ rfl dX2_readText_73) (fun H locs hw => ?_)
          obtain ⟨rfl, rfl⟩ := o_ret hf
          exact pw_iret hC hr hlocks hw dX2_readText_76
      · have hf := o_neg c13 hf
        refine lv_aload_n hx hb dX2_readText_43 rfl (lv_at hl 1 rfl) ?_
        refine lv_iconst (v := 1) hx hb dX2_readText_44 nc_iconst_1 ?_
        refine lv_iload_n hx hb dX2_readText_45 rfl (lv_at hl 2 rfl) ?_
        obtain ⟨h39, hf⟩ := o_ite hf
        obtain ⟨r41, μ40, h38, hf⟩ := o_bind2 hf
        refine pw_goI hw (pw_runV (As := [.int 1, .int a1]) (rest := []) hC mm_X2_refuse tw_345 (c_X2_refuse h38 _) ⟨rfl, rfl, by decide, by decide⟩ hw h39 rfl hl.1 (Nat.le_of_ble_eq_true rfl) ⟨Nat.zero_le _, Nat.zero_le _⟩ rfl dX2_readText_46) (fun H locs hw => ?_)
        obtain ⟨rfl, rfl⟩ := o_ret hf
        exact pw_iret hC hr hlocks hw dX2_readText_49
    · have hf := o_neg c12 hf
      refine lv_aload_n hx hb dX2_readText_27 rfl (lv_at hl 1 rfl) ?_
      refine lv_iconst (v := 2) hx hb dX2_readText_28 nc_iconst_2 ?_
      refine lv_iload_n hx hb dX2_readText_29 rfl (lv_at hl 2 rfl) ?_
      obtain ⟨h43, hf⟩ := o_ite hf
      obtain ⟨r45, μ44, h42, hf⟩ := o_bind2 hf
      refine pw_goI hw (pw_runV (As := [.int 2, .int a1]) (rest := []) hC mm_X2_refuse tw_345 (c_X2_refuse h42 _) ⟨rfl, rfl, by decide, by decide⟩ hw h43 rfl hl.1 (Nat.le_of_ble_eq_true rfl) ⟨Nat.zero_le _, Nat.zero_le _⟩ rfl dX2_readText_30) (fun H locs hw => ?_)
      obtain ⟨rfl, rfl⟩ := o_ret hf
      exact pw_iret hC hr hlocks hw dX2_readText_33
  · have hf := o_pos c5 hf
    refine lv_iconst (v := (-1)) hx hb dX2_readText_11 nc_iconst_m1 ?_
    obtain ⟨rfl, rfl⟩ := o_ret hf
    exact pw_iret hC hr hlocks hw dX2_readText_12
theorem dX2_readBinary_0 : decode cX2_readBinary 0 = .ok (.aload_n 0, 1) := by decide +kernel
theorem dX2_readBinary_1 : decode cX2_readBinary 1 = .ok (.iload_n 1, 1) := by decide +kernel
theorem dX2_readBinary_2 : decode cX2_readBinary 2 = .ok (.iconst 4, 1) := by decide +kernel
theorem dX2_readBinary_3 : decode cX2_readBinary 3 = .ok (.iload_n 2, 1) := by decide +kernel
theorem dX2_readBinary_4 : decode cX2_readBinary 4 = .ok (.invokevirtual 102, 3) := by decide +kernel
theorem dX2_readBinary_7 : decode cX2_readBinary 7 = .ok (.iconst (-1), 1) := by decide +kernel
theorem dX2_readBinary_8 : decode cX2_readBinary 8 = .ok (.if_icmp .ne 5, 3) := by decide +kernel
theorem dX2_readBinary_11 : decode cX2_readBinary 11 = .ok (.iconst (-1), 1) := by decide +kernel
theorem dX2_readBinary_12 : decode cX2_readBinary 12 = .ok (.ireturn, 1) := by decide +kernel
theorem dX2_readBinary_13 : decode cX2_readBinary 13 = .ok (.aload_n 0, 1) := by decide +kernel
theorem dX2_readBinary_14 : decode cX2_readBinary 14 = .ok (.getfield 14, 3) := by decide +kernel
theorem dX2_readBinary_17 : decode cX2_readBinary 17 = .ok (.iload_n 1, 1) := by decide +kernel
theorem dX2_readBinary_18 : decode cX2_readBinary 18 = .ok (.invokevirtual 106, 3) := by decide +kernel
theorem dX2_readBinary_21 : decode cX2_readBinary 21 = .ok (.istore_n 3, 1) := by decide +kernel
theorem dX2_readBinary_22 : decode cX2_readBinary 22 = .ok (.iload_n 3, 1) := by decide +kernel
theorem dX2_readBinary_23 : decode cX2_readBinary 23 = .ok (.ifCond .ge 10, 3) := by decide +kernel
theorem dX2_readBinary_26 : decode cX2_readBinary 26 = .ok (.aload_n 0, 1) := by decide +kernel
theorem dX2_readBinary_27 : decode cX2_readBinary 27 = .ok (.iconst 2, 1) := by decide +kernel
theorem dX2_readBinary_28 : decode cX2_readBinary 28 = .ok (.iload_n 1, 1) := by decide +kernel
theorem dX2_readBinary_29 : decode cX2_readBinary 29 = .ok (.invokevirtual 78, 3) := by decide +kernel
theorem dX2_readBinary_32 : decode cX2_readBinary 32 = .ok (.ireturn, 1) := by decide +kernel
theorem dX2_readBinary_33 : decode cX2_readBinary 33 = .ok (.iload_n 3, 1) := by decide +kernel
theorem dX2_readBinary_34 : decode cX2_readBinary 34 = .ok (.iload_n 2, 1) := by decide +kernel
theorem dX2_readBinary_35 : decode cX2_readBinary 35 = .ok (.iload_n 1, 1) := by decide +kernel
theorem dX2_readBinary_36 : decode cX2_readBinary 36 = .ok (.isub, 1) := by decide +kernel
theorem dX2_readBinary_37 : decode cX2_readBinary 37 = .ok (.iconst 5, 1) := by decide +kernel
theorem dX2_readBinary_38 : decode cX2_readBinary 38 = .ok (.isub, 1) := by decide +kernel
theorem dX2_readBinary_39 : decode cX2_readBinary 39 = .ok (.if_icmp .le 10, 3) := by decide +kernel
theorem dX2_readBinary_42 : decode cX2_readBinary 42 = .ok (.aload_n 0, 1) := by decide +kernel
theorem dX2_readBinary_43 : decode cX2_readBinary 43 = .ok (.iconst 1, 1) := by decide +kernel
theorem dX2_readBinary_44 : decode cX2_readBinary 44 = .ok (.iload_n 1, 1) := by decide +kernel
theorem dX2_readBinary_45 : decode cX2_readBinary 45 = .ok (.invokevirtual 78, 3) := by decide +kernel
theorem dX2_readBinary_48 : decode cX2_readBinary 48 = .ok (.ireturn, 1) := by decide +kernel
theorem dX2_readBinary_49 : decode cX2_readBinary 49 = .ok (.aload_n 0, 1) := by decide +kernel
theorem dX2_readBinary_50 : decode cX2_readBinary 50 = .ok (.iload_n 3, 1) := by decide +kernel
theorem dX2_readBinary_51 : decode cX2_readBinary 51 = .ok (.invokevirtual 113, 3) := by decide +kernel
theorem dX2_readBinary_54 : decode cX2_readBinary 54 = .ok (.aload_n 0, 1) := by decide +kernel
theorem dX2_readBinary_55 : decode cX2_readBinary 55 = .ok (.getfield 14, 3) := by decide +kernel
theorem dX2_readBinary_58 : decode cX2_readBinary 58 = .ok (.iload_n 1, 1) := by decide +kernel
theorem dX2_readBinary_59 : decode cX2_readBinary 59 = .ok (.iconst 4, 1) := by decide +kernel
theorem dX2_readBinary_60 : decode cX2_readBinary 60 = .ok (.iadd, 1) := by decide +kernel
theorem dX2_readBinary_61 : decode cX2_readBinary 61 = .ok (.invokevirtual 110, 3) := by decide +kernel
theorem dX2_readBinary_64 : decode cX2_readBinary 64 = .ok (.iconst 2, 1) := by decide +kernel
theorem dX2_readBinary_65 : decode cX2_readBinary 65 = .ok (.if_icmp .ne 47, 3) := by decide +kernel
theorem dX2_readBinary_68 : decode cX2_readBinary 68 = .ok (.iload_n 3, 1) := by decide +kernel
theorem dX2_readBinary_69 : decode cX2_readBinary 69 = .ok (.iconst 4, 1) := by decide +kernel
theorem dX2_readBinary_70 : decode cX2_readBinary 70 = .ok (.if_icmp .ge 10, 3) := by decide +kernel
theorem dX2_readBinary_73 : decode cX2_readBinary 73 = .ok (.aload_n 0, 1) := by decide +kernel
theorem dX2_readBinary_74 : decode cX2_readBinary 74 = .ok (.iconst 2, 1) := by decide +kernel
theorem dX2_readBinary_75 : decode cX2_readBinary 75 = .ok (.iload_n 1, 1) := by decide +kernel
theorem dX2_readBinary_76 : decode cX2_readBinary 76 = .ok (.invokevirtual 78, 3) := by decide +kernel
theorem dX2_readBinary_79 : decode cX2_readBinary 79 = .ok (.ireturn, 1) := by decide +kernel
theorem dX2_readBinary_80 : decode cX2_readBinary 80 = .ok (.aload_n 0, 1) := by decide +kernel
theorem dX2_readBinary_81 : decode cX2_readBinary 81 = .ok (.getfield 14, 3) := by decide +kernel
theorem dX2_readBinary_84 : decode cX2_readBinary 84 = .ok (.iload_n 1, 1) := by decide +kernel
theorem dX2_readBinary_85 : decode cX2_readBinary 85 = .ok (.iconst 5, 1) := by decide +kernel
theorem dX2_readBinary_86 : decode cX2_readBinary 86 = .ok (.iadd, 1) := by decide +kernel
theorem dX2_readBinary_87 : decode cX2_readBinary 87 = .ok (.invokevirtual 106, 3) := by decide +kernel
theorem dX2_readBinary_90 : decode cX2_readBinary 90 = .ok (.iload_n 3, 1) := by decide +kernel
theorem dX2_readBinary_91 : decode cX2_readBinary 91 = .ok (.iconst 4, 1) := by decide +kernel
theorem dX2_readBinary_92 : decode cX2_readBinary 92 = .ok (.isub, 1) := by decide +kernel
theorem dX2_readBinary_93 : decode cX2_readBinary 93 = .ok (.if_icmp .eq 12, 3) := by decide +kernel
theorem dX2_readBinary_96 : decode cX2_readBinary 96 = .ok (.aload_n 0, 1) := by decide +kernel
theorem dX2_readBinary_97 : decode cX2_readBinary 97 = .ok (.iconst 2, 1) := by decide +kernel
theorem dX2_readBinary_98 : decode cX2_readBinary 98 = .ok (.iload_n 1, 1) := by decide +kernel
theorem dX2_readBinary_99 : decode cX2_readBinary 99 = .ok (.iconst 5, 1) := by decide +kernel
theorem dX2_readBinary_100 : decode cX2_readBinary 100 = .ok (.iadd, 1) := by decide +kernel
theorem dX2_readBinary_101 : decode cX2_readBinary 101 = .ok (.invokevirtual 78, 3) := by decide +kernel
theorem dX2_readBinary_104 : decode cX2_readBinary 104 = .ok (.ireturn, 1) := by decide +kernel
theorem dX2_readBinary_105 : decode cX2_readBinary 105 = .ok (.aload_n 0, 1) := by decide +kernel
theorem dX2_readBinary_106 : decode cX2_readBinary 106 = .ok (.iload_n 3, 1) := by decide +kernel
theorem dX2_readBinary_107 : decode cX2_readBinary 107 = .ok (.iconst 4, 1) := by decide +kernel
theorem dX2_readBinary_108 : decode cX2_readBinary 108 = .ok (.isub, 1) := by decide +kernel
theorem dX2_readBinary_109 : decode cX2_readBinary 109 = .ok (.invokevirtual 113, 3) := by decide +kernel
theorem dX2_readBinary_112 : decode cX2_readBinary 112 = .ok (.iload_n 1, 1) := by decide +kernel
theorem dX2_readBinary_113 : decode cX2_readBinary 113 = .ok (.iconst 5, 1) := by decide +kernel
theorem dX2_readBinary_114 : decode cX2_readBinary 114 = .ok (.iadd, 1) := by decide +kernel
theorem dX2_readBinary_115 : decode cX2_readBinary 115 = .ok (.iload_n 3, 1) := by decide +kernel
theorem dX2_readBinary_116 : decode cX2_readBinary 116 = .ok (.iadd, 1) := by decide +kernel
theorem dX2_readBinary_117 : decode cX2_readBinary 117 = .ok (.ireturn, 1) := by decide +kernel
abbrev rm_X2_readBinary : Room := { frames := 2, cells := 0, slots := 0, locals := 45 }
def f_X2_readBinary_L112 (cy : Nat → ClassId) (a1 : Int32) (a3 : Int32) (μ : Mem) : Option (Int32 × Mem) :=
  some (((a1 + 5) + a3), μ)
set_option maxRecDepth 100000 in
set_option maxHeartbeats 4000000 in
theorem w_X2_readBinary_L112 {p : Program} {l : Launch} {e : Env} {s : State} {m : MethodId} {args : Array Value} {below : List Frame} {meth : Method} {c : Code} {A : Nat → Prop} {g : Wg} {L : List Nat} {r : Int32} {μ' : Mem} (hC : CX p m c cX2_readBinary 4 s args RX2) (hr : meth.sig.returnType = (some .int)) (hlocks : meth.locks = false) : ∀ (a1 : Int32) (a3 : Int32) (μ : Mem) (H : Heap) (locs : List Loc) (ls : Array Slot), lv_has ls 4 [(1, .int a1), (3, .int a3)] → PW g L μ A s H locs → f_X2_readBinary_L112 g.2 a1 a3 μ = some (r, μ') → W p l e rm_X2_readBinary s m args below meth c H locs 0 0 (MQ below (QI g L A r μ') args s 0 0 A) (F0 m 112 ls []) := by
  have hx := hC.1
  have hb := hC.2.1
  intro a1 a3 μ H locs ls hl hw hf
  unfold f_X2_readBinary_L112 at hf
  refine lv_iload_n hx hb dX2_readBinary_112 rfl (lv_at hl 0 rfl) ?_
  refine lv_iconst (v := 5) hx hb dX2_readBinary_113 nc_iconst_5 ?_
  refine lv_iadd hx hb dX2_readBinary_114 ?_
  refine lv_iload_n hx hb dX2_readBinary_115 rfl (lv_at hl 1 rfl) ?_
  refine lv_iadd hx hb dX2_readBinary_116 ?_
  obtain ⟨rfl, rfl⟩ := o_ret hf
  exact pw_iret hC hr hlocks hw dX2_readBinary_117
def f_X2_readBinary (cy : Nat → ClassId) (a0 : Nat) (a1 : Int32) (a2 : Int32) (μ : Mem) : Option (Int32 × Mem) :=
  if isO μ a0 1 = true then (ob2 (f_X2_readBytes cy a0 a1 4 a2 μ) fun r4 μ3 => if r4 = (-1) then (some ((-1), μ3)) else (rdR μ3 a0 1 0).bind fun q6 => if isO μ3 q6 4 = true then (ob2 (f_X5_intAt cy q6 a1 μ3) fun r11 μ10 => if 0 ≤ r11 then (if r11 ≤ ((a2 - a1) - 5) then (if isO μ10 a0 1 = true then ((f_X2_countLength cy a0 r11 μ10).bind fun μ16 => (rdR μ16 a0 1 0).bind fun q17 => if isO μ16 q17 4 = true then (ob2 (f_X5_at cy q17 (a1 + 4) μ16) fun r22 μ21 => if r22 = 2 then (if 4 ≤ r11 then ((rdR μ21 a0 1 0).bind fun q25 => if isO μ21 q25 4 = true then (ob2 (f_X5_intAt cy q25 (a1 + 5) μ21) fun r30 μ29 => if r30 = (r11 - 4) then (if isO μ29 a0 1 = true then ((f_X2_countLength cy a0 (r11 - 4) μ29).bind fun μ34 => f_X2_readBinary_L112 cy a1 r11 μ34) else none) else if isO μ29 a0 1 = true then (ob2 (f_X2_refuse cy a0 2 (a1 + 5) μ29) fun r38 μ37 => some (r38, μ37)) else none) else none) else if isO μ21 a0 1 = true then (ob2 (f_X2_refuse cy a0 2 a1 μ21) fun r42 μ41 => some (r42, μ41)) else none) else f_X2_readBinary_L112 cy a1 r11 μ21) else none) else none) else if isO μ10 a0 1 = true then (ob2 (f_X2_refuse cy a0 1 a1 μ10) fun r46 μ45 => some (r46, μ45)) else none) else if isO μ10 a0 1 = true then (ob2 (f_X2_refuse cy a0 2 a1 μ10) fun r50 μ49 => some (r50, μ49)) else none) else none) else none
set_option maxRecDepth 100000 in
set_option maxHeartbeats 4000000 in
theorem c_X2_readBinary {l : Launch} {g : Wg} {L : List Nat} {μ : Mem} {a0 : Nat} {a1 : Int32} {a2 : Int32} {r : Int32} {μ' : Mem} (hf : f_X2_readBinary g.2 a0 a1 a2 μ = some (r, μ')) : MetI l yX2_readBinary cX2_readBinary 4 (some .int) rm_X2_readBinary g L μ [.ref a0, .int a1, .int a2] r μ' := by
  refine pw_met (Qc := fun A => QI g L A r μ') (by decide) (Nat.le_of_ble_eq_true rfl) ?_
  intro p e s m args below meth c A ls H locs hC hr hlocks hl hw
  have hx := hC.1
  have hb := hC.2.1
  have hl : lv_has ls 4 [(0, .ref a0), (1, .int a1), (2, .int a2)] := hl
  unfold f_X2_readBinary at hf
  refine lv_aload_n hx hb dX2_readBinary_0 rfl (lv_at hl 0 rfl) ?_
  refine lv_iload_n hx hb dX2_readBinary_1 rfl (lv_at hl 1 rfl) ?_
  refine lv_iconst (v := 4) hx hb dX2_readBinary_2 nc_iconst_4 ?_
  refine lv_iload_n hx hb dX2_readBinary_3 rfl (lv_at hl 2 rfl) ?_
  obtain ⟨h2, hf⟩ := o_ite hf
  obtain ⟨r4, μ3, h1, hf⟩ := o_bind2 hf
  refine pw_goI hw (pw_runV (As := [.int a1, .int 4, .int a2]) (rest := []) hC mm_X2_readBytes tw_349 (c_X2_readBytes h1 _) ⟨rfl, rfl, by decide, by decide⟩ hw h2 rfl hl.1 (Nat.le_of_ble_eq_true rfl) ⟨Nat.zero_le _, Nat.zero_le _⟩ rfl dX2_readBinary_4) (fun H locs hw => ?_)
  refine lv_iconst (v := (-1)) hx hb dX2_readBinary_7 nc_iconst_m1 ?_
  refine lv_icmp_ne (tgt := 13) hx hb dX2_readBinary_8 (by decide) (fun c5 => ?_) (fun c5 => ?_)
  · have hf := o_neg c5 hf
    refine lv_aload_n hx hb dX2_readBinary_13 rfl (lv_at hl 0 rfl) ?_
    obtain ⟨q6, h7, hf⟩ := o_bind hf
    refine pw_get hC fl_X2_14 hw (rdR_F h7) dX2_readBinary_14 ?_
    refine lv_iload_n hx hb dX2_readBinary_17 rfl (lv_at hl 1 rfl) ?_
    obtain ⟨h9, hf⟩ := o_ite hf
    obtain ⟨r11, μ10, h8, hf⟩ := o_bind2 hf
    refine pw_goI hw (pw_runV (As := [.int a1]) (rest := []) hC mm_X5_intAt tw_353 (c_X5_intAt h8 _) ⟨rfl, rfl, by decide, by decide⟩ hw h9 rfl hl.1 (Nat.le_of_ble_eq_true rfl) ⟨Nat.zero_le _, Nat.zero_le _⟩ rfl dX2_readBinary_18) (fun H locs hw => ?_)
    refine lv_istore_n (lv' := [(3, .int r11), (0, .ref a0), (1, .int a1), (2, .int a2)]) hx hb dX2_readBinary_21 rfl hl (by decide) rfl (fun ls hl => ?_)
    refine lv_iload_n hx hb dX2_readBinary_22 rfl (lv_at hl 0 rfl) ?_
    refine lv_if_ge (tgt := 33) hx hb dX2_readBinary_23 (by decide) (fun c12 => ?_) (fun c12 => ?_)
    · have hf := o_pos c12 hf
      refine lv_iload_n hx hb dX2_readBinary_33 rfl (lv_at hl 0 rfl) ?_
      refine lv_iload_n hx hb dX2_readBinary_34 rfl (lv_at hl 3 rfl) ?_
      refine lv_iload_n hx hb dX2_readBinary_35 rfl (lv_at hl 2 rfl) ?_
      refine lv_isub hx hb dX2_readBinary_36 ?_
      refine lv_iconst (v := 5) hx hb dX2_readBinary_37 nc_iconst_5 ?_
      refine lv_isub hx hb dX2_readBinary_38 ?_
      refine lv_icmp_le (tgt := 49) hx hb dX2_readBinary_39 (by decide) (fun c13 => ?_) (fun c13 => ?_)
      · have hf := o_pos c13 hf
        refine lv_aload_n hx hb dX2_readBinary_49 rfl (lv_at hl 1 rfl) ?_
        refine lv_iload_n hx hb dX2_readBinary_50 rfl (lv_at hl 0 rfl) ?_
        obtain ⟨h15, hf⟩ := o_ite hf
        obtain ⟨μ16, h14, hf⟩ := o_bind hf
        refine pw_goV hw (pw_runV (As := [.int r11]) (rest := []) hC mm_X2_countLength tw_355 (c_X2_countLength h14 _) ⟨rfl, rfl, by decide, by decide⟩ hw h15 rfl hl.1 (Nat.le_of_ble_eq_true rfl) ⟨Nat.zero_le _, Nat.zero_le _⟩ rfl dX2_readBinary_51) (fun H locs hw => ?_)
        refine lv_aload_n hx hb dX2_readBinary_54 rfl (lv_at hl 1 rfl) ?_
        obtain ⟨q17, h18, hf⟩ := o_bind hf
        refine pw_get hC fl_X2_14 hw (rdR_F h18) dX2_readBinary_55 ?_
        refine lv_iload_n hx hb dX2_readBinary_58 rfl (lv_at hl 2 rfl) ?_
        refine lv_iconst (v := 4) hx hb dX2_readBinary_59 nc_iconst_4 ?_
        refine lv_iadd hx hb dX2_readBinary_60 ?_
        obtain ⟨h20, hf⟩ := o_ite hf
        obtain ⟨r22, μ21, h19, hf⟩ := o_bind2 hf
        refine pw_goI hw (pw_runV (As := [.int (a1 + 4)]) (rest := []) hC mm_X5_at tw_363 (c_X5_at h19 _) ⟨rfl, rfl, by decide, by decide⟩ hw h20 rfl hl.1 (Nat.le_of_ble_eq_true rfl) ⟨Nat.zero_le _, Nat.zero_le _⟩ rfl dX2_readBinary_61) (fun H locs hw => ?_)
        refine lv_iconst (v := 2) hx hb dX2_readBinary_64 nc_iconst_2 ?_
        refine lv_icmp_ne (tgt := 112) hx hb dX2_readBinary_65 (by decide) (fun c23 => ?_) (fun c23 => ?_)
        · have hf := o_neg c23 hf
          exact w_X2_readBinary_L112 hC hr hlocks _ _ _ _ _ ls (lv_sub hl [2, 0] rfl) hw hf
        · have hf := o_pos c23 hf
          refine lv_iload_n hx hb dX2_readBinary_68 rfl (lv_at hl 0 rfl) ?_
          refine lv_iconst (v := 4) hx hb dX2_readBinary_69 nc_iconst_4 ?_
          refine lv_icmp_ge (tgt := 80) hx hb dX2_readBinary_70 (by decide) (fun c24 => ?_) (fun c24 => ?_)
          · have hf := o_pos c24 hf
            refine lv_aload_n hx hb dX2_readBinary_80 rfl (lv_at hl 1 rfl) ?_
            obtain ⟨q25, h26, hf⟩ := o_bind hf
            refine pw_get hC fl_X2_14 hw (rdR_F h26) dX2_readBinary_81 ?_
            refine lv_iload_n hx hb dX2_readBinary_84 rfl (lv_at hl 2 rfl) ?_
            refine lv_iconst (v := 5) hx hb dX2_readBinary_85 nc_iconst_5 ?_
            refine lv_iadd hx hb dX2_readBinary_86 ?_
            obtain ⟨h28, hf⟩ := o_ite hf
            obtain ⟨r30, μ29, h27, hf⟩ := o_bind2 hf
            refine pw_goI hw (pw_runV (As := [.int (a1 + 5)]) (rest := []) hC mm_X5_intAt tw_353 (c_X5_intAt h27 _) ⟨rfl, rfl, by decide, by decide⟩ hw h28 rfl hl.1 (Nat.le_of_ble_eq_true rfl) ⟨Nat.zero_le _, Nat.zero_le _⟩ rfl dX2_readBinary_87) (fun H locs hw => ?_)
            refine lv_iload_n hx hb dX2_readBinary_90 rfl (lv_at hl 0 rfl) ?_
            refine lv_iconst (v := 4) hx hb dX2_readBinary_91 nc_iconst_4 ?_
            refine lv_isub hx hb dX2_readBinary_92 ?_
            refine lv_icmp_eq (tgt := 105) hx hb dX2_readBinary_93 (by decide) (fun c31 => ?_) (fun c31 => ?_)
            · have hf := o_pos c31 hf
              refine lv_aload_n hx hb dX2_readBinary_105 rfl (lv_at hl 1 rfl) ?_
              refine lv_iload_n hx hb dX2_readBinary_106 rfl (lv_at hl 0 rfl) ?_
              refine lv_iconst (v := 4) hx hb dX2_readBinary_107 nc_iconst_4 ?_
              refine lv_isub hx hb dX2_readBinary_108 ?_
              obtain ⟨h33, hf⟩ := o_ite hf
              obtain ⟨μ34, h32, hf⟩ := o_bind hf
              refine pw_goV hw (pw_runV (As := [.int (r11 - 4)]) (rest := []) hC mm_X2_countLength tw_355 (c_X2_countLength h32 _) ⟨rfl, rfl, by decide, by decide⟩ hw h33 rfl hl.1 (Nat.le_of_ble_eq_true rfl) ⟨Nat.zero_le _, Nat.zero_le _⟩ rfl dX2_readBinary_109) (fun H locs hw => ?_)
              exact w_X2_readBinary_L112 hC hr hlocks _ _ _ _ _ ls (lv_sub hl [2, 0] rfl) hw hf
            · have hf := o_neg c31 hf
              refine lv_aload_n hx hb dX2_readBinary_96 rfl (lv_at hl 1 rfl) ?_
              refine lv_iconst (v := 2) hx hb dX2_readBinary_97 nc_iconst_2 ?_
              refine lv_iload_n hx hb dX2_readBinary_98 rfl (lv_at hl 2 rfl) ?_
              refine lv_iconst (v := 5) hx hb dX2_readBinary_99 nc_iconst_5 ?_
              refine lv_iadd hx hb dX2_readBinary_100 ?_
              obtain ⟨h36, hf⟩ := o_ite hf
              obtain ⟨r38, μ37, h35, hf⟩ := o_bind2 hf
              refine pw_goI hw (pw_runV (As := [.int 2, .int (a1 + 5)]) (rest := []) hC mm_X2_refuse tw_345 (c_X2_refuse h35 _) ⟨rfl, rfl, by decide, by decide⟩ hw h36 rfl hl.1 (Nat.le_of_ble_eq_true rfl) ⟨Nat.zero_le _, Nat.zero_le _⟩ rfl dX2_readBinary_101) (fun H locs hw => ?_)
              obtain ⟨rfl, rfl⟩ := o_ret hf
              exact pw_iret hC hr hlocks hw dX2_readBinary_104
          · have hf := o_neg c24 hf
            refine lv_aload_n hx hb dX2_readBinary_73 rfl (lv_at hl 1 rfl) ?_
            refine lv_iconst (v := 2) hx hb dX2_readBinary_74 nc_iconst_2 ?_
            refine lv_iload_n hx hb dX2_readBinary_75 rfl (lv_at hl 2 rfl) ?_
            obtain ⟨h40, hf⟩ := o_ite hf
            obtain ⟨r42, μ41, h39, hf⟩ := o_bind2 hf
            refine pw_goI hw (pw_runV (As := [.int 2, .int a1]) (rest := []) hC mm_X2_refuse tw_345 (c_X2_refuse h39 _) ⟨rfl, rfl, by decide, by decide⟩ hw h40 rfl hl.1 (Nat.le_of_ble_eq_true rfl) ⟨Nat.zero_le _, Nat.zero_le _⟩ rfl dX2_readBinary_76) (fun H locs hw => ?_)
            obtain ⟨rfl, rfl⟩ := o_ret hf
            exact pw_iret hC hr hlocks hw dX2_readBinary_79
      · have hf := o_neg c13 hf
        refine lv_aload_n hx hb dX2_readBinary_42 rfl (lv_at hl 1 rfl) ?_
        refine lv_iconst (v := 1) hx hb dX2_readBinary_43 nc_iconst_1 ?_
        refine lv_iload_n hx hb dX2_readBinary_44 rfl (lv_at hl 2 rfl) ?_
        obtain ⟨h44, hf⟩ := o_ite hf
        obtain ⟨r46, μ45, h43, hf⟩ := o_bind2 hf
        refine pw_goI hw (pw_runV (As := [.int 1, .int a1]) (rest := []) hC mm_X2_refuse tw_345 (c_X2_refuse h43 _) ⟨rfl, rfl, by decide, by decide⟩ hw h44 rfl hl.1 (Nat.le_of_ble_eq_true rfl) ⟨Nat.zero_le _, Nat.zero_le _⟩ rfl dX2_readBinary_45) (fun H locs hw => ?_)
        obtain ⟨rfl, rfl⟩ := o_ret hf
        exact pw_iret hC hr hlocks hw dX2_readBinary_48
    · have hf := o_neg c12 hf
      refine lv_aload_n hx hb dX2_readBinary_26 rfl (lv_at hl 1 rfl) ?_
      refine lv_iconst (v := 2) hx hb dX2_readBinary_27 nc_iconst_2 ?_
      refine lv_iload_n hx hb dX2_readBinary_28 rfl (lv_at hl 2 rfl) ?_
      obtain ⟨h48, hf⟩ := o_ite hf
      obtain ⟨r50, μ49, h47, hf⟩ := o_bind2 hf
      refine pw_goI hw (pw_runV (As := [.int 2, .int a1]) (rest := []) hC mm_X2_refuse tw_345 (c_X2_refuse h47 _) ⟨rfl, rfl, by decide, by decide⟩ hw h48 rfl hl.1 (Nat.le_of_ble_eq_true rfl) ⟨Nat.zero_le _, Nat.zero_le _⟩ rfl dX2_readBinary_29) (fun H locs hw => ?_)
      obtain ⟨rfl, rfl⟩ := o_ret hf
      exact pw_iret hC hr hlocks hw dX2_readBinary_32
  · have hf := o_pos c5 hf
    refine lv_iconst (v := (-1)) hx hb dX2_readBinary_11 nc_iconst_m1 ?_
    obtain ⟨rfl, rfl⟩ := o_ret hf
    exact pw_iret hC hr hlocks hw dX2_readBinary_12
theorem dX2_readBoolean_0 : decode cX2_readBoolean 0 = .ok (.aload_n 0, 1) := by decide +kernel
theorem dX2_readBoolean_1 : decode cX2_readBoolean 1 = .ok (.iload_n 1, 1) := by decide +kernel
theorem dX2_readBoolean_2 : decode cX2_readBoolean 2 = .ok (.iconst 1, 1) := by decide +kernel
theorem dX2_readBoolean_3 : decode cX2_readBoolean 3 = .ok (.iload_n 2, 1) := by decide +kernel
theorem dX2_readBoolean_4 : decode cX2_readBoolean 4 = .ok (.invokevirtual 102, 3) := by decide +kernel
theorem dX2_readBoolean_7 : decode cX2_readBoolean 7 = .ok (.istore_n 3, 1) := by decide +kernel
theorem dX2_readBoolean_8 : decode cX2_readBoolean 8 = .ok (.iload_n 3, 1) := by decide +kernel
theorem dX2_readBoolean_9 : decode cX2_readBoolean 9 = .ok (.iconst (-1), 1) := by decide +kernel
theorem dX2_readBoolean_10 : decode cX2_readBoolean 10 = .ok (.if_icmp .eq 25, 3) := by decide +kernel
theorem dX2_readBoolean_13 : decode cX2_readBoolean 13 = .ok (.aload_n 0, 1) := by decide +kernel
theorem dX2_readBoolean_14 : decode cX2_readBoolean 14 = .ok (.getfield 14, 3) := by decide +kernel
theorem dX2_readBoolean_17 : decode cX2_readBoolean 17 = .ok (.iload_n 1, 1) := by decide +kernel
theorem dX2_readBoolean_18 : decode cX2_readBoolean 18 = .ok (.invokevirtual 110, 3) := by decide +kernel
theorem dX2_readBoolean_21 : decode cX2_readBoolean 21 = .ok (.iconst 1, 1) := by decide +kernel
theorem dX2_readBoolean_22 : decode cX2_readBoolean 22 = .ok (.if_icmp .le 13, 3) := by decide +kernel
theorem dX2_readBoolean_25 : decode cX2_readBoolean 25 = .ok (.aload_n 0, 1) := by decide +kernel
theorem dX2_readBoolean_26 : decode cX2_readBoolean 26 = .ok (.bipush 7, 2) := by decide +kernel
theorem dX2_readBoolean_28 : decode cX2_readBoolean 28 = .ok (.iload_n 1, 1) := by decide +kernel
theorem dX2_readBoolean_29 : decode cX2_readBoolean 29 = .ok (.invokevirtual 78, 3) := by decide +kernel
theorem dX2_readBoolean_32 : decode cX2_readBoolean 32 = .ok (.goto 4, 3) := by decide +kernel
theorem dX2_readBoolean_35 : decode cX2_readBoolean 35 = .ok (.iload_n 3, 1) := by decide +kernel
theorem dX2_readBoolean_36 : decode cX2_readBoolean 36 = .ok (.ireturn, 1) := by decide +kernel
abbrev rm_X2_readBoolean : Room := { frames := 2, cells := 0, slots := 0, locals := 45 }
def f_X2_readBoolean_L35 (cy : Nat → ClassId) (a3 : Int32) (μ : Mem) : Option (Int32 × Mem) :=
  some (a3, μ)
set_option maxRecDepth 100000 in
set_option maxHeartbeats 4000000 in
theorem w_X2_readBoolean_L35 {p : Program} {l : Launch} {e : Env} {s : State} {m : MethodId} {args : Array Value} {below : List Frame} {meth : Method} {c : Code} {A : Nat → Prop} {g : Wg} {L : List Nat} {r : Int32} {μ' : Mem} (hC : CX p m c cX2_readBoolean 4 s args RX2) (hr : meth.sig.returnType = (some .int)) (hlocks : meth.locks = false) : ∀ (a3 : Int32) (μ : Mem) (H : Heap) (locs : List Loc) (ls : Array Slot), lv_has ls 4 [(3, .int a3)] → PW g L μ A s H locs → f_X2_readBoolean_L35 g.2 a3 μ = some (r, μ') → W p l e rm_X2_readBoolean s m args below meth c H locs 0 0 (MQ below (QI g L A r μ') args s 0 0 A) (F0 m 35 ls []) := by
  have hx := hC.1
  have hb := hC.2.1
  intro a3 μ H locs ls hl hw hf
  unfold f_X2_readBoolean_L35 at hf
  refine lv_iload_n hx hb dX2_readBoolean_35 rfl (lv_at hl 0 rfl) ?_
  obtain ⟨rfl, rfl⟩ := o_ret hf
  exact pw_iret hC hr hlocks hw dX2_readBoolean_36
def f_X2_readBoolean (cy : Nat → ClassId) (a0 : Nat) (a1 : Int32) (a2 : Int32) (μ : Mem) : Option (Int32 × Mem) :=
  if isO μ a0 1 = true then (ob2 (f_X2_readBytes cy a0 a1 1 a2 μ) fun r4 μ3 => if r4 = (-1) then (f_X2_readBoolean_L35 cy r4 μ3) else (rdR μ3 a0 1 0).bind fun q6 => if isO μ3 q6 4 = true then (ob2 (f_X5_at cy q6 a1 μ3) fun r11 μ10 => if r11 ≤ 1 then (f_X2_readBoolean_L35 cy r4 μ10) else if isO μ10 a0 1 = true then (ob2 (f_X2_refuse cy a0 7 a1 μ10) fun r16 μ15 => some (r16, μ15)) else none) else none) else none
set_option maxRecDepth 100000 in
set_option maxHeartbeats 4000000 in
theorem c_X2_readBoolean {l : Launch} {g : Wg} {L : List Nat} {μ : Mem} {a0 : Nat} {a1 : Int32} {a2 : Int32} {r : Int32} {μ' : Mem} (hf : f_X2_readBoolean g.2 a0 a1 a2 μ = some (r, μ')) : MetI l yX2_readBoolean cX2_readBoolean 4 (some .int) rm_X2_readBoolean g L μ [.ref a0, .int a1, .int a2] r μ' := by
  refine pw_met (Qc := fun A => QI g L A r μ') (by decide) (Nat.le_of_ble_eq_true rfl) ?_
  intro p e s m args below meth c A ls H locs hC hr hlocks hl hw
  have hx := hC.1
  have hb := hC.2.1
  have hl : lv_has ls 4 [(0, .ref a0), (1, .int a1), (2, .int a2)] := hl
  unfold f_X2_readBoolean at hf
  refine lv_aload_n hx hb dX2_readBoolean_0 rfl (lv_at hl 0 rfl) ?_
  refine lv_iload_n hx hb dX2_readBoolean_1 rfl (lv_at hl 1 rfl) ?_
  refine lv_iconst (v := 1) hx hb dX2_readBoolean_2 nc_iconst_1 ?_
  refine lv_iload_n hx hb dX2_readBoolean_3 rfl (lv_at hl 2 rfl) ?_
  obtain ⟨h2, hf⟩ := o_ite hf
  obtain ⟨r4, μ3, h1, hf⟩ := o_bind2 hf
  refine pw_goI hw (pw_runV (As := [.int a1, .int 1, .int a2]) (rest := []) hC mm_X2_readBytes tw_349 (c_X2_readBytes h1 _) ⟨rfl, rfl, by decide, by decide⟩ hw h2 rfl hl.1 (Nat.le_of_ble_eq_true rfl) ⟨Nat.zero_le _, Nat.zero_le _⟩ rfl dX2_readBoolean_4) (fun H locs hw => ?_)
  refine lv_istore_n (lv' := [(3, .int r4), (0, .ref a0), (1, .int a1), (2, .int a2)]) hx hb dX2_readBoolean_7 rfl hl (by decide) rfl (fun ls hl => ?_)
  refine lv_iload_n hx hb dX2_readBoolean_8 rfl (lv_at hl 0 rfl) ?_
  refine lv_iconst (v := (-1)) hx hb dX2_readBoolean_9 nc_iconst_m1 ?_
  refine lv_icmp_eq (tgt := 35) hx hb dX2_readBoolean_10 (by decide) (fun c5 => ?_) (fun c5 => ?_)
  · have hf := o_pos c5 hf
    exact w_X2_readBoolean_L35 hC hr hlocks _ _ _ _ ls (lv_sub hl [0] rfl) hw hf
  · have hf := o_neg c5 hf
    refine lv_aload_n hx hb dX2_readBoolean_13 rfl (lv_at hl 1 rfl) ?_
    obtain ⟨q6, h7, hf⟩ := o_bind hf
    refine pw_get hC fl_X2_14 hw (rdR_F h7) dX2_readBoolean_14 ?_
    refine lv_iload_n hx hb dX2_readBoolean_17 rfl (lv_at hl 2 rfl) ?_
    obtain ⟨h9, hf⟩ := o_ite hf
    obtain ⟨r11, μ10, h8, hf⟩ := o_bind2 hf
    refine pw_goI hw (pw_runV (As := [.int a1]) (rest := []) hC mm_X5_at tw_363 (c_X5_at h8 _) ⟨rfl, rfl, by decide, by decide⟩ hw h9 rfl hl.1 (Nat.le_of_ble_eq_true rfl) ⟨Nat.zero_le _, Nat.zero_le _⟩ rfl dX2_readBoolean_18) (fun H locs hw => ?_)
    refine lv_iconst (v := 1) hx hb dX2_readBoolean_21 nc_iconst_1 ?_
    refine lv_icmp_le (tgt := 35) hx hb dX2_readBoolean_22 (by decide) (fun c12 => ?_) (fun c12 => ?_)
    · have hf := o_pos c12 hf
      exact w_X2_readBoolean_L35 hC hr hlocks _ _ _ _ ls (lv_sub hl [0] rfl) hw hf
    · have hf := o_neg c12 hf
      refine lv_aload_n hx hb dX2_readBoolean_25 rfl (lv_at hl 1 rfl) ?_
      refine lv_bipush (v := 7) hx hb dX2_readBoolean_26 nc_bipush_7 ?_
      refine lv_iload_n hx hb dX2_readBoolean_28 rfl (lv_at hl 2 rfl) ?_
      obtain ⟨h14, hf⟩ := o_ite hf
      obtain ⟨r16, μ15, h13, hf⟩ := o_bind2 hf
      refine pw_goI hw (pw_runV (As := [.int 7, .int a1]) (rest := []) hC mm_X2_refuse tw_345 (c_X2_refuse h13 _) ⟨rfl, rfl, by decide, by decide⟩ hw h14 rfl hl.1 (Nat.le_of_ble_eq_true rfl) ⟨Nat.zero_le _, Nat.zero_le _⟩ rfl dX2_readBoolean_29) (fun H locs hw => ?_)
      refine lv_goto (tgt := 36) hx hb dX2_readBoolean_32 (by decide) ?_
      obtain ⟨rfl, rfl⟩ := o_ret hf
      exact pw_iret hC hr hlocks hw dX2_readBoolean_36
abbrev rm_RD (d : Nat) : Room := { frames := 4 + d, cells := 0, slots := 0, locals := 94 + 28 * d }
theorem fit_RD (d : Nat) {nL : Nat} (h : nL ≤ 9) : fitR (rm_RD (d + 1)) (rm_RD d) nL := ⟨rfl, rfl, by show 4 + d + 1 ≤ 4 + (d + 1); omega, by show 8 + (nL + 11) + (94 + 28 * d) ≤ 94 + 28 * (d + 1); omega⟩
theorem fio_RD (d : Nat) {rm : Room} {nL : Nat} (h : rm.cells = 0 ∧ rm.slots = 0 ∧ rm.frames + 1 ≤ 4 ∧ 8 + (nL + 11) + rm.locals ≤ 94) : fitR (rm_RD (d + 1)) rm nL := ⟨h.1, h.2.1, by have := h.2.2.1; show rm.frames + 1 ≤ 4 + (d + 1); omega, by have := h.2.2.2; show 8 + (nL + 11) + rm.locals ≤ 94 + 28 * (d + 1); omega⟩
theorem fim_RD (d : Nat) : 1 ≤ (rm_RD (d + 1)).frames ∧ 40 ≤ (rm_RD (d + 1)).locals := ⟨by show 1 ≤ 4 + (d + 1); omega, by show 40 ≤ 94 + 28 * (d + 1); omega⟩
theorem dX2_readDocument_0 : decode cX2_readDocument 0 = .ok (.iload_n 1, 1) := by decide +kernel
theorem dX2_readDocument_1 : decode cX2_readDocument 1 = .ok (.iconst (-1), 1) := by decide +kernel
theorem dX2_readDocument_2 : decode cX2_readDocument 2 = .ok (.if_icmp .ne 5, 3) := by decide +kernel
theorem dX2_readDocument_5 : decode cX2_readDocument 5 = .ok (.iconst (-1), 1) := by decide +kernel
theorem dX2_readDocument_6 : decode cX2_readDocument 6 = .ok (.ireturn, 1) := by decide +kernel
theorem dX2_readDocument_7 : decode cX2_readDocument 7 = .ok (.iload_n 3, 1) := by decide +kernel
theorem dX2_readDocument_8 : decode cX2_readDocument 8 = .ok (.bipush 24, 2) := by decide +kernel
theorem dX2_readDocument_10 : decode cX2_readDocument 10 = .ok (.if_icmp .le 11, 3) := by decide +kernel
theorem dX2_readDocument_13 : decode cX2_readDocument 13 = .ok (.aload_n 0, 1) := by decide +kernel
theorem dX2_readDocument_14 : decode cX2_readDocument 14 = .ok (.bipush 8, 2) := by decide +kernel
theorem dX2_readDocument_16 : decode cX2_readDocument 16 = .ok (.iload_n 1, 1) := by decide +kernel
theorem dX2_readDocument_17 : decode cX2_readDocument 17 = .ok (.invokevirtual 78, 3) := by decide +kernel
theorem dX2_readDocument_20 : decode cX2_readDocument 20 = .ok (.ireturn, 1) := by decide +kernel
theorem dX2_readDocument_21 : decode cX2_readDocument 21 = .ok (.aload_n 0, 1) := by decide +kernel
theorem dX2_readDocument_22 : decode cX2_readDocument 22 = .ok (.iload_n 1, 1) := by decide +kernel
theorem dX2_readDocument_23 : decode cX2_readDocument 23 = .ok (.iconst 4, 1) := by decide +kernel
theorem dX2_readDocument_24 : decode cX2_readDocument 24 = .ok (.iload_n 2, 1) := by decide +kernel
theorem dX2_readDocument_25 : decode cX2_readDocument 25 = .ok (.invokevirtual 102, 3) := by decide +kernel
theorem dX2_readDocument_28 : decode cX2_readDocument 28 = .ok (.iconst (-1), 1) := by decide +kernel
theorem dX2_readDocument_29 : decode cX2_readDocument 29 = .ok (.if_icmp .ne 5, 3) := by decide +kernel
theorem dX2_readDocument_32 : decode cX2_readDocument 32 = .ok (.iconst (-1), 1) := by decide +kernel
theorem dX2_readDocument_33 : decode cX2_readDocument 33 = .ok (.ireturn, 1) := by decide +kernel
theorem dX2_readDocument_34 : decode cX2_readDocument 34 = .ok (.aload_n 0, 1) := by decide +kernel
theorem dX2_readDocument_35 : decode cX2_readDocument 35 = .ok (.getfield 14, 3) := by decide +kernel
theorem dX2_readDocument_38 : decode cX2_readDocument 38 = .ok (.iload_n 1, 1) := by decide +kernel
theorem dX2_readDocument_39 : decode cX2_readDocument 39 = .ok (.invokevirtual 106, 3) := by decide +kernel
theorem dX2_readDocument_42 : decode cX2_readDocument 42 = .ok (.istore 5, 2) := by decide +kernel
theorem dX2_readDocument_44 : decode cX2_readDocument 44 = .ok (.iload 5, 2) := by decide +kernel
theorem dX2_readDocument_46 : decode cX2_readDocument 46 = .ok (.iconst 5, 1) := by decide +kernel
theorem dX2_readDocument_47 : decode cX2_readDocument 47 = .ok (.if_icmp .ge 10, 3) := by decide +kernel
theorem dX2_readDocument_50 : decode cX2_readDocument 50 = .ok (.aload_n 0, 1) := by decide +kernel
theorem dX2_readDocument_51 : decode cX2_readDocument 51 = .ok (.iconst 2, 1) := by decide +kernel
theorem dX2_readDocument_52 : decode cX2_readDocument 52 = .ok (.iload_n 1, 1) := by decide +kernel
theorem dX2_readDocument_53 : decode cX2_readDocument 53 = .ok (.invokevirtual 78, 3) := by decide +kernel
theorem dX2_readDocument_56 : decode cX2_readDocument 56 = .ok (.ireturn, 1) := by decide +kernel
theorem dX2_readDocument_57 : decode cX2_readDocument 57 = .ok (.iload 5, 2) := by decide +kernel
theorem dX2_readDocument_59 : decode cX2_readDocument 59 = .ok (.iload_n 2, 1) := by decide +kernel
theorem dX2_readDocument_60 : decode cX2_readDocument 60 = .ok (.iload_n 1, 1) := by decide +kernel
theorem dX2_readDocument_61 : decode cX2_readDocument 61 = .ok (.isub, 1) := by decide +kernel
theorem dX2_readDocument_62 : decode cX2_readDocument 62 = .ok (.if_icmp .le 10, 3) := by decide +kernel
theorem dX2_readDocument_65 : decode cX2_readDocument 65 = .ok (.aload_n 0, 1) := by decide +kernel
theorem dX2_readDocument_66 : decode cX2_readDocument 66 = .ok (.iconst 1, 1) := by decide +kernel
theorem dX2_readDocument_67 : decode cX2_readDocument 67 = .ok (.iload_n 1, 1) := by decide +kernel
theorem dX2_readDocument_68 : decode cX2_readDocument 68 = .ok (.invokevirtual 78, 3) := by decide +kernel
theorem dX2_readDocument_71 : decode cX2_readDocument 71 = .ok (.ireturn, 1) := by decide +kernel
theorem dX2_readDocument_72 : decode cX2_readDocument 72 = .ok (.aload_n 0, 1) := by decide +kernel
theorem dX2_readDocument_73 : decode cX2_readDocument 73 = .ok (.dup, 1) := by decide +kernel
theorem dX2_readDocument_74 : decode cX2_readDocument 74 = .ok (.getfield 36, 3) := by decide +kernel
theorem dX2_readDocument_77 : decode cX2_readDocument 77 = .ok (.iconst 1, 1) := by decide +kernel
theorem dX2_readDocument_78 : decode cX2_readDocument 78 = .ok (.iadd, 1) := by decide +kernel
theorem dX2_readDocument_79 : decode cX2_readDocument 79 = .ok (.putfield 36, 3) := by decide +kernel
theorem dX2_readDocument_82 : decode cX2_readDocument 82 = .ok (.aload_n 0, 1) := by decide +kernel
theorem dX2_readDocument_83 : decode cX2_readDocument 83 = .ok (.aload_n 0, 1) := by decide +kernel
theorem dX2_readDocument_84 : decode cX2_readDocument 84 = .ok (.getfield 33, 3) := by decide +kernel
theorem dX2_readDocument_87 : decode cX2_readDocument 87 = .ok (.iload_n 3, 1) := by decide +kernel
theorem dX2_readDocument_88 : decode cX2_readDocument 88 = .ok (.invokestatic 116, 3) := by decide +kernel
theorem dX2_readDocument_91 : decode cX2_readDocument 91 = .ok (.putfield 33, 3) := by decide +kernel
theorem dX2_readDocument_94 : decode cX2_readDocument 94 = .ok (.aload_n 0, 1) := by decide +kernel
theorem dX2_readDocument_95 : decode cX2_readDocument 95 = .ok (.iload 5, 2) := by decide +kernel
theorem dX2_readDocument_97 : decode cX2_readDocument 97 = .ok (.invokevirtual 113, 3) := by decide +kernel
theorem dX2_readDocument_100 : decode cX2_readDocument 100 = .ok (.iload_n 1, 1) := by decide +kernel
theorem dX2_readDocument_101 : decode cX2_readDocument 101 = .ok (.iload 5, 2) := by decide +kernel
theorem dX2_readDocument_103 : decode cX2_readDocument 103 = .ok (.iadd, 1) := by decide +kernel
theorem dX2_readDocument_104 : decode cX2_readDocument 104 = .ok (.iconst 1, 1) := by decide +kernel
theorem dX2_readDocument_105 : decode cX2_readDocument 105 = .ok (.isub, 1) := by decide +kernel
theorem dX2_readDocument_106 : decode cX2_readDocument 106 = .ok (.istore 6, 2) := by decide +kernel
theorem dX2_readDocument_108 : decode cX2_readDocument 108 = .ok (.iload_n 1, 1) := by decide +kernel
theorem dX2_readDocument_109 : decode cX2_readDocument 109 = .ok (.iconst 4, 1) := by decide +kernel
theorem dX2_readDocument_110 : decode cX2_readDocument 110 = .ok (.iadd, 1) := by decide +kernel
theorem dX2_readDocument_111 : decode cX2_readDocument 111 = .ok (.istore 7, 2) := by decide +kernel
theorem dX2_readDocument_113 : decode cX2_readDocument 113 = .ok (.iconst 0, 1) := by decide +kernel
theorem dX2_readDocument_114 : decode cX2_readDocument 114 = .ok (.istore 8, 2) := by decide +kernel
theorem dX2_readDocument_116 : decode cX2_readDocument 116 = .ok (.iload 8, 2) := by decide +kernel
theorem dX2_readDocument_118 : decode cX2_readDocument 118 = .ok (.sipush 1200, 3) := by decide +kernel
theorem dX2_readDocument_121 : decode cX2_readDocument 121 = .ok (.if_icmp .ge 46, 3) := by decide +kernel
theorem dX2_readDocument_124 : decode cX2_readDocument 124 = .ok (.iload 7, 2) := by decide +kernel
theorem dX2_readDocument_126 : decode cX2_readDocument 126 = .ok (.iload 6, 2) := by decide +kernel
theorem dX2_readDocument_128 : decode cX2_readDocument 128 = .ok (.if_icmp .ge 39, 3) := by decide +kernel
theorem dX2_readDocument_131 : decode cX2_readDocument 131 = .ok (.aload_n 0, 1) := by decide +kernel
theorem dX2_readDocument_132 : decode cX2_readDocument 132 = .ok (.iload 7, 2) := by decide +kernel
theorem dX2_readDocument_134 : decode cX2_readDocument 134 = .ok (.iload 6, 2) := by decide +kernel
theorem dX2_readDocument_136 : decode cX2_readDocument 136 = .ok (.iload_n 3, 1) := by decide +kernel
theorem dX2_readDocument_137 : decode cX2_readDocument 137 = .ok (.iload 4, 2) := by decide +kernel
theorem dX2_readDocument_139 : decode cX2_readDocument 139 = .ok (.ifCond .eq 8, 3) := by decide +kernel
theorem dX2_readDocument_142 : decode cX2_readDocument 142 = .ok (.iload 8, 2) := by decide +kernel
theorem dX2_readDocument_144 : decode cX2_readDocument 144 = .ok (.goto 4, 3) := by decide +kernel
theorem dX2_readDocument_147 : decode cX2_readDocument 147 = .ok (.iconst (-1), 1) := by decide +kernel
theorem dX2_readDocument_148 : decode cX2_readDocument 148 = .ok (.invokevirtual 121, 3) := by decide +kernel
theorem dX2_readDocument_151 : decode cX2_readDocument 151 = .ok (.istore 7, 2) := by decide +kernel
theorem dX2_readDocument_153 : decode cX2_readDocument 153 = .ok (.iload 7, 2) := by decide +kernel
theorem dX2_readDocument_155 : decode cX2_readDocument 155 = .ok (.iconst (-1), 1) := by decide +kernel
theorem dX2_readDocument_156 : decode cX2_readDocument 156 = .ok (.if_icmp .ne 5, 3) := by decide +kernel
theorem dX2_readDocument_159 : decode cX2_readDocument 159 = .ok (.iconst (-1), 1) := by decide +kernel
theorem dX2_readDocument_160 : decode cX2_readDocument 160 = .ok (.ireturn, 1) := by decide +kernel
theorem dX2_readDocument_161 : decode cX2_readDocument 161 = .ok (.iinc 8 1, 3) := by decide +kernel
theorem dX2_readDocument_164 : decode cX2_readDocument 164 = .ok (.goto (-48), 3) := by decide +kernel
theorem dX2_readDocument_167 : decode cX2_readDocument 167 = .ok (.aload_n 0, 1) := by decide +kernel
theorem dX2_readDocument_168 : decode cX2_readDocument 168 = .ok (.getfield 14, 3) := by decide +kernel
theorem dX2_readDocument_171 : decode cX2_readDocument 171 = .ok (.iload 6, 2) := by decide +kernel
theorem dX2_readDocument_173 : decode cX2_readDocument 173 = .ok (.invokevirtual 110, 3) := by decide +kernel
theorem dX2_readDocument_176 : decode cX2_readDocument 176 = .ok (.ifCond .ne 10, 3) := by decide +kernel
theorem dX2_readDocument_179 : decode cX2_readDocument 179 = .ok (.iload 6, 2) := by decide +kernel
theorem dX2_readDocument_181 : decode cX2_readDocument 181 = .ok (.iconst 1, 1) := by decide +kernel
theorem dX2_readDocument_182 : decode cX2_readDocument 182 = .ok (.iadd, 1) := by decide +kernel
theorem dX2_readDocument_183 : decode cX2_readDocument 183 = .ok (.goto 10, 3) := by decide +kernel
theorem dX2_readDocument_186 : decode cX2_readDocument 186 = .ok (.aload_n 0, 1) := by decide +kernel
theorem dX2_readDocument_187 : decode cX2_readDocument 187 = .ok (.iconst 4, 1) := by decide +kernel
theorem dX2_readDocument_188 : decode cX2_readDocument 188 = .ok (.iload 6, 2) := by decide +kernel
theorem dX2_readDocument_190 : decode cX2_readDocument 190 = .ok (.invokevirtual 78, 3) := by decide +kernel
theorem dX2_readDocument_193 : decode cX2_readDocument 193 = .ok (.ireturn, 1) := by decide +kernel
def f_X2_readDocument_L148 (cy : Nat → ClassId) (r_X2_readElement : Nat → Int32 → Int32 → Int32 → Int32 → Mem → Option (Int32 × Mem)) (k116 : Nat → Int32 → Int32 → Int32 → Int32 → Int32 → Mem → Option (Int32 × Mem)) (a0 : Nat) (a3 : Int32) (a4 : Int32) (a6 : Int32) (a8 : Int32) (t0 : Nat) (t1 : Int32) (t2 : Int32) (t3 : Int32) (t4 : Int32) (μ : Mem) : Option (Int32 × Mem) :=
  if isO μ t0 1 = true then (ob2 (r_X2_readElement t0 t1 t2 t3 t4 μ) fun r104 μ103 => if r104 = (-1) then (some ((-1), μ103)) else k116 a0 a3 a4 a6 r104 (a8 + 1) μ103) else none
set_option maxRecDepth 100000 in
set_option maxHeartbeats 4000000 in
theorem w_X2_readDocument_L148 {p : Program} {l : Launch} {e : Env} {s : State} {m : MethodId} {args : Array Value} {below : List Frame} {meth : Method} {c : Code} {A : Nat → Prop} {g : Wg} {L : List Nat} {r : Int32} {μ' : Mem} (hC : CX p m c cX2_readDocument 9 s args RX2) (hr : meth.sig.returnType = (some .int)) (hlocks : meth.locks = false) {d : Nat} {r_X2_readElement : Nat → Int32 → Int32 → Int32 → Int32 → Mem → Option (Int32 × Mem)} (hr_X2_readElement : ∀ {a0 : Nat} {a1 : Int32} {a2 : Int32} {a3 : Int32} {a4 : Int32} {μ : Mem} {r9 : Int32} {μ9 : Mem}, r_X2_readElement a0 a1 a2 a3 a4 μ = some (r9, μ9) → MetI l yX2_readElement cX2_readElement 7 (some .int) (rm_RD d) g L μ [.ref a0, .int a1, .int a2, .int a3, .int a4] r9 μ9) {k116 : Nat → Int32 → Int32 → Int32 → Int32 → Int32 → Mem → Option (Int32 × Mem)} (hk116 : ∀ (a0 : Nat) (a3 : Int32) (a4 : Int32) (a6 : Int32) (a7 : Int32) (a8 : Int32) (μ : Mem) (H : Heap) (locs : List Loc) (ls : Array Slot), lv_has ls 9 [(0, .ref a0), (3, .int a3), (4, .int a4), (6, .int a6), (7, .int a7), (8, .int a8)] → PW g L μ A s H locs → k116 a0 a3 a4 a6 a7 a8 μ = some (r, μ') → W p l e (rm_RD (d + 1)) s m args below meth c H locs 0 0 (MQ below (QI g L A r μ') args s 0 0 A) (F0 m 116 ls [])) : ∀ (a0 : Nat) (a3 : Int32) (a4 : Int32) (a6 : Int32) (a8 : Int32) (t0 : Nat) (t1 : Int32) (t2 : Int32) (t3 : Int32) (t4 : Int32) (μ : Mem) (H : Heap) (locs : List Loc) (ls : Array Slot), lv_has ls 9 [(0, .ref a0), (3, .int a3), (4, .int a4), (6, .int a6), (8, .int a8)] → PW g L μ A s H locs → f_X2_readDocument_L148 g.2 r_X2_readElement k116 a0 a3 a4 a6 a8 t0 t1 t2 t3 t4 μ = some (r, μ') → W p l e (rm_RD (d + 1)) s m args below meth c H locs 0 0 (MQ below (QI g L A r μ') args s 0 0 A) (F0 m 148 ls [.int t4, .int t3, .int t2, .int t1, .ref t0]) := by
  have hx := hC.1
  have hb := hC.2.1
  intro a0 a3 a4 a6 a8 t0 t1 t2 t3 t4 μ H locs ls hl hw hf
  unfold f_X2_readDocument_L148 at hf
  obtain ⟨h102, hf⟩ := o_ite hf
  obtain ⟨r104, μ103, h101, hf⟩ := o_bind2 hf
  refine pw_goI hw (pw_runV (As := [.int t1, .int t2, .int t3, .int t4]) (rest := []) hC mm_X2_readElement tw_359 (hr_X2_readElement h101 _) (fit_RD d (by decide)) hw h102 rfl hl.1 (Nat.le_of_ble_eq_true rfl) ⟨Nat.zero_le _, Nat.zero_le _⟩ rfl dX2_readDocument_148) (fun H locs hw => ?_)
  refine lv_istore (lv' := [(7, .int r104), (0, .ref a0), (3, .int a3), (4, .int a4), (6, .int a6), (8, .int a8)]) hx hb dX2_readDocument_151 hl (by decide) rfl (fun ls hl => ?_)
  refine lv_iload hx hb dX2_readDocument_153 (lv_at hl 0 rfl) ?_
  refine lv_iconst (v := (-1)) hx hb dX2_readDocument_155 nc_iconst_m1 ?_
  refine lv_icmp_ne (tgt := 161) hx hb dX2_readDocument_156 (by decide) (fun c105 => ?_) (fun c105 => ?_)
  · have hf := o_neg c105 hf
    refine lv_iinc (v := (a8 + 1)) (lv' := [(8, .int (a8 + 1)), (7, .int r104), (0, .ref a0), (3, .int a3), (4, .int a4), (6, .int a6)]) hx hb dX2_readDocument_161 hl (k := 5) rfl (by first | rfl | decide +kernel) (by decide) rfl (fun ls hl => ?_)
    refine lv_goto (tgt := 116) hx hb dX2_readDocument_164 (by decide) ?_
    exact hk116 _ _ _ _ _ _ _ _ _ ls (lv_sub hl [2, 3, 4, 5, 1, 0] rfl) hw hf
  · have hf := o_pos c105 hf
    refine lv_iconst (v := (-1)) hx hb dX2_readDocument_159 nc_iconst_m1 ?_
    obtain ⟨rfl, rfl⟩ := o_ret hf
    exact pw_iret hC hr hlocks hw dX2_readDocument_160
def f_X2_readDocument_L167 (cy : Nat → ClassId) (r_X2_readElement : Nat → Int32 → Int32 → Int32 → Int32 → Mem → Option (Int32 × Mem)) (a0 : Nat) (a6 : Int32) (μ : Mem) : Option (Int32 × Mem) :=
  (rdR μ a0 1 0).bind fun q101 => if isO μ q101 4 = true then (ob2 (f_X5_at cy q101 a6 μ) fun r106 μ105 => if r106 = 0 then (some ((a6 + 1), μ105)) else if isO μ105 a0 1 = true then (ob2 (f_X2_refuse cy a0 4 a6 μ105) fun r111 μ110 => some (r111, μ110)) else none) else none
set_option maxRecDepth 100000 in
set_option maxHeartbeats 4000000 in
theorem w_X2_readDocument_L167 {p : Program} {l : Launch} {e : Env} {s : State} {m : MethodId} {args : Array Value} {below : List Frame} {meth : Method} {c : Code} {A : Nat → Prop} {g : Wg} {L : List Nat} {r : Int32} {μ' : Mem} (hC : CX p m c cX2_readDocument 9 s args RX2) (hr : meth.sig.returnType = (some .int)) (hlocks : meth.locks = false) {d : Nat} {r_X2_readElement : Nat → Int32 → Int32 → Int32 → Int32 → Mem → Option (Int32 × Mem)} (hr_X2_readElement : ∀ {a0 : Nat} {a1 : Int32} {a2 : Int32} {a3 : Int32} {a4 : Int32} {μ : Mem} {r9 : Int32} {μ9 : Mem}, r_X2_readElement a0 a1 a2 a3 a4 μ = some (r9, μ9) → MetI l yX2_readElement cX2_readElement 7 (some .int) (rm_RD d) g L μ [.ref a0, .int a1, .int a2, .int a3, .int a4] r9 μ9) : ∀ (a0 : Nat) (a6 : Int32) (μ : Mem) (H : Heap) (locs : List Loc) (ls : Array Slot), lv_has ls 9 [(0, .ref a0), (6, .int a6)] → PW g L μ A s H locs → f_X2_readDocument_L167 g.2 r_X2_readElement a0 a6 μ = some (r, μ') → W p l e (rm_RD (d + 1)) s m args below meth c H locs 0 0 (MQ below (QI g L A r μ') args s 0 0 A) (F0 m 167 ls []) := by
  have hx := hC.1
  have hb := hC.2.1
  intro a0 a6 μ H locs ls hl hw hf
  unfold f_X2_readDocument_L167 at hf
  refine lv_aload_n hx hb dX2_readDocument_167 rfl (lv_at hl 0 rfl) ?_
  obtain ⟨q101, h102, hf⟩ := o_bind hf
  refine pw_get hC fl_X2_14 hw (rdR_F h102) dX2_readDocument_168 ?_
  refine lv_iload hx hb dX2_readDocument_171 (lv_at hl 1 rfl) ?_
  obtain ⟨h104, hf⟩ := o_ite hf
  obtain ⟨r106, μ105, h103, hf⟩ := o_bind2 hf
  refine pw_goI hw (pw_runV (As := [.int a6]) (rest := []) hC mm_X5_at tw_363 (c_X5_at h103 _) (fio_RD d (by decide)) hw h104 rfl hl.1 (Nat.le_of_ble_eq_true rfl) ⟨Nat.zero_le _, Nat.zero_le _⟩ rfl dX2_readDocument_173) (fun H locs hw => ?_)
  refine lv_if_ne (tgt := 186) hx hb dX2_readDocument_176 (by decide) (fun c107 => ?_) (fun c107 => ?_)
  · have hf := o_neg c107 hf
    refine lv_aload_n hx hb dX2_readDocument_186 rfl (lv_at hl 0 rfl) ?_
    refine lv_iconst (v := 4) hx hb dX2_readDocument_187 nc_iconst_4 ?_
    refine lv_iload hx hb dX2_readDocument_188 (lv_at hl 1 rfl) ?_
    obtain ⟨h109, hf⟩ := o_ite hf
    obtain ⟨r111, μ110, h108, hf⟩ := o_bind2 hf
    refine pw_goI hw (pw_runV (As := [.int 4, .int a6]) (rest := []) hC mm_X2_refuse tw_345 (c_X2_refuse h108 _) (fio_RD d (by decide)) hw h109 rfl hl.1 (Nat.le_of_ble_eq_true rfl) ⟨Nat.zero_le _, Nat.zero_le _⟩ rfl dX2_readDocument_190) (fun H locs hw => ?_)
    obtain ⟨rfl, rfl⟩ := o_ret hf
    exact pw_iret hC hr hlocks hw dX2_readDocument_193
  · have hf := o_pos c107 hf
    refine lv_iload hx hb dX2_readDocument_179 (lv_at hl 1 rfl) ?_
    refine lv_iconst (v := 1) hx hb dX2_readDocument_181 nc_iconst_1 ?_
    refine lv_iadd hx hb dX2_readDocument_182 ?_
    refine lv_goto (tgt := 193) hx hb dX2_readDocument_183 (by decide) ?_
    obtain ⟨rfl, rfl⟩ := o_ret hf
    exact pw_iret hC hr hlocks hw dX2_readDocument_193
def f_X2_readDocument_L116 (cy : Nat → ClassId) (r_X2_readElement : Nat → Int32 → Int32 → Int32 → Int32 → Mem → Option (Int32 × Mem)) : Nat → Nat → Int32 → Int32 → Int32 → Int32 → Int32 → Mem → Option (Int32 × Mem)
  | 0, _, _, _, _, _, _, _ => none
  | n + 1, a0, a3, a4, a6, a7, a8, μ => if 1200 ≤ a8 then (f_X2_readDocument_L167 cy r_X2_readElement a0 a6 μ) else if a6 ≤ a7 then (f_X2_readDocument_L167 cy r_X2_readElement a0 a6 μ) else if a4 = 0 then (f_X2_readDocument_L148 cy r_X2_readElement (f_X2_readDocument_L116 cy r_X2_readElement n) a0 a3 a4 a6 a8 a0 a7 a6 a3 (-1) μ) else f_X2_readDocument_L148 cy r_X2_readElement (f_X2_readDocument_L116 cy r_X2_readElement n) a0 a3 a4 a6 a8 a0 a7 a6 a3 a8 μ
set_option maxRecDepth 100000 in
set_option maxHeartbeats 4000000 in
theorem w_X2_readDocument_L116 {p : Program} {l : Launch} {e : Env} {s : State} {m : MethodId} {args : Array Value} {below : List Frame} {meth : Method} {c : Code} {A : Nat → Prop} {g : Wg} {L : List Nat} {r : Int32} {μ' : Mem} (hC : CX p m c cX2_readDocument 9 s args RX2) (hr : meth.sig.returnType = (some .int)) (hlocks : meth.locks = false) {d : Nat} {r_X2_readElement : Nat → Int32 → Int32 → Int32 → Int32 → Mem → Option (Int32 × Mem)} (hr_X2_readElement : ∀ {a0 : Nat} {a1 : Int32} {a2 : Int32} {a3 : Int32} {a4 : Int32} {μ : Mem} {r9 : Int32} {μ9 : Mem}, r_X2_readElement a0 a1 a2 a3 a4 μ = some (r9, μ9) → MetI l yX2_readElement cX2_readElement 7 (some .int) (rm_RD d) g L μ [.ref a0, .int a1, .int a2, .int a3, .int a4] r9 μ9) : ∀ (n : Nat), ∀ (a0 : Nat) (a3 : Int32) (a4 : Int32) (a6 : Int32) (a7 : Int32) (a8 : Int32) (μ : Mem) (H : Heap) (locs : List Loc) (ls : Array Slot), lv_has ls 9 [(0, .ref a0), (3, .int a3), (4, .int a4), (6, .int a6), (7, .int a7), (8, .int a8)] → PW g L μ A s H locs → f_X2_readDocument_L116 g.2 r_X2_readElement n a0 a3 a4 a6 a7 a8 μ = some (r, μ') → W p l e (rm_RD (d + 1)) s m args below meth c H locs 0 0 (MQ below (QI g L A r μ') args s 0 0 A) (F0 m 116 ls []) := by
  have hx := hC.1
  have hb := hC.2.1
  intro n
  induction n with
  | zero => intro a0 a3 a4 a6 a7 a8 μ H locs ls hl hw hf; cases hf
  | succ n ih =>
    intro a0 a3 a4 a6 a7 a8 μ H locs ls hl hw hf
    rw [f_X2_readDocument_L116] at hf
    refine lv_iload hx hb dX2_readDocument_116 (lv_at hl 5 rfl) ?_
    refine lv_sipush (v := 1200) hx hb dX2_readDocument_118 nc_sipush_1200 ?_
    refine lv_icmp_ge (tgt := 167) hx hb dX2_readDocument_121 (by decide) (fun c101 => ?_) (fun c101 => ?_)
    · have hf := o_pos c101 hf
      exact w_X2_readDocument_L167 hC hr hlocks hr_X2_readElement _ _ _ _ _ ls (lv_sub hl [0, 3] rfl) hw hf
    · have hf := o_neg c101 hf
      refine lv_iload hx hb dX2_readDocument_124 (lv_at hl 4 rfl) ?_
      refine lv_iload hx hb dX2_readDocument_126 (lv_at hl 3 rfl) ?_
      refine lv_icmp_ge (tgt := 167) hx hb dX2_readDocument_128 (by decide) (fun c102 => ?_) (fun c102 => ?_)
      · have hf := o_pos c102 hf
        exact w_X2_readDocument_L167 hC hr hlocks hr_X2_readElement _ _ _ _ _ ls (lv_sub hl [0, 3] rfl) hw hf
      · have hf := o_neg c102 hf
        refine lv_aload_n hx hb dX2_readDocument_131 rfl (lv_at hl 0 rfl) ?_
        refine lv_iload hx hb dX2_readDocument_132 (lv_at hl 4 rfl) ?_
        refine lv_iload hx hb dX2_readDocument_134 (lv_at hl 3 rfl) ?_
        refine lv_iload_n hx hb dX2_readDocument_136 rfl (lv_at hl 1 rfl) ?_
        refine lv_iload hx hb dX2_readDocument_137 (lv_at hl 2 rfl) ?_
        refine lv_if_eq (tgt := 147) hx hb dX2_readDocument_139 (by decide) (fun c103 => ?_) (fun c103 => ?_)
        · have hf := o_pos c103 hf
          refine lv_iconst (v := (-1)) hx hb dX2_readDocument_147 nc_iconst_m1 ?_
          exact w_X2_readDocument_L148 hC hr hlocks hr_X2_readElement ih _ _ _ _ _ _ _ _ _ _ _ _ _ ls (lv_sub hl [0, 1, 2, 3, 5] rfl) hw hf
        · have hf := o_neg c103 hf
          refine lv_iload hx hb dX2_readDocument_142 (lv_at hl 5 rfl) ?_
          refine lv_goto (tgt := 148) hx hb dX2_readDocument_144 (by decide) ?_
          exact w_X2_readDocument_L148 hC hr hlocks hr_X2_readElement ih _ _ _ _ _ _ _ _ _ _ _ _ _ ls (lv_sub hl [0, 1, 2, 3, 5] rfl) hw hf
def fo_X2_readDocument (cy : Nat → ClassId) (r_X2_readElement : Nat → Int32 → Int32 → Int32 → Int32 → Mem → Option (Int32 × Mem)) (a0 : Nat) (a1 : Int32) (a2 : Int32) (a3 : Int32) (a4 : Int32) (μ : Mem) : Option (Int32 × Mem) :=
  if a1 = (-1) then (some ((-1), μ)) else if a3 ≤ 24 then (if isO μ a0 1 = true then (ob2 (f_X2_readBytes cy a0 a1 4 a2 μ) fun r6 μ5 => if r6 = (-1) then (some ((-1), μ5)) else (rdR μ5 a0 1 0).bind fun q8 => if isO μ5 q8 4 = true then (ob2 (f_X5_intAt cy q8 a1 μ5) fun r13 μ12 => if 5 ≤ r13 then (if r13 ≤ (a2 - a1) then ((rdI μ12 a0 1 6).bind fun v16 => (wrF μ12 a0 1 6 (.int (v16 + 1))).bind fun μ18 => (rdI μ18 a0 1 5).bind fun v20 => (wrF μ18 a0 1 5 (.int (if v20 < a3 then a3 else v20))).bind fun μ22 => if isO μ22 a0 1 = true then ((f_X2_countLength cy a0 r13 μ22).bind fun μ26 => f_X2_readDocument_L116 cy r_X2_readElement FU a0 a3 a4 ((a1 + r13) - 1) (a1 + 4) 0 μ26) else none) else if isO μ12 a0 1 = true then (ob2 (f_X2_refuse cy a0 1 a1 μ12) fun r30 μ29 => some (r30, μ29)) else none) else if isO μ12 a0 1 = true then (ob2 (f_X2_refuse cy a0 2 a1 μ12) fun r34 μ33 => some (r34, μ33)) else none) else none) else none) else if isO μ a0 1 = true then (ob2 (f_X2_refuse cy a0 8 a1 μ) fun r38 μ37 => some (r38, μ37)) else none
set_option maxRecDepth 100000 in
set_option maxHeartbeats 4000000 in
theorem co_X2_readDocument {l : Launch} {g : Wg} {L : List Nat} {d : Nat} {r_X2_readElement : Nat → Int32 → Int32 → Int32 → Int32 → Mem → Option (Int32 × Mem)} (hr_X2_readElement : ∀ {a0 : Nat} {a1 : Int32} {a2 : Int32} {a3 : Int32} {a4 : Int32} {μ : Mem} {r9 : Int32} {μ9 : Mem}, r_X2_readElement a0 a1 a2 a3 a4 μ = some (r9, μ9) → MetI l yX2_readElement cX2_readElement 7 (some .int) (rm_RD d) g L μ [.ref a0, .int a1, .int a2, .int a3, .int a4] r9 μ9) {μ : Mem} {a0 : Nat} {a1 : Int32} {a2 : Int32} {a3 : Int32} {a4 : Int32} {r : Int32} {μ' : Mem} (hf : fo_X2_readDocument g.2 r_X2_readElement a0 a1 a2 a3 a4 μ = some (r, μ')) : MetI l yX2_readDocument cX2_readDocument 9 (some .int) (rm_RD (d + 1)) g L μ [.ref a0, .int a1, .int a2, .int a3, .int a4] r μ' := by
  refine pw_met (Qc := fun A => QI g L A r μ') (by decide) (Nat.le_of_ble_eq_true rfl) ?_
  intro p e s m args below meth c A ls H locs hC hr hlocks hl hw
  have hx := hC.1
  have hb := hC.2.1
  have hl : lv_has ls 9 [(0, .ref a0), (1, .int a1), (2, .int a2), (3, .int a3), (4, .int a4)] := hl
  unfold fo_X2_readDocument at hf
  refine lv_iload_n hx hb dX2_readDocument_0 rfl (lv_at hl 1 rfl) ?_
  refine lv_iconst (v := (-1)) hx hb dX2_readDocument_1 nc_iconst_m1 ?_
  refine lv_icmp_ne (tgt := 7) hx hb dX2_readDocument_2 (by decide) (fun c1 => ?_) (fun c1 => ?_)
  · have hf := o_neg c1 hf
    refine lv_iload_n hx hb dX2_readDocument_7 rfl (lv_at hl 3 rfl) ?_
    refine lv_bipush (v := 24) hx hb dX2_readDocument_8 nc_bipush_24 ?_
    refine lv_icmp_le (tgt := 21) hx hb dX2_readDocument_10 (by decide) (fun c2 => ?_) (fun c2 => ?_)
    · have hf := o_pos c2 hf
      refine lv_aload_n hx hb dX2_readDocument_21 rfl (lv_at hl 0 rfl) ?_
      refine lv_iload_n hx hb dX2_readDocument_22 rfl (lv_at hl 1 rfl) ?_
      refine lv_iconst (v := 4) hx hb dX2_readDocument_23 nc_iconst_4 ?_
      refine lv_iload_n hx hb dX2_readDocument_24 rfl (lv_at hl 2 rfl) ?_
      obtain ⟨h4, hf⟩ := o_ite hf
      obtain ⟨r6, μ5, h3, hf⟩ := o_bind2 hf
      refine pw_goI hw (pw_runV (As := [.int a1, .int 4, .int a2]) (rest := []) hC mm_X2_readBytes tw_349 (c_X2_readBytes h3 _) (fio_RD d (by decide)) hw h4 rfl hl.1 (Nat.le_of_ble_eq_true rfl) ⟨Nat.zero_le _, Nat.zero_le _⟩ rfl dX2_readDocument_25) (fun H locs hw => ?_)
      refine lv_iconst (v := (-1)) hx hb dX2_readDocument_28 nc_iconst_m1 ?_
      refine lv_icmp_ne (tgt := 34) hx hb dX2_readDocument_29 (by decide) (fun c7 => ?_) (fun c7 => ?_)
      · have hf := o_neg c7 hf
        refine lv_aload_n hx hb dX2_readDocument_34 rfl (lv_at hl 0 rfl) ?_
        obtain ⟨q8, h9, hf⟩ := o_bind hf
        refine pw_get hC fl_X2_14 hw (rdR_F h9) dX2_readDocument_35 ?_
        refine lv_iload_n hx hb dX2_readDocument_38 rfl (lv_at hl 1 rfl) ?_
        obtain ⟨h11, hf⟩ := o_ite hf
        obtain ⟨r13, μ12, h10, hf⟩ := o_bind2 hf
        refine pw_goI hw (pw_runV (As := [.int a1]) (rest := []) hC mm_X5_intAt tw_353 (c_X5_intAt h10 _) (fio_RD d (by decide)) hw h11 rfl hl.1 (Nat.le_of_ble_eq_true rfl) ⟨Nat.zero_le _, Nat.zero_le _⟩ rfl dX2_readDocument_39) (fun H locs hw => ?_)
        refine lv_istore (lv' := [(5, .int r13), (0, .ref a0), (1, .int a1), (2, .int a2), (3, .int a3), (4, .int a4)]) hx hb dX2_readDocument_42 hl (by decide) rfl (fun ls hl => ?_)
        refine lv_iload hx hb dX2_readDocument_44 (lv_at hl 0 rfl) ?_
        refine lv_iconst (v := 5) hx hb dX2_readDocument_46 nc_iconst_5 ?_
        refine lv_icmp_ge (tgt := 57) hx hb dX2_readDocument_47 (by decide) (fun c14 => ?_) (fun c14 => ?_)
        · have hf := o_pos c14 hf
          refine lv_iload hx hb dX2_readDocument_57 (lv_at hl 0 rfl) ?_
          refine lv_iload_n hx hb dX2_readDocument_59 rfl (lv_at hl 3 rfl) ?_
          refine lv_iload_n hx hb dX2_readDocument_60 rfl (lv_at hl 2 rfl) ?_
          refine lv_isub hx hb dX2_readDocument_61 ?_
          refine lv_icmp_le (tgt := 72) hx hb dX2_readDocument_62 (by decide) (fun c15 => ?_) (fun c15 => ?_)
          · have hf := o_pos c15 hf
            refine lv_aload_n hx hb dX2_readDocument_72 rfl (lv_at hl 1 rfl) ?_
            refine lv_dup hx hb dX2_readDocument_73 rfl ?_
            obtain ⟨v16, h17, hf⟩ := o_bind hf
            refine pw_get hC fl_X2_36 hw (rdI_F h17) dX2_readDocument_74 ?_
            refine lv_iconst (v := 1) hx hb dX2_readDocument_77 nc_iconst_1 ?_
            refine lv_iadd hx hb dX2_readDocument_78 ?_
            obtain ⟨μ18, h19, hf⟩ := o_bind hf
            refine pw_put hC fl_X2_36 hw h19 .int fd_X2_6 rfl rfl dX2_readDocument_79 (fun H locs hw => ?_)
            refine lv_aload_n hx hb dX2_readDocument_82 rfl (lv_at hl 1 rfl) ?_
            refine lv_aload_n hx hb dX2_readDocument_83 rfl (lv_at hl 1 rfl) ?_
            obtain ⟨v20, h21, hf⟩ := o_bind hf
            refine pw_get hC fl_X2_33 hw (rdI_F h21) dX2_readDocument_84 ?_
            refine lv_iload_n hx hb dX2_readDocument_87 rfl (lv_at hl 4 rfl) ?_
            refine va_mmax hx hb (hC.2.2.1.trans hl.1.symm) hC.2.2.2.1 (hC.2.2.2.2 _ tw_354) (hC.2.2.2.2 _ tw_35) (hC.2.2.2.2 _ tw_3) (hC.2.2.2.2 _ tw_36) (fim_RD d).1 (Nat.le_trans (m := 40) (Nat.le_of_ble_eq_true rfl) (fim_RD d).2) (by first | exact Nat.zero_le _ | decide) (by first | exact Nat.zero_le _ | decide) dX2_readDocument_88 ?_
            obtain ⟨μ22, h23, hf⟩ := o_bind hf
            refine pw_put hC fl_X2_33 hw h23 .int fd_X2_5 rfl rfl dX2_readDocument_91 (fun H locs hw => ?_)
            refine lv_aload_n hx hb dX2_readDocument_94 rfl (lv_at hl 1 rfl) ?_
            refine lv_iload hx hb dX2_readDocument_95 (lv_at hl 0 rfl) ?_
            obtain ⟨h25, hf⟩ := o_ite hf
            obtain ⟨μ26, h24, hf⟩ := o_bind hf
            refine pw_goV hw (pw_runV (As := [.int r13]) (rest := []) hC mm_X2_countLength tw_355 (c_X2_countLength h24 _) (fio_RD d (by decide)) hw h25 rfl hl.1 (Nat.le_of_ble_eq_true rfl) ⟨Nat.zero_le _, Nat.zero_le _⟩ rfl dX2_readDocument_97) (fun H locs hw => ?_)
            refine lv_iload_n hx hb dX2_readDocument_100 rfl (lv_at hl 2 rfl) ?_
            refine lv_iload hx hb dX2_readDocument_101 (lv_at hl 0 rfl) ?_
            refine lv_iadd hx hb dX2_readDocument_103 ?_
            refine lv_iconst (v := 1) hx hb dX2_readDocument_104 nc_iconst_1 ?_
            refine lv_isub hx hb dX2_readDocument_105 ?_
            refine lv_istore (lv' := [(6, .int ((a1 + r13) - 1)), (5, .int r13), (0, .ref a0), (1, .int a1), (2, .int a2), (3, .int a3), (4, .int a4)]) hx hb dX2_readDocument_106 hl (by decide) rfl (fun ls hl => ?_)
            refine lv_iload_n hx hb dX2_readDocument_108 rfl (lv_at hl 3 rfl) ?_
            refine lv_iconst (v := 4) hx hb dX2_readDocument_109 nc_iconst_4 ?_
            refine lv_iadd hx hb dX2_readDocument_110 ?_
            refine lv_istore (lv' := [(7, .int (a1 + 4)), (6, .int ((a1 + r13) - 1)), (5, .int r13), (0, .ref a0), (1, .int a1), (2, .int a2), (3, .int a3), (4, .int a4)]) hx hb dX2_readDocument_111 hl (by decide) rfl (fun ls hl => ?_)
            refine lv_iconst (v := 0) hx hb dX2_readDocument_113 nc_iconst_0 ?_
            refine lv_istore (lv' := [(8, .int 0), (7, .int (a1 + 4)), (6, .int ((a1 + r13) - 1)), (5, .int r13), (0, .ref a0), (1, .int a1), (2, .int a2), (3, .int a3), (4, .int a4)]) hx hb dX2_readDocument_114 hl (by decide) rfl (fun ls hl => ?_)
            exact w_X2_readDocument_L116 hC hr hlocks hr_X2_readElement FU _ _ _ _ _ _ _ _ _ ls (lv_sub hl [4, 7, 8, 2, 1, 0] rfl) hw hf
          · have hf := o_neg c15 hf
            refine lv_aload_n hx hb dX2_readDocument_65 rfl (lv_at hl 1 rfl) ?_
            refine lv_iconst (v := 1) hx hb dX2_readDocument_66 nc_iconst_1 ?_
            refine lv_iload_n hx hb dX2_readDocument_67 rfl (lv_at hl 2 rfl) ?_
            obtain ⟨h28, hf⟩ := o_ite hf
            obtain ⟨r30, μ29, h27, hf⟩ := o_bind2 hf
            refine pw_goI hw (pw_runV (As := [.int 1, .int a1]) (rest := []) hC mm_X2_refuse tw_345 (c_X2_refuse h27 _) (fio_RD d (by decide)) hw h28 rfl hl.1 (Nat.le_of_ble_eq_true rfl) ⟨Nat.zero_le _, Nat.zero_le _⟩ rfl dX2_readDocument_68) (fun H locs hw => ?_)
            obtain ⟨rfl, rfl⟩ := o_ret hf
            exact pw_iret hC hr hlocks hw dX2_readDocument_71
        · have hf := o_neg c14 hf
          refine lv_aload_n hx hb dX2_readDocument_50 rfl (lv_at hl 1 rfl) ?_
          refine lv_iconst (v := 2) hx hb dX2_readDocument_51 nc_iconst_2 ?_
          refine lv_iload_n hx hb dX2_readDocument_52 rfl (lv_at hl 2 rfl) ?_
          obtain ⟨h32, hf⟩ := o_ite hf
          obtain ⟨r34, μ33, h31, hf⟩ := o_bind2 hf
          refine pw_goI hw (pw_runV (As := [.int 2, .int a1]) (rest := []) hC mm_X2_refuse tw_345 (c_X2_refuse h31 _) (fio_RD d (by decide)) hw h32 rfl hl.1 (Nat.le_of_ble_eq_true rfl) ⟨Nat.zero_le _, Nat.zero_le _⟩ rfl dX2_readDocument_53) (fun H locs hw => ?_)
          obtain ⟨rfl, rfl⟩ := o_ret hf
          exact pw_iret hC hr hlocks hw dX2_readDocument_56
      · have hf := o_pos c7 hf
        refine lv_iconst (v := (-1)) hx hb dX2_readDocument_32 nc_iconst_m1 ?_
        obtain ⟨rfl, rfl⟩ := o_ret hf
        exact pw_iret hC hr hlocks hw dX2_readDocument_33
    · have hf := o_neg c2 hf
      refine lv_aload_n hx hb dX2_readDocument_13 rfl (lv_at hl 0 rfl) ?_
      refine lv_bipush (v := 8) hx hb dX2_readDocument_14 nc_bipush_8 ?_
      refine lv_iload_n hx hb dX2_readDocument_16 rfl (lv_at hl 1 rfl) ?_
      obtain ⟨h36, hf⟩ := o_ite hf
      obtain ⟨r38, μ37, h35, hf⟩ := o_bind2 hf
      refine pw_goI hw (pw_runV (As := [.int 8, .int a1]) (rest := []) hC mm_X2_refuse tw_345 (c_X2_refuse h35 _) (fio_RD d (by decide)) hw h36 rfl hl.1 (Nat.le_of_ble_eq_true rfl) ⟨Nat.zero_le _, Nat.zero_le _⟩ rfl dX2_readDocument_17) (fun H locs hw => ?_)
      obtain ⟨rfl, rfl⟩ := o_ret hf
      exact pw_iret hC hr hlocks hw dX2_readDocument_20
  · have hf := o_pos c1 hf
    refine lv_iconst (v := (-1)) hx hb dX2_readDocument_5 nc_iconst_m1 ?_
    obtain ⟨rfl, rfl⟩ := o_ret hf
    exact pw_iret hC hr hlocks hw dX2_readDocument_6
theorem dX2_readElement_0 : decode cX2_readElement 0 = .ok (.aload_n 0, 1) := by decide +kernel
theorem dX2_readElement_1 : decode cX2_readElement 1 = .ok (.getfield 14, 3) := by decide +kernel
theorem dX2_readElement_4 : decode cX2_readElement 4 = .ok (.iload_n 1, 1) := by decide +kernel
theorem dX2_readElement_5 : decode cX2_readElement 5 = .ok (.invokevirtual 110, 3) := by decide +kernel
theorem dX2_readElement_8 : decode cX2_readElement 8 = .ok (.istore 5, 2) := by decide +kernel
theorem dX2_readElement_10 : decode cX2_readElement 10 = .ok (.iload 5, 2) := by decide +kernel
theorem dX2_readElement_12 : decode cX2_readElement 12 = .ok (.invokestatic 72, 3) := by decide +kernel
theorem dX2_readElement_15 : decode cX2_readElement 15 = .ok (.ifCond .ne 10, 3) := by decide +kernel
theorem dX2_readElement_18 : decode cX2_readElement 18 = .ok (.aload_n 0, 1) := by decide +kernel
theorem dX2_readElement_19 : decode cX2_readElement 19 = .ok (.iconst 3, 1) := by decide +kernel
theorem dX2_readElement_20 : decode cX2_readElement 20 = .ok (.iload_n 1, 1) := by decide +kernel
theorem dX2_readElement_21 : decode cX2_readElement 21 = .ok (.invokevirtual 78, 3) := by decide +kernel
theorem dX2_readElement_24 : decode cX2_readElement 24 = .ok (.ireturn, 1) := by decide +kernel
theorem dX2_readElement_25 : decode cX2_readElement 25 = .ok (.iload 4, 2) := by decide +kernel
theorem dX2_readElement_27 : decode cX2_readElement 27 = .ok (.iconst (-1), 1) := by decide +kernel
theorem dX2_readElement_28 : decode cX2_readElement 28 = .ok (.if_icmp .ne 14, 3) := by decide +kernel
theorem dX2_readElement_31 : decode cX2_readElement 31 = .ok (.aload_n 0, 1) := by decide +kernel
theorem dX2_readElement_32 : decode cX2_readElement 32 = .ok (.iload_n 1, 1) := by decide +kernel
theorem dX2_readElement_33 : decode cX2_readElement 33 = .ok (.iconst 1, 1) := by decide +kernel
theorem dX2_readElement_34 : decode cX2_readElement 34 = .ok (.iadd, 1) := by decide +kernel
theorem dX2_readElement_35 : decode cX2_readElement 35 = .ok (.iload_n 2, 1) := by decide +kernel
theorem dX2_readElement_36 : decode cX2_readElement 36 = .ok (.invokevirtual 68, 3) := by decide +kernel
theorem dX2_readElement_39 : decode cX2_readElement 39 = .ok (.goto 13, 3) := by decide +kernel
theorem dX2_readElement_42 : decode cX2_readElement 42 = .ok (.aload_n 0, 1) := by decide +kernel
theorem dX2_readElement_43 : decode cX2_readElement 43 = .ok (.iload_n 1, 1) := by decide +kernel
theorem dX2_readElement_44 : decode cX2_readElement 44 = .ok (.iconst 1, 1) := by decide +kernel
theorem dX2_readElement_45 : decode cX2_readElement 45 = .ok (.iadd, 1) := by decide +kernel
theorem dX2_readElement_46 : decode cX2_readElement 46 = .ok (.iload_n 2, 1) := by decide +kernel
theorem dX2_readElement_47 : decode cX2_readElement 47 = .ok (.iload 4, 2) := by decide +kernel
theorem dX2_readElement_49 : decode cX2_readElement 49 = .ok (.invokevirtual 124, 3) := by decide +kernel
theorem dX2_readElement_52 : decode cX2_readElement 52 = .ok (.istore 6, 2) := by decide +kernel
theorem dX2_readElement_54 : decode cX2_readElement 54 = .ok (.iload 6, 2) := by decide +kernel
theorem dX2_readElement_56 : decode cX2_readElement 56 = .ok (.iconst (-1), 1) := by decide +kernel
theorem dX2_readElement_57 : decode cX2_readElement 57 = .ok (.if_icmp .ne 5, 3) := by decide +kernel
theorem dX2_readElement_60 : decode cX2_readElement 60 = .ok (.iconst (-1), 1) := by decide +kernel
theorem dX2_readElement_61 : decode cX2_readElement 61 = .ok (.ireturn, 1) := by decide +kernel
theorem dX2_readElement_62 : decode cX2_readElement 62 = .ok (.aload_n 0, 1) := by decide +kernel
theorem dX2_readElement_63 : decode cX2_readElement 63 = .ok (.dup, 1) := by decide +kernel
theorem dX2_readElement_64 : decode cX2_readElement 64 = .ok (.getfield 30, 3) := by decide +kernel
theorem dX2_readElement_67 : decode cX2_readElement 67 = .ok (.iconst 1, 1) := by decide +kernel
theorem dX2_readElement_68 : decode cX2_readElement 68 = .ok (.iadd, 1) := by decide +kernel
theorem dX2_readElement_69 : decode cX2_readElement 69 = .ok (.putfield 30, 3) := by decide +kernel
theorem dX2_readElement_72 : decode cX2_readElement 72 = .ok (.aload_n 0, 1) := by decide +kernel
theorem dX2_readElement_73 : decode cX2_readElement 73 = .ok (.dup, 1) := by decide +kernel
theorem dX2_readElement_74 : decode cX2_readElement 74 = .ok (.getfield 45, 3) := by decide +kernel
theorem dX2_readElement_77 : decode cX2_readElement 77 = .ok (.iload 6, 2) := by decide +kernel
theorem dX2_readElement_79 : decode cX2_readElement 79 = .ok (.iload_n 1, 1) := by decide +kernel
theorem dX2_readElement_80 : decode cX2_readElement 80 = .ok (.isub, 1) := by decide +kernel
theorem dX2_readElement_81 : decode cX2_readElement 81 = .ok (.iconst 2, 1) := by decide +kernel
theorem dX2_readElement_82 : decode cX2_readElement 82 = .ok (.isub, 1) := by decide +kernel
theorem dX2_readElement_83 : decode cX2_readElement 83 = .ok (.iadd, 1) := by decide +kernel
theorem dX2_readElement_84 : decode cX2_readElement 84 = .ok (.putfield 45, 3) := by decide +kernel
theorem dX2_readElement_87 : decode cX2_readElement 87 = .ok (.iload 5, 2) := by decide +kernel
theorem dX2_readElement_89 : decode cX2_readElement 89 = .ok (.aload_n 0, 1) := by decide +kernel
theorem dX2_readElement_90 : decode cX2_readElement 90 = .ok (.getfield 48, 3) := by decide +kernel
theorem dX2_readElement_93 : decode cX2_readElement 93 = .ok (.if_icmp .ne 13, 3) := by decide +kernel
theorem dX2_readElement_96 : decode cX2_readElement 96 = .ok (.aload_n 0, 1) := by decide +kernel
theorem dX2_readElement_97 : decode cX2_readElement 97 = .ok (.dup, 1) := by decide +kernel
theorem dX2_readElement_98 : decode cX2_readElement 98 = .ok (.getfield 51, 3) := by decide +kernel
theorem dX2_readElement_101 : decode cX2_readElement 101 = .ok (.iconst 1, 1) := by decide +kernel
theorem dX2_readElement_102 : decode cX2_readElement 102 = .ok (.iadd, 1) := by decide +kernel
theorem dX2_readElement_103 : decode cX2_readElement 103 = .ok (.putfield 51, 3) := by decide +kernel
theorem dX2_readElement_106 : decode cX2_readElement 106 = .ok (.aload_n 0, 1) := by decide +kernel
theorem dX2_readElement_107 : decode cX2_readElement 107 = .ok (.iload 5, 2) := by decide +kernel
theorem dX2_readElement_109 : decode cX2_readElement 109 = .ok (.iload 6, 2) := by decide +kernel
theorem dX2_readElement_111 : decode cX2_readElement 111 = .ok (.iload_n 2, 1) := by decide +kernel
theorem dX2_readElement_112 : decode cX2_readElement 112 = .ok (.iload_n 3, 1) := by decide +kernel
theorem dX2_readElement_113 : decode cX2_readElement 113 = .ok (.invokevirtual 81, 3) := by decide +kernel
theorem dX2_readElement_116 : decode cX2_readElement 116 = .ok (.ireturn, 1) := by decide +kernel
def f_X2_readElement_L106 (cy : Nat → ClassId) (r_X2_readValue : Nat → Int32 → Int32 → Int32 → Int32 → Mem → Option (Int32 × Mem)) (a0 : Nat) (a2 : Int32) (a3 : Int32) (a5 : Int32) (a6 : Int32) (μ : Mem) : Option (Int32 × Mem) :=
  if isO μ a0 1 = true then (ob2 (r_X2_readValue a0 a5 a6 a2 a3 μ) fun r104 μ103 => some (r104, μ103)) else none
set_option maxRecDepth 100000 in
set_option maxHeartbeats 4000000 in
theorem w_X2_readElement_L106 {p : Program} {l : Launch} {e : Env} {s : State} {m : MethodId} {args : Array Value} {below : List Frame} {meth : Method} {c : Code} {A : Nat → Prop} {g : Wg} {L : List Nat} {r : Int32} {μ' : Mem} (hC : CX p m c cX2_readElement 7 s args RX2) (hr : meth.sig.returnType = (some .int)) (hlocks : meth.locks = false) {d : Nat} {r_X2_readValue : Nat → Int32 → Int32 → Int32 → Int32 → Mem → Option (Int32 × Mem)} (hr_X2_readValue : ∀ {a0 : Nat} {a1 : Int32} {a2 : Int32} {a3 : Int32} {a4 : Int32} {μ : Mem} {r9 : Int32} {μ9 : Mem}, r_X2_readValue a0 a1 a2 a3 a4 μ = some (r9, μ9) → MetI l yX2_readValue cX2_readValue 5 (some .int) (rm_RD d) g L μ [.ref a0, .int a1, .int a2, .int a3, .int a4] r9 μ9) : ∀ (a0 : Nat) (a2 : Int32) (a3 : Int32) (a5 : Int32) (a6 : Int32) (μ : Mem) (H : Heap) (locs : List Loc) (ls : Array Slot), lv_has ls 7 [(0, .ref a0), (2, .int a2), (3, .int a3), (5, .int a5), (6, .int a6)] → PW g L μ A s H locs → f_X2_readElement_L106 g.2 r_X2_readValue a0 a2 a3 a5 a6 μ = some (r, μ') → W p l e (rm_RD (d + 1)) s m args below meth c H locs 0 0 (MQ below (QI g L A r μ') args s 0 0 A) (F0 m 106 ls []) := by
  have hx := hC.1
  have hb := hC.2.1
  intro a0 a2 a3 a5 a6 μ H locs ls hl hw hf
  unfold f_X2_readElement_L106 at hf
  refine lv_aload_n hx hb dX2_readElement_106 rfl (lv_at hl 0 rfl) ?_
  refine lv_iload hx hb dX2_readElement_107 (lv_at hl 3 rfl) ?_
  refine lv_iload hx hb dX2_readElement_109 (lv_at hl 4 rfl) ?_
  refine lv_iload_n hx hb dX2_readElement_111 rfl (lv_at hl 1 rfl) ?_
  refine lv_iload_n hx hb dX2_readElement_112 rfl (lv_at hl 2 rfl) ?_
  obtain ⟨h102, hf⟩ := o_ite hf
  obtain ⟨r104, μ103, h101, hf⟩ := o_bind2 hf
  refine pw_goI hw (pw_runV (As := [.int a5, .int a6, .int a2, .int a3]) (rest := []) hC mm_X2_readValue tw_392 (hr_X2_readValue h101 _) (fit_RD d (by decide)) hw h102 rfl hl.1 (Nat.le_of_ble_eq_true rfl) ⟨Nat.zero_le _, Nat.zero_le _⟩ rfl dX2_readElement_113) (fun H locs hw => ?_)
  obtain ⟨rfl, rfl⟩ := o_ret hf
  exact pw_iret hC hr hlocks hw dX2_readElement_116
def f_X2_readElement_L52 (cy : Nat → ClassId) (r_X2_readValue : Nat → Int32 → Int32 → Int32 → Int32 → Mem → Option (Int32 × Mem)) (a0 : Nat) (a1 : Int32) (a2 : Int32) (a3 : Int32) (a5 : Int32) (t0 : Int32) (μ : Mem) : Option (Int32 × Mem) :=
  if t0 = (-1) then (some ((-1), μ)) else (rdI μ a0 1 4).bind fun v102 => (wrF μ a0 1 4 (.int (v102 + 1))).bind fun μ104 => (rdI μ104 a0 1 9).bind fun v106 => (wrF μ104 a0 1 9 (.int (v106 + ((t0 - a1) - 2)))).bind fun μ108 => (rdI μ108 a0 1 10).bind fun v110 => if a5 = v110 then ((rdI μ108 a0 1 11).bind fun v113 => (wrF μ108 a0 1 11 (.int (v113 + 1))).bind fun μ115 => f_X2_readElement_L106 cy r_X2_readValue a0 a2 a3 a5 t0 μ115) else f_X2_readElement_L106 cy r_X2_readValue a0 a2 a3 a5 t0 μ108
set_option maxRecDepth 100000 in
set_option maxHeartbeats 4000000 in
theorem w_X2_readElement_L52 {p : Program} {l : Launch} {e : Env} {s : State} {m : MethodId} {args : Array Value} {below : List Frame} {meth : Method} {c : Code} {A : Nat → Prop} {g : Wg} {L : List Nat} {r : Int32} {μ' : Mem} (hC : CX p m c cX2_readElement 7 s args RX2) (hr : meth.sig.returnType = (some .int)) (hlocks : meth.locks = false) {d : Nat} {r_X2_readValue : Nat → Int32 → Int32 → Int32 → Int32 → Mem → Option (Int32 × Mem)} (hr_X2_readValue : ∀ {a0 : Nat} {a1 : Int32} {a2 : Int32} {a3 : Int32} {a4 : Int32} {μ : Mem} {r9 : Int32} {μ9 : Mem}, r_X2_readValue a0 a1 a2 a3 a4 μ = some (r9, μ9) → MetI l yX2_readValue cX2_readValue 5 (some .int) (rm_RD d) g L μ [.ref a0, .int a1, .int a2, .int a3, .int a4] r9 μ9) : ∀ (a0 : Nat) (a1 : Int32) (a2 : Int32) (a3 : Int32) (a5 : Int32) (t0 : Int32) (μ : Mem) (H : Heap) (locs : List Loc) (ls : Array Slot), lv_has ls 7 [(0, .ref a0), (1, .int a1), (2, .int a2), (3, .int a3), (5, .int a5)] → PW g L μ A s H locs → f_X2_readElement_L52 g.2 r_X2_readValue a0 a1 a2 a3 a5 t0 μ = some (r, μ') → W p l e (rm_RD (d + 1)) s m args below meth c H locs 0 0 (MQ below (QI g L A r μ') args s 0 0 A) (F0 m 52 ls [.int t0]) := by
  have hx := hC.1
  have hb := hC.2.1
  intro a0 a1 a2 a3 a5 t0 μ H locs ls hl hw hf
  unfold f_X2_readElement_L52 at hf
  refine lv_istore (lv' := [(6, .int t0), (0, .ref a0), (1, .int a1), (2, .int a2), (3, .int a3), (5, .int a5)]) hx hb dX2_readElement_52 hl (by decide) rfl (fun ls hl => ?_)
  refine lv_iload hx hb dX2_readElement_54 (lv_at hl 0 rfl) ?_
  refine lv_iconst (v := (-1)) hx hb dX2_readElement_56 nc_iconst_m1 ?_
  refine lv_icmp_ne (tgt := 62) hx hb dX2_readElement_57 (by decide) (fun c101 => ?_) (fun c101 => ?_)
  · have hf := o_neg c101 hf
    refine lv_aload_n hx hb dX2_readElement_62 rfl (lv_at hl 1 rfl) ?_
    refine lv_dup hx hb dX2_readElement_63 rfl ?_
    obtain ⟨v102, h103, hf⟩ := o_bind hf
    refine pw_get hC fl_X2_30 hw (rdI_F h103) dX2_readElement_64 ?_
    refine lv_iconst (v := 1) hx hb dX2_readElement_67 nc_iconst_1 ?_
    refine lv_iadd hx hb dX2_readElement_68 ?_
    obtain ⟨μ104, h105, hf⟩ := o_bind hf
    refine pw_put hC fl_X2_30 hw h105 .int fd_X2_4 rfl rfl dX2_readElement_69 (fun H locs hw => ?_)
    refine lv_aload_n hx hb dX2_readElement_72 rfl (lv_at hl 1 rfl) ?_
    refine lv_dup hx hb dX2_readElement_73 rfl ?_
    obtain ⟨v106, h107, hf⟩ := o_bind hf
    refine pw_get hC fl_X2_45 hw (rdI_F h107) dX2_readElement_74 ?_
    refine lv_iload hx hb dX2_readElement_77 (lv_at hl 0 rfl) ?_
    refine lv_iload_n hx hb dX2_readElement_79 rfl (lv_at hl 2 rfl) ?_
    refine lv_isub hx hb dX2_readElement_80 ?_
    refine lv_iconst (v := 2) hx hb dX2_readElement_81 nc_iconst_2 ?_
    refine lv_isub hx hb dX2_readElement_82 ?_
    refine lv_iadd hx hb dX2_readElement_83 ?_
    obtain ⟨μ108, h109, hf⟩ := o_bind hf
    refine pw_put hC fl_X2_45 hw h109 .int fd_X2_9 rfl rfl dX2_readElement_84 (fun H locs hw => ?_)
    refine lv_iload hx hb dX2_readElement_87 (lv_at hl 5 rfl) ?_
    refine lv_aload_n hx hb dX2_readElement_89 rfl (lv_at hl 1 rfl) ?_
    obtain ⟨v110, h111, hf⟩ := o_bind hf
    refine pw_get hC fl_X2_48 hw (rdI_F h111) dX2_readElement_90 ?_
    refine lv_icmp_ne (tgt := 106) hx hb dX2_readElement_93 (by decide) (fun c112 => ?_) (fun c112 => ?_)
    · have hf := o_neg c112 hf
      exact w_X2_readElement_L106 hC hr hlocks hr_X2_readValue _ _ _ _ _ _ _ _ ls (lv_sub hl [1, 3, 4, 5, 0] rfl) hw hf
    · have hf := o_pos c112 hf
      refine lv_aload_n hx hb dX2_readElement_96 rfl (lv_at hl 1 rfl) ?_
      refine lv_dup hx hb dX2_readElement_97 rfl ?_
      obtain ⟨v113, h114, hf⟩ := o_bind hf
      refine pw_get hC fl_X2_51 hw (rdI_F h114) dX2_readElement_98 ?_
      refine lv_iconst (v := 1) hx hb dX2_readElement_101 nc_iconst_1 ?_
      refine lv_iadd hx hb dX2_readElement_102 ?_
      obtain ⟨μ115, h116, hf⟩ := o_bind hf
      refine pw_put hC fl_X2_51 hw h116 .int fd_X2_11 rfl rfl dX2_readElement_103 (fun H locs hw => ?_)
      exact w_X2_readElement_L106 hC hr hlocks hr_X2_readValue _ _ _ _ _ _ _ _ ls (lv_sub hl [1, 3, 4, 5, 0] rfl) hw hf
  · have hf := o_pos c101 hf
    refine lv_iconst (v := (-1)) hx hb dX2_readElement_60 nc_iconst_m1 ?_
    obtain ⟨rfl, rfl⟩ := o_ret hf
    exact pw_iret hC hr hlocks hw dX2_readElement_61
def fo_X2_readElement (cy : Nat → ClassId) (r_X2_readValue : Nat → Int32 → Int32 → Int32 → Int32 → Mem → Option (Int32 × Mem)) (a0 : Nat) (a1 : Int32) (a2 : Int32) (a3 : Int32) (a4 : Int32) (μ : Mem) : Option (Int32 × Mem) :=
  (rdR μ a0 1 0).bind fun q1 => if isO μ q1 4 = true then (ob2 (f_X5_at cy q1 a1 μ) fun r6 μ5 => ob2 (f_X1_isType cy r6 μ5) fun r9 μ8 => if r9 = 0 then (if isO μ8 a0 1 = true then (ob2 (f_X2_refuse cy a0 3 a1 μ8) fun r23 μ22 => some (r23, μ22)) else none) else if a4 = (-1) then (if isO μ8 a0 1 = true then (ob2 (f_X2_readName cy a0 (a1 + 1) a2 μ8) fun r19 μ18 => f_X2_readElement_L52 cy r_X2_readValue a0 a1 a2 a3 r6 r19 μ18) else none) else if isO μ8 a0 1 = true then (ob2 (f_X2_readRowName cy a0 (a1 + 1) a2 a4 μ8) fun r15 μ14 => f_X2_readElement_L52 cy r_X2_readValue a0 a1 a2 a3 r6 r15 μ14) else none) else none
set_option maxRecDepth 100000 in
set_option maxHeartbeats 4000000 in
theorem co_X2_readElement {l : Launch} {g : Wg} {L : List Nat} {d : Nat} {r_X2_readValue : Nat → Int32 → Int32 → Int32 → Int32 → Mem → Option (Int32 × Mem)} (hr_X2_readValue : ∀ {a0 : Nat} {a1 : Int32} {a2 : Int32} {a3 : Int32} {a4 : Int32} {μ : Mem} {r9 : Int32} {μ9 : Mem}, r_X2_readValue a0 a1 a2 a3 a4 μ = some (r9, μ9) → MetI l yX2_readValue cX2_readValue 5 (some .int) (rm_RD d) g L μ [.ref a0, .int a1, .int a2, .int a3, .int a4] r9 μ9) {μ : Mem} {a0 : Nat} {a1 : Int32} {a2 : Int32} {a3 : Int32} {a4 : Int32} {r : Int32} {μ' : Mem} (hf : fo_X2_readElement g.2 r_X2_readValue a0 a1 a2 a3 a4 μ = some (r, μ')) : MetI l yX2_readElement cX2_readElement 7 (some .int) (rm_RD (d + 1)) g L μ [.ref a0, .int a1, .int a2, .int a3, .int a4] r μ' := by
  refine pw_met (Qc := fun A => QI g L A r μ') (by decide) (Nat.le_of_ble_eq_true rfl) ?_
  intro p e s m args below meth c A ls H locs hC hr hlocks hl hw
  have hx := hC.1
  have hb := hC.2.1
  have hl : lv_has ls 7 [(0, .ref a0), (1, .int a1), (2, .int a2), (3, .int a3), (4, .int a4)] := hl
  unfold fo_X2_readElement at hf
  refine lv_aload_n hx hb dX2_readElement_0 rfl (lv_at hl 0 rfl) ?_
  obtain ⟨q1, h2, hf⟩ := o_bind hf
  refine pw_get hC fl_X2_14 hw (rdR_F h2) dX2_readElement_1 ?_
  refine lv_iload_n hx hb dX2_readElement_4 rfl (lv_at hl 1 rfl) ?_
  obtain ⟨h4, hf⟩ := o_ite hf
  obtain ⟨r6, μ5, h3, hf⟩ := o_bind2 hf
  refine pw_goI hw (pw_runV (As := [.int a1]) (rest := []) hC mm_X5_at tw_363 (c_X5_at h3 _) (fio_RD d (by decide)) hw h4 rfl hl.1 (Nat.le_of_ble_eq_true rfl) ⟨Nat.zero_le _, Nat.zero_le _⟩ rfl dX2_readElement_5) (fun H locs hw => ?_)
  refine lv_istore (lv' := [(5, .int r6), (0, .ref a0), (1, .int a1), (2, .int a2), (3, .int a3), (4, .int a4)]) hx hb dX2_readElement_8 hl (by decide) rfl (fun ls hl => ?_)
  refine lv_iload hx hb dX2_readElement_10 (lv_at hl 0 rfl) ?_
  obtain ⟨r9, μ8, h7, hf⟩ := o_bind2 hf
  refine pw_goI hw (pw_runS (As := [.int r6]) (rest := []) hC mm_X1_isType tw_364 (c_X1_isType h7 _) (fio_RD d (by decide)) hw rfl hl.1 (Nat.le_of_ble_eq_true rfl) ⟨Nat.zero_le _, Nat.zero_le _⟩ rfl dX2_readElement_12) (fun H locs hw => ?_)
  refine lv_if_ne (tgt := 25) hx hb dX2_readElement_15 (by decide) (fun c10 => ?_) (fun c10 => ?_)
  · have hf := o_neg c10 hf
    refine lv_iload hx hb dX2_readElement_25 (lv_at hl 5 rfl) ?_
    refine lv_iconst (v := (-1)) hx hb dX2_readElement_27 nc_iconst_m1 ?_
    refine lv_icmp_ne (tgt := 42) hx hb dX2_readElement_28 (by decide) (fun c11 => ?_) (fun c11 => ?_)
    · have hf := o_neg c11 hf
      refine lv_aload_n hx hb dX2_readElement_42 rfl (lv_at hl 1 rfl) ?_
      refine lv_iload_n hx hb dX2_readElement_43 rfl (lv_at hl 2 rfl) ?_
      refine lv_iconst (v := 1) hx hb dX2_readElement_44 nc_iconst_1 ?_
      refine lv_iadd hx hb dX2_readElement_45 ?_
      refine lv_iload_n hx hb dX2_readElement_46 rfl (lv_at hl 3 rfl) ?_
      refine lv_iload hx hb dX2_readElement_47 (lv_at hl 5 rfl) ?_
      obtain ⟨h13, hf⟩ := o_ite hf
      obtain ⟨r15, μ14, h12, hf⟩ := o_bind2 hf
      refine pw_goI hw (pw_runV (As := [.int (a1 + 1), .int a2, .int a4]) (rest := []) hC mm_X2_readRowName tw_382 (c_X2_readRowName h12 _) (fio_RD d (by decide)) hw h13 rfl hl.1 (Nat.le_of_ble_eq_true rfl) ⟨Nat.zero_le _, Nat.zero_le _⟩ rfl dX2_readElement_49) (fun H locs hw => ?_)
      exact w_X2_readElement_L52 hC hr hlocks hr_X2_readValue _ _ _ _ _ _ _ _ _ ls (lv_sub hl [1, 2, 3, 4, 0] rfl) hw hf
    · have hf := o_pos c11 hf
      refine lv_aload_n hx hb dX2_readElement_31 rfl (lv_at hl 1 rfl) ?_
      refine lv_iload_n hx hb dX2_readElement_32 rfl (lv_at hl 2 rfl) ?_
      refine lv_iconst (v := 1) hx hb dX2_readElement_33 nc_iconst_1 ?_
      refine lv_iadd hx hb dX2_readElement_34 ?_
      refine lv_iload_n hx hb dX2_readElement_35 rfl (lv_at hl 3 rfl) ?_
      obtain ⟨h17, hf⟩ := o_ite hf
      obtain ⟨r19, μ18, h16, hf⟩ := o_bind2 hf
      refine pw_goI hw (pw_runV (As := [.int (a1 + 1), .int a2]) (rest := []) hC mm_X2_readName tw_367 (c_X2_readName h16 _) (fio_RD d (by decide)) hw h17 rfl hl.1 (Nat.le_of_ble_eq_true rfl) ⟨Nat.zero_le _, Nat.zero_le _⟩ rfl dX2_readElement_36) (fun H locs hw => ?_)
      refine lv_goto (tgt := 52) hx hb dX2_readElement_39 (by decide) ?_
      exact w_X2_readElement_L52 hC hr hlocks hr_X2_readValue _ _ _ _ _ _ _ _ _ ls (lv_sub hl [1, 2, 3, 4, 0] rfl) hw hf
  · have hf := o_pos c10 hf
    refine lv_aload_n hx hb dX2_readElement_18 rfl (lv_at hl 1 rfl) ?_
    refine lv_iconst (v := 3) hx hb dX2_readElement_19 nc_iconst_3 ?_
    refine lv_iload_n hx hb dX2_readElement_20 rfl (lv_at hl 2 rfl) ?_
    obtain ⟨h21, hf⟩ := o_ite hf
    obtain ⟨r23, μ22, h20, hf⟩ := o_bind2 hf
    refine pw_goI hw (pw_runV (As := [.int 3, .int a1]) (rest := []) hC mm_X2_refuse tw_345 (c_X2_refuse h20 _) (fio_RD d (by decide)) hw h21 rfl hl.1 (Nat.le_of_ble_eq_true rfl) ⟨Nat.zero_le _, Nat.zero_le _⟩ rfl dX2_readElement_21) (fun H locs hw => ?_)
    obtain ⟨rfl, rfl⟩ := o_ret hf
    exact pw_iret hC hr hlocks hw dX2_readElement_24
theorem dX2_readValue_0 : decode cX2_readValue 0 = .ok (.iload_n 1, 1) := by decide +kernel
theorem dX2_readValue_1 : decode cX2_readValue 1 = .ok (.tableswitch 151 2 15 #[71, 78, 90, 102, 151, 151, 109, 151, 151, 116, 128, 71, 71, 142], 71) := by decide +kernel
theorem dX2_readValue_72 : decode cX2_readValue 72 = .ok (.aload_n 0, 1) := by decide +kernel
theorem dX2_readValue_73 : decode cX2_readValue 73 = .ok (.iload_n 2, 1) := by decide +kernel
theorem dX2_readValue_74 : decode cX2_readValue 74 = .ok (.iload_n 3, 1) := by decide +kernel
theorem dX2_readValue_75 : decode cX2_readValue 75 = .ok (.invokevirtual 88, 3) := by decide +kernel
theorem dX2_readValue_78 : decode cX2_readValue 78 = .ok (.ireturn, 1) := by decide +kernel
theorem dX2_readValue_79 : decode cX2_readValue 79 = .ok (.aload_n 0, 1) := by decide +kernel
theorem dX2_readValue_80 : decode cX2_readValue 80 = .ok (.iload_n 2, 1) := by decide +kernel
theorem dX2_readValue_81 : decode cX2_readValue 81 = .ok (.iload_n 3, 1) := by decide +kernel
theorem dX2_readValue_82 : decode cX2_readValue 82 = .ok (.iload 4, 2) := by decide +kernel
theorem dX2_readValue_84 : decode cX2_readValue 84 = .ok (.iconst 1, 1) := by decide +kernel
theorem dX2_readValue_85 : decode cX2_readValue 85 = .ok (.iadd, 1) := by decide +kernel
theorem dX2_readValue_86 : decode cX2_readValue 86 = .ok (.iconst 0, 1) := by decide +kernel
theorem dX2_readValue_87 : decode cX2_readValue 87 = .ok (.invokevirtual 61, 3) := by decide +kernel
theorem dX2_readValue_90 : decode cX2_readValue 90 = .ok (.ireturn, 1) := by decide +kernel
theorem dX2_readValue_91 : decode cX2_readValue 91 = .ok (.aload_n 0, 1) := by decide +kernel
theorem dX2_readValue_92 : decode cX2_readValue 92 = .ok (.iload_n 2, 1) := by decide +kernel
theorem dX2_readValue_93 : decode cX2_readValue 93 = .ok (.iload_n 3, 1) := by decide +kernel
theorem dX2_readValue_94 : decode cX2_readValue 94 = .ok (.iload 4, 2) := by decide +kernel
theorem dX2_readValue_96 : decode cX2_readValue 96 = .ok (.iconst 1, 1) := by decide +kernel
theorem dX2_readValue_97 : decode cX2_readValue 97 = .ok (.iadd, 1) := by decide +kernel
theorem dX2_readValue_98 : decode cX2_readValue 98 = .ok (.iconst 1, 1) := by decide +kernel
theorem dX2_readValue_99 : decode cX2_readValue 99 = .ok (.invokevirtual 61, 3) := by decide +kernel
theorem dX2_readValue_102 : decode cX2_readValue 102 = .ok (.ireturn, 1) := by decide +kernel
theorem dX2_readValue_103 : decode cX2_readValue 103 = .ok (.aload_n 0, 1) := by decide +kernel
theorem dX2_readValue_104 : decode cX2_readValue 104 = .ok (.iload_n 2, 1) := by decide +kernel
theorem dX2_readValue_105 : decode cX2_readValue 105 = .ok (.iload_n 3, 1) := by decide +kernel
theorem dX2_readValue_106 : decode cX2_readValue 106 = .ok (.invokevirtual 127, 3) := by decide +kernel
theorem dX2_readValue_109 : decode cX2_readValue 109 = .ok (.ireturn, 1) := by decide +kernel
theorem dX2_readValue_110 : decode cX2_readValue 110 = .ok (.aload_n 0, 1) := by decide +kernel
theorem dX2_readValue_111 : decode cX2_readValue 111 = .ok (.iload_n 2, 1) := by decide +kernel
theorem dX2_readValue_112 : decode cX2_readValue 112 = .ok (.iload_n 3, 1) := by decide +kernel
theorem dX2_readValue_113 : decode cX2_readValue 113 = .ok (.invokevirtual 130, 3) := by decide +kernel
theorem dX2_readValue_116 : decode cX2_readValue 116 = .ok (.ireturn, 1) := by decide +kernel
theorem dX2_readValue_117 : decode cX2_readValue 117 = .ok (.aload_n 0, 1) := by decide +kernel
theorem dX2_readValue_118 : decode cX2_readValue 118 = .ok (.aload_n 0, 1) := by decide +kernel
theorem dX2_readValue_119 : decode cX2_readValue 119 = .ok (.iload_n 2, 1) := by decide +kernel
theorem dX2_readValue_120 : decode cX2_readValue 120 = .ok (.iload_n 3, 1) := by decide +kernel
theorem dX2_readValue_121 : decode cX2_readValue 121 = .ok (.invokevirtual 68, 3) := by decide +kernel
theorem dX2_readValue_124 : decode cX2_readValue 124 = .ok (.iload_n 3, 1) := by decide +kernel
theorem dX2_readValue_125 : decode cX2_readValue 125 = .ok (.invokevirtual 68, 3) := by decide +kernel
theorem dX2_readValue_128 : decode cX2_readValue 128 = .ok (.ireturn, 1) := by decide +kernel
theorem dX2_readValue_129 : decode cX2_readValue 129 = .ok (.aload_n 0, 1) := by decide +kernel
theorem dX2_readValue_130 : decode cX2_readValue 130 = .ok (.aload_n 0, 1) := by decide +kernel
theorem dX2_readValue_131 : decode cX2_readValue 131 = .ok (.iload_n 2, 1) := by decide +kernel
theorem dX2_readValue_132 : decode cX2_readValue 132 = .ok (.iload_n 3, 1) := by decide +kernel
theorem dX2_readValue_133 : decode cX2_readValue 133 = .ok (.invokevirtual 88, 3) := by decide +kernel
theorem dX2_readValue_136 : decode cX2_readValue 136 = .ok (.bipush 12, 2) := by decide +kernel
theorem dX2_readValue_138 : decode cX2_readValue 138 = .ok (.iload_n 3, 1) := by decide +kernel
theorem dX2_readValue_139 : decode cX2_readValue 139 = .ok (.invokevirtual 102, 3) := by decide +kernel
theorem dX2_readValue_142 : decode cX2_readValue 142 = .ok (.ireturn, 1) := by decide +kernel
theorem dX2_readValue_143 : decode cX2_readValue 143 = .ok (.aload_n 0, 1) := by decide +kernel
theorem dX2_readValue_144 : decode cX2_readValue 144 = .ok (.iload_n 2, 1) := by decide +kernel
theorem dX2_readValue_145 : decode cX2_readValue 145 = .ok (.iload_n 3, 1) := by decide +kernel
theorem dX2_readValue_146 : decode cX2_readValue 146 = .ok (.iload 4, 2) := by decide +kernel
theorem dX2_readValue_148 : decode cX2_readValue 148 = .ok (.invokevirtual 133, 3) := by decide +kernel
theorem dX2_readValue_151 : decode cX2_readValue 151 = .ok (.ireturn, 1) := by decide +kernel
theorem dX2_readValue_152 : decode cX2_readValue 152 = .ok (.aload_n 0, 1) := by decide +kernel
theorem dX2_readValue_153 : decode cX2_readValue 153 = .ok (.iload_n 2, 1) := by decide +kernel
theorem dX2_readValue_154 : decode cX2_readValue 154 = .ok (.iload_n 1, 1) := by decide +kernel
theorem dX2_readValue_155 : decode cX2_readValue 155 = .ok (.invokestatic 136, 3) := by decide +kernel
theorem dX2_readValue_158 : decode cX2_readValue 158 = .ok (.iload_n 3, 1) := by decide +kernel
theorem dX2_readValue_159 : decode cX2_readValue 159 = .ok (.invokevirtual 102, 3) := by decide +kernel
theorem dX2_readValue_162 : decode cX2_readValue 162 = .ok (.ireturn, 1) := by decide +kernel
def fo_X2_readValue (cy : Nat → ClassId) (r_X2_readDocument : Nat → Int32 → Int32 → Int32 → Int32 → Mem → Option (Int32 × Mem)) (r_X2_readScoped : Nat → Int32 → Int32 → Int32 → Mem → Option (Int32 × Mem)) (a0 : Nat) (a1 : Int32) (a2 : Int32) (a3 : Int32) (a4 : Int32) (μ : Mem) : Option (Int32 × Mem) :=
  if Int32.toInt a1 < 2 ∨ 15 < Int32.toInt a1 then (ob2 (f_X1_widthOf cy a1 μ) fun r4 μ3 => if isO μ3 a0 1 = true then (ob2 (f_X2_readBytes cy a0 a2 r4 a3 μ3) fun r8 μ7 => some (r8, μ7)) else none) else if a1 = 2 ∨ a1 = 13 ∨ a1 = 14 then (if isO μ a0 1 = true then (ob2 (f_X2_readText cy a0 a2 a3 μ) fun r13 μ12 => some (r13, μ12)) else none) else if a1 = 3 then (if isO μ a0 1 = true then (ob2 (r_X2_readDocument a0 a2 a3 (a4 + 1) 0 μ) fun r18 μ17 => some (r18, μ17)) else none) else if a1 = 4 then (if isO μ a0 1 = true then (ob2 (r_X2_readDocument a0 a2 a3 (a4 + 1) 1 μ) fun r23 μ22 => some (r23, μ22)) else none) else if a1 = 5 then (if isO μ a0 1 = true then (ob2 (f_X2_readBinary cy a0 a2 a3 μ) fun r28 μ27 => some (r28, μ27)) else none) else if a1 = 6 ∨ a1 = 7 ∨ a1 = 9 ∨ a1 = 10 then (ob2 (f_X1_widthOf cy a1 μ) fun r32 μ31 => if isO μ31 a0 1 = true then (ob2 (f_X2_readBytes cy a0 a2 r32 a3 μ31) fun r36 μ35 => some (r36, μ35)) else none) else if a1 = 8 then (if isO μ a0 1 = true then (ob2 (f_X2_readBoolean cy a0 a2 a3 μ) fun r41 μ40 => some (r41, μ40)) else none) else if a1 = 11 then (if isO μ a0 1 = true then (ob2 (f_X2_readName cy a0 a2 a3 μ) fun r46 μ45 => if isO μ45 a0 1 = true then (ob2 (f_X2_readName cy a0 r46 a3 μ45) fun r50 μ49 => some (r50, μ49)) else none) else none) else if a1 = 12 then (if isO μ a0 1 = true then (ob2 (f_X2_readText cy a0 a2 a3 μ) fun r55 μ54 => if isO μ54 a0 1 = true then (ob2 (f_X2_readBytes cy a0 r55 12 a3 μ54) fun r59 μ58 => some (r59, μ58)) else none) else none) else if a1 = 15 then (if isO μ a0 1 = true then (ob2 (r_X2_readScoped a0 a2 a3 a4 μ) fun r64 μ63 => some (r64, μ63)) else none) else none
set_option maxRecDepth 100000 in
set_option maxHeartbeats 4000000 in
theorem co_X2_readValue {l : Launch} {g : Wg} {L : List Nat} {d : Nat} {r_X2_readDocument : Nat → Int32 → Int32 → Int32 → Int32 → Mem → Option (Int32 × Mem)} (hr_X2_readDocument : ∀ {a0 : Nat} {a1 : Int32} {a2 : Int32} {a3 : Int32} {a4 : Int32} {μ : Mem} {r9 : Int32} {μ9 : Mem}, r_X2_readDocument a0 a1 a2 a3 a4 μ = some (r9, μ9) → MetI l yX2_readDocument cX2_readDocument 9 (some .int) (rm_RD d) g L μ [.ref a0, .int a1, .int a2, .int a3, .int a4] r9 μ9) {r_X2_readScoped : Nat → Int32 → Int32 → Int32 → Mem → Option (Int32 × Mem)} (hr_X2_readScoped : ∀ {a0 : Nat} {a1 : Int32} {a2 : Int32} {a3 : Int32} {μ : Mem} {r9 : Int32} {μ9 : Mem}, r_X2_readScoped a0 a1 a2 a3 μ = some (r9, μ9) → MetI l yX2_readScoped cX2_readScoped 6 (some .int) (rm_RD d) g L μ [.ref a0, .int a1, .int a2, .int a3] r9 μ9) {μ : Mem} {a0 : Nat} {a1 : Int32} {a2 : Int32} {a3 : Int32} {a4 : Int32} {r : Int32} {μ' : Mem} (hf : fo_X2_readValue g.2 r_X2_readDocument r_X2_readScoped a0 a1 a2 a3 a4 μ = some (r, μ')) : MetI l yX2_readValue cX2_readValue 5 (some .int) (rm_RD (d + 1)) g L μ [.ref a0, .int a1, .int a2, .int a3, .int a4] r μ' := by
  refine pw_met (Qc := fun A => QI g L A r μ') (by decide) (Nat.le_of_ble_eq_true rfl) ?_
  intro p e s m args below meth c A ls H locs hC hr hlocks hl hw
  have hx := hC.1
  have hb := hC.2.1
  have hl : lv_has ls 5 [(0, .ref a0), (1, .int a1), (2, .int a2), (3, .int a3), (4, .int a4)] := hl
  unfold fo_X2_readValue at hf
  refine lv_iload_n hx hb dX2_readValue_0 rfl (lv_at hl 1 rfl) ?_
  rcases o_if hf with ⟨c1, hf⟩ | ⟨c1, hf⟩
  · refine lv_tableOut (tgt := 152) hx hb dX2_readValue_1 c1 (by decide) ?_
    refine lv_aload_n hx hb dX2_readValue_152 rfl (lv_at hl 0 rfl) ?_
    refine lv_iload_n hx hb dX2_readValue_153 rfl (lv_at hl 2 rfl) ?_
    refine lv_iload_n hx hb dX2_readValue_154 rfl (lv_at hl 1 rfl) ?_
    obtain ⟨r4, μ3, h2, hf⟩ := o_bind2 hf
    refine pw_goI hw (pw_runS (As := [.int a1]) (rest := [.int a2, .ref a0]) hC mm_X1_widthOf tw_412 (c_X1_widthOf h2 _) (fio_RD d (by decide)) hw rfl hl.1 (Nat.le_of_ble_eq_true rfl) ⟨Nat.zero_le _, Nat.zero_le _⟩ rfl dX2_readValue_155) (fun H locs hw => ?_)
    refine lv_iload_n hx hb dX2_readValue_158 rfl (lv_at hl 3 rfl) ?_
    obtain ⟨h6, hf⟩ := o_ite hf
    obtain ⟨r8, μ7, h5, hf⟩ := o_bind2 hf
    refine pw_goI hw (pw_runV (As := [.int a2, .int r4, .int a3]) (rest := []) hC mm_X2_readBytes tw_349 (c_X2_readBytes h5 _) (fio_RD d (by decide)) hw h6 rfl hl.1 (Nat.le_of_ble_eq_true rfl) ⟨Nat.zero_le _, Nat.zero_le _⟩ rfl dX2_readValue_159) (fun H locs hw => ?_)
    obtain ⟨rfl, rfl⟩ := o_ret hf
    exact pw_iret hC hr hlocks hw dX2_readValue_162
  · rcases o_if hf with ⟨c9, hf⟩ | ⟨-, hf⟩
    · have hj : W p l e (rm_RD (d + 1)) s m args below meth c H locs 0 0 (MQ below (QI g L A r μ') args s 0 0 A) (F0 m 72 ls []) := by
        refine lv_aload_n hx hb dX2_readValue_72 rfl (lv_at hl 0 rfl) ?_
        refine lv_iload_n hx hb dX2_readValue_73 rfl (lv_at hl 2 rfl) ?_
        refine lv_iload_n hx hb dX2_readValue_74 rfl (lv_at hl 3 rfl) ?_
        obtain ⟨h11, hf⟩ := o_ite hf
        obtain ⟨r13, μ12, h10, hf⟩ := o_bind2 hf
        refine pw_goI hw (pw_runV (As := [.int a2, .int a3]) (rest := []) hC mm_X2_readText tw_396 (c_X2_readText h10 _) (fio_RD d (by decide)) hw h11 rfl hl.1 (Nat.le_of_ble_eq_true rfl) ⟨Nat.zero_le _, Nat.zero_le _⟩ rfl dX2_readValue_75) (fun H locs hw => ?_)
        obtain ⟨rfl, rfl⟩ := o_ret hf
        exact pw_iret hC hr hlocks hw dX2_readValue_78
      rcases c9 with c9 | c9 | c9
      · exact lv_tableIn (tgt := 72) hx hb dX2_readValue_1 (by rw [c9]; decide) (by rw [c9]; decide) (by rw [c9]; rfl) (by decide) hj
      · exact lv_tableIn (tgt := 72) hx hb dX2_readValue_1 (by rw [c9]; decide) (by rw [c9]; decide) (by rw [c9]; rfl) (by decide) hj
      · exact lv_tableIn (tgt := 72) hx hb dX2_readValue_1 (by rw [c9]; decide) (by rw [c9]; decide) (by rw [c9]; rfl) (by decide) hj
    · rcases o_if hf with ⟨c14, hf⟩ | ⟨-, hf⟩
      · refine lv_tableIn (tgt := 79) hx hb dX2_readValue_1 (by rw [c14]; decide) (by rw [c14]; decide) (by rw [c14]; rfl) (by decide) ?_
        refine lv_aload_n hx hb dX2_readValue_79 rfl (lv_at hl 0 rfl) ?_
        refine lv_iload_n hx hb dX2_readValue_80 rfl (lv_at hl 2 rfl) ?_
        refine lv_iload_n hx hb dX2_readValue_81 rfl (lv_at hl 3 rfl) ?_
        refine lv_iload hx hb dX2_readValue_82 (lv_at hl 4 rfl) ?_
        refine lv_iconst (v := 1) hx hb dX2_readValue_84 nc_iconst_1 ?_
        refine lv_iadd hx hb dX2_readValue_85 ?_
        refine lv_iconst (v := 0) hx hb dX2_readValue_86 nc_iconst_0 ?_
        obtain ⟨h16, hf⟩ := o_ite hf
        obtain ⟨r18, μ17, h15, hf⟩ := o_bind2 hf
        refine pw_goI hw (pw_runV (As := [.int a2, .int a3, .int (a4 + 1), .int 0]) (rest := []) hC mm_X2_readDocument tw_341 (hr_X2_readDocument h15 _) (fit_RD d (by decide)) hw h16 rfl hl.1 (Nat.le_of_ble_eq_true rfl) ⟨Nat.zero_le _, Nat.zero_le _⟩ rfl dX2_readValue_87) (fun H locs hw => ?_)
        obtain ⟨rfl, rfl⟩ := o_ret hf
        exact pw_iret hC hr hlocks hw dX2_readValue_90
      · rcases o_if hf with ⟨c19, hf⟩ | ⟨-, hf⟩
        · refine lv_tableIn (tgt := 91) hx hb dX2_readValue_1 (by rw [c19]; decide) (by rw [c19]; decide) (by rw [c19]; rfl) (by decide) ?_
          refine lv_aload_n hx hb dX2_readValue_91 rfl (lv_at hl 0 rfl) ?_
          refine lv_iload_n hx hb dX2_readValue_92 rfl (lv_at hl 2 rfl) ?_
          refine lv_iload_n hx hb dX2_readValue_93 rfl (lv_at hl 3 rfl) ?_
          refine lv_iload hx hb dX2_readValue_94 (lv_at hl 4 rfl) ?_
          refine lv_iconst (v := 1) hx hb dX2_readValue_96 nc_iconst_1 ?_
          refine lv_iadd hx hb dX2_readValue_97 ?_
          refine lv_iconst (v := 1) hx hb dX2_readValue_98 nc_iconst_1 ?_
          obtain ⟨h21, hf⟩ := o_ite hf
          obtain ⟨r23, μ22, h20, hf⟩ := o_bind2 hf
          refine pw_goI hw (pw_runV (As := [.int a2, .int a3, .int (a4 + 1), .int 1]) (rest := []) hC mm_X2_readDocument tw_341 (hr_X2_readDocument h20 _) (fit_RD d (by decide)) hw h21 rfl hl.1 (Nat.le_of_ble_eq_true rfl) ⟨Nat.zero_le _, Nat.zero_le _⟩ rfl dX2_readValue_99) (fun H locs hw => ?_)
          obtain ⟨rfl, rfl⟩ := o_ret hf
          exact pw_iret hC hr hlocks hw dX2_readValue_102
        · rcases o_if hf with ⟨c24, hf⟩ | ⟨-, hf⟩
          · refine lv_tableIn (tgt := 103) hx hb dX2_readValue_1 (by rw [c24]; decide) (by rw [c24]; decide) (by rw [c24]; rfl) (by decide) ?_
            refine lv_aload_n hx hb dX2_readValue_103 rfl (lv_at hl 0 rfl) ?_
            refine lv_iload_n hx hb dX2_readValue_104 rfl (lv_at hl 2 rfl) ?_
            refine lv_iload_n hx hb dX2_readValue_105 rfl (lv_at hl 3 rfl) ?_
            obtain ⟨h26, hf⟩ := o_ite hf
            obtain ⟨r28, μ27, h25, hf⟩ := o_bind2 hf
            refine pw_goI hw (pw_runV (As := [.int a2, .int a3]) (rest := []) hC mm_X2_readBinary tw_400 (c_X2_readBinary h25 _) (fio_RD d (by decide)) hw h26 rfl hl.1 (Nat.le_of_ble_eq_true rfl) ⟨Nat.zero_le _, Nat.zero_le _⟩ rfl dX2_readValue_106) (fun H locs hw => ?_)
            obtain ⟨rfl, rfl⟩ := o_ret hf
            exact pw_iret hC hr hlocks hw dX2_readValue_109
          · rcases o_if hf with ⟨c29, hf⟩ | ⟨-, hf⟩
            · have hj : W p l e (rm_RD (d + 1)) s m args below meth c H locs 0 0 (MQ below (QI g L A r μ') args s 0 0 A) (F0 m 152 ls []) := by
                refine lv_aload_n hx hb dX2_readValue_152 rfl (lv_at hl 0 rfl) ?_
                refine lv_iload_n hx hb dX2_readValue_153 rfl (lv_at hl 2 rfl) ?_
                refine lv_iload_n hx hb dX2_readValue_154 rfl (lv_at hl 1 rfl) ?_
                obtain ⟨r32, μ31, h30, hf⟩ := o_bind2 hf
                refine pw_goI hw (pw_runS (As := [.int a1]) (rest := [.int a2, .ref a0]) hC mm_X1_widthOf tw_412 (c_X1_widthOf h30 _) (fio_RD d (by decide)) hw rfl hl.1 (Nat.le_of_ble_eq_true rfl) ⟨Nat.zero_le _, Nat.zero_le _⟩ rfl dX2_readValue_155) (fun H locs hw => ?_)
                refine lv_iload_n hx hb dX2_readValue_158 rfl (lv_at hl 3 rfl) ?_
                obtain ⟨h34, hf⟩ := o_ite hf
                obtain ⟨r36, μ35, h33, hf⟩ := o_bind2 hf
                refine pw_goI hw (pw_runV (As := [.int a2, .int r32, .int a3]) (rest := []) hC mm_X2_readBytes tw_349 (c_X2_readBytes h33 _) (fio_RD d (by decide)) hw h34 rfl hl.1 (Nat.le_of_ble_eq_true rfl) ⟨Nat.zero_le _, Nat.zero_le _⟩ rfl dX2_readValue_159) (fun H locs hw => ?_)
                obtain ⟨rfl, rfl⟩ := o_ret hf
                exact pw_iret hC hr hlocks hw dX2_readValue_162
              rcases c29 with c29 | c29 | c29 | c29
              · exact lv_tableIn (tgt := 152) hx hb dX2_readValue_1 (by rw [c29]; decide) (by rw [c29]; decide) (by rw [c29]; rfl) (by decide) hj
              · exact lv_tableIn (tgt := 152) hx hb dX2_readValue_1 (by rw [c29]; decide) (by rw [c29]; decide) (by rw [c29]; rfl) (by decide) hj
              · exact lv_tableIn (tgt := 152) hx hb dX2_readValue_1 (by rw [c29]; decide) (by rw [c29]; decide) (by rw [c29]; rfl) (by decide) hj
              · exact lv_tableIn (tgt := 152) hx hb dX2_readValue_1 (by rw [c29]; decide) (by rw [c29]; decide) (by rw [c29]; rfl) (by decide) hj
            · rcases o_if hf with ⟨c37, hf⟩ | ⟨-, hf⟩
              · refine lv_tableIn (tgt := 110) hx hb dX2_readValue_1 (by rw [c37]; decide) (by rw [c37]; decide) (by rw [c37]; rfl) (by decide) ?_
                refine lv_aload_n hx hb dX2_readValue_110 rfl (lv_at hl 0 rfl) ?_
                refine lv_iload_n hx hb dX2_readValue_111 rfl (lv_at hl 2 rfl) ?_
                refine lv_iload_n hx hb dX2_readValue_112 rfl (lv_at hl 3 rfl) ?_
                obtain ⟨h39, hf⟩ := o_ite hf
                obtain ⟨r41, μ40, h38, hf⟩ := o_bind2 hf
                refine pw_goI hw (pw_runV (As := [.int a2, .int a3]) (rest := []) hC mm_X2_readBoolean tw_404 (c_X2_readBoolean h38 _) (fio_RD d (by decide)) hw h39 rfl hl.1 (Nat.le_of_ble_eq_true rfl) ⟨Nat.zero_le _, Nat.zero_le _⟩ rfl dX2_readValue_113) (fun H locs hw => ?_)
                obtain ⟨rfl, rfl⟩ := o_ret hf
                exact pw_iret hC hr hlocks hw dX2_readValue_116
              · rcases o_if hf with ⟨c42, hf⟩ | ⟨-, hf⟩
                · refine lv_tableIn (tgt := 117) hx hb dX2_readValue_1 (by rw [c42]; decide) (by rw [c42]; decide) (by rw [c42]; rfl) (by decide) ?_
                  refine lv_aload_n hx hb dX2_readValue_117 rfl (lv_at hl 0 rfl) ?_
                  refine lv_aload_n hx hb dX2_readValue_118 rfl (lv_at hl 0 rfl) ?_
                  refine lv_iload_n hx hb dX2_readValue_119 rfl (lv_at hl 2 rfl) ?_
                  refine lv_iload_n hx hb dX2_readValue_120 rfl (lv_at hl 3 rfl) ?_
                  obtain ⟨h44, hf⟩ := o_ite hf
                  obtain ⟨r46, μ45, h43, hf⟩ := o_bind2 hf
                  refine pw_goI hw (pw_runV (As := [.int a2, .int a3]) (rest := [.ref a0]) hC mm_X2_readName tw_367 (c_X2_readName h43 _) (fio_RD d (by decide)) hw h44 rfl hl.1 (Nat.le_of_ble_eq_true rfl) ⟨Nat.zero_le _, Nat.zero_le _⟩ rfl dX2_readValue_121) (fun H locs hw => ?_)
                  refine lv_iload_n hx hb dX2_readValue_124 rfl (lv_at hl 3 rfl) ?_
                  obtain ⟨h48, hf⟩ := o_ite hf
                  obtain ⟨r50, μ49, h47, hf⟩ := o_bind2 hf
                  refine pw_goI hw (pw_runV (As := [.int r46, .int a3]) (rest := []) hC mm_X2_readName tw_367 (c_X2_readName h47 _) (fio_RD d (by decide)) hw h48 rfl hl.1 (Nat.le_of_ble_eq_true rfl) ⟨Nat.zero_le _, Nat.zero_le _⟩ rfl dX2_readValue_125) (fun H locs hw => ?_)
                  obtain ⟨rfl, rfl⟩ := o_ret hf
                  exact pw_iret hC hr hlocks hw dX2_readValue_128
                · rcases o_if hf with ⟨c51, hf⟩ | ⟨-, hf⟩
                  · refine lv_tableIn (tgt := 129) hx hb dX2_readValue_1 (by rw [c51]; decide) (by rw [c51]; decide) (by rw [c51]; rfl) (by decide) ?_
                    refine lv_aload_n hx hb dX2_readValue_129 rfl (lv_at hl 0 rfl) ?_
                    refine lv_aload_n hx hb dX2_readValue_130 rfl (lv_at hl 0 rfl) ?_
                    refine lv_iload_n hx hb dX2_readValue_131 rfl (lv_at hl 2 rfl) ?_
                    refine lv_iload_n hx hb dX2_readValue_132 rfl (lv_at hl 3 rfl) ?_
                    obtain ⟨h53, hf⟩ := o_ite hf
                    obtain ⟨r55, μ54, h52, hf⟩ := o_bind2 hf
                    refine pw_goI hw (pw_runV (As := [.int a2, .int a3]) (rest := [.ref a0]) hC mm_X2_readText tw_396 (c_X2_readText h52 _) (fio_RD d (by decide)) hw h53 rfl hl.1 (Nat.le_of_ble_eq_true rfl) ⟨Nat.zero_le _, Nat.zero_le _⟩ rfl dX2_readValue_133) (fun H locs hw => ?_)
                    refine lv_bipush (v := 12) hx hb dX2_readValue_136 nc_bipush_12 ?_
                    refine lv_iload_n hx hb dX2_readValue_138 rfl (lv_at hl 3 rfl) ?_
                    obtain ⟨h57, hf⟩ := o_ite hf
                    obtain ⟨r59, μ58, h56, hf⟩ := o_bind2 hf
                    refine pw_goI hw (pw_runV (As := [.int r55, .int 12, .int a3]) (rest := []) hC mm_X2_readBytes tw_349 (c_X2_readBytes h56 _) (fio_RD d (by decide)) hw h57 rfl hl.1 (Nat.le_of_ble_eq_true rfl) ⟨Nat.zero_le _, Nat.zero_le _⟩ rfl dX2_readValue_139) (fun H locs hw => ?_)
                    obtain ⟨rfl, rfl⟩ := o_ret hf
                    exact pw_iret hC hr hlocks hw dX2_readValue_142
                  · rcases o_if hf with ⟨c60, hf⟩ | ⟨-, hf⟩
                    · refine lv_tableIn (tgt := 143) hx hb dX2_readValue_1 (by rw [c60]; decide) (by rw [c60]; decide) (by rw [c60]; rfl) (by decide) ?_
                      refine lv_aload_n hx hb dX2_readValue_143 rfl (lv_at hl 0 rfl) ?_
                      refine lv_iload_n hx hb dX2_readValue_144 rfl (lv_at hl 2 rfl) ?_
                      refine lv_iload_n hx hb dX2_readValue_145 rfl (lv_at hl 3 rfl) ?_
                      refine lv_iload hx hb dX2_readValue_146 (lv_at hl 4 rfl) ?_
                      obtain ⟨h62, hf⟩ := o_ite hf
                      obtain ⟨r64, μ63, h61, hf⟩ := o_bind2 hf
                      refine pw_goI hw (pw_runV (As := [.int a2, .int a3, .int a4]) (rest := []) hC mm_X2_readScoped tw_408 (hr_X2_readScoped h61 _) (fit_RD d (by decide)) hw h62 rfl hl.1 (Nat.le_of_ble_eq_true rfl) ⟨Nat.zero_le _, Nat.zero_le _⟩ rfl dX2_readValue_148) (fun H locs hw => ?_)
                      obtain ⟨rfl, rfl⟩ := o_ret hf
                      exact pw_iret hC hr hlocks hw dX2_readValue_151
                    · cases hf
theorem dX2_readScoped_0 : decode cX2_readScoped 0 = .ok (.aload_n 0, 1) := by decide +kernel
theorem dX2_readScoped_1 : decode cX2_readScoped 1 = .ok (.iload_n 1, 1) := by decide +kernel
theorem dX2_readScoped_2 : decode cX2_readScoped 2 = .ok (.iconst 4, 1) := by decide +kernel
theorem dX2_readScoped_3 : decode cX2_readScoped 3 = .ok (.iload_n 2, 1) := by decide +kernel
theorem dX2_readScoped_4 : decode cX2_readScoped 4 = .ok (.invokevirtual 102, 3) := by decide +kernel
theorem dX2_readScoped_7 : decode cX2_readScoped 7 = .ok (.iconst (-1), 1) := by decide +kernel
theorem dX2_readScoped_8 : decode cX2_readScoped 8 = .ok (.if_icmp .ne 5, 3) := by decide +kernel
theorem dX2_readScoped_11 : decode cX2_readScoped 11 = .ok (.iconst (-1), 1) := by decide +kernel
theorem dX2_readScoped_12 : decode cX2_readScoped 12 = .ok (.ireturn, 1) := by decide +kernel
theorem dX2_readScoped_13 : decode cX2_readScoped 13 = .ok (.aload_n 0, 1) := by decide +kernel
theorem dX2_readScoped_14 : decode cX2_readScoped 14 = .ok (.getfield 14, 3) := by decide +kernel
theorem dX2_readScoped_17 : decode cX2_readScoped 17 = .ok (.iload_n 1, 1) := by decide +kernel
theorem dX2_readScoped_18 : decode cX2_readScoped 18 = .ok (.invokevirtual 106, 3) := by decide +kernel
theorem dX2_readScoped_21 : decode cX2_readScoped 21 = .ok (.istore 4, 2) := by decide +kernel
theorem dX2_readScoped_23 : decode cX2_readScoped 23 = .ok (.iload 4, 2) := by decide +kernel
theorem dX2_readScoped_25 : decode cX2_readScoped 25 = .ok (.bipush 14, 2) := by decide +kernel
theorem dX2_readScoped_27 : decode cX2_readScoped 27 = .ok (.if_icmp .ge 10, 3) := by decide +kernel
theorem dX2_readScoped_30 : decode cX2_readScoped 30 = .ok (.aload_n 0, 1) := by decide +kernel
theorem dX2_readScoped_31 : decode cX2_readScoped 31 = .ok (.iconst 2, 1) := by decide +kernel
theorem dX2_readScoped_32 : decode cX2_readScoped 32 = .ok (.iload_n 1, 1) := by decide +kernel
theorem dX2_readScoped_33 : decode cX2_readScoped 33 = .ok (.invokevirtual 78, 3) := by decide +kernel
theorem dX2_readScoped_36 : decode cX2_readScoped 36 = .ok (.ireturn, 1) := by decide +kernel
theorem dX2_readScoped_37 : decode cX2_readScoped 37 = .ok (.iload 4, 2) := by decide +kernel
theorem dX2_readScoped_39 : decode cX2_readScoped 39 = .ok (.iload_n 2, 1) := by decide +kernel
theorem dX2_readScoped_40 : decode cX2_readScoped 40 = .ok (.iload_n 1, 1) := by decide +kernel
theorem dX2_readScoped_41 : decode cX2_readScoped 41 = .ok (.isub, 1) := by decide +kernel
theorem dX2_readScoped_42 : decode cX2_readScoped 42 = .ok (.if_icmp .le 10, 3) := by decide +kernel
theorem dX2_readScoped_45 : decode cX2_readScoped 45 = .ok (.aload_n 0, 1) := by decide +kernel
theorem dX2_readScoped_46 : decode cX2_readScoped 46 = .ok (.iconst 1, 1) := by decide +kernel
theorem dX2_readScoped_47 : decode cX2_readScoped 47 = .ok (.iload_n 1, 1) := by decide +kernel
theorem dX2_readScoped_48 : decode cX2_readScoped 48 = .ok (.invokevirtual 78, 3) := by decide +kernel
theorem dX2_readScoped_51 : decode cX2_readScoped 51 = .ok (.ireturn, 1) := by decide +kernel
theorem dX2_readScoped_52 : decode cX2_readScoped 52 = .ok (.aload_n 0, 1) := by decide +kernel
theorem dX2_readScoped_53 : decode cX2_readScoped 53 = .ok (.iload 4, 2) := by decide +kernel
theorem dX2_readScoped_55 : decode cX2_readScoped 55 = .ok (.invokevirtual 113, 3) := by decide +kernel
theorem dX2_readScoped_58 : decode cX2_readScoped 58 = .ok (.aload_n 0, 1) := by decide +kernel
theorem dX2_readScoped_59 : decode cX2_readScoped 59 = .ok (.aload_n 0, 1) := by decide +kernel
theorem dX2_readScoped_60 : decode cX2_readScoped 60 = .ok (.iload_n 1, 1) := by decide +kernel
theorem dX2_readScoped_61 : decode cX2_readScoped 61 = .ok (.iconst 4, 1) := by decide +kernel
theorem dX2_readScoped_62 : decode cX2_readScoped 62 = .ok (.iadd, 1) := by decide +kernel
theorem dX2_readScoped_63 : decode cX2_readScoped 63 = .ok (.iload_n 1, 1) := by decide +kernel
theorem dX2_readScoped_64 : decode cX2_readScoped 64 = .ok (.iload 4, 2) := by decide +kernel
theorem dX2_readScoped_66 : decode cX2_readScoped 66 = .ok (.iadd, 1) := by decide +kernel
theorem dX2_readScoped_67 : decode cX2_readScoped 67 = .ok (.invokevirtual 88, 3) := by decide +kernel
theorem dX2_readScoped_70 : decode cX2_readScoped 70 = .ok (.iload_n 1, 1) := by decide +kernel
theorem dX2_readScoped_71 : decode cX2_readScoped 71 = .ok (.iload 4, 2) := by decide +kernel
theorem dX2_readScoped_73 : decode cX2_readScoped 73 = .ok (.iadd, 1) := by decide +kernel
theorem dX2_readScoped_74 : decode cX2_readScoped 74 = .ok (.iload_n 3, 1) := by decide +kernel
theorem dX2_readScoped_75 : decode cX2_readScoped 75 = .ok (.iconst 1, 1) := by decide +kernel
theorem dX2_readScoped_76 : decode cX2_readScoped 76 = .ok (.iadd, 1) := by decide +kernel
theorem dX2_readScoped_77 : decode cX2_readScoped 77 = .ok (.iconst 0, 1) := by decide +kernel
theorem dX2_readScoped_78 : decode cX2_readScoped 78 = .ok (.invokevirtual 61, 3) := by decide +kernel
theorem dX2_readScoped_81 : decode cX2_readScoped 81 = .ok (.istore 5, 2) := by decide +kernel
theorem dX2_readScoped_83 : decode cX2_readScoped 83 = .ok (.iload 5, 2) := by decide +kernel
theorem dX2_readScoped_85 : decode cX2_readScoped 85 = .ok (.iconst (-1), 1) := by decide +kernel
theorem dX2_readScoped_86 : decode cX2_readScoped 86 = .ok (.if_icmp .eq 21, 3) := by decide +kernel
theorem dX2_readScoped_89 : decode cX2_readScoped 89 = .ok (.iload 5, 2) := by decide +kernel
theorem dX2_readScoped_91 : decode cX2_readScoped 91 = .ok (.iload_n 1, 1) := by decide +kernel
theorem dX2_readScoped_92 : decode cX2_readScoped 92 = .ok (.iload 4, 2) := by decide +kernel
theorem dX2_readScoped_94 : decode cX2_readScoped 94 = .ok (.iadd, 1) := by decide +kernel
theorem dX2_readScoped_95 : decode cX2_readScoped 95 = .ok (.if_icmp .eq 12, 3) := by decide +kernel
theorem dX2_readScoped_98 : decode cX2_readScoped 98 = .ok (.aload_n 0, 1) := by decide +kernel
theorem dX2_readScoped_99 : decode cX2_readScoped 99 = .ok (.iconst 2, 1) := by decide +kernel
theorem dX2_readScoped_100 : decode cX2_readScoped 100 = .ok (.iload_n 1, 1) := by decide +kernel
theorem dX2_readScoped_101 : decode cX2_readScoped 101 = .ok (.invokevirtual 78, 3) := by decide +kernel
theorem dX2_readScoped_104 : decode cX2_readScoped 104 = .ok (.goto 5, 3) := by decide +kernel
theorem dX2_readScoped_107 : decode cX2_readScoped 107 = .ok (.iload 5, 2) := by decide +kernel
theorem dX2_readScoped_109 : decode cX2_readScoped 109 = .ok (.ireturn, 1) := by decide +kernel
def f_X2_readScoped_L107 (cy : Nat → ClassId) (r_X2_readDocument : Nat → Int32 → Int32 → Int32 → Int32 → Mem → Option (Int32 × Mem)) (a5 : Int32) (μ : Mem) : Option (Int32 × Mem) :=
  some (a5, μ)
set_option maxRecDepth 100000 in
set_option maxHeartbeats 4000000 in
theorem w_X2_readScoped_L107 {p : Program} {l : Launch} {e : Env} {s : State} {m : MethodId} {args : Array Value} {below : List Frame} {meth : Method} {c : Code} {A : Nat → Prop} {g : Wg} {L : List Nat} {r : Int32} {μ' : Mem} (hC : CX p m c cX2_readScoped 6 s args RX2) (hr : meth.sig.returnType = (some .int)) (hlocks : meth.locks = false) {d : Nat} {r_X2_readDocument : Nat → Int32 → Int32 → Int32 → Int32 → Mem → Option (Int32 × Mem)} (hr_X2_readDocument : ∀ {a0 : Nat} {a1 : Int32} {a2 : Int32} {a3 : Int32} {a4 : Int32} {μ : Mem} {r9 : Int32} {μ9 : Mem}, r_X2_readDocument a0 a1 a2 a3 a4 μ = some (r9, μ9) → MetI l yX2_readDocument cX2_readDocument 9 (some .int) (rm_RD d) g L μ [.ref a0, .int a1, .int a2, .int a3, .int a4] r9 μ9) : ∀ (a5 : Int32) (μ : Mem) (H : Heap) (locs : List Loc) (ls : Array Slot), lv_has ls 6 [(5, .int a5)] → PW g L μ A s H locs → f_X2_readScoped_L107 g.2 r_X2_readDocument a5 μ = some (r, μ') → W p l e (rm_RD (d + 1)) s m args below meth c H locs 0 0 (MQ below (QI g L A r μ') args s 0 0 A) (F0 m 107 ls []) := by
  have hx := hC.1
  have hb := hC.2.1
  intro a5 μ H locs ls hl hw hf
  unfold f_X2_readScoped_L107 at hf
  refine lv_iload hx hb dX2_readScoped_107 (lv_at hl 0 rfl) ?_
  obtain ⟨rfl, rfl⟩ := o_ret hf
  exact pw_iret hC hr hlocks hw dX2_readScoped_109
def fo_X2_readScoped (cy : Nat → ClassId) (r_X2_readDocument : Nat → Int32 → Int32 → Int32 → Int32 → Mem → Option (Int32 × Mem)) (a0 : Nat) (a1 : Int32) (a2 : Int32) (a3 : Int32) (μ : Mem) : Option (Int32 × Mem) :=
  if isO μ a0 1 = true then (ob2 (f_X2_readBytes cy a0 a1 4 a2 μ) fun r4 μ3 => if r4 = (-1) then (some ((-1), μ3)) else (rdR μ3 a0 1 0).bind fun q6 => if isO μ3 q6 4 = true then (ob2 (f_X5_intAt cy q6 a1 μ3) fun r11 μ10 => if 14 ≤ r11 then (if r11 ≤ (a2 - a1) then (if isO μ10 a0 1 = true then ((f_X2_countLength cy a0 r11 μ10).bind fun μ16 => if isO μ16 a0 1 = true then (ob2 (f_X2_readText cy a0 (a1 + 4) (a1 + r11) μ16) fun r20 μ19 => if isO μ19 a0 1 = true then (ob2 (r_X2_readDocument a0 r20 (a1 + r11) (a3 + 1) 0 μ19) fun r24 μ23 => if r24 = (-1) then (f_X2_readScoped_L107 cy r_X2_readDocument r24 μ23) else if r24 = (a1 + r11) then (f_X2_readScoped_L107 cy r_X2_readDocument r24 μ23) else if isO μ23 a0 1 = true then (ob2 (f_X2_refuse cy a0 2 a1 μ23) fun r30 μ29 => some (r30, μ29)) else none) else none) else none) else none) else if isO μ10 a0 1 = true then (ob2 (f_X2_refuse cy a0 1 a1 μ10) fun r34 μ33 => some (r34, μ33)) else none) else if isO μ10 a0 1 = true then (ob2 (f_X2_refuse cy a0 2 a1 μ10) fun r38 μ37 => some (r38, μ37)) else none) else none) else none
set_option maxRecDepth 100000 in
set_option maxHeartbeats 4000000 in
theorem co_X2_readScoped {l : Launch} {g : Wg} {L : List Nat} {d : Nat} {r_X2_readDocument : Nat → Int32 → Int32 → Int32 → Int32 → Mem → Option (Int32 × Mem)} (hr_X2_readDocument : ∀ {a0 : Nat} {a1 : Int32} {a2 : Int32} {a3 : Int32} {a4 : Int32} {μ : Mem} {r9 : Int32} {μ9 : Mem}, r_X2_readDocument a0 a1 a2 a3 a4 μ = some (r9, μ9) → MetI l yX2_readDocument cX2_readDocument 9 (some .int) (rm_RD d) g L μ [.ref a0, .int a1, .int a2, .int a3, .int a4] r9 μ9) {μ : Mem} {a0 : Nat} {a1 : Int32} {a2 : Int32} {a3 : Int32} {r : Int32} {μ' : Mem} (hf : fo_X2_readScoped g.2 r_X2_readDocument a0 a1 a2 a3 μ = some (r, μ')) : MetI l yX2_readScoped cX2_readScoped 6 (some .int) (rm_RD (d + 1)) g L μ [.ref a0, .int a1, .int a2, .int a3] r μ' := by
  refine pw_met (Qc := fun A => QI g L A r μ') (by decide) (Nat.le_of_ble_eq_true rfl) ?_
  intro p e s m args below meth c A ls H locs hC hr hlocks hl hw
  have hx := hC.1
  have hb := hC.2.1
  have hl : lv_has ls 6 [(0, .ref a0), (1, .int a1), (2, .int a2), (3, .int a3)] := hl
  unfold fo_X2_readScoped at hf
  refine lv_aload_n hx hb dX2_readScoped_0 rfl (lv_at hl 0 rfl) ?_
  refine lv_iload_n hx hb dX2_readScoped_1 rfl (lv_at hl 1 rfl) ?_
  refine lv_iconst (v := 4) hx hb dX2_readScoped_2 nc_iconst_4 ?_
  refine lv_iload_n hx hb dX2_readScoped_3 rfl (lv_at hl 2 rfl) ?_
  obtain ⟨h2, hf⟩ := o_ite hf
  obtain ⟨r4, μ3, h1, hf⟩ := o_bind2 hf
  refine pw_goI hw (pw_runV (As := [.int a1, .int 4, .int a2]) (rest := []) hC mm_X2_readBytes tw_349 (c_X2_readBytes h1 _) (fio_RD d (by decide)) hw h2 rfl hl.1 (Nat.le_of_ble_eq_true rfl) ⟨Nat.zero_le _, Nat.zero_le _⟩ rfl dX2_readScoped_4) (fun H locs hw => ?_)
  refine lv_iconst (v := (-1)) hx hb dX2_readScoped_7 nc_iconst_m1 ?_
  refine lv_icmp_ne (tgt := 13) hx hb dX2_readScoped_8 (by decide) (fun c5 => ?_) (fun c5 => ?_)
  · have hf := o_neg c5 hf
    refine lv_aload_n hx hb dX2_readScoped_13 rfl (lv_at hl 0 rfl) ?_
    obtain ⟨q6, h7, hf⟩ := o_bind hf
    refine pw_get hC fl_X2_14 hw (rdR_F h7) dX2_readScoped_14 ?_
    refine lv_iload_n hx hb dX2_readScoped_17 rfl (lv_at hl 1 rfl) ?_
    obtain ⟨h9, hf⟩ := o_ite hf
    obtain ⟨r11, μ10, h8, hf⟩ := o_bind2 hf
    refine pw_goI hw (pw_runV (As := [.int a1]) (rest := []) hC mm_X5_intAt tw_353 (c_X5_intAt h8 _) (fio_RD d (by decide)) hw h9 rfl hl.1 (Nat.le_of_ble_eq_true rfl) ⟨Nat.zero_le _, Nat.zero_le _⟩ rfl dX2_readScoped_18) (fun H locs hw => ?_)
    refine lv_istore (lv' := [(4, .int r11), (0, .ref a0), (1, .int a1), (2, .int a2), (3, .int a3)]) hx hb dX2_readScoped_21 hl (by decide) rfl (fun ls hl => ?_)
    refine lv_iload hx hb dX2_readScoped_23 (lv_at hl 0 rfl) ?_
    refine lv_bipush (v := 14) hx hb dX2_readScoped_25 nc_bipush_14 ?_
    refine lv_icmp_ge (tgt := 37) hx hb dX2_readScoped_27 (by decide) (fun c12 => ?_) (fun c12 => ?_)
    · have hf := o_pos c12 hf
      refine lv_iload hx hb dX2_readScoped_37 (lv_at hl 0 rfl) ?_
      refine lv_iload_n hx hb dX2_readScoped_39 rfl (lv_at hl 3 rfl) ?_
      refine lv_iload_n hx hb dX2_readScoped_40 rfl (lv_at hl 2 rfl) ?_
      refine lv_isub hx hb dX2_readScoped_41 ?_
      refine lv_icmp_le (tgt := 52) hx hb dX2_readScoped_42 (by decide) (fun c13 => ?_) (fun c13 => ?_)
      · have hf := o_pos c13 hf
        refine lv_aload_n hx hb dX2_readScoped_52 rfl (lv_at hl 1 rfl) ?_
        refine lv_iload hx hb dX2_readScoped_53 (lv_at hl 0 rfl) ?_
        obtain ⟨h15, hf⟩ := o_ite hf
        obtain ⟨μ16, h14, hf⟩ := o_bind hf
        refine pw_goV hw (pw_runV (As := [.int r11]) (rest := []) hC mm_X2_countLength tw_355 (c_X2_countLength h14 _) (fio_RD d (by decide)) hw h15 rfl hl.1 (Nat.le_of_ble_eq_true rfl) ⟨Nat.zero_le _, Nat.zero_le _⟩ rfl dX2_readScoped_55) (fun H locs hw => ?_)
        refine lv_aload_n hx hb dX2_readScoped_58 rfl (lv_at hl 1 rfl) ?_
        refine lv_aload_n hx hb dX2_readScoped_59 rfl (lv_at hl 1 rfl) ?_
        refine lv_iload_n hx hb dX2_readScoped_60 rfl (lv_at hl 2 rfl) ?_
        refine lv_iconst (v := 4) hx hb dX2_readScoped_61 nc_iconst_4 ?_
        refine lv_iadd hx hb dX2_readScoped_62 ?_
        refine lv_iload_n hx hb dX2_readScoped_63 rfl (lv_at hl 2 rfl) ?_
        refine lv_iload hx hb dX2_readScoped_64 (lv_at hl 0 rfl) ?_
        refine lv_iadd hx hb dX2_readScoped_66 ?_
        obtain ⟨h18, hf⟩ := o_ite hf
        obtain ⟨r20, μ19, h17, hf⟩ := o_bind2 hf
        refine pw_goI hw (pw_runV (As := [.int (a1 + 4), .int (a1 + r11)]) (rest := [.ref a0]) hC mm_X2_readText tw_396 (c_X2_readText h17 _) (fio_RD d (by decide)) hw h18 rfl hl.1 (Nat.le_of_ble_eq_true rfl) ⟨Nat.zero_le _, Nat.zero_le _⟩ rfl dX2_readScoped_67) (fun H locs hw => ?_)
        refine lv_iload_n hx hb dX2_readScoped_70 rfl (lv_at hl 2 rfl) ?_
        refine lv_iload hx hb dX2_readScoped_71 (lv_at hl 0 rfl) ?_
        refine lv_iadd hx hb dX2_readScoped_73 ?_
        refine lv_iload_n hx hb dX2_readScoped_74 rfl (lv_at hl 4 rfl) ?_
        refine lv_iconst (v := 1) hx hb dX2_readScoped_75 nc_iconst_1 ?_
        refine lv_iadd hx hb dX2_readScoped_76 ?_
        refine lv_iconst (v := 0) hx hb dX2_readScoped_77 nc_iconst_0 ?_
        obtain ⟨h22, hf⟩ := o_ite hf
        obtain ⟨r24, μ23, h21, hf⟩ := o_bind2 hf
        refine pw_goI hw (pw_runV (As := [.int r20, .int (a1 + r11), .int (a3 + 1), .int 0]) (rest := []) hC mm_X2_readDocument tw_341 (hr_X2_readDocument h21 _) (fit_RD d (by decide)) hw h22 rfl hl.1 (Nat.le_of_ble_eq_true rfl) ⟨Nat.zero_le _, Nat.zero_le _⟩ rfl dX2_readScoped_78) (fun H locs hw => ?_)
        refine lv_istore (lv' := [(5, .int r24), (4, .int r11), (0, .ref a0), (1, .int a1), (2, .int a2), (3, .int a3)]) hx hb dX2_readScoped_81 hl (by decide) rfl (fun ls hl => ?_)
        refine lv_iload hx hb dX2_readScoped_83 (lv_at hl 0 rfl) ?_
        refine lv_iconst (v := (-1)) hx hb dX2_readScoped_85 nc_iconst_m1 ?_
        refine lv_icmp_eq (tgt := 107) hx hb dX2_readScoped_86 (by decide) (fun c25 => ?_) (fun c25 => ?_)
        · have hf := o_pos c25 hf
          exact w_X2_readScoped_L107 hC hr hlocks hr_X2_readDocument _ _ _ _ ls (lv_sub hl [0] rfl) hw hf
        · have hf := o_neg c25 hf
          refine lv_iload hx hb dX2_readScoped_89 (lv_at hl 0 rfl) ?_
          refine lv_iload_n hx hb dX2_readScoped_91 rfl (lv_at hl 3 rfl) ?_
          refine lv_iload hx hb dX2_readScoped_92 (lv_at hl 1 rfl) ?_
          refine lv_iadd hx hb dX2_readScoped_94 ?_
          refine lv_icmp_eq (tgt := 107) hx hb dX2_readScoped_95 (by decide) (fun c26 => ?_) (fun c26 => ?_)
          · have hf := o_pos c26 hf
            exact w_X2_readScoped_L107 hC hr hlocks hr_X2_readDocument _ _ _ _ ls (lv_sub hl [0] rfl) hw hf
          · have hf := o_neg c26 hf
            refine lv_aload_n hx hb dX2_readScoped_98 rfl (lv_at hl 2 rfl) ?_
            refine lv_iconst (v := 2) hx hb dX2_readScoped_99 nc_iconst_2 ?_
            refine lv_iload_n hx hb dX2_readScoped_100 rfl (lv_at hl 3 rfl) ?_
            obtain ⟨h28, hf⟩ := o_ite hf
            obtain ⟨r30, μ29, h27, hf⟩ := o_bind2 hf
            refine pw_goI hw (pw_runV (As := [.int 2, .int a1]) (rest := []) hC mm_X2_refuse tw_345 (c_X2_refuse h27 _) (fio_RD d (by decide)) hw h28 rfl hl.1 (Nat.le_of_ble_eq_true rfl) ⟨Nat.zero_le _, Nat.zero_le _⟩ rfl dX2_readScoped_101) (fun H locs hw => ?_)
            refine lv_goto (tgt := 109) hx hb dX2_readScoped_104 (by decide) ?_
            obtain ⟨rfl, rfl⟩ := o_ret hf
            exact pw_iret hC hr hlocks hw dX2_readScoped_109
      · have hf := o_neg c13 hf
        refine lv_aload_n hx hb dX2_readScoped_45 rfl (lv_at hl 1 rfl) ?_
        refine lv_iconst (v := 1) hx hb dX2_readScoped_46 nc_iconst_1 ?_
        refine lv_iload_n hx hb dX2_readScoped_47 rfl (lv_at hl 2 rfl) ?_
        obtain ⟨h32, hf⟩ := o_ite hf
        obtain ⟨r34, μ33, h31, hf⟩ := o_bind2 hf
        refine pw_goI hw (pw_runV (As := [.int 1, .int a1]) (rest := []) hC mm_X2_refuse tw_345 (c_X2_refuse h31 _) (fio_RD d (by decide)) hw h32 rfl hl.1 (Nat.le_of_ble_eq_true rfl) ⟨Nat.zero_le _, Nat.zero_le _⟩ rfl dX2_readScoped_48) (fun H locs hw => ?_)
        obtain ⟨rfl, rfl⟩ := o_ret hf
        exact pw_iret hC hr hlocks hw dX2_readScoped_51
    · have hf := o_neg c12 hf
      refine lv_aload_n hx hb dX2_readScoped_30 rfl (lv_at hl 1 rfl) ?_
      refine lv_iconst (v := 2) hx hb dX2_readScoped_31 nc_iconst_2 ?_
      refine lv_iload_n hx hb dX2_readScoped_32 rfl (lv_at hl 2 rfl) ?_
      obtain ⟨h36, hf⟩ := o_ite hf
      obtain ⟨r38, μ37, h35, hf⟩ := o_bind2 hf
      refine pw_goI hw (pw_runV (As := [.int 2, .int a1]) (rest := []) hC mm_X2_refuse tw_345 (c_X2_refuse h35 _) (fio_RD d (by decide)) hw h36 rfl hl.1 (Nat.le_of_ble_eq_true rfl) ⟨Nat.zero_le _, Nat.zero_le _⟩ rfl dX2_readScoped_33) (fun H locs hw => ?_)
      obtain ⟨rfl, rfl⟩ := o_ret hf
      exact pw_iret hC hr hlocks hw dX2_readScoped_36
  · have hf := o_pos c5 hf
    refine lv_iconst (v := (-1)) hx hb dX2_readScoped_11 nc_iconst_m1 ?_
    obtain ⟨rfl, rfl⟩ := o_ret hf
    exact pw_iret hC hr hlocks hw dX2_readScoped_12
def g_RD (cy : Nat → ClassId) : Nat → (Nat → Int32 → Int32 → Int32 → Int32 → Mem → Option (Int32 × Mem)) × (Nat → Int32 → Int32 → Int32 → Int32 → Mem → Option (Int32 × Mem)) × (Nat → Int32 → Int32 → Int32 → Int32 → Mem → Option (Int32 × Mem)) × (Nat → Int32 → Int32 → Int32 → Mem → Option (Int32 × Mem))
  | 0 => (fun _ _ _ _ _ _ => none, fun _ _ _ _ _ _ => none, fun _ _ _ _ _ _ => none, fun _ _ _ _ _ => none)
  | d + 1 => (fo_X2_readDocument cy (g_RD cy d).2.1, fo_X2_readElement cy (g_RD cy d).2.2.1, fo_X2_readValue cy (g_RD cy d).1 (g_RD cy d).2.2.2, fo_X2_readScoped cy (g_RD cy d).1)
def f_X2_readDocument (cy : Nat → ClassId) (d : Nat) : Nat → Int32 → Int32 → Int32 → Int32 → Mem → Option (Int32 × Mem) := (g_RD cy d).1
def f_X2_readElement (cy : Nat → ClassId) (d : Nat) : Nat → Int32 → Int32 → Int32 → Int32 → Mem → Option (Int32 × Mem) := (g_RD cy d).2.1
def f_X2_readValue (cy : Nat → ClassId) (d : Nat) : Nat → Int32 → Int32 → Int32 → Int32 → Mem → Option (Int32 × Mem) := (g_RD cy d).2.2.1
def f_X2_readScoped (cy : Nat → ClassId) (d : Nat) : Nat → Int32 → Int32 → Int32 → Mem → Option (Int32 × Mem) := (g_RD cy d).2.2.2
theorem f_X2_readDocument_s (cy : Nat → ClassId) (d : Nat) : f_X2_readDocument cy (d + 1) = fo_X2_readDocument cy (f_X2_readElement cy d) := rfl
theorem f_X2_readElement_s (cy : Nat → ClassId) (d : Nat) : f_X2_readElement cy (d + 1) = fo_X2_readElement cy (f_X2_readValue cy d) := rfl
theorem f_X2_readValue_s (cy : Nat → ClassId) (d : Nat) : f_X2_readValue cy (d + 1) = fo_X2_readValue cy (f_X2_readDocument cy d) (f_X2_readScoped cy d) := rfl
theorem f_X2_readScoped_s (cy : Nat → ClassId) (d : Nat) : f_X2_readScoped cy (d + 1) = fo_X2_readScoped cy (f_X2_readDocument cy d) := rfl
theorem ca_RD {l : Launch} {g : Wg} {L : List Nat} : ∀ (d : Nat), (∀ {a0 : Nat} {a1 : Int32} {a2 : Int32} {a3 : Int32} {a4 : Int32} {μ : Mem} {r9 : Int32} {μ9 : Mem}, f_X2_readDocument g.2 d a0 a1 a2 a3 a4 μ = some (r9, μ9) → MetI l yX2_readDocument cX2_readDocument 9 (some .int) (rm_RD d) g L μ [.ref a0, .int a1, .int a2, .int a3, .int a4] r9 μ9) ∧ (∀ {a0 : Nat} {a1 : Int32} {a2 : Int32} {a3 : Int32} {a4 : Int32} {μ : Mem} {r9 : Int32} {μ9 : Mem}, f_X2_readElement g.2 d a0 a1 a2 a3 a4 μ = some (r9, μ9) → MetI l yX2_readElement cX2_readElement 7 (some .int) (rm_RD d) g L μ [.ref a0, .int a1, .int a2, .int a3, .int a4] r9 μ9) ∧ (∀ {a0 : Nat} {a1 : Int32} {a2 : Int32} {a3 : Int32} {a4 : Int32} {μ : Mem} {r9 : Int32} {μ9 : Mem}, f_X2_readValue g.2 d a0 a1 a2 a3 a4 μ = some (r9, μ9) → MetI l yX2_readValue cX2_readValue 5 (some .int) (rm_RD d) g L μ [.ref a0, .int a1, .int a2, .int a3, .int a4] r9 μ9) ∧ (∀ {a0 : Nat} {a1 : Int32} {a2 : Int32} {a3 : Int32} {μ : Mem} {r9 : Int32} {μ9 : Mem}, f_X2_readScoped g.2 d a0 a1 a2 a3 μ = some (r9, μ9) → MetI l yX2_readScoped cX2_readScoped 6 (some .int) (rm_RD d) g L μ [.ref a0, .int a1, .int a2, .int a3] r9 μ9) := by
  intro d
  induction d with
  | zero => exact ⟨(fun h => by cases h), (fun h => by cases h), (fun h => by cases h), (fun h => by cases h)⟩
  | succ d ih =>
    obtain ⟨h0, h1, h2, h3⟩ := ih
    exact ⟨(fun h => co_X2_readDocument h1 h), (fun h => co_X2_readElement h2 h), (fun h => co_X2_readValue h0 h3 h), (fun h => co_X2_readScoped h0 h)⟩
theorem c_X2_readDocument {l : Launch} {g : Wg} {L : List Nat} {d : Nat} {μ : Mem} {a0 : Nat} {a1 : Int32} {a2 : Int32} {a3 : Int32} {a4 : Int32} {r9 : Int32} {μ9 : Mem} (hf : f_X2_readDocument g.2 d a0 a1 a2 a3 a4 μ = some (r9, μ9)) : MetI l yX2_readDocument cX2_readDocument 9 (some .int) (rm_RD d) g L μ [.ref a0, .int a1, .int a2, .int a3, .int a4] r9 μ9 := (ca_RD d).1 hf
theorem c_X2_readElement {l : Launch} {g : Wg} {L : List Nat} {d : Nat} {μ : Mem} {a0 : Nat} {a1 : Int32} {a2 : Int32} {a3 : Int32} {a4 : Int32} {r9 : Int32} {μ9 : Mem} (hf : f_X2_readElement g.2 d a0 a1 a2 a3 a4 μ = some (r9, μ9)) : MetI l yX2_readElement cX2_readElement 7 (some .int) (rm_RD d) g L μ [.ref a0, .int a1, .int a2, .int a3, .int a4] r9 μ9 := (ca_RD d).2.1 hf
theorem c_X2_readValue {l : Launch} {g : Wg} {L : List Nat} {d : Nat} {μ : Mem} {a0 : Nat} {a1 : Int32} {a2 : Int32} {a3 : Int32} {a4 : Int32} {r9 : Int32} {μ9 : Mem} (hf : f_X2_readValue g.2 d a0 a1 a2 a3 a4 μ = some (r9, μ9)) : MetI l yX2_readValue cX2_readValue 5 (some .int) (rm_RD d) g L μ [.ref a0, .int a1, .int a2, .int a3, .int a4] r9 μ9 := (ca_RD d).2.2.1 hf
theorem c_X2_readScoped {l : Launch} {g : Wg} {L : List Nat} {d : Nat} {μ : Mem} {a0 : Nat} {a1 : Int32} {a2 : Int32} {a3 : Int32} {r9 : Int32} {μ9 : Mem} (hf : f_X2_readScoped g.2 d a0 a1 a2 a3 μ = some (r9, μ9)) : MetI l yX2_readScoped cX2_readScoped 6 (some .int) (rm_RD d) g L μ [.ref a0, .int a1, .int a2, .int a3] r9 μ9 := (ca_RD d).2.2.2 hf
theorem dX2_judgeRoot_0 : decode cX2_judgeRoot 0 = .ok (.aload_n 0, 1) := by decide +kernel
theorem dX2_judgeRoot_1 : decode cX2_judgeRoot 1 = .ok (.aload_n 1, 1) := by decide +kernel
theorem dX2_judgeRoot_2 : decode cX2_judgeRoot 2 = .ok (.iconst (-1), 1) := by decide +kernel
theorem dX2_judgeRoot_3 : decode cX2_judgeRoot 3 = .ok (.invokevirtual 54, 3) := by decide +kernel
theorem dX2_judgeRoot_6 : decode cX2_judgeRoot 6 = .ok (.aload_n 0, 1) := by decide +kernel
theorem dX2_judgeRoot_7 : decode cX2_judgeRoot 7 = .ok (.aload_n 0, 1) := by decide +kernel
theorem dX2_judgeRoot_8 : decode cX2_judgeRoot 8 = .ok (.iconst 0, 1) := by decide +kernel
theorem dX2_judgeRoot_9 : decode cX2_judgeRoot 9 = .ok (.aload_n 1, 1) := by decide +kernel
theorem dX2_judgeRoot_10 : decode cX2_judgeRoot 10 = .ok (.getfield 58, 3) := by decide +kernel
theorem dX2_judgeRoot_13 : decode cX2_judgeRoot 13 = .ok (.iconst 1, 1) := by decide +kernel
theorem dX2_judgeRoot_14 : decode cX2_judgeRoot 14 = .ok (.iconst 0, 1) := by decide +kernel
theorem dX2_judgeRoot_15 : decode cX2_judgeRoot 15 = .ok (.invokevirtual 61, 3) := by decide +kernel
theorem dX2_judgeRoot_18 : decode cX2_judgeRoot 18 = .ok (.invokevirtual 65, 3) := by decide +kernel
theorem dX2_judgeRoot_21 : decode cX2_judgeRoot 21 = .ok (.return_, 1) := by decide +kernel
abbrev rm_X2_judgeRoot : Room := { frames := 125, cells := 0, slots := 0, locals := 3482 }
def f_X2_judgeRoot (cy : Nat → ClassId) (a0 : Nat) (a1 : Nat) (μ : Mem) : Option Mem :=
  if isO μ a0 1 = true then ((f_X2_restart cy a0 a1 (-1) μ).bind fun μ3 => (rdI μ3 a1 4 1).bind fun v4 => if isO μ3 a0 1 = true then (ob2 (f_X2_readDocument cy DP a0 0 v4 1 0 μ3) fun r9 μ8 => if isO μ8 a0 1 = true then ((f_X2_refuseLeftOver cy a0 r9 μ8).bind fun μ12 => some μ12) else none) else none) else none
set_option maxRecDepth 100000 in
set_option maxHeartbeats 4000000 in
theorem c_X2_judgeRoot {l : Launch} {g : Wg} {L : List Nat} {μ : Mem} {a0 : Nat} {a1 : Nat} {μ' : Mem} (hf : f_X2_judgeRoot g.2 a0 a1 μ = some μ') : MetV l yX2_judgeRoot cX2_judgeRoot 2 none rm_X2_judgeRoot g L μ [.ref a0, .ref a1] μ' := by
  refine pw_met (Qc := fun A => QV g L A μ') (by decide) (Nat.le_of_ble_eq_true rfl) ?_
  intro p e s m args below meth c A ls H locs hC hr hlocks hl hw
  have hx := hC.1
  have hb := hC.2.1
  have hl : lv_has ls 2 [(0, .ref a0), (1, .ref a1)] := hl
  unfold f_X2_judgeRoot at hf
  refine lv_aload_n hx hb dX2_judgeRoot_0 rfl (lv_at hl 0 rfl) ?_
  refine lv_aload_n hx hb dX2_judgeRoot_1 rfl (lv_at hl 1 rfl) ?_
  refine lv_iconst (v := (-1)) hx hb dX2_judgeRoot_2 nc_iconst_m1 ?_
  obtain ⟨h2, hf⟩ := o_ite hf
  obtain ⟨μ3, h1, hf⟩ := o_bind hf
  refine pw_goV hw (pw_runV (As := [.ref a1, .int (-1)]) (rest := []) hC mm_X2_restart tw_337 (c_X2_restart h1 _) ⟨rfl, rfl, by decide, by decide⟩ hw h2 rfl hl.1 (Nat.le_of_ble_eq_true rfl) ⟨Nat.zero_le _, Nat.zero_le _⟩ rfl dX2_judgeRoot_3) (fun H locs hw => ?_)
  refine lv_aload_n hx hb dX2_judgeRoot_6 rfl (lv_at hl 0 rfl) ?_
  refine lv_aload_n hx hb dX2_judgeRoot_7 rfl (lv_at hl 0 rfl) ?_
  refine lv_iconst (v := 0) hx hb dX2_judgeRoot_8 nc_iconst_0 ?_
  refine lv_aload_n hx hb dX2_judgeRoot_9 rfl (lv_at hl 1 rfl) ?_
  obtain ⟨v4, h5, hf⟩ := o_bind hf
  refine pw_get hC fl_X2_58 hw (rdI_F h5) dX2_judgeRoot_10 ?_
  refine lv_iconst (v := 1) hx hb dX2_judgeRoot_13 nc_iconst_1 ?_
  refine lv_iconst (v := 0) hx hb dX2_judgeRoot_14 nc_iconst_0 ?_
  obtain ⟨h7, hf⟩ := o_ite hf
  obtain ⟨r9, μ8, h6, hf⟩ := o_bind2 hf
  refine pw_goI hw (pw_runV (As := [.int 0, .int v4, .int 1, .int 0]) (rest := [.ref a0]) hC mm_X2_readDocument tw_341 (c_X2_readDocument (d := DP) h6 _) ⟨rfl, rfl, by decide, by decide⟩ hw h7 rfl hl.1 (Nat.le_of_ble_eq_true rfl) ⟨Nat.zero_le _, Nat.zero_le _⟩ rfl dX2_judgeRoot_15) (fun H locs hw => ?_)
  obtain ⟨h11, hf⟩ := o_ite hf
  obtain ⟨μ12, h10, hf⟩ := o_bind hf
  refine pw_goV hw (pw_runV (As := [.int r9]) (rest := []) hC mm_X2_refuseLeftOver tw_413 (c_X2_refuseLeftOver h10 _) ⟨rfl, rfl, by decide, by decide⟩ hw h11 rfl hl.1 (Nat.le_of_ble_eq_true rfl) ⟨Nat.zero_le _, Nat.zero_le _⟩ rfl dX2_judgeRoot_18) (fun H locs hw => ?_)
  obtain rfl := o_retv hf
  exact pw_vret hC hr hlocks hw dX2_judgeRoot_21
theorem dX2_judgeName_0 : decode cX2_judgeName 0 = .ok (.aload_n 0, 1) := by decide +kernel
theorem dX2_judgeName_1 : decode cX2_judgeName 1 = .ok (.aload_n 1, 1) := by decide +kernel
theorem dX2_judgeName_2 : decode cX2_judgeName 2 = .ok (.iconst (-1), 1) := by decide +kernel
theorem dX2_judgeName_3 : decode cX2_judgeName 3 = .ok (.invokevirtual 54, 3) := by decide +kernel
theorem dX2_judgeName_6 : decode cX2_judgeName 6 = .ok (.aload_n 0, 1) := by decide +kernel
theorem dX2_judgeName_7 : decode cX2_judgeName 7 = .ok (.aload_n 0, 1) := by decide +kernel
theorem dX2_judgeName_8 : decode cX2_judgeName 8 = .ok (.iconst 0, 1) := by decide +kernel
theorem dX2_judgeName_9 : decode cX2_judgeName 9 = .ok (.aload_n 1, 1) := by decide +kernel
theorem dX2_judgeName_10 : decode cX2_judgeName 10 = .ok (.getfield 58, 3) := by decide +kernel
theorem dX2_judgeName_13 : decode cX2_judgeName 13 = .ok (.invokevirtual 68, 3) := by decide +kernel
theorem dX2_judgeName_16 : decode cX2_judgeName 16 = .ok (.invokevirtual 65, 3) := by decide +kernel
theorem dX2_judgeName_19 : decode cX2_judgeName 19 = .ok (.return_, 1) := by decide +kernel
abbrev rm_X2_judgeName : Room := { frames := 4, cells := 0, slots := 0, locals := 93 }
def f_X2_judgeName (cy : Nat → ClassId) (a0 : Nat) (a1 : Nat) (μ : Mem) : Option Mem :=
  if isO μ a0 1 = true then ((f_X2_restart cy a0 a1 (-1) μ).bind fun μ3 => (rdI μ3 a1 4 1).bind fun v4 => if isO μ3 a0 1 = true then (ob2 (f_X2_readName cy a0 0 v4 μ3) fun r9 μ8 => if isO μ8 a0 1 = true then ((f_X2_refuseLeftOver cy a0 r9 μ8).bind fun μ12 => some μ12) else none) else none) else none
set_option maxRecDepth 100000 in
set_option maxHeartbeats 4000000 in
theorem c_X2_judgeName {l : Launch} {g : Wg} {L : List Nat} {μ : Mem} {a0 : Nat} {a1 : Nat} {μ' : Mem} (hf : f_X2_judgeName g.2 a0 a1 μ = some μ') : MetV l yX2_judgeName cX2_judgeName 2 none rm_X2_judgeName g L μ [.ref a0, .ref a1] μ' := by
  refine pw_met (Qc := fun A => QV g L A μ') (by decide) (Nat.le_of_ble_eq_true rfl) ?_
  intro p e s m args below meth c A ls H locs hC hr hlocks hl hw
  have hx := hC.1
  have hb := hC.2.1
  have hl : lv_has ls 2 [(0, .ref a0), (1, .ref a1)] := hl
  unfold f_X2_judgeName at hf
  refine lv_aload_n hx hb dX2_judgeName_0 rfl (lv_at hl 0 rfl) ?_
  refine lv_aload_n hx hb dX2_judgeName_1 rfl (lv_at hl 1 rfl) ?_
  refine lv_iconst (v := (-1)) hx hb dX2_judgeName_2 nc_iconst_m1 ?_
  obtain ⟨h2, hf⟩ := o_ite hf
  obtain ⟨μ3, h1, hf⟩ := o_bind hf
  refine pw_goV hw (pw_runV (As := [.ref a1, .int (-1)]) (rest := []) hC mm_X2_restart tw_337 (c_X2_restart h1 _) ⟨rfl, rfl, by decide, by decide⟩ hw h2 rfl hl.1 (Nat.le_of_ble_eq_true rfl) ⟨Nat.zero_le _, Nat.zero_le _⟩ rfl dX2_judgeName_3) (fun H locs hw => ?_)
  refine lv_aload_n hx hb dX2_judgeName_6 rfl (lv_at hl 0 rfl) ?_
  refine lv_aload_n hx hb dX2_judgeName_7 rfl (lv_at hl 0 rfl) ?_
  refine lv_iconst (v := 0) hx hb dX2_judgeName_8 nc_iconst_0 ?_
  refine lv_aload_n hx hb dX2_judgeName_9 rfl (lv_at hl 1 rfl) ?_
  obtain ⟨v4, h5, hf⟩ := o_bind hf
  refine pw_get hC fl_X2_58 hw (rdI_F h5) dX2_judgeName_10 ?_
  obtain ⟨h7, hf⟩ := o_ite hf
  obtain ⟨r9, μ8, h6, hf⟩ := o_bind2 hf
  refine pw_goI hw (pw_runV (As := [.int 0, .int v4]) (rest := [.ref a0]) hC mm_X2_readName tw_367 (c_X2_readName h6 _) ⟨rfl, rfl, by decide, by decide⟩ hw h7 rfl hl.1 (Nat.le_of_ble_eq_true rfl) ⟨Nat.zero_le _, Nat.zero_le _⟩ rfl dX2_judgeName_13) (fun H locs hw => ?_)
  obtain ⟨h11, hf⟩ := o_ite hf
  obtain ⟨μ12, h10, hf⟩ := o_bind hf
  refine pw_goV hw (pw_runV (As := [.int r9]) (rest := []) hC mm_X2_refuseLeftOver tw_413 (c_X2_refuseLeftOver h10 _) ⟨rfl, rfl, by decide, by decide⟩ hw h11 rfl hl.1 (Nat.le_of_ble_eq_true rfl) ⟨Nat.zero_le _, Nat.zero_le _⟩ rfl dX2_judgeName_16) (fun H locs hw => ?_)
  obtain rfl := o_retv hf
  exact pw_vret hC hr hlocks hw dX2_judgeName_19
theorem dX2_judgeElement_0 : decode cX2_judgeElement 0 = .ok (.aload_n 0, 1) := by decide +kernel
theorem dX2_judgeElement_1 : decode cX2_judgeElement 1 = .ok (.aload_n 1, 1) := by decide +kernel
theorem dX2_judgeElement_2 : decode cX2_judgeElement 2 = .ok (.iconst (-1), 1) := by decide +kernel
theorem dX2_judgeElement_3 : decode cX2_judgeElement 3 = .ok (.invokevirtual 54, 3) := by decide +kernel
theorem dX2_judgeElement_6 : decode cX2_judgeElement 6 = .ok (.iload_n 3, 1) := by decide +kernel
theorem dX2_judgeElement_7 : decode cX2_judgeElement 7 = .ok (.invokestatic 72, 3) := by decide +kernel
theorem dX2_judgeElement_10 : decode cX2_judgeElement 10 = .ok (.ifCond .ne 11, 3) := by decide +kernel
theorem dX2_judgeElement_13 : decode cX2_judgeElement 13 = .ok (.aload_n 0, 1) := by decide +kernel
theorem dX2_judgeElement_14 : decode cX2_judgeElement 14 = .ok (.iconst 3, 1) := by decide +kernel
theorem dX2_judgeElement_15 : decode cX2_judgeElement 15 = .ok (.iconst 0, 1) := by decide +kernel
theorem dX2_judgeElement_16 : decode cX2_judgeElement 16 = .ok (.invokevirtual 78, 3) := by decide +kernel
theorem dX2_judgeElement_19 : decode cX2_judgeElement 19 = .ok (.pop, 1) := by decide +kernel
theorem dX2_judgeElement_20 : decode cX2_judgeElement 20 = .ok (.return_, 1) := by decide +kernel
theorem dX2_judgeElement_21 : decode cX2_judgeElement 21 = .ok (.aload_n 0, 1) := by decide +kernel
theorem dX2_judgeElement_22 : decode cX2_judgeElement 22 = .ok (.iload_n 2, 1) := by decide +kernel
theorem dX2_judgeElement_23 : decode cX2_judgeElement 23 = .ok (.ifCond .eq 15, 3) := by decide +kernel
theorem dX2_judgeElement_26 : decode cX2_judgeElement 26 = .ok (.aload_n 0, 1) := by decide +kernel
theorem dX2_judgeElement_27 : decode cX2_judgeElement 27 = .ok (.iconst 0, 1) := by decide +kernel
theorem dX2_judgeElement_28 : decode cX2_judgeElement 28 = .ok (.aload_n 1, 1) := by decide +kernel
theorem dX2_judgeElement_29 : decode cX2_judgeElement 29 = .ok (.getfield 58, 3) := by decide +kernel
theorem dX2_judgeElement_32 : decode cX2_judgeElement 32 = .ok (.invokevirtual 68, 3) := by decide +kernel
theorem dX2_judgeElement_35 : decode cX2_judgeElement 35 = .ok (.goto 4, 3) := by decide +kernel
theorem dX2_judgeElement_38 : decode cX2_judgeElement 38 = .ok (.iconst 0, 1) := by decide +kernel
theorem dX2_judgeElement_39 : decode cX2_judgeElement 39 = .ok (.putfield 27, 3) := by decide +kernel
theorem dX2_judgeElement_42 : decode cX2_judgeElement 42 = .ok (.aload_n 0, 1) := by decide +kernel
theorem dX2_judgeElement_43 : decode cX2_judgeElement 43 = .ok (.aload_n 0, 1) := by decide +kernel
theorem dX2_judgeElement_44 : decode cX2_judgeElement 44 = .ok (.iload_n 3, 1) := by decide +kernel
theorem dX2_judgeElement_45 : decode cX2_judgeElement 45 = .ok (.aload_n 0, 1) := by decide +kernel
theorem dX2_judgeElement_46 : decode cX2_judgeElement 46 = .ok (.getfield 27, 3) := by decide +kernel
theorem dX2_judgeElement_49 : decode cX2_judgeElement 49 = .ok (.aload_n 1, 1) := by decide +kernel
theorem dX2_judgeElement_50 : decode cX2_judgeElement 50 = .ok (.getfield 58, 3) := by decide +kernel
theorem dX2_judgeElement_53 : decode cX2_judgeElement 53 = .ok (.iload 4, 2) := by decide +kernel
theorem dX2_judgeElement_55 : decode cX2_judgeElement 55 = .ok (.invokevirtual 81, 3) := by decide +kernel
theorem dX2_judgeElement_58 : decode cX2_judgeElement 58 = .ok (.invokevirtual 65, 3) := by decide +kernel
theorem dX2_judgeElement_61 : decode cX2_judgeElement 61 = .ok (.return_, 1) := by decide +kernel
abbrev rm_X2_judgeElement : Room := { frames := 125, cells := 0, slots := 0, locals := 3478 }
def f_X2_judgeElement_L39 (cy : Nat → ClassId) (a0 : Nat) (a1 : Nat) (a3 : Int32) (a4 : Int32) (t0 : Nat) (t1 : Int32) (μ : Mem) : Option Mem :=
  (wrF μ t0 1 3 (.int t1)).bind fun μ101 => (rdI μ101 a0 1 3).bind fun v103 => (rdI μ101 a1 4 1).bind fun v105 => if isO μ101 a0 1 = true then (ob2 (f_X2_readValue cy DP a0 a3 v103 v105 a4 μ101) fun r110 μ109 => if isO μ109 a0 1 = true then ((f_X2_refuseLeftOver cy a0 r110 μ109).bind fun μ113 => some μ113) else none) else none
set_option maxRecDepth 100000 in
set_option maxHeartbeats 4000000 in
theorem w_X2_judgeElement_L39 {p : Program} {l : Launch} {e : Env} {s : State} {m : MethodId} {args : Array Value} {below : List Frame} {meth : Method} {c : Code} {A : Nat → Prop} {g : Wg} {L : List Nat} {μ' : Mem} (hC : CX p m c cX2_judgeElement 5 s args RX2) (hr : meth.sig.returnType = none) (hlocks : meth.locks = false) : ∀ (a0 : Nat) (a1 : Nat) (a3 : Int32) (a4 : Int32) (t0 : Nat) (t1 : Int32) (μ : Mem) (H : Heap) (locs : List Loc) (ls : Array Slot), lv_has ls 5 [(0, .ref a0), (1, .ref a1), (3, .int a3), (4, .int a4)] → PW g L μ A s H locs → f_X2_judgeElement_L39 g.2 a0 a1 a3 a4 t0 t1 μ = some μ' → W p l e rm_X2_judgeElement s m args below meth c H locs 0 0 (MQ below (QV g L A μ') args s 0 0 A) (F0 m 39 ls [.int t1, .ref t0]) := by
  have hx := hC.1
  have hb := hC.2.1
  intro a0 a1 a3 a4 t0 t1 μ H locs ls hl hw hf
  unfold f_X2_judgeElement_L39 at hf
  obtain ⟨μ101, h102, hf⟩ := o_bind hf
  refine pw_put hC fl_X2_27 hw h102 .int fd_X2_3 rfl rfl dX2_judgeElement_39 (fun H locs hw => ?_)
  refine lv_aload_n hx hb dX2_judgeElement_42 rfl (lv_at hl 0 rfl) ?_
  refine lv_aload_n hx hb dX2_judgeElement_43 rfl (lv_at hl 0 rfl) ?_
  refine lv_iload_n hx hb dX2_judgeElement_44 rfl (lv_at hl 2 rfl) ?_
  refine lv_aload_n hx hb dX2_judgeElement_45 rfl (lv_at hl 0 rfl) ?_
  obtain ⟨v103, h104, hf⟩ := o_bind hf
  refine pw_get hC fl_X2_27 hw (rdI_F h104) dX2_judgeElement_46 ?_
  refine lv_aload_n hx hb dX2_judgeElement_49 rfl (lv_at hl 1 rfl) ?_
  obtain ⟨v105, h106, hf⟩ := o_bind hf
  refine pw_get hC fl_X2_58 hw (rdI_F h106) dX2_judgeElement_50 ?_
  refine lv_iload hx hb dX2_judgeElement_53 (lv_at hl 3 rfl) ?_
  obtain ⟨h108, hf⟩ := o_ite hf
  obtain ⟨r110, μ109, h107, hf⟩ := o_bind2 hf
  refine pw_goI hw (pw_runV (As := [.int a3, .int v103, .int v105, .int a4]) (rest := [.ref a0]) hC mm_X2_readValue tw_392 (c_X2_readValue (d := DP) h107 _) ⟨rfl, rfl, by decide, by decide⟩ hw h108 rfl hl.1 (Nat.le_of_ble_eq_true rfl) ⟨Nat.zero_le _, Nat.zero_le _⟩ rfl dX2_judgeElement_55) (fun H locs hw => ?_)
  obtain ⟨h112, hf⟩ := o_ite hf
  obtain ⟨μ113, h111, hf⟩ := o_bind hf
  refine pw_goV hw (pw_runV (As := [.int r110]) (rest := []) hC mm_X2_refuseLeftOver tw_413 (c_X2_refuseLeftOver h111 _) ⟨rfl, rfl, by decide, by decide⟩ hw h112 rfl hl.1 (Nat.le_of_ble_eq_true rfl) ⟨Nat.zero_le _, Nat.zero_le _⟩ rfl dX2_judgeElement_58) (fun H locs hw => ?_)
  obtain rfl := o_retv hf
  exact pw_vret hC hr hlocks hw dX2_judgeElement_61
def f_X2_judgeElement (cy : Nat → ClassId) (a0 : Nat) (a1 : Nat) (a2 : Int32) (a3 : Int32) (a4 : Int32) (μ : Mem) : Option Mem :=
  if isO μ a0 1 = true then ((f_X2_restart cy a0 a1 (-1) μ).bind fun μ3 => ob2 (f_X1_isType cy a3 μ3) fun r6 μ5 => if r6 = 0 then (if isO μ5 a0 1 = true then (ob2 (f_X2_refuse cy a0 3 0 μ5) fun r18 μ17 => some μ17) else none) else if a2 = 0 then (f_X2_judgeElement_L39 cy a0 a1 a3 a4 a0 0 μ5) else (rdI μ5 a1 4 1).bind fun v9 => if isO μ5 a0 1 = true then (ob2 (f_X2_readName cy a0 0 v9 μ5) fun r14 μ13 => f_X2_judgeElement_L39 cy a0 a1 a3 a4 a0 r14 μ13) else none) else none
set_option maxRecDepth 100000 in
set_option maxHeartbeats 4000000 in
theorem c_X2_judgeElement {l : Launch} {g : Wg} {L : List Nat} {μ : Mem} {a0 : Nat} {a1 : Nat} {a2 : Int32} {a3 : Int32} {a4 : Int32} {μ' : Mem} (hf : f_X2_judgeElement g.2 a0 a1 a2 a3 a4 μ = some μ') : MetV l yX2_judgeElement cX2_judgeElement 5 none rm_X2_judgeElement g L μ [.ref a0, .ref a1, .int a2, .int a3, .int a4] μ' := by
  refine pw_met (Qc := fun A => QV g L A μ') (by decide) (Nat.le_of_ble_eq_true rfl) ?_
  intro p e s m args below meth c A ls H locs hC hr hlocks hl hw
  have hx := hC.1
  have hb := hC.2.1
  have hl : lv_has ls 5 [(0, .ref a0), (1, .ref a1), (2, .int a2), (3, .int a3), (4, .int a4)] := hl
  unfold f_X2_judgeElement at hf
  refine lv_aload_n hx hb dX2_judgeElement_0 rfl (lv_at hl 0 rfl) ?_
  refine lv_aload_n hx hb dX2_judgeElement_1 rfl (lv_at hl 1 rfl) ?_
  refine lv_iconst (v := (-1)) hx hb dX2_judgeElement_2 nc_iconst_m1 ?_
  obtain ⟨h2, hf⟩ := o_ite hf
  obtain ⟨μ3, h1, hf⟩ := o_bind hf
  refine pw_goV hw (pw_runV (As := [.ref a1, .int (-1)]) (rest := []) hC mm_X2_restart tw_337 (c_X2_restart h1 _) ⟨rfl, rfl, by decide, by decide⟩ hw h2 rfl hl.1 (Nat.le_of_ble_eq_true rfl) ⟨Nat.zero_le _, Nat.zero_le _⟩ rfl dX2_judgeElement_3) (fun H locs hw => ?_)
  refine lv_iload_n hx hb dX2_judgeElement_6 rfl (lv_at hl 3 rfl) ?_
  obtain ⟨r6, μ5, h4, hf⟩ := o_bind2 hf
  refine pw_goI hw (pw_runS (As := [.int a3]) (rest := []) hC mm_X1_isType tw_364 (c_X1_isType h4 _) ⟨rfl, rfl, by decide, by decide⟩ hw rfl hl.1 (Nat.le_of_ble_eq_true rfl) ⟨Nat.zero_le _, Nat.zero_le _⟩ rfl dX2_judgeElement_7) (fun H locs hw => ?_)
  refine lv_if_ne (tgt := 21) hx hb dX2_judgeElement_10 (by decide) (fun c7 => ?_) (fun c7 => ?_)
  · have hf := o_neg c7 hf
    refine lv_aload_n hx hb dX2_judgeElement_21 rfl (lv_at hl 0 rfl) ?_
    refine lv_iload_n hx hb dX2_judgeElement_22 rfl (lv_at hl 2 rfl) ?_
    refine lv_if_eq (tgt := 38) hx hb dX2_judgeElement_23 (by decide) (fun c8 => ?_) (fun c8 => ?_)
    · have hf := o_pos c8 hf
      refine lv_iconst (v := 0) hx hb dX2_judgeElement_38 nc_iconst_0 ?_
      exact w_X2_judgeElement_L39 hC hr hlocks _ _ _ _ _ _ _ _ _ ls (lv_sub hl [0, 1, 3, 4] rfl) hw hf
    · have hf := o_neg c8 hf
      refine lv_aload_n hx hb dX2_judgeElement_26 rfl (lv_at hl 0 rfl) ?_
      refine lv_iconst (v := 0) hx hb dX2_judgeElement_27 nc_iconst_0 ?_
      refine lv_aload_n hx hb dX2_judgeElement_28 rfl (lv_at hl 1 rfl) ?_
      obtain ⟨v9, h10, hf⟩ := o_bind hf
      refine pw_get hC fl_X2_58 hw (rdI_F h10) dX2_judgeElement_29 ?_
      obtain ⟨h12, hf⟩ := o_ite hf
      obtain ⟨r14, μ13, h11, hf⟩ := o_bind2 hf
      refine pw_goI hw (pw_runV (As := [.int 0, .int v9]) (rest := [.ref a0]) hC mm_X2_readName tw_367 (c_X2_readName h11 _) ⟨rfl, rfl, by decide, by decide⟩ hw h12 rfl hl.1 (Nat.le_of_ble_eq_true rfl) ⟨Nat.zero_le _, Nat.zero_le _⟩ rfl dX2_judgeElement_32) (fun H locs hw => ?_)
      refine lv_goto (tgt := 39) hx hb dX2_judgeElement_35 (by decide) ?_
      exact w_X2_judgeElement_L39 hC hr hlocks _ _ _ _ _ _ _ _ _ ls (lv_sub hl [0, 1, 3, 4] rfl) hw hf
  · have hf := o_pos c7 hf
    refine lv_aload_n hx hb dX2_judgeElement_13 rfl (lv_at hl 0 rfl) ?_
    refine lv_iconst (v := 3) hx hb dX2_judgeElement_14 nc_iconst_3 ?_
    refine lv_iconst (v := 0) hx hb dX2_judgeElement_15 nc_iconst_0 ?_
    obtain ⟨h16, hf⟩ := o_ite hf
    obtain ⟨r18, μ17, h15, hf⟩ := o_bind2 hf
    refine pw_goI hw (pw_runV (As := [.int 3, .int 0]) (rest := []) hC mm_X2_refuse tw_345 (c_X2_refuse h15 _) ⟨rfl, rfl, by decide, by decide⟩ hw h16 rfl hl.1 (Nat.le_of_ble_eq_true rfl) ⟨Nat.zero_le _, Nat.zero_le _⟩ rfl dX2_judgeElement_16) (fun H locs hw => ?_)
    refine lv_pop hx hb dX2_judgeElement_19 rfl ?_
    obtain rfl := o_retv hf
    exact pw_vret hC hr hlocks hw dX2_judgeElement_20
theorem dX2_judgeOpening_0 : decode cX2_judgeOpening 0 = .ok (.aload_n 0, 1) := by decide +kernel
theorem dX2_judgeOpening_1 : decode cX2_judgeOpening 1 = .ok (.aload_n 1, 1) := by decide +kernel
theorem dX2_judgeOpening_2 : decode cX2_judgeOpening 2 = .ok (.iconst (-1), 1) := by decide +kernel
theorem dX2_judgeOpening_3 : decode cX2_judgeOpening 3 = .ok (.invokevirtual 54, 3) := by decide +kernel
theorem dX2_judgeOpening_6 : decode cX2_judgeOpening 6 = .ok (.iload_n 3, 1) := by decide +kernel
theorem dX2_judgeOpening_7 : decode cX2_judgeOpening 7 = .ok (.invokestatic 85, 3) := by decide +kernel
theorem dX2_judgeOpening_10 : decode cX2_judgeOpening 10 = .ok (.ifCond .ne 11, 3) := by decide +kernel
theorem dX2_judgeOpening_13 : decode cX2_judgeOpening 13 = .ok (.aload_n 0, 1) := by decide +kernel
theorem dX2_judgeOpening_14 : decode cX2_judgeOpening 14 = .ok (.iconst 3, 1) := by decide +kernel
theorem dX2_judgeOpening_15 : decode cX2_judgeOpening 15 = .ok (.iconst 0, 1) := by decide +kernel
theorem dX2_judgeOpening_16 : decode cX2_judgeOpening 16 = .ok (.invokevirtual 78, 3) := by decide +kernel
theorem dX2_judgeOpening_19 : decode cX2_judgeOpening 19 = .ok (.pop, 1) := by decide +kernel
theorem dX2_judgeOpening_20 : decode cX2_judgeOpening 20 = .ok (.return_, 1) := by decide +kernel
theorem dX2_judgeOpening_21 : decode cX2_judgeOpening 21 = .ok (.aload_n 0, 1) := by decide +kernel
theorem dX2_judgeOpening_22 : decode cX2_judgeOpening 22 = .ok (.iload_n 2, 1) := by decide +kernel
theorem dX2_judgeOpening_23 : decode cX2_judgeOpening 23 = .ok (.ifCond .eq 15, 3) := by decide +kernel
theorem dX2_judgeOpening_26 : decode cX2_judgeOpening 26 = .ok (.aload_n 0, 1) := by decide +kernel
theorem dX2_judgeOpening_27 : decode cX2_judgeOpening 27 = .ok (.iconst 0, 1) := by decide +kernel
theorem dX2_judgeOpening_28 : decode cX2_judgeOpening 28 = .ok (.aload_n 1, 1) := by decide +kernel
theorem dX2_judgeOpening_29 : decode cX2_judgeOpening 29 = .ok (.getfield 58, 3) := by decide +kernel
theorem dX2_judgeOpening_32 : decode cX2_judgeOpening 32 = .ok (.invokevirtual 68, 3) := by decide +kernel
theorem dX2_judgeOpening_35 : decode cX2_judgeOpening 35 = .ok (.goto 4, 3) := by decide +kernel
theorem dX2_judgeOpening_38 : decode cX2_judgeOpening 38 = .ok (.iconst 0, 1) := by decide +kernel
theorem dX2_judgeOpening_39 : decode cX2_judgeOpening 39 = .ok (.putfield 27, 3) := by decide +kernel
theorem dX2_judgeOpening_42 : decode cX2_judgeOpening 42 = .ok (.aload_n 0, 1) := by decide +kernel
theorem dX2_judgeOpening_43 : decode cX2_judgeOpening 43 = .ok (.iload_n 3, 1) := by decide +kernel
theorem dX2_judgeOpening_44 : decode cX2_judgeOpening 44 = .ok (.bipush 15, 2) := by decide +kernel
theorem dX2_judgeOpening_46 : decode cX2_judgeOpening 46 = .ok (.if_icmp .ne 18, 3) := by decide +kernel
theorem dX2_judgeOpening_49 : decode cX2_judgeOpening 49 = .ok (.aload_n 0, 1) := by decide +kernel
theorem dX2_judgeOpening_50 : decode cX2_judgeOpening 50 = .ok (.aload_n 0, 1) := by decide +kernel
theorem dX2_judgeOpening_51 : decode cX2_judgeOpening 51 = .ok (.getfield 27, 3) := by decide +kernel
theorem dX2_judgeOpening_54 : decode cX2_judgeOpening 54 = .ok (.aload_n 1, 1) := by decide +kernel
theorem dX2_judgeOpening_55 : decode cX2_judgeOpening 55 = .ok (.getfield 58, 3) := by decide +kernel
theorem dX2_judgeOpening_58 : decode cX2_judgeOpening 58 = .ok (.invokevirtual 88, 3) := by decide +kernel
theorem dX2_judgeOpening_61 : decode cX2_judgeOpening 61 = .ok (.goto 7, 3) := by decide +kernel
theorem dX2_judgeOpening_64 : decode cX2_judgeOpening 64 = .ok (.aload_n 0, 1) := by decide +kernel
theorem dX2_judgeOpening_65 : decode cX2_judgeOpening 65 = .ok (.getfield 27, 3) := by decide +kernel
theorem dX2_judgeOpening_68 : decode cX2_judgeOpening 68 = .ok (.invokevirtual 65, 3) := by decide +kernel
theorem dX2_judgeOpening_71 : decode cX2_judgeOpening 71 = .ok (.aload_n 0, 1) := by decide +kernel
theorem dX2_judgeOpening_72 : decode cX2_judgeOpening 72 = .ok (.getfield 20, 3) := by decide +kernel
theorem dX2_judgeOpening_75 : decode cX2_judgeOpening 75 = .ok (.ifCond .ne 21, 3) := by decide +kernel
theorem dX2_judgeOpening_78 : decode cX2_judgeOpening 78 = .ok (.iload 4, 2) := by decide +kernel
theorem dX2_judgeOpening_80 : decode cX2_judgeOpening 80 = .ok (.bipush 24, 2) := by decide +kernel
theorem dX2_judgeOpening_82 : decode cX2_judgeOpening 82 = .ok (.if_icmp .lt 14, 3) := by decide +kernel
theorem dX2_judgeOpening_85 : decode cX2_judgeOpening 85 = .ok (.aload_n 0, 1) := by decide +kernel
theorem dX2_judgeOpening_86 : decode cX2_judgeOpening 86 = .ok (.bipush 8, 2) := by decide +kernel
theorem dX2_judgeOpening_88 : decode cX2_judgeOpening 88 = .ok (.aload_n 1, 1) := by decide +kernel
theorem dX2_judgeOpening_89 : decode cX2_judgeOpening 89 = .ok (.getfield 58, 3) := by decide +kernel
theorem dX2_judgeOpening_92 : decode cX2_judgeOpening 92 = .ok (.invokevirtual 78, 3) := by decide +kernel
theorem dX2_judgeOpening_95 : decode cX2_judgeOpening 95 = .ok (.pop, 1) := by decide +kernel
theorem dX2_judgeOpening_96 : decode cX2_judgeOpening 96 = .ok (.return_, 1) := by decide +kernel
abbrev rm_X2_judgeOpening : Room := { frames := 4, cells := 0, slots := 0, locals := 94 }
def f_X2_judgeOpening_L68 (cy : Nat → ClassId) (a0 : Nat) (a1 : Nat) (a4 : Int32) (t0 : Nat) (t1 : Int32) (μ : Mem) : Option Mem :=
  if isO μ t0 1 = true then ((f_X2_refuseLeftOver cy t0 t1 μ).bind fun μ103 => (rdI μ103 a0 1 1).bind fun v104 => if v104 = 0 then (if a4 < 24 then (some μ103) else (rdI μ103 a1 4 1).bind fun v108 => if isO μ103 a0 1 = true then (ob2 (f_X2_refuse cy a0 8 v108 μ103) fun r113 μ112 => some μ112) else none) else some μ103) else none
set_option maxRecDepth 100000 in
set_option maxHeartbeats 4000000 in
theorem w_X2_judgeOpening_L68 {p : Program} {l : Launch} {e : Env} {s : State} {m : MethodId} {args : Array Value} {below : List Frame} {meth : Method} {c : Code} {A : Nat → Prop} {g : Wg} {L : List Nat} {μ' : Mem} (hC : CX p m c cX2_judgeOpening 5 s args RX2) (hr : meth.sig.returnType = none) (hlocks : meth.locks = false) : ∀ (a0 : Nat) (a1 : Nat) (a4 : Int32) (t0 : Nat) (t1 : Int32) (μ : Mem) (H : Heap) (locs : List Loc) (ls : Array Slot), lv_has ls 5 [(0, .ref a0), (1, .ref a1), (4, .int a4)] → PW g L μ A s H locs → f_X2_judgeOpening_L68 g.2 a0 a1 a4 t0 t1 μ = some μ' → W p l e rm_X2_judgeOpening s m args below meth c H locs 0 0 (MQ below (QV g L A μ') args s 0 0 A) (F0 m 68 ls [.int t1, .ref t0]) := by
  have hx := hC.1
  have hb := hC.2.1
  intro a0 a1 a4 t0 t1 μ H locs ls hl hw hf
  unfold f_X2_judgeOpening_L68 at hf
  obtain ⟨h102, hf⟩ := o_ite hf
  obtain ⟨μ103, h101, hf⟩ := o_bind hf
  refine pw_goV hw (pw_runV (As := [.int t1]) (rest := []) hC mm_X2_refuseLeftOver tw_413 (c_X2_refuseLeftOver h101 _) ⟨rfl, rfl, by decide, by decide⟩ hw h102 rfl hl.1 (Nat.le_of_ble_eq_true rfl) ⟨Nat.zero_le _, Nat.zero_le _⟩ rfl dX2_judgeOpening_68) (fun H locs hw => ?_)
  refine lv_aload_n hx hb dX2_judgeOpening_71 rfl (lv_at hl 0 rfl) ?_
  obtain ⟨v104, h105, hf⟩ := o_bind hf
  refine pw_get hC fl_X2_20 hw (rdI_F h105) dX2_judgeOpening_72 ?_
  refine lv_if_ne (tgt := 96) hx hb dX2_judgeOpening_75 (by decide) (fun c106 => ?_) (fun c106 => ?_)
  · have hf := o_neg c106 hf
    obtain rfl := o_retv hf
    exact pw_vret hC hr hlocks hw dX2_judgeOpening_96
  · have hf := o_pos c106 hf
    refine lv_iload hx hb dX2_judgeOpening_78 (lv_at hl 2 rfl) ?_
    refine lv_bipush (v := 24) hx hb dX2_judgeOpening_80 nc_bipush_24 ?_
    refine lv_icmp_lt (tgt := 96) hx hb dX2_judgeOpening_82 (by decide) (fun c107 => ?_) (fun c107 => ?_)
    · have hf := o_pos c107 hf
      obtain rfl := o_retv hf
      exact pw_vret hC hr hlocks hw dX2_judgeOpening_96
    · have hf := o_neg c107 hf
      refine lv_aload_n hx hb dX2_judgeOpening_85 rfl (lv_at hl 0 rfl) ?_
      refine lv_bipush (v := 8) hx hb dX2_judgeOpening_86 nc_bipush_8 ?_
      refine lv_aload_n hx hb dX2_judgeOpening_88 rfl (lv_at hl 1 rfl) ?_
      obtain ⟨v108, h109, hf⟩ := o_bind hf
      refine pw_get hC fl_X2_58 hw (rdI_F h109) dX2_judgeOpening_89 ?_
      obtain ⟨h111, hf⟩ := o_ite hf
      obtain ⟨r113, μ112, h110, hf⟩ := o_bind2 hf
      refine pw_goI hw (pw_runV (As := [.int 8, .int v108]) (rest := []) hC mm_X2_refuse tw_345 (c_X2_refuse h110 _) ⟨rfl, rfl, by decide, by decide⟩ hw h111 rfl hl.1 (Nat.le_of_ble_eq_true rfl) ⟨Nat.zero_le _, Nat.zero_le _⟩ rfl dX2_judgeOpening_92) (fun H locs hw => ?_)
      refine lv_pop hx hb dX2_judgeOpening_95 rfl ?_
      obtain rfl := o_retv hf
      exact pw_vret hC hr hlocks hw dX2_judgeOpening_96
def f_X2_judgeOpening_L39 (cy : Nat → ClassId) (a0 : Nat) (a1 : Nat) (a3 : Int32) (a4 : Int32) (t0 : Nat) (t1 : Int32) (μ : Mem) : Option Mem :=
  (wrF μ t0 1 3 (.int t1)).bind fun μ101 => if a3 = 15 then ((rdI μ101 a0 1 3).bind fun v106 => (rdI μ101 a1 4 1).bind fun v108 => if isO μ101 a0 1 = true then (ob2 (f_X2_readText cy a0 v106 v108 μ101) fun r113 μ112 => f_X2_judgeOpening_L68 cy a0 a1 a4 a0 r113 μ112) else none) else (rdI μ101 a0 1 3).bind fun v104 => f_X2_judgeOpening_L68 cy a0 a1 a4 a0 v104 μ101
set_option maxRecDepth 100000 in
set_option maxHeartbeats 4000000 in
theorem w_X2_judgeOpening_L39 {p : Program} {l : Launch} {e : Env} {s : State} {m : MethodId} {args : Array Value} {below : List Frame} {meth : Method} {c : Code} {A : Nat → Prop} {g : Wg} {L : List Nat} {μ' : Mem} (hC : CX p m c cX2_judgeOpening 5 s args RX2) (hr : meth.sig.returnType = none) (hlocks : meth.locks = false) : ∀ (a0 : Nat) (a1 : Nat) (a3 : Int32) (a4 : Int32) (t0 : Nat) (t1 : Int32) (μ : Mem) (H : Heap) (locs : List Loc) (ls : Array Slot), lv_has ls 5 [(0, .ref a0), (1, .ref a1), (3, .int a3), (4, .int a4)] → PW g L μ A s H locs → f_X2_judgeOpening_L39 g.2 a0 a1 a3 a4 t0 t1 μ = some μ' → W p l e rm_X2_judgeOpening s m args below meth c H locs 0 0 (MQ below (QV g L A μ') args s 0 0 A) (F0 m 39 ls [.int t1, .ref t0]) := by
  have hx := hC.1
  have hb := hC.2.1
  intro a0 a1 a3 a4 t0 t1 μ H locs ls hl hw hf
  unfold f_X2_judgeOpening_L39 at hf
  obtain ⟨μ101, h102, hf⟩ := o_bind hf
  refine pw_put hC fl_X2_27 hw h102 .int fd_X2_3 rfl rfl dX2_judgeOpening_39 (fun H locs hw => ?_)
  refine lv_aload_n hx hb dX2_judgeOpening_42 rfl (lv_at hl 0 rfl) ?_
  refine lv_iload_n hx hb dX2_judgeOpening_43 rfl (lv_at hl 2 rfl) ?_
  refine lv_bipush (v := 15) hx hb dX2_judgeOpening_44 nc_bipush_15 ?_
  refine lv_icmp_ne (tgt := 64) hx hb dX2_judgeOpening_46 (by decide) (fun c103 => ?_) (fun c103 => ?_)
  · have hf := o_neg c103 hf
    refine lv_aload_n hx hb dX2_judgeOpening_64 rfl (lv_at hl 0 rfl) ?_
    obtain ⟨v104, h105, hf⟩ := o_bind hf
    refine pw_get hC fl_X2_27 hw (rdI_F h105) dX2_judgeOpening_65 ?_
    exact w_X2_judgeOpening_L68 hC hr hlocks _ _ _ _ _ _ _ _ ls (lv_sub hl [0, 1, 3] rfl) hw hf
  · have hf := o_pos c103 hf
    refine lv_aload_n hx hb dX2_judgeOpening_49 rfl (lv_at hl 0 rfl) ?_
    refine lv_aload_n hx hb dX2_judgeOpening_50 rfl (lv_at hl 0 rfl) ?_
    obtain ⟨v106, h107, hf⟩ := o_bind hf
    refine pw_get hC fl_X2_27 hw (rdI_F h107) dX2_judgeOpening_51 ?_
    refine lv_aload_n hx hb dX2_judgeOpening_54 rfl (lv_at hl 1 rfl) ?_
    obtain ⟨v108, h109, hf⟩ := o_bind hf
    refine pw_get hC fl_X2_58 hw (rdI_F h109) dX2_judgeOpening_55 ?_
    obtain ⟨h111, hf⟩ := o_ite hf
    obtain ⟨r113, μ112, h110, hf⟩ := o_bind2 hf
    refine pw_goI hw (pw_runV (As := [.int v106, .int v108]) (rest := [.ref a0]) hC mm_X2_readText tw_396 (c_X2_readText h110 _) ⟨rfl, rfl, by decide, by decide⟩ hw h111 rfl hl.1 (Nat.le_of_ble_eq_true rfl) ⟨Nat.zero_le _, Nat.zero_le _⟩ rfl dX2_judgeOpening_58) (fun H locs hw => ?_)
    refine lv_goto (tgt := 68) hx hb dX2_judgeOpening_61 (by decide) ?_
    exact w_X2_judgeOpening_L68 hC hr hlocks _ _ _ _ _ _ _ _ ls (lv_sub hl [0, 1, 3] rfl) hw hf
def f_X2_judgeOpening (cy : Nat → ClassId) (a0 : Nat) (a1 : Nat) (a2 : Int32) (a3 : Int32) (a4 : Int32) (μ : Mem) : Option Mem :=
  if isO μ a0 1 = true then ((f_X2_restart cy a0 a1 (-1) μ).bind fun μ3 => ob2 (f_X1_hasDocument cy a3 μ3) fun r6 μ5 => if r6 = 0 then (if isO μ5 a0 1 = true then (ob2 (f_X2_refuse cy a0 3 0 μ5) fun r18 μ17 => some μ17) else none) else if a2 = 0 then (f_X2_judgeOpening_L39 cy a0 a1 a3 a4 a0 0 μ5) else (rdI μ5 a1 4 1).bind fun v9 => if isO μ5 a0 1 = true then (ob2 (f_X2_readName cy a0 0 v9 μ5) fun r14 μ13 => f_X2_judgeOpening_L39 cy a0 a1 a3 a4 a0 r14 μ13) else none) else none
set_option maxRecDepth 100000 in
set_option maxHeartbeats 4000000 in
theorem c_X2_judgeOpening {l : Launch} {g : Wg} {L : List Nat} {μ : Mem} {a0 : Nat} {a1 : Nat} {a2 : Int32} {a3 : Int32} {a4 : Int32} {μ' : Mem} (hf : f_X2_judgeOpening g.2 a0 a1 a2 a3 a4 μ = some μ') : MetV l yX2_judgeOpening cX2_judgeOpening 5 none rm_X2_judgeOpening g L μ [.ref a0, .ref a1, .int a2, .int a3, .int a4] μ' := by
  refine pw_met (Qc := fun A => QV g L A μ') (by decide) (Nat.le_of_ble_eq_true rfl) ?_
  intro p e s m args below meth c A ls H locs hC hr hlocks hl hw
  have hx := hC.1
  have hb := hC.2.1
  have hl : lv_has ls 5 [(0, .ref a0), (1, .ref a1), (2, .int a2), (3, .int a3), (4, .int a4)] := hl
  unfold f_X2_judgeOpening at hf
  refine lv_aload_n hx hb dX2_judgeOpening_0 rfl (lv_at hl 0 rfl) ?_
  refine lv_aload_n hx hb dX2_judgeOpening_1 rfl (lv_at hl 1 rfl) ?_
  refine lv_iconst (v := (-1)) hx hb dX2_judgeOpening_2 nc_iconst_m1 ?_
  obtain ⟨h2, hf⟩ := o_ite hf
  obtain ⟨μ3, h1, hf⟩ := o_bind hf
  refine pw_goV hw (pw_runV (As := [.ref a1, .int (-1)]) (rest := []) hC mm_X2_restart tw_337 (c_X2_restart h1 _) ⟨rfl, rfl, by decide, by decide⟩ hw h2 rfl hl.1 (Nat.le_of_ble_eq_true rfl) ⟨Nat.zero_le _, Nat.zero_le _⟩ rfl dX2_judgeOpening_3) (fun H locs hw => ?_)
  refine lv_iload_n hx hb dX2_judgeOpening_6 rfl (lv_at hl 3 rfl) ?_
  obtain ⟨r6, μ5, h4, hf⟩ := o_bind2 hf
  refine pw_goI hw (pw_runS (As := [.int a3]) (rest := []) hC mm_X1_hasDocument tw_968 (c_X1_hasDocument h4 _) ⟨rfl, rfl, by decide, by decide⟩ hw rfl hl.1 (Nat.le_of_ble_eq_true rfl) ⟨Nat.zero_le _, Nat.zero_le _⟩ rfl dX2_judgeOpening_7) (fun H locs hw => ?_)
  refine lv_if_ne (tgt := 21) hx hb dX2_judgeOpening_10 (by decide) (fun c7 => ?_) (fun c7 => ?_)
  · have hf := o_neg c7 hf
    refine lv_aload_n hx hb dX2_judgeOpening_21 rfl (lv_at hl 0 rfl) ?_
    refine lv_iload_n hx hb dX2_judgeOpening_22 rfl (lv_at hl 2 rfl) ?_
    refine lv_if_eq (tgt := 38) hx hb dX2_judgeOpening_23 (by decide) (fun c8 => ?_) (fun c8 => ?_)
    · have hf := o_pos c8 hf
      refine lv_iconst (v := 0) hx hb dX2_judgeOpening_38 nc_iconst_0 ?_
      exact w_X2_judgeOpening_L39 hC hr hlocks _ _ _ _ _ _ _ _ _ ls (lv_sub hl [0, 1, 3, 4] rfl) hw hf
    · have hf := o_neg c8 hf
      refine lv_aload_n hx hb dX2_judgeOpening_26 rfl (lv_at hl 0 rfl) ?_
      refine lv_iconst (v := 0) hx hb dX2_judgeOpening_27 nc_iconst_0 ?_
      refine lv_aload_n hx hb dX2_judgeOpening_28 rfl (lv_at hl 1 rfl) ?_
      obtain ⟨v9, h10, hf⟩ := o_bind hf
      refine pw_get hC fl_X2_58 hw (rdI_F h10) dX2_judgeOpening_29 ?_
      obtain ⟨h12, hf⟩ := o_ite hf
      obtain ⟨r14, μ13, h11, hf⟩ := o_bind2 hf
      refine pw_goI hw (pw_runV (As := [.int 0, .int v9]) (rest := [.ref a0]) hC mm_X2_readName tw_367 (c_X2_readName h11 _) ⟨rfl, rfl, by decide, by decide⟩ hw h12 rfl hl.1 (Nat.le_of_ble_eq_true rfl) ⟨Nat.zero_le _, Nat.zero_le _⟩ rfl dX2_judgeOpening_32) (fun H locs hw => ?_)
      refine lv_goto (tgt := 39) hx hb dX2_judgeOpening_35 (by decide) ?_
      exact w_X2_judgeOpening_L39 hC hr hlocks _ _ _ _ _ _ _ _ _ ls (lv_sub hl [0, 1, 3, 4] rfl) hw hf
  · have hf := o_pos c7 hf
    refine lv_aload_n hx hb dX2_judgeOpening_13 rfl (lv_at hl 0 rfl) ?_
    refine lv_iconst (v := 3) hx hb dX2_judgeOpening_14 nc_iconst_3 ?_
    refine lv_iconst (v := 0) hx hb dX2_judgeOpening_15 nc_iconst_0 ?_
    obtain ⟨h16, hf⟩ := o_ite hf
    obtain ⟨r18, μ17, h15, hf⟩ := o_bind2 hf
    refine pw_goI hw (pw_runV (As := [.int 3, .int 0]) (rest := []) hC mm_X2_refuse tw_345 (c_X2_refuse h15 _) ⟨rfl, rfl, by decide, by decide⟩ hw h16 rfl hl.1 (Nat.le_of_ble_eq_true rfl) ⟨Nat.zero_le _, Nat.zero_le _⟩ rfl dX2_judgeOpening_16) (fun H locs hw => ?_)
    refine lv_pop hx hb dX2_judgeOpening_19 rfl ?_
    obtain rfl := o_retv hf
    exact pw_vret hC hr hlocks hw dX2_judgeOpening_20
theorem dX2_countAll_0 : decode cX2_countAll 0 = .ok (.aload_n 0, 1) := by decide +kernel
theorem dX2_countAll_1 : decode cX2_countAll 1 = .ok (.aload_n 1, 1) := by decide +kernel
theorem dX2_countAll_2 : decode cX2_countAll 2 = .ok (.iload_n 2, 1) := by decide +kernel
theorem dX2_countAll_3 : decode cX2_countAll 3 = .ok (.invokevirtual 54, 3) := by decide +kernel
theorem dX2_countAll_6 : decode cX2_countAll 6 = .ok (.aload_n 0, 1) := by decide +kernel
theorem dX2_countAll_7 : decode cX2_countAll 7 = .ok (.iconst 0, 1) := by decide +kernel
theorem dX2_countAll_8 : decode cX2_countAll 8 = .ok (.aload_n 1, 1) := by decide +kernel
theorem dX2_countAll_9 : decode cX2_countAll 9 = .ok (.getfield 58, 3) := by decide +kernel
theorem dX2_countAll_12 : decode cX2_countAll 12 = .ok (.iconst 1, 1) := by decide +kernel
theorem dX2_countAll_13 : decode cX2_countAll 13 = .ok (.iconst 0, 1) := by decide +kernel
theorem dX2_countAll_14 : decode cX2_countAll 14 = .ok (.invokevirtual 61, 3) := by decide +kernel
theorem dX2_countAll_17 : decode cX2_countAll 17 = .ok (.pop, 1) := by decide +kernel
theorem dX2_countAll_18 : decode cX2_countAll 18 = .ok (.return_, 1) := by decide +kernel
abbrev rm_X2_countAll : Room := { frames := 125, cells := 0, slots := 0, locals := 3482 }
def f_X2_countAll (cy : Nat → ClassId) (a0 : Nat) (a1 : Nat) (a2 : Int32) (μ : Mem) : Option Mem :=
  if isO μ a0 1 = true then ((f_X2_restart cy a0 a1 a2 μ).bind fun μ3 => (rdI μ3 a1 4 1).bind fun v4 => if isO μ3 a0 1 = true then (ob2 (f_X2_readDocument cy DP a0 0 v4 1 0 μ3) fun r9 μ8 => some μ8) else none) else none
set_option maxRecDepth 100000 in
set_option maxHeartbeats 4000000 in
theorem c_X2_countAll {l : Launch} {g : Wg} {L : List Nat} {μ : Mem} {a0 : Nat} {a1 : Nat} {a2 : Int32} {μ' : Mem} (hf : f_X2_countAll g.2 a0 a1 a2 μ = some μ') : MetV l yX2_countAll cX2_countAll 3 none rm_X2_countAll g L μ [.ref a0, .ref a1, .int a2] μ' := by
  refine pw_met (Qc := fun A => QV g L A μ') (by decide) (Nat.le_of_ble_eq_true rfl) ?_
  intro p e s m args below meth c A ls H locs hC hr hlocks hl hw
  have hx := hC.1
  have hb := hC.2.1
  have hl : lv_has ls 3 [(0, .ref a0), (1, .ref a1), (2, .int a2)] := hl
  unfold f_X2_countAll at hf
  refine lv_aload_n hx hb dX2_countAll_0 rfl (lv_at hl 0 rfl) ?_
  refine lv_aload_n hx hb dX2_countAll_1 rfl (lv_at hl 1 rfl) ?_
  refine lv_iload_n hx hb dX2_countAll_2 rfl (lv_at hl 2 rfl) ?_
  obtain ⟨h2, hf⟩ := o_ite hf
  obtain ⟨μ3, h1, hf⟩ := o_bind hf
  refine pw_goV hw (pw_runV (As := [.ref a1, .int a2]) (rest := []) hC mm_X2_restart tw_337 (c_X2_restart h1 _) ⟨rfl, rfl, by decide, by decide⟩ hw h2 rfl hl.1 (Nat.le_of_ble_eq_true rfl) ⟨Nat.zero_le _, Nat.zero_le _⟩ rfl dX2_countAll_3) (fun H locs hw => ?_)
  refine lv_aload_n hx hb dX2_countAll_6 rfl (lv_at hl 0 rfl) ?_
  refine lv_iconst (v := 0) hx hb dX2_countAll_7 nc_iconst_0 ?_
  refine lv_aload_n hx hb dX2_countAll_8 rfl (lv_at hl 1 rfl) ?_
  obtain ⟨v4, h5, hf⟩ := o_bind hf
  refine pw_get hC fl_X2_58 hw (rdI_F h5) dX2_countAll_9 ?_
  refine lv_iconst (v := 1) hx hb dX2_countAll_12 nc_iconst_1 ?_
  refine lv_iconst (v := 0) hx hb dX2_countAll_13 nc_iconst_0 ?_
  obtain ⟨h7, hf⟩ := o_ite hf
  obtain ⟨r9, μ8, h6, hf⟩ := o_bind2 hf
  refine pw_goI hw (pw_runV (As := [.int 0, .int v4, .int 1, .int 0]) (rest := []) hC mm_X2_readDocument tw_341 (c_X2_readDocument (d := DP) h6 _) ⟨rfl, rfl, by decide, by decide⟩ hw h7 rfl hl.1 (Nat.le_of_ble_eq_true rfl) ⟨Nat.zero_le _, Nat.zero_le _⟩ rfl dX2_countAll_14) (fun H locs hw => ?_)
  refine lv_pop hx hb dX2_countAll_17 rfl ?_
  obtain rfl := o_retv hf
  exact pw_vret hC hr hlocks hw dX2_countAll_18
theorem dX2_levelsIn_0 : decode cX2_levelsIn 0 = .ok (.aload_n 0, 1) := by decide +kernel
theorem dX2_levelsIn_1 : decode cX2_levelsIn 1 = .ok (.aload_n 1, 1) := by decide +kernel
theorem dX2_levelsIn_2 : decode cX2_levelsIn 2 = .ok (.iconst (-1), 1) := by decide +kernel
theorem dX2_levelsIn_3 : decode cX2_levelsIn 3 = .ok (.invokevirtual 54, 3) := by decide +kernel
theorem dX2_levelsIn_6 : decode cX2_levelsIn 6 = .ok (.aload_n 0, 1) := by decide +kernel
theorem dX2_levelsIn_7 : decode cX2_levelsIn 7 = .ok (.iload_n 2, 1) := by decide +kernel
theorem dX2_levelsIn_8 : decode cX2_levelsIn 8 = .ok (.iload_n 3, 1) := by decide +kernel
theorem dX2_levelsIn_9 : decode cX2_levelsIn 9 = .ok (.aload_n 1, 1) := by decide +kernel
theorem dX2_levelsIn_10 : decode cX2_levelsIn 10 = .ok (.getfield 58, 3) := by decide +kernel
theorem dX2_levelsIn_13 : decode cX2_levelsIn 13 = .ok (.iconst 0, 1) := by decide +kernel
theorem dX2_levelsIn_14 : decode cX2_levelsIn 14 = .ok (.invokevirtual 81, 3) := by decide +kernel
theorem dX2_levelsIn_17 : decode cX2_levelsIn 17 = .ok (.pop, 1) := by decide +kernel
theorem dX2_levelsIn_18 : decode cX2_levelsIn 18 = .ok (.aload_n 0, 1) := by decide +kernel
theorem dX2_levelsIn_19 : decode cX2_levelsIn 19 = .ok (.getfield 33, 3) := by decide +kernel
theorem dX2_levelsIn_22 : decode cX2_levelsIn 22 = .ok (.ireturn, 1) := by decide +kernel
abbrev rm_X2_levelsIn : Room := { frames := 125, cells := 0, slots := 0, locals := 3478 }
def f_X2_levelsIn (cy : Nat → ClassId) (a0 : Nat) (a1 : Nat) (a2 : Int32) (a3 : Int32) (μ : Mem) : Option (Int32 × Mem) :=
  if isO μ a0 1 = true then ((f_X2_restart cy a0 a1 (-1) μ).bind fun μ3 => (rdI μ3 a1 4 1).bind fun v4 => if isO μ3 a0 1 = true then (ob2 (f_X2_readValue cy DP a0 a2 a3 v4 0 μ3) fun r9 μ8 => (rdI μ8 a0 1 5).bind fun v10 => some (v10, μ8)) else none) else none
set_option maxRecDepth 100000 in
set_option maxHeartbeats 4000000 in
theorem c_X2_levelsIn {l : Launch} {g : Wg} {L : List Nat} {μ : Mem} {a0 : Nat} {a1 : Nat} {a2 : Int32} {a3 : Int32} {r : Int32} {μ' : Mem} (hf : f_X2_levelsIn g.2 a0 a1 a2 a3 μ = some (r, μ')) : MetI l yX2_levelsIn cX2_levelsIn 4 (some .int) rm_X2_levelsIn g L μ [.ref a0, .ref a1, .int a2, .int a3] r μ' := by
  refine pw_met (Qc := fun A => QI g L A r μ') (by decide) (Nat.le_of_ble_eq_true rfl) ?_
  intro p e s m args below meth c A ls H locs hC hr hlocks hl hw
  have hx := hC.1
  have hb := hC.2.1
  have hl : lv_has ls 4 [(0, .ref a0), (1, .ref a1), (2, .int a2), (3, .int a3)] := hl
  unfold f_X2_levelsIn at hf
  refine lv_aload_n hx hb dX2_levelsIn_0 rfl (lv_at hl 0 rfl) ?_
  refine lv_aload_n hx hb dX2_levelsIn_1 rfl (lv_at hl 1 rfl) ?_
  refine lv_iconst (v := (-1)) hx hb dX2_levelsIn_2 nc_iconst_m1 ?_
  obtain ⟨h2, hf⟩ := o_ite hf
  obtain ⟨μ3, h1, hf⟩ := o_bind hf
  refine pw_goV hw (pw_runV (As := [.ref a1, .int (-1)]) (rest := []) hC mm_X2_restart tw_337 (c_X2_restart h1 _) ⟨rfl, rfl, by decide, by decide⟩ hw h2 rfl hl.1 (Nat.le_of_ble_eq_true rfl) ⟨Nat.zero_le _, Nat.zero_le _⟩ rfl dX2_levelsIn_3) (fun H locs hw => ?_)
  refine lv_aload_n hx hb dX2_levelsIn_6 rfl (lv_at hl 0 rfl) ?_
  refine lv_iload_n hx hb dX2_levelsIn_7 rfl (lv_at hl 2 rfl) ?_
  refine lv_iload_n hx hb dX2_levelsIn_8 rfl (lv_at hl 3 rfl) ?_
  refine lv_aload_n hx hb dX2_levelsIn_9 rfl (lv_at hl 1 rfl) ?_
  obtain ⟨v4, h5, hf⟩ := o_bind hf
  refine pw_get hC fl_X2_58 hw (rdI_F h5) dX2_levelsIn_10 ?_
  refine lv_iconst (v := 0) hx hb dX2_levelsIn_13 nc_iconst_0 ?_
  obtain ⟨h7, hf⟩ := o_ite hf
  obtain ⟨r9, μ8, h6, hf⟩ := o_bind2 hf
  refine pw_goI hw (pw_runV (As := [.int a2, .int a3, .int v4, .int 0]) (rest := []) hC mm_X2_readValue tw_392 (c_X2_readValue (d := DP) h6 _) ⟨rfl, rfl, by decide, by decide⟩ hw h7 rfl hl.1 (Nat.le_of_ble_eq_true rfl) ⟨Nat.zero_le _, Nat.zero_le _⟩ rfl dX2_levelsIn_14) (fun H locs hw => ?_)
  refine lv_pop hx hb dX2_levelsIn_17 rfl ?_
  refine lv_aload_n hx hb dX2_levelsIn_18 rfl (lv_at hl 0 rfl) ?_
  obtain ⟨v10, h11, hf⟩ := o_bind hf
  refine pw_get hC fl_X2_33 hw (rdI_F h11) dX2_levelsIn_19 ?_
  obtain ⟨rfl, rfl⟩ := o_ret hf
  exact pw_iret hC hr hlocks hw dX2_levelsIn_22
