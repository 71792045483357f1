theorem nc_bipush_17 : (Int8.ofInt 17).toInt32 = 17 := by decide +kernel
theorem tw_1085 : (Jvm.Cond.fieldLink "SpanShelvesModel" (40 : Nat) "SpanShelvesModel" "sheet" "[B") ∈ tw := tw_t 1085 (by decide +kernel) (by decide +kernel)
theorem tw_1086 : (Jvm.Cond.fieldLink "SpanShelvesModel" (351 : Nat) "SpanShelvesModel" "sheetSize" "I") ∈ tw := tw_t 1086 (by decide +kernel) (by decide +kernel)
theorem tw_1087 : (Jvm.Cond.fieldLink "SpanShelvesModel" (348 : Nat) "SpanShelvesModel" "isSheet" "Z") ∈ tw := tw_t 1087 (by decide +kernel) (by decide +kernel)
theorem tw_1088 : (Jvm.Cond.fieldLink "SpanShelvesModel" (354 : Nat) "SpanShelvesModel" "opened" "I") ∈ tw := tw_t 1088 (by decide +kernel) (by decide +kernel)
theorem tw_1089 : (Jvm.Cond.fieldLink "SpanShelvesModel" (43 : Nat) "SpanShelvesModel" "openAt" "[I") ∈ tw := tw_t 1089 (by decide +kernel) (by decide +kernel)
theorem tw_1090 : (Jvm.Cond.fieldLink "SpanShelvesModel" (46 : Nat) "SpanShelvesModel" "openType" "[I") ∈ tw := tw_t 1090 (by decide +kernel) (by decide +kernel)
theorem tw_1091 : (Jvm.Cond.fieldLink "SpanShelvesModel" (49 : Nat) "SpanShelvesModel" "openMany" "[I") ∈ tw := tw_t 1091 (by decide +kernel) (by decide +kernel)
theorem tw_1092 : (Jvm.Cond.fieldLink "SpanShelvesModel" (52 : Nat) "SpanShelvesModel" "openValue" "[I") ∈ tw := tw_t 1092 (by decide +kernel) (by decide +kernel)
theorem tw_1098 : (Jvm.Cond.fieldLink "SpanShelvesModel" (74 : Nat) "SpanShelvesModel" "trail" "[I") ∈ tw := tw_t 1098 (by decide +kernel) (by decide +kernel)
theorem tw_1118 : (Jvm.Cond.fieldLink "SpanShelvesModel" (87 : Nat) "SpanShelvesModel" "number" "[B") ∈ tw := tw_t 1118 (by decide +kernel) (by decide +kernel)
theorem tw_1354 : (Jvm.Cond.methodLink "SpanShelvesModel" (219 : Nat) ({ cls := "SpanShelvesModel", name := "named", desc := "(III)I" } : Jvm.MethodName)) ∈ tw := tw_t 1354 (by decide +kernel) (by decide +kernel)
theorem tw_1356 : (Jvm.Cond.instanceMethod ({ cls := "SpanShelvesModel", name := "named", desc := "(III)I" } : Jvm.MethodName)) ∈ tw := tw_t 1356 (by decide +kernel) (by decide +kernel)
theorem tw_1357 : (Jvm.Cond.code ({ cls := "SpanShelvesModel", name := "named", desc := "(III)I" } : Jvm.MethodName) prog_9_method_35_code (6 : Nat) (Option.some Jvm.ClassFile.FieldType.int)) ∈ tw := tw_t 1357 (by decide +kernel) (by decide +kernel)
theorem tw_1358 : (Jvm.Cond.methodLink "SpanShelvesModel" (204 : Nat) ({ cls := "SpanShelvesModel", name := "isNamed", desc := "(III)Z" } : Jvm.MethodName)) ∈ tw := tw_t 1358 (by decide +kernel) (by decide +kernel)
theorem tw_1360 : (Jvm.Cond.instanceMethod ({ cls := "SpanShelvesModel", name := "isNamed", desc := "(III)Z" } : Jvm.MethodName)) ∈ tw := tw_t 1360 (by decide +kernel) (by decide +kernel)
theorem tw_1361 : (Jvm.Cond.code ({ cls := "SpanShelvesModel", name := "isNamed", desc := "(III)Z" } : Jvm.MethodName) prog_9_method_36_code (6 : Nat) (Option.some Jvm.ClassFile.FieldType.boolean)) ∈ tw := tw_t 1361 (by decide +kernel) (by decide +kernel)
theorem tw_1394 : (Jvm.Cond.methodLink "SpanShelvesModel" (247 : Nat) ({ cls := "SpanShelvesModel", name := "tells", desc := "(I)V" } : Jvm.MethodName)) ∈ tw := tw_t 1394 (by decide +kernel) (by decide +kernel)
theorem tw_1396 : (Jvm.Cond.instanceMethod ({ cls := "SpanShelvesModel", name := "tells", desc := "(I)V" } : Jvm.MethodName)) ∈ tw := tw_t 1396 (by decide +kernel) (by decide +kernel)
theorem tw_1397 : (Jvm.Cond.code ({ cls := "SpanShelvesModel", name := "tells", desc := "(I)V" } : Jvm.MethodName) prog_9_method_44_code (2 : Nat) (Option.none : Option Jvm.ClassFile.FieldType)) ∈ tw := tw_t 1397 (by decide +kernel) (by decide +kernel)
theorem tw_1398 : (Jvm.Cond.methodLink "SpanShelvesModel" (253 : Nat) ({ cls := "SpanShelvesModel", name := "ints", desc := "(I)V" } : Jvm.MethodName)) ∈ tw := tw_t 1398 (by decide +kernel) (by decide +kernel)
theorem tw_1400 : (Jvm.Cond.instanceMethod ({ cls := "SpanShelvesModel", name := "ints", desc := "(I)V" } : Jvm.MethodName)) ∈ tw := tw_t 1400 (by decide +kernel) (by decide +kernel)
theorem tw_1401 : (Jvm.Cond.code ({ cls := "SpanShelvesModel", name := "ints", desc := "(I)V" } : Jvm.MethodName) prog_9_method_45_code (3 : Nat) (Option.none : Option Jvm.ClassFile.FieldType)) ∈ tw := tw_t 1401 (by decide +kernel) (by decide +kernel)
theorem tw_1499 : (Jvm.Cond.methodLink "SpanShelvesModel" (357 : Nat) ({ cls := "SpanShelvesModel", name := "opens", desc := "(II)V" } : Jvm.MethodName)) ∈ tw := tw_t 1499 (by decide +kernel) (by decide +kernel)
theorem tw_1501 : (Jvm.Cond.instanceMethod ({ cls := "SpanShelvesModel", name := "opens", desc := "(II)V" } : Jvm.MethodName)) ∈ tw := tw_t 1501 (by decide +kernel) (by decide +kernel)
theorem tw_1502 : (Jvm.Cond.code ({ cls := "SpanShelvesModel", name := "opens", desc := "(II)V" } : Jvm.MethodName) prog_9_method_70_code (4 : Nat) (Option.none : Option Jvm.ClassFile.FieldType)) ∈ tw := tw_t 1502 (by decide +kernel) (by decide +kernel)
theorem tw_1503 : (Jvm.Cond.methodLink "SpanShelvesModel" (361 : Nat) ({ cls := "SpanShelvesModel", name := "adds", desc := "(I)V" } : Jvm.MethodName)) ∈ tw := tw_t 1503 (by decide +kernel) (by decide +kernel)
theorem tw_1505 : (Jvm.Cond.instanceMethod ({ cls := "SpanShelvesModel", name := "adds", desc := "(I)V" } : Jvm.MethodName)) ∈ tw := tw_t 1505 (by decide +kernel) (by decide +kernel)
theorem tw_1506 : (Jvm.Cond.code ({ cls := "SpanShelvesModel", name := "adds", desc := "(I)V" } : Jvm.MethodName) prog_9_method_71_code (2 : Nat) (Option.none : Option Jvm.ClassFile.FieldType)) ∈ tw := tw_t 1506 (by decide +kernel) (by decide +kernel)
theorem tw_1511 : (Jvm.Cond.methodLink "SpanShelvesModel" (364 : Nat) ({ cls := "SpanShelvesModel", name := "headSize", desc := "()I" } : Jvm.MethodName)) ∈ tw := tw_t 1511 (by decide +kernel) (by decide +kernel)
theorem tw_1513 : (Jvm.Cond.instanceMethod ({ cls := "SpanShelvesModel", name := "headSize", desc := "()I" } : Jvm.MethodName)) ∈ tw := tw_t 1513 (by decide +kernel) (by decide +kernel)
theorem tw_1514 : (Jvm.Cond.code ({ cls := "SpanShelvesModel", name := "headSize", desc := "()I" } : Jvm.MethodName) prog_9_method_73_code (1 : Nat) (Option.some Jvm.ClassFile.FieldType.int)) ∈ tw := tw_t 1514 (by decide +kernel) (by decide +kernel)
theorem tw_1515 : (Jvm.Cond.methodLink "SpanShelvesModel" (368 : Nat) ({ cls := "SpanShelvesModel", name := "heads", desc := "(I)V" } : Jvm.MethodName)) ∈ tw := tw_t 1515 (by decide +kernel) (by decide +kernel)
theorem tw_1517 : (Jvm.Cond.instanceMethod ({ cls := "SpanShelvesModel", name := "heads", desc := "(I)V" } : Jvm.MethodName)) ∈ tw := tw_t 1517 (by decide +kernel) (by decide +kernel)
theorem tw_1518 : (Jvm.Cond.code ({ cls := "SpanShelvesModel", name := "heads", desc := "(I)V" } : Jvm.MethodName) prog_9_method_72_code (5 : Nat) (Option.none : Option Jvm.ClassFile.FieldType)) ∈ tw := tw_t 1518 (by decide +kernel) (by decide +kernel)
theorem tw_1523 : (Jvm.Cond.methodLink "SpanShelvesModel" (371 : Nat) ({ cls := "SpanShelvesModel", name := "isOpening", desc := "(I)Z" } : Jvm.MethodName)) ∈ tw := tw_t 1523 (by decide +kernel) (by decide +kernel)
theorem tw_1525 : (Jvm.Cond.instanceMethod ({ cls := "SpanShelvesModel", name := "isOpening", desc := "(I)Z" } : Jvm.MethodName)) ∈ tw := tw_t 1525 (by decide +kernel) (by decide +kernel)
theorem tw_1526 : (Jvm.Cond.code ({ cls := "SpanShelvesModel", name := "isOpening", desc := "(I)Z" } : Jvm.MethodName) prog_9_method_76_code (2 : Nat) (Option.some Jvm.ClassFile.FieldType.boolean)) ∈ tw := tw_t 1526 (by decide +kernel) (by decide +kernel)
theorem twp_50 : (Jvm.Cond.selects "SpanShelvesModel" ({ cls := "SpanShelvesModel", name := "named", desc := "(III)I" } : Jvm.MethodName) ({ cls := "SpanShelvesModel", name := "named", desc := "(III)I" } : Jvm.MethodName)) ∈ tw := tw_p 50 (q := (({ cls := "SpanShelvesModel", name := "named", desc := "(III)I" } : Jvm.MethodName), 44)) (by decide +kernel) (by decide +kernel)
theorem twp_51 : (Jvm.Cond.selects "SpanShelvesModel" ({ cls := "SpanShelvesModel", name := "isNamed", desc := "(III)Z" } : Jvm.MethodName) ({ cls := "SpanShelvesModel", name := "isNamed", desc := "(III)Z" } : Jvm.MethodName)) ∈ tw := tw_p 51 (q := (({ cls := "SpanShelvesModel", name := "isNamed", desc := "(III)Z" } : Jvm.MethodName), 44)) (by decide +kernel) (by decide +kernel)
theorem twp_52 : (Jvm.Cond.selects "SpanShelvesModel" ({ cls := "SpanShelvesModel", name := "tells", desc := "(I)V" } : Jvm.MethodName) ({ cls := "SpanShelvesModel", name := "tells", desc := "(I)V" } : Jvm.MethodName)) ∈ tw := tw_p 52 (q := (({ cls := "SpanShelvesModel", name := "tells", desc := "(I)V" } : Jvm.MethodName), 44)) (by decide +kernel) (by decide +kernel)
theorem twp_53 : (Jvm.Cond.selects "SpanShelvesModel" ({ cls := "SpanShelvesModel", name := "ints", desc := "(I)V" } : Jvm.MethodName) ({ cls := "SpanShelvesModel", name := "ints", desc := "(I)V" } : Jvm.MethodName)) ∈ tw := tw_p 53 (q := (({ cls := "SpanShelvesModel", name := "ints", desc := "(I)V" } : Jvm.MethodName), 44)) (by decide +kernel) (by decide +kernel)
theorem twp_67 : (Jvm.Cond.selects "SpanShelvesModel" ({ cls := "SpanShelvesModel", name := "opens", desc := "(II)V" } : Jvm.MethodName) ({ cls := "SpanShelvesModel", name := "opens", desc := "(II)V" } : Jvm.MethodName)) ∈ tw := tw_p 67 (q := (({ cls := "SpanShelvesModel", name := "opens", desc := "(II)V" } : Jvm.MethodName), 44)) (by decide +kernel) (by decide +kernel)
theorem twp_68 : (Jvm.Cond.selects "SpanShelvesModel" ({ cls := "SpanShelvesModel", name := "adds", desc := "(I)V" } : Jvm.MethodName) ({ cls := "SpanShelvesModel", name := "adds", desc := "(I)V" } : Jvm.MethodName)) ∈ tw := tw_p 68 (q := (({ cls := "SpanShelvesModel", name := "adds", desc := "(I)V" } : Jvm.MethodName), 44)) (by decide +kernel) (by decide +kernel)
theorem twp_69 : (Jvm.Cond.selects "SpanShelvesModel" ({ cls := "SpanShelvesModel", name := "headSize", desc := "()I" } : Jvm.MethodName) ({ cls := "SpanShelvesModel", name := "headSize", desc := "()I" } : Jvm.MethodName)) ∈ tw := tw_p 69 (q := (({ cls := "SpanShelvesModel", name := "headSize", desc := "()I" } : Jvm.MethodName), 44)) (by decide +kernel) (by decide +kernel)
theorem twp_70 : (Jvm.Cond.selects "SpanShelvesModel" ({ cls := "SpanShelvesModel", name := "heads", desc := "(I)V" } : Jvm.MethodName) ({ cls := "SpanShelvesModel", name := "heads", desc := "(I)V" } : Jvm.MethodName)) ∈ tw := tw_p 70 (q := (({ cls := "SpanShelvesModel", name := "heads", desc := "(I)V" } : Jvm.MethodName), 44)) (by decide +kernel) (by decide +kernel)
theorem twp_71 : (Jvm.Cond.selects "SpanShelvesModel" ({ cls := "SpanShelvesModel", name := "isOpening", desc := "(I)Z" } : Jvm.MethodName) ({ cls := "SpanShelvesModel", name := "isOpening", desc := "(I)Z" } : Jvm.MethodName)) ∈ tw := tw_p 71 (q := (({ cls := "SpanShelvesModel", name := "isOpening", desc := "(I)Z" } : Jvm.MethodName), 44)) (by decide +kernel) (by decide +kernel)
theorem fl_X8_40 : FL RX8 40 7 10 := ⟨by decide, RX8, TX8, 44, tyX8, rfl, by decide, rfl, iw_X8, tyX8_ok, nmX8, Or.inl tw_1085⟩
theorem fl_X8_43 : FL RX8 43 7 14 := ⟨by decide, RX8, TX8, 44, tyX8, rfl, by decide, rfl, iw_X8, tyX8_ok, nmX8, Or.inl tw_1089⟩
theorem fl_X8_46 : FL RX8 46 7 15 := ⟨by decide, RX8, TX8, 44, tyX8, rfl, by decide, rfl, iw_X8, tyX8_ok, nmX8, Or.inl tw_1090⟩
theorem fl_X8_49 : FL RX8 49 7 16 := ⟨by decide, RX8, TX8, 44, tyX8, rfl, by decide, rfl, iw_X8, tyX8_ok, nmX8, Or.inl tw_1091⟩
theorem fl_X8_52 : FL RX8 52 7 17 := ⟨by decide, RX8, TX8, 44, tyX8, rfl, by decide, rfl, iw_X8, tyX8_ok, nmX8, Or.inl tw_1092⟩
theorem fl_X8_74 : FL RX8 74 7 23 := ⟨by decide, RX8, TX8, 44, tyX8, rfl, by decide, rfl, iw_X8, tyX8_ok, nmX8, Or.inl tw_1098⟩
theorem fl_X8_87 : FL RX8 87 7 43 := ⟨by decide, RX8, TX8, 44, tyX8, rfl, by decide, rfl, iw_X8, tyX8_ok, nmX8, Or.inl tw_1118⟩
theorem fl_X8_348 : FL RX8 348 7 12 := ⟨by decide, RX8, TX8, 44, tyX8, rfl, by decide, rfl, iw_X8, tyX8_ok, nmX8, Or.inl tw_1087⟩
theorem fl_X8_351 : FL RX8 351 7 11 := ⟨by decide, RX8, TX8, 44, tyX8, rfl, by decide, rfl, iw_X8, tyX8_ok, nmX8, Or.inl tw_1086⟩
theorem fl_X8_354 : FL RX8 354 7 13 := ⟨by decide, RX8, TX8, 44, tyX8, rfl, by decide, rfl, iw_X8, tyX8_ok, nmX8, Or.inl tw_1088⟩
theorem fd_X8_11 : ∀ (C : String) (T : u_T) (N : Nat), vwCl[7]? = some (C, T, N) → (T 11).2.2.2 = false ∧ parseFieldDescriptor (T 11).2.2.1 = some .int := by intro C T N h; cases h; exact ⟨rfl, by decide +kernel⟩
theorem fd_X8_12 : ∀ (C : String) (T : u_T) (N : Nat), vwCl[7]? = some (C, T, N) → (T 12).2.2.2 = false ∧ parseFieldDescriptor (T 12).2.2.1 = some .boolean := by intro C T N h; cases h; exact ⟨rfl, by decide +kernel⟩
theorem fd_X8_13 : ∀ (C : String) (T : u_T) (N : Nat), vwCl[7]? = some (C, T, N) → (T 13).2.2.2 = false ∧ parseFieldDescriptor (T 13).2.2.1 = some .int := by intro C T N h; cases h; exact ⟨rfl, by decide +kernel⟩
theorem mm_X8_adds : MM 7 yX8_adds cX8_adds 2 none 1 := ⟨by decide, RX8, TX8, 44, rfl, tw_1505, twp_68, tw_1506, tw_10, by decide +kernel, by decide +kernel, by decide +kernel⟩
theorem mm_X8_headSize : MM 7 yX8_headSize cX8_headSize 1 (some .int) 0 := ⟨by decide, RX8, TX8, 44, rfl, tw_1513, twp_69, tw_1514, tw_10, by decide +kernel, by decide +kernel, by decide +kernel⟩
theorem mm_X8_heads : MM 7 yX8_heads cX8_heads 5 none 1 := ⟨by decide, RX8, TX8, 44, rfl, tw_1517, twp_70, tw_1518, tw_10, by decide +kernel, by decide +kernel, by decide +kernel⟩
theorem mm_X8_ints : MM 7 yX8_ints cX8_ints 3 none 1 := ⟨by decide, RX8, TX8, 44, rfl, tw_1400, twp_53, tw_1401, tw_10, by decide +kernel, by decide +kernel, by decide +kernel⟩
theorem mm_X8_isNamed : MM 7 yX8_isNamed cX8_isNamed 6 (some .boolean) 3 := ⟨by decide, RX8, TX8, 44, rfl, tw_1360, twp_51, tw_1361, tw_10, by decide +kernel, by decide +kernel, by decide +kernel⟩
theorem mm_X8_isOpening : MM 7 yX8_isOpening cX8_isOpening 2 (some .boolean) 1 := ⟨by decide, RX8, TX8, 44, rfl, tw_1525, twp_71, tw_1526, tw_10, by decide +kernel, by decide +kernel, by decide +kernel⟩
theorem mm_X8_named : MM 7 yX8_named cX8_named 6 (some .int) 3 := ⟨by decide, RX8, TX8, 44, rfl, tw_1356, twp_50, tw_1357, tw_10, by decide +kernel, by decide +kernel, by decide +kernel⟩
theorem mm_X8_opens : MM 7 yX8_opens cX8_opens 4 none 2 := ⟨by decide, RX8, TX8, 44, rfl, tw_1501, twp_67, tw_1502, tw_10, by decide +kernel, by decide +kernel, by decide +kernel⟩
theorem mm_X8_tells : MM 7 yX8_tells cX8_tells 2 none 1 := ⟨by decide, RX8, TX8, 44, rfl, tw_1396, twp_52, tw_1397, tw_10, by decide +kernel, by decide +kernel, by decide +kernel⟩
theorem dX8_set_0 : decode cX8_set 0 = .ok (.aload_n 0, 1) := by decide +kernel
theorem dX8_set_1 : decode cX8_set 1 = .ok (.iload_n 1, 1) := by decide +kernel
theorem dX8_set_2 : decode cX8_set 2 = .ok (.invokevirtual 183, 3) := by decide +kernel
theorem dX8_set_5 : decode cX8_set 5 = .ok (.ifCond .eq 5, 3) := by decide +kernel
theorem dX8_set_8 : decode cX8_set 8 = .ok (.iconst 0, 1) := by decide +kernel
theorem dX8_set_9 : decode cX8_set 9 = .ok (.ireturn, 1) := by decide +kernel
theorem dX8_set_10 : decode cX8_set 10 = .ok (.aload_n 0, 1) := by decide +kernel
theorem dX8_set_11 : decode cX8_set 11 = .ok (.aload_n 0, 1) := by decide +kernel
theorem dX8_set_12 : decode cX8_set 12 = .ok (.getfield 37, 3) := by decide +kernel
theorem dX8_set_15 : decode cX8_set 15 = .ok (.iload_n 1, 1) := by decide +kernel
theorem dX8_set_16 : decode cX8_set 16 = .ok (.iaload, 1) := by decide +kernel
theorem dX8_set_17 : decode cX8_set 17 = .ok (.ifCond .ge 7, 3) := by decide +kernel
theorem dX8_set_20 : decode cX8_set 20 = .ok (.iconst 1, 1) := by decide +kernel
theorem dX8_set_21 : decode cX8_set 21 = .ok (.goto 4, 3) := by decide +kernel
theorem dX8_set_24 : decode cX8_set 24 = .ok (.iconst 0, 1) := by decide +kernel
theorem dX8_set_25 : decode cX8_set 25 = .ok (.iconst 2, 1) := by decide +kernel
theorem dX8_set_26 : decode cX8_set 26 = .ok (.invokevirtual 186, 3) := by decide +kernel
theorem dX8_set_29 : decode cX8_set 29 = .ok (.ifCond .eq 5, 3) := by decide +kernel
theorem dX8_set_32 : decode cX8_set 32 = .ok (.iconst 0, 1) := by decide +kernel
theorem dX8_set_33 : decode cX8_set 33 = .ok (.ireturn, 1) := by decide +kernel
theorem dX8_set_34 : decode cX8_set 34 = .ok (.aload_n 0, 1) := by decide +kernel
theorem dX8_set_35 : decode cX8_set 35 = .ok (.iload_n 1, 1) := by decide +kernel
theorem dX8_set_36 : decode cX8_set 36 = .ok (.invokevirtual 322, 3) := by decide +kernel
theorem dX8_set_39 : decode cX8_set 39 = .ok (.istore 5, 2) := by decide +kernel
theorem dX8_set_41 : decode cX8_set 41 = .ok (.aload_n 0, 1) := by decide +kernel
theorem dX8_set_42 : decode cX8_set 42 = .ok (.invokevirtual 170, 3) := by decide +kernel
theorem dX8_set_45 : decode cX8_set 45 = .ok (.iload_n 2, 1) := by decide +kernel
theorem dX8_set_46 : decode cX8_set 46 = .ok (.iconst 1, 1) := by decide +kernel
theorem dX8_set_47 : decode cX8_set 47 = .ok (.if_icmp .eq 21, 3) := by decide +kernel
theorem dX8_set_50 : decode cX8_set 50 = .ok (.iload_n 2, 1) := by decide +kernel
theorem dX8_set_51 : decode cX8_set 51 = .ok (.bipush 9, 2) := by decide +kernel
theorem dX8_set_53 : decode cX8_set 53 = .ok (.if_icmp .eq 15, 3) := by decide +kernel
theorem dX8_set_56 : decode cX8_set 56 = .ok (.iload_n 2, 1) := by decide +kernel
theorem dX8_set_57 : decode cX8_set 57 = .ok (.bipush 17, 2) := by decide +kernel
theorem dX8_set_59 : decode cX8_set 59 = .ok (.if_icmp .eq 9, 3) := by decide +kernel
theorem dX8_set_62 : decode cX8_set 62 = .ok (.iload_n 2, 1) := by decide +kernel
theorem dX8_set_63 : decode cX8_set 63 = .ok (.bipush 18, 2) := by decide +kernel
theorem dX8_set_65 : decode cX8_set 65 = .ok (.if_icmp .ne 8, 3) := by decide +kernel
theorem dX8_set_68 : decode cX8_set 68 = .ok (.bipush 8, 2) := by decide +kernel
theorem dX8_set_70 : decode cX8_set 70 = .ok (.goto 24, 3) := by decide +kernel
theorem dX8_set_73 : decode cX8_set 73 = .ok (.iload_n 2, 1) := by decide +kernel
theorem dX8_set_74 : decode cX8_set 74 = .ok (.bipush 8, 2) := by decide +kernel
theorem dX8_set_76 : decode cX8_set 76 = .ok (.if_icmp .ne 7, 3) := by decide +kernel
theorem dX8_set_79 : decode cX8_set 79 = .ok (.iconst 1, 1) := by decide +kernel
theorem dX8_set_80 : decode cX8_set 80 = .ok (.goto 14, 3) := by decide +kernel
theorem dX8_set_83 : decode cX8_set 83 = .ok (.iload_n 2, 1) := by decide +kernel
theorem dX8_set_84 : decode cX8_set 84 = .ok (.bipush 16, 2) := by decide +kernel
theorem dX8_set_86 : decode cX8_set 86 = .ok (.if_icmp .ne 7, 3) := by decide +kernel
theorem dX8_set_89 : decode cX8_set 89 = .ok (.iconst 4, 1) := by decide +kernel
theorem dX8_set_90 : decode cX8_set 90 = .ok (.goto 4, 3) := by decide +kernel
theorem dX8_set_93 : decode cX8_set 93 = .ok (.iconst 0, 1) := by decide +kernel
theorem dX8_set_94 : decode cX8_set 94 = .ok (.istore 6, 2) := by decide +kernel
theorem dX8_set_96 : decode cX8_set 96 = .ok (.iload 6, 2) := by decide +kernel
theorem dX8_set_98 : decode cX8_set 98 = .ok (.ifCond .ne 14, 3) := by decide +kernel
theorem dX8_set_101 : decode cX8_set 101 = .ok (.aload_n 0, 1) := by decide +kernel
theorem dX8_set_102 : decode cX8_set 102 = .ok (.iconst 3, 1) := by decide +kernel
theorem dX8_set_103 : decode cX8_set 103 = .ok (.iconst 0, 1) := by decide +kernel
theorem dX8_set_104 : decode cX8_set 104 = .ok (.invokevirtual 109, 3) := by decide +kernel
theorem dX8_set_107 : decode cX8_set 107 = .ok (.istore 6, 2) := by decide +kernel
theorem dX8_set_109 : decode cX8_set 109 = .ok (.goto 30, 3) := by decide +kernel
theorem dX8_set_112 : decode cX8_set 112 = .ok (.iload_n 2, 1) := by decide +kernel
theorem dX8_set_113 : decode cX8_set 113 = .ok (.bipush 8, 2) := by decide +kernel
theorem dX8_set_115 : decode cX8_set 115 = .ok (.if_icmp .ne 24, 3) := by decide +kernel
theorem dX8_set_118 : decode cX8_set 118 = .ok (.lload_n 3, 1) := by decide +kernel
theorem dX8_set_119 : decode cX8_set 119 = .ok (.lconst 0, 1) := by decide +kernel
theorem dX8_set_120 : decode cX8_set 120 = .ok (.lcmp, 1) := by decide +kernel
theorem dX8_set_121 : decode cX8_set 121 = .ok (.ifCond .eq 18, 3) := by decide +kernel
theorem dX8_set_124 : decode cX8_set 124 = .ok (.lload_n 3, 1) := by decide +kernel
theorem dX8_set_125 : decode cX8_set 125 = .ok (.lconst 1, 1) := by decide +kernel
theorem dX8_set_126 : decode cX8_set 126 = .ok (.lcmp, 1) := by decide +kernel
theorem dX8_set_127 : decode cX8_set 127 = .ok (.ifCond .eq 12, 3) := by decide +kernel
theorem dX8_set_130 : decode cX8_set 130 = .ok (.aload_n 0, 1) := by decide +kernel
theorem dX8_set_131 : decode cX8_set 131 = .ok (.bipush 7, 2) := by decide +kernel
theorem dX8_set_133 : decode cX8_set 133 = .ok (.iconst 0, 1) := by decide +kernel
theorem dX8_set_134 : decode cX8_set 134 = .ok (.invokevirtual 109, 3) := by decide +kernel
theorem dX8_set_137 : decode cX8_set 137 = .ok (.istore 6, 2) := by decide +kernel
theorem dX8_set_139 : decode cX8_set 139 = .ok (.aload_n 0, 1) := by decide +kernel
theorem dX8_set_140 : decode cX8_set 140 = .ok (.iload 6, 2) := by decide +kernel
theorem dX8_set_142 : decode cX8_set 142 = .ok (.ifCond .ge 7, 3) := by decide +kernel
theorem dX8_set_145 : decode cX8_set 145 = .ok (.iconst 1, 1) := by decide +kernel
theorem dX8_set_146 : decode cX8_set 146 = .ok (.goto 4, 3) := by decide +kernel
theorem dX8_set_149 : decode cX8_set 149 = .ok (.iconst 0, 1) := by decide +kernel
theorem dX8_set_150 : decode cX8_set 150 = .ok (.iconst 3, 1) := by decide +kernel
theorem dX8_set_151 : decode cX8_set 151 = .ok (.invokevirtual 186, 3) := by decide +kernel
theorem dX8_set_154 : decode cX8_set 154 = .ok (.ifCond .eq 5, 3) := by decide +kernel
theorem dX8_set_157 : decode cX8_set 157 = .ok (.iconst 0, 1) := by decide +kernel
theorem dX8_set_158 : decode cX8_set 158 = .ok (.ireturn, 1) := by decide +kernel
theorem dX8_set_159 : decode cX8_set 159 = .ok (.iconst 0, 1) := by decide +kernel
theorem dX8_set_160 : decode cX8_set 160 = .ok (.istore 7, 2) := by decide +kernel
theorem dX8_set_162 : decode cX8_set 162 = .ok (.iload 7, 2) := by decide +kernel
theorem dX8_set_164 : decode cX8_set 164 = .ok (.iload 6, 2) := by decide +kernel
theorem dX8_set_166 : decode cX8_set 166 = .ok (.if_icmp .ge 25, 3) := by decide +kernel
theorem dX8_set_169 : decode cX8_set 169 = .ok (.aload_n 0, 1) := by decide +kernel
theorem dX8_set_170 : decode cX8_set 170 = .ok (.getfield 87, 3) := by decide +kernel
theorem dX8_set_173 : decode cX8_set 173 = .ok (.iload 7, 2) := by decide +kernel
theorem dX8_set_175 : decode cX8_set 175 = .ok (.lload_n 3, 1) := by decide +kernel
theorem dX8_set_176 : decode cX8_set 176 = .ok (.bipush 8, 2) := by decide +kernel
theorem dX8_set_178 : decode cX8_set 178 = .ok (.iload 7, 2) := by decide +kernel
theorem dX8_set_180 : decode cX8_set 180 = .ok (.imul, 1) := by decide +kernel
theorem dX8_set_181 : decode cX8_set 181 = .ok (.lshr, 1) := by decide +kernel
theorem dX8_set_182 : decode cX8_set 182 = .ok (.l2i, 1) := by decide +kernel
theorem dX8_set_183 : decode cX8_set 183 = .ok (.i2b, 1) := by decide +kernel
theorem dX8_set_184 : decode cX8_set 184 = .ok (.bastore, 1) := by decide +kernel
theorem dX8_set_185 : decode cX8_set 185 = .ok (.iinc 7 1, 3) := by decide +kernel
theorem dX8_set_188 : decode cX8_set 188 = .ok (.goto (-26), 3) := by decide +kernel
theorem dX8_set_191 : decode cX8_set 191 = .ok (.aload_n 0, 1) := by decide +kernel
theorem dX8_set_192 : decode cX8_set 192 = .ok (.aload_n 0, 1) := by decide +kernel
theorem dX8_set_193 : decode cX8_set 193 = .ok (.getfield 80, 3) := by decide +kernel
theorem dX8_set_196 : decode cX8_set 196 = .ok (.aload_n 0, 1) := by decide +kernel
theorem dX8_set_197 : decode cX8_set 197 = .ok (.getfield 37, 3) := by decide +kernel
theorem dX8_set_200 : decode cX8_set 200 = .ok (.iload_n 1, 1) := by decide +kernel
theorem dX8_set_201 : decode cX8_set 201 = .ok (.iaload, 1) := by decide +kernel
theorem dX8_set_202 : decode cX8_set 202 = .ok (.iaload, 1) := by decide +kernel
theorem dX8_set_203 : decode cX8_set 203 = .ok (.putfield 265, 3) := by decide +kernel
theorem dX8_set_206 : decode cX8_set 206 = .ok (.aload_n 0, 1) := by decide +kernel
theorem dX8_set_207 : decode cX8_set 207 = .ok (.iload_n 2, 1) := by decide +kernel
theorem dX8_set_208 : decode cX8_set 208 = .ok (.aload_n 0, 1) := by decide +kernel
theorem dX8_set_209 : decode cX8_set 209 = .ok (.getfield 87, 3) := by decide +kernel
theorem dX8_set_212 : decode cX8_set 212 = .ok (.iconst 0, 1) := by decide +kernel
theorem dX8_set_213 : decode cX8_set 213 = .ok (.iload 6, 2) := by decide +kernel
theorem dX8_set_215 : decode cX8_set 215 = .ok (.invokevirtual 328, 3) := by decide +kernel
theorem dX8_set_218 : decode cX8_set 218 = .ok (.aload_n 0, 1) := by decide +kernel
theorem dX8_set_219 : decode cX8_set 219 = .ok (.aload_n 0, 1) := by decide +kernel
theorem dX8_set_220 : decode cX8_set 220 = .ok (.iload_n 1, 1) := by decide +kernel
theorem dX8_set_221 : decode cX8_set 221 = .ok (.invokevirtual 332, 3) := by decide +kernel
theorem dX8_set_224 : decode cX8_set 224 = .ok (.ifCond .ne 7, 3) := by decide +kernel
theorem dX8_set_227 : decode cX8_set 227 = .ok (.iconst 1, 1) := by decide +kernel
theorem dX8_set_228 : decode cX8_set 228 = .ok (.goto 4, 3) := by decide +kernel
theorem dX8_set_231 : decode cX8_set 231 = .ok (.iconst 0, 1) := by decide +kernel
theorem dX8_set_232 : decode cX8_set 232 = .ok (.iconst 4, 1) := by decide +kernel
theorem dX8_set_233 : decode cX8_set 233 = .ok (.invokevirtual 186, 3) := by decide +kernel
theorem dX8_set_236 : decode cX8_set 236 = .ok (.ifCond .eq 5, 3) := by decide +kernel
theorem dX8_set_239 : decode cX8_set 239 = .ok (.iconst 0, 1) := by decide +kernel
theorem dX8_set_240 : decode cX8_set 240 = .ok (.ireturn, 1) := by decide +kernel
theorem dX8_set_241 : decode cX8_set 241 = .ok (.aload_n 0, 1) := by decide +kernel
theorem dX8_set_242 : decode cX8_set 242 = .ok (.getfield 25, 3) := by decide +kernel
theorem dX8_set_245 : decode cX8_set 245 = .ok (.iload_n 1, 1) := by decide +kernel
theorem dX8_set_246 : decode cX8_set 246 = .ok (.iaload, 1) := by decide +kernel
theorem dX8_set_247 : decode cX8_set 247 = .ok (.ireturn, 1) := by decide +kernel
abbrev rm_X8_set : Room := { frames := 125, cells := 0, slots := 0, locals := 3113 }
def f_X8_set_L232 (cy : Nat → ClassId) (a0 : Nat) (a1 : Int32) (t0 : Nat) (t1 : Int32) (μ : Mem) : Option (Int32 × Mem) :=
  if isO μ t0 7 = true then (ob2 (f_X8_throwsIf cy t0 t1 4 μ) fun r104 μ103 => if r104 = 0 then ((rdR μ103 a0 7 6).bind fun q106 => (rdA cy μ103 1 q106 a1).bind fun v108 => some (v108, μ103)) else some (0, μ103)) else none
set_option maxRecDepth 100000 in
set_option maxHeartbeats 4000000 in
theorem w_X8_set_L232 {p : Program} {l : Launch} {e : Env} {s : State} {m : MethodId} {args : Array Value} {below : List Frame} {meth : Method} {c : Code} {A : Nat → Prop} {g : Wg} {L : List Nat} {r : Int32} {μ' : Mem} (hC : CX p m c cX8_set 8 s args RX8) (hr : meth.sig.returnType = (some .int)) (hlocks : meth.locks = false) : ∀ (a0 : Nat) (a1 : Int32) (t0 : Nat) (t1 : Int32) (μ : Mem) (H : Heap) (locs : List Loc) (ls : Array Slot), lv_has ls 8 [(0, .ref a0), (1, .int a1)] → PW g L μ A s H locs → f_X8_set_L232 g.2 a0 a1 t0 t1 μ = some (r, μ') → W p l e rm_X8_set s m args below meth c H locs 0 0 (MQ below (QI g L A r μ') args s 0 0 A) (F0 m 232 ls [.int t1, .ref t0]) := by
  have hx := hC.1
  have hb := hC.2.1
  intro a0 a1 t0 t1 μ H locs ls hl hw hf
  unfold f_X8_set_L232 at hf
  refine lv_iconst (v := 4) hx hb dX8_set_232 nc_iconst_4 ?_
  obtain ⟨h102, hf⟩ := o_ite hf
  obtain ⟨r104, μ103, h101, hf⟩ := o_bind2 hf
  refine pw_goI hw (pw_runV (As := [.int t1, .int 4]) (rest := []) hC mm_X8_throwsIf tw_1317 (c_X8_throwsIf h101 _) ⟨rfl, rfl, by decide, by decide⟩ hw h102 rfl hl.1 (Nat.le_of_ble_eq_true rfl) ⟨Nat.zero_le _, Nat.zero_le _⟩ rfl dX8_set_233) (fun H locs hw => ?_)
  refine lv_if_eq (tgt := 241) hx hb dX8_set_236 (by decide) (fun c105 => ?_) (fun c105 => ?_)
  · have hf := o_pos c105 hf
    refine lv_aload_n hx hb dX8_set_241 rfl (lv_at hl 0 rfl) ?_
    obtain ⟨q106, h107, hf⟩ := o_bind hf
    refine pw_get hC fl_X8_25 hw (rdR_F h107) dX8_set_242 ?_
    refine lv_iload_n hx hb dX8_set_245 rfl (lv_at hl 1 rfl) ?_
    obtain ⟨v108, h109, hf⟩ := o_bind hf
    refine pw_iald hC hw h109 dX8_set_246 ?_
    obtain ⟨rfl, rfl⟩ := o_ret hf
    exact pw_iret hC hr hlocks hw dX8_set_247
  · have hf := o_neg c105 hf
    refine lv_iconst (v := 0) hx hb dX8_set_239 nc_iconst_0 ?_
    obtain ⟨rfl, rfl⟩ := o_ret hf
    exact pw_iret hC hr hlocks hw dX8_set_240
def f_X8_set_L162 (cy : Nat → ClassId) : Nat → Nat → Int32 → Int32 → Int64 → Int32 → Int32 → Mem → Option (Int32 × Mem)
  | 0, _, _, _, _, _, _, _ => none
  | n + 1, a0, a1, a2, a3, a6, a7, μ => if a6 ≤ a7 then ((rdR μ a0 7 30).bind fun q102 => (rdR μ a0 7 9).bind fun q104 => (rdA cy μ 1 q104 a1).bind fun v106 => (rdA cy μ 1 q102 v106).bind fun v108 => (wrF μ a0 7 29 (.int v108)).bind fun μ110 => (rdR μ110 a0 7 43).bind fun q112 => if isO μ110 a0 7 = true then ((f_X8_valueIs cy a0 a2 q112 0 a6 μ110).bind fun μ116 => if isO μ116 a0 7 = true then (ob2 (f_X8_lays cy a0 a1 μ116) fun r120 μ119 => if r120 = 0 then (f_X8_set_L232 cy a0 a1 a0 1 μ119) else f_X8_set_L232 cy a0 a1 a0 0 μ119) else none) else none) else (rdR μ a0 7 43).bind fun q122 => (wrA cy μ 0 q122 a7 (vp_nar .byte ((Int32.toInt8 (Int64.toInt32 (a3 >>> (Int32.toInt64 (8 * a7) &&& 63)))).toInt32))).bind fun μ124 => f_X8_set_L162 cy n a0 a1 a2 a3 a6 (a7 + 1) μ124
set_option maxRecDepth 100000 in
set_option maxHeartbeats 4000000 in
theorem w_X8_set_L162 {p : Program} {l : Launch} {e : Env} {s : State} {m : MethodId} {args : Array Value} {below : List Frame} {meth : Method} {c : Code} {A : Nat → Prop} {g : Wg} {L : List Nat} {r : Int32} {μ' : Mem} (hC : CX p m c cX8_set 8 s args RX8) (hr : meth.sig.returnType = (some .int)) (hlocks : meth.locks = false) : ∀ (n : Nat), ∀ (a0 : Nat) (a1 : Int32) (a2 : Int32) (a3 : Int64) (a6 : Int32) (a7 : Int32) (μ : Mem) (H : Heap) (locs : List Loc) (ls : Array Slot), lv_has ls 8 [(0, .ref a0), (1, .int a1), (2, .int a2), (3, .long a3), (6, .int a6), (7, .int a7)] → PW g L μ A s H locs → f_X8_set_L162 g.2 n a0 a1 a2 a3 a6 a7 μ = some (r, μ') → W p l e rm_X8_set s m args below meth c H locs 0 0 (MQ below (QI g L A r μ') args s 0 0 A) (F0 m 162 ls []) := by
  have hx := hC.1
  have hb := hC.2.1
  intro n
  induction n with
  | zero => intro a0 a1 a2 a3 a6 a7 μ H locs ls hl hw hf; cases hf
  | succ n ih =>
    intro a0 a1 a2 a3 a6 a7 μ H locs ls hl hw hf
    rw [f_X8_set_L162] at hf
    refine lv_iload hx hb dX8_set_162 (lv_at hl 5 rfl) ?_
    refine lv_iload hx hb dX8_set_164 (lv_at hl 4 rfl) ?_
    refine lv_icmp_ge (tgt := 191) hx hb dX8_set_166 (by decide) (fun c101 => ?_) (fun c101 => ?_)
    · have hf := o_pos c101 hf
      refine lv_aload_n hx hb dX8_set_191 rfl (lv_at hl 0 rfl) ?_
      refine lv_aload_n hx hb dX8_set_192 rfl (lv_at hl 0 rfl) ?_
      obtain ⟨q102, h103, hf⟩ := o_bind hf
      refine pw_get hC fl_X8_80 hw (rdR_F h103) dX8_set_193 ?_
      refine lv_aload_n hx hb dX8_set_196 rfl (lv_at hl 0 rfl) ?_
      obtain ⟨q104, h105, hf⟩ := o_bind hf
      refine pw_get hC fl_X8_37 hw (rdR_F h105) dX8_set_197 ?_
      refine lv_iload_n hx hb dX8_set_200 rfl (lv_at hl 1 rfl) ?_
      obtain ⟨v106, h107, hf⟩ := o_bind hf
      refine pw_iald hC hw h107 dX8_set_201 ?_
      obtain ⟨v108, h109, hf⟩ := o_bind hf
      refine pw_iald hC hw h109 dX8_set_202 ?_
      obtain ⟨μ110, h111, hf⟩ := o_bind hf
      refine pw_put hC fl_X8_265 hw h111 .int fd_X8_29 rfl rfl dX8_set_203 (fun H locs hw => ?_)
      refine lv_aload_n hx hb dX8_set_206 rfl (lv_at hl 0 rfl) ?_
      refine lv_iload_n hx hb dX8_set_207 rfl (lv_at hl 2 rfl) ?_
      refine lv_aload_n hx hb dX8_set_208 rfl (lv_at hl 0 rfl) ?_
      obtain ⟨q112, h113, hf⟩ := o_bind hf
      refine pw_get hC fl_X8_87 hw (rdR_F h113) dX8_set_209 ?_
      refine lv_iconst (v := 0) hx hb dX8_set_212 nc_iconst_0 ?_
      refine lv_iload hx hb dX8_set_213 (lv_at hl 4 rfl) ?_
      obtain ⟨h115, hf⟩ := o_ite hf
      obtain ⟨μ116, h114, hf⟩ := o_bind hf
      refine pw_goV hw (pw_runV (As := [.int a2, .ref q112, .int 0, .int a6]) (rest := []) hC mm_X8_valueIs tw_1422 (c_X8_valueIs h114 _) ⟨rfl, rfl, by decide, by decide⟩ hw h115 rfl hl.1 (Nat.le_of_ble_eq_true rfl) ⟨Nat.zero_le _, Nat.zero_le _⟩ rfl dX8_set_215) (fun H locs hw => ?_)
      refine lv_aload_n hx hb dX8_set_218 rfl (lv_at hl 0 rfl) ?_
      refine lv_aload_n hx hb dX8_set_219 rfl (lv_at hl 0 rfl) ?_
      refine lv_iload_n hx hb dX8_set_220 rfl (lv_at hl 1 rfl) ?_
      obtain ⟨h118, hf⟩ := o_ite hf
      obtain ⟨r120, μ119, h117, hf⟩ := o_bind2 hf
      refine pw_goI hw (pw_runV (As := [.int a1]) (rest := [.ref a0]) hC mm_X8_lays tw_1426 (c_X8_lays h117 _) ⟨rfl, rfl, by decide, by decide⟩ hw h118 rfl hl.1 (Nat.le_of_ble_eq_true rfl) ⟨Nat.zero_le _, Nat.zero_le _⟩ rfl dX8_set_221) (fun H locs hw => ?_)
      refine lv_if_ne (tgt := 231) hx hb dX8_set_224 (by decide) (fun c121 => ?_) (fun c121 => ?_)
      · have hf := o_neg c121 hf
        refine lv_iconst (v := 0) hx hb dX8_set_231 nc_iconst_0 ?_
        exact w_X8_set_L232 hC hr hlocks _ _ _ _ _ _ _ ls (lv_sub hl [0, 1] rfl) hw hf
      · have hf := o_pos c121 hf
        refine lv_iconst (v := 1) hx hb dX8_set_227 nc_iconst_1 ?_
        refine lv_goto (tgt := 232) hx hb dX8_set_228 (by decide) ?_
        exact w_X8_set_L232 hC hr hlocks _ _ _ _ _ _ _ ls (lv_sub hl [0, 1] rfl) hw hf
    · have hf := o_neg c101 hf
      refine lv_aload_n hx hb dX8_set_169 rfl (lv_at hl 0 rfl) ?_
      obtain ⟨q122, h123, hf⟩ := o_bind hf
      refine pw_get hC fl_X8_87 hw (rdR_F h123) dX8_set_170 ?_
      refine lv_iload hx hb dX8_set_173 (lv_at hl 5 rfl) ?_
      refine lv_lload_n hx hb dX8_set_175 rfl (lv_at hl 3 rfl) ?_
      refine lv_bipush (v := 8) hx hb dX8_set_176 nc_bipush_8 ?_
      refine lv_iload hx hb dX8_set_178 (lv_at hl 5 rfl) ?_
      refine lv_imul hx hb dX8_set_180 ?_
      refine lv_lshr hx hb dX8_set_181 rfl ?_
      refine lv_l2i hx hb dX8_set_182 rfl ?_
      refine lv_i2b hx hb dX8_set_183 rfl ?_
      obtain ⟨μ124, h125, hf⟩ := o_bind hf
      refine pw_bast hC hw h125 dX8_set_184 (fun H locs hw => ?_)
      refine lv_iinc (v := (a7 + 1)) (lv' := [(7, .int (a7 + 1)), (0, .ref a0), (1, .int a1), (2, .int a2), (3, .long a3), (6, .int a6)]) hx hb dX8_set_185 hl (k := 5) rfl (by first | rfl | decide +kernel) (by decide) rfl (fun ls hl => ?_)
      refine lv_goto (tgt := 162) hx hb dX8_set_188 (by decide) ?_
      exact ih _ _ _ _ _ _ _ _ _ ls (lv_sub hl [1, 2, 3, 4, 5, 0] rfl) hw hf
def f_X8_set_L150 (cy : Nat → ClassId) (a0 : Nat) (a1 : Int32) (a2 : Int32) (a3 : Int64) (a6 : Int32) (t0 : Nat) (t1 : Int32) (μ : Mem) : Option (Int32 × Mem) :=
  if isO μ t0 7 = true then (ob2 (f_X8_throwsIf cy t0 t1 3 μ) fun r104 μ103 => if r104 = 0 then (f_X8_set_L162 cy FU a0 a1 a2 a3 a6 0 μ103) else some (0, μ103)) else none
set_option maxRecDepth 100000 in
set_option maxHeartbeats 4000000 in
theorem w_X8_set_L150 {p : Program} {l : Launch} {e : Env} {s : State} {m : MethodId} {args : Array Value} {below : List Frame} {meth : Method} {c : Code} {A : Nat → Prop} {g : Wg} {L : List Nat} {r : Int32} {μ' : Mem} (hC : CX p m c cX8_set 8 s args RX8) (hr : meth.sig.returnType = (some .int)) (hlocks : meth.locks = false) : ∀ (a0 : Nat) (a1 : Int32) (a2 : Int32) (a3 : Int64) (a6 : Int32) (t0 : Nat) (t1 : Int32) (μ : Mem) (H : Heap) (locs : List Loc) (ls : Array Slot), lv_has ls 8 [(0, .ref a0), (1, .int a1), (2, .int a2), (3, .long a3), (6, .int a6)] → PW g L μ A s H locs → f_X8_set_L150 g.2 a0 a1 a2 a3 a6 t0 t1 μ = some (r, μ') → W p l e rm_X8_set s m args below meth c H locs 0 0 (MQ below (QI g L A r μ') args s 0 0 A) (F0 m 150 ls [.int t1, .ref t0]) := by
  have hx := hC.1
  have hb := hC.2.1
  intro a0 a1 a2 a3 a6 t0 t1 μ H locs ls hl hw hf
  unfold f_X8_set_L150 at hf
  refine lv_iconst (v := 3) hx hb dX8_set_150 nc_iconst_3 ?_
  obtain ⟨h102, hf⟩ := o_ite hf
  obtain ⟨r104, μ103, h101, hf⟩ := o_bind2 hf
  refine pw_goI hw (pw_runV (As := [.int t1, .int 3]) (rest := []) hC mm_X8_throwsIf tw_1317 (c_X8_throwsIf h101 _) ⟨rfl, rfl, by decide, by decide⟩ hw h102 rfl hl.1 (Nat.le_of_ble_eq_true rfl) ⟨Nat.zero_le _, Nat.zero_le _⟩ rfl dX8_set_151) (fun H locs hw => ?_)
  refine lv_if_eq (tgt := 159) hx hb dX8_set_154 (by decide) (fun c105 => ?_) (fun c105 => ?_)
  · have hf := o_pos c105 hf
    refine lv_iconst (v := 0) hx hb dX8_set_159 nc_iconst_0 ?_
    refine lv_istore (lv' := [(7, .int 0), (0, .ref a0), (1, .int a1), (2, .int a2), (3, .long a3), (6, .int a6)]) hx hb dX8_set_160 hl (by decide) rfl (fun ls hl => ?_)
    exact w_X8_set_L162 hC hr hlocks FU _ _ _ _ _ _ _ _ _ ls (lv_sub hl [1, 2, 3, 4, 5, 0] rfl) hw hf
  · have hf := o_neg c105 hf
    refine lv_iconst (v := 0) hx hb dX8_set_157 nc_iconst_0 ?_
    obtain ⟨rfl, rfl⟩ := o_ret hf
    exact pw_iret hC hr hlocks hw dX8_set_158
def f_X8_set_L139 (cy : Nat → ClassId) (a0 : Nat) (a1 : Int32) (a2 : Int32) (a3 : Int64) (a6 : Int32) (μ : Mem) : Option (Int32 × Mem) :=
  if 0 ≤ a6 then (f_X8_set_L150 cy a0 a1 a2 a3 a6 a0 0 μ) else f_X8_set_L150 cy a0 a1 a2 a3 a6 a0 1 μ
set_option maxRecDepth 100000 in
set_option maxHeartbeats 4000000 in
theorem w_X8_set_L139 {p : Program} {l : Launch} {e : Env} {s : State} {m : MethodId} {args : Array Value} {below : List Frame} {meth : Method} {c : Code} {A : Nat → Prop} {g : Wg} {L : List Nat} {r : Int32} {μ' : Mem} (hC : CX p m c cX8_set 8 s args RX8) (hr : meth.sig.returnType = (some .int)) (hlocks : meth.locks = false) : ∀ (a0 : Nat) (a1 : Int32) (a2 : Int32) (a3 : Int64) (a6 : Int32) (μ : Mem) (H : Heap) (locs : List Loc) (ls : Array Slot), lv_has ls 8 [(0, .ref a0), (1, .int a1), (2, .int a2), (3, .long a3), (6, .int a6)] → PW g L μ A s H locs → f_X8_set_L139 g.2 a0 a1 a2 a3 a6 μ = some (r, μ') → W p l e rm_X8_set s m args below meth c H locs 0 0 (MQ below (QI g L A r μ') args s 0 0 A) (F0 m 139 ls []) := by
  have hx := hC.1
  have hb := hC.2.1
  intro a0 a1 a2 a3 a6 μ H locs ls hl hw hf
  unfold f_X8_set_L139 at hf
  refine lv_aload_n hx hb dX8_set_139 rfl (lv_at hl 0 rfl) ?_
  refine lv_iload hx hb dX8_set_140 (lv_at hl 4 rfl) ?_
  refine lv_if_ge (tgt := 149) hx hb dX8_set_142 (by decide) (fun c101 => ?_) (fun c101 => ?_)
  · have hf := o_pos c101 hf
    refine lv_iconst (v := 0) hx hb dX8_set_149 nc_iconst_0 ?_
    exact w_X8_set_L150 hC hr hlocks _ _ _ _ _ _ _ _ _ _ ls (lv_sub hl [0, 1, 2, 3, 4] rfl) hw hf
  · have hf := o_neg c101 hf
    refine lv_iconst (v := 1) hx hb dX8_set_145 nc_iconst_1 ?_
    refine lv_goto (tgt := 150) hx hb dX8_set_146 (by decide) ?_
    exact w_X8_set_L150 hC hr hlocks _ _ _ _ _ _ _ _ _ _ ls (lv_sub hl [0, 1, 2, 3, 4] rfl) hw hf
def f_X8_set_L94 (cy : Nat → ClassId) (a0 : Nat) (a1 : Int32) (a2 : Int32) (a3 : Int64) (t0 : Int32) (μ : Mem) : Option (Int32 × Mem) :=
  if t0 = 0 then (if isO μ a0 7 = true then (ob2 (f_X8_wrong cy a0 3 0 μ) fun r112 μ111 => f_X8_set_L139 cy a0 a1 a2 a3 r112 μ111) else none) else if a2 = 8 then (if (lg_cmp a3 (0 : Int64)) = 0 then (f_X8_set_L139 cy a0 a1 a2 a3 t0 μ) else if (lg_cmp a3 (1 : Int64)) = 0 then (f_X8_set_L139 cy a0 a1 a2 a3 t0 μ) else if isO μ a0 7 = true then (ob2 (f_X8_wrong cy a0 7 0 μ) fun r108 μ107 => f_X8_set_L139 cy a0 a1 a2 a3 r108 μ107) else none) else f_X8_set_L139 cy a0 a1 a2 a3 t0 μ
set_option maxRecDepth 100000 in
set_option maxHeartbeats 4000000 in
theorem w_X8_set_L94 {p : Program} {l : Launch} {e : Env} {s : State} {m : MethodId} {args : Array Value} {below : List Frame} {meth : Method} {c : Code} {A : Nat → Prop} {g : Wg} {L : List Nat} {r : Int32} {μ' : Mem} (hC : CX p m c cX8_set 8 s args RX8) (hr : meth.sig.returnType = (some .int)) (hlocks : meth.locks = false) : ∀ (a0 : Nat) (a1 : Int32) (a2 : Int32) (a3 : Int64) (t0 : Int32) (μ : Mem) (H : Heap) (locs : List Loc) (ls : Array Slot), lv_has ls 8 [(0, .ref a0), (1, .int a1), (2, .int a2), (3, .long a3)] → PW g L μ A s H locs → f_X8_set_L94 g.2 a0 a1 a2 a3 t0 μ = some (r, μ') → W p l e rm_X8_set s m args below meth c H locs 0 0 (MQ below (QI g L A r μ') args s 0 0 A) (F0 m 94 ls [.int t0]) := by
  have hx := hC.1
  have hb := hC.2.1
  intro a0 a1 a2 a3 t0 μ H locs ls hl hw hf
  unfold f_X8_set_L94 at hf
  refine lv_istore (lv' := [(6, .int t0), (0, .ref a0), (1, .int a1), (2, .int a2), (3, .long a3)]) hx hb dX8_set_94 hl (by decide) rfl (fun ls hl => ?_)
  refine lv_iload hx hb dX8_set_96 (lv_at hl 0 rfl) ?_
  refine lv_if_ne (tgt := 112) hx hb dX8_set_98 (by decide) (fun c101 => ?_) (fun c101 => ?_)
  · have hf := o_neg c101 hf
    refine lv_iload_n hx hb dX8_set_112 rfl (lv_at hl 3 rfl) ?_
    refine lv_bipush (v := 8) hx hb dX8_set_113 nc_bipush_8 ?_
    refine lv_icmp_ne (tgt := 139) hx hb dX8_set_115 (by decide) (fun c102 => ?_) (fun c102 => ?_)
    · have hf := o_neg c102 hf
      exact w_X8_set_L139 hC hr hlocks _ _ _ _ _ _ _ _ ls (lv_sub hl [1, 2, 3, 4, 0] rfl) hw hf
    · have hf := o_pos c102 hf
      refine lv_lload_n hx hb dX8_set_118 rfl (lv_at hl 4 rfl) ?_
      refine lv_lconst (v := 0) hx hb dX8_set_119 (by decide +kernel) ?_
      refine W.lcmp hx hb dX8_set_120 ?_
      refine lv_if_eq (tgt := 139) hx hb dX8_set_121 (by decide) (fun c103 => ?_) (fun c103 => ?_)
      · have hf := o_pos c103 hf
        exact w_X8_set_L139 hC hr hlocks _ _ _ _ _ _ _ _ ls (lv_sub hl [1, 2, 3, 4, 0] rfl) hw hf
      · have hf := o_neg c103 hf
        refine lv_lload_n hx hb dX8_set_124 rfl (lv_at hl 4 rfl) ?_
        refine lv_lconst (v := 1) hx hb dX8_set_125 (by decide +kernel) ?_
        refine W.lcmp hx hb dX8_set_126 ?_
        refine lv_if_eq (tgt := 139) hx hb dX8_set_127 (by decide) (fun c104 => ?_) (fun c104 => ?_)
        · have hf := o_pos c104 hf
          exact w_X8_set_L139 hC hr hlocks _ _ _ _ _ _ _ _ ls (lv_sub hl [1, 2, 3, 4, 0] rfl) hw hf
        · have hf := o_neg c104 hf
          refine lv_aload_n hx hb dX8_set_130 rfl (lv_at hl 1 rfl) ?_
          refine lv_bipush (v := 7) hx hb dX8_set_131 nc_bipush_7 ?_
          refine lv_iconst (v := 0) hx hb dX8_set_133 nc_iconst_0 ?_
          obtain ⟨h106, hf⟩ := o_ite hf
          obtain ⟨r108, μ107, h105, hf⟩ := o_bind2 hf
          refine pw_goI hw (pw_runV (As := [.int 7, .int 0]) (rest := []) hC mm_X8_wrong tw_1237 (c_X8_wrong h105 _) ⟨rfl, rfl, by decide, by decide⟩ hw h106 rfl hl.1 (Nat.le_of_ble_eq_true rfl) ⟨Nat.zero_le _, Nat.zero_le _⟩ rfl dX8_set_134) (fun H locs hw => ?_)
          refine lv_istore (lv' := [(6, .int r108), (0, .ref a0), (1, .int a1), (2, .int a2), (3, .long a3)]) hx hb dX8_set_137 hl (by decide) rfl (fun ls hl => ?_)
          exact w_X8_set_L139 hC hr hlocks _ _ _ _ _ _ _ _ ls (lv_sub hl [1, 2, 3, 4, 0] rfl) hw hf
  · have hf := o_pos c101 hf
    refine lv_aload_n hx hb dX8_set_101 rfl (lv_at hl 1 rfl) ?_
    refine lv_iconst (v := 3) hx hb dX8_set_102 nc_iconst_3 ?_
    refine lv_iconst (v := 0) hx hb dX8_set_103 nc_iconst_0 ?_
    obtain ⟨h110, hf⟩ := o_ite hf
    obtain ⟨r112, μ111, h109, hf⟩ := o_bind2 hf
    refine pw_goI hw (pw_runV (As := [.int 3, .int 0]) (rest := []) hC mm_X8_wrong tw_1237 (c_X8_wrong h109 _) ⟨rfl, rfl, by decide, by decide⟩ hw h110 rfl hl.1 (Nat.le_of_ble_eq_true rfl) ⟨Nat.zero_le _, Nat.zero_le _⟩ rfl dX8_set_104) (fun H locs hw => ?_)
    refine lv_istore (lv' := [(6, .int r112), (0, .ref a0), (1, .int a1), (2, .int a2), (3, .long a3)]) hx hb dX8_set_107 hl (by decide) rfl (fun ls hl => ?_)
    refine lv_goto (tgt := 139) hx hb dX8_set_109 (by decide) ?_
    exact w_X8_set_L139 hC hr hlocks _ _ _ _ _ _ _ _ ls (lv_sub hl [1, 2, 3, 4, 0] rfl) hw hf
def f_X8_set_L68 (cy : Nat → ClassId) (a0 : Nat) (a1 : Int32) (a2 : Int32) (a3 : Int64) (μ : Mem) : Option (Int32 × Mem) :=
  f_X8_set_L94 cy a0 a1 a2 a3 8 μ
set_option maxRecDepth 100000 in
set_option maxHeartbeats 4000000 in
theorem w_X8_set_L68 {p : Program} {l : Launch} {e : Env} {s : State} {m : MethodId} {args : Array Value} {below : List Frame} {meth : Method} {c : Code} {A : Nat → Prop} {g : Wg} {L : List Nat} {r : Int32} {μ' : Mem} (hC : CX p m c cX8_set 8 s args RX8) (hr : meth.sig.returnType = (some .int)) (hlocks : meth.locks = false) : ∀ (a0 : Nat) (a1 : Int32) (a2 : Int32) (a3 : Int64) (μ : Mem) (H : Heap) (locs : List Loc) (ls : Array Slot), lv_has ls 8 [(0, .ref a0), (1, .int a1), (2, .int a2), (3, .long a3)] → PW g L μ A s H locs → f_X8_set_L68 g.2 a0 a1 a2 a3 μ = some (r, μ') → W p l e rm_X8_set s m args below meth c H locs 0 0 (MQ below (QI g L A r μ') args s 0 0 A) (F0 m 68 ls []) := by
  have hx := hC.1
  have hb := hC.2.1
  intro a0 a1 a2 a3 μ H locs ls hl hw hf
  unfold f_X8_set_L68 at hf
  refine lv_bipush (v := 8) hx hb dX8_set_68 nc_bipush_8 ?_
  refine lv_goto (tgt := 94) hx hb dX8_set_70 (by decide) ?_
  exact w_X8_set_L94 hC hr hlocks _ _ _ _ _ _ _ _ ls (lv_sub hl [0, 1, 2, 3] rfl) hw hf
def f_X8_set_L25 (cy : Nat → ClassId) (a0 : Nat) (a1 : Int32) (a2 : Int32) (a3 : Int64) (t0 : Nat) (t1 : Int32) (μ : Mem) : Option (Int32 × Mem) :=
  if isO μ t0 7 = true then (ob2 (f_X8_throwsIf cy t0 t1 2 μ) fun r104 μ103 => if r104 = 0 then (if isO μ103 a0 7 = true then (ob2 (f_X8_changes cy a0 a1 μ103) fun r109 μ108 => if isO μ108 a0 7 = true then ((f_X8_judges cy a0 μ108).bind fun μ112 => if a2 = 1 then (f_X8_set_L68 cy a0 a1 a2 a3 μ112) else if a2 = 9 then (f_X8_set_L68 cy a0 a1 a2 a3 μ112) else if a2 = 17 then (f_X8_set_L68 cy a0 a1 a2 a3 μ112) else if a2 = 18 then (f_X8_set_L68 cy a0 a1 a2 a3 μ112) else if a2 = 8 then (f_X8_set_L94 cy a0 a1 a2 a3 1 μ112) else if a2 = 16 then (f_X8_set_L94 cy a0 a1 a2 a3 4 μ112) else f_X8_set_L94 cy a0 a1 a2 a3 0 μ112) else none) else none) else some (0, μ103)) else none
set_option maxRecDepth 100000 in
set_option maxHeartbeats 4000000 in
theorem w_X8_set_L25 {p : Program} {l : Launch} {e : Env} {s : State} {m : MethodId} {args : Array Value} {below : List Frame} {meth : Method} {c : Code} {A : Nat → Prop} {g : Wg} {L : List Nat} {r : Int32} {μ' : Mem} (hC : CX p m c cX8_set 8 s args RX8) (hr : meth.sig.returnType = (some .int)) (hlocks : meth.locks = false) : ∀ (a0 : Nat) (a1 : Int32) (a2 : Int32) (a3 : Int64) (t0 : Nat) (t1 : Int32) (μ : Mem) (H : Heap) (locs : List Loc) (ls : Array Slot), lv_has ls 8 [(0, .ref a0), (1, .int a1), (2, .int a2), (3, .long a3)] → PW g L μ A s H locs → f_X8_set_L25 g.2 a0 a1 a2 a3 t0 t1 μ = some (r, μ') → W p l e rm_X8_set s m args below meth c H locs 0 0 (MQ below (QI g L A r μ') args s 0 0 A) (F0 m 25 ls [.int t1, .ref t0]) := by
  have hx := hC.1
  have hb := hC.2.1
  intro a0 a1 a2 a3 t0 t1 μ H locs ls hl hw hf
  unfold f_X8_set_L25 at hf
  refine lv_iconst (v := 2) hx hb dX8_set_25 nc_iconst_2 ?_
  obtain ⟨h102, hf⟩ := o_ite hf
  obtain ⟨r104, μ103, h101, hf⟩ := o_bind2 hf
  refine pw_goI hw (pw_runV (As := [.int t1, .int 2]) (rest := []) hC mm_X8_throwsIf tw_1317 (c_X8_throwsIf h101 _) ⟨rfl, rfl, by decide, by decide⟩ hw h102 rfl hl.1 (Nat.le_of_ble_eq_true rfl) ⟨Nat.zero_le _, Nat.zero_le _⟩ rfl dX8_set_26) (fun H locs hw => ?_)
  refine lv_if_eq (tgt := 34) hx hb dX8_set_29 (by decide) (fun c105 => ?_) (fun c105 => ?_)
  · have hf := o_pos c105 hf
    refine lv_aload_n hx hb dX8_set_34 rfl (lv_at hl 0 rfl) ?_
    refine lv_iload_n hx hb dX8_set_35 rfl (lv_at hl 1 rfl) ?_
    obtain ⟨h107, hf⟩ := o_ite hf
    obtain ⟨r109, μ108, h106, hf⟩ := o_bind2 hf
    refine pw_goI hw (pw_runV (As := [.int a1]) (rest := []) hC mm_X8_changes tw_1414 (c_X8_changes h106 _) ⟨rfl, rfl, by decide, by decide⟩ hw h107 rfl hl.1 (Nat.le_of_ble_eq_true rfl) ⟨Nat.zero_le _, Nat.zero_le _⟩ rfl dX8_set_36) (fun H locs hw => ?_)
    refine lv_istore (lv' := [(5, .int r109), (0, .ref a0), (1, .int a1), (2, .int a2), (3, .long a3)]) hx hb dX8_set_39 hl (by decide) rfl (fun ls hl => ?_)
    refine lv_aload_n hx hb dX8_set_41 rfl (lv_at hl 1 rfl) ?_
    obtain ⟨h111, hf⟩ := o_ite hf
    obtain ⟨μ112, h110, hf⟩ := o_bind hf
    refine pw_goV hw (pw_runV (As := []) (rest := []) hC mm_X8_judges tw_1229 (c_X8_judges h110 _) ⟨rfl, rfl, by decide, by decide⟩ hw h111 rfl hl.1 (Nat.le_of_ble_eq_true rfl) ⟨Nat.zero_le _, Nat.zero_le _⟩ rfl dX8_set_42) (fun H locs hw => ?_)
    refine lv_iload_n hx hb dX8_set_45 rfl (lv_at hl 3 rfl) ?_
    refine lv_iconst (v := 1) hx hb dX8_set_46 nc_iconst_1 ?_
    refine lv_icmp_eq (tgt := 68) hx hb dX8_set_47 (by decide) (fun c113 => ?_) (fun c113 => ?_)
    · have hf := o_pos c113 hf
      exact w_X8_set_L68 hC hr hlocks _ _ _ _ _ _ _ ls (lv_sub hl [1, 2, 3, 4] rfl) hw hf
    · have hf := o_neg c113 hf
      refine lv_iload_n hx hb dX8_set_50 rfl (lv_at hl 3 rfl) ?_
      refine lv_bipush (v := 9) hx hb dX8_set_51 nc_bipush_9 ?_
      refine lv_icmp_eq (tgt := 68) hx hb dX8_set_53 (by decide) (fun c114 => ?_) (fun c114 => ?_)
      · have hf := o_pos c114 hf
        exact w_X8_set_L68 hC hr hlocks _ _ _ _ _ _ _ ls (lv_sub hl [1, 2, 3, 4] rfl) hw hf
      · have hf := o_neg c114 hf
        refine lv_iload_n hx hb dX8_set_56 rfl (lv_at hl 3 rfl) ?_
        refine lv_bipush (v := 17) hx hb dX8_set_57 nc_bipush_17 ?_
        refine lv_icmp_eq (tgt := 68) hx hb dX8_set_59 (by decide) (fun c115 => ?_) (fun c115 => ?_)
        · have hf := o_pos c115 hf
          exact w_X8_set_L68 hC hr hlocks _ _ _ _ _ _ _ ls (lv_sub hl [1, 2, 3, 4] rfl) hw hf
        · have hf := o_neg c115 hf
          refine lv_iload_n hx hb dX8_set_62 rfl (lv_at hl 3 rfl) ?_
          refine lv_bipush (v := 18) hx hb dX8_set_63 nc_bipush_18 ?_
          refine lv_icmp_ne (tgt := 73) hx hb dX8_set_65 (by decide) (fun c116 => ?_) (fun c116 => ?_)
          · have hf := o_neg c116 hf
            refine lv_iload_n hx hb dX8_set_73 rfl (lv_at hl 3 rfl) ?_
            refine lv_bipush (v := 8) hx hb dX8_set_74 nc_bipush_8 ?_
            refine lv_icmp_ne (tgt := 83) hx hb dX8_set_76 (by decide) (fun c117 => ?_) (fun c117 => ?_)
            · have hf := o_neg c117 hf
              refine lv_iload_n hx hb dX8_set_83 rfl (lv_at hl 3 rfl) ?_
              refine lv_bipush (v := 16) hx hb dX8_set_84 nc_bipush_16 ?_
              refine lv_icmp_ne (tgt := 93) hx hb dX8_set_86 (by decide) (fun c118 => ?_) (fun c118 => ?_)
              · have hf := o_neg c118 hf
                refine lv_iconst (v := 0) hx hb dX8_set_93 nc_iconst_0 ?_
                exact w_X8_set_L94 hC hr hlocks _ _ _ _ _ _ _ _ ls (lv_sub hl [1, 2, 3, 4] rfl) hw hf
              · have hf := o_pos c118 hf
                refine lv_iconst (v := 4) hx hb dX8_set_89 nc_iconst_4 ?_
                refine lv_goto (tgt := 94) hx hb dX8_set_90 (by decide) ?_
                exact w_X8_set_L94 hC hr hlocks _ _ _ _ _ _ _ _ ls (lv_sub hl [1, 2, 3, 4] rfl) hw hf
            · have hf := o_pos c117 hf
              refine lv_iconst (v := 1) hx hb dX8_set_79 nc_iconst_1 ?_
              refine lv_goto (tgt := 94) hx hb dX8_set_80 (by decide) ?_
              exact w_X8_set_L94 hC hr hlocks _ _ _ _ _ _ _ _ ls (lv_sub hl [1, 2, 3, 4] rfl) hw hf
          · have hf := o_pos c116 hf
            exact w_X8_set_L68 hC hr hlocks _ _ _ _ _ _ _ ls (lv_sub hl [1, 2, 3, 4] rfl) hw hf
  · have hf := o_neg c105 hf
    refine lv_iconst (v := 0) hx hb dX8_set_32 nc_iconst_0 ?_
    obtain ⟨rfl, rfl⟩ := o_ret hf
    exact pw_iret hC hr hlocks hw dX8_set_33
def f_X8_set (cy : Nat → ClassId) (a0 : Nat) (a1 : Int32) (a2 : Int32) (a3 : Int64) (μ : Mem) : Option (Int32 × Mem) :=
  if isO μ a0 7 = true then (ob2 (f_X8_noShelf cy a0 a1 μ) fun r4 μ3 => if r4 = 0 then ((rdR μ3 a0 7 9).bind fun q6 => (rdA cy μ3 1 q6 a1).bind fun v8 => if 0 ≤ v8 then (f_X8_set_L25 cy a0 a1 a2 a3 a0 0 μ3) else f_X8_set_L25 cy a0 a1 a2 a3 a0 1 μ3) else some (0, μ3)) else none
set_option maxRecDepth 100000 in
set_option maxHeartbeats 4000000 in
theorem c_X8_set {l : Launch} {g : Wg} {L : List Nat} {μ : Mem} {a0 : Nat} {a1 : Int32} {a2 : Int32} {a3 : Int64} {r : Int32} {μ' : Mem} (hf : f_X8_set g.2 a0 a1 a2 a3 μ = some (r, μ')) : MetI l yX8_set cX8_set 8 (some .int) rm_X8_set g L μ [.ref a0, .int a1, .int a2, .long a3] r μ' := by
  refine pw_met (Qc := fun A => QI g L A r μ') (by decide) (Nat.le_of_ble_eq_true rfl) ?_
  intro p e s m args below meth c A ls H locs hC hr hlocks hl hw
  have hx := hC.1
  have hb := hC.2.1
  have hl : lv_has ls 8 [(0, .ref a0), (1, .int a1), (2, .int a2), (3, .long a3)] := hl
  unfold f_X8_set at hf
  refine lv_aload_n hx hb dX8_set_0 rfl (lv_at hl 0 rfl) ?_
  refine lv_iload_n hx hb dX8_set_1 rfl (lv_at hl 1 rfl) ?_
  obtain ⟨h2, hf⟩ := o_ite hf
  obtain ⟨r4, μ3, h1, hf⟩ := o_bind2 hf
  refine pw_goI hw (pw_runV (As := [.int a1]) (rest := []) hC mm_X8_noShelf tw_1313 (c_X8_noShelf h1 _) ⟨rfl, rfl, by decide, by decide⟩ hw h2 rfl hl.1 (Nat.le_of_ble_eq_true rfl) ⟨Nat.zero_le _, Nat.zero_le _⟩ rfl dX8_set_2) (fun H locs hw => ?_)
  refine lv_if_eq (tgt := 10) hx hb dX8_set_5 (by decide) (fun c5 => ?_) (fun c5 => ?_)
  · have hf := o_pos c5 hf
    refine lv_aload_n hx hb dX8_set_10 rfl (lv_at hl 0 rfl) ?_
    refine lv_aload_n hx hb dX8_set_11 rfl (lv_at hl 0 rfl) ?_
    obtain ⟨q6, h7, hf⟩ := o_bind hf
    refine pw_get hC fl_X8_37 hw (rdR_F h7) dX8_set_12 ?_
    refine lv_iload_n hx hb dX8_set_15 rfl (lv_at hl 1 rfl) ?_
    obtain ⟨v8, h9, hf⟩ := o_bind hf
    refine pw_iald hC hw h9 dX8_set_16 ?_
    refine lv_if_ge (tgt := 24) hx hb dX8_set_17 (by decide) (fun c10 => ?_) (fun c10 => ?_)
    · have hf := o_pos c10 hf
      refine lv_iconst (v := 0) hx hb dX8_set_24 nc_iconst_0 ?_
      exact w_X8_set_L25 hC hr hlocks _ _ _ _ _ _ _ _ _ ls (lv_sub hl [0, 1, 2, 3] rfl) hw hf
    · have hf := o_neg c10 hf
      refine lv_iconst (v := 1) hx hb dX8_set_20 nc_iconst_1 ?_
      refine lv_goto (tgt := 25) hx hb dX8_set_21 (by decide) ?_
      exact w_X8_set_L25 hC hr hlocks _ _ _ _ _ _ _ _ _ ls (lv_sub hl [0, 1, 2, 3] rfl) hw hf
  · have hf := o_neg c5 hf
    refine lv_iconst (v := 0) hx hb dX8_set_8 nc_iconst_0 ?_
    obtain ⟨rfl, rfl⟩ := o_ret hf
    exact pw_iret hC hr hlocks hw dX8_set_9
theorem dX8_adds_0 : decode cX8_adds 0 = .ok (.aload_n 0, 1) := by decide +kernel
theorem dX8_adds_1 : decode cX8_adds 1 = .ok (.getfield 40, 3) := by decide +kernel
theorem dX8_adds_4 : decode cX8_adds 4 = .ok (.aload_n 0, 1) := by decide +kernel
theorem dX8_adds_5 : decode cX8_adds 5 = .ok (.getfield 351, 3) := by decide +kernel
theorem dX8_adds_8 : decode cX8_adds 8 = .ok (.iload_n 1, 1) := by decide +kernel
theorem dX8_adds_9 : decode cX8_adds 9 = .ok (.i2b, 1) := by decide +kernel
theorem dX8_adds_10 : decode cX8_adds 10 = .ok (.bastore, 1) := by decide +kernel
theorem dX8_adds_11 : decode cX8_adds 11 = .ok (.aload_n 0, 1) := by decide +kernel
theorem dX8_adds_12 : decode cX8_adds 12 = .ok (.dup, 1) := by decide +kernel
theorem dX8_adds_13 : decode cX8_adds 13 = .ok (.getfield 351, 3) := by decide +kernel
theorem dX8_adds_16 : decode cX8_adds 16 = .ok (.iconst 1, 1) := by decide +kernel
theorem dX8_adds_17 : decode cX8_adds 17 = .ok (.iadd, 1) := by decide +kernel
theorem dX8_adds_18 : decode cX8_adds 18 = .ok (.putfield 351, 3) := by decide +kernel
theorem dX8_adds_21 : decode cX8_adds 21 = .ok (.return_, 1) := by decide +kernel
abbrev rm_X8_adds : Room := { frames := 0, cells := 0, slots := 0, locals := 0 }
def f_X8_adds (cy : Nat → ClassId) (a0 : Nat) (a1 : Int32) (μ : Mem) : Option Mem :=
  (rdR μ a0 7 10).bind fun q1 => (rdI μ a0 7 11).bind fun v3 => (wrA cy μ 0 q1 v3 (vp_nar .byte ((Int32.toInt8 a1).toInt32))).bind fun μ5 => (rdI μ5 a0 7 11).bind fun v7 => (wrF μ5 a0 7 11 (.int (v7 + 1))).bind fun μ9 => some μ9
set_option maxRecDepth 100000 in
set_option maxHeartbeats 4000000 in
theorem c_X8_adds {l : Launch} {g : Wg} {L : List Nat} {μ : Mem} {a0 : Nat} {a1 : Int32} {μ' : Mem} (hf : f_X8_adds g.2 a0 a1 μ = some μ') : MetV l yX8_adds cX8_adds 2 none rm_X8_adds g L μ [.ref a0, .int a1] μ' := by
  refine pw_met (Qc := fun A => QV g L A μ') (by decide) (Nat.le_of_ble_eq_true rfl) ?_
  intro p e s m args below meth c A ls H locs hC hr hlocks hl hw
  have hx := hC.1
  have hb := hC.2.1
  have hl : lv_has ls 2 [(0, .ref a0), (1, .int a1)] := hl
  unfold f_X8_adds at hf
  refine lv_aload_n hx hb dX8_adds_0 rfl (lv_at hl 0 rfl) ?_
  obtain ⟨q1, h2, hf⟩ := o_bind hf
  refine pw_get hC fl_X8_40 hw (rdR_F h2) dX8_adds_1 ?_
  refine lv_aload_n hx hb dX8_adds_4 rfl (lv_at hl 0 rfl) ?_
  obtain ⟨v3, h4, hf⟩ := o_bind hf
  refine pw_get hC fl_X8_351 hw (rdI_F h4) dX8_adds_5 ?_
  refine lv_iload_n hx hb dX8_adds_8 rfl (lv_at hl 1 rfl) ?_
  refine lv_i2b hx hb dX8_adds_9 rfl ?_
  obtain ⟨μ5, h6, hf⟩ := o_bind hf
  refine pw_bast hC hw h6 dX8_adds_10 (fun H locs hw => ?_)
  refine lv_aload_n hx hb dX8_adds_11 rfl (lv_at hl 0 rfl) ?_
  refine lv_dup hx hb dX8_adds_12 rfl ?_
  obtain ⟨v7, h8, hf⟩ := o_bind hf
  refine pw_get hC fl_X8_351 hw (rdI_F h8) dX8_adds_13 ?_
  refine lv_iconst (v := 1) hx hb dX8_adds_16 nc_iconst_1 ?_
  refine lv_iadd hx hb dX8_adds_17 ?_
  obtain ⟨μ9, h10, hf⟩ := o_bind hf
  refine pw_put hC fl_X8_351 hw h10 .int fd_X8_11 rfl rfl dX8_adds_18 (fun H locs hw => ?_)
  obtain rfl := o_retv hf
  exact pw_vret hC hr hlocks hw dX8_adds_21
theorem dX8_headSize_0 : decode cX8_headSize 0 = .ok (.iconst 1, 1) := by decide +kernel
theorem dX8_headSize_1 : decode cX8_headSize 1 = .ok (.aload_n 0, 1) := by decide +kernel
theorem dX8_headSize_2 : decode cX8_headSize 2 = .ok (.getfield 46, 3) := by decide +kernel
theorem dX8_headSize_5 : decode cX8_headSize 5 = .ok (.aload_n 0, 1) := by decide +kernel
theorem dX8_headSize_6 : decode cX8_headSize 6 = .ok (.getfield 354, 3) := by decide +kernel
theorem dX8_headSize_9 : decode cX8_headSize 9 = .ok (.iconst 1, 1) := by decide +kernel
theorem dX8_headSize_10 : decode cX8_headSize 10 = .ok (.isub, 1) := by decide +kernel
theorem dX8_headSize_11 : decode cX8_headSize 11 = .ok (.iaload, 1) := by decide +kernel
theorem dX8_headSize_12 : decode cX8_headSize 12 = .ok (.iconst 4, 1) := by decide +kernel
theorem dX8_headSize_13 : decode cX8_headSize 13 = .ok (.if_icmp .ne 23, 3) := by decide +kernel
theorem dX8_headSize_16 : decode cX8_headSize 16 = .ok (.aload_n 0, 1) := by decide +kernel
theorem dX8_headSize_17 : decode cX8_headSize 17 = .ok (.aload_n 0, 1) := by decide +kernel
theorem dX8_headSize_18 : decode cX8_headSize 18 = .ok (.getfield 49, 3) := by decide +kernel
theorem dX8_headSize_21 : decode cX8_headSize 21 = .ok (.aload_n 0, 1) := by decide +kernel
theorem dX8_headSize_22 : decode cX8_headSize 22 = .ok (.getfield 354, 3) := by decide +kernel
theorem dX8_headSize_25 : decode cX8_headSize 25 = .ok (.iconst 1, 1) := by decide +kernel
theorem dX8_headSize_26 : decode cX8_headSize 26 = .ok (.isub, 1) := by decide +kernel
theorem dX8_headSize_27 : decode cX8_headSize 27 = .ok (.iaload, 1) := by decide +kernel
theorem dX8_headSize_28 : decode cX8_headSize 28 = .ok (.invokevirtual 131, 3) := by decide +kernel
theorem dX8_headSize_31 : decode cX8_headSize 31 = .ok (.iconst 1, 1) := by decide +kernel
theorem dX8_headSize_32 : decode cX8_headSize 32 = .ok (.iadd, 1) := by decide +kernel
theorem dX8_headSize_33 : decode cX8_headSize 33 = .ok (.goto 7, 3) := by decide +kernel
theorem dX8_headSize_36 : decode cX8_headSize 36 = .ok (.aload_n 0, 1) := by decide +kernel
theorem dX8_headSize_37 : decode cX8_headSize 37 = .ok (.getfield 339, 3) := by decide +kernel
theorem dX8_headSize_40 : decode cX8_headSize 40 = .ok (.iadd, 1) := by decide +kernel
theorem dX8_headSize_41 : decode cX8_headSize 41 = .ok (.ireturn, 1) := by decide +kernel
abbrev rm_X8_headSize : Room := { frames := 1, cells := 0, slots := 0, locals := 24 }
def f_X8_headSize_L40 (cy : Nat → ClassId) (t0 : Int32) (t1 : Int32) (μ : Mem) : Option (Int32 × Mem) :=
  some ((t0 + t1), μ)
set_option maxRecDepth 100000 in
set_option maxHeartbeats 4000000 in
theorem w_X8_headSize_L40 {p : Program} {l : Launch} {e : Env} {s : State} {m : MethodId} {args : Array Value} {below : List Frame} {meth : Method} {c : Code} {A : Nat → Prop} {g : Wg} {L : List Nat} {r : Int32} {μ' : Mem} (hC : CX p m c cX8_headSize 1 s args RX8) (hr : meth.sig.returnType = (some .int)) (hlocks : meth.locks = false) : ∀ (t0 : Int32) (t1 : Int32) (μ : Mem) (H : Heap) (locs : List Loc) (ls : Array Slot), lv_has ls 1 [] → PW g L μ A s H locs → f_X8_headSize_L40 g.2 t0 t1 μ = some (r, μ') → W p l e rm_X8_headSize s m args below meth c H locs 0 0 (MQ below (QI g L A r μ') args s 0 0 A) (F0 m 40 ls [.int t1, .int t0]) := by
  have hx := hC.1
  have hb := hC.2.1
  intro t0 t1 μ H locs ls hl hw hf
  unfold f_X8_headSize_L40 at hf
  refine lv_iadd hx hb dX8_headSize_40 ?_
  obtain ⟨rfl, rfl⟩ := o_ret hf
  exact pw_iret hC hr hlocks hw dX8_headSize_41
def f_X8_headSize (cy : Nat → ClassId) (a0 : Nat) (μ : Mem) : Option (Int32 × Mem) :=
  (rdR μ a0 7 15).bind fun q1 => (rdI μ a0 7 13).bind fun v3 => (rdA cy μ 1 q1 (v3 - 1)).bind fun v5 => if v5 = 4 then ((rdR μ a0 7 16).bind fun q10 => (rdI μ a0 7 13).bind fun v12 => (rdA cy μ 1 q10 (v12 - 1)).bind fun v14 => if isO μ a0 7 = true then (ob2 (f_X8_decimals cy a0 v14 μ) fun r19 μ18 => f_X8_headSize_L40 cy 1 (r19 + 1) μ18) else none) else (rdI μ a0 7 42).bind fun v8 => f_X8_headSize_L40 cy 1 v8 μ
set_option maxRecDepth 100000 in
set_option maxHeartbeats 4000000 in
theorem c_X8_headSize {l : Launch} {g : Wg} {L : List Nat} {μ : Mem} {a0 : Nat} {r : Int32} {μ' : Mem} (hf : f_X8_headSize g.2 a0 μ = some (r, μ')) : MetI l yX8_headSize cX8_headSize 1 (some .int) rm_X8_headSize g L μ [.ref a0] r μ' := by
  refine pw_met (Qc := fun A => QI g L A r μ') (by decide) (Nat.le_of_ble_eq_true rfl) ?_
  intro p e s m args below meth c A ls H locs hC hr hlocks hl hw
  have hx := hC.1
  have hb := hC.2.1
  have hl : lv_has ls 1 [(0, .ref a0)] := hl
  unfold f_X8_headSize at hf
  refine lv_iconst (v := 1) hx hb dX8_headSize_0 nc_iconst_1 ?_
  refine lv_aload_n hx hb dX8_headSize_1 rfl (lv_at hl 0 rfl) ?_
  obtain ⟨q1, h2, hf⟩ := o_bind hf
  refine pw_get hC fl_X8_46 hw (rdR_F h2) dX8_headSize_2 ?_
  refine lv_aload_n hx hb dX8_headSize_5 rfl (lv_at hl 0 rfl) ?_
  obtain ⟨v3, h4, hf⟩ := o_bind hf
  refine pw_get hC fl_X8_354 hw (rdI_F h4) dX8_headSize_6 ?_
  refine lv_iconst (v := 1) hx hb dX8_headSize_9 nc_iconst_1 ?_
  refine lv_isub hx hb dX8_headSize_10 ?_
  obtain ⟨v5, h6, hf⟩ := o_bind hf
  refine pw_iald hC hw h6 dX8_headSize_11 ?_
  refine lv_iconst (v := 4) hx hb dX8_headSize_12 nc_iconst_4 ?_
  refine lv_icmp_ne (tgt := 36) hx hb dX8_headSize_13 (by decide) (fun c7 => ?_) (fun c7 => ?_)
  · have hf := o_neg c7 hf
    refine lv_aload_n hx hb dX8_headSize_36 rfl (lv_at hl 0 rfl) ?_
    obtain ⟨v8, h9, hf⟩ := o_bind hf
    refine pw_get hC fl_X8_339 hw (rdI_F h9) dX8_headSize_37 ?_
    exact w_X8_headSize_L40 hC hr hlocks _ _ _ _ _ ls (lv_sub hl [] rfl) hw hf
  · have hf := o_pos c7 hf
    refine lv_aload_n hx hb dX8_headSize_16 rfl (lv_at hl 0 rfl) ?_
    refine lv_aload_n hx hb dX8_headSize_17 rfl (lv_at hl 0 rfl) ?_
    obtain ⟨q10, h11, hf⟩ := o_bind hf
    refine pw_get hC fl_X8_49 hw (rdR_F h11) dX8_headSize_18 ?_
    refine lv_aload_n hx hb dX8_headSize_21 rfl (lv_at hl 0 rfl) ?_
    obtain ⟨v12, h13, hf⟩ := o_bind hf
    refine pw_get hC fl_X8_354 hw (rdI_F h13) dX8_headSize_22 ?_
    refine lv_iconst (v := 1) hx hb dX8_headSize_25 nc_iconst_1 ?_
    refine lv_isub hx hb dX8_headSize_26 ?_
    obtain ⟨v14, h15, hf⟩ := o_bind hf
    refine pw_iald hC hw h15 dX8_headSize_27 ?_
    obtain ⟨h17, hf⟩ := o_ite hf
    obtain ⟨r19, μ18, h16, hf⟩ := o_bind2 hf
    refine pw_goI hw (pw_runV (As := [.int v14]) (rest := [.int 1]) hC mm_X8_decimals tw_1267 (c_X8_decimals h16 _) ⟨rfl, rfl, by decide, by decide⟩ hw h17 rfl hl.1 (Nat.le_of_ble_eq_true rfl) ⟨Nat.zero_le _, Nat.zero_le _⟩ rfl dX8_headSize_28) (fun H locs hw => ?_)
    refine lv_iconst (v := 1) hx hb dX8_headSize_31 nc_iconst_1 ?_
    refine lv_iadd hx hb dX8_headSize_32 ?_
    refine lv_goto (tgt := 40) hx hb dX8_headSize_33 (by decide) ?_
    exact w_X8_headSize_L40 hC hr hlocks _ _ _ _ _ ls (lv_sub hl [] rfl) hw hf
theorem dX8_isOpening_0 : decode cX8_isOpening 0 = .ok (.aload_n 0, 1) := by decide +kernel
theorem dX8_isOpening_1 : decode cX8_isOpening 1 = .ok (.iconst 0, 1) := by decide +kernel
theorem dX8_isOpening_2 : decode cX8_isOpening 2 = .ok (.putfield 339, 3) := by decide +kernel
theorem dX8_isOpening_5 : decode cX8_isOpening 5 = .ok (.iload_n 1, 1) := by decide +kernel
theorem dX8_isOpening_6 : decode cX8_isOpening 6 = .ok (.iconst 3, 1) := by decide +kernel
theorem dX8_isOpening_7 : decode cX8_isOpening 7 = .ok (.if_icmp .eq 23, 3) := by decide +kernel
theorem dX8_isOpening_10 : decode cX8_isOpening 10 = .ok (.iload_n 1, 1) := by decide +kernel
theorem dX8_isOpening_11 : decode cX8_isOpening 11 = .ok (.iconst 4, 1) := by decide +kernel
theorem dX8_isOpening_12 : decode cX8_isOpening 12 = .ok (.if_icmp .eq 18, 3) := by decide +kernel
theorem dX8_isOpening_15 : decode cX8_isOpening 15 = .ok (.iload_n 1, 1) := by decide +kernel
theorem dX8_isOpening_16 : decode cX8_isOpening 16 = .ok (.bipush 15, 2) := by decide +kernel
theorem dX8_isOpening_18 : decode cX8_isOpening 18 = .ok (.if_icmp .eq 12, 3) := by decide +kernel
theorem dX8_isOpening_21 : decode cX8_isOpening 21 = .ok (.aload_n 0, 1) := by decide +kernel
theorem dX8_isOpening_22 : decode cX8_isOpening 22 = .ok (.iconst 3, 1) := by decide +kernel
theorem dX8_isOpening_23 : decode cX8_isOpening 23 = .ok (.iconst 0, 1) := by decide +kernel
theorem dX8_isOpening_24 : decode cX8_isOpening 24 = .ok (.invokevirtual 109, 3) := by decide +kernel
theorem dX8_isOpening_27 : decode cX8_isOpening 27 = .ok (.pop, 1) := by decide +kernel
theorem dX8_isOpening_28 : decode cX8_isOpening 28 = .ok (.iconst 0, 1) := by decide +kernel
theorem dX8_isOpening_29 : decode cX8_isOpening 29 = .ok (.ireturn, 1) := by decide +kernel
theorem dX8_isOpening_30 : decode cX8_isOpening 30 = .ok (.aload_n 0, 1) := by decide +kernel
theorem dX8_isOpening_31 : decode cX8_isOpening 31 = .ok (.getfield 46, 3) := by decide +kernel
theorem dX8_isOpening_34 : decode cX8_isOpening 34 = .ok (.aload_n 0, 1) := by decide +kernel
theorem dX8_isOpening_35 : decode cX8_isOpening 35 = .ok (.getfield 354, 3) := by decide +kernel
theorem dX8_isOpening_38 : decode cX8_isOpening 38 = .ok (.iconst 1, 1) := by decide +kernel
theorem dX8_isOpening_39 : decode cX8_isOpening 39 = .ok (.isub, 1) := by decide +kernel
theorem dX8_isOpening_40 : decode cX8_isOpening 40 = .ok (.iaload, 1) := by decide +kernel
theorem dX8_isOpening_41 : decode cX8_isOpening 41 = .ok (.iconst 4, 1) := by decide +kernel
theorem dX8_isOpening_42 : decode cX8_isOpening 42 = .ok (.if_icmp .eq 17, 3) := by decide +kernel
theorem dX8_isOpening_45 : decode cX8_isOpening 45 = .ok (.aload_n 0, 1) := by decide +kernel
theorem dX8_isOpening_46 : decode cX8_isOpening 46 = .ok (.aload_n 0, 1) := by decide +kernel
theorem dX8_isOpening_47 : decode cX8_isOpening 47 = .ok (.iconst 0, 1) := by decide +kernel
theorem dX8_isOpening_48 : decode cX8_isOpening 48 = .ok (.aload_n 0, 1) := by decide +kernel
theorem dX8_isOpening_49 : decode cX8_isOpening 49 = .ok (.getfield 103, 3) := by decide +kernel
theorem dX8_isOpening_52 : decode cX8_isOpening 52 = .ok (.iconst (-1), 1) := by decide +kernel
theorem dX8_isOpening_53 : decode cX8_isOpening 53 = .ok (.invokevirtual 149, 3) := by decide +kernel
theorem dX8_isOpening_56 : decode cX8_isOpening 56 = .ok (.putfield 339, 3) := by decide +kernel
theorem dX8_isOpening_59 : decode cX8_isOpening 59 = .ok (.aload_n 0, 1) := by decide +kernel
theorem dX8_isOpening_60 : decode cX8_isOpening 60 = .ok (.getfield 339, 3) := by decide +kernel
theorem dX8_isOpening_63 : decode cX8_isOpening 63 = .ok (.ifCond .ge 5, 3) := by decide +kernel
theorem dX8_isOpening_66 : decode cX8_isOpening 66 = .ok (.iconst 0, 1) := by decide +kernel
theorem dX8_isOpening_67 : decode cX8_isOpening 67 = .ok (.ireturn, 1) := by decide +kernel
theorem dX8_isOpening_68 : decode cX8_isOpening 68 = .ok (.aload_n 0, 1) := by decide +kernel
theorem dX8_isOpening_69 : decode cX8_isOpening 69 = .ok (.iload_n 1, 1) := by decide +kernel
theorem dX8_isOpening_70 : decode cX8_isOpening 70 = .ok (.bipush 15, 2) := by decide +kernel
theorem dX8_isOpening_72 : decode cX8_isOpening 72 = .ok (.if_icmp .ne 18, 3) := by decide +kernel
theorem dX8_isOpening_75 : decode cX8_isOpening 75 = .ok (.aload_n 0, 1) := by decide +kernel
theorem dX8_isOpening_76 : decode cX8_isOpening 76 = .ok (.aload_n 0, 1) := by decide +kernel
theorem dX8_isOpening_77 : decode cX8_isOpening 77 = .ok (.getfield 339, 3) := by decide +kernel
theorem dX8_isOpening_80 : decode cX8_isOpening 80 = .ok (.aload_n 0, 1) := by decide +kernel
theorem dX8_isOpening_81 : decode cX8_isOpening 81 = .ok (.getfield 103, 3) := by decide +kernel
theorem dX8_isOpening_84 : decode cX8_isOpening 84 = .ok (.invokevirtual 155, 3) := by decide +kernel
theorem dX8_isOpening_87 : decode cX8_isOpening 87 = .ok (.goto 7, 3) := by decide +kernel
theorem dX8_isOpening_90 : decode cX8_isOpening 90 = .ok (.aload_n 0, 1) := by decide +kernel
theorem dX8_isOpening_91 : decode cX8_isOpening 91 = .ok (.getfield 339, 3) := by decide +kernel
theorem dX8_isOpening_94 : decode cX8_isOpening 94 = .ok (.invokevirtual 173, 3) := by decide +kernel
theorem dX8_isOpening_97 : decode cX8_isOpening 97 = .ok (.ireturn, 1) := by decide +kernel
abbrev rm_X8_isOpening : Room := { frames := 3, cells := 0, slots := 0, locals := 75 }
def f_X8_isOpening_L94 (cy : Nat → ClassId) (t0 : Nat) (t1 : Int32) (μ : Mem) : Option (Int32 × Mem) :=
  if isO μ t0 7 = true then (ob2 (f_X8_isAll cy t0 t1 μ) fun r104 μ103 => if r104 = 0 ∨ r104 = 1 then some (r104, μ103) else none) else none
set_option maxRecDepth 100000 in
set_option maxHeartbeats 4000000 in
theorem w_X8_isOpening_L94 {p : Program} {l : Launch} {e : Env} {s : State} {m : MethodId} {args : Array Value} {below : List Frame} {meth : Method} {c : Code} {A : Nat → Prop} {g : Wg} {L : List Nat} {r : Int32} {μ' : Mem} (hC : CX p m c cX8_isOpening 2 s args RX8) (hr : meth.sig.returnType = (some .boolean)) (hlocks : meth.locks = false) : ∀ (t0 : Nat) (t1 : Int32) (μ : Mem) (H : Heap) (locs : List Loc) (ls : Array Slot), lv_has ls 2 [] → PW g L μ A s H locs → f_X8_isOpening_L94 g.2 t0 t1 μ = some (r, μ') → W p l e rm_X8_isOpening s m args below meth c H locs 0 0 (MQ below (QI g L A r μ') args s 0 0 A) (F0 m 94 ls [.int t1, .ref t0]) := by
  have hx := hC.1
  have hb := hC.2.1
  intro t0 t1 μ H locs ls hl hw hf
  unfold f_X8_isOpening_L94 at hf
  obtain ⟨h102, hf⟩ := o_ite hf
  obtain ⟨r104, μ103, h101, hf⟩ := o_bind2 hf
  refine pw_goI hw (pw_runV (As := [.int t1]) (rest := []) hC mm_X8_isAll tw_1301 (c_X8_isAll h101 _) ⟨rfl, rfl, by decide, by decide⟩ hw h102 rfl hl.1 (Nat.le_of_ble_eq_true rfl) ⟨Nat.zero_le _, Nat.zero_le _⟩ rfl dX8_isOpening_94) (fun H locs hw => ?_)
  obtain ⟨h105, hf⟩ := o_ite hf
  obtain ⟨rfl, rfl⟩ := o_ret hf
  exact pw_zret hC hr hlocks h105 hw dX8_isOpening_97
def f_X8_isOpening_L59 (cy : Nat → ClassId) (a0 : Nat) (a1 : Int32) (μ : Mem) : Option (Int32 × Mem) :=
  (rdI μ a0 7 42).bind fun v101 => if 0 ≤ v101 then (if a1 = 15 then ((rdI μ a0 7 42).bind fun v107 => (rdI μ a0 7 2).bind fun v109 => if isO μ a0 7 = true then (ob2 (f_X8_text cy a0 v107 v109 μ) fun r114 μ113 => f_X8_isOpening_L94 cy a0 r114 μ113) else none) else (rdI μ a0 7 42).bind fun v105 => f_X8_isOpening_L94 cy a0 v105 μ) else some (0, μ)
set_option maxRecDepth 100000 in
set_option maxHeartbeats 4000000 in
theorem w_X8_isOpening_L59 {p : Program} {l : Launch} {e : Env} {s : State} {m : MethodId} {args : Array Value} {below : List Frame} {meth : Method} {c : Code} {A : Nat → Prop} {g : Wg} {L : List Nat} {r : Int32} {μ' : Mem} (hC : CX p m c cX8_isOpening 2 s args RX8) (hr : meth.sig.returnType = (some .boolean)) (hlocks : meth.locks = false) : ∀ (a0 : Nat) (a1 : Int32) (μ : Mem) (H : Heap) (locs : List Loc) (ls : Array Slot), lv_has ls 2 [(0, .ref a0), (1, .int a1)] → PW g L μ A s H locs → f_X8_isOpening_L59 g.2 a0 a1 μ = some (r, μ') → W p l e rm_X8_isOpening s m args below meth c H locs 0 0 (MQ below (QI g L A r μ') args s 0 0 A) (F0 m 59 ls []) := by
  have hx := hC.1
  have hb := hC.2.1
  intro a0 a1 μ H locs ls hl hw hf
  unfold f_X8_isOpening_L59 at hf
  refine lv_aload_n hx hb dX8_isOpening_59 rfl (lv_at hl 0 rfl) ?_
  obtain ⟨v101, h102, hf⟩ := o_bind hf
  refine pw_get hC fl_X8_339 hw (rdI_F h102) dX8_isOpening_60 ?_
  refine lv_if_ge (tgt := 68) hx hb dX8_isOpening_63 (by decide) (fun c103 => ?_) (fun c103 => ?_)
  · have hf := o_pos c103 hf
    refine lv_aload_n hx hb dX8_isOpening_68 rfl (lv_at hl 0 rfl) ?_
    refine lv_iload_n hx hb dX8_isOpening_69 rfl (lv_at hl 1 rfl) ?_
    refine lv_bipush (v := 15) hx hb dX8_isOpening_70 nc_bipush_15 ?_
    refine lv_icmp_ne (tgt := 90) hx hb dX8_isOpening_72 (by decide) (fun c104 => ?_) (fun c104 => ?_)
    · have hf := o_neg c104 hf
      refine lv_aload_n hx hb dX8_isOpening_90 rfl (lv_at hl 0 rfl) ?_
      obtain ⟨v105, h106, hf⟩ := o_bind hf
      refine pw_get hC fl_X8_339 hw (rdI_F h106) dX8_isOpening_91 ?_
      exact w_X8_isOpening_L94 hC hr hlocks _ _ _ _ _ ls (lv_sub hl [] rfl) hw hf
    · have hf := o_pos c104 hf
      refine lv_aload_n hx hb dX8_isOpening_75 rfl (lv_at hl 0 rfl) ?_
      refine lv_aload_n hx hb dX8_isOpening_76 rfl (lv_at hl 0 rfl) ?_
      obtain ⟨v107, h108, hf⟩ := o_bind hf
      refine pw_get hC fl_X8_339 hw (rdI_F h108) dX8_isOpening_77 ?_
      refine lv_aload_n hx hb dX8_isOpening_80 rfl (lv_at hl 0 rfl) ?_
      obtain ⟨v109, h110, hf⟩ := o_bind hf
      refine pw_get hC fl_X8_103 hw (rdI_F h110) dX8_isOpening_81 ?_
      obtain ⟨h112, hf⟩ := o_ite hf
      obtain ⟨r114, μ113, h111, hf⟩ := o_bind2 hf
      refine pw_goI hw (pw_runV (As := [.int v107, .int v109]) (rest := [.ref a0]) hC mm_X8_text tw_1287 (c_X8_text h111 _) ⟨rfl, rfl, by decide, by decide⟩ hw h112 rfl hl.1 (Nat.le_of_ble_eq_true rfl) ⟨Nat.zero_le _, Nat.zero_le _⟩ rfl dX8_isOpening_84) (fun H locs hw => ?_)
      refine lv_goto (tgt := 94) hx hb dX8_isOpening_87 (by decide) ?_
      exact w_X8_isOpening_L94 hC hr hlocks _ _ _ _ _ ls (lv_sub hl [] rfl) hw hf
  · have hf := o_neg c103 hf
    refine lv_iconst (v := 0) hx hb dX8_isOpening_66 nc_iconst_0 ?_
    obtain ⟨rfl, rfl⟩ := o_ret hf
    exact pw_zret hC hr hlocks (Or.inl rfl) hw dX8_isOpening_67
def f_X8_isOpening_L30 (cy : Nat → ClassId) (a0 : Nat) (a1 : Int32) (μ : Mem) : Option (Int32 × Mem) :=
  (rdR μ a0 7 15).bind fun q101 => (rdI μ a0 7 13).bind fun v103 => (rdA cy μ 1 q101 (v103 - 1)).bind fun v105 => if v105 = 4 then (f_X8_isOpening_L59 cy a0 a1 μ) else (rdI μ a0 7 2).bind fun v108 => if isO μ a0 7 = true then (ob2 (f_X8_name cy a0 0 v108 (-1) μ) fun r113 μ112 => (wrF μ112 a0 7 42 (.int r113)).bind fun μ114 => f_X8_isOpening_L59 cy a0 a1 μ114) else none
set_option maxRecDepth 100000 in
set_option maxHeartbeats 4000000 in
theorem w_X8_isOpening_L30 {p : Program} {l : Launch} {e : Env} {s : State} {m : MethodId} {args : Array Value} {below : List Frame} {meth : Method} {c : Code} {A : Nat → Prop} {g : Wg} {L : List Nat} {r : Int32} {μ' : Mem} (hC : CX p m c cX8_isOpening 2 s args RX8) (hr : meth.sig.returnType = (some .boolean)) (hlocks : meth.locks = false) : ∀ (a0 : Nat) (a1 : Int32) (μ : Mem) (H : Heap) (locs : List Loc) (ls : Array Slot), lv_has ls 2 [(0, .ref a0), (1, .int a1)] → PW g L μ A s H locs → f_X8_isOpening_L30 g.2 a0 a1 μ = some (r, μ') → W p l e rm_X8_isOpening s m args below meth c H locs 0 0 (MQ below (QI g L A r μ') args s 0 0 A) (F0 m 30 ls []) := by
  have hx := hC.1
  have hb := hC.2.1
  intro a0 a1 μ H locs ls hl hw hf
  unfold f_X8_isOpening_L30 at hf
  refine lv_aload_n hx hb dX8_isOpening_30 rfl (lv_at hl 0 rfl) ?_
  obtain ⟨q101, h102, hf⟩ := o_bind hf
  refine pw_get hC fl_X8_46 hw (rdR_F h102) dX8_isOpening_31 ?_
  refine lv_aload_n hx hb dX8_isOpening_34 rfl (lv_at hl 0 rfl) ?_
  obtain ⟨v103, h104, hf⟩ := o_bind hf
  refine pw_get hC fl_X8_354 hw (rdI_F h104) dX8_isOpening_35 ?_
  refine lv_iconst (v := 1) hx hb dX8_isOpening_38 nc_iconst_1 ?_
  refine lv_isub hx hb dX8_isOpening_39 ?_
  obtain ⟨v105, h106, hf⟩ := o_bind hf
  refine pw_iald hC hw h106 dX8_isOpening_40 ?_
  refine lv_iconst (v := 4) hx hb dX8_isOpening_41 nc_iconst_4 ?_
  refine lv_icmp_eq (tgt := 59) hx hb dX8_isOpening_42 (by decide) (fun c107 => ?_) (fun c107 => ?_)
  · have hf := o_pos c107 hf
    exact w_X8_isOpening_L59 hC hr hlocks _ _ _ _ _ ls (lv_sub hl [0, 1] rfl) hw hf
  · have hf := o_neg c107 hf
    refine lv_aload_n hx hb dX8_isOpening_45 rfl (lv_at hl 0 rfl) ?_
    refine lv_aload_n hx hb dX8_isOpening_46 rfl (lv_at hl 0 rfl) ?_
    refine lv_iconst (v := 0) hx hb dX8_isOpening_47 nc_iconst_0 ?_
    refine lv_aload_n hx hb dX8_isOpening_48 rfl (lv_at hl 0 rfl) ?_
    obtain ⟨v108, h109, hf⟩ := o_bind hf
    refine pw_get hC fl_X8_103 hw (rdI_F h109) dX8_isOpening_49 ?_
    refine lv_iconst (v := (-1)) hx hb dX8_isOpening_52 nc_iconst_m1 ?_
    obtain ⟨h111, hf⟩ := o_ite hf
    obtain ⟨r113, μ112, h110, hf⟩ := o_bind2 hf
    refine pw_goI hw (pw_runV (As := [.int 0, .int v108, .int (-1)]) (rest := [.ref a0]) hC mm_X8_name tw_1255 (c_X8_name h110 _) ⟨rfl, rfl, by decide, by decide⟩ hw h111 rfl hl.1 (Nat.le_of_ble_eq_true rfl) ⟨Nat.zero_le _, Nat.zero_le _⟩ rfl dX8_isOpening_53) (fun H locs hw => ?_)
    obtain ⟨μ114, h115, hf⟩ := o_bind hf
    refine pw_put hC fl_X8_339 hw h115 .int fd_X8_42 rfl rfl dX8_isOpening_56 (fun H locs hw => ?_)
    exact w_X8_isOpening_L59 hC hr hlocks _ _ _ _ _ ls (lv_sub hl [0, 1] rfl) hw hf
def f_X8_isOpening (cy : Nat → ClassId) (a0 : Nat) (a1 : Int32) (μ : Mem) : Option (Int32 × Mem) :=
  (wrF μ a0 7 42 (.int 0)).bind fun μ1 => if a1 = 3 then (f_X8_isOpening_L30 cy a0 a1 μ1) else if a1 = 4 then (f_X8_isOpening_L30 cy a0 a1 μ1) else if a1 = 15 then (f_X8_isOpening_L30 cy a0 a1 μ1) else if isO μ1 a0 7 = true then (ob2 (f_X8_wrong cy a0 3 0 μ1) fun r9 μ8 => some (0, μ8)) else none
set_option maxRecDepth 100000 in
set_option maxHeartbeats 4000000 in
theorem c_X8_isOpening {l : Launch} {g : Wg} {L : List Nat} {μ : Mem} {a0 : Nat} {a1 : Int32} {r : Int32} {μ' : Mem} (hf : f_X8_isOpening g.2 a0 a1 μ = some (r, μ')) : MetI l yX8_isOpening cX8_isOpening 2 (some .boolean) rm_X8_isOpening g L μ [.ref a0, .int a1] r μ' := by
  refine pw_met (Qc := fun A => QI g L A r μ') (by decide) (Nat.le_of_ble_eq_true rfl) ?_
  intro p e s m args below meth c A ls H locs hC hr hlocks hl hw
  have hx := hC.1
  have hb := hC.2.1
  have hl : lv_has ls 2 [(0, .ref a0), (1, .int a1)] := hl
  unfold f_X8_isOpening at hf
  refine lv_aload_n hx hb dX8_isOpening_0 rfl (lv_at hl 0 rfl) ?_
  refine lv_iconst (v := 0) hx hb dX8_isOpening_1 nc_iconst_0 ?_
  obtain ⟨μ1, h2, hf⟩ := o_bind hf
  refine pw_put hC fl_X8_339 hw h2 .int fd_X8_42 rfl rfl dX8_isOpening_2 (fun H locs hw => ?_)
  refine lv_iload_n hx hb dX8_isOpening_5 rfl (lv_at hl 1 rfl) ?_
  refine lv_iconst (v := 3) hx hb dX8_isOpening_6 nc_iconst_3 ?_
  refine lv_icmp_eq (tgt := 30) hx hb dX8_isOpening_7 (by decide) (fun c3 => ?_) (fun c3 => ?_)
  · have hf := o_pos c3 hf
    exact w_X8_isOpening_L30 hC hr hlocks _ _ _ _ _ ls (lv_sub hl [0, 1] rfl) hw hf
  · have hf := o_neg c3 hf
    refine lv_iload_n hx hb dX8_isOpening_10 rfl (lv_at hl 1 rfl) ?_
    refine lv_iconst (v := 4) hx hb dX8_isOpening_11 nc_iconst_4 ?_
    refine lv_icmp_eq (tgt := 30) hx hb dX8_isOpening_12 (by decide) (fun c4 => ?_) (fun c4 => ?_)
    · have hf := o_pos c4 hf
      exact w_X8_isOpening_L30 hC hr hlocks _ _ _ _ _ ls (lv_sub hl [0, 1] rfl) hw hf
    · have hf := o_neg c4 hf
      refine lv_iload_n hx hb dX8_isOpening_15 rfl (lv_at hl 1 rfl) ?_
      refine lv_bipush (v := 15) hx hb dX8_isOpening_16 nc_bipush_15 ?_
      refine lv_icmp_eq (tgt := 30) hx hb dX8_isOpening_18 (by decide) (fun c5 => ?_) (fun c5 => ?_)
      · have hf := o_pos c5 hf
        exact w_X8_isOpening_L30 hC hr hlocks _ _ _ _ _ ls (lv_sub hl [0, 1] rfl) hw hf
      · have hf := o_neg c5 hf
        refine lv_aload_n hx hb dX8_isOpening_21 rfl (lv_at hl 0 rfl) ?_
        refine lv_iconst (v := 3) hx hb dX8_isOpening_22 nc_iconst_3 ?_
        refine lv_iconst (v := 0) hx hb dX8_isOpening_23 nc_iconst_0 ?_
        obtain ⟨h7, hf⟩ := o_ite hf
        obtain ⟨r9, μ8, h6, hf⟩ := o_bind2 hf
        refine pw_goI hw (pw_runV (As := [.int 3, .int 0]) (rest := []) hC mm_X8_wrong tw_1237 (c_X8_wrong h6 _) ⟨rfl, rfl, by decide, by decide⟩ hw h7 rfl hl.1 (Nat.le_of_ble_eq_true rfl) ⟨Nat.zero_le _, Nat.zero_le _⟩ rfl dX8_isOpening_24) (fun H locs hw => ?_)
        refine lv_pop hx hb dX8_isOpening_27 rfl ?_
        refine lv_iconst (v := 0) hx hb dX8_isOpening_28 nc_iconst_0 ?_
        obtain ⟨rfl, rfl⟩ := o_ret hf
        exact pw_zret hC hr hlocks (Or.inl rfl) hw dX8_isOpening_29
theorem dX8_lay_0 : decode cX8_lay 0 = .ok (.aload_n 0, 1) := by decide +kernel
theorem dX8_lay_1 : decode cX8_lay 1 = .ok (.iload_n 1, 1) := by decide +kernel
theorem dX8_lay_2 : decode cX8_lay 2 = .ok (.invokevirtual 183, 3) := by decide +kernel
theorem dX8_lay_5 : decode cX8_lay 5 = .ok (.ifCond .eq 5, 3) := by decide +kernel
theorem dX8_lay_8 : decode cX8_lay 8 = .ok (.iconst 0, 1) := by decide +kernel
theorem dX8_lay_9 : decode cX8_lay 9 = .ok (.ireturn, 1) := by decide +kernel
theorem dX8_lay_10 : decode cX8_lay 10 = .ok (.aload_n 0, 1) := by decide +kernel
theorem dX8_lay_11 : decode cX8_lay 11 = .ok (.aload_n 0, 1) := by decide +kernel
theorem dX8_lay_12 : decode cX8_lay 12 = .ok (.getfield 348, 3) := by decide +kernel
theorem dX8_lay_15 : decode cX8_lay 15 = .ok (.ifCond .eq 10, 3) := by decide +kernel
theorem dX8_lay_18 : decode cX8_lay 18 = .ok (.aload_n 0, 1) := by decide +kernel
theorem dX8_lay_19 : decode cX8_lay 19 = .ok (.getfield 354, 3) := by decide +kernel
theorem dX8_lay_22 : decode cX8_lay 22 = .ok (.ifCond .le 7, 3) := by decide +kernel
theorem dX8_lay_25 : decode cX8_lay 25 = .ok (.iconst 1, 1) := by decide +kernel
theorem dX8_lay_26 : decode cX8_lay 26 = .ok (.goto 4, 3) := by decide +kernel
theorem dX8_lay_29 : decode cX8_lay 29 = .ok (.iconst 0, 1) := by decide +kernel
theorem dX8_lay_30 : decode cX8_lay 30 = .ok (.iconst 2, 1) := by decide +kernel
theorem dX8_lay_31 : decode cX8_lay 31 = .ok (.invokevirtual 186, 3) := by decide +kernel
theorem dX8_lay_34 : decode cX8_lay 34 = .ok (.ifCond .eq 5, 3) := by decide +kernel
theorem dX8_lay_37 : decode cX8_lay 37 = .ok (.iconst 0, 1) := by decide +kernel
theorem dX8_lay_38 : decode cX8_lay 38 = .ok (.ireturn, 1) := by decide +kernel
theorem dX8_lay_39 : decode cX8_lay 39 = .ok (.iconst 0, 1) := by decide +kernel
theorem dX8_lay_40 : decode cX8_lay 40 = .ok (.istore_n 2, 1) := by decide +kernel
theorem dX8_lay_41 : decode cX8_lay 41 = .ok (.iload_n 2, 1) := by decide +kernel
theorem dX8_lay_42 : decode cX8_lay 42 = .ok (.aload_n 0, 1) := by decide +kernel
theorem dX8_lay_43 : decode cX8_lay 43 = .ok (.getfield 351, 3) := by decide +kernel
theorem dX8_lay_46 : decode cX8_lay 46 = .ok (.if_icmp .ge 23, 3) := by decide +kernel
theorem dX8_lay_49 : decode cX8_lay 49 = .ok (.aload_n 0, 1) := by decide +kernel
theorem dX8_lay_50 : decode cX8_lay 50 = .ok (.getfield 22, 3) := by decide +kernel
theorem dX8_lay_53 : decode cX8_lay 53 = .ok (.iload_n 1, 1) := by decide +kernel
theorem dX8_lay_54 : decode cX8_lay 54 = .ok (.aaload, 1) := by decide +kernel
theorem dX8_lay_55 : decode cX8_lay 55 = .ok (.iload_n 2, 1) := by decide +kernel
theorem dX8_lay_56 : decode cX8_lay 56 = .ok (.aload_n 0, 1) := by decide +kernel
theorem dX8_lay_57 : decode cX8_lay 57 = .ok (.getfield 40, 3) := by decide +kernel
theorem dX8_lay_60 : decode cX8_lay 60 = .ok (.iload_n 2, 1) := by decide +kernel
theorem dX8_lay_61 : decode cX8_lay 61 = .ok (.baload, 1) := by decide +kernel
theorem dX8_lay_62 : decode cX8_lay 62 = .ok (.bastore, 1) := by decide +kernel
theorem dX8_lay_63 : decode cX8_lay 63 = .ok (.iinc 2 1, 3) := by decide +kernel
theorem dX8_lay_66 : decode cX8_lay 66 = .ok (.goto (-25), 3) := by decide +kernel
theorem dX8_lay_69 : decode cX8_lay 69 = .ok (.aload_n 0, 1) := by decide +kernel
theorem dX8_lay_70 : decode cX8_lay 70 = .ok (.getfield 25, 3) := by decide +kernel
theorem dX8_lay_73 : decode cX8_lay 73 = .ok (.iload_n 1, 1) := by decide +kernel
theorem dX8_lay_74 : decode cX8_lay 74 = .ok (.aload_n 0, 1) := by decide +kernel
theorem dX8_lay_75 : decode cX8_lay 75 = .ok (.getfield 351, 3) := by decide +kernel
theorem dX8_lay_78 : decode cX8_lay 78 = .ok (.iastore, 1) := by decide +kernel
theorem dX8_lay_79 : decode cX8_lay 79 = .ok (.aload_n 0, 1) := by decide +kernel
theorem dX8_lay_80 : decode cX8_lay 80 = .ok (.iconst 0, 1) := by decide +kernel
theorem dX8_lay_81 : decode cX8_lay 81 = .ok (.putfield 348, 3) := by decide +kernel
theorem dX8_lay_84 : decode cX8_lay 84 = .ok (.aload_n 0, 1) := by decide +kernel
theorem dX8_lay_85 : decode cX8_lay 85 = .ok (.iload_n 1, 1) := by decide +kernel
theorem dX8_lay_86 : decode cX8_lay 86 = .ok (.invokevirtual 94, 3) := by decide +kernel
theorem dX8_lay_89 : decode cX8_lay 89 = .ok (.aload_n 0, 1) := by decide +kernel
theorem dX8_lay_90 : decode cX8_lay 90 = .ok (.getfield 25, 3) := by decide +kernel
theorem dX8_lay_93 : decode cX8_lay 93 = .ok (.iload_n 1, 1) := by decide +kernel
theorem dX8_lay_94 : decode cX8_lay 94 = .ok (.iaload, 1) := by decide +kernel
theorem dX8_lay_95 : decode cX8_lay 95 = .ok (.ireturn, 1) := by decide +kernel
abbrev rm_X8_lay : Room := { frames := 1, cells := 0, slots := 0, locals := 22 }
def f_X8_lay_L41 (cy : Nat → ClassId) : Nat → Nat → Int32 → Int32 → Mem → Option (Int32 × Mem)
  | 0, _, _, _, _ => none
  | n + 1, a0, a1, a2, μ => (rdI μ a0 7 11).bind fun v101 => if v101 ≤ a2 then ((rdR μ a0 7 6).bind fun q104 => (rdI μ a0 7 11).bind fun v106 => (wrA cy μ 1 q104 a1 v106).bind fun μ108 => (wrF μ108 a0 7 12 (.int 0)).bind fun μ110 => if isO μ110 a0 7 = true then ((f_X8_rests cy a0 a1 μ110).bind fun μ114 => (rdR μ114 a0 7 6).bind fun q115 => (rdA cy μ114 1 q115 a1).bind fun v117 => some (v117, μ114)) else none) else (rdR μ a0 7 5).bind fun q119 => (rdQ cy μ 5 q119 a1).bind fun q121 => (rdR μ a0 7 10).bind fun q123 => (rdA cy μ 0 q123 a2).bind fun v125 => (wrA cy μ 0 q121 a2 (vp_nar .byte v125)).bind fun μ127 => f_X8_lay_L41 cy n a0 a1 (a2 + 1) μ127
set_option maxRecDepth 100000 in
set_option maxHeartbeats 4000000 in
theorem w_X8_lay_L41 {p : Program} {l : Launch} {e : Env} {s : State} {m : MethodId} {args : Array Value} {below : List Frame} {meth : Method} {c : Code} {A : Nat → Prop} {g : Wg} {L : List Nat} {r : Int32} {μ' : Mem} (hC : CX p m c cX8_lay 3 s args RX8) (hr : meth.sig.returnType = (some .int)) (hlocks : meth.locks = false) : ∀ (n : Nat), ∀ (a0 : Nat) (a1 : Int32) (a2 : Int32) (μ : Mem) (H : Heap) (locs : List Loc) (ls : Array Slot), lv_has ls 3 [(0, .ref a0), (1, .int a1), (2, .int a2)] → PW g L μ A s H locs → f_X8_lay_L41 g.2 n a0 a1 a2 μ = some (r, μ') → W p l e rm_X8_lay s m args below meth c H locs 0 0 (MQ below (QI g L A r μ') args s 0 0 A) (F0 m 41 ls []) := by
  have hx := hC.1
  have hb := hC.2.1
  intro n
  induction n with
  | zero => intro a0 a1 a2 μ H locs ls hl hw hf; cases hf
  | succ n ih =>
    intro a0 a1 a2 μ H locs ls hl hw hf
    rw [f_X8_lay_L41] at hf
    refine lv_iload_n hx hb dX8_lay_41 rfl (lv_at hl 2 rfl) ?_
    refine lv_aload_n hx hb dX8_lay_42 rfl (lv_at hl 0 rfl) ?_
    obtain ⟨v101, h102, hf⟩ := o_bind hf
    refine pw_get hC fl_X8_351 hw (rdI_F h102) dX8_lay_43 ?_
    refine lv_icmp_ge (tgt := 69) hx hb dX8_lay_46 (by decide) (fun c103 => ?_) (fun c103 => ?_)
    · have hf := o_pos c103 hf
      refine lv_aload_n hx hb dX8_lay_69 rfl (lv_at hl 0 rfl) ?_
      obtain ⟨q104, h105, hf⟩ := o_bind hf
      refine pw_get hC fl_X8_25 hw (rdR_F h105) dX8_lay_70 ?_
      refine lv_iload_n hx hb dX8_lay_73 rfl (lv_at hl 1 rfl) ?_
      refine lv_aload_n hx hb dX8_lay_74 rfl (lv_at hl 0 rfl) ?_
      obtain ⟨v106, h107, hf⟩ := o_bind hf
      refine pw_get hC fl_X8_351 hw (rdI_F h107) dX8_lay_75 ?_
      obtain ⟨μ108, h109, hf⟩ := o_bind hf
      refine pw_iast hC hw h109 dX8_lay_78 (fun H locs hw => ?_)
      refine lv_aload_n hx hb dX8_lay_79 rfl (lv_at hl 0 rfl) ?_
      refine lv_iconst (v := 0) hx hb dX8_lay_80 nc_iconst_0 ?_
      obtain ⟨μ110, h111, hf⟩ := o_bind hf
      refine pw_put hC fl_X8_348 hw h111 .boolean fd_X8_12 (by decide +kernel) rfl dX8_lay_81 (fun H locs hw => ?_)
      refine lv_aload_n hx hb dX8_lay_84 rfl (lv_at hl 0 rfl) ?_
      refine lv_iload_n hx hb dX8_lay_85 rfl (lv_at hl 1 rfl) ?_
      obtain ⟨h113, hf⟩ := o_ite hf
      obtain ⟨μ114, h112, hf⟩ := o_bind hf
      refine pw_goV hw (pw_runV (As := [.int a1]) (rest := []) hC mm_X8_rests tw_1071 (c_X8_rests h112 _) ⟨rfl, rfl, by decide, by decide⟩ hw h113 rfl hl.1 (Nat.le_of_ble_eq_true rfl) ⟨Nat.zero_le _, Nat.zero_le _⟩ rfl dX8_lay_86) (fun H locs hw => ?_)
      refine lv_aload_n hx hb dX8_lay_89 rfl (lv_at hl 0 rfl) ?_
      obtain ⟨q115, h116, hf⟩ := o_bind hf
      refine pw_get hC fl_X8_25 hw (rdR_F h116) dX8_lay_90 ?_
      refine lv_iload_n hx hb dX8_lay_93 rfl (lv_at hl 1 rfl) ?_
      obtain ⟨v117, h118, hf⟩ := o_bind hf
      refine pw_iald hC hw h118 dX8_lay_94 ?_
      obtain ⟨rfl, rfl⟩ := o_ret hf
      exact pw_iret hC hr hlocks hw dX8_lay_95
    · have hf := o_neg c103 hf
      refine lv_aload_n hx hb dX8_lay_49 rfl (lv_at hl 0 rfl) ?_
      obtain ⟨q119, h120, hf⟩ := o_bind hf
      refine pw_get hC fl_X8_22 hw (rdR_F h120) dX8_lay_50 ?_
      refine lv_iload_n hx hb dX8_lay_53 rfl (lv_at hl 1 rfl) ?_
      obtain ⟨q121, h122, hf⟩ := o_bind hf
      refine pw_aald hC hw 5 rfl rfl h122 dX8_lay_54 ?_
      refine lv_iload_n hx hb dX8_lay_55 rfl (lv_at hl 2 rfl) ?_
      refine lv_aload_n hx hb dX8_lay_56 rfl (lv_at hl 0 rfl) ?_
      obtain ⟨q123, h124, hf⟩ := o_bind hf
      refine pw_get hC fl_X8_40 hw (rdR_F h124) dX8_lay_57 ?_
      refine lv_iload_n hx hb dX8_lay_60 rfl (lv_at hl 2 rfl) ?_
      obtain ⟨v125, h126, hf⟩ := o_bind hf
      refine pw_bald hC hw h126 dX8_lay_61 ?_
      obtain ⟨μ127, h128, hf⟩ := o_bind hf
      refine pw_bast hC hw h128 dX8_lay_62 (fun H locs hw => ?_)
      refine lv_iinc (v := (a2 + 1)) (lv' := [(2, .int (a2 + 1)), (0, .ref a0), (1, .int a1)]) hx hb dX8_lay_63 hl (k := 2) rfl (by first | rfl | decide +kernel) (by decide) rfl (fun ls hl => ?_)
      refine lv_goto (tgt := 41) hx hb dX8_lay_66 (by decide) ?_
      exact ih _ _ _ _ _ _ ls (lv_sub hl [1, 2, 0] rfl) hw hf
def f_X8_lay_L30 (cy : Nat → ClassId) (a0 : Nat) (a1 : Int32) (t0 : Nat) (t1 : Int32) (μ : Mem) : Option (Int32 × Mem) :=
  if isO μ t0 7 = true then (ob2 (f_X8_throwsIf cy t0 t1 2 μ) fun r104 μ103 => if r104 = 0 then (f_X8_lay_L41 cy FU a0 a1 0 μ103) else some (0, μ103)) else none
set_option maxRecDepth 100000 in
set_option maxHeartbeats 4000000 in
theorem w_X8_lay_L30 {p : Program} {l : Launch} {e : Env} {s : State} {m : MethodId} {args : Array Value} {below : List Frame} {meth : Method} {c : Code} {A : Nat → Prop} {g : Wg} {L : List Nat} {r : Int32} {μ' : Mem} (hC : CX p m c cX8_lay 3 s args RX8) (hr : meth.sig.returnType = (some .int)) (hlocks : meth.locks = false) : ∀ (a0 : Nat) (a1 : Int32) (t0 : Nat) (t1 : Int32) (μ : Mem) (H : Heap) (locs : List Loc) (ls : Array Slot), lv_has ls 3 [(0, .ref a0), (1, .int a1)] → PW g L μ A s H locs → f_X8_lay_L30 g.2 a0 a1 t0 t1 μ = some (r, μ') → W p l e rm_X8_lay s m args below meth c H locs 0 0 (MQ below (QI g L A r μ') args s 0 0 A) (F0 m 30 ls [.int t1, .ref t0]) := by
  have hx := hC.1
  have hb := hC.2.1
  intro a0 a1 t0 t1 μ H locs ls hl hw hf
  unfold f_X8_lay_L30 at hf
  refine lv_iconst (v := 2) hx hb dX8_lay_30 nc_iconst_2 ?_
  obtain ⟨h102, hf⟩ := o_ite hf
  obtain ⟨r104, μ103, h101, hf⟩ := o_bind2 hf
  refine pw_goI hw (pw_runV (As := [.int t1, .int 2]) (rest := []) hC mm_X8_throwsIf tw_1317 (c_X8_throwsIf h101 _) ⟨rfl, rfl, by decide, by decide⟩ hw h102 rfl hl.1 (Nat.le_of_ble_eq_true rfl) ⟨Nat.zero_le _, Nat.zero_le _⟩ rfl dX8_lay_31) (fun H locs hw => ?_)
  refine lv_if_eq (tgt := 39) hx hb dX8_lay_34 (by decide) (fun c105 => ?_) (fun c105 => ?_)
  · have hf := o_pos c105 hf
    refine lv_iconst (v := 0) hx hb dX8_lay_39 nc_iconst_0 ?_
    refine lv_istore_n (lv' := [(2, .int 0), (0, .ref a0), (1, .int a1)]) hx hb dX8_lay_40 rfl hl (by decide) rfl (fun ls hl => ?_)
    exact w_X8_lay_L41 hC hr hlocks FU _ _ _ _ _ _ ls (lv_sub hl [1, 2, 0] rfl) hw hf
  · have hf := o_neg c105 hf
    refine lv_iconst (v := 0) hx hb dX8_lay_37 nc_iconst_0 ?_
    obtain ⟨rfl, rfl⟩ := o_ret hf
    exact pw_iret hC hr hlocks hw dX8_lay_38
def f_X8_lay_L25 (cy : Nat → ClassId) (a0 : Nat) (a1 : Int32) (t0 : Nat) (μ : Mem) : Option (Int32 × Mem) :=
  f_X8_lay_L30 cy a0 a1 t0 1 μ
set_option maxRecDepth 100000 in
set_option maxHeartbeats 4000000 in
theorem w_X8_lay_L25 {p : Program} {l : Launch} {e : Env} {s : State} {m : MethodId} {args : Array Value} {below : List Frame} {meth : Method} {c : Code} {A : Nat → Prop} {g : Wg} {L : List Nat} {r : Int32} {μ' : Mem} (hC : CX p m c cX8_lay 3 s args RX8) (hr : meth.sig.returnType = (some .int)) (hlocks : meth.locks = false) : ∀ (a0 : Nat) (a1 : Int32) (t0 : Nat) (μ : Mem) (H : Heap) (locs : List Loc) (ls : Array Slot), lv_has ls 3 [(0, .ref a0), (1, .int a1)] → PW g L μ A s H locs → f_X8_lay_L25 g.2 a0 a1 t0 μ = some (r, μ') → W p l e rm_X8_lay s m args below meth c H locs 0 0 (MQ below (QI g L A r μ') args s 0 0 A) (F0 m 25 ls [.ref t0]) := by
  have hx := hC.1
  have hb := hC.2.1
  intro a0 a1 t0 μ H locs ls hl hw hf
  unfold f_X8_lay_L25 at hf
  refine lv_iconst (v := 1) hx hb dX8_lay_25 nc_iconst_1 ?_
  refine lv_goto (tgt := 30) hx hb dX8_lay_26 (by decide) ?_
  exact w_X8_lay_L30 hC hr hlocks _ _ _ _ _ _ _ ls (lv_sub hl [0, 1] rfl) hw hf
def f_X8_lay (cy : Nat → ClassId) (a0 : Nat) (a1 : Int32) (μ : Mem) : Option (Int32 × Mem) :=
  if isO μ a0 7 = true then (ob2 (f_X8_noShelf cy a0 a1 μ) fun r4 μ3 => if r4 = 0 then ((rdI μ3 a0 7 12).bind fun v6 => if v6 = 0 then (f_X8_lay_L25 cy a0 a1 a0 μ3) else (rdI μ3 a0 7 13).bind fun v9 => if v9 ≤ 0 then (f_X8_lay_L30 cy a0 a1 a0 0 μ3) else f_X8_lay_L25 cy a0 a1 a0 μ3) else some (0, μ3)) else none
set_option maxRecDepth 100000 in
set_option maxHeartbeats 4000000 in
theorem c_X8_lay {l : Launch} {g : Wg} {L : List Nat} {μ : Mem} {a0 : Nat} {a1 : Int32} {r : Int32} {μ' : Mem} (hf : f_X8_lay g.2 a0 a1 μ = some (r, μ')) : MetI l yX8_lay cX8_lay 3 (some .int) rm_X8_lay g L μ [.ref a0, .int a1] r μ' := by
  refine pw_met (Qc := fun A => QI g L A r μ') (by decide) (Nat.le_of_ble_eq_true rfl) ?_
  intro p e s m args below meth c A ls H locs hC hr hlocks hl hw
  have hx := hC.1
  have hb := hC.2.1
  have hl : lv_has ls 3 [(0, .ref a0), (1, .int a1)] := hl
  unfold f_X8_lay at hf
  refine lv_aload_n hx hb dX8_lay_0 rfl (lv_at hl 0 rfl) ?_
  refine lv_iload_n hx hb dX8_lay_1 rfl (lv_at hl 1 rfl) ?_
  obtain ⟨h2, hf⟩ := o_ite hf
  obtain ⟨r4, μ3, h1, hf⟩ := o_bind2 hf
  refine pw_goI hw (pw_runV (As := [.int a1]) (rest := []) hC mm_X8_noShelf tw_1313 (c_X8_noShelf h1 _) ⟨rfl, rfl, by decide, by decide⟩ hw h2 rfl hl.1 (Nat.le_of_ble_eq_true rfl) ⟨Nat.zero_le _, Nat.zero_le _⟩ rfl dX8_lay_2) (fun H locs hw => ?_)
  refine lv_if_eq (tgt := 10) hx hb dX8_lay_5 (by decide) (fun c5 => ?_) (fun c5 => ?_)
  · have hf := o_pos c5 hf
    refine lv_aload_n hx hb dX8_lay_10 rfl (lv_at hl 0 rfl) ?_
    refine lv_aload_n hx hb dX8_lay_11 rfl (lv_at hl 0 rfl) ?_
    obtain ⟨v6, h7, hf⟩ := o_bind hf
    refine pw_get hC fl_X8_348 hw (rdI_F h7) dX8_lay_12 ?_
    refine lv_if_eq (tgt := 25) hx hb dX8_lay_15 (by decide) (fun c8 => ?_) (fun c8 => ?_)
    · have hf := o_pos c8 hf
      exact w_X8_lay_L25 hC hr hlocks _ _ _ _ _ _ ls (lv_sub hl [0, 1] rfl) hw hf
    · have hf := o_neg c8 hf
      refine lv_aload_n hx hb dX8_lay_18 rfl (lv_at hl 0 rfl) ?_
      obtain ⟨v9, h10, hf⟩ := o_bind hf
      refine pw_get hC fl_X8_354 hw (rdI_F h10) dX8_lay_19 ?_
      refine lv_if_le (tgt := 29) hx hb dX8_lay_22 (by decide) (fun c11 => ?_) (fun c11 => ?_)
      · have hf := o_pos c11 hf
        refine lv_iconst (v := 0) hx hb dX8_lay_29 nc_iconst_0 ?_
        exact w_X8_lay_L30 hC hr hlocks _ _ _ _ _ _ _ ls (lv_sub hl [0, 1] rfl) hw hf
      · have hf := o_neg c11 hf
        exact w_X8_lay_L25 hC hr hlocks _ _ _ _ _ _ ls (lv_sub hl [0, 1] rfl) hw hf
  · have hf := o_neg c5 hf
    refine lv_iconst (v := 0) hx hb dX8_lay_8 nc_iconst_0 ?_
    obtain ⟨rfl, rfl⟩ := o_ret hf
    exact pw_iret hC hr hlocks hw dX8_lay_9
theorem dX8_sheet_0 : decode cX8_sheet 0 = .ok (.aload_n 0, 1) := by decide +kernel
theorem dX8_sheet_1 : decode cX8_sheet 1 = .ok (.iconst 0, 1) := by decide +kernel
theorem dX8_sheet_2 : decode cX8_sheet 2 = .ok (.putfield 1, 3) := by decide +kernel
theorem dX8_sheet_5 : decode cX8_sheet 5 = .ok (.iload_n 1, 1) := by decide +kernel
theorem dX8_sheet_6 : decode cX8_sheet 6 = .ok (.ifCond .lt 8, 3) := by decide +kernel
theorem dX8_sheet_9 : decode cX8_sheet 9 = .ok (.iload_n 1, 1) := by decide +kernel
theorem dX8_sheet_10 : decode cX8_sheet 10 = .ok (.iconst 3, 1) := by decide +kernel
theorem dX8_sheet_11 : decode cX8_sheet 11 = .ok (.if_icmp .le 5, 3) := by decide +kernel
theorem dX8_sheet_14 : decode cX8_sheet 14 = .ok (.iconst (-1), 1) := by decide +kernel
theorem dX8_sheet_15 : decode cX8_sheet 15 = .ok (.ireturn, 1) := by decide +kernel
theorem dX8_sheet_16 : decode cX8_sheet 16 = .ok (.aload_n 0, 1) := by decide +kernel
theorem dX8_sheet_17 : decode cX8_sheet 17 = .ok (.getfield 348, 3) := by decide +kernel
theorem dX8_sheet_20 : decode cX8_sheet 20 = .ok (.ifCond .ne 5, 3) := by decide +kernel
theorem dX8_sheet_23 : decode cX8_sheet 23 = .ok (.iconst 0, 1) := by decide +kernel
theorem dX8_sheet_24 : decode cX8_sheet 24 = .ok (.ireturn, 1) := by decide +kernel
theorem dX8_sheet_25 : decode cX8_sheet 25 = .ok (.iload_n 1, 1) := by decide +kernel
theorem dX8_sheet_26 : decode cX8_sheet 26 = .ok (.tableswitch 49 0 2 #[26, 39, 44], 26) := by decide +kernel
theorem dX8_sheet_52 : decode cX8_sheet 52 = .ok (.aload_n 0, 1) := by decide +kernel
theorem dX8_sheet_53 : decode cX8_sheet 53 = .ok (.getfield 354, 3) := by decide +kernel
theorem dX8_sheet_56 : decode cX8_sheet 56 = .ok (.ifCond .le 7, 3) := by decide +kernel
theorem dX8_sheet_59 : decode cX8_sheet 59 = .ok (.iconst 1, 1) := by decide +kernel
theorem dX8_sheet_60 : decode cX8_sheet 60 = .ok (.goto 4, 3) := by decide +kernel
theorem dX8_sheet_63 : decode cX8_sheet 63 = .ok (.iconst 2, 1) := by decide +kernel
theorem dX8_sheet_64 : decode cX8_sheet 64 = .ok (.ireturn, 1) := by decide +kernel
theorem dX8_sheet_65 : decode cX8_sheet 65 = .ok (.aload_n 0, 1) := by decide +kernel
theorem dX8_sheet_66 : decode cX8_sheet 66 = .ok (.getfield 351, 3) := by decide +kernel
theorem dX8_sheet_69 : decode cX8_sheet 69 = .ok (.ireturn, 1) := by decide +kernel
theorem dX8_sheet_70 : decode cX8_sheet 70 = .ok (.aload_n 0, 1) := by decide +kernel
theorem dX8_sheet_71 : decode cX8_sheet 71 = .ok (.getfield 354, 3) := by decide +kernel
theorem dX8_sheet_74 : decode cX8_sheet 74 = .ok (.ireturn, 1) := by decide +kernel
theorem dX8_sheet_75 : decode cX8_sheet 75 = .ok (.aload_n 0, 1) := by decide +kernel
theorem dX8_sheet_76 : decode cX8_sheet 76 = .ok (.getfield 354, 3) := by decide +kernel
theorem dX8_sheet_79 : decode cX8_sheet 79 = .ok (.ifCond .le 17, 3) := by decide +kernel
theorem dX8_sheet_82 : decode cX8_sheet 82 = .ok (.aload_n 0, 1) := by decide +kernel
theorem dX8_sheet_83 : decode cX8_sheet 83 = .ok (.getfield 49, 3) := by decide +kernel
theorem dX8_sheet_86 : decode cX8_sheet 86 = .ok (.aload_n 0, 1) := by decide +kernel
theorem dX8_sheet_87 : decode cX8_sheet 87 = .ok (.getfield 354, 3) := by decide +kernel
theorem dX8_sheet_90 : decode cX8_sheet 90 = .ok (.iconst 1, 1) := by decide +kernel
theorem dX8_sheet_91 : decode cX8_sheet 91 = .ok (.isub, 1) := by decide +kernel
theorem dX8_sheet_92 : decode cX8_sheet 92 = .ok (.iaload, 1) := by decide +kernel
theorem dX8_sheet_93 : decode cX8_sheet 93 = .ok (.goto 4, 3) := by decide +kernel
theorem dX8_sheet_96 : decode cX8_sheet 96 = .ok (.iconst 0, 1) := by decide +kernel
theorem dX8_sheet_97 : decode cX8_sheet 97 = .ok (.ireturn, 1) := by decide +kernel
abbrev rm_X8_sheet : Room := { frames := 0, cells := 0, slots := 0, locals := 0 }
def f_X8_sheet_L14 (cy : Nat → ClassId)  (μ : Mem) : Option (Int32 × Mem) :=
  some ((-1), μ)
set_option maxRecDepth 100000 in
set_option maxHeartbeats 4000000 in
theorem w_X8_sheet_L14 {p : Program} {l : Launch} {e : Env} {s : State} {m : MethodId} {args : Array Value} {below : List Frame} {meth : Method} {c : Code} {A : Nat → Prop} {g : Wg} {L : List Nat} {r : Int32} {μ' : Mem} (hC : CX p m c cX8_sheet 2 s args RX8) (hr : meth.sig.returnType = (some .int)) (hlocks : meth.locks = false) : ∀  (μ : Mem) (H : Heap) (locs : List Loc) (ls : Array Slot), lv_has ls 2 [] → PW g L μ A s H locs → f_X8_sheet_L14 g.2  μ = some (r, μ') → W p l e rm_X8_sheet s m args below meth c H locs 0 0 (MQ below (QI g L A r μ') args s 0 0 A) (F0 m 14 ls []) := by
  have hx := hC.1
  have hb := hC.2.1
  intro  μ H locs ls hl hw hf
  unfold f_X8_sheet_L14 at hf
  refine lv_iconst (v := (-1)) hx hb dX8_sheet_14 nc_iconst_m1 ?_
  obtain ⟨rfl, rfl⟩ := o_ret hf
  exact pw_iret hC hr hlocks hw dX8_sheet_15
def f_X8_sheet (cy : Nat → ClassId) (a0 : Nat) (a1 : Int32) (μ : Mem) : Option (Int32 × Mem) :=
  (wrF μ a0 7 0 (.int 0)).bind fun μ1 => if a1 < 0 then (f_X8_sheet_L14 cy  μ1) else if a1 ≤ 3 then ((rdI μ1 a0 7 12).bind fun v5 => if v5 = 0 then (some (0, μ1)) else if Int32.toInt a1 < 0 ∨ 2 < Int32.toInt a1 then ((rdI μ1 a0 7 13).bind fun v9 => if v9 ≤ 0 then (some (0, μ1)) else (rdR μ1 a0 7 16).bind fun q12 => (rdI μ1 a0 7 13).bind fun v14 => (rdA cy μ1 1 q12 (v14 - 1)).bind fun v16 => some (v16, μ1)) else if a1 = 0 then ((rdI μ1 a0 7 13).bind fun v19 => if v19 ≤ 0 then (some (2, μ1)) else some (1, μ1)) else if a1 = 1 then ((rdI μ1 a0 7 11).bind fun v23 => some (v23, μ1)) else if a1 = 2 then ((rdI μ1 a0 7 13).bind fun v26 => some (v26, μ1)) else none) else f_X8_sheet_L14 cy  μ1
set_option maxRecDepth 100000 in
set_option maxHeartbeats 4000000 in
theorem c_X8_sheet {l : Launch} {g : Wg} {L : List Nat} {μ : Mem} {a0 : Nat} {a1 : Int32} {r : Int32} {μ' : Mem} (hf : f_X8_sheet g.2 a0 a1 μ = some (r, μ')) : MetI l yX8_sheet cX8_sheet 2 (some .int) rm_X8_sheet g L μ [.ref a0, .int a1] r μ' := by
  refine pw_met (Qc := fun A => QI g L A r μ') (by decide) (Nat.le_of_ble_eq_true rfl) ?_
  intro p e s m args below meth c A ls H locs hC hr hlocks hl hw
  have hx := hC.1
  have hb := hC.2.1
  have hl : lv_has ls 2 [(0, .ref a0), (1, .int a1)] := hl
  unfold f_X8_sheet at hf
  refine lv_aload_n hx hb dX8_sheet_0 rfl (lv_at hl 0 rfl) ?_
  refine lv_iconst (v := 0) hx hb dX8_sheet_1 nc_iconst_0 ?_
  obtain ⟨μ1, h2, hf⟩ := o_bind hf
  refine pw_put hC fl_X8_1 hw h2 .int fd_X8_0 rfl rfl dX8_sheet_2 (fun H locs hw => ?_)
  refine lv_iload_n hx hb dX8_sheet_5 rfl (lv_at hl 1 rfl) ?_
  refine lv_if_lt (tgt := 14) hx hb dX8_sheet_6 (by decide) (fun c3 => ?_) (fun c3 => ?_)
  · have hf := o_pos c3 hf
    exact w_X8_sheet_L14 hC hr hlocks  _ _ _ ls (lv_sub hl [] rfl) hw hf
  · have hf := o_neg c3 hf
    refine lv_iload_n hx hb dX8_sheet_9 rfl (lv_at hl 1 rfl) ?_
    refine lv_iconst (v := 3) hx hb dX8_sheet_10 nc_iconst_3 ?_
    refine lv_icmp_le (tgt := 16) hx hb dX8_sheet_11 (by decide) (fun c4 => ?_) (fun c4 => ?_)
    · have hf := o_pos c4 hf
      refine lv_aload_n hx hb dX8_sheet_16 rfl (lv_at hl 0 rfl) ?_
      obtain ⟨v5, h6, hf⟩ := o_bind hf
      refine pw_get hC fl_X8_348 hw (rdI_F h6) dX8_sheet_17 ?_
      refine lv_if_ne (tgt := 25) hx hb dX8_sheet_20 (by decide) (fun c7 => ?_) (fun c7 => ?_)
      · have hf := o_neg c7 hf
        refine lv_iload_n hx hb dX8_sheet_25 rfl (lv_at hl 1 rfl) ?_
        rcases o_if hf with ⟨c8, hf⟩ | ⟨c8, hf⟩
        · refine lv_tableOut (tgt := 75) hx hb dX8_sheet_26 c8 (by decide) ?_
          refine lv_aload_n hx hb dX8_sheet_75 rfl (lv_at hl 0 rfl) ?_
          obtain ⟨v9, h10, hf⟩ := o_bind hf
          refine pw_get hC fl_X8_354 hw (rdI_F h10) dX8_sheet_76 ?_
          refine lv_if_le (tgt := 96) hx hb dX8_sheet_79 (by decide) (fun c11 => ?_) (fun c11 => ?_)
          · have hf := o_pos c11 hf
            refine lv_iconst (v := 0) hx hb dX8_sheet_96 nc_iconst_0 ?_
            obtain ⟨rfl, rfl⟩ := o_ret hf
            exact pw_iret hC hr hlocks hw dX8_sheet_97
          · have hf := o_neg c11 hf
            refine lv_aload_n hx hb dX8_sheet_82 rfl (lv_at hl 0 rfl) ?_
            obtain ⟨q12, h13, hf⟩ := o_bind hf
            refine pw_get hC fl_X8_49 hw (rdR_F h13) dX8_sheet_83 ?_
            refine lv_aload_n hx hb dX8_sheet_86 rfl (lv_at hl 0 rfl) ?_
            obtain ⟨v14, h15, hf⟩ := o_bind hf
            refine pw_get hC fl_X8_354 hw (rdI_F h15) dX8_sheet_87 ?_
            refine lv_iconst (v := 1) hx hb dX8_sheet_90 nc_iconst_1 ?_
            refine lv_isub hx hb dX8_sheet_91 ?_
            obtain ⟨v16, h17, hf⟩ := o_bind hf
            refine pw_iald hC hw h17 dX8_sheet_92 ?_
            refine lv_goto (tgt := 97) hx hb dX8_sheet_93 (by decide) ?_
            obtain ⟨rfl, rfl⟩ := o_ret hf
            exact pw_iret hC hr hlocks hw dX8_sheet_97
        · rcases o_if hf with ⟨c18, hf⟩ | ⟨-, hf⟩
          · refine lv_tableIn (tgt := 52) hx hb dX8_sheet_26 (by rw [c18]; decide) (by rw [c18]; decide) (by rw [c18]; rfl) (by decide) ?_
            refine lv_aload_n hx hb dX8_sheet_52 rfl (lv_at hl 0 rfl) ?_
            obtain ⟨v19, h20, hf⟩ := o_bind hf
            refine pw_get hC fl_X8_354 hw (rdI_F h20) dX8_sheet_53 ?_
            refine lv_if_le (tgt := 63) hx hb dX8_sheet_56 (by decide) (fun c21 => ?_) (fun c21 => ?_)
            · have hf := o_pos c21 hf
              refine lv_iconst (v := 2) hx hb dX8_sheet_63 nc_iconst_2 ?_
              obtain ⟨rfl, rfl⟩ := o_ret hf
              exact pw_iret hC hr hlocks hw dX8_sheet_64
            · have hf := o_neg c21 hf
              refine lv_iconst (v := 1) hx hb dX8_sheet_59 nc_iconst_1 ?_
              refine lv_goto (tgt := 64) hx hb dX8_sheet_60 (by decide) ?_
              obtain ⟨rfl, rfl⟩ := o_ret hf
              exact pw_iret hC hr hlocks hw dX8_sheet_64
          · rcases o_if hf with ⟨c22, hf⟩ | ⟨-, hf⟩
            · refine lv_tableIn (tgt := 65) hx hb dX8_sheet_26 (by rw [c22]; decide) (by rw [c22]; decide) (by rw [c22]; rfl) (by decide) ?_
              refine lv_aload_n hx hb dX8_sheet_65 rfl (lv_at hl 0 rfl) ?_
              obtain ⟨v23, h24, hf⟩ := o_bind hf
              refine pw_get hC fl_X8_351 hw (rdI_F h24) dX8_sheet_66 ?_
              obtain ⟨rfl, rfl⟩ := o_ret hf
              exact pw_iret hC hr hlocks hw dX8_sheet_69
            · rcases o_if hf with ⟨c25, hf⟩ | ⟨-, hf⟩
              · refine lv_tableIn (tgt := 70) hx hb dX8_sheet_26 (by rw [c25]; decide) (by rw [c25]; decide) (by rw [c25]; rfl) (by decide) ?_
                refine lv_aload_n hx hb dX8_sheet_70 rfl (lv_at hl 0 rfl) ?_
                obtain ⟨v26, h27, hf⟩ := o_bind hf
                refine pw_get hC fl_X8_354 hw (rdI_F h27) dX8_sheet_71 ?_
                obtain ⟨rfl, rfl⟩ := o_ret hf
                exact pw_iret hC hr hlocks hw dX8_sheet_74
              · cases hf
      · have hf := o_pos c7 hf
        refine lv_iconst (v := 0) hx hb dX8_sheet_23 nc_iconst_0 ?_
        obtain ⟨rfl, rfl⟩ := o_ret hf
        exact pw_iret hC hr hlocks hw dX8_sheet_24
    · have hf := o_neg c4 hf
      exact w_X8_sheet_L14 hC hr hlocks  _ _ _ ls (lv_sub hl [] rfl) hw hf
theorem dX8_sheetAt_0 : decode cX8_sheetAt 0 = .ok (.aload_n 0, 1) := by decide +kernel
theorem dX8_sheetAt_1 : decode cX8_sheetAt 1 = .ok (.iconst 0, 1) := by decide +kernel
theorem dX8_sheetAt_2 : decode cX8_sheetAt 2 = .ok (.putfield 1, 3) := by decide +kernel
theorem dX8_sheetAt_5 : decode cX8_sheetAt 5 = .ok (.aload_n 0, 1) := by decide +kernel
theorem dX8_sheetAt_6 : decode cX8_sheetAt 6 = .ok (.getfield 348, 3) := by decide +kernel
theorem dX8_sheetAt_9 : decode cX8_sheetAt 9 = .ok (.ifCond .eq 15, 3) := by decide +kernel
theorem dX8_sheetAt_12 : decode cX8_sheetAt 12 = .ok (.iload_n 1, 1) := by decide +kernel
theorem dX8_sheetAt_13 : decode cX8_sheetAt 13 = .ok (.ifCond .lt 11, 3) := by decide +kernel
theorem dX8_sheetAt_16 : decode cX8_sheetAt 16 = .ok (.iload_n 1, 1) := by decide +kernel
theorem dX8_sheetAt_17 : decode cX8_sheetAt 17 = .ok (.aload_n 0, 1) := by decide +kernel
theorem dX8_sheetAt_18 : decode cX8_sheetAt 18 = .ok (.getfield 351, 3) := by decide +kernel
theorem dX8_sheetAt_21 : decode cX8_sheetAt 21 = .ok (.if_icmp .lt 7, 3) := by decide +kernel
theorem dX8_sheetAt_24 : decode cX8_sheetAt 24 = .ok (.iconst (-1), 1) := by decide +kernel
theorem dX8_sheetAt_25 : decode cX8_sheetAt 25 = .ok (.goto 13, 3) := by decide +kernel
theorem dX8_sheetAt_28 : decode cX8_sheetAt 28 = .ok (.aload_n 0, 1) := by decide +kernel
theorem dX8_sheetAt_29 : decode cX8_sheetAt 29 = .ok (.getfield 40, 3) := by decide +kernel
theorem dX8_sheetAt_32 : decode cX8_sheetAt 32 = .ok (.iload_n 1, 1) := by decide +kernel
theorem dX8_sheetAt_33 : decode cX8_sheetAt 33 = .ok (.baload, 1) := by decide +kernel
theorem dX8_sheetAt_34 : decode cX8_sheetAt 34 = .ok (.sipush 255, 3) := by decide +kernel
theorem dX8_sheetAt_37 : decode cX8_sheetAt 37 = .ok (.iand, 1) := by decide +kernel
theorem dX8_sheetAt_38 : decode cX8_sheetAt 38 = .ok (.ireturn, 1) := by decide +kernel
abbrev rm_X8_sheetAt : Room := { frames := 0, cells := 0, slots := 0, locals := 0 }
def f_X8_sheetAt_L24 (cy : Nat → ClassId)  (μ : Mem) : Option (Int32 × Mem) :=
  some ((-1), μ)
set_option maxRecDepth 100000 in
set_option maxHeartbeats 4000000 in
theorem w_X8_sheetAt_L24 {p : Program} {l : Launch} {e : Env} {s : State} {m : MethodId} {args : Array Value} {below : List Frame} {meth : Method} {c : Code} {A : Nat → Prop} {g : Wg} {L : List Nat} {r : Int32} {μ' : Mem} (hC : CX p m c cX8_sheetAt 2 s args RX8) (hr : meth.sig.returnType = (some .int)) (hlocks : meth.locks = false) : ∀  (μ : Mem) (H : Heap) (locs : List Loc) (ls : Array Slot), lv_has ls 2 [] → PW g L μ A s H locs → f_X8_sheetAt_L24 g.2  μ = some (r, μ') → W p l e rm_X8_sheetAt s m args below meth c H locs 0 0 (MQ below (QI g L A r μ') args s 0 0 A) (F0 m 24 ls []) := by
  have hx := hC.1
  have hb := hC.2.1
  intro  μ H locs ls hl hw hf
  unfold f_X8_sheetAt_L24 at hf
  refine lv_iconst (v := (-1)) hx hb dX8_sheetAt_24 nc_iconst_m1 ?_
  refine lv_goto (tgt := 38) hx hb dX8_sheetAt_25 (by decide) ?_
  obtain ⟨rfl, rfl⟩ := o_ret hf
  exact pw_iret hC hr hlocks hw dX8_sheetAt_38
def f_X8_sheetAt (cy : Nat → ClassId) (a0 : Nat) (a1 : Int32) (μ : Mem) : Option (Int32 × Mem) :=
  (wrF μ a0 7 0 (.int 0)).bind fun μ1 => (rdI μ1 a0 7 12).bind fun v3 => if v3 = 0 then (f_X8_sheetAt_L24 cy  μ1) else if a1 < 0 then (f_X8_sheetAt_L24 cy  μ1) else (rdI μ1 a0 7 11).bind fun v7 => if a1 < v7 then ((rdR μ1 a0 7 10).bind fun q10 => (rdA cy μ1 0 q10 a1).bind fun v12 => some ((v12 &&& 255), μ1)) else f_X8_sheetAt_L24 cy  μ1
set_option maxRecDepth 100000 in
set_option maxHeartbeats 4000000 in
theorem c_X8_sheetAt {l : Launch} {g : Wg} {L : List Nat} {μ : Mem} {a0 : Nat} {a1 : Int32} {r : Int32} {μ' : Mem} (hf : f_X8_sheetAt g.2 a0 a1 μ = some (r, μ')) : MetI l yX8_sheetAt cX8_sheetAt 2 (some .int) rm_X8_sheetAt g L μ [.ref a0, .int a1] r μ' := by
  refine pw_met (Qc := fun A => QI g L A r μ') (by decide) (Nat.le_of_ble_eq_true rfl) ?_
  intro p e s m args below meth c A ls H locs hC hr hlocks hl hw
  have hx := hC.1
  have hb := hC.2.1
  have hl : lv_has ls 2 [(0, .ref a0), (1, .int a1)] := hl
  unfold f_X8_sheetAt at hf
  refine lv_aload_n hx hb dX8_sheetAt_0 rfl (lv_at hl 0 rfl) ?_
  refine lv_iconst (v := 0) hx hb dX8_sheetAt_1 nc_iconst_0 ?_
  obtain ⟨μ1, h2, hf⟩ := o_bind hf
  refine pw_put hC fl_X8_1 hw h2 .int fd_X8_0 rfl rfl dX8_sheetAt_2 (fun H locs hw => ?_)
  refine lv_aload_n hx hb dX8_sheetAt_5 rfl (lv_at hl 0 rfl) ?_
  obtain ⟨v3, h4, hf⟩ := o_bind hf
  refine pw_get hC fl_X8_348 hw (rdI_F h4) dX8_sheetAt_6 ?_
  refine lv_if_eq (tgt := 24) hx hb dX8_sheetAt_9 (by decide) (fun c5 => ?_) (fun c5 => ?_)
  · have hf := o_pos c5 hf
    exact w_X8_sheetAt_L24 hC hr hlocks  _ _ _ ls (lv_sub hl [] rfl) hw hf
  · have hf := o_neg c5 hf
    refine lv_iload_n hx hb dX8_sheetAt_12 rfl (lv_at hl 1 rfl) ?_
    refine lv_if_lt (tgt := 24) hx hb dX8_sheetAt_13 (by decide) (fun c6 => ?_) (fun c6 => ?_)
    · have hf := o_pos c6 hf
      exact w_X8_sheetAt_L24 hC hr hlocks  _ _ _ ls (lv_sub hl [] rfl) hw hf
    · have hf := o_neg c6 hf
      refine lv_iload_n hx hb dX8_sheetAt_16 rfl (lv_at hl 1 rfl) ?_
      refine lv_aload_n hx hb dX8_sheetAt_17 rfl (lv_at hl 0 rfl) ?_
      obtain ⟨v7, h8, hf⟩ := o_bind hf
      refine pw_get hC fl_X8_351 hw (rdI_F h8) dX8_sheetAt_18 ?_
      refine lv_icmp_lt (tgt := 28) hx hb dX8_sheetAt_21 (by decide) (fun c9 => ?_) (fun c9 => ?_)
      · have hf := o_pos c9 hf
        refine lv_aload_n hx hb dX8_sheetAt_28 rfl (lv_at hl 0 rfl) ?_
        obtain ⟨q10, h11, hf⟩ := o_bind hf
        refine pw_get hC fl_X8_40 hw (rdR_F h11) dX8_sheetAt_29 ?_
        refine lv_iload_n hx hb dX8_sheetAt_32 rfl (lv_at hl 1 rfl) ?_
        obtain ⟨v12, h13, hf⟩ := o_bind hf
        refine pw_bald hC hw h13 dX8_sheetAt_33 ?_
        refine lv_sipush (v := 255) hx hb dX8_sheetAt_34 nc_sipush_255 ?_
        refine lv_iand hx hb dX8_sheetAt_37 ?_
        obtain ⟨rfl, rfl⟩ := o_ret hf
        exact pw_iret hC hr hlocks hw dX8_sheetAt_38
      · have hf := o_neg c9 hf
        exact w_X8_sheetAt_L24 hC hr hlocks  _ _ _ ls (lv_sub hl [] rfl) hw hf
theorem dX8_named_0 : decode cX8_named 0 = .ok (.aload_n 0, 1) := by decide +kernel
theorem dX8_named_1 : decode cX8_named 1 = .ok (.getfield 67, 3) := by decide +kernel
theorem dX8_named_4 : decode cX8_named 4 = .ok (.getfield 201, 3) := by decide +kernel
theorem dX8_named_7 : decode cX8_named 7 = .ok (.iload_n 1, 1) := by decide +kernel
theorem dX8_named_8 : decode cX8_named 8 = .ok (.iaload, 1) := by decide +kernel
theorem dX8_named_9 : decode cX8_named 9 = .ok (.istore 4, 2) := by decide +kernel
theorem dX8_named_11 : decode cX8_named 11 = .ok (.iconst 0, 1) := by decide +kernel
theorem dX8_named_12 : decode cX8_named 12 = .ok (.istore 5, 2) := by decide +kernel
theorem dX8_named_14 : decode cX8_named 14 = .ok (.iload 4, 2) := by decide +kernel
theorem dX8_named_16 : decode cX8_named 16 = .ok (.ifCond .lt 32, 3) := by decide +kernel
theorem dX8_named_19 : decode cX8_named 19 = .ok (.aload_n 0, 1) := by decide +kernel
theorem dX8_named_20 : decode cX8_named 20 = .ok (.iload 4, 2) := by decide +kernel
theorem dX8_named_22 : decode cX8_named 22 = .ok (.iload_n 2, 1) := by decide +kernel
theorem dX8_named_23 : decode cX8_named 23 = .ok (.iload_n 3, 1) := by decide +kernel
theorem dX8_named_24 : decode cX8_named 24 = .ok (.invokevirtual 204, 3) := by decide +kernel
theorem dX8_named_27 : decode cX8_named 27 = .ok (.ifCond .ne 21, 3) := by decide +kernel
theorem dX8_named_30 : decode cX8_named 30 = .ok (.aload_n 0, 1) := by decide +kernel
theorem dX8_named_31 : decode cX8_named 31 = .ok (.getfield 67, 3) := by decide +kernel
theorem dX8_named_34 : decode cX8_named 34 = .ok (.getfield 207, 3) := by decide +kernel
theorem dX8_named_37 : decode cX8_named 37 = .ok (.iload 4, 2) := by decide +kernel
theorem dX8_named_39 : decode cX8_named 39 = .ok (.iaload, 1) := by decide +kernel
theorem dX8_named_40 : decode cX8_named 40 = .ok (.istore 4, 2) := by decide +kernel
theorem dX8_named_42 : decode cX8_named 42 = .ok (.iinc 5 1, 3) := by decide +kernel
theorem dX8_named_45 : decode cX8_named 45 = .ok (.goto (-31), 3) := by decide +kernel
theorem dX8_named_48 : decode cX8_named 48 = .ok (.iload 4, 2) := by decide +kernel
theorem dX8_named_50 : decode cX8_named 50 = .ok (.ifCond .lt 8, 3) := by decide +kernel
theorem dX8_named_53 : decode cX8_named 53 = .ok (.iload 5, 2) := by decide +kernel
theorem dX8_named_55 : decode cX8_named 55 = .ok (.goto 4, 3) := by decide +kernel
theorem dX8_named_58 : decode cX8_named 58 = .ok (.iconst (-1), 1) := by decide +kernel
theorem dX8_named_59 : decode cX8_named 59 = .ok (.ireturn, 1) := by decide +kernel
abbrev rm_X8_named : Room := { frames := 1, cells := 0, slots := 0, locals := 25 }
def f_X8_named_L48 (cy : Nat → ClassId) (a4 : Int32) (a5 : Int32) (μ : Mem) : Option (Int32 × Mem) :=
  if a4 < 0 then (some ((-1), μ)) else some (a5, μ)
set_option maxRecDepth 100000 in
set_option maxHeartbeats 4000000 in
theorem w_X8_named_L48 {p : Program} {l : Launch} {e : Env} {s : State} {m : MethodId} {args : Array Value} {below : List Frame} {meth : Method} {c : Code} {A : Nat → Prop} {g : Wg} {L : List Nat} {r : Int32} {μ' : Mem} (hC : CX p m c cX8_named 6 s args RX8) (hr : meth.sig.returnType = (some .int)) (hlocks : meth.locks = false) : ∀ (a4 : Int32) (a5 : Int32) (μ : Mem) (H : Heap) (locs : List Loc) (ls : Array Slot), lv_has ls 6 [(4, .int a4), (5, .int a5)] → PW g L μ A s H locs → f_X8_named_L48 g.2 a4 a5 μ = some (r, μ') → W p l e rm_X8_named s m args below meth c H locs 0 0 (MQ below (QI g L A r μ') args s 0 0 A) (F0 m 48 ls []) := by
  have hx := hC.1
  have hb := hC.2.1
  intro a4 a5 μ H locs ls hl hw hf
  unfold f_X8_named_L48 at hf
  refine lv_iload hx hb dX8_named_48 (lv_at hl 0 rfl) ?_
  refine lv_if_lt (tgt := 58) hx hb dX8_named_50 (by decide) (fun c101 => ?_) (fun c101 => ?_)
  · have hf := o_pos c101 hf
    refine lv_iconst (v := (-1)) hx hb dX8_named_58 nc_iconst_m1 ?_
    obtain ⟨rfl, rfl⟩ := o_ret hf
    exact pw_iret hC hr hlocks hw dX8_named_59
  · have hf := o_neg c101 hf
    refine lv_iload hx hb dX8_named_53 (lv_at hl 1 rfl) ?_
    refine lv_goto (tgt := 59) hx hb dX8_named_55 (by decide) ?_
    obtain ⟨rfl, rfl⟩ := o_ret hf
    exact pw_iret hC hr hlocks hw dX8_named_59
def f_X8_named_L14 (cy : Nat → ClassId) : Nat → Nat → Int32 → Int32 → Int32 → Int32 → Mem → Option (Int32 × Mem)
  | 0, _, _, _, _, _, _ => none
  | n + 1, a0, a2, a3, a4, a5, μ => if a4 < 0 then (f_X8_named_L48 cy a4 a5 μ) else if isO μ a0 7 = true then (ob2 (f_X8_isNamed cy a0 a4 a2 a3 μ) fun r105 μ104 => if r105 = 0 then ((rdR μ104 a0 7 21).bind fun q107 => (rdR μ104 q107 6 5).bind fun q109 => (rdA cy μ104 1 q109 a4).bind fun v111 => f_X8_named_L14 cy n a0 a2 a3 v111 (a5 + 1) μ104) else f_X8_named_L48 cy a4 a5 μ104) else none
set_option maxRecDepth 100000 in
set_option maxHeartbeats 4000000 in
theorem w_X8_named_L14 {p : Program} {l : Launch} {e : Env} {s : State} {m : MethodId} {args : Array Value} {below : List Frame} {meth : Method} {c : Code} {A : Nat → Prop} {g : Wg} {L : List Nat} {r : Int32} {μ' : Mem} (hC : CX p m c cX8_named 6 s args RX8) (hr : meth.sig.returnType = (some .int)) (hlocks : meth.locks = false) : ∀ (n : Nat), ∀ (a0 : Nat) (a2 : Int32) (a3 : Int32) (a4 : Int32) (a5 : Int32) (μ : Mem) (H : Heap) (locs : List Loc) (ls : Array Slot), lv_has ls 6 [(0, .ref a0), (2, .int a2), (3, .int a3), (4, .int a4), (5, .int a5)] → PW g L μ A s H locs → f_X8_named_L14 g.2 n a0 a2 a3 a4 a5 μ = some (r, μ') → W p l e rm_X8_named s m args below meth c H locs 0 0 (MQ below (QI g L A r μ') args s 0 0 A) (F0 m 14 ls []) := by
  have hx := hC.1
  have hb := hC.2.1
  intro n
  induction n with
  | zero => intro a0 a2 a3 a4 a5 μ H locs ls hl hw hf; cases hf
  | succ n ih =>
    intro a0 a2 a3 a4 a5 μ H locs ls hl hw hf
    rw [f_X8_named_L14] at hf
    refine lv_iload hx hb dX8_named_14 (lv_at hl 3 rfl) ?_
    refine lv_if_lt (tgt := 48) hx hb dX8_named_16 (by decide) (fun c101 => ?_) (fun c101 => ?_)
    · have hf := o_pos c101 hf
      exact w_X8_named_L48 hC hr hlocks _ _ _ _ _ ls (lv_sub hl [3, 4] rfl) hw hf
    · have hf := o_neg c101 hf
      refine lv_aload_n hx hb dX8_named_19 rfl (lv_at hl 0 rfl) ?_
      refine lv_iload hx hb dX8_named_20 (lv_at hl 3 rfl) ?_
      refine lv_iload_n hx hb dX8_named_22 rfl (lv_at hl 1 rfl) ?_
      refine lv_iload_n hx hb dX8_named_23 rfl (lv_at hl 2 rfl) ?_
      obtain ⟨h103, hf⟩ := o_ite hf
      obtain ⟨r105, μ104, h102, hf⟩ := o_bind2 hf
      refine pw_goI hw (pw_runV (As := [.int a4, .int a2, .int a3]) (rest := []) hC mm_X8_isNamed tw_1358 (c_X8_isNamed h102 _) ⟨rfl, rfl, by decide, by decide⟩ hw h103 rfl hl.1 (Nat.le_of_ble_eq_true rfl) ⟨Nat.zero_le _, Nat.zero_le _⟩ rfl dX8_named_24) (fun H locs hw => ?_)
      refine lv_if_ne (tgt := 48) hx hb dX8_named_27 (by decide) (fun c106 => ?_) (fun c106 => ?_)
      · have hf := o_neg c106 hf
        exact w_X8_named_L48 hC hr hlocks _ _ _ _ _ ls (lv_sub hl [3, 4] rfl) hw hf
      · have hf := o_pos c106 hf
        refine lv_aload_n hx hb dX8_named_30 rfl (lv_at hl 0 rfl) ?_
        obtain ⟨q107, h108, hf⟩ := o_bind hf
        refine pw_get hC fl_X8_67 hw (rdR_F h108) dX8_named_31 ?_
        obtain ⟨q109, h110, hf⟩ := o_bind hf
        refine pw_get hC fl_X8_207 hw (rdR_F h110) dX8_named_34 ?_
        refine lv_iload hx hb dX8_named_37 (lv_at hl 3 rfl) ?_
        obtain ⟨v111, h112, hf⟩ := o_bind hf
        refine pw_iald hC hw h112 dX8_named_39 ?_
        refine lv_istore (lv' := [(4, .int v111), (0, .ref a0), (2, .int a2), (3, .int a3), (5, .int a5)]) hx hb dX8_named_40 hl (by decide) rfl (fun ls hl => ?_)
        refine lv_iinc (v := (a5 + 1)) (lv' := [(5, .int (a5 + 1)), (4, .int v111), (0, .ref a0), (2, .int a2), (3, .int a3)]) hx hb dX8_named_42 hl (k := 4) rfl (by first | rfl | decide +kernel) (by decide) rfl (fun ls hl => ?_)
        refine lv_goto (tgt := 14) hx hb dX8_named_45 (by decide) ?_
        exact ih _ _ _ _ _ _ _ _ ls (lv_sub hl [2, 3, 4, 1, 0] rfl) hw hf
def f_X8_named (cy : Nat → ClassId) (a0 : Nat) (a1 : Int32) (a2 : Int32) (a3 : Int32) (μ : Mem) : Option (Int32 × Mem) :=
  (rdR μ a0 7 21).bind fun q1 => (rdR μ q1 6 4).bind fun q3 => (rdA cy μ 1 q3 a1).bind fun v5 => f_X8_named_L14 cy FU a0 a2 a3 v5 0 μ
set_option maxRecDepth 100000 in
set_option maxHeartbeats 4000000 in
theorem c_X8_named {l : Launch} {g : Wg} {L : List Nat} {μ : Mem} {a0 : Nat} {a1 : Int32} {a2 : Int32} {a3 : Int32} {r : Int32} {μ' : Mem} (hf : f_X8_named g.2 a0 a1 a2 a3 μ = some (r, μ')) : MetI l yX8_named cX8_named 6 (some .int) rm_X8_named g L μ [.ref a0, .int a1, .int a2, .int a3] r μ' := by
  refine pw_met (Qc := fun A => QI g L A r μ') (by decide) (Nat.le_of_ble_eq_true rfl) ?_
  intro p e s m args below meth c A ls H locs hC hr hlocks hl hw
  have hx := hC.1
  have hb := hC.2.1
  have hl : lv_has ls 6 [(0, .ref a0), (1, .int a1), (2, .int a2), (3, .int a3)] := hl
  unfold f_X8_named at hf
  refine lv_aload_n hx hb dX8_named_0 rfl (lv_at hl 0 rfl) ?_
  obtain ⟨q1, h2, hf⟩ := o_bind hf
  refine pw_get hC fl_X8_67 hw (rdR_F h2) dX8_named_1 ?_
  obtain ⟨q3, h4, hf⟩ := o_bind hf
  refine pw_get hC fl_X8_201 hw (rdR_F h4) dX8_named_4 ?_
  refine lv_iload_n hx hb dX8_named_7 rfl (lv_at hl 1 rfl) ?_
  obtain ⟨v5, h6, hf⟩ := o_bind hf
  refine pw_iald hC hw h6 dX8_named_8 ?_
  refine lv_istore (lv' := [(4, .int v5), (0, .ref a0), (1, .int a1), (2, .int a2), (3, .int a3)]) hx hb dX8_named_9 hl (by decide) rfl (fun ls hl => ?_)
  refine lv_iconst (v := 0) hx hb dX8_named_11 nc_iconst_0 ?_
  refine lv_istore (lv' := [(5, .int 0), (4, .int v5), (0, .ref a0), (1, .int a1), (2, .int a2), (3, .int a3)]) hx hb dX8_named_12 hl (by decide) rfl (fun ls hl => ?_)
  exact w_X8_named_L14 hC hr hlocks FU _ _ _ _ _ _ _ _ ls (lv_sub hl [2, 4, 5, 1, 0] rfl) hw hf
theorem dX8_ints_0 : decode cX8_ints 0 = .ok (.aload_n 0, 1) := by decide +kernel
theorem dX8_ints_1 : decode cX8_ints 1 = .ok (.getfield 67, 3) := by decide +kernel
theorem dX8_ints_4 : decode cX8_ints 4 = .ok (.getfield 231, 3) := by decide +kernel
theorem dX8_ints_7 : decode cX8_ints 7 = .ok (.iload_n 1, 1) := by decide +kernel
theorem dX8_ints_8 : decode cX8_ints 8 = .ok (.iaload, 1) := by decide +kernel
theorem dX8_ints_9 : decode cX8_ints 9 = .ok (.istore_n 2, 1) := by decide +kernel
theorem dX8_ints_10 : decode cX8_ints 10 = .ok (.aload_n 0, 1) := by decide +kernel
theorem dX8_ints_11 : decode cX8_ints 11 = .ok (.getfield 67, 3) := by decide +kernel
theorem dX8_ints_14 : decode cX8_ints 14 = .ok (.getfield 228, 3) := by decide +kernel
theorem dX8_ints_17 : decode cX8_ints 17 = .ok (.iload_n 1, 1) := by decide +kernel
theorem dX8_ints_18 : decode cX8_ints 18 = .ok (.iaload, 1) := by decide +kernel
theorem dX8_ints_19 : decode cX8_ints 19 = .ok (.tableswitch 143 2 15 #[69, 77, 77, 85, 143, 143, 143, 143, 143, 143, 69, 69, 69, 115], 69) := by decide +kernel
theorem dX8_ints_88 : decode cX8_ints 88 = .ok (.aload_n 0, 1) := by decide +kernel
theorem dX8_ints_89 : decode cX8_ints 89 = .ok (.iload_n 2, 1) := by decide +kernel
theorem dX8_ints_90 : decode cX8_ints 90 = .ok (.invokevirtual 247, 3) := by decide +kernel
theorem dX8_ints_93 : decode cX8_ints 93 = .ok (.goto 69, 3) := by decide +kernel
theorem dX8_ints_96 : decode cX8_ints 96 = .ok (.aload_n 0, 1) := by decide +kernel
theorem dX8_ints_97 : decode cX8_ints 97 = .ok (.iload_n 2, 1) := by decide +kernel
theorem dX8_ints_98 : decode cX8_ints 98 = .ok (.invokevirtual 247, 3) := by decide +kernel
theorem dX8_ints_101 : decode cX8_ints 101 = .ok (.goto 61, 3) := by decide +kernel
theorem dX8_ints_104 : decode cX8_ints 104 = .ok (.aload_n 0, 1) := by decide +kernel
theorem dX8_ints_105 : decode cX8_ints 105 = .ok (.iload_n 2, 1) := by decide +kernel
theorem dX8_ints_106 : decode cX8_ints 106 = .ok (.invokevirtual 247, 3) := by decide +kernel
theorem dX8_ints_109 : decode cX8_ints 109 = .ok (.aload_n 0, 1) := by decide +kernel
theorem dX8_ints_110 : decode cX8_ints 110 = .ok (.getfield 67, 3) := by decide +kernel
theorem dX8_ints_113 : decode cX8_ints 113 = .ok (.getfield 213, 3) := by decide +kernel
theorem dX8_ints_116 : decode cX8_ints 116 = .ok (.iload_n 2, 1) := by decide +kernel
theorem dX8_ints_117 : decode cX8_ints 117 = .ok (.iconst 4, 1) := by decide +kernel
theorem dX8_ints_118 : decode cX8_ints 118 = .ok (.iadd, 1) := by decide +kernel
theorem dX8_ints_119 : decode cX8_ints 119 = .ok (.baload, 1) := by decide +kernel
theorem dX8_ints_120 : decode cX8_ints 120 = .ok (.iconst 2, 1) := by decide +kernel
theorem dX8_ints_121 : decode cX8_ints 121 = .ok (.if_icmp .ne 41, 3) := by decide +kernel
theorem dX8_ints_124 : decode cX8_ints 124 = .ok (.aload_n 0, 1) := by decide +kernel
theorem dX8_ints_125 : decode cX8_ints 125 = .ok (.iload_n 2, 1) := by decide +kernel
theorem dX8_ints_126 : decode cX8_ints 126 = .ok (.iconst 5, 1) := by decide +kernel
theorem dX8_ints_127 : decode cX8_ints 127 = .ok (.iadd, 1) := by decide +kernel
theorem dX8_ints_128 : decode cX8_ints 128 = .ok (.invokevirtual 247, 3) := by decide +kernel
theorem dX8_ints_131 : decode cX8_ints 131 = .ok (.goto 31, 3) := by decide +kernel
theorem dX8_ints_134 : decode cX8_ints 134 = .ok (.aload_n 0, 1) := by decide +kernel
theorem dX8_ints_135 : decode cX8_ints 135 = .ok (.iload_n 2, 1) := by decide +kernel
theorem dX8_ints_136 : decode cX8_ints 136 = .ok (.invokevirtual 247, 3) := by decide +kernel
theorem dX8_ints_139 : decode cX8_ints 139 = .ok (.aload_n 0, 1) := by decide +kernel
theorem dX8_ints_140 : decode cX8_ints 140 = .ok (.iload_n 2, 1) := by decide +kernel
theorem dX8_ints_141 : decode cX8_ints 141 = .ok (.iconst 4, 1) := by decide +kernel
theorem dX8_ints_142 : decode cX8_ints 142 = .ok (.iadd, 1) := by decide +kernel
theorem dX8_ints_143 : decode cX8_ints 143 = .ok (.invokevirtual 247, 3) := by decide +kernel
theorem dX8_ints_146 : decode cX8_ints 146 = .ok (.aload_n 0, 1) := by decide +kernel
theorem dX8_ints_147 : decode cX8_ints 147 = .ok (.aload_n 0, 1) := by decide +kernel
theorem dX8_ints_148 : decode cX8_ints 148 = .ok (.getfield 67, 3) := by decide +kernel
theorem dX8_ints_151 : decode cX8_ints 151 = .ok (.getfield 222, 3) := by decide +kernel
theorem dX8_ints_154 : decode cX8_ints 154 = .ok (.iload_n 1, 1) := by decide +kernel
theorem dX8_ints_155 : decode cX8_ints 155 = .ok (.iaload, 1) := by decide +kernel
theorem dX8_ints_156 : decode cX8_ints 156 = .ok (.invokevirtual 247, 3) := by decide +kernel
theorem dX8_ints_159 : decode cX8_ints 159 = .ok (.goto 3, 3) := by decide +kernel
theorem dX8_ints_162 : decode cX8_ints 162 = .ok (.return_, 1) := by decide +kernel
abbrev rm_X8_ints : Room := { frames := 2, cells := 0, slots := 0, locals := 42 }
def f_X8_ints (cy : Nat → ClassId) (a0 : Nat) (a1 : Int32) (μ : Mem) : Option Mem :=
  (rdR μ a0 7 21).bind fun q1 => (rdR μ q1 6 8).bind fun q3 => (rdA cy μ 1 q3 a1).bind fun v5 => (rdR μ a0 7 21).bind fun q7 => (rdR μ q7 6 2).bind fun q9 => (rdA cy μ 1 q9 a1).bind fun v11 => if Int32.toInt v11 < 2 ∨ 15 < Int32.toInt v11 then (some μ) else if v11 = 2 ∨ v11 = 12 ∨ v11 = 13 ∨ v11 = 14 then (if isO μ a0 7 = true then ((f_X8_tells cy a0 v5 μ).bind fun μ17 => some μ17) else none) else if v11 = 3 ∨ v11 = 4 then (if isO μ a0 7 = true then ((f_X8_tells cy a0 v5 μ).bind fun μ21 => some μ21) else none) else if v11 = 5 then (if isO μ a0 7 = true then ((f_X8_tells cy a0 v5 μ).bind fun μ25 => (rdR μ25 a0 7 21).bind fun q26 => (rdR μ25 q26 6 0).bind fun q28 => (rdA cy μ25 0 q28 (v5 + 4)).bind fun v30 => if v30 = 2 then (if isO μ25 a0 7 = true then ((f_X8_tells cy a0 (v5 + 5) μ25).bind fun μ35 => some μ35) else none) else some μ25) else none) else if v11 = 6 ∨ v11 = 7 ∨ v11 = 8 ∨ v11 = 9 ∨ v11 = 10 ∨ v11 = 11 then (some μ) else if v11 = 15 then (if isO μ a0 7 = true then ((f_X8_tells cy a0 v5 μ).bind fun μ40 => if isO μ40 a0 7 = true then ((f_X8_tells cy a0 (v5 + 4) μ40).bind fun μ43 => (rdR μ43 a0 7 21).bind fun q44 => (rdR μ43 q44 6 10).bind fun q46 => (rdA cy μ43 1 q46 a1).bind fun v48 => if isO μ43 a0 7 = true then ((f_X8_tells cy a0 v48 μ43).bind fun μ52 => some μ52) else none) else none) else none) else none
set_option maxRecDepth 100000 in
set_option maxHeartbeats 4000000 in
theorem c_X8_ints {l : Launch} {g : Wg} {L : List Nat} {μ : Mem} {a0 : Nat} {a1 : Int32} {μ' : Mem} (hf : f_X8_ints g.2 a0 a1 μ = some μ') : MetV l yX8_ints cX8_ints 3 none rm_X8_ints g L μ [.ref a0, .int a1] μ' := by
  refine pw_met (Qc := fun A => QV g L A μ') (by decide) (Nat.le_of_ble_eq_true rfl) ?_
  intro p e s m args below meth c A ls H locs hC hr hlocks hl hw
  have hx := hC.1
  have hb := hC.2.1
  have hl : lv_has ls 3 [(0, .ref a0), (1, .int a1)] := hl
  unfold f_X8_ints at hf
  refine lv_aload_n hx hb dX8_ints_0 rfl (lv_at hl 0 rfl) ?_
  obtain ⟨q1, h2, hf⟩ := o_bind hf
  refine pw_get hC fl_X8_67 hw (rdR_F h2) dX8_ints_1 ?_
  obtain ⟨q3, h4, hf⟩ := o_bind hf
  refine pw_get hC fl_X8_231 hw (rdR_F h4) dX8_ints_4 ?_
  refine lv_iload_n hx hb dX8_ints_7 rfl (lv_at hl 1 rfl) ?_
  obtain ⟨v5, h6, hf⟩ := o_bind hf
  refine pw_iald hC hw h6 dX8_ints_8 ?_
  refine lv_istore_n (lv' := [(2, .int v5), (0, .ref a0), (1, .int a1)]) hx hb dX8_ints_9 rfl hl (by decide) rfl (fun ls hl => ?_)
  refine lv_aload_n hx hb dX8_ints_10 rfl (lv_at hl 1 rfl) ?_
  obtain ⟨q7, h8, hf⟩ := o_bind hf
  refine pw_get hC fl_X8_67 hw (rdR_F h8) dX8_ints_11 ?_
  obtain ⟨q9, h10, hf⟩ := o_bind hf
  refine pw_get hC fl_X8_228 hw (rdR_F h10) dX8_ints_14 ?_
  refine lv_iload_n hx hb dX8_ints_17 rfl (lv_at hl 2 rfl) ?_
  obtain ⟨v11, h12, hf⟩ := o_bind hf
  refine pw_iald hC hw h12 dX8_ints_18 ?_
  rcases o_if hf with ⟨c13, hf⟩ | ⟨c13, hf⟩
  · refine lv_tableOut (tgt := 162) hx hb dX8_ints_19 c13 (by decide) ?_
    obtain rfl := o_retv hf
    exact pw_vret hC hr hlocks hw dX8_ints_162
  · rcases o_if hf with ⟨c14, hf⟩ | ⟨-, hf⟩
    · have hj : W p l e rm_X8_ints s m args below meth c H locs 0 0 (MQ below (QV g L A μ') args s 0 0 A) (F0 m 88 ls []) := by
        refine lv_aload_n hx hb dX8_ints_88 rfl (lv_at hl 1 rfl) ?_
        refine lv_iload_n hx hb dX8_ints_89 rfl (lv_at hl 0 rfl) ?_
        obtain ⟨h16, hf⟩ := o_ite hf
        obtain ⟨μ17, h15, hf⟩ := o_bind hf
        refine pw_goV hw (pw_runV (As := [.int v5]) (rest := []) hC mm_X8_tells tw_1394 (c_X8_tells h15 _) ⟨rfl, rfl, by decide, by decide⟩ hw h16 rfl hl.1 (Nat.le_of_ble_eq_true rfl) ⟨Nat.zero_le _, Nat.zero_le _⟩ rfl dX8_ints_90) (fun H locs hw => ?_)
        refine lv_goto (tgt := 162) hx hb dX8_ints_93 (by decide) ?_
        obtain rfl := o_retv hf
        exact pw_vret hC hr hlocks hw dX8_ints_162
      rcases c14 with c14 | c14 | c14 | c14
      · exact lv_tableIn (tgt := 88) hx hb dX8_ints_19 (by rw [c14]; decide) (by rw [c14]; decide) (by rw [c14]; rfl) (by decide) hj
      · exact lv_tableIn (tgt := 88) hx hb dX8_ints_19 (by rw [c14]; decide) (by rw [c14]; decide) (by rw [c14]; rfl) (by decide) hj
      · exact lv_tableIn (tgt := 88) hx hb dX8_ints_19 (by rw [c14]; decide) (by rw [c14]; decide) (by rw [c14]; rfl) (by decide) hj
      · exact lv_tableIn (tgt := 88) hx hb dX8_ints_19 (by rw [c14]; decide) (by rw [c14]; decide) (by rw [c14]; rfl) (by decide) hj
    · rcases o_if hf with ⟨c18, hf⟩ | ⟨-, hf⟩
      · have hj : W p l e rm_X8_ints s m args below meth c H locs 0 0 (MQ below (QV g L A μ') args s 0 0 A) (F0 m 96 ls []) := by
          refine lv_aload_n hx hb dX8_ints_96 rfl (lv_at hl 1 rfl) ?_
          refine lv_iload_n hx hb dX8_ints_97 rfl (lv_at hl 0 rfl) ?_
          obtain ⟨h20, hf⟩ := o_ite hf
          obtain ⟨μ21, h19, hf⟩ := o_bind hf
          refine pw_goV hw (pw_runV (As := [.int v5]) (rest := []) hC mm_X8_tells tw_1394 (c_X8_tells h19 _) ⟨rfl, rfl, by decide, by decide⟩ hw h20 rfl hl.1 (Nat.le_of_ble_eq_true rfl) ⟨Nat.zero_le _, Nat.zero_le _⟩ rfl dX8_ints_98) (fun H locs hw => ?_)
          refine lv_goto (tgt := 162) hx hb dX8_ints_101 (by decide) ?_
          obtain rfl := o_retv hf
          exact pw_vret hC hr hlocks hw dX8_ints_162
        rcases c18 with c18 | c18
        · exact lv_tableIn (tgt := 96) hx hb dX8_ints_19 (by rw [c18]; decide) (by rw [c18]; decide) (by rw [c18]; rfl) (by decide) hj
        · exact lv_tableIn (tgt := 96) hx hb dX8_ints_19 (by rw [c18]; decide) (by rw [c18]; decide) (by rw [c18]; rfl) (by decide) hj
      · rcases o_if hf with ⟨c22, hf⟩ | ⟨-, hf⟩
        · refine lv_tableIn (tgt := 104) hx hb dX8_ints_19 (by rw [c22]; decide) (by rw [c22]; decide) (by rw [c22]; rfl) (by decide) ?_
          refine lv_aload_n hx hb dX8_ints_104 rfl (lv_at hl 1 rfl) ?_
          refine lv_iload_n hx hb dX8_ints_105 rfl (lv_at hl 0 rfl) ?_
          obtain ⟨h24, hf⟩ := o_ite hf
          obtain ⟨μ25, h23, hf⟩ := o_bind hf
          refine pw_goV hw (pw_runV (As := [.int v5]) (rest := []) hC mm_X8_tells tw_1394 (c_X8_tells h23 _) ⟨rfl, rfl, by decide, by decide⟩ hw h24 rfl hl.1 (Nat.le_of_ble_eq_true rfl) ⟨Nat.zero_le _, Nat.zero_le _⟩ rfl dX8_ints_106) (fun H locs hw => ?_)
          refine lv_aload_n hx hb dX8_ints_109 rfl (lv_at hl 1 rfl) ?_
          obtain ⟨q26, h27, hf⟩ := o_bind hf
          refine pw_get hC fl_X8_67 hw (rdR_F h27) dX8_ints_110 ?_
          obtain ⟨q28, h29, hf⟩ := o_bind hf
          refine pw_get hC fl_X8_213 hw (rdR_F h29) dX8_ints_113 ?_
          refine lv_iload_n hx hb dX8_ints_116 rfl (lv_at hl 0 rfl) ?_
          refine lv_iconst (v := 4) hx hb dX8_ints_117 nc_iconst_4 ?_
          refine lv_iadd hx hb dX8_ints_118 ?_
          obtain ⟨v30, h31, hf⟩ := o_bind hf
          refine pw_bald hC hw h31 dX8_ints_119 ?_
          refine lv_iconst (v := 2) hx hb dX8_ints_120 nc_iconst_2 ?_
          refine lv_icmp_ne (tgt := 162) hx hb dX8_ints_121 (by decide) (fun c32 => ?_) (fun c32 => ?_)
          · have hf := o_neg c32 hf
            obtain rfl := o_retv hf
            exact pw_vret hC hr hlocks hw dX8_ints_162
          · have hf := o_pos c32 hf
            refine lv_aload_n hx hb dX8_ints_124 rfl (lv_at hl 1 rfl) ?_
            refine lv_iload_n hx hb dX8_ints_125 rfl (lv_at hl 0 rfl) ?_
            refine lv_iconst (v := 5) hx hb dX8_ints_126 nc_iconst_5 ?_
            refine lv_iadd hx hb dX8_ints_127 ?_
            obtain ⟨h34, hf⟩ := o_ite hf
            obtain ⟨μ35, h33, hf⟩ := o_bind hf
            refine pw_goV hw (pw_runV (As := [.int (v5 + 5)]) (rest := []) hC mm_X8_tells tw_1394 (c_X8_tells h33 _) ⟨rfl, rfl, by decide, by decide⟩ hw h34 rfl hl.1 (Nat.le_of_ble_eq_true rfl) ⟨Nat.zero_le _, Nat.zero_le _⟩ rfl dX8_ints_128) (fun H locs hw => ?_)
            refine lv_goto (tgt := 162) hx hb dX8_ints_131 (by decide) ?_
            obtain rfl := o_retv hf
            exact pw_vret hC hr hlocks hw dX8_ints_162
        · rcases o_if hf with ⟨c36, hf⟩ | ⟨-, hf⟩
          · have hj : W p l e rm_X8_ints s m args below meth c H locs 0 0 (MQ below (QV g L A μ') args s 0 0 A) (F0 m 162 ls []) := by
              obtain rfl := o_retv hf
              exact pw_vret hC hr hlocks hw dX8_ints_162
            rcases c36 with c36 | c36 | c36 | c36 | c36 | c36
            · exact lv_tableIn (tgt := 162) hx hb dX8_ints_19 (by rw [c36]; decide) (by rw [c36]; decide) (by rw [c36]; rfl) (by decide) hj
            · exact lv_tableIn (tgt := 162) hx hb dX8_ints_19 (by rw [c36]; decide) (by rw [c36]; decide) (by rw [c36]; rfl) (by decide) hj
            · exact lv_tableIn (tgt := 162) hx hb dX8_ints_19 (by rw [c36]; decide) (by rw [c36]; decide) (by rw [c36]; rfl) (by decide) hj
            · exact lv_tableIn (tgt := 162) hx hb dX8_ints_19 (by rw [c36]; decide) (by rw [c36]; decide) (by rw [c36]; rfl) (by decide) hj
            · exact lv_tableIn (tgt := 162) hx hb dX8_ints_19 (by rw [c36]; decide) (by rw [c36]; decide) (by rw [c36]; rfl) (by decide) hj
            · exact lv_tableIn (tgt := 162) hx hb dX8_ints_19 (by rw [c36]; decide) (by rw [c36]; decide) (by rw [c36]; rfl) (by decide) hj
          · rcases o_if hf with ⟨c37, hf⟩ | ⟨-, hf⟩
            · refine lv_tableIn (tgt := 134) hx hb dX8_ints_19 (by rw [c37]; decide) (by rw [c37]; decide) (by rw [c37]; rfl) (by decide) ?_
              refine lv_aload_n hx hb dX8_ints_134 rfl (lv_at hl 1 rfl) ?_
              refine lv_iload_n hx hb dX8_ints_135 rfl (lv_at hl 0 rfl) ?_
              obtain ⟨h39, hf⟩ := o_ite hf
              obtain ⟨μ40, h38, hf⟩ := o_bind hf
              refine pw_goV hw (pw_runV (As := [.int v5]) (rest := []) hC mm_X8_tells tw_1394 (c_X8_tells h38 _) ⟨rfl, rfl, by decide, by decide⟩ hw h39 rfl hl.1 (Nat.le_of_ble_eq_true rfl) ⟨Nat.zero_le _, Nat.zero_le _⟩ rfl dX8_ints_136) (fun H locs hw => ?_)
              refine lv_aload_n hx hb dX8_ints_139 rfl (lv_at hl 1 rfl) ?_
              refine lv_iload_n hx hb dX8_ints_140 rfl (lv_at hl 0 rfl) ?_
              refine lv_iconst (v := 4) hx hb dX8_ints_141 nc_iconst_4 ?_
              refine lv_iadd hx hb dX8_ints_142 ?_
              obtain ⟨h42, hf⟩ := o_ite hf
              obtain ⟨μ43, h41, hf⟩ := o_bind hf
              refine pw_goV hw (pw_runV (As := [.int (v5 + 4)]) (rest := []) hC mm_X8_tells tw_1394 (c_X8_tells h41 _) ⟨rfl, rfl, by decide, by decide⟩ hw h42 rfl hl.1 (Nat.le_of_ble_eq_true rfl) ⟨Nat.zero_le _, Nat.zero_le _⟩ rfl dX8_ints_143) (fun H locs hw => ?_)
              refine lv_aload_n hx hb dX8_ints_146 rfl (lv_at hl 1 rfl) ?_
              refine lv_aload_n hx hb dX8_ints_147 rfl (lv_at hl 1 rfl) ?_
              obtain ⟨q44, h45, hf⟩ := o_bind hf
              refine pw_get hC fl_X8_67 hw (rdR_F h45) dX8_ints_148 ?_
              obtain ⟨q46, h47, hf⟩ := o_bind hf
              refine pw_get hC fl_X8_222 hw (rdR_F h47) dX8_ints_151 ?_
              refine lv_iload_n hx hb dX8_ints_154 rfl (lv_at hl 2 rfl) ?_
              obtain ⟨v48, h49, hf⟩ := o_bind hf
              refine pw_iald hC hw h49 dX8_ints_155 ?_
              obtain ⟨h51, hf⟩ := o_ite hf
              obtain ⟨μ52, h50, hf⟩ := o_bind hf
              refine pw_goV hw (pw_runV (As := [.int v48]) (rest := []) hC mm_X8_tells tw_1394 (c_X8_tells h50 _) ⟨rfl, rfl, by decide, by decide⟩ hw h51 rfl hl.1 (Nat.le_of_ble_eq_true rfl) ⟨Nat.zero_le _, Nat.zero_le _⟩ rfl dX8_ints_156) (fun H locs hw => ?_)
              refine lv_goto (tgt := 162) hx hb dX8_ints_159 (by decide) ?_
              obtain rfl := o_retv hf
              exact pw_vret hC hr hlocks hw dX8_ints_162
            · cases hf
theorem dX8_opens_0 : decode cX8_opens 0 = .ok (.aload_n 0, 1) := by decide +kernel
theorem dX8_opens_1 : decode cX8_opens 1 = .ok (.getfield 43, 3) := by decide +kernel
theorem dX8_opens_4 : decode cX8_opens 4 = .ok (.aload_n 0, 1) := by decide +kernel
theorem dX8_opens_5 : decode cX8_opens 5 = .ok (.getfield 354, 3) := by decide +kernel
theorem dX8_opens_8 : decode cX8_opens 8 = .ok (.aload_n 0, 1) := by decide +kernel
theorem dX8_opens_9 : decode cX8_opens 9 = .ok (.getfield 351, 3) := by decide +kernel
theorem dX8_opens_12 : decode cX8_opens 12 = .ok (.iastore, 1) := by decide +kernel
theorem dX8_opens_13 : decode cX8_opens 13 = .ok (.aload_n 0, 1) := by decide +kernel
theorem dX8_opens_14 : decode cX8_opens 14 = .ok (.getfield 46, 3) := by decide +kernel
theorem dX8_opens_17 : decode cX8_opens 17 = .ok (.aload_n 0, 1) := by decide +kernel
theorem dX8_opens_18 : decode cX8_opens 18 = .ok (.getfield 354, 3) := by decide +kernel
theorem dX8_opens_21 : decode cX8_opens 21 = .ok (.iload_n 1, 1) := by decide +kernel
theorem dX8_opens_22 : decode cX8_opens 22 = .ok (.iastore, 1) := by decide +kernel
theorem dX8_opens_23 : decode cX8_opens 23 = .ok (.aload_n 0, 1) := by decide +kernel
theorem dX8_opens_24 : decode cX8_opens 24 = .ok (.getfield 49, 3) := by decide +kernel
theorem dX8_opens_27 : decode cX8_opens 27 = .ok (.aload_n 0, 1) := by decide +kernel
theorem dX8_opens_28 : decode cX8_opens 28 = .ok (.getfield 354, 3) := by decide +kernel
theorem dX8_opens_31 : decode cX8_opens 31 = .ok (.iconst 0, 1) := by decide +kernel
theorem dX8_opens_32 : decode cX8_opens 32 = .ok (.iastore, 1) := by decide +kernel
theorem dX8_opens_33 : decode cX8_opens 33 = .ok (.aload_n 0, 1) := by decide +kernel
theorem dX8_opens_34 : decode cX8_opens 34 = .ok (.getfield 52, 3) := by decide +kernel
theorem dX8_opens_37 : decode cX8_opens 37 = .ok (.aload_n 0, 1) := by decide +kernel
theorem dX8_opens_38 : decode cX8_opens 38 = .ok (.getfield 354, 3) := by decide +kernel
theorem dX8_opens_41 : decode cX8_opens 41 = .ok (.iload_n 2, 1) := by decide +kernel
theorem dX8_opens_42 : decode cX8_opens 42 = .ok (.iastore, 1) := by decide +kernel
theorem dX8_opens_43 : decode cX8_opens 43 = .ok (.aload_n 0, 1) := by decide +kernel
theorem dX8_opens_44 : decode cX8_opens 44 = .ok (.dup, 1) := by decide +kernel
theorem dX8_opens_45 : decode cX8_opens 45 = .ok (.getfield 354, 3) := by decide +kernel
theorem dX8_opens_48 : decode cX8_opens 48 = .ok (.iconst 1, 1) := by decide +kernel
theorem dX8_opens_49 : decode cX8_opens 49 = .ok (.iadd, 1) := by decide +kernel
theorem dX8_opens_50 : decode cX8_opens 50 = .ok (.putfield 354, 3) := by decide +kernel
theorem dX8_opens_53 : decode cX8_opens 53 = .ok (.iconst 0, 1) := by decide +kernel
theorem dX8_opens_54 : decode cX8_opens 54 = .ok (.istore_n 3, 1) := by decide +kernel
theorem dX8_opens_55 : decode cX8_opens 55 = .ok (.iload_n 3, 1) := by decide +kernel
theorem dX8_opens_56 : decode cX8_opens 56 = .ok (.iconst 4, 1) := by decide +kernel
theorem dX8_opens_57 : decode cX8_opens 57 = .ok (.if_icmp .ge 14, 3) := by decide +kernel
theorem dX8_opens_60 : decode cX8_opens 60 = .ok (.aload_n 0, 1) := by decide +kernel
theorem dX8_opens_61 : decode cX8_opens 61 = .ok (.iconst 0, 1) := by decide +kernel
theorem dX8_opens_62 : decode cX8_opens 62 = .ok (.invokevirtual 361, 3) := by decide +kernel
theorem dX8_opens_65 : decode cX8_opens 65 = .ok (.iinc 3 1, 3) := by decide +kernel
theorem dX8_opens_68 : decode cX8_opens 68 = .ok (.goto (-13), 3) := by decide +kernel
theorem dX8_opens_71 : decode cX8_opens 71 = .ok (.return_, 1) := by decide +kernel
abbrev rm_X8_opens : Room := { frames := 1, cells := 0, slots := 0, locals := 21 }
def f_X8_opens_L55 (cy : Nat → ClassId) : Nat → Nat → Int32 → Mem → Option Mem
  | 0, _, _, _ => none
  | n + 1, a0, a3, μ => if 4 ≤ a3 then (some μ) else if isO μ a0 7 = true then ((f_X8_adds cy a0 0 μ).bind fun μ104 => f_X8_opens_L55 cy n a0 (a3 + 1) μ104) else none
set_option maxRecDepth 100000 in
set_option maxHeartbeats 4000000 in
theorem w_X8_opens_L55 {p : Program} {l : Launch} {e : Env} {s : State} {m : MethodId} {args : Array Value} {below : List Frame} {meth : Method} {c : Code} {A : Nat → Prop} {g : Wg} {L : List Nat} {μ' : Mem} (hC : CX p m c cX8_opens 4 s args RX8) (hr : meth.sig.returnType = none) (hlocks : meth.locks = false) : ∀ (n : Nat), ∀ (a0 : Nat) (a3 : Int32) (μ : Mem) (H : Heap) (locs : List Loc) (ls : Array Slot), lv_has ls 4 [(0, .ref a0), (3, .int a3)] → PW g L μ A s H locs → f_X8_opens_L55 g.2 n a0 a3 μ = some μ' → W p l e rm_X8_opens s m args below meth c H locs 0 0 (MQ below (QV g L A μ') args s 0 0 A) (F0 m 55 ls []) := by
  have hx := hC.1
  have hb := hC.2.1
  intro n
  induction n with
  | zero => intro a0 a3 μ H locs ls hl hw hf; cases hf
  | succ n ih =>
    intro a0 a3 μ H locs ls hl hw hf
    rw [f_X8_opens_L55] at hf
    refine lv_iload_n hx hb dX8_opens_55 rfl (lv_at hl 1 rfl) ?_
    refine lv_iconst (v := 4) hx hb dX8_opens_56 nc_iconst_4 ?_
    refine lv_icmp_ge (tgt := 71) hx hb dX8_opens_57 (by decide) (fun c101 => ?_) (fun c101 => ?_)
    · have hf := o_pos c101 hf
      obtain rfl := o_retv hf
      exact pw_vret hC hr hlocks hw dX8_opens_71
    · have hf := o_neg c101 hf
      refine lv_aload_n hx hb dX8_opens_60 rfl (lv_at hl 0 rfl) ?_
      refine lv_iconst (v := 0) hx hb dX8_opens_61 nc_iconst_0 ?_
      obtain ⟨h103, hf⟩ := o_ite hf
      obtain ⟨μ104, h102, hf⟩ := o_bind hf
      refine pw_goV hw (pw_runV (As := [.int 0]) (rest := []) hC mm_X8_adds tw_1503 (c_X8_adds h102 _) ⟨rfl, rfl, by decide, by decide⟩ hw h103 rfl hl.1 (Nat.le_of_ble_eq_true rfl) ⟨Nat.zero_le _, Nat.zero_le _⟩ rfl dX8_opens_62) (fun H locs hw => ?_)
      refine lv_iinc (v := (a3 + 1)) (lv' := [(3, .int (a3 + 1)), (0, .ref a0)]) hx hb dX8_opens_65 hl (k := 1) rfl (by first | rfl | decide +kernel) (by decide) rfl (fun ls hl => ?_)
      refine lv_goto (tgt := 55) hx hb dX8_opens_68 (by decide) ?_
      exact ih _ _ _ _ _ ls (lv_sub hl [1, 0] rfl) hw hf
def f_X8_opens (cy : Nat → ClassId) (a0 : Nat) (a1 : Int32) (a2 : Int32) (μ : Mem) : Option Mem :=
  (rdR μ a0 7 14).bind fun q1 => (rdI μ a0 7 13).bind fun v3 => (rdI μ a0 7 11).bind fun v5 => (wrA cy μ 1 q1 v3 v5).bind fun μ7 => (rdR μ7 a0 7 15).bind fun q9 => (rdI μ7 a0 7 13).bind fun v11 => (wrA cy μ7 1 q9 v11 a1).bind fun μ13 => (rdR μ13 a0 7 16).bind fun q15 => (rdI μ13 a0 7 13).bind fun v17 => (wrA cy μ13 1 q15 v17 0).bind fun μ19 => (rdR μ19 a0 7 17).bind fun q21 => (rdI μ19 a0 7 13).bind fun v23 => (wrA cy μ19 1 q21 v23 a2).bind fun μ25 => (rdI μ25 a0 7 13).bind fun v27 => (wrF μ25 a0 7 13 (.int (v27 + 1))).bind fun μ29 => f_X8_opens_L55 cy FU a0 0 μ29
set_option maxRecDepth 100000 in
set_option maxHeartbeats 4000000 in
theorem c_X8_opens {l : Launch} {g : Wg} {L : List Nat} {μ : Mem} {a0 : Nat} {a1 : Int32} {a2 : Int32} {μ' : Mem} (hf : f_X8_opens g.2 a0 a1 a2 μ = some μ') : MetV l yX8_opens cX8_opens 4 none rm_X8_opens g L μ [.ref a0, .int a1, .int a2] μ' := by
  refine pw_met (Qc := fun A => QV g L A μ') (by decide) (Nat.le_of_ble_eq_true rfl) ?_
  intro p e s m args below meth c A ls H locs hC hr hlocks hl hw
  have hx := hC.1
  have hb := hC.2.1
  have hl : lv_has ls 4 [(0, .ref a0), (1, .int a1), (2, .int a2)] := hl
  unfold f_X8_opens at hf
  refine lv_aload_n hx hb dX8_opens_0 rfl (lv_at hl 0 rfl) ?_
  obtain ⟨q1, h2, hf⟩ := o_bind hf
  refine pw_get hC fl_X8_43 hw (rdR_F h2) dX8_opens_1 ?_
  refine lv_aload_n hx hb dX8_opens_4 rfl (lv_at hl 0 rfl) ?_
  obtain ⟨v3, h4, hf⟩ := o_bind hf
  refine pw_get hC fl_X8_354 hw (rdI_F h4) dX8_opens_5 ?_
  refine lv_aload_n hx hb dX8_opens_8 rfl (lv_at hl 0 rfl) ?_
  obtain ⟨v5, h6, hf⟩ := o_bind hf
  refine pw_get hC fl_X8_351 hw (rdI_F h6) dX8_opens_9 ?_
  obtain ⟨μ7, h8, hf⟩ := o_bind hf
  refine pw_iast hC hw h8 dX8_opens_12 (fun H locs hw => ?_)
  refine lv_aload_n hx hb dX8_opens_13 rfl (lv_at hl 0 rfl) ?_
  obtain ⟨q9, h10, hf⟩ := o_bind hf
  refine pw_get hC fl_X8_46 hw (rdR_F h10) dX8_opens_14 ?_
  refine lv_aload_n hx hb dX8_opens_17 rfl (lv_at hl 0 rfl) ?_
  obtain ⟨v11, h12, hf⟩ := o_bind hf
  refine pw_get hC fl_X8_354 hw (rdI_F h12) dX8_opens_18 ?_
  refine lv_iload_n hx hb dX8_opens_21 rfl (lv_at hl 1 rfl) ?_
  obtain ⟨μ13, h14, hf⟩ := o_bind hf
  refine pw_iast hC hw h14 dX8_opens_22 (fun H locs hw => ?_)
  refine lv_aload_n hx hb dX8_opens_23 rfl (lv_at hl 0 rfl) ?_
  obtain ⟨q15, h16, hf⟩ := o_bind hf
  refine pw_get hC fl_X8_49 hw (rdR_F h16) dX8_opens_24 ?_
  refine lv_aload_n hx hb dX8_opens_27 rfl (lv_at hl 0 rfl) ?_
  obtain ⟨v17, h18, hf⟩ := o_bind hf
  refine pw_get hC fl_X8_354 hw (rdI_F h18) dX8_opens_28 ?_
  refine lv_iconst (v := 0) hx hb dX8_opens_31 nc_iconst_0 ?_
  obtain ⟨μ19, h20, hf⟩ := o_bind hf
  refine pw_iast hC hw h20 dX8_opens_32 (fun H locs hw => ?_)
  refine lv_aload_n hx hb dX8_opens_33 rfl (lv_at hl 0 rfl) ?_
  obtain ⟨q21, h22, hf⟩ := o_bind hf
  refine pw_get hC fl_X8_52 hw (rdR_F h22) dX8_opens_34 ?_
  refine lv_aload_n hx hb dX8_opens_37 rfl (lv_at hl 0 rfl) ?_
  obtain ⟨v23, h24, hf⟩ := o_bind hf
  refine pw_get hC fl_X8_354 hw (rdI_F h24) dX8_opens_38 ?_
  refine lv_iload_n hx hb dX8_opens_41 rfl (lv_at hl 2 rfl) ?_
  obtain ⟨μ25, h26, hf⟩ := o_bind hf
  refine pw_iast hC hw h26 dX8_opens_42 (fun H locs hw => ?_)
  refine lv_aload_n hx hb dX8_opens_43 rfl (lv_at hl 0 rfl) ?_
  refine lv_dup hx hb dX8_opens_44 rfl ?_
  obtain ⟨v27, h28, hf⟩ := o_bind hf
  refine pw_get hC fl_X8_354 hw (rdI_F h28) dX8_opens_45 ?_
  refine lv_iconst (v := 1) hx hb dX8_opens_48 nc_iconst_1 ?_
  refine lv_iadd hx hb dX8_opens_49 ?_
  obtain ⟨μ29, h30, hf⟩ := o_bind hf
  refine pw_put hC fl_X8_354 hw h30 .int fd_X8_13 rfl rfl dX8_opens_50 (fun H locs hw => ?_)
  refine lv_iconst (v := 0) hx hb dX8_opens_53 nc_iconst_0 ?_
  refine lv_istore_n (lv' := [(3, .int 0), (0, .ref a0), (1, .int a1), (2, .int a2)]) hx hb dX8_opens_54 rfl hl (by decide) rfl (fun ls hl => ?_)
  exact w_X8_opens_L55 hC hr hlocks FU _ _ _ _ _ ls (lv_sub hl [1, 0] rfl) hw hf
theorem dX8_heads_0 : decode cX8_heads 0 = .ok (.aload_n 0, 1) := by decide +kernel
theorem dX8_heads_1 : decode cX8_heads 1 = .ok (.iload_n 1, 1) := by decide +kernel
theorem dX8_heads_2 : decode cX8_heads 2 = .ok (.invokevirtual 361, 3) := by decide +kernel
theorem dX8_heads_5 : decode cX8_heads 5 = .ok (.aload_n 0, 1) := by decide +kernel
theorem dX8_heads_6 : decode cX8_heads 6 = .ok (.getfield 354, 3) := by decide +kernel
theorem dX8_heads_9 : decode cX8_heads 9 = .ok (.iconst 1, 1) := by decide +kernel
theorem dX8_heads_10 : decode cX8_heads 10 = .ok (.isub, 1) := by decide +kernel
theorem dX8_heads_11 : decode cX8_heads 11 = .ok (.istore_n 2, 1) := by decide +kernel
theorem dX8_heads_12 : decode cX8_heads 12 = .ok (.aload_n 0, 1) := by decide +kernel
theorem dX8_heads_13 : decode cX8_heads 13 = .ok (.getfield 46, 3) := by decide +kernel
theorem dX8_heads_16 : decode cX8_heads 16 = .ok (.iload_n 2, 1) := by decide +kernel
theorem dX8_heads_17 : decode cX8_heads 17 = .ok (.iaload, 1) := by decide +kernel
theorem dX8_heads_18 : decode cX8_heads 18 = .ok (.iconst 4, 1) := by decide +kernel
theorem dX8_heads_19 : decode cX8_heads 19 = .ok (.if_icmp .ne 48, 3) := by decide +kernel
theorem dX8_heads_22 : decode cX8_heads 22 = .ok (.aload_n 0, 1) := by decide +kernel
theorem dX8_heads_23 : decode cX8_heads 23 = .ok (.aload_n 0, 1) := by decide +kernel
theorem dX8_heads_24 : decode cX8_heads 24 = .ok (.getfield 49, 3) := by decide +kernel
theorem dX8_heads_27 : decode cX8_heads 27 = .ok (.iload_n 2, 1) := by decide +kernel
theorem dX8_heads_28 : decode cX8_heads 28 = .ok (.iaload, 1) := by decide +kernel
theorem dX8_heads_29 : decode cX8_heads 29 = .ok (.invokevirtual 131, 3) := by decide +kernel
theorem dX8_heads_32 : decode cX8_heads 32 = .ok (.istore_n 3, 1) := by decide +kernel
theorem dX8_heads_33 : decode cX8_heads 33 = .ok (.iconst 0, 1) := by decide +kernel
theorem dX8_heads_34 : decode cX8_heads 34 = .ok (.istore 4, 2) := by decide +kernel
theorem dX8_heads_36 : decode cX8_heads 36 = .ok (.iload 4, 2) := by decide +kernel
theorem dX8_heads_38 : decode cX8_heads 38 = .ok (.iload_n 3, 1) := by decide +kernel
theorem dX8_heads_39 : decode cX8_heads 39 = .ok (.if_icmp .ge 20, 3) := by decide +kernel
theorem dX8_heads_42 : decode cX8_heads 42 = .ok (.aload_n 0, 1) := by decide +kernel
theorem dX8_heads_43 : decode cX8_heads 43 = .ok (.aload_n 0, 1) := by decide +kernel
theorem dX8_heads_44 : decode cX8_heads 44 = .ok (.getfield 61, 3) := by decide +kernel
theorem dX8_heads_47 : decode cX8_heads 47 = .ok (.iload 4, 2) := by decide +kernel
theorem dX8_heads_49 : decode cX8_heads 49 = .ok (.baload, 1) := by decide +kernel
theorem dX8_heads_50 : decode cX8_heads 50 = .ok (.invokevirtual 361, 3) := by decide +kernel
theorem dX8_heads_53 : decode cX8_heads 53 = .ok (.iinc 4 1, 3) := by decide +kernel
theorem dX8_heads_56 : decode cX8_heads 56 = .ok (.goto (-20), 3) := by decide +kernel
theorem dX8_heads_59 : decode cX8_heads 59 = .ok (.aload_n 0, 1) := by decide +kernel
theorem dX8_heads_60 : decode cX8_heads 60 = .ok (.iconst 0, 1) := by decide +kernel
theorem dX8_heads_61 : decode cX8_heads 61 = .ok (.invokevirtual 361, 3) := by decide +kernel
theorem dX8_heads_64 : decode cX8_heads 64 = .ok (.goto 29, 3) := by decide +kernel
theorem dX8_heads_67 : decode cX8_heads 67 = .ok (.iconst 0, 1) := by decide +kernel
theorem dX8_heads_68 : decode cX8_heads 68 = .ok (.istore_n 3, 1) := by decide +kernel
theorem dX8_heads_69 : decode cX8_heads 69 = .ok (.iload_n 3, 1) := by decide +kernel
theorem dX8_heads_70 : decode cX8_heads 70 = .ok (.aload_n 0, 1) := by decide +kernel
theorem dX8_heads_71 : decode cX8_heads 71 = .ok (.getfield 339, 3) := by decide +kernel
theorem dX8_heads_74 : decode cX8_heads 74 = .ok (.if_icmp .ge 19, 3) := by decide +kernel
theorem dX8_heads_77 : decode cX8_heads 77 = .ok (.aload_n 0, 1) := by decide +kernel
theorem dX8_heads_78 : decode cX8_heads 78 = .ok (.aload_n 0, 1) := by decide +kernel
theorem dX8_heads_79 : decode cX8_heads 79 = .ok (.getfield 13, 3) := by decide +kernel
theorem dX8_heads_82 : decode cX8_heads 82 = .ok (.iload_n 3, 1) := by decide +kernel
theorem dX8_heads_83 : decode cX8_heads 83 = .ok (.baload, 1) := by decide +kernel
theorem dX8_heads_84 : decode cX8_heads 84 = .ok (.invokevirtual 361, 3) := by decide +kernel
theorem dX8_heads_87 : decode cX8_heads 87 = .ok (.iinc 3 1, 3) := by decide +kernel
theorem dX8_heads_90 : decode cX8_heads 90 = .ok (.goto (-21), 3) := by decide +kernel
theorem dX8_heads_93 : decode cX8_heads 93 = .ok (.aload_n 0, 1) := by decide +kernel
theorem dX8_heads_94 : decode cX8_heads 94 = .ok (.getfield 49, 3) := by decide +kernel
theorem dX8_heads_97 : decode cX8_heads 97 = .ok (.iload_n 2, 1) := by decide +kernel
theorem dX8_heads_98 : decode cX8_heads 98 = .ok (.dup2, 1) := by decide +kernel
theorem dX8_heads_99 : decode cX8_heads 99 = .ok (.iaload, 1) := by decide +kernel
theorem dX8_heads_100 : decode cX8_heads 100 = .ok (.iconst 1, 1) := by decide +kernel
theorem dX8_heads_101 : decode cX8_heads 101 = .ok (.iadd, 1) := by decide +kernel
theorem dX8_heads_102 : decode cX8_heads 102 = .ok (.iastore, 1) := by decide +kernel
theorem dX8_heads_103 : decode cX8_heads 103 = .ok (.return_, 1) := by decide +kernel
abbrev rm_X8_heads : Room := { frames := 1, cells := 0, slots := 0, locals := 24 }
def f_X8_heads_L93 (cy : Nat → ClassId) (a0 : Nat) (a2 : Int32) (μ : Mem) : Option Mem :=
  (rdR μ a0 7 16).bind fun q101 => (rdA cy μ 1 q101 a2).bind fun v103 => (wrA cy μ 1 q101 a2 (v103 + 1)).bind fun μ105 => some μ105
set_option maxRecDepth 100000 in
set_option maxHeartbeats 4000000 in
theorem w_X8_heads_L93 {p : Program} {l : Launch} {e : Env} {s : State} {m : MethodId} {args : Array Value} {below : List Frame} {meth : Method} {c : Code} {A : Nat → Prop} {g : Wg} {L : List Nat} {μ' : Mem} (hC : CX p m c cX8_heads 5 s args RX8) (hr : meth.sig.returnType = none) (hlocks : meth.locks = false) : ∀ (a0 : Nat) (a2 : Int32) (μ : Mem) (H : Heap) (locs : List Loc) (ls : Array Slot), lv_has ls 5 [(0, .ref a0), (2, .int a2)] → PW g L μ A s H locs → f_X8_heads_L93 g.2 a0 a2 μ = some μ' → W p l e rm_X8_heads s m args below meth c H locs 0 0 (MQ below (QV g L A μ') args s 0 0 A) (F0 m 93 ls []) := by
  have hx := hC.1
  have hb := hC.2.1
  intro a0 a2 μ H locs ls hl hw hf
  unfold f_X8_heads_L93 at hf
  refine lv_aload_n hx hb dX8_heads_93 rfl (lv_at hl 0 rfl) ?_
  obtain ⟨q101, h102, hf⟩ := o_bind hf
  refine pw_get hC fl_X8_49 hw (rdR_F h102) dX8_heads_94 ?_
  refine lv_iload_n hx hb dX8_heads_97 rfl (lv_at hl 1 rfl) ?_
  refine lv_dup2_11 hx hb dX8_heads_98 rfl rfl ?_
  obtain ⟨v103, h104, hf⟩ := o_bind hf
  refine pw_iald hC hw h104 dX8_heads_99 ?_
  refine lv_iconst (v := 1) hx hb dX8_heads_100 nc_iconst_1 ?_
  refine lv_iadd hx hb dX8_heads_101 ?_
  obtain ⟨μ105, h106, hf⟩ := o_bind hf
  refine pw_iast hC hw h106 dX8_heads_102 (fun H locs hw => ?_)
  obtain rfl := o_retv hf
  exact pw_vret hC hr hlocks hw dX8_heads_103
def f_X8_heads_L36 (cy : Nat → ClassId) : Nat → Nat → Int32 → Int32 → Int32 → Mem → Option Mem
  | 0, _, _, _, _, _ => none
  | n + 1, a0, a2, a3, a4, μ => if a3 ≤ a4 then (if isO μ a0 7 = true then ((f_X8_adds cy a0 0 μ).bind fun μ104 => f_X8_heads_L93 cy a0 a2 μ104) else none) else (rdR μ a0 7 20).bind fun q105 => (rdA cy μ 0 q105 a4).bind fun v107 => if isO μ a0 7 = true then ((f_X8_adds cy a0 v107 μ).bind fun μ111 => f_X8_heads_L36 cy n a0 a2 a3 (a4 + 1) μ111) else none
set_option maxRecDepth 100000 in
set_option maxHeartbeats 4000000 in
theorem w_X8_heads_L36 {p : Program} {l : Launch} {e : Env} {s : State} {m : MethodId} {args : Array Value} {below : List Frame} {meth : Method} {c : Code} {A : Nat → Prop} {g : Wg} {L : List Nat} {μ' : Mem} (hC : CX p m c cX8_heads 5 s args RX8) (hr : meth.sig.returnType = none) (hlocks : meth.locks = false) : ∀ (n : Nat), ∀ (a0 : Nat) (a2 : Int32) (a3 : Int32) (a4 : Int32) (μ : Mem) (H : Heap) (locs : List Loc) (ls : Array Slot), lv_has ls 5 [(0, .ref a0), (2, .int a2), (3, .int a3), (4, .int a4)] → PW g L μ A s H locs → f_X8_heads_L36 g.2 n a0 a2 a3 a4 μ = some μ' → W p l e rm_X8_heads s m args below meth c H locs 0 0 (MQ below (QV g L A μ') args s 0 0 A) (F0 m 36 ls []) := by
  have hx := hC.1
  have hb := hC.2.1
  intro n
  induction n with
  | zero => intro a0 a2 a3 a4 μ H locs ls hl hw hf; cases hf
  | succ n ih =>
    intro a0 a2 a3 a4 μ H locs ls hl hw hf
    rw [f_X8_heads_L36] at hf
    refine lv_iload hx hb dX8_heads_36 (lv_at hl 3 rfl) ?_
    refine lv_iload_n hx hb dX8_heads_38 rfl (lv_at hl 2 rfl) ?_
    refine lv_icmp_ge (tgt := 59) hx hb dX8_heads_39 (by decide) (fun c101 => ?_) (fun c101 => ?_)
    · have hf := o_pos c101 hf
      refine lv_aload_n hx hb dX8_heads_59 rfl (lv_at hl 0 rfl) ?_
      refine lv_iconst (v := 0) hx hb dX8_heads_60 nc_iconst_0 ?_
      obtain ⟨h103, hf⟩ := o_ite hf
      obtain ⟨μ104, h102, hf⟩ := o_bind hf
      refine pw_goV hw (pw_runV (As := [.int 0]) (rest := []) hC mm_X8_adds tw_1503 (c_X8_adds h102 _) ⟨rfl, rfl, by decide, by decide⟩ hw h103 rfl hl.1 (Nat.le_of_ble_eq_true rfl) ⟨Nat.zero_le _, Nat.zero_le _⟩ rfl dX8_heads_61) (fun H locs hw => ?_)
      refine lv_goto (tgt := 93) hx hb dX8_heads_64 (by decide) ?_
      exact w_X8_heads_L93 hC hr hlocks _ _ _ _ _ ls (lv_sub hl [0, 1] rfl) hw hf
    · have hf := o_neg c101 hf
      refine lv_aload_n hx hb dX8_heads_42 rfl (lv_at hl 0 rfl) ?_
      refine lv_aload_n hx hb dX8_heads_43 rfl (lv_at hl 0 rfl) ?_
      obtain ⟨q105, h106, hf⟩ := o_bind hf
      refine pw_get hC fl_X8_61 hw (rdR_F h106) dX8_heads_44 ?_
      refine lv_iload hx hb dX8_heads_47 (lv_at hl 3 rfl) ?_
      obtain ⟨v107, h108, hf⟩ := o_bind hf
      refine pw_bald hC hw h108 dX8_heads_49 ?_
      obtain ⟨h110, hf⟩ := o_ite hf
      obtain ⟨μ111, h109, hf⟩ := o_bind hf
      refine pw_goV hw (pw_runV (As := [.int v107]) (rest := []) hC mm_X8_adds tw_1503 (c_X8_adds h109 _) ⟨rfl, rfl, by decide, by decide⟩ hw h110 rfl hl.1 (Nat.le_of_ble_eq_true rfl) ⟨Nat.zero_le _, Nat.zero_le _⟩ rfl dX8_heads_50) (fun H locs hw => ?_)
      refine lv_iinc (v := (a4 + 1)) (lv' := [(4, .int (a4 + 1)), (0, .ref a0), (2, .int a2), (3, .int a3)]) hx hb dX8_heads_53 hl (k := 3) rfl (by first | rfl | decide +kernel) (by decide) rfl (fun ls hl => ?_)
      refine lv_goto (tgt := 36) hx hb dX8_heads_56 (by decide) ?_
      exact ih _ _ _ _ _ _ _ ls (lv_sub hl [1, 2, 3, 0] rfl) hw hf
def f_X8_heads_L69 (cy : Nat → ClassId) : Nat → Nat → Int32 → Int32 → Mem → Option Mem
  | 0, _, _, _, _ => none
  | n + 1, a0, a2, a3, μ => (rdI μ a0 7 42).bind fun v101 => if v101 ≤ a3 then (f_X8_heads_L93 cy a0 a2 μ) else (rdR μ a0 7 1).bind fun q104 => (rdA cy μ 0 q104 a3).bind fun v106 => if isO μ a0 7 = true then ((f_X8_adds cy a0 v106 μ).bind fun μ110 => f_X8_heads_L69 cy n a0 a2 (a3 + 1) μ110) else none
set_option maxRecDepth 100000 in
set_option maxHeartbeats 4000000 in
theorem w_X8_heads_L69 {p : Program} {l : Launch} {e : Env} {s : State} {m : MethodId} {args : Array Value} {below : List Frame} {meth : Method} {c : Code} {A : Nat → Prop} {g : Wg} {L : List Nat} {μ' : Mem} (hC : CX p m c cX8_heads 5 s args RX8) (hr : meth.sig.returnType = none) (hlocks : meth.locks = false) : ∀ (n : Nat), ∀ (a0 : Nat) (a2 : Int32) (a3 : Int32) (μ : Mem) (H : Heap) (locs : List Loc) (ls : Array Slot), lv_has ls 5 [(0, .ref a0), (2, .int a2), (3, .int a3)] → PW g L μ A s H locs → f_X8_heads_L69 g.2 n a0 a2 a3 μ = some μ' → W p l e rm_X8_heads s m args below meth c H locs 0 0 (MQ below (QV g L A μ') args s 0 0 A) (F0 m 69 ls []) := by
  have hx := hC.1
  have hb := hC.2.1
  intro n
  induction n with
  | zero => intro a0 a2 a3 μ H locs ls hl hw hf; cases hf
  | succ n ih =>
    intro a0 a2 a3 μ H locs ls hl hw hf
    rw [f_X8_heads_L69] at hf
    refine lv_iload_n hx hb dX8_heads_69 rfl (lv_at hl 2 rfl) ?_
    refine lv_aload_n hx hb dX8_heads_70 rfl (lv_at hl 0 rfl) ?_
    obtain ⟨v101, h102, hf⟩ := o_bind hf
    refine pw_get hC fl_X8_339 hw (rdI_F h102) dX8_heads_71 ?_
    refine lv_icmp_ge (tgt := 93) hx hb dX8_heads_74 (by decide) (fun c103 => ?_) (fun c103 => ?_)
    · have hf := o_pos c103 hf
      exact w_X8_heads_L93 hC hr hlocks _ _ _ _ _ ls (lv_sub hl [0, 1] rfl) hw hf
    · have hf := o_neg c103 hf
      refine lv_aload_n hx hb dX8_heads_77 rfl (lv_at hl 0 rfl) ?_
      refine lv_aload_n hx hb dX8_heads_78 rfl (lv_at hl 0 rfl) ?_
      obtain ⟨q104, h105, hf⟩ := o_bind hf
      refine pw_get hC fl_X8_13 hw (rdR_F h105) dX8_heads_79 ?_
      refine lv_iload_n hx hb dX8_heads_82 rfl (lv_at hl 2 rfl) ?_
      obtain ⟨v106, h107, hf⟩ := o_bind hf
      refine pw_bald hC hw h107 dX8_heads_83 ?_
      obtain ⟨h109, hf⟩ := o_ite hf
      obtain ⟨μ110, h108, hf⟩ := o_bind hf
      refine pw_goV hw (pw_runV (As := [.int v106]) (rest := []) hC mm_X8_adds tw_1503 (c_X8_adds h108 _) ⟨rfl, rfl, by decide, by decide⟩ hw h109 rfl hl.1 (Nat.le_of_ble_eq_true rfl) ⟨Nat.zero_le _, Nat.zero_le _⟩ rfl dX8_heads_84) (fun H locs hw => ?_)
      refine lv_iinc (v := (a3 + 1)) (lv' := [(3, .int (a3 + 1)), (0, .ref a0), (2, .int a2)]) hx hb dX8_heads_87 hl (k := 2) rfl (by first | rfl | decide +kernel) (by decide) rfl (fun ls hl => ?_)
      refine lv_goto (tgt := 69) hx hb dX8_heads_90 (by decide) ?_
      exact ih _ _ _ _ _ _ ls (lv_sub hl [1, 2, 0] rfl) hw hf
def f_X8_heads (cy : Nat → ClassId) (a0 : Nat) (a1 : Int32) (μ : Mem) : Option Mem :=
  if isO μ a0 7 = true then ((f_X8_adds cy a0 a1 μ).bind fun μ3 => (rdI μ3 a0 7 13).bind fun v4 => (rdR μ3 a0 7 15).bind fun q6 => (rdA cy μ3 1 q6 (v4 - 1)).bind fun v8 => if v8 = 4 then ((rdR μ3 a0 7 16).bind fun q11 => (rdA cy μ3 1 q11 (v4 - 1)).bind fun v13 => if isO μ3 a0 7 = true then (ob2 (f_X8_decimals cy a0 v13 μ3) fun r18 μ17 => f_X8_heads_L36 cy FU a0 (v4 - 1) r18 0 μ17) else none) else f_X8_heads_L69 cy FU a0 (v4 - 1) 0 μ3) else none
set_option maxRecDepth 100000 in
set_option maxHeartbeats 4000000 in
theorem c_X8_heads {l : Launch} {g : Wg} {L : List Nat} {μ : Mem} {a0 : Nat} {a1 : Int32} {μ' : Mem} (hf : f_X8_heads g.2 a0 a1 μ = some μ') : MetV l yX8_heads cX8_heads 5 none rm_X8_heads g L μ [.ref a0, .int a1] μ' := by
  refine pw_met (Qc := fun A => QV g L A μ') (by decide) (Nat.le_of_ble_eq_true rfl) ?_
  intro p e s m args below meth c A ls H locs hC hr hlocks hl hw
  have hx := hC.1
  have hb := hC.2.1
  have hl : lv_has ls 5 [(0, .ref a0), (1, .int a1)] := hl
  unfold f_X8_heads at hf
  refine lv_aload_n hx hb dX8_heads_0 rfl (lv_at hl 0 rfl) ?_
  refine lv_iload_n hx hb dX8_heads_1 rfl (lv_at hl 1 rfl) ?_
  obtain ⟨h2, hf⟩ := o_ite hf
  obtain ⟨μ3, h1, hf⟩ := o_bind hf
  refine pw_goV hw (pw_runV (As := [.int a1]) (rest := []) hC mm_X8_adds tw_1503 (c_X8_adds h1 _) ⟨rfl, rfl, by decide, by decide⟩ hw h2 rfl hl.1 (Nat.le_of_ble_eq_true rfl) ⟨Nat.zero_le _, Nat.zero_le _⟩ rfl dX8_heads_2) (fun H locs hw => ?_)
  refine lv_aload_n hx hb dX8_heads_5 rfl (lv_at hl 0 rfl) ?_
  obtain ⟨v4, h5, hf⟩ := o_bind hf
  refine pw_get hC fl_X8_354 hw (rdI_F h5) dX8_heads_6 ?_
  refine lv_iconst (v := 1) hx hb dX8_heads_9 nc_iconst_1 ?_
  refine lv_isub hx hb dX8_heads_10 ?_
  refine lv_istore_n (lv' := [(2, .int (v4 - 1)), (0, .ref a0), (1, .int a1)]) hx hb dX8_heads_11 rfl hl (by decide) rfl (fun ls hl => ?_)
  refine lv_aload_n hx hb dX8_heads_12 rfl (lv_at hl 1 rfl) ?_
  obtain ⟨q6, h7, hf⟩ := o_bind hf
  refine pw_get hC fl_X8_46 hw (rdR_F h7) dX8_heads_13 ?_
  refine lv_iload_n hx hb dX8_heads_16 rfl (lv_at hl 0 rfl) ?_
  obtain ⟨v8, h9, hf⟩ := o_bind hf
  refine pw_iald hC hw h9 dX8_heads_17 ?_
  refine lv_iconst (v := 4) hx hb dX8_heads_18 nc_iconst_4 ?_
  refine lv_icmp_ne (tgt := 67) hx hb dX8_heads_19 (by decide) (fun c10 => ?_) (fun c10 => ?_)
  · have hf := o_neg c10 hf
    refine lv_iconst (v := 0) hx hb dX8_heads_67 nc_iconst_0 ?_
    refine lv_istore_n (lv' := [(3, .int 0), (2, .int (v4 - 1)), (0, .ref a0), (1, .int a1)]) hx hb dX8_heads_68 rfl hl (by decide) rfl (fun ls hl => ?_)
    exact w_X8_heads_L69 hC hr hlocks FU _ _ _ _ _ _ ls (lv_sub hl [2, 1, 0] rfl) hw hf
  · have hf := o_pos c10 hf
    refine lv_aload_n hx hb dX8_heads_22 rfl (lv_at hl 1 rfl) ?_
    refine lv_aload_n hx hb dX8_heads_23 rfl (lv_at hl 1 rfl) ?_
    obtain ⟨q11, h12, hf⟩ := o_bind hf
    refine pw_get hC fl_X8_49 hw (rdR_F h12) dX8_heads_24 ?_
    refine lv_iload_n hx hb dX8_heads_27 rfl (lv_at hl 0 rfl) ?_
    obtain ⟨v13, h14, hf⟩ := o_bind hf
    refine pw_iald hC hw h14 dX8_heads_28 ?_
    obtain ⟨h16, hf⟩ := o_ite hf
    obtain ⟨r18, μ17, h15, hf⟩ := o_bind2 hf
    refine pw_goI hw (pw_runV (As := [.int v13]) (rest := []) hC mm_X8_decimals tw_1267 (c_X8_decimals h15 _) ⟨rfl, rfl, by decide, by decide⟩ hw h16 rfl hl.1 (Nat.le_of_ble_eq_true rfl) ⟨Nat.zero_le _, Nat.zero_le _⟩ rfl dX8_heads_29) (fun H locs hw => ?_)
    refine lv_istore_n (lv' := [(3, .int r18), (2, .int (v4 - 1)), (0, .ref a0), (1, .int a1)]) hx hb dX8_heads_32 rfl hl (by decide) rfl (fun ls hl => ?_)
    refine lv_iconst (v := 0) hx hb dX8_heads_33 nc_iconst_0 ?_
    refine lv_istore (lv' := [(4, .int 0), (3, .int r18), (2, .int (v4 - 1)), (0, .ref a0), (1, .int a1)]) hx hb dX8_heads_34 hl (by decide) rfl (fun ls hl => ?_)
    exact w_X8_heads_L36 hC hr hlocks FU _ _ _ _ _ _ _ ls (lv_sub hl [3, 2, 1, 0] rfl) hw hf
theorem dX8_close_0 : decode cX8_close 0 = .ok (.aload_n 0, 1) := by decide +kernel
theorem dX8_close_1 : decode cX8_close 1 = .ok (.iconst 0, 1) := by decide +kernel
theorem dX8_close_2 : decode cX8_close 2 = .ok (.putfield 1, 3) := by decide +kernel
theorem dX8_close_5 : decode cX8_close 5 = .ok (.aload_n 0, 1) := by decide +kernel
theorem dX8_close_6 : decode cX8_close 6 = .ok (.aload_n 0, 1) := by decide +kernel
theorem dX8_close_7 : decode cX8_close 7 = .ok (.getfield 348, 3) := by decide +kernel
theorem dX8_close_10 : decode cX8_close 10 = .ok (.ifCond .eq 10, 3) := by decide +kernel
theorem dX8_close_13 : decode cX8_close 13 = .ok (.aload_n 0, 1) := by decide +kernel
theorem dX8_close_14 : decode cX8_close 14 = .ok (.getfield 354, 3) := by decide +kernel
theorem dX8_close_17 : decode cX8_close 17 = .ok (.ifCond .ne 7, 3) := by decide +kernel
theorem dX8_close_20 : decode cX8_close 20 = .ok (.iconst 1, 1) := by decide +kernel
theorem dX8_close_21 : decode cX8_close 21 = .ok (.goto 4, 3) := by decide +kernel
theorem dX8_close_24 : decode cX8_close 24 = .ok (.iconst 0, 1) := by decide +kernel
theorem dX8_close_25 : decode cX8_close 25 = .ok (.iconst 1, 1) := by decide +kernel
theorem dX8_close_26 : decode cX8_close 26 = .ok (.invokevirtual 186, 3) := by decide +kernel
theorem dX8_close_29 : decode cX8_close 29 = .ok (.ifCond .eq 5, 3) := by decide +kernel
theorem dX8_close_32 : decode cX8_close 32 = .ok (.iconst 0, 1) := by decide +kernel
theorem dX8_close_33 : decode cX8_close 33 = .ok (.ireturn, 1) := by decide +kernel
theorem dX8_close_34 : decode cX8_close 34 = .ok (.aload_n 0, 1) := by decide +kernel
theorem dX8_close_35 : decode cX8_close 35 = .ok (.iconst 0, 1) := by decide +kernel
theorem dX8_close_36 : decode cX8_close 36 = .ok (.invokevirtual 361, 3) := by decide +kernel
theorem dX8_close_39 : decode cX8_close 39 = .ok (.aload_n 0, 1) := by decide +kernel
theorem dX8_close_40 : decode cX8_close 40 = .ok (.dup, 1) := by decide +kernel
theorem dX8_close_41 : decode cX8_close 41 = .ok (.getfield 354, 3) := by decide +kernel
theorem dX8_close_44 : decode cX8_close 44 = .ok (.iconst 1, 1) := by decide +kernel
theorem dX8_close_45 : decode cX8_close 45 = .ok (.isub, 1) := by decide +kernel
theorem dX8_close_46 : decode cX8_close 46 = .ok (.putfield 354, 3) := by decide +kernel
theorem dX8_close_49 : decode cX8_close 49 = .ok (.aload_n 0, 1) := by decide +kernel
theorem dX8_close_50 : decode cX8_close 50 = .ok (.aload_n 0, 1) := by decide +kernel
theorem dX8_close_51 : decode cX8_close 51 = .ok (.getfield 40, 3) := by decide +kernel
theorem dX8_close_54 : decode cX8_close 54 = .ok (.aload_n 0, 1) := by decide +kernel
theorem dX8_close_55 : decode cX8_close 55 = .ok (.getfield 43, 3) := by decide +kernel
theorem dX8_close_58 : decode cX8_close 58 = .ok (.aload_n 0, 1) := by decide +kernel
theorem dX8_close_59 : decode cX8_close 59 = .ok (.getfield 354, 3) := by decide +kernel
theorem dX8_close_62 : decode cX8_close 62 = .ok (.iaload, 1) := by decide +kernel
theorem dX8_close_63 : decode cX8_close 63 = .ok (.aload_n 0, 1) := by decide +kernel
theorem dX8_close_64 : decode cX8_close 64 = .ok (.getfield 351, 3) := by decide +kernel
theorem dX8_close_67 : decode cX8_close 67 = .ok (.aload_n 0, 1) := by decide +kernel
theorem dX8_close_68 : decode cX8_close 68 = .ok (.getfield 43, 3) := by decide +kernel
theorem dX8_close_71 : decode cX8_close 71 = .ok (.aload_n 0, 1) := by decide +kernel
theorem dX8_close_72 : decode cX8_close 72 = .ok (.getfield 354, 3) := by decide +kernel
theorem dX8_close_75 : decode cX8_close 75 = .ok (.iaload, 1) := by decide +kernel
theorem dX8_close_76 : decode cX8_close 76 = .ok (.isub, 1) := by decide +kernel
theorem dX8_close_77 : decode cX8_close 77 = .ok (.invokevirtual 278, 3) := by decide +kernel
theorem dX8_close_80 : decode cX8_close 80 = .ok (.aload_n 0, 1) := by decide +kernel
theorem dX8_close_81 : decode cX8_close 81 = .ok (.getfield 52, 3) := by decide +kernel
theorem dX8_close_84 : decode cX8_close 84 = .ok (.aload_n 0, 1) := by decide +kernel
theorem dX8_close_85 : decode cX8_close 85 = .ok (.getfield 354, 3) := by decide +kernel
theorem dX8_close_88 : decode cX8_close 88 = .ok (.iaload, 1) := by decide +kernel
theorem dX8_close_89 : decode cX8_close 89 = .ok (.ifCond .lt 34, 3) := by decide +kernel
theorem dX8_close_92 : decode cX8_close 92 = .ok (.aload_n 0, 1) := by decide +kernel
theorem dX8_close_93 : decode cX8_close 93 = .ok (.aload_n 0, 1) := by decide +kernel
theorem dX8_close_94 : decode cX8_close 94 = .ok (.getfield 40, 3) := by decide +kernel
theorem dX8_close_97 : decode cX8_close 97 = .ok (.aload_n 0, 1) := by decide +kernel
theorem dX8_close_98 : decode cX8_close 98 = .ok (.getfield 52, 3) := by decide +kernel
theorem dX8_close_101 : decode cX8_close 101 = .ok (.aload_n 0, 1) := by decide +kernel
theorem dX8_close_102 : decode cX8_close 102 = .ok (.getfield 354, 3) := by decide +kernel
theorem dX8_close_105 : decode cX8_close 105 = .ok (.iaload, 1) := by decide +kernel
theorem dX8_close_106 : decode cX8_close 106 = .ok (.aload_n 0, 1) := by decide +kernel
theorem dX8_close_107 : decode cX8_close 107 = .ok (.getfield 351, 3) := by decide +kernel
theorem dX8_close_110 : decode cX8_close 110 = .ok (.aload_n 0, 1) := by decide +kernel
theorem dX8_close_111 : decode cX8_close 111 = .ok (.getfield 52, 3) := by decide +kernel
theorem dX8_close_114 : decode cX8_close 114 = .ok (.aload_n 0, 1) := by decide +kernel
theorem dX8_close_115 : decode cX8_close 115 = .ok (.getfield 354, 3) := by decide +kernel
theorem dX8_close_118 : decode cX8_close 118 = .ok (.iaload, 1) := by decide +kernel
theorem dX8_close_119 : decode cX8_close 119 = .ok (.isub, 1) := by decide +kernel
theorem dX8_close_120 : decode cX8_close 120 = .ok (.invokevirtual 278, 3) := by decide +kernel
theorem dX8_close_123 : decode cX8_close 123 = .ok (.aload_n 0, 1) := by decide +kernel
theorem dX8_close_124 : decode cX8_close 124 = .ok (.getfield 354, 3) := by decide +kernel
theorem dX8_close_127 : decode cX8_close 127 = .ok (.ireturn, 1) := by decide +kernel
abbrev rm_X8_close : Room := { frames := 1, cells := 0, slots := 0, locals := 24 }
def f_X8_close_L123 (cy : Nat → ClassId) (a0 : Nat) (μ : Mem) : Option (Int32 × Mem) :=
  (rdI μ a0 7 13).bind fun v101 => some (v101, μ)
set_option maxRecDepth 100000 in
set_option maxHeartbeats 4000000 in
theorem w_X8_close_L123 {p : Program} {l : Launch} {e : Env} {s : State} {m : MethodId} {args : Array Value} {below : List Frame} {meth : Method} {c : Code} {A : Nat → Prop} {g : Wg} {L : List Nat} {r : Int32} {μ' : Mem} (hC : CX p m c cX8_close 1 s args RX8) (hr : meth.sig.returnType = (some .int)) (hlocks : meth.locks = false) : ∀ (a0 : Nat) (μ : Mem) (H : Heap) (locs : List Loc) (ls : Array Slot), lv_has ls 1 [(0, .ref a0)] → PW g L μ A s H locs → f_X8_close_L123 g.2 a0 μ = some (r, μ') → W p l e rm_X8_close s m args below meth c H locs 0 0 (MQ below (QI g L A r μ') args s 0 0 A) (F0 m 123 ls []) := by
  have hx := hC.1
  have hb := hC.2.1
  intro a0 μ H locs ls hl hw hf
  unfold f_X8_close_L123 at hf
  refine lv_aload_n hx hb dX8_close_123 rfl (lv_at hl 0 rfl) ?_
  obtain ⟨v101, h102, hf⟩ := o_bind hf
  refine pw_get hC fl_X8_354 hw (rdI_F h102) dX8_close_124 ?_
  obtain ⟨rfl, rfl⟩ := o_ret hf
  exact pw_iret hC hr hlocks hw dX8_close_127
def f_X8_close_L25 (cy : Nat → ClassId) (a0 : Nat) (t0 : Nat) (t1 : Int32) (μ : Mem) : Option (Int32 × Mem) :=
  if isO μ t0 7 = true then (ob2 (f_X8_throwsIf cy t0 t1 1 μ) fun r104 μ103 => if r104 = 0 then (if isO μ103 a0 7 = true then ((f_X8_adds cy a0 0 μ103).bind fun μ108 => (rdI μ108 a0 7 13).bind fun v109 => (wrF μ108 a0 7 13 (.int (v109 - 1))).bind fun μ111 => (rdR μ111 a0 7 10).bind fun q113 => (rdR μ111 a0 7 14).bind fun q115 => (rdI μ111 a0 7 13).bind fun v117 => (rdA cy μ111 1 q115 v117).bind fun v119 => (rdI μ111 a0 7 11).bind fun v121 => (rdR μ111 a0 7 14).bind fun q123 => (rdI μ111 a0 7 13).bind fun v125 => (rdA cy μ111 1 q123 v125).bind fun v127 => if isO μ111 a0 7 = true then ((f_X8_lengthAt cy a0 q113 v119 (v121 - v127) μ111).bind fun μ131 => (rdR μ131 a0 7 17).bind fun q132 => (rdI μ131 a0 7 13).bind fun v134 => (rdA cy μ131 1 q132 v134).bind fun v136 => if v136 < 0 then (f_X8_close_L123 cy a0 μ131) else (rdR μ131 a0 7 10).bind fun q139 => (rdR μ131 a0 7 17).bind fun q141 => (rdI μ131 a0 7 13).bind fun v143 => (rdA cy μ131 1 q141 v143).bind fun v145 => (rdI μ131 a0 7 11).bind fun v147 => (rdR μ131 a0 7 17).bind fun q149 => (rdI μ131 a0 7 13).bind fun v151 => (rdA cy μ131 1 q149 v151).bind fun v153 => if isO μ131 a0 7 = true then ((f_X8_lengthAt cy a0 q139 v145 (v147 - v153) μ131).bind fun μ157 => f_X8_close_L123 cy a0 μ157) else none) else none) else none) else some (0, μ103)) else none
set_option maxRecDepth 100000 in
set_option maxHeartbeats 4000000 in
theorem w_X8_close_L25 {p : Program} {l : Launch} {e : Env} {s : State} {m : MethodId} {args : Array Value} {below : List Frame} {meth : Method} {c : Code} {A : Nat → Prop} {g : Wg} {L : List Nat} {r : Int32} {μ' : Mem} (hC : CX p m c cX8_close 1 s args RX8) (hr : meth.sig.returnType = (some .int)) (hlocks : meth.locks = false) : ∀ (a0 : Nat) (t0 : Nat) (t1 : Int32) (μ : Mem) (H : Heap) (locs : List Loc) (ls : Array Slot), lv_has ls 1 [(0, .ref a0)] → PW g L μ A s H locs → f_X8_close_L25 g.2 a0 t0 t1 μ = some (r, μ') → W p l e rm_X8_close s m args below meth c H locs 0 0 (MQ below (QI g L A r μ') args s 0 0 A) (F0 m 25 ls [.int t1, .ref t0]) := by
  have hx := hC.1
  have hb := hC.2.1
  intro a0 t0 t1 μ H locs ls hl hw hf
  unfold f_X8_close_L25 at hf
  refine lv_iconst (v := 1) hx hb dX8_close_25 nc_iconst_1 ?_
  obtain ⟨h102, hf⟩ := o_ite hf
  obtain ⟨r104, μ103, h101, hf⟩ := o_bind2 hf
  refine pw_goI hw (pw_runV (As := [.int t1, .int 1]) (rest := []) hC mm_X8_throwsIf tw_1317 (c_X8_throwsIf h101 _) ⟨rfl, rfl, by decide, by decide⟩ hw h102 rfl hl.1 (Nat.le_of_ble_eq_true rfl) ⟨Nat.zero_le _, Nat.zero_le _⟩ rfl dX8_close_26) (fun H locs hw => ?_)
  refine lv_if_eq (tgt := 34) hx hb dX8_close_29 (by decide) (fun c105 => ?_) (fun c105 => ?_)
  · have hf := o_pos c105 hf
    refine lv_aload_n hx hb dX8_close_34 rfl (lv_at hl 0 rfl) ?_
    refine lv_iconst (v := 0) hx hb dX8_close_35 nc_iconst_0 ?_
    obtain ⟨h107, hf⟩ := o_ite hf
    obtain ⟨μ108, h106, hf⟩ := o_bind hf
    refine pw_goV hw (pw_runV (As := [.int 0]) (rest := []) hC mm_X8_adds tw_1503 (c_X8_adds h106 _) ⟨rfl, rfl, by decide, by decide⟩ hw h107 rfl hl.1 (Nat.le_of_ble_eq_true rfl) ⟨Nat.zero_le _, Nat.zero_le _⟩ rfl dX8_close_36) (fun H locs hw => ?_)
    refine lv_aload_n hx hb dX8_close_39 rfl (lv_at hl 0 rfl) ?_
    refine lv_dup hx hb dX8_close_40 rfl ?_
    obtain ⟨v109, h110, hf⟩ := o_bind hf
    refine pw_get hC fl_X8_354 hw (rdI_F h110) dX8_close_41 ?_
    refine lv_iconst (v := 1) hx hb dX8_close_44 nc_iconst_1 ?_
    refine lv_isub hx hb dX8_close_45 ?_
    obtain ⟨μ111, h112, hf⟩ := o_bind hf
    refine pw_put hC fl_X8_354 hw h112 .int fd_X8_13 rfl rfl dX8_close_46 (fun H locs hw => ?_)
    refine lv_aload_n hx hb dX8_close_49 rfl (lv_at hl 0 rfl) ?_
    refine lv_aload_n hx hb dX8_close_50 rfl (lv_at hl 0 rfl) ?_
    obtain ⟨q113, h114, hf⟩ := o_bind hf
    refine pw_get hC fl_X8_40 hw (rdR_F h114) dX8_close_51 ?_
    refine lv_aload_n hx hb dX8_close_54 rfl (lv_at hl 0 rfl) ?_
    obtain ⟨q115, h116, hf⟩ := o_bind hf
    refine pw_get hC fl_X8_43 hw (rdR_F h116) dX8_close_55 ?_
    refine lv_aload_n hx hb dX8_close_58 rfl (lv_at hl 0 rfl) ?_
    obtain ⟨v117, h118, hf⟩ := o_bind hf
    refine pw_get hC fl_X8_354 hw (rdI_F h118) dX8_close_59 ?_
    obtain ⟨v119, h120, hf⟩ := o_bind hf
    refine pw_iald hC hw h120 dX8_close_62 ?_
    refine lv_aload_n hx hb dX8_close_63 rfl (lv_at hl 0 rfl) ?_
    obtain ⟨v121, h122, hf⟩ := o_bind hf
    refine pw_get hC fl_X8_351 hw (rdI_F h122) dX8_close_64 ?_
    refine lv_aload_n hx hb dX8_close_67 rfl (lv_at hl 0 rfl) ?_
    obtain ⟨q123, h124, hf⟩ := o_bind hf
    refine pw_get hC fl_X8_43 hw (rdR_F h124) dX8_close_68 ?_
    refine lv_aload_n hx hb dX8_close_71 rfl (lv_at hl 0 rfl) ?_
    obtain ⟨v125, h126, hf⟩ := o_bind hf
    refine pw_get hC fl_X8_354 hw (rdI_F h126) dX8_close_72 ?_
    obtain ⟨v127, h128, hf⟩ := o_bind hf
    refine pw_iald hC hw h128 dX8_close_75 ?_
    refine lv_isub hx hb dX8_close_76 ?_
    obtain ⟨h130, hf⟩ := o_ite hf
    obtain ⟨μ131, h129, hf⟩ := o_bind hf
    refine pw_goV hw (pw_runV (As := [.ref q113, .int v119, .int (v121 - v127)]) (rest := []) hC mm_X8_lengthAt tw_1434 (c_X8_lengthAt h129 _) ⟨rfl, rfl, by decide, by decide⟩ hw h130 rfl hl.1 (Nat.le_of_ble_eq_true rfl) ⟨Nat.zero_le _, Nat.zero_le _⟩ rfl dX8_close_77) (fun H locs hw => ?_)
    refine lv_aload_n hx hb dX8_close_80 rfl (lv_at hl 0 rfl) ?_
    obtain ⟨q132, h133, hf⟩ := o_bind hf
    refine pw_get hC fl_X8_52 hw (rdR_F h133) dX8_close_81 ?_
    refine lv_aload_n hx hb dX8_close_84 rfl (lv_at hl 0 rfl) ?_
    obtain ⟨v134, h135, hf⟩ := o_bind hf
    refine pw_get hC fl_X8_354 hw (rdI_F h135) dX8_close_85 ?_
    obtain ⟨v136, h137, hf⟩ := o_bind hf
    refine pw_iald hC hw h137 dX8_close_88 ?_
    refine lv_if_lt (tgt := 123) hx hb dX8_close_89 (by decide) (fun c138 => ?_) (fun c138 => ?_)
    · have hf := o_pos c138 hf
      exact w_X8_close_L123 hC hr hlocks _ _ _ _ ls (lv_sub hl [0] rfl) hw hf
    · have hf := o_neg c138 hf
      refine lv_aload_n hx hb dX8_close_92 rfl (lv_at hl 0 rfl) ?_
      refine lv_aload_n hx hb dX8_close_93 rfl (lv_at hl 0 rfl) ?_
      obtain ⟨q139, h140, hf⟩ := o_bind hf
      refine pw_get hC fl_X8_40 hw (rdR_F h140) dX8_close_94 ?_
      refine lv_aload_n hx hb dX8_close_97 rfl (lv_at hl 0 rfl) ?_
      obtain ⟨q141, h142, hf⟩ := o_bind hf
      refine pw_get hC fl_X8_52 hw (rdR_F h142) dX8_close_98 ?_
      refine lv_aload_n hx hb dX8_close_101 rfl (lv_at hl 0 rfl) ?_
      obtain ⟨v143, h144, hf⟩ := o_bind hf
      refine pw_get hC fl_X8_354 hw (rdI_F h144) dX8_close_102 ?_
      obtain ⟨v145, h146, hf⟩ := o_bind hf
      refine pw_iald hC hw h146 dX8_close_105 ?_
      refine lv_aload_n hx hb dX8_close_106 rfl (lv_at hl 0 rfl) ?_
      obtain ⟨v147, h148, hf⟩ := o_bind hf
      refine pw_get hC fl_X8_351 hw (rdI_F h148) dX8_close_107 ?_
      refine lv_aload_n hx hb dX8_close_110 rfl (lv_at hl 0 rfl) ?_
      obtain ⟨q149, h150, hf⟩ := o_bind hf
      refine pw_get hC fl_X8_52 hw (rdR_F h150) dX8_close_111 ?_
      refine lv_aload_n hx hb dX8_close_114 rfl (lv_at hl 0 rfl) ?_
      obtain ⟨v151, h152, hf⟩ := o_bind hf
      refine pw_get hC fl_X8_354 hw (rdI_F h152) dX8_close_115 ?_
      obtain ⟨v153, h154, hf⟩ := o_bind hf
      refine pw_iald hC hw h154 dX8_close_118 ?_
      refine lv_isub hx hb dX8_close_119 ?_
      obtain ⟨h156, hf⟩ := o_ite hf
      obtain ⟨μ157, h155, hf⟩ := o_bind hf
      refine pw_goV hw (pw_runV (As := [.ref q139, .int v145, .int (v147 - v153)]) (rest := []) hC mm_X8_lengthAt tw_1434 (c_X8_lengthAt h155 _) ⟨rfl, rfl, by decide, by decide⟩ hw h156 rfl hl.1 (Nat.le_of_ble_eq_true rfl) ⟨Nat.zero_le _, Nat.zero_le _⟩ rfl dX8_close_120) (fun H locs hw => ?_)
      exact w_X8_close_L123 hC hr hlocks _ _ _ _ ls (lv_sub hl [0] rfl) hw hf
  · have hf := o_neg c105 hf
    refine lv_iconst (v := 0) hx hb dX8_close_32 nc_iconst_0 ?_
    obtain ⟨rfl, rfl⟩ := o_ret hf
    exact pw_iret hC hr hlocks hw dX8_close_33
def f_X8_close_L20 (cy : Nat → ClassId) (a0 : Nat) (t0 : Nat) (μ : Mem) : Option (Int32 × Mem) :=
  f_X8_close_L25 cy a0 t0 1 μ
set_option maxRecDepth 100000 in
set_option maxHeartbeats 4000000 in
theorem w_X8_close_L20 {p : Program} {l : Launch} {e : Env} {s : State} {m : MethodId} {args : Array Value} {below : List Frame} {meth : Method} {c : Code} {A : Nat → Prop} {g : Wg} {L : List Nat} {r : Int32} {μ' : Mem} (hC : CX p m c cX8_close 1 s args RX8) (hr : meth.sig.returnType = (some .int)) (hlocks : meth.locks = false) : ∀ (a0 : Nat) (t0 : Nat) (μ : Mem) (H : Heap) (locs : List Loc) (ls : Array Slot), lv_has ls 1 [(0, .ref a0)] → PW g L μ A s H locs → f_X8_close_L20 g.2 a0 t0 μ = some (r, μ') → W p l e rm_X8_close s m args below meth c H locs 0 0 (MQ below (QI g L A r μ') args s 0 0 A) (F0 m 20 ls [.ref t0]) := by
  have hx := hC.1
  have hb := hC.2.1
  intro a0 t0 μ H locs ls hl hw hf
  unfold f_X8_close_L20 at hf
  refine lv_iconst (v := 1) hx hb dX8_close_20 nc_iconst_1 ?_
  refine lv_goto (tgt := 25) hx hb dX8_close_21 (by decide) ?_
  exact w_X8_close_L25 hC hr hlocks _ _ _ _ _ _ ls (lv_sub hl [0] rfl) hw hf
def f_X8_close (cy : Nat → ClassId) (a0 : Nat) (μ : Mem) : Option (Int32 × Mem) :=
  (wrF μ a0 7 0 (.int 0)).bind fun μ1 => (rdI μ1 a0 7 12).bind fun v3 => if v3 = 0 then (f_X8_close_L20 cy a0 a0 μ1) else (rdI μ1 a0 7 13).bind fun v6 => if v6 = 0 then (f_X8_close_L20 cy a0 a0 μ1) else f_X8_close_L25 cy a0 a0 0 μ1
set_option maxRecDepth 100000 in
set_option maxHeartbeats 4000000 in
theorem c_X8_close {l : Launch} {g : Wg} {L : List Nat} {μ : Mem} {a0 : Nat} {r : Int32} {μ' : Mem} (hf : f_X8_close g.2 a0 μ = some (r, μ')) : MetI l yX8_close cX8_close 1 (some .int) rm_X8_close g L μ [.ref a0] r μ' := by
  refine pw_met (Qc := fun A => QI g L A r μ') (by decide) (Nat.le_of_ble_eq_true rfl) ?_
  intro p e s m args below meth c A ls H locs hC hr hlocks hl hw
  have hx := hC.1
  have hb := hC.2.1
  have hl : lv_has ls 1 [(0, .ref a0)] := hl
  unfold f_X8_close at hf
  refine lv_aload_n hx hb dX8_close_0 rfl (lv_at hl 0 rfl) ?_
  refine lv_iconst (v := 0) hx hb dX8_close_1 nc_iconst_0 ?_
  obtain ⟨μ1, h2, hf⟩ := o_bind hf
  refine pw_put hC fl_X8_1 hw h2 .int fd_X8_0 rfl rfl dX8_close_2 (fun H locs hw => ?_)
  refine lv_aload_n hx hb dX8_close_5 rfl (lv_at hl 0 rfl) ?_
  refine lv_aload_n hx hb dX8_close_6 rfl (lv_at hl 0 rfl) ?_
  obtain ⟨v3, h4, hf⟩ := o_bind hf
  refine pw_get hC fl_X8_348 hw (rdI_F h4) dX8_close_7 ?_
  refine lv_if_eq (tgt := 20) hx hb dX8_close_10 (by decide) (fun c5 => ?_) (fun c5 => ?_)
  · have hf := o_pos c5 hf
    exact w_X8_close_L20 hC hr hlocks _ _ _ _ _ ls (lv_sub hl [0] rfl) hw hf
  · have hf := o_neg c5 hf
    refine lv_aload_n hx hb dX8_close_13 rfl (lv_at hl 0 rfl) ?_
    obtain ⟨v6, h7, hf⟩ := o_bind hf
    refine pw_get hC fl_X8_354 hw (rdI_F h7) dX8_close_14 ?_
    refine lv_if_ne (tgt := 24) hx hb dX8_close_17 (by decide) (fun c8 => ?_) (fun c8 => ?_)
    · have hf := o_neg c8 hf
      refine lv_iconst (v := 0) hx hb dX8_close_24 nc_iconst_0 ?_
      exact w_X8_close_L25 hC hr hlocks _ _ _ _ _ _ ls (lv_sub hl [0] rfl) hw hf
    · have hf := o_pos c8 hf
      exact w_X8_close_L20 hC hr hlocks _ _ _ _ _ ls (lv_sub hl [0] rfl) hw hf
theorem dX8_find_0 : decode cX8_find 0 = .ok (.aload_n 0, 1) := by decide +kernel
theorem dX8_find_1 : decode cX8_find 1 = .ok (.getfield 103, 3) := by decide +kernel
theorem dX8_find_4 : decode cX8_find 4 = .ok (.istore_n 2, 1) := by decide +kernel
theorem dX8_find_5 : decode cX8_find 5 = .ok (.aload_n 0, 1) := by decide +kernel
theorem dX8_find_6 : decode cX8_find 6 = .ok (.iconst 0, 1) := by decide +kernel
theorem dX8_find_7 : decode cX8_find 7 = .ok (.putfield 103, 3) := by decide +kernel
theorem dX8_find_10 : decode cX8_find 10 = .ok (.aload_n 0, 1) := by decide +kernel
theorem dX8_find_11 : decode cX8_find 11 = .ok (.iload_n 1, 1) := by decide +kernel
theorem dX8_find_12 : decode cX8_find 12 = .ok (.invokevirtual 183, 3) := by decide +kernel
theorem dX8_find_15 : decode cX8_find 15 = .ok (.ifCond .eq 5, 3) := by decide +kernel
theorem dX8_find_18 : decode cX8_find 18 = .ok (.iconst 0, 1) := by decide +kernel
theorem dX8_find_19 : decode cX8_find 19 = .ok (.ireturn, 1) := by decide +kernel
theorem dX8_find_20 : decode cX8_find 20 = .ok (.aload_n 0, 1) := by decide +kernel
theorem dX8_find_21 : decode cX8_find 21 = .ok (.getfield 67, 3) := by decide +kernel
theorem dX8_find_24 : decode cX8_find 24 = .ok (.aload_n 0, 1) := by decide +kernel
theorem dX8_find_25 : decode cX8_find 25 = .ok (.getfield 22, 3) := by decide +kernel
theorem dX8_find_28 : decode cX8_find 28 = .ok (.iload_n 1, 1) := by decide +kernel
theorem dX8_find_29 : decode cX8_find 29 = .ok (.aaload, 1) := by decide +kernel
theorem dX8_find_30 : decode cX8_find 30 = .ok (.invokevirtual 190, 3) := by decide +kernel
theorem dX8_find_33 : decode cX8_find 33 = .ok (.aload_n 0, 1) := by decide +kernel
theorem dX8_find_34 : decode cX8_find 34 = .ok (.aload_n 0, 1) := by decide +kernel
theorem dX8_find_35 : decode cX8_find 35 = .ok (.aload_n 0, 1) := by decide +kernel
theorem dX8_find_36 : decode cX8_find 36 = .ok (.getfield 67, 3) := by decide +kernel
theorem dX8_find_39 : decode cX8_find 39 = .ok (.iload_n 1, 1) := by decide +kernel
theorem dX8_find_40 : decode cX8_find 40 = .ok (.invokevirtual 197, 3) := by decide +kernel
theorem dX8_find_43 : decode cX8_find 43 = .ok (.iconst 0, 1) := by decide +kernel
theorem dX8_find_44 : decode cX8_find 44 = .ok (.iload_n 2, 1) := by decide +kernel
theorem dX8_find_45 : decode cX8_find 45 = .ok (.invokevirtual 219, 3) := by decide +kernel
theorem dX8_find_48 : decode cX8_find 48 = .ok (.istore_n 3, 1) := by decide +kernel
theorem dX8_find_49 : decode cX8_find 49 = .ok (.iload_n 3, 1) := by decide +kernel
theorem dX8_find_50 : decode cX8_find 50 = .ok (.ifCond .lt 10, 3) := by decide +kernel
theorem dX8_find_53 : decode cX8_find 53 = .ok (.aload_n 0, 1) := by decide +kernel
theorem dX8_find_54 : decode cX8_find 54 = .ok (.getfield 37, 3) := by decide +kernel
theorem dX8_find_57 : decode cX8_find 57 = .ok (.iload_n 1, 1) := by decide +kernel
theorem dX8_find_58 : decode cX8_find 58 = .ok (.iload_n 3, 1) := by decide +kernel
theorem dX8_find_59 : decode cX8_find 59 = .ok (.iastore, 1) := by decide +kernel
theorem dX8_find_60 : decode cX8_find 60 = .ok (.iload_n 3, 1) := by decide +kernel
theorem dX8_find_61 : decode cX8_find 61 = .ok (.ireturn, 1) := by decide +kernel
abbrev rm_X8_find : Room := { frames := 124, cells := 0, slots := 0, locals := 3090 }
def f_X8_find_L60 (cy : Nat → ClassId) (a3 : Int32) (μ : Mem) : Option (Int32 × Mem) :=
  some (a3, μ)
set_option maxRecDepth 100000 in
set_option maxHeartbeats 4000000 in
theorem w_X8_find_L60 {p : Program} {l : Launch} {e : Env} {s : State} {m : MethodId} {args : Array Value} {below : List Frame} {meth : Method} {c : Code} {A : Nat → Prop} {g : Wg} {L : List Nat} {r : Int32} {μ' : Mem} (hC : CX p m c cX8_find 4 s args RX8) (hr : meth.sig.returnType = (some .int)) (hlocks : meth.locks = false) : ∀ (a3 : Int32) (μ : Mem) (H : Heap) (locs : List Loc) (ls : Array Slot), lv_has ls 4 [(3, .int a3)] → PW g L μ A s H locs → f_X8_find_L60 g.2 a3 μ = some (r, μ') → W p l e rm_X8_find s m args below meth c H locs 0 0 (MQ below (QI g L A r μ') args s 0 0 A) (F0 m 60 ls []) := by
  have hx := hC.1
  have hb := hC.2.1
  intro a3 μ H locs ls hl hw hf
  unfold f_X8_find_L60 at hf
  refine lv_iload_n hx hb dX8_find_60 rfl (lv_at hl 0 rfl) ?_
  obtain ⟨rfl, rfl⟩ := o_ret hf
  exact pw_iret hC hr hlocks hw dX8_find_61
def f_X8_find (cy : Nat → ClassId) (a0 : Nat) (a1 : Int32) (μ : Mem) : Option (Int32 × Mem) :=
  (rdI μ a0 7 2).bind fun v1 => (wrF μ a0 7 2 (.int 0)).bind fun μ3 => if isO μ3 a0 7 = true then (ob2 (f_X8_noShelf cy a0 a1 μ3) fun r8 μ7 => if r8 = 0 then ((rdR μ7 a0 7 21).bind fun q10 => (rdR μ7 a0 7 5).bind fun q12 => (rdQ cy μ7 5 q12 a1).bind fun q14 => if isO μ7 q10 6 = true then ((f_X7_read cy q10 q14 μ7).bind fun μ18 => (rdR μ18 a0 7 21).bind fun q19 => if isO μ18 a0 7 = true then (ob2 (f_X8_stands cy a0 q19 a1 μ18) fun r24 μ23 => if isO μ23 a0 7 = true then (ob2 (f_X8_named cy a0 r24 0 v1 μ23) fun r28 μ27 => if r28 < 0 then (f_X8_find_L60 cy r28 μ27) else (rdR μ27 a0 7 9).bind fun q30 => (wrA cy μ27 1 q30 a1 r28).bind fun μ32 => f_X8_find_L60 cy r28 μ32) else none) else none) else none) else some (0, μ7)) else none
set_option maxRecDepth 100000 in
set_option maxHeartbeats 4000000 in
theorem c_X8_find {l : Launch} {g : Wg} {L : List Nat} {μ : Mem} {a0 : Nat} {a1 : Int32} {r : Int32} {μ' : Mem} (hf : f_X8_find g.2 a0 a1 μ = some (r, μ')) : MetI l yX8_find cX8_find 4 (some .int) rm_X8_find g L μ [.ref a0, .int a1] r μ' := by
  refine pw_met (Qc := fun A => QI g L A r μ') (by decide) (Nat.le_of_ble_eq_true rfl) ?_
  intro p e s m args below meth c A ls H locs hC hr hlocks hl hw
  have hx := hC.1
  have hb := hC.2.1
  have hl : lv_has ls 4 [(0, .ref a0), (1, .int a1)] := hl
  unfold f_X8_find at hf
  refine lv_aload_n hx hb dX8_find_0 rfl (lv_at hl 0 rfl) ?_
  obtain ⟨v1, h2, hf⟩ := o_bind hf
  refine pw_get hC fl_X8_103 hw (rdI_F h2) dX8_find_1 ?_
  refine lv_istore_n (lv' := [(2, .int v1), (0, .ref a0), (1, .int a1)]) hx hb dX8_find_4 rfl hl (by decide) rfl (fun ls hl => ?_)
  refine lv_aload_n hx hb dX8_find_5 rfl (lv_at hl 1 rfl) ?_
  refine lv_iconst (v := 0) hx hb dX8_find_6 nc_iconst_0 ?_
  obtain ⟨μ3, h4, hf⟩ := o_bind hf
  refine pw_put hC fl_X8_103 hw h4 .int fd_X8_2 rfl rfl dX8_find_7 (fun H locs hw => ?_)
  refine lv_aload_n hx hb dX8_find_10 rfl (lv_at hl 1 rfl) ?_
  refine lv_iload_n hx hb dX8_find_11 rfl (lv_at hl 2 rfl) ?_
  obtain ⟨h6, hf⟩ := o_ite hf
  obtain ⟨r8, μ7, h5, hf⟩ := o_bind2 hf
  refine pw_goI hw (pw_runV (As := [.int a1]) (rest := []) hC mm_X8_noShelf tw_1313 (c_X8_noShelf h5 _) ⟨rfl, rfl, by decide, by decide⟩ hw h6 rfl hl.1 (Nat.le_of_ble_eq_true rfl) ⟨Nat.zero_le _, Nat.zero_le _⟩ rfl dX8_find_12) (fun H locs hw => ?_)
  refine lv_if_eq (tgt := 20) hx hb dX8_find_15 (by decide) (fun c9 => ?_) (fun c9 => ?_)
  · have hf := o_pos c9 hf
    refine lv_aload_n hx hb dX8_find_20 rfl (lv_at hl 1 rfl) ?_
    obtain ⟨q10, h11, hf⟩ := o_bind hf
    refine pw_get hC fl_X8_67 hw (rdR_F h11) dX8_find_21 ?_
    refine lv_aload_n hx hb dX8_find_24 rfl (lv_at hl 1 rfl) ?_
    obtain ⟨q12, h13, hf⟩ := o_bind hf
    refine pw_get hC fl_X8_22 hw (rdR_F h13) dX8_find_25 ?_
    refine lv_iload_n hx hb dX8_find_28 rfl (lv_at hl 2 rfl) ?_
    obtain ⟨q14, h15, hf⟩ := o_bind hf
    refine pw_aald hC hw 5 rfl rfl h15 dX8_find_29 ?_
    obtain ⟨h17, hf⟩ := o_ite hf
    obtain ⟨μ18, h16, hf⟩ := o_bind hf
    refine pw_goV hw (pw_runV (As := [.ref q14]) (rest := []) hC mm_X7_read tw_1325 (c_X7_read h16 _) ⟨rfl, rfl, by decide, by decide⟩ hw h17 rfl hl.1 (Nat.le_of_ble_eq_true rfl) ⟨Nat.zero_le _, Nat.zero_le _⟩ rfl dX8_find_30) (fun H locs hw => ?_)
    refine lv_aload_n hx hb dX8_find_33 rfl (lv_at hl 1 rfl) ?_
    refine lv_aload_n hx hb dX8_find_34 rfl (lv_at hl 1 rfl) ?_
    refine lv_aload_n hx hb dX8_find_35 rfl (lv_at hl 1 rfl) ?_
    obtain ⟨q19, h20, hf⟩ := o_bind hf
    refine pw_get hC fl_X8_67 hw (rdR_F h20) dX8_find_36 ?_
    refine lv_iload_n hx hb dX8_find_39 rfl (lv_at hl 2 rfl) ?_
    obtain ⟨h22, hf⟩ := o_ite hf
    obtain ⟨r24, μ23, h21, hf⟩ := o_bind2 hf
    refine pw_goI hw (pw_runV (As := [.ref q19, .int a1]) (rest := [.ref a0]) hC mm_X8_stands tw_1342 (c_X8_stands h21 _) ⟨rfl, rfl, by decide, by decide⟩ hw h22 rfl hl.1 (Nat.le_of_ble_eq_true rfl) ⟨Nat.zero_le _, Nat.zero_le _⟩ rfl dX8_find_40) (fun H locs hw => ?_)
    refine lv_iconst (v := 0) hx hb dX8_find_43 nc_iconst_0 ?_
    refine lv_iload_n hx hb dX8_find_44 rfl (lv_at hl 0 rfl) ?_
    obtain ⟨h26, hf⟩ := o_ite hf
    obtain ⟨r28, μ27, h25, hf⟩ := o_bind2 hf
    refine pw_goI hw (pw_runV (As := [.int r24, .int 0, .int v1]) (rest := []) hC mm_X8_named tw_1354 (c_X8_named h25 _) ⟨rfl, rfl, by decide, by decide⟩ hw h26 rfl hl.1 (Nat.le_of_ble_eq_true rfl) ⟨Nat.zero_le _, Nat.zero_le _⟩ rfl dX8_find_45) (fun H locs hw => ?_)
    refine lv_istore_n (lv' := [(3, .int r28), (2, .int v1), (0, .ref a0), (1, .int a1)]) hx hb dX8_find_48 rfl hl (by decide) rfl (fun ls hl => ?_)
    refine lv_iload_n hx hb dX8_find_49 rfl (lv_at hl 0 rfl) ?_
    refine lv_if_lt (tgt := 60) hx hb dX8_find_50 (by decide) (fun c29 => ?_) (fun c29 => ?_)
    · have hf := o_pos c29 hf
      exact w_X8_find_L60 hC hr hlocks _ _ _ _ ls (lv_sub hl [0] rfl) hw hf
    · have hf := o_neg c29 hf
      refine lv_aload_n hx hb dX8_find_53 rfl (lv_at hl 2 rfl) ?_
      obtain ⟨q30, h31, hf⟩ := o_bind hf
      refine pw_get hC fl_X8_37 hw (rdR_F h31) dX8_find_54 ?_
      refine lv_iload_n hx hb dX8_find_57 rfl (lv_at hl 3 rfl) ?_
      refine lv_iload_n hx hb dX8_find_58 rfl (lv_at hl 0 rfl) ?_
      obtain ⟨μ32, h33, hf⟩ := o_bind hf
      refine pw_iast hC hw h33 dX8_find_59 (fun H locs hw => ?_)
      exact w_X8_find_L60 hC hr hlocks _ _ _ _ ls (lv_sub hl [0] rfl) hw hf
  · have hf := o_neg c9 hf
    refine lv_iconst (v := 0) hx hb dX8_find_18 nc_iconst_0 ?_
    obtain ⟨rfl, rfl⟩ := o_ret hf
    exact pw_iret hC hr hlocks hw dX8_find_19
theorem dX8_path_0 : decode cX8_path 0 = .ok (.aload_n 0, 1) := by decide +kernel
theorem dX8_path_1 : decode cX8_path 1 = .ok (.getfield 103, 3) := by decide +kernel
theorem dX8_path_4 : decode cX8_path 4 = .ok (.istore_n 2, 1) := by decide +kernel
theorem dX8_path_5 : decode cX8_path 5 = .ok (.aload_n 0, 1) := by decide +kernel
theorem dX8_path_6 : decode cX8_path 6 = .ok (.iconst 0, 1) := by decide +kernel
theorem dX8_path_7 : decode cX8_path 7 = .ok (.putfield 103, 3) := by decide +kernel
theorem dX8_path_10 : decode cX8_path 10 = .ok (.aload_n 0, 1) := by decide +kernel
theorem dX8_path_11 : decode cX8_path 11 = .ok (.iload_n 1, 1) := by decide +kernel
theorem dX8_path_12 : decode cX8_path 12 = .ok (.invokevirtual 183, 3) := by decide +kernel
theorem dX8_path_15 : decode cX8_path 15 = .ok (.ifCond .eq 5, 3) := by decide +kernel
theorem dX8_path_18 : decode cX8_path 18 = .ok (.iconst 0, 1) := by decide +kernel
theorem dX8_path_19 : decode cX8_path 19 = .ok (.ireturn, 1) := by decide +kernel
theorem dX8_path_20 : decode cX8_path 20 = .ok (.aload_n 0, 1) := by decide +kernel
theorem dX8_path_21 : decode cX8_path 21 = .ok (.getfield 67, 3) := by decide +kernel
theorem dX8_path_24 : decode cX8_path 24 = .ok (.aload_n 0, 1) := by decide +kernel
theorem dX8_path_25 : decode cX8_path 25 = .ok (.getfield 22, 3) := by decide +kernel
theorem dX8_path_28 : decode cX8_path 28 = .ok (.iload_n 1, 1) := by decide +kernel
theorem dX8_path_29 : decode cX8_path 29 = .ok (.aaload, 1) := by decide +kernel
theorem dX8_path_30 : decode cX8_path 30 = .ok (.invokevirtual 190, 3) := by decide +kernel
theorem dX8_path_33 : decode cX8_path 33 = .ok (.iconst 0, 1) := by decide +kernel
theorem dX8_path_34 : decode cX8_path 34 = .ok (.istore_n 3, 1) := by decide +kernel
theorem dX8_path_35 : decode cX8_path 35 = .ok (.iconst 0, 1) := by decide +kernel
theorem dX8_path_36 : decode cX8_path 36 = .ok (.istore 4, 2) := by decide +kernel
theorem dX8_path_38 : decode cX8_path 38 = .ok (.iconst 0, 1) := by decide +kernel
theorem dX8_path_39 : decode cX8_path 39 = .ok (.istore 5, 2) := by decide +kernel
theorem dX8_path_41 : decode cX8_path 41 = .ok (.iconst 0, 1) := by decide +kernel
theorem dX8_path_42 : decode cX8_path 42 = .ok (.istore 6, 2) := by decide +kernel
theorem dX8_path_44 : decode cX8_path 44 = .ok (.iconst 1, 1) := by decide +kernel
theorem dX8_path_45 : decode cX8_path 45 = .ok (.istore 7, 2) := by decide +kernel
theorem dX8_path_47 : decode cX8_path 47 = .ok (.iload 7, 2) := by decide +kernel
theorem dX8_path_49 : decode cX8_path 49 = .ok (.ifCond .eq 133, 3) := by decide +kernel
theorem dX8_path_52 : decode cX8_path 52 = .ok (.iload 5, 2) := by decide +kernel
theorem dX8_path_54 : decode cX8_path 54 = .ok (.istore 8, 2) := by decide +kernel
theorem dX8_path_56 : decode cX8_path 56 = .ok (.iload 8, 2) := by decide +kernel
theorem dX8_path_58 : decode cX8_path 58 = .ok (.iload_n 2, 1) := by decide +kernel
theorem dX8_path_59 : decode cX8_path 59 = .ok (.if_icmp .ge 19, 3) := by decide +kernel
theorem dX8_path_62 : decode cX8_path 62 = .ok (.aload_n 0, 1) := by decide +kernel
theorem dX8_path_63 : decode cX8_path 63 = .ok (.getfield 13, 3) := by decide +kernel
theorem dX8_path_66 : decode cX8_path 66 = .ok (.iload 8, 2) := by decide +kernel
theorem dX8_path_68 : decode cX8_path 68 = .ok (.baload, 1) := by decide +kernel
theorem dX8_path_69 : decode cX8_path 69 = .ok (.ifCond .eq 9, 3) := by decide +kernel
theorem dX8_path_72 : decode cX8_path 72 = .ok (.iinc 8 1, 3) := by decide +kernel
theorem dX8_path_75 : decode cX8_path 75 = .ok (.goto (-19), 3) := by decide +kernel
theorem dX8_path_78 : decode cX8_path 78 = .ok (.aload_n 0, 1) := by decide +kernel
theorem dX8_path_79 : decode cX8_path 79 = .ok (.getfield 67, 3) := by decide +kernel
theorem dX8_path_82 : decode cX8_path 82 = .ok (.getfield 222, 3) := by decide +kernel
theorem dX8_path_85 : decode cX8_path 85 = .ok (.iload_n 3, 1) := by decide +kernel
theorem dX8_path_86 : decode cX8_path 86 = .ok (.iaload, 1) := by decide +kernel
theorem dX8_path_87 : decode cX8_path 87 = .ok (.ifCond .ge 7, 3) := by decide +kernel
theorem dX8_path_90 : decode cX8_path 90 = .ok (.iconst (-1), 1) := by decide +kernel
theorem dX8_path_91 : decode cX8_path 91 = .ok (.goto 12, 3) := by decide +kernel
theorem dX8_path_94 : decode cX8_path 94 = .ok (.aload_n 0, 1) := by decide +kernel
theorem dX8_path_95 : decode cX8_path 95 = .ok (.iload_n 3, 1) := by decide +kernel
theorem dX8_path_96 : decode cX8_path 96 = .ok (.iload 5, 2) := by decide +kernel
theorem dX8_path_98 : decode cX8_path 98 = .ok (.iload 8, 2) := by decide +kernel
theorem dX8_path_100 : decode cX8_path 100 = .ok (.invokevirtual 219, 3) := by decide +kernel
theorem dX8_path_103 : decode cX8_path 103 = .ok (.istore 9, 2) := by decide +kernel
theorem dX8_path_105 : decode cX8_path 105 = .ok (.iload 9, 2) := by decide +kernel
theorem dX8_path_107 : decode cX8_path 107 = .ok (.ifCond .lt 7, 3) := by decide +kernel
theorem dX8_path_110 : decode cX8_path 110 = .ok (.iconst 1, 1) := by decide +kernel
theorem dX8_path_111 : decode cX8_path 111 = .ok (.goto 4, 3) := by decide +kernel
theorem dX8_path_114 : decode cX8_path 114 = .ok (.iconst 0, 1) := by decide +kernel
theorem dX8_path_115 : decode cX8_path 115 = .ok (.istore 7, 2) := by decide +kernel
theorem dX8_path_117 : decode cX8_path 117 = .ok (.iload 7, 2) := by decide +kernel
theorem dX8_path_119 : decode cX8_path 119 = .ok (.ifCond .ne 6, 3) := by decide +kernel
theorem dX8_path_122 : decode cX8_path 122 = .ok (.goto (-75), 3) := by decide +kernel
theorem dX8_path_125 : decode cX8_path 125 = .ok (.aload_n 0, 1) := by decide +kernel
theorem dX8_path_126 : decode cX8_path 126 = .ok (.getfield 74, 3) := by decide +kernel
theorem dX8_path_129 : decode cX8_path 129 = .ok (.iload 4, 2) := by decide +kernel
theorem dX8_path_131 : decode cX8_path 131 = .ok (.iload 9, 2) := by decide +kernel
theorem dX8_path_133 : decode cX8_path 133 = .ok (.iastore, 1) := by decide +kernel
theorem dX8_path_134 : decode cX8_path 134 = .ok (.iinc 4 1, 3) := by decide +kernel
theorem dX8_path_137 : decode cX8_path 137 = .ok (.aload_n 0, 1) := by decide +kernel
theorem dX8_path_138 : decode cX8_path 138 = .ok (.getfield 67, 3) := by decide +kernel
theorem dX8_path_141 : decode cX8_path 141 = .ok (.iload_n 3, 1) := by decide +kernel
theorem dX8_path_142 : decode cX8_path 142 = .ok (.iload 9, 2) := by decide +kernel
theorem dX8_path_144 : decode cX8_path 144 = .ok (.invokevirtual 180, 3) := by decide +kernel
theorem dX8_path_147 : decode cX8_path 147 = .ok (.istore_n 3, 1) := by decide +kernel
theorem dX8_path_148 : decode cX8_path 148 = .ok (.iload 8, 2) := by decide +kernel
theorem dX8_path_150 : decode cX8_path 150 = .ok (.iload_n 2, 1) := by decide +kernel
theorem dX8_path_151 : decode cX8_path 151 = .ok (.if_icmp .ne 7, 3) := by decide +kernel
theorem dX8_path_154 : decode cX8_path 154 = .ok (.iconst 1, 1) := by decide +kernel
theorem dX8_path_155 : decode cX8_path 155 = .ok (.goto 4, 3) := by decide +kernel
theorem dX8_path_158 : decode cX8_path 158 = .ok (.iconst 0, 1) := by decide +kernel
theorem dX8_path_159 : decode cX8_path 159 = .ok (.istore 6, 2) := by decide +kernel
theorem dX8_path_161 : decode cX8_path 161 = .ok (.iload 6, 2) := by decide +kernel
theorem dX8_path_163 : decode cX8_path 163 = .ok (.ifCond .ne 7, 3) := by decide +kernel
theorem dX8_path_166 : decode cX8_path 166 = .ok (.iconst 1, 1) := by decide +kernel
theorem dX8_path_167 : decode cX8_path 167 = .ok (.goto 4, 3) := by decide +kernel
theorem dX8_path_170 : decode cX8_path 170 = .ok (.iconst 0, 1) := by decide +kernel
theorem dX8_path_171 : decode cX8_path 171 = .ok (.istore 7, 2) := by decide +kernel
theorem dX8_path_173 : decode cX8_path 173 = .ok (.iload 8, 2) := by decide +kernel
theorem dX8_path_175 : decode cX8_path 175 = .ok (.iconst 1, 1) := by decide +kernel
theorem dX8_path_176 : decode cX8_path 176 = .ok (.iadd, 1) := by decide +kernel
theorem dX8_path_177 : decode cX8_path 177 = .ok (.istore 5, 2) := by decide +kernel
theorem dX8_path_179 : decode cX8_path 179 = .ok (.goto (-132), 3) := by decide +kernel
theorem dX8_path_182 : decode cX8_path 182 = .ok (.iload 6, 2) := by decide +kernel
theorem dX8_path_184 : decode cX8_path 184 = .ok (.ifCond .eq 62, 3) := by decide +kernel
theorem dX8_path_187 : decode cX8_path 187 = .ok (.aload_n 0, 1) := by decide +kernel
theorem dX8_path_188 : decode cX8_path 188 = .ok (.getfield 34, 3) := by decide +kernel
theorem dX8_path_191 : decode cX8_path 191 = .ok (.iload_n 1, 1) := by decide +kernel
theorem dX8_path_192 : decode cX8_path 192 = .ok (.iload 4, 2) := by decide +kernel
theorem dX8_path_194 : decode cX8_path 194 = .ok (.iconst 1, 1) := by decide +kernel
theorem dX8_path_195 : decode cX8_path 195 = .ok (.isub, 1) := by decide +kernel
theorem dX8_path_196 : decode cX8_path 196 = .ok (.iastore, 1) := by decide +kernel
theorem dX8_path_197 : decode cX8_path 197 = .ok (.iconst 0, 1) := by decide +kernel
theorem dX8_path_198 : decode cX8_path 198 = .ok (.istore 8, 2) := by decide +kernel
theorem dX8_path_200 : decode cX8_path 200 = .ok (.iload 8, 2) := by decide +kernel
theorem dX8_path_202 : decode cX8_path 202 = .ok (.iload 4, 2) := by decide +kernel
theorem dX8_path_204 : decode cX8_path 204 = .ok (.iconst 1, 1) := by decide +kernel
theorem dX8_path_205 : decode cX8_path 205 = .ok (.isub, 1) := by decide +kernel
theorem dX8_path_206 : decode cX8_path 206 = .ok (.if_icmp .ge 25, 3) := by decide +kernel
theorem dX8_path_209 : decode cX8_path 209 = .ok (.aload_n 0, 1) := by decide +kernel
theorem dX8_path_210 : decode cX8_path 210 = .ok (.getfield 31, 3) := by decide +kernel
theorem dX8_path_213 : decode cX8_path 213 = .ok (.iload_n 1, 1) := by decide +kernel
theorem dX8_path_214 : decode cX8_path 214 = .ok (.aaload, 1) := by decide +kernel
theorem dX8_path_215 : decode cX8_path 215 = .ok (.iload 8, 2) := by decide +kernel
theorem dX8_path_217 : decode cX8_path 217 = .ok (.aload_n 0, 1) := by decide +kernel
theorem dX8_path_218 : decode cX8_path 218 = .ok (.getfield 74, 3) := by decide +kernel
theorem dX8_path_221 : decode cX8_path 221 = .ok (.iload 8, 2) := by decide +kernel
theorem dX8_path_223 : decode cX8_path 223 = .ok (.iaload, 1) := by decide +kernel
theorem dX8_path_224 : decode cX8_path 224 = .ok (.iastore, 1) := by decide +kernel
theorem dX8_path_225 : decode cX8_path 225 = .ok (.iinc 8 1, 3) := by decide +kernel
theorem dX8_path_228 : decode cX8_path 228 = .ok (.goto (-28), 3) := by decide +kernel
theorem dX8_path_231 : decode cX8_path 231 = .ok (.aload_n 0, 1) := by decide +kernel
theorem dX8_path_232 : decode cX8_path 232 = .ok (.getfield 37, 3) := by decide +kernel
theorem dX8_path_235 : decode cX8_path 235 = .ok (.iload_n 1, 1) := by decide +kernel
theorem dX8_path_236 : decode cX8_path 236 = .ok (.aload_n 0, 1) := by decide +kernel
theorem dX8_path_237 : decode cX8_path 237 = .ok (.getfield 74, 3) := by decide +kernel
theorem dX8_path_240 : decode cX8_path 240 = .ok (.iload 4, 2) := by decide +kernel
theorem dX8_path_242 : decode cX8_path 242 = .ok (.iconst 1, 1) := by decide +kernel
theorem dX8_path_243 : decode cX8_path 243 = .ok (.isub, 1) := by decide +kernel
theorem dX8_path_244 : decode cX8_path 244 = .ok (.iaload, 1) := by decide +kernel
theorem dX8_path_245 : decode cX8_path 245 = .ok (.iastore, 1) := by decide +kernel
theorem dX8_path_246 : decode cX8_path 246 = .ok (.iload 4, 2) := by decide +kernel
theorem dX8_path_248 : decode cX8_path 248 = .ok (.ireturn, 1) := by decide +kernel
abbrev rm_X8_path : Room := { frames := 124, cells := 0, slots := 0, locals := 3090 }
def f_X8_path_L171 (cy : Nat → ClassId) (k47 : Nat → Int32 → Int32 → Int32 → Int32 → Int32 → Int32 → Int32 → Mem → Option (Int32 × Mem)) (a0 : Nat) (a1 : Int32) (a2 : Int32) (a3 : Int32) (a4 : Int32) (a6 : Int32) (a8 : Int32) (t0 : Int32) (μ : Mem) : Option (Int32 × Mem) :=
  k47 a0 a1 a2 a3 a4 (a8 + 1) a6 t0 μ
set_option maxRecDepth 100000 in
set_option maxHeartbeats 4000000 in
theorem w_X8_path_L171 {p : Program} {l : Launch} {e : Env} {s : State} {m : MethodId} {args : Array Value} {below : List Frame} {meth : Method} {c : Code} {A : Nat → Prop} {g : Wg} {L : List Nat} {r : Int32} {μ' : Mem} (hC : CX p m c cX8_path 10 s args RX8) (hr : meth.sig.returnType = (some .int)) (hlocks : meth.locks = false) {k47 : Nat → Int32 → Int32 → Int32 → Int32 → Int32 → Int32 → Int32 → Mem → Option (Int32 × Mem)} (hk47 : ∀ (a0 : Nat) (a1 : Int32) (a2 : Int32) (a3 : Int32) (a4 : Int32) (a5 : Int32) (a6 : Int32) (a7 : Int32) (μ : Mem) (H : Heap) (locs : List Loc) (ls : Array Slot), lv_has ls 10 [(0, .ref a0), (1, .int a1), (2, .int a2), (3, .int a3), (4, .int a4), (5, .int a5), (6, .int a6), (7, .int a7)] → PW g L μ A s H locs → k47 a0 a1 a2 a3 a4 a5 a6 a7 μ = some (r, μ') → W p l e rm_X8_path s m args below meth c H locs 0 0 (MQ below (QI g L A r μ') args s 0 0 A) (F0 m 47 ls [])) : ∀ (a0 : Nat) (a1 : Int32) (a2 : Int32) (a3 : Int32) (a4 : Int32) (a6 : Int32) (a8 : Int32) (t0 : Int32) (μ : Mem) (H : Heap) (locs : List Loc) (ls : Array Slot), lv_has ls 10 [(0, .ref a0), (1, .int a1), (2, .int a2), (3, .int a3), (4, .int a4), (6, .int a6), (8, .int a8)] → PW g L μ A s H locs → f_X8_path_L171 g.2 k47 a0 a1 a2 a3 a4 a6 a8 t0 μ = some (r, μ') → W p l e rm_X8_path s m args below meth c H locs 0 0 (MQ below (QI g L A r μ') args s 0 0 A) (F0 m 171 ls [.int t0]) := by
  have hx := hC.1
  have hb := hC.2.1
  intro a0 a1 a2 a3 a4 a6 a8 t0 μ H locs ls hl hw hf
  unfold f_X8_path_L171 at hf
  refine lv_istore (lv' := [(7, .int t0), (0, .ref a0), (1, .int a1), (2, .int a2), (3, .int a3), (4, .int a4), (6, .int a6), (8, .int a8)]) hx hb dX8_path_171 hl (by decide) rfl (fun ls hl => ?_)
  refine lv_iload hx hb dX8_path_173 (lv_at hl 7 rfl) ?_
  refine lv_iconst (v := 1) hx hb dX8_path_175 nc_iconst_1 ?_
  refine lv_iadd hx hb dX8_path_176 ?_
  refine lv_istore (lv' := [(5, .int (a8 + 1)), (7, .int t0), (0, .ref a0), (1, .int a1), (2, .int a2), (3, .int a3), (4, .int a4), (6, .int a6), (8, .int a8)]) hx hb dX8_path_177 hl (by decide) rfl (fun ls hl => ?_)
  refine lv_goto (tgt := 47) hx hb dX8_path_179 (by decide) ?_
  exact hk47 _ _ _ _ _ _ _ _ _ _ _ ls (lv_sub hl [2, 3, 4, 5, 6, 0, 7, 1] rfl) hw hf
def f_X8_path_L246 (cy : Nat → ClassId) (a4 : Int32) (μ : Mem) : Option (Int32 × Mem) :=
  some (a4, μ)
set_option maxRecDepth 100000 in
set_option maxHeartbeats 4000000 in
theorem w_X8_path_L246 {p : Program} {l : Launch} {e : Env} {s : State} {m : MethodId} {args : Array Value} {below : List Frame} {meth : Method} {c : Code} {A : Nat → Prop} {g : Wg} {L : List Nat} {r : Int32} {μ' : Mem} (hC : CX p m c cX8_path 10 s args RX8) (hr : meth.sig.returnType = (some .int)) (hlocks : meth.locks = false) : ∀ (a4 : Int32) (μ : Mem) (H : Heap) (locs : List Loc) (ls : Array Slot), lv_has ls 10 [(4, .int a4)] → PW g L μ A s H locs → f_X8_path_L246 g.2 a4 μ = some (r, μ') → W p l e rm_X8_path s m args below meth c H locs 0 0 (MQ below (QI g L A r μ') args s 0 0 A) (F0 m 246 ls []) := by
  have hx := hC.1
  have hb := hC.2.1
  intro a4 μ H locs ls hl hw hf
  unfold f_X8_path_L246 at hf
  refine lv_iload hx hb dX8_path_246 (lv_at hl 0 rfl) ?_
  obtain ⟨rfl, rfl⟩ := o_ret hf
  exact pw_iret hC hr hlocks hw dX8_path_248
def f_X8_path_L159 (cy : Nat → ClassId) (k47 : Nat → Int32 → Int32 → Int32 → Int32 → Int32 → Int32 → Int32 → Mem → Option (Int32 × Mem)) (a0 : Nat) (a1 : Int32) (a2 : Int32) (a3 : Int32) (a4 : Int32) (a8 : Int32) (t0 : Int32) (μ : Mem) : Option (Int32 × Mem) :=
  if t0 = 0 then (f_X8_path_L171 cy k47 a0 a1 a2 a3 a4 t0 a8 1 μ) else f_X8_path_L171 cy k47 a0 a1 a2 a3 a4 t0 a8 0 μ
set_option maxRecDepth 100000 in
set_option maxHeartbeats 4000000 in
theorem w_X8_path_L159 {p : Program} {l : Launch} {e : Env} {s : State} {m : MethodId} {args : Array Value} {below : List Frame} {meth : Method} {c : Code} {A : Nat → Prop} {g : Wg} {L : List Nat} {r : Int32} {μ' : Mem} (hC : CX p m c cX8_path 10 s args RX8) (hr : meth.sig.returnType = (some .int)) (hlocks : meth.locks = false) {k47 : Nat → Int32 → Int32 → Int32 → Int32 → Int32 → Int32 → Int32 → Mem → Option (Int32 × Mem)} (hk47 : ∀ (a0 : Nat) (a1 : Int32) (a2 : Int32) (a3 : Int32) (a4 : Int32) (a5 : Int32) (a6 : Int32) (a7 : Int32) (μ : Mem) (H : Heap) (locs : List Loc) (ls : Array Slot), lv_has ls 10 [(0, .ref a0), (1, .int a1), (2, .int a2), (3, .int a3), (4, .int a4), (5, .int a5), (6, .int a6), (7, .int a7)] → PW g L μ A s H locs → k47 a0 a1 a2 a3 a4 a5 a6 a7 μ = some (r, μ') → W p l e rm_X8_path s m args below meth c H locs 0 0 (MQ below (QI g L A r μ') args s 0 0 A) (F0 m 47 ls [])) : ∀ (a0 : Nat) (a1 : Int32) (a2 : Int32) (a3 : Int32) (a4 : Int32) (a8 : Int32) (t0 : Int32) (μ : Mem) (H : Heap) (locs : List Loc) (ls : Array Slot), lv_has ls 10 [(0, .ref a0), (1, .int a1), (2, .int a2), (3, .int a3), (4, .int a4), (8, .int a8)] → PW g L μ A s H locs → f_X8_path_L159 g.2 k47 a0 a1 a2 a3 a4 a8 t0 μ = some (r, μ') → W p l e rm_X8_path s m args below meth c H locs 0 0 (MQ below (QI g L A r μ') args s 0 0 A) (F0 m 159 ls [.int t0]) := by
  have hx := hC.1
  have hb := hC.2.1
  intro a0 a1 a2 a3 a4 a8 t0 μ H locs ls hl hw hf
  unfold f_X8_path_L159 at hf
  refine lv_istore (lv' := [(6, .int t0), (0, .ref a0), (1, .int a1), (2, .int a2), (3, .int a3), (4, .int a4), (8, .int a8)]) hx hb dX8_path_159 hl (by decide) rfl (fun ls hl => ?_)
  refine lv_iload hx hb dX8_path_161 (lv_at hl 0 rfl) ?_
  refine lv_if_ne (tgt := 170) hx hb dX8_path_163 (by decide) (fun c101 => ?_) (fun c101 => ?_)
  · have hf := o_neg c101 hf
    refine lv_iconst (v := 0) hx hb dX8_path_170 nc_iconst_0 ?_
    exact w_X8_path_L171 hC hr hlocks hk47 _ _ _ _ _ _ _ _ _ _ _ ls (lv_sub hl [1, 2, 3, 4, 5, 0, 6] rfl) hw hf
  · have hf := o_pos c101 hf
    refine lv_iconst (v := 1) hx hb dX8_path_166 nc_iconst_1 ?_
    refine lv_goto (tgt := 171) hx hb dX8_path_167 (by decide) ?_
    exact w_X8_path_L171 hC hr hlocks hk47 _ _ _ _ _ _ _ _ _ _ _ ls (lv_sub hl [1, 2, 3, 4, 5, 0, 6] rfl) hw hf
def f_X8_path_L200 (cy : Nat → ClassId) : Nat → Nat → Int32 → Int32 → Int32 → Mem → Option (Int32 × Mem)
  | 0, _, _, _, _, _ => none
  | n + 1, a0, a1, a4, a8, μ => if (a4 - 1) ≤ a8 then ((rdR μ a0 7 9).bind fun q102 => (rdR μ a0 7 23).bind fun q104 => (rdA cy μ 1 q104 (a4 - 1)).bind fun v106 => (wrA cy μ 1 q102 a1 v106).bind fun μ108 => f_X8_path_L246 cy a4 μ108) else (rdR μ a0 7 7).bind fun q110 => (rdQ cy μ 6 q110 a1).bind fun q112 => (rdR μ a0 7 23).bind fun q114 => (rdA cy μ 1 q114 a8).bind fun v116 => (wrA cy μ 1 q112 a8 v116).bind fun μ118 => f_X8_path_L200 cy n a0 a1 a4 (a8 + 1) μ118
set_option maxRecDepth 100000 in
set_option maxHeartbeats 4000000 in
theorem w_X8_path_L200 {p : Program} {l : Launch} {e : Env} {s : State} {m : MethodId} {args : Array Value} {below : List Frame} {meth : Method} {c : Code} {A : Nat → Prop} {g : Wg} {L : List Nat} {r : Int32} {μ' : Mem} (hC : CX p m c cX8_path 10 s args RX8) (hr : meth.sig.returnType = (some .int)) (hlocks : meth.locks = false) : ∀ (n : Nat), ∀ (a0 : Nat) (a1 : Int32) (a4 : Int32) (a8 : Int32) (μ : Mem) (H : Heap) (locs : List Loc) (ls : Array Slot), lv_has ls 10 [(0, .ref a0), (1, .int a1), (4, .int a4), (8, .int a8)] → PW g L μ A s H locs → f_X8_path_L200 g.2 n a0 a1 a4 a8 μ = some (r, μ') → W p l e rm_X8_path s m args below meth c H locs 0 0 (MQ below (QI g L A r μ') args s 0 0 A) (F0 m 200 ls []) := by
  have hx := hC.1
  have hb := hC.2.1
  intro n
  induction n with
  | zero => intro a0 a1 a4 a8 μ H locs ls hl hw hf; cases hf
  | succ n ih =>
    intro a0 a1 a4 a8 μ H locs ls hl hw hf
    rw [f_X8_path_L200] at hf
    refine lv_iload hx hb dX8_path_200 (lv_at hl 3 rfl) ?_
    refine lv_iload hx hb dX8_path_202 (lv_at hl 2 rfl) ?_
    refine lv_iconst (v := 1) hx hb dX8_path_204 nc_iconst_1 ?_
    refine lv_isub hx hb dX8_path_205 ?_
    refine lv_icmp_ge (tgt := 231) hx hb dX8_path_206 (by decide) (fun c101 => ?_) (fun c101 => ?_)
    · have hf := o_pos c101 hf
      refine lv_aload_n hx hb dX8_path_231 rfl (lv_at hl 0 rfl) ?_
      obtain ⟨q102, h103, hf⟩ := o_bind hf
      refine pw_get hC fl_X8_37 hw (rdR_F h103) dX8_path_232 ?_
      refine lv_iload_n hx hb dX8_path_235 rfl (lv_at hl 1 rfl) ?_
      refine lv_aload_n hx hb dX8_path_236 rfl (lv_at hl 0 rfl) ?_
      obtain ⟨q104, h105, hf⟩ := o_bind hf
      refine pw_get hC fl_X8_74 hw (rdR_F h105) dX8_path_237 ?_
      refine lv_iload hx hb dX8_path_240 (lv_at hl 2 rfl) ?_
      refine lv_iconst (v := 1) hx hb dX8_path_242 nc_iconst_1 ?_
      refine lv_isub hx hb dX8_path_243 ?_
      obtain ⟨v106, h107, hf⟩ := o_bind hf
      refine pw_iald hC hw h107 dX8_path_244 ?_
      obtain ⟨μ108, h109, hf⟩ := o_bind hf
      refine pw_iast hC hw h109 dX8_path_245 (fun H locs hw => ?_)
      exact w_X8_path_L246 hC hr hlocks _ _ _ _ ls (lv_sub hl [2] rfl) hw hf
    · have hf := o_neg c101 hf
      refine lv_aload_n hx hb dX8_path_209 rfl (lv_at hl 0 rfl) ?_
      obtain ⟨q110, h111, hf⟩ := o_bind hf
      refine pw_get hC fl_X8_31 hw (rdR_F h111) dX8_path_210 ?_
      refine lv_iload_n hx hb dX8_path_213 rfl (lv_at hl 1 rfl) ?_
      obtain ⟨q112, h113, hf⟩ := o_bind hf
      refine pw_aald hC hw 6 rfl rfl h113 dX8_path_214 ?_
      refine lv_iload hx hb dX8_path_215 (lv_at hl 3 rfl) ?_
      refine lv_aload_n hx hb dX8_path_217 rfl (lv_at hl 0 rfl) ?_
      obtain ⟨q114, h115, hf⟩ := o_bind hf
      refine pw_get hC fl_X8_74 hw (rdR_F h115) dX8_path_218 ?_
      refine lv_iload hx hb dX8_path_221 (lv_at hl 3 rfl) ?_
      obtain ⟨v116, h117, hf⟩ := o_bind hf
      refine pw_iald hC hw h117 dX8_path_223 ?_
      obtain ⟨μ118, h119, hf⟩ := o_bind hf
      refine pw_iast hC hw h119 dX8_path_224 (fun H locs hw => ?_)
      refine lv_iinc (v := (a8 + 1)) (lv' := [(8, .int (a8 + 1)), (0, .ref a0), (1, .int a1), (4, .int a4)]) hx hb dX8_path_225 hl (k := 3) rfl (by first | rfl | decide +kernel) (by decide) rfl (fun ls hl => ?_)
      refine lv_goto (tgt := 200) hx hb dX8_path_228 (by decide) ?_
      exact ih _ _ _ _ _ _ _ ls (lv_sub hl [1, 2, 3, 0] rfl) hw hf
def f_X8_path_L115 (cy : Nat → ClassId) (k47 : Nat → Int32 → Int32 → Int32 → Int32 → Int32 → Int32 → Int32 → Mem → Option (Int32 × Mem)) (a0 : Nat) (a1 : Int32) (a2 : Int32) (a3 : Int32) (a4 : Int32) (a5 : Int32) (a6 : Int32) (a8 : Int32) (a9 : Int32) (t0 : Int32) (μ : Mem) : Option (Int32 × Mem) :=
  if t0 = 0 then (k47 a0 a1 a2 a3 a4 a5 a6 t0 μ) else (rdR μ a0 7 23).bind fun q102 => (wrA cy μ 1 q102 a4 a9).bind fun μ104 => (rdR μ104 a0 7 21).bind fun q106 => if isO μ104 q106 6 = true then (ob2 (f_X7_child cy q106 a3 a9 μ104) fun r111 μ110 => if a8 = a2 then (f_X8_path_L159 cy k47 a0 a1 a2 r111 (a4 + 1) a8 1 μ110) else f_X8_path_L159 cy k47 a0 a1 a2 r111 (a4 + 1) a8 0 μ110) else none
set_option maxRecDepth 100000 in
set_option maxHeartbeats 4000000 in
theorem w_X8_path_L115 {p : Program} {l : Launch} {e : Env} {s : State} {m : MethodId} {args : Array Value} {below : List Frame} {meth : Method} {c : Code} {A : Nat → Prop} {g : Wg} {L : List Nat} {r : Int32} {μ' : Mem} (hC : CX p m c cX8_path 10 s args RX8) (hr : meth.sig.returnType = (some .int)) (hlocks : meth.locks = false) {k47 : Nat → Int32 → Int32 → Int32 → Int32 → Int32 → Int32 → Int32 → Mem → Option (Int32 × Mem)} (hk47 : ∀ (a0 : Nat) (a1 : Int32) (a2 : Int32) (a3 : Int32) (a4 : Int32) (a5 : Int32) (a6 : Int32) (a7 : Int32) (μ : Mem) (H : Heap) (locs : List Loc) (ls : Array Slot), lv_has ls 10 [(0, .ref a0), (1, .int a1), (2, .int a2), (3, .int a3), (4, .int a4), (5, .int a5), (6, .int a6), (7, .int a7)] → PW g L μ A s H locs → k47 a0 a1 a2 a3 a4 a5 a6 a7 μ = some (r, μ') → W p l e rm_X8_path s m args below meth c H locs 0 0 (MQ below (QI g L A r μ') args s 0 0 A) (F0 m 47 ls [])) : ∀ (a0 : Nat) (a1 : Int32) (a2 : Int32) (a3 : Int32) (a4 : Int32) (a5 : Int32) (a6 : Int32) (a8 : Int32) (a9 : Int32) (t0 : Int32) (μ : Mem) (H : Heap) (locs : List Loc) (ls : Array Slot), lv_has ls 10 [(0, .ref a0), (1, .int a1), (2, .int a2), (3, .int a3), (4, .int a4), (5, .int a5), (6, .int a6), (8, .int a8), (9, .int a9)] → PW g L μ A s H locs → f_X8_path_L115 g.2 k47 a0 a1 a2 a3 a4 a5 a6 a8 a9 t0 μ = some (r, μ') → W p l e rm_X8_path s m args below meth c H locs 0 0 (MQ below (QI g L A r μ') args s 0 0 A) (F0 m 115 ls [.int t0]) := by
  have hx := hC.1
  have hb := hC.2.1
  intro a0 a1 a2 a3 a4 a5 a6 a8 a9 t0 μ H locs ls hl hw hf
  unfold f_X8_path_L115 at hf
  refine lv_istore (lv' := [(7, .int t0), (0, .ref a0), (1, .int a1), (2, .int a2), (3, .int a3), (4, .int a4), (5, .int a5), (6, .int a6), (8, .int a8), (9, .int a9)]) hx hb dX8_path_115 hl (by decide) rfl (fun ls hl => ?_)
  refine lv_iload hx hb dX8_path_117 (lv_at hl 0 rfl) ?_
  refine lv_if_ne (tgt := 125) hx hb dX8_path_119 (by decide) (fun c101 => ?_) (fun c101 => ?_)
  · have hf := o_neg c101 hf
    refine lv_aload_n hx hb dX8_path_125 rfl (lv_at hl 1 rfl) ?_
    obtain ⟨q102, h103, hf⟩ := o_bind hf
    refine pw_get hC fl_X8_74 hw (rdR_F h103) dX8_path_126 ?_
    refine lv_iload hx hb dX8_path_129 (lv_at hl 5 rfl) ?_
    refine lv_iload hx hb dX8_path_131 (lv_at hl 9 rfl) ?_
    obtain ⟨μ104, h105, hf⟩ := o_bind hf
    refine pw_iast hC hw h105 dX8_path_133 (fun H locs hw => ?_)
    refine lv_iinc (v := (a4 + 1)) (lv' := [(4, .int (a4 + 1)), (7, .int t0), (0, .ref a0), (1, .int a1), (2, .int a2), (3, .int a3), (5, .int a5), (6, .int a6), (8, .int a8), (9, .int a9)]) hx hb dX8_path_134 hl (k := 5) rfl (by first | rfl | decide +kernel) (by decide) rfl (fun ls hl => ?_)
    refine lv_aload_n hx hb dX8_path_137 rfl (lv_at hl 2 rfl) ?_
    obtain ⟨q106, h107, hf⟩ := o_bind hf
    refine pw_get hC fl_X8_67 hw (rdR_F h107) dX8_path_138 ?_
    refine lv_iload_n hx hb dX8_path_141 rfl (lv_at hl 5 rfl) ?_
    refine lv_iload hx hb dX8_path_142 (lv_at hl 9 rfl) ?_
    obtain ⟨h109, hf⟩ := o_ite hf
    obtain ⟨r111, μ110, h108, hf⟩ := o_bind2 hf
    refine pw_goI hw (pw_runV (As := [.int a3, .int a9]) (rest := []) hC mm_X7_child tw_1346 (c_X7_child h108 _) ⟨rfl, rfl, by decide, by decide⟩ hw h109 rfl hl.1 (Nat.le_of_ble_eq_true rfl) ⟨Nat.zero_le _, Nat.zero_le _⟩ rfl dX8_path_144) (fun H locs hw => ?_)
    refine lv_istore_n (lv' := [(3, .int r111), (4, .int (a4 + 1)), (7, .int t0), (0, .ref a0), (1, .int a1), (2, .int a2), (5, .int a5), (6, .int a6), (8, .int a8), (9, .int a9)]) hx hb dX8_path_147 rfl hl (by decide) rfl (fun ls hl => ?_)
    refine lv_iload hx hb dX8_path_148 (lv_at hl 8 rfl) ?_
    refine lv_iload_n hx hb dX8_path_150 rfl (lv_at hl 5 rfl) ?_
    refine lv_icmp_ne (tgt := 158) hx hb dX8_path_151 (by decide) (fun c112 => ?_) (fun c112 => ?_)
    · have hf := o_neg c112 hf
      refine lv_iconst (v := 0) hx hb dX8_path_158 nc_iconst_0 ?_
      exact w_X8_path_L159 hC hr hlocks hk47 _ _ _ _ _ _ _ _ _ _ ls (lv_sub hl [3, 4, 5, 0, 1, 8] rfl) hw hf
    · have hf := o_pos c112 hf
      refine lv_iconst (v := 1) hx hb dX8_path_154 nc_iconst_1 ?_
      refine lv_goto (tgt := 159) hx hb dX8_path_155 (by decide) ?_
      exact w_X8_path_L159 hC hr hlocks hk47 _ _ _ _ _ _ _ _ _ _ ls (lv_sub hl [3, 4, 5, 0, 1, 8] rfl) hw hf
  · have hf := o_pos c101 hf
    refine lv_goto (tgt := 47) hx hb dX8_path_122 (by decide) ?_
    exact hk47 _ _ _ _ _ _ _ _ _ _ _ ls (lv_sub hl [1, 2, 3, 4, 5, 6, 7, 0] rfl) hw hf
def f_X8_path_L103 (cy : Nat → ClassId) (k47 : Nat → Int32 → Int32 → Int32 → Int32 → Int32 → Int32 → Int32 → Mem → Option (Int32 × Mem)) (a0 : Nat) (a1 : Int32) (a2 : Int32) (a3 : Int32) (a4 : Int32) (a5 : Int32) (a6 : Int32) (a8 : Int32) (t0 : Int32) (μ : Mem) : Option (Int32 × Mem) :=
  if t0 < 0 then (f_X8_path_L115 cy k47 a0 a1 a2 a3 a4 a5 a6 a8 t0 0 μ) else f_X8_path_L115 cy k47 a0 a1 a2 a3 a4 a5 a6 a8 t0 1 μ
set_option maxRecDepth 100000 in
set_option maxHeartbeats 4000000 in
theorem w_X8_path_L103 {p : Program} {l : Launch} {e : Env} {s : State} {m : MethodId} {args : Array Value} {below : List Frame} {meth : Method} {c : Code} {A : Nat → Prop} {g : Wg} {L : List Nat} {r : Int32} {μ' : Mem} (hC : CX p m c cX8_path 10 s args RX8) (hr : meth.sig.returnType = (some .int)) (hlocks : meth.locks = false) {k47 : Nat → Int32 → Int32 → Int32 → Int32 → Int32 → Int32 → Int32 → Mem → Option (Int32 × Mem)} (hk47 : ∀ (a0 : Nat) (a1 : Int32) (a2 : Int32) (a3 : Int32) (a4 : Int32) (a5 : Int32) (a6 : Int32) (a7 : Int32) (μ : Mem) (H : Heap) (locs : List Loc) (ls : Array Slot), lv_has ls 10 [(0, .ref a0), (1, .int a1), (2, .int a2), (3, .int a3), (4, .int a4), (5, .int a5), (6, .int a6), (7, .int a7)] → PW g L μ A s H locs → k47 a0 a1 a2 a3 a4 a5 a6 a7 μ = some (r, μ') → W p l e rm_X8_path s m args below meth c H locs 0 0 (MQ below (QI g L A r μ') args s 0 0 A) (F0 m 47 ls [])) : ∀ (a0 : Nat) (a1 : Int32) (a2 : Int32) (a3 : Int32) (a4 : Int32) (a5 : Int32) (a6 : Int32) (a8 : Int32) (t0 : Int32) (μ : Mem) (H : Heap) (locs : List Loc) (ls : Array Slot), lv_has ls 10 [(0, .ref a0), (1, .int a1), (2, .int a2), (3, .int a3), (4, .int a4), (5, .int a5), (6, .int a6), (8, .int a8)] → PW g L μ A s H locs → f_X8_path_L103 g.2 k47 a0 a1 a2 a3 a4 a5 a6 a8 t0 μ = some (r, μ') → W p l e rm_X8_path s m args below meth c H locs 0 0 (MQ below (QI g L A r μ') args s 0 0 A) (F0 m 103 ls [.int t0]) := by
  have hx := hC.1
  have hb := hC.2.1
  intro a0 a1 a2 a3 a4 a5 a6 a8 t0 μ H locs ls hl hw hf
  unfold f_X8_path_L103 at hf
  refine lv_istore (lv' := [(9, .int t0), (0, .ref a0), (1, .int a1), (2, .int a2), (3, .int a3), (4, .int a4), (5, .int a5), (6, .int a6), (8, .int a8)]) hx hb dX8_path_103 hl (by decide) rfl (fun ls hl => ?_)
  refine lv_iload hx hb dX8_path_105 (lv_at hl 0 rfl) ?_
  refine lv_if_lt (tgt := 114) hx hb dX8_path_107 (by decide) (fun c101 => ?_) (fun c101 => ?_)
  · have hf := o_pos c101 hf
    refine lv_iconst (v := 0) hx hb dX8_path_114 nc_iconst_0 ?_
    exact w_X8_path_L115 hC hr hlocks hk47 _ _ _ _ _ _ _ _ _ _ _ _ _ ls (lv_sub hl [1, 2, 3, 4, 5, 6, 7, 8, 0] rfl) hw hf
  · have hf := o_neg c101 hf
    refine lv_iconst (v := 1) hx hb dX8_path_110 nc_iconst_1 ?_
    refine lv_goto (tgt := 115) hx hb dX8_path_111 (by decide) ?_
    exact w_X8_path_L115 hC hr hlocks hk47 _ _ _ _ _ _ _ _ _ _ _ _ _ ls (lv_sub hl [1, 2, 3, 4, 5, 6, 7, 8, 0] rfl) hw hf
def f_X8_path_L78 (cy : Nat → ClassId) (k47 : Nat → Int32 → Int32 → Int32 → Int32 → Int32 → Int32 → Int32 → Mem → Option (Int32 × Mem)) (a0 : Nat) (a1 : Int32) (a2 : Int32) (a3 : Int32) (a4 : Int32) (a5 : Int32) (a6 : Int32) (a8 : Int32) (μ : Mem) : Option (Int32 × Mem) :=
  (rdR μ a0 7 21).bind fun q101 => (rdR μ q101 6 10).bind fun q103 => (rdA cy μ 1 q103 a3).bind fun v105 => if 0 ≤ v105 then (if isO μ a0 7 = true then (ob2 (f_X8_named cy a0 a3 a5 a8 μ) fun r111 μ110 => f_X8_path_L103 cy k47 a0 a1 a2 a3 a4 a5 a6 a8 r111 μ110) else none) else f_X8_path_L103 cy k47 a0 a1 a2 a3 a4 a5 a6 a8 (-1) μ
set_option maxRecDepth 100000 in
set_option maxHeartbeats 4000000 in
theorem w_X8_path_L78 {p : Program} {l : Launch} {e : Env} {s : State} {m : MethodId} {args : Array Value} {below : List Frame} {meth : Method} {c : Code} {A : Nat → Prop} {g : Wg} {L : List Nat} {r : Int32} {μ' : Mem} (hC : CX p m c cX8_path 10 s args RX8) (hr : meth.sig.returnType = (some .int)) (hlocks : meth.locks = false) {k47 : Nat → Int32 → Int32 → Int32 → Int32 → Int32 → Int32 → Int32 → Mem → Option (Int32 × Mem)} (hk47 : ∀ (a0 : Nat) (a1 : Int32) (a2 : Int32) (a3 : Int32) (a4 : Int32) (a5 : Int32) (a6 : Int32) (a7 : Int32) (μ : Mem) (H : Heap) (locs : List Loc) (ls : Array Slot), lv_has ls 10 [(0, .ref a0), (1, .int a1), (2, .int a2), (3, .int a3), (4, .int a4), (5, .int a5), (6, .int a6), (7, .int a7)] → PW g L μ A s H locs → k47 a0 a1 a2 a3 a4 a5 a6 a7 μ = some (r, μ') → W p l e rm_X8_path s m args below meth c H locs 0 0 (MQ below (QI g L A r μ') args s 0 0 A) (F0 m 47 ls [])) : ∀ (a0 : Nat) (a1 : Int32) (a2 : Int32) (a3 : Int32) (a4 : Int32) (a5 : Int32) (a6 : Int32) (a8 : Int32) (μ : Mem) (H : Heap) (locs : List Loc) (ls : Array Slot), lv_has ls 10 [(0, .ref a0), (1, .int a1), (2, .int a2), (3, .int a3), (4, .int a4), (5, .int a5), (6, .int a6), (8, .int a8)] → PW g L μ A s H locs → f_X8_path_L78 g.2 k47 a0 a1 a2 a3 a4 a5 a6 a8 μ = some (r, μ') → W p l e rm_X8_path s m args below meth c H locs 0 0 (MQ below (QI g L A r μ') args s 0 0 A) (F0 m 78 ls []) := by
  have hx := hC.1
  have hb := hC.2.1
  intro a0 a1 a2 a3 a4 a5 a6 a8 μ H locs ls hl hw hf
  unfold f_X8_path_L78 at hf
  refine lv_aload_n hx hb dX8_path_78 rfl (lv_at hl 0 rfl) ?_
  obtain ⟨q101, h102, hf⟩ := o_bind hf
  refine pw_get hC fl_X8_67 hw (rdR_F h102) dX8_path_79 ?_
  obtain ⟨q103, h104, hf⟩ := o_bind hf
  refine pw_get hC fl_X8_222 hw (rdR_F h104) dX8_path_82 ?_
  refine lv_iload_n hx hb dX8_path_85 rfl (lv_at hl 3 rfl) ?_
  obtain ⟨v105, h106, hf⟩ := o_bind hf
  refine pw_iald hC hw h106 dX8_path_86 ?_
  refine lv_if_ge (tgt := 94) hx hb dX8_path_87 (by decide) (fun c107 => ?_) (fun c107 => ?_)
  · have hf := o_pos c107 hf
    refine lv_aload_n hx hb dX8_path_94 rfl (lv_at hl 0 rfl) ?_
    refine lv_iload_n hx hb dX8_path_95 rfl (lv_at hl 3 rfl) ?_
    refine lv_iload hx hb dX8_path_96 (lv_at hl 5 rfl) ?_
    refine lv_iload hx hb dX8_path_98 (lv_at hl 7 rfl) ?_
    obtain ⟨h109, hf⟩ := o_ite hf
    obtain ⟨r111, μ110, h108, hf⟩ := o_bind2 hf
    refine pw_goI hw (pw_runV (As := [.int a3, .int a5, .int a8]) (rest := []) hC mm_X8_named tw_1354 (c_X8_named h108 _) ⟨rfl, rfl, by decide, by decide⟩ hw h109 rfl hl.1 (Nat.le_of_ble_eq_true rfl) ⟨Nat.zero_le _, Nat.zero_le _⟩ rfl dX8_path_100) (fun H locs hw => ?_)
    exact w_X8_path_L103 hC hr hlocks hk47 _ _ _ _ _ _ _ _ _ _ _ _ ls (lv_sub hl [0, 1, 2, 3, 4, 5, 6, 7] rfl) hw hf
  · have hf := o_neg c107 hf
    refine lv_iconst (v := (-1)) hx hb dX8_path_90 nc_iconst_m1 ?_
    refine lv_goto (tgt := 103) hx hb dX8_path_91 (by decide) ?_
    exact w_X8_path_L103 hC hr hlocks hk47 _ _ _ _ _ _ _ _ _ _ _ _ ls (lv_sub hl [0, 1, 2, 3, 4, 5, 6, 7] rfl) hw hf
def f_X8_path_L56 (cy : Nat → ClassId) (k47 : Nat → Int32 → Int32 → Int32 → Int32 → Int32 → Int32 → Int32 → Mem → Option (Int32 × Mem)) : Nat → Nat → Int32 → Int32 → Int32 → Int32 → Int32 → Int32 → Int32 → Mem → Option (Int32 × Mem)
  | 0, _, _, _, _, _, _, _, _, _ => none
  | n + 1, a0, a1, a2, a3, a4, a5, a6, a8, μ => if a2 ≤ a8 then (f_X8_path_L78 cy k47 a0 a1 a2 a3 a4 a5 a6 a8 μ) else (rdR μ a0 7 1).bind fun q102 => (rdA cy μ 0 q102 a8).bind fun v104 => if v104 = 0 then (f_X8_path_L78 cy k47 a0 a1 a2 a3 a4 a5 a6 a8 μ) else f_X8_path_L56 cy k47 n a0 a1 a2 a3 a4 a5 a6 (a8 + 1) μ
set_option maxRecDepth 100000 in
set_option maxHeartbeats 4000000 in
theorem w_X8_path_L56 {p : Program} {l : Launch} {e : Env} {s : State} {m : MethodId} {args : Array Value} {below : List Frame} {meth : Method} {c : Code} {A : Nat → Prop} {g : Wg} {L : List Nat} {r : Int32} {μ' : Mem} (hC : CX p m c cX8_path 10 s args RX8) (hr : meth.sig.returnType = (some .int)) (hlocks : meth.locks = false) {k47 : Nat → Int32 → Int32 → Int32 → Int32 → Int32 → Int32 → Int32 → Mem → Option (Int32 × Mem)} (hk47 : ∀ (a0 : Nat) (a1 : Int32) (a2 : Int32) (a3 : Int32) (a4 : Int32) (a5 : Int32) (a6 : Int32) (a7 : Int32) (μ : Mem) (H : Heap) (locs : List Loc) (ls : Array Slot), lv_has ls 10 [(0, .ref a0), (1, .int a1), (2, .int a2), (3, .int a3), (4, .int a4), (5, .int a5), (6, .int a6), (7, .int a7)] → PW g L μ A s H locs → k47 a0 a1 a2 a3 a4 a5 a6 a7 μ = some (r, μ') → W p l e rm_X8_path s m args below meth c H locs 0 0 (MQ below (QI g L A r μ') args s 0 0 A) (F0 m 47 ls [])) : ∀ (n : Nat), ∀ (a0 : Nat) (a1 : Int32) (a2 : Int32) (a3 : Int32) (a4 : Int32) (a5 : Int32) (a6 : Int32) (a8 : Int32) (μ : Mem) (H : Heap) (locs : List Loc) (ls : Array Slot), lv_has ls 10 [(0, .ref a0), (1, .int a1), (2, .int a2), (3, .int a3), (4, .int a4), (5, .int a5), (6, .int a6), (8, .int a8)] → PW g L μ A s H locs → f_X8_path_L56 g.2 k47 n a0 a1 a2 a3 a4 a5 a6 a8 μ = some (r, μ') → W p l e rm_X8_path s m args below meth c H locs 0 0 (MQ below (QI g L A r μ') args s 0 0 A) (F0 m 56 ls []) := by
  have hx := hC.1
  have hb := hC.2.1
  intro n
  induction n with
  | zero => intro a0 a1 a2 a3 a4 a5 a6 a8 μ H locs ls hl hw hf; cases hf
  | succ n ih =>
    intro a0 a1 a2 a3 a4 a5 a6 a8 μ H locs ls hl hw hf
    rw [f_X8_path_L56] at hf
    refine lv_iload hx hb dX8_path_56 (lv_at hl 7 rfl) ?_
    refine lv_iload_n hx hb dX8_path_58 rfl (lv_at hl 2 rfl) ?_
    refine lv_icmp_ge (tgt := 78) hx hb dX8_path_59 (by decide) (fun c101 => ?_) (fun c101 => ?_)
    · have hf := o_pos c101 hf
      exact w_X8_path_L78 hC hr hlocks hk47 _ _ _ _ _ _ _ _ _ _ _ ls (lv_sub hl [0, 1, 2, 3, 4, 5, 6, 7] rfl) hw hf
    · have hf := o_neg c101 hf
      refine lv_aload_n hx hb dX8_path_62 rfl (lv_at hl 0 rfl) ?_
      obtain ⟨q102, h103, hf⟩ := o_bind hf
      refine pw_get hC fl_X8_13 hw (rdR_F h103) dX8_path_63 ?_
      refine lv_iload hx hb dX8_path_66 (lv_at hl 7 rfl) ?_
      obtain ⟨v104, h105, hf⟩ := o_bind hf
      refine pw_bald hC hw h105 dX8_path_68 ?_
      refine lv_if_eq (tgt := 78) hx hb dX8_path_69 (by decide) (fun c106 => ?_) (fun c106 => ?_)
      · have hf := o_pos c106 hf
        exact w_X8_path_L78 hC hr hlocks hk47 _ _ _ _ _ _ _ _ _ _ _ ls (lv_sub hl [0, 1, 2, 3, 4, 5, 6, 7] rfl) hw hf
      · have hf := o_neg c106 hf
        refine lv_iinc (v := (a8 + 1)) (lv' := [(8, .int (a8 + 1)), (0, .ref a0), (1, .int a1), (2, .int a2), (3, .int a3), (4, .int a4), (5, .int a5), (6, .int a6)]) hx hb dX8_path_72 hl (k := 7) rfl (by first | rfl | decide +kernel) (by decide) rfl (fun ls hl => ?_)
        refine lv_goto (tgt := 56) hx hb dX8_path_75 (by decide) ?_
        exact ih _ _ _ _ _ _ _ _ _ _ _ ls (lv_sub hl [1, 2, 3, 4, 5, 6, 7, 0] rfl) hw hf
def f_X8_path_L47 (cy : Nat → ClassId) : Nat → Nat → Int32 → Int32 → Int32 → Int32 → Int32 → Int32 → Int32 → Mem → Option (Int32 × Mem)
  | 0, _, _, _, _, _, _, _, _, _ => none
  | n + 1, a0, a1, a2, a3, a4, a5, a6, a7, μ => if a7 = 0 then (if a6 = 0 then (f_X8_path_L246 cy a4 μ) else (rdR μ a0 7 8).bind fun q103 => (wrA cy μ 1 q103 a1 (a4 - 1)).bind fun μ105 => f_X8_path_L200 cy FU a0 a1 a4 0 μ105) else f_X8_path_L56 cy (f_X8_path_L47 cy n) FU a0 a1 a2 a3 a4 a5 a6 a5 μ
set_option maxRecDepth 100000 in
set_option maxHeartbeats 4000000 in
theorem w_X8_path_L47 {p : Program} {l : Launch} {e : Env} {s : State} {m : MethodId} {args : Array Value} {below : List Frame} {meth : Method} {c : Code} {A : Nat → Prop} {g : Wg} {L : List Nat} {r : Int32} {μ' : Mem} (hC : CX p m c cX8_path 10 s args RX8) (hr : meth.sig.returnType = (some .int)) (hlocks : meth.locks = false) : ∀ (n : Nat), ∀ (a0 : Nat) (a1 : Int32) (a2 : Int32) (a3 : Int32) (a4 : Int32) (a5 : Int32) (a6 : Int32) (a7 : Int32) (μ : Mem) (H : Heap) (locs : List Loc) (ls : Array Slot), lv_has ls 10 [(0, .ref a0), (1, .int a1), (2, .int a2), (3, .int a3), (4, .int a4), (5, .int a5), (6, .int a6), (7, .int a7)] → PW g L μ A s H locs → f_X8_path_L47 g.2 n a0 a1 a2 a3 a4 a5 a6 a7 μ = some (r, μ') → W p l e rm_X8_path s m args below meth c H locs 0 0 (MQ below (QI g L A r μ') args s 0 0 A) (F0 m 47 ls []) := by
  have hx := hC.1
  have hb := hC.2.1
  intro n
  induction n with
  | zero => intro a0 a1 a2 a3 a4 a5 a6 a7 μ H locs ls hl hw hf; cases hf
  | succ n ih =>
    intro a0 a1 a2 a3 a4 a5 a6 a7 μ H locs ls hl hw hf
    rw [f_X8_path_L47] at hf
    refine lv_iload hx hb dX8_path_47 (lv_at hl 7 rfl) ?_
    refine lv_if_eq (tgt := 182) hx hb dX8_path_49 (by decide) (fun c101 => ?_) (fun c101 => ?_)
    · have hf := o_pos c101 hf
      refine lv_iload hx hb dX8_path_182 (lv_at hl 6 rfl) ?_
      refine lv_if_eq (tgt := 246) hx hb dX8_path_184 (by decide) (fun c102 => ?_) (fun c102 => ?_)
      · have hf := o_pos c102 hf
        exact w_X8_path_L246 hC hr hlocks _ _ _ _ ls (lv_sub hl [4] rfl) hw hf
      · have hf := o_neg c102 hf
        refine lv_aload_n hx hb dX8_path_187 rfl (lv_at hl 0 rfl) ?_
        obtain ⟨q103, h104, hf⟩ := o_bind hf
        refine pw_get hC fl_X8_34 hw (rdR_F h104) dX8_path_188 ?_
        refine lv_iload_n hx hb dX8_path_191 rfl (lv_at hl 1 rfl) ?_
        refine lv_iload hx hb dX8_path_192 (lv_at hl 4 rfl) ?_
        refine lv_iconst (v := 1) hx hb dX8_path_194 nc_iconst_1 ?_
        refine lv_isub hx hb dX8_path_195 ?_
        obtain ⟨μ105, h106, hf⟩ := o_bind hf
        refine pw_iast hC hw h106 dX8_path_196 (fun H locs hw => ?_)
        refine lv_iconst (v := 0) hx hb dX8_path_197 nc_iconst_0 ?_
        refine lv_istore (lv' := [(8, .int 0), (0, .ref a0), (1, .int a1), (2, .int a2), (3, .int a3), (4, .int a4), (5, .int a5), (6, .int a6), (7, .int a7)]) hx hb dX8_path_198 hl (by decide) rfl (fun ls hl => ?_)
        exact w_X8_path_L200 hC hr hlocks FU _ _ _ _ _ _ _ ls (lv_sub hl [1, 2, 5, 0] rfl) hw hf
    · have hf := o_neg c101 hf
      refine lv_iload hx hb dX8_path_52 (lv_at hl 5 rfl) ?_
      refine lv_istore (lv' := [(8, .int a5), (0, .ref a0), (1, .int a1), (2, .int a2), (3, .int a3), (4, .int a4), (5, .int a5), (6, .int a6), (7, .int a7)]) hx hb dX8_path_54 hl (by decide) rfl (fun ls hl => ?_)
      exact w_X8_path_L56 hC hr hlocks ih FU _ _ _ _ _ _ _ _ _ _ _ ls (lv_sub hl [1, 2, 3, 4, 5, 6, 7, 0] rfl) hw hf
def f_X8_path (cy : Nat → ClassId) (a0 : Nat) (a1 : Int32) (μ : Mem) : Option (Int32 × Mem) :=
  (rdI μ a0 7 2).bind fun v1 => (wrF μ a0 7 2 (.int 0)).bind fun μ3 => if isO μ3 a0 7 = true then (ob2 (f_X8_noShelf cy a0 a1 μ3) fun r8 μ7 => if r8 = 0 then ((rdR μ7 a0 7 21).bind fun q10 => (rdR μ7 a0 7 5).bind fun q12 => (rdQ cy μ7 5 q12 a1).bind fun q14 => if isO μ7 q10 6 = true then ((f_X7_read cy q10 q14 μ7).bind fun μ18 => f_X8_path_L47 cy FU a0 a1 v1 0 0 0 0 1 μ18) else none) else some (0, μ7)) else none
set_option maxRecDepth 100000 in
set_option maxHeartbeats 4000000 in
theorem c_X8_path {l : Launch} {g : Wg} {L : List Nat} {μ : Mem} {a0 : Nat} {a1 : Int32} {r : Int32} {μ' : Mem} (hf : f_X8_path g.2 a0 a1 μ = some (r, μ')) : MetI l yX8_path cX8_path 10 (some .int) rm_X8_path g L μ [.ref a0, .int a1] r μ' := by
  refine pw_met (Qc := fun A => QI g L A r μ') (by decide) (Nat.le_of_ble_eq_true rfl) ?_
  intro p e s m args below meth c A ls H locs hC hr hlocks hl hw
  have hx := hC.1
  have hb := hC.2.1
  have hl : lv_has ls 10 [(0, .ref a0), (1, .int a1)] := hl
  unfold f_X8_path at hf
  refine lv_aload_n hx hb dX8_path_0 rfl (lv_at hl 0 rfl) ?_
  obtain ⟨v1, h2, hf⟩ := o_bind hf
  refine pw_get hC fl_X8_103 hw (rdI_F h2) dX8_path_1 ?_
  refine lv_istore_n (lv' := [(2, .int v1), (0, .ref a0), (1, .int a1)]) hx hb dX8_path_4 rfl hl (by decide) rfl (fun ls hl => ?_)
  refine lv_aload_n hx hb dX8_path_5 rfl (lv_at hl 1 rfl) ?_
  refine lv_iconst (v := 0) hx hb dX8_path_6 nc_iconst_0 ?_
  obtain ⟨μ3, h4, hf⟩ := o_bind hf
  refine pw_put hC fl_X8_103 hw h4 .int fd_X8_2 rfl rfl dX8_path_7 (fun H locs hw => ?_)
  refine lv_aload_n hx hb dX8_path_10 rfl (lv_at hl 1 rfl) ?_
  refine lv_iload_n hx hb dX8_path_11 rfl (lv_at hl 2 rfl) ?_
  obtain ⟨h6, hf⟩ := o_ite hf
  obtain ⟨r8, μ7, h5, hf⟩ := o_bind2 hf
  refine pw_goI hw (pw_runV (As := [.int a1]) (rest := []) hC mm_X8_noShelf tw_1313 (c_X8_noShelf h5 _) ⟨rfl, rfl, by decide, by decide⟩ hw h6 rfl hl.1 (Nat.le_of_ble_eq_true rfl) ⟨Nat.zero_le _, Nat.zero_le _⟩ rfl dX8_path_12) (fun H locs hw => ?_)
  refine lv_if_eq (tgt := 20) hx hb dX8_path_15 (by decide) (fun c9 => ?_) (fun c9 => ?_)
  · have hf := o_pos c9 hf
    refine lv_aload_n hx hb dX8_path_20 rfl (lv_at hl 1 rfl) ?_
    obtain ⟨q10, h11, hf⟩ := o_bind hf
    refine pw_get hC fl_X8_67 hw (rdR_F h11) dX8_path_21 ?_
    refine lv_aload_n hx hb dX8_path_24 rfl (lv_at hl 1 rfl) ?_
    obtain ⟨q12, h13, hf⟩ := o_bind hf
    refine pw_get hC fl_X8_22 hw (rdR_F h13) dX8_path_25 ?_
    refine lv_iload_n hx hb dX8_path_28 rfl (lv_at hl 2 rfl) ?_
    obtain ⟨q14, h15, hf⟩ := o_bind hf
    refine pw_aald hC hw 5 rfl rfl h15 dX8_path_29 ?_
    obtain ⟨h17, hf⟩ := o_ite hf
    obtain ⟨μ18, h16, hf⟩ := o_bind hf
    refine pw_goV hw (pw_runV (As := [.ref q14]) (rest := []) hC mm_X7_read tw_1325 (c_X7_read h16 _) ⟨rfl, rfl, by decide, by decide⟩ hw h17 rfl hl.1 (Nat.le_of_ble_eq_true rfl) ⟨Nat.zero_le _, Nat.zero_le _⟩ rfl dX8_path_30) (fun H locs hw => ?_)
    refine lv_iconst (v := 0) hx hb dX8_path_33 nc_iconst_0 ?_
    refine lv_istore_n (lv' := [(3, .int 0), (2, .int v1), (0, .ref a0), (1, .int a1)]) hx hb dX8_path_34 rfl hl (by decide) rfl (fun ls hl => ?_)
    refine lv_iconst (v := 0) hx hb dX8_path_35 nc_iconst_0 ?_
    refine lv_istore (lv' := [(4, .int 0), (3, .int 0), (2, .int v1), (0, .ref a0), (1, .int a1)]) hx hb dX8_path_36 hl (by decide) rfl (fun ls hl => ?_)
    refine lv_iconst (v := 0) hx hb dX8_path_38 nc_iconst_0 ?_
    refine lv_istore (lv' := [(5, .int 0), (4, .int 0), (3, .int 0), (2, .int v1), (0, .ref a0), (1, .int a1)]) hx hb dX8_path_39 hl (by decide) rfl (fun ls hl => ?_)
    refine lv_iconst (v := 0) hx hb dX8_path_41 nc_iconst_0 ?_
    refine lv_istore (lv' := [(6, .int 0), (5, .int 0), (4, .int 0), (3, .int 0), (2, .int v1), (0, .ref a0), (1, .int a1)]) hx hb dX8_path_42 hl (by decide) rfl (fun ls hl => ?_)
    refine lv_iconst (v := 1) hx hb dX8_path_44 nc_iconst_1 ?_
    refine lv_istore (lv' := [(7, .int 1), (6, .int 0), (5, .int 0), (4, .int 0), (3, .int 0), (2, .int v1), (0, .ref a0), (1, .int a1)]) hx hb dX8_path_45 hl (by decide) rfl (fun ls hl => ?_)
    exact w_X8_path_L47 hC hr hlocks FU _ _ _ _ _ _ _ _ _ _ _ ls (lv_sub hl [6, 7, 5, 4, 3, 2, 1, 0] rfl) hw hf
  · have hf := o_neg c9 hf
    refine lv_iconst (v := 0) hx hb dX8_path_18 nc_iconst_0 ?_
    obtain ⟨rfl, rfl⟩ := o_ret hf
    exact pw_iret hC hr hlocks hw dX8_path_19
theorem dX8_total_0 : decode cX8_total 0 = .ok (.aload_n 0, 1) := by decide +kernel
theorem dX8_total_1 : decode cX8_total 1 = .ok (.iload_n 1, 1) := by decide +kernel
theorem dX8_total_2 : decode cX8_total 2 = .ok (.invokevirtual 183, 3) := by decide +kernel
theorem dX8_total_5 : decode cX8_total 5 = .ok (.ifCond .eq 5, 3) := by decide +kernel
theorem dX8_total_8 : decode cX8_total 8 = .ok (.iconst 0, 1) := by decide +kernel
theorem dX8_total_9 : decode cX8_total 9 = .ok (.ireturn, 1) := by decide +kernel
theorem dX8_total_10 : decode cX8_total 10 = .ok (.aload_n 0, 1) := by decide +kernel
theorem dX8_total_11 : decode cX8_total 11 = .ok (.getfield 67, 3) := by decide +kernel
theorem dX8_total_14 : decode cX8_total 14 = .ok (.aload_n 0, 1) := by decide +kernel
theorem dX8_total_15 : decode cX8_total 15 = .ok (.getfield 22, 3) := by decide +kernel
theorem dX8_total_18 : decode cX8_total 18 = .ok (.iload_n 1, 1) := by decide +kernel
theorem dX8_total_19 : decode cX8_total 19 = .ok (.aaload, 1) := by decide +kernel
theorem dX8_total_20 : decode cX8_total 20 = .ok (.invokevirtual 190, 3) := by decide +kernel
theorem dX8_total_23 : decode cX8_total 23 = .ok (.aload_n 0, 1) := by decide +kernel
theorem dX8_total_24 : decode cX8_total 24 = .ok (.iconst 0, 1) := by decide +kernel
theorem dX8_total_25 : decode cX8_total 25 = .ok (.putfield 241, 3) := by decide +kernel
theorem dX8_total_28 : decode cX8_total 28 = .ok (.aload_n 0, 1) := by decide +kernel
theorem dX8_total_29 : decode cX8_total 29 = .ok (.iconst 0, 1) := by decide +kernel
theorem dX8_total_30 : decode cX8_total 30 = .ok (.putfield 244, 3) := by decide +kernel
theorem dX8_total_33 : decode cX8_total 33 = .ok (.aload_n 0, 1) := by decide +kernel
theorem dX8_total_34 : decode cX8_total 34 = .ok (.iconst 0, 1) := by decide +kernel
theorem dX8_total_35 : decode cX8_total 35 = .ok (.invokevirtual 247, 3) := by decide +kernel
theorem dX8_total_38 : decode cX8_total 38 = .ok (.iconst 1, 1) := by decide +kernel
theorem dX8_total_39 : decode cX8_total 39 = .ok (.istore_n 3, 1) := by decide +kernel
theorem dX8_total_40 : decode cX8_total 40 = .ok (.iconst 1, 1) := by decide +kernel
theorem dX8_total_41 : decode cX8_total 41 = .ok (.istore 4, 2) := by decide +kernel
theorem dX8_total_43 : decode cX8_total 43 = .ok (.iconst 0, 1) := by decide +kernel
theorem dX8_total_44 : decode cX8_total 44 = .ok (.istore 5, 2) := by decide +kernel
theorem dX8_total_46 : decode cX8_total 46 = .ok (.iconst 1, 1) := by decide +kernel
theorem dX8_total_47 : decode cX8_total 47 = .ok (.istore 6, 2) := by decide +kernel
theorem dX8_total_49 : decode cX8_total 49 = .ok (.iload 6, 2) := by decide +kernel
theorem dX8_total_51 : decode cX8_total 51 = .ok (.aload_n 0, 1) := by decide +kernel
theorem dX8_total_52 : decode cX8_total 52 = .ok (.getfield 67, 3) := by decide +kernel
theorem dX8_total_55 : decode cX8_total 55 = .ok (.getfield 250, 3) := by decide +kernel
theorem dX8_total_58 : decode cX8_total 58 = .ok (.if_icmp .ge 78, 3) := by decide +kernel
theorem dX8_total_61 : decode cX8_total 61 = .ok (.aload_n 0, 1) := by decide +kernel
theorem dX8_total_62 : decode cX8_total 62 = .ok (.iload 6, 2) := by decide +kernel
theorem dX8_total_64 : decode cX8_total 64 = .ok (.invokevirtual 253, 3) := by decide +kernel
theorem dX8_total_67 : decode cX8_total 67 = .ok (.iload 5, 2) := by decide +kernel
theorem dX8_total_69 : decode cX8_total 69 = .ok (.aload_n 0, 1) := by decide +kernel
theorem dX8_total_70 : decode cX8_total 70 = .ok (.getfield 67, 3) := by decide +kernel
theorem dX8_total_73 : decode cX8_total 73 = .ok (.getfield 210, 3) := by decide +kernel
theorem dX8_total_76 : decode cX8_total 76 = .ok (.iload 6, 2) := by decide +kernel
theorem dX8_total_78 : decode cX8_total 78 = .ok (.iaload, 1) := by decide +kernel
theorem dX8_total_79 : decode cX8_total 79 = .ok (.iadd, 1) := by decide +kernel
theorem dX8_total_80 : decode cX8_total 80 = .ok (.istore 5, 2) := by decide +kernel
theorem dX8_total_82 : decode cX8_total 82 = .ok (.aload_n 0, 1) := by decide +kernel
theorem dX8_total_83 : decode cX8_total 83 = .ok (.getfield 67, 3) := by decide +kernel
theorem dX8_total_86 : decode cX8_total 86 = .ok (.getfield 222, 3) := by decide +kernel
theorem dX8_total_89 : decode cX8_total 89 = .ok (.iload 6, 2) := by decide +kernel
theorem dX8_total_91 : decode cX8_total 91 = .ok (.iaload, 1) := by decide +kernel
theorem dX8_total_92 : decode cX8_total 92 = .ok (.ifCond .ge 6, 3) := by decide +kernel
theorem dX8_total_95 : decode cX8_total 95 = .ok (.goto 35, 3) := by decide +kernel
theorem dX8_total_98 : decode cX8_total 98 = .ok (.iinc 4 1, 3) := by decide +kernel
theorem dX8_total_101 : decode cX8_total 101 = .ok (.aload_n 0, 1) := by decide +kernel
theorem dX8_total_102 : decode cX8_total 102 = .ok (.getfield 67, 3) := by decide +kernel
theorem dX8_total_105 : decode cX8_total 105 = .ok (.getfield 225, 3) := by decide +kernel
theorem dX8_total_108 : decode cX8_total 108 = .ok (.iload 6, 2) := by decide +kernel
theorem dX8_total_110 : decode cX8_total 110 = .ok (.iaload, 1) := by decide +kernel
theorem dX8_total_111 : decode cX8_total 111 = .ok (.iload_n 3, 1) := by decide +kernel
theorem dX8_total_112 : decode cX8_total 112 = .ok (.if_icmp .le 16, 3) := by decide +kernel
theorem dX8_total_115 : decode cX8_total 115 = .ok (.aload_n 0, 1) := by decide +kernel
theorem dX8_total_116 : decode cX8_total 116 = .ok (.getfield 67, 3) := by decide +kernel
theorem dX8_total_119 : decode cX8_total 119 = .ok (.getfield 225, 3) := by decide +kernel
theorem dX8_total_122 : decode cX8_total 122 = .ok (.iload 6, 2) := by decide +kernel
theorem dX8_total_124 : decode cX8_total 124 = .ok (.iaload, 1) := by decide +kernel
theorem dX8_total_125 : decode cX8_total 125 = .ok (.goto 4, 3) := by decide +kernel
theorem dX8_total_128 : decode cX8_total 128 = .ok (.iload_n 3, 1) := by decide +kernel
theorem dX8_total_129 : decode cX8_total 129 = .ok (.istore_n 3, 1) := by decide +kernel
theorem dX8_total_130 : decode cX8_total 130 = .ok (.iinc 6 1, 3) := by decide +kernel
theorem dX8_total_133 : decode cX8_total 133 = .ok (.goto (-84), 3) := by decide +kernel
theorem dX8_total_136 : decode cX8_total 136 = .ok (.iload_n 2, 1) := by decide +kernel
theorem dX8_total_137 : decode cX8_total 137 = .ok (.tableswitch 67 0 5 #[39, 49, 51, 54, 59, 64], 39) := by decide +kernel
theorem dX8_total_176 : decode cX8_total 176 = .ok (.aload_n 0, 1) := by decide +kernel
theorem dX8_total_177 : decode cX8_total 177 = .ok (.getfield 67, 3) := by decide +kernel
theorem dX8_total_180 : decode cX8_total 180 = .ok (.getfield 250, 3) := by decide +kernel
theorem dX8_total_183 : decode cX8_total 183 = .ok (.iconst 1, 1) := by decide +kernel
theorem dX8_total_184 : decode cX8_total 184 = .ok (.isub, 1) := by decide +kernel
theorem dX8_total_185 : decode cX8_total 185 = .ok (.ireturn, 1) := by decide +kernel
theorem dX8_total_186 : decode cX8_total 186 = .ok (.iload_n 3, 1) := by decide +kernel
theorem dX8_total_187 : decode cX8_total 187 = .ok (.ireturn, 1) := by decide +kernel
theorem dX8_total_188 : decode cX8_total 188 = .ok (.iload 4, 2) := by decide +kernel
theorem dX8_total_190 : decode cX8_total 190 = .ok (.ireturn, 1) := by decide +kernel
theorem dX8_total_191 : decode cX8_total 191 = .ok (.aload_n 0, 1) := by decide +kernel
theorem dX8_total_192 : decode cX8_total 192 = .ok (.getfield 241, 3) := by decide +kernel
theorem dX8_total_195 : decode cX8_total 195 = .ok (.ireturn, 1) := by decide +kernel
theorem dX8_total_196 : decode cX8_total 196 = .ok (.aload_n 0, 1) := by decide +kernel
theorem dX8_total_197 : decode cX8_total 197 = .ok (.getfield 244, 3) := by decide +kernel
theorem dX8_total_200 : decode cX8_total 200 = .ok (.ireturn, 1) := by decide +kernel
theorem dX8_total_201 : decode cX8_total 201 = .ok (.iload 5, 2) := by decide +kernel
theorem dX8_total_203 : decode cX8_total 203 = .ok (.ireturn, 1) := by decide +kernel
theorem dX8_total_204 : decode cX8_total 204 = .ok (.iconst (-1), 1) := by decide +kernel
theorem dX8_total_205 : decode cX8_total 205 = .ok (.ireturn, 1) := by decide +kernel
abbrev rm_X8_total : Room := { frames := 124, cells := 0, slots := 0, locals := 3090 }
def f_X8_total_L130 (cy : Nat → ClassId) (k49 : Nat → Int32 → Int32 → Int32 → Int32 → Int32 → Mem → Option (Int32 × Mem)) (a0 : Nat) (a2 : Int32) (a3 : Int32) (a4 : Int32) (a5 : Int32) (a6 : Int32) (μ : Mem) : Option (Int32 × Mem) :=
  k49 a0 a2 a3 a4 a5 (a6 + 1) μ
set_option maxRecDepth 100000 in
set_option maxHeartbeats 4000000 in
theorem w_X8_total_L130 {p : Program} {l : Launch} {e : Env} {s : State} {m : MethodId} {args : Array Value} {below : List Frame} {meth : Method} {c : Code} {A : Nat → Prop} {g : Wg} {L : List Nat} {r : Int32} {μ' : Mem} (hC : CX p m c cX8_total 7 s args RX8) (hr : meth.sig.returnType = (some .int)) (hlocks : meth.locks = false) {k49 : Nat → Int32 → Int32 → Int32 → Int32 → Int32 → Mem → Option (Int32 × Mem)} (hk49 : ∀ (a0 : Nat) (a2 : Int32) (a3 : Int32) (a4 : Int32) (a5 : Int32) (a6 : Int32) (μ : Mem) (H : Heap) (locs : List Loc) (ls : Array Slot), lv_has ls 7 [(0, .ref a0), (2, .int a2), (3, .int a3), (4, .int a4), (5, .int a5), (6, .int a6)] → PW g L μ A s H locs → k49 a0 a2 a3 a4 a5 a6 μ = some (r, μ') → W p l e rm_X8_total s m args below meth c H locs 0 0 (MQ below (QI g L A r μ') args s 0 0 A) (F0 m 49 ls [])) : ∀ (a0 : Nat) (a2 : Int32) (a3 : Int32) (a4 : Int32) (a5 : Int32) (a6 : Int32) (μ : Mem) (H : Heap) (locs : List Loc) (ls : Array Slot), lv_has ls 7 [(0, .ref a0), (2, .int a2), (3, .int a3), (4, .int a4), (5, .int a5), (6, .int a6)] → PW g L μ A s H locs → f_X8_total_L130 g.2 k49 a0 a2 a3 a4 a5 a6 μ = some (r, μ') → W p l e rm_X8_total s m args below meth c H locs 0 0 (MQ below (QI g L A r μ') args s 0 0 A) (F0 m 130 ls []) := by
  have hx := hC.1
  have hb := hC.2.1
  intro a0 a2 a3 a4 a5 a6 μ H locs ls hl hw hf
  unfold f_X8_total_L130 at hf
  refine lv_iinc (v := (a6 + 1)) (lv' := [(6, .int (a6 + 1)), (0, .ref a0), (2, .int a2), (3, .int a3), (4, .int a4), (5, .int a5)]) hx hb dX8_total_130 hl (k := 5) rfl (by first | rfl | decide +kernel) (by decide) rfl (fun ls hl => ?_)
  refine lv_goto (tgt := 49) hx hb dX8_total_133 (by decide) ?_
  exact hk49 _ _ _ _ _ _ _ _ _ ls (lv_sub hl [1, 2, 3, 4, 5, 0] rfl) hw hf
def f_X8_total_L129 (cy : Nat → ClassId) (k49 : Nat → Int32 → Int32 → Int32 → Int32 → Int32 → Mem → Option (Int32 × Mem)) (a0 : Nat) (a2 : Int32) (a4 : Int32) (a5 : Int32) (a6 : Int32) (t0 : Int32) (μ : Mem) : Option (Int32 × Mem) :=
  f_X8_total_L130 cy k49 a0 a2 t0 a4 a5 a6 μ
set_option maxRecDepth 100000 in
set_option maxHeartbeats 4000000 in
theorem w_X8_total_L129 {p : Program} {l : Launch} {e : Env} {s : State} {m : MethodId} {args : Array Value} {below : List Frame} {meth : Method} {c : Code} {A : Nat → Prop} {g : Wg} {L : List Nat} {r : Int32} {μ' : Mem} (hC : CX p m c cX8_total 7 s args RX8) (hr : meth.sig.returnType = (some .int)) (hlocks : meth.locks = false) {k49 : Nat → Int32 → Int32 → Int32 → Int32 → Int32 → Mem → Option (Int32 × Mem)} (hk49 : ∀ (a0 : Nat) (a2 : Int32) (a3 : Int32) (a4 : Int32) (a5 : Int32) (a6 : Int32) (μ : Mem) (H : Heap) (locs : List Loc) (ls : Array Slot), lv_has ls 7 [(0, .ref a0), (2, .int a2), (3, .int a3), (4, .int a4), (5, .int a5), (6, .int a6)] → PW g L μ A s H locs → k49 a0 a2 a3 a4 a5 a6 μ = some (r, μ') → W p l e rm_X8_total s m args below meth c H locs 0 0 (MQ below (QI g L A r μ') args s 0 0 A) (F0 m 49 ls [])) : ∀ (a0 : Nat) (a2 : Int32) (a4 : Int32) (a5 : Int32) (a6 : Int32) (t0 : Int32) (μ : Mem) (H : Heap) (locs : List Loc) (ls : Array Slot), lv_has ls 7 [(0, .ref a0), (2, .int a2), (4, .int a4), (5, .int a5), (6, .int a6)] → PW g L μ A s H locs → f_X8_total_L129 g.2 k49 a0 a2 a4 a5 a6 t0 μ = some (r, μ') → W p l e rm_X8_total s m args below meth c H locs 0 0 (MQ below (QI g L A r μ') args s 0 0 A) (F0 m 129 ls [.int t0]) := by
  have hx := hC.1
  have hb := hC.2.1
  intro a0 a2 a4 a5 a6 t0 μ H locs ls hl hw hf
  unfold f_X8_total_L129 at hf
  refine lv_istore_n (lv' := [(3, .int t0), (0, .ref a0), (2, .int a2), (4, .int a4), (5, .int a5), (6, .int a6)]) hx hb dX8_total_129 rfl hl (by decide) rfl (fun ls hl => ?_)
  exact w_X8_total_L130 hC hr hlocks hk49 _ _ _ _ _ _ _ _ _ ls (lv_sub hl [1, 2, 0, 3, 4, 5] rfl) hw hf
def f_X8_total_L49 (cy : Nat → ClassId) : Nat → Nat → Int32 → Int32 → Int32 → Int32 → Int32 → Mem → Option (Int32 × Mem)
  | 0, _, _, _, _, _, _, _ => none
  | n + 1, a0, a2, a3, a4, a5, a6, μ => (rdR μ a0 7 21).bind fun q101 => (rdI μ q101 6 1).bind fun v103 => if v103 ≤ a6 then (if Int32.toInt a2 < 0 ∨ 5 < Int32.toInt a2 then (some ((-1), μ)) else if a2 = 0 then ((rdR μ a0 7 21).bind fun q108 => (rdI μ q108 6 1).bind fun v110 => some ((v110 - 1), μ)) else if a2 = 1 then (some (a3, μ)) else if a2 = 2 then (some (a4, μ)) else if a2 = 3 then ((rdI μ a0 7 24).bind fun v115 => some (v115, μ)) else if a2 = 4 then ((rdI μ a0 7 25).bind fun v118 => some (v118, μ)) else if a2 = 5 then (some (a5, μ)) else none) else if isO μ a0 7 = true then ((f_X8_ints cy a0 a6 μ).bind fun μ123 => (rdR μ123 a0 7 21).bind fun q124 => (rdR μ123 q124 6 7).bind fun q126 => (rdA cy μ123 1 q126 a6).bind fun v128 => (rdR μ123 a0 7 21).bind fun q130 => (rdR μ123 q130 6 10).bind fun q132 => (rdA cy μ123 1 q132 a6).bind fun v134 => if 0 ≤ v134 then ((rdR μ123 a0 7 21).bind fun q137 => (rdR μ123 q137 6 12).bind fun q139 => (rdA cy μ123 1 q139 a6).bind fun v141 => if v141 ≤ a3 then (f_X8_total_L129 cy (f_X8_total_L49 cy n) a0 a2 (a4 + 1) (a5 + v128) a6 a3 μ123) else (rdR μ123 a0 7 21).bind fun q144 => (rdR μ123 q144 6 12).bind fun q146 => (rdA cy μ123 1 q146 a6).bind fun v148 => f_X8_total_L129 cy (f_X8_total_L49 cy n) a0 a2 (a4 + 1) (a5 + v128) a6 v148 μ123) else f_X8_total_L130 cy (f_X8_total_L49 cy n) a0 a2 a3 a4 (a5 + v128) a6 μ123) else none
set_option maxRecDepth 100000 in
set_option maxHeartbeats 4000000 in
theorem w_X8_total_L49 {p : Program} {l : Launch} {e : Env} {s : State} {m : MethodId} {args : Array Value} {below : List Frame} {meth : Method} {c : Code} {A : Nat → Prop} {g : Wg} {L : List Nat} {r : Int32} {μ' : Mem} (hC : CX p m c cX8_total 7 s args RX8) (hr : meth.sig.returnType = (some .int)) (hlocks : meth.locks = false) : ∀ (n : Nat), ∀ (a0 : Nat) (a2 : Int32) (a3 : Int32) (a4 : Int32) (a5 : Int32) (a6 : Int32) (μ : Mem) (H : Heap) (locs : List Loc) (ls : Array Slot), lv_has ls 7 [(0, .ref a0), (2, .int a2), (3, .int a3), (4, .int a4), (5, .int a5), (6, .int a6)] → PW g L μ A s H locs → f_X8_total_L49 g.2 n a0 a2 a3 a4 a5 a6 μ = some (r, μ') → W p l e rm_X8_total s m args below meth c H locs 0 0 (MQ below (QI g L A r μ') args s 0 0 A) (F0 m 49 ls []) := by
  have hx := hC.1
  have hb := hC.2.1
  intro n
  induction n with
  | zero => intro a0 a2 a3 a4 a5 a6 μ H locs ls hl hw hf; cases hf
  | succ n ih =>
    intro a0 a2 a3 a4 a5 a6 μ H locs ls hl hw hf
    rw [f_X8_total_L49] at hf
    refine lv_iload hx hb dX8_total_49 (lv_at hl 5 rfl) ?_
    refine lv_aload_n hx hb dX8_total_51 rfl (lv_at hl 0 rfl) ?_
    obtain ⟨q101, h102, hf⟩ := o_bind hf
    refine pw_get hC fl_X8_67 hw (rdR_F h102) dX8_total_52 ?_
    obtain ⟨v103, h104, hf⟩ := o_bind hf
    refine pw_get hC fl_X8_250 hw (rdI_F h104) dX8_total_55 ?_
    refine lv_icmp_ge (tgt := 136) hx hb dX8_total_58 (by decide) (fun c105 => ?_) (fun c105 => ?_)
    · have hf := o_pos c105 hf
      refine lv_iload_n hx hb dX8_total_136 rfl (lv_at hl 1 rfl) ?_
      rcases o_if hf with ⟨c106, hf⟩ | ⟨c106, hf⟩
      · refine lv_tableOut (tgt := 204) hx hb dX8_total_137 c106 (by decide) ?_
        refine lv_iconst (v := (-1)) hx hb dX8_total_204 nc_iconst_m1 ?_
        obtain ⟨rfl, rfl⟩ := o_ret hf
        exact pw_iret hC hr hlocks hw dX8_total_205
      · rcases o_if hf with ⟨c107, hf⟩ | ⟨-, hf⟩
        · refine lv_tableIn (tgt := 176) hx hb dX8_total_137 (by rw [c107]; decide) (by rw [c107]; decide) (by rw [c107]; rfl) (by decide) ?_
          refine lv_aload_n hx hb dX8_total_176 rfl (lv_at hl 0 rfl) ?_
          obtain ⟨q108, h109, hf⟩ := o_bind hf
          refine pw_get hC fl_X8_67 hw (rdR_F h109) dX8_total_177 ?_
          obtain ⟨v110, h111, hf⟩ := o_bind hf
          refine pw_get hC fl_X8_250 hw (rdI_F h111) dX8_total_180 ?_
          refine lv_iconst (v := 1) hx hb dX8_total_183 nc_iconst_1 ?_
          refine lv_isub hx hb dX8_total_184 ?_
          obtain ⟨rfl, rfl⟩ := o_ret hf
          exact pw_iret hC hr hlocks hw dX8_total_185
        · rcases o_if hf with ⟨c112, hf⟩ | ⟨-, hf⟩
          · refine lv_tableIn (tgt := 186) hx hb dX8_total_137 (by rw [c112]; decide) (by rw [c112]; decide) (by rw [c112]; rfl) (by decide) ?_
            refine lv_iload_n hx hb dX8_total_186 rfl (lv_at hl 2 rfl) ?_
            obtain ⟨rfl, rfl⟩ := o_ret hf
            exact pw_iret hC hr hlocks hw dX8_total_187
          · rcases o_if hf with ⟨c113, hf⟩ | ⟨-, hf⟩
            · refine lv_tableIn (tgt := 188) hx hb dX8_total_137 (by rw [c113]; decide) (by rw [c113]; decide) (by rw [c113]; rfl) (by decide) ?_
              refine lv_iload hx hb dX8_total_188 (lv_at hl 3 rfl) ?_
              obtain ⟨rfl, rfl⟩ := o_ret hf
              exact pw_iret hC hr hlocks hw dX8_total_190
            · rcases o_if hf with ⟨c114, hf⟩ | ⟨-, hf⟩
              · refine lv_tableIn (tgt := 191) hx hb dX8_total_137 (by rw [c114]; decide) (by rw [c114]; decide) (by rw [c114]; rfl) (by decide) ?_
                refine lv_aload_n hx hb dX8_total_191 rfl (lv_at hl 0 rfl) ?_
                obtain ⟨v115, h116, hf⟩ := o_bind hf
                refine pw_get hC fl_X8_241 hw (rdI_F h116) dX8_total_192 ?_
                obtain ⟨rfl, rfl⟩ := o_ret hf
                exact pw_iret hC hr hlocks hw dX8_total_195
              · rcases o_if hf with ⟨c117, hf⟩ | ⟨-, hf⟩
                · refine lv_tableIn (tgt := 196) hx hb dX8_total_137 (by rw [c117]; decide) (by rw [c117]; decide) (by rw [c117]; rfl) (by decide) ?_
                  refine lv_aload_n hx hb dX8_total_196 rfl (lv_at hl 0 rfl) ?_
                  obtain ⟨v118, h119, hf⟩ := o_bind hf
                  refine pw_get hC fl_X8_244 hw (rdI_F h119) dX8_total_197 ?_
                  obtain ⟨rfl, rfl⟩ := o_ret hf
                  exact pw_iret hC hr hlocks hw dX8_total_200
                · rcases o_if hf with ⟨c120, hf⟩ | ⟨-, hf⟩
                  · refine lv_tableIn (tgt := 201) hx hb dX8_total_137 (by rw [c120]; decide) (by rw [c120]; decide) (by rw [c120]; rfl) (by decide) ?_
                    refine lv_iload hx hb dX8_total_201 (lv_at hl 4 rfl) ?_
                    obtain ⟨rfl, rfl⟩ := o_ret hf
                    exact pw_iret hC hr hlocks hw dX8_total_203
                  · cases hf
    · have hf := o_neg c105 hf
      refine lv_aload_n hx hb dX8_total_61 rfl (lv_at hl 0 rfl) ?_
      refine lv_iload hx hb dX8_total_62 (lv_at hl 5 rfl) ?_
      obtain ⟨h122, hf⟩ := o_ite hf
      obtain ⟨μ123, h121, hf⟩ := o_bind hf
      refine pw_goV hw (pw_runV (As := [.int a6]) (rest := []) hC mm_X8_ints tw_1398 (c_X8_ints h121 _) ⟨rfl, rfl, by decide, by decide⟩ hw h122 rfl hl.1 (Nat.le_of_ble_eq_true rfl) ⟨Nat.zero_le _, Nat.zero_le _⟩ rfl dX8_total_64) (fun H locs hw => ?_)
      refine lv_iload hx hb dX8_total_67 (lv_at hl 4 rfl) ?_
      refine lv_aload_n hx hb dX8_total_69 rfl (lv_at hl 0 rfl) ?_
      obtain ⟨q124, h125, hf⟩ := o_bind hf
      refine pw_get hC fl_X8_67 hw (rdR_F h125) dX8_total_70 ?_
      obtain ⟨q126, h127, hf⟩ := o_bind hf
      refine pw_get hC fl_X8_210 hw (rdR_F h127) dX8_total_73 ?_
      refine lv_iload hx hb dX8_total_76 (lv_at hl 5 rfl) ?_
      obtain ⟨v128, h129, hf⟩ := o_bind hf
      refine pw_iald hC hw h129 dX8_total_78 ?_
      refine lv_iadd hx hb dX8_total_79 ?_
      refine lv_istore (lv' := [(5, .int (a5 + v128)), (0, .ref a0), (2, .int a2), (3, .int a3), (4, .int a4), (6, .int a6)]) hx hb dX8_total_80 hl (by decide) rfl (fun ls hl => ?_)
      refine lv_aload_n hx hb dX8_total_82 rfl (lv_at hl 1 rfl) ?_
      obtain ⟨q130, h131, hf⟩ := o_bind hf
      refine pw_get hC fl_X8_67 hw (rdR_F h131) dX8_total_83 ?_
      obtain ⟨q132, h133, hf⟩ := o_bind hf
      refine pw_get hC fl_X8_222 hw (rdR_F h133) dX8_total_86 ?_
      refine lv_iload hx hb dX8_total_89 (lv_at hl 5 rfl) ?_
      obtain ⟨v134, h135, hf⟩ := o_bind hf
      refine pw_iald hC hw h135 dX8_total_91 ?_
      refine lv_if_ge (tgt := 98) hx hb dX8_total_92 (by decide) (fun c136 => ?_) (fun c136 => ?_)
      · have hf := o_pos c136 hf
        refine lv_iinc (v := (a4 + 1)) (lv' := [(4, .int (a4 + 1)), (5, .int (a5 + v128)), (0, .ref a0), (2, .int a2), (3, .int a3), (6, .int a6)]) hx hb dX8_total_98 hl (k := 4) rfl (by first | rfl | decide +kernel) (by decide) rfl (fun ls hl => ?_)
        refine lv_aload_n hx hb dX8_total_101 rfl (lv_at hl 2 rfl) ?_
        obtain ⟨q137, h138, hf⟩ := o_bind hf
        refine pw_get hC fl_X8_67 hw (rdR_F h138) dX8_total_102 ?_
        obtain ⟨q139, h140, hf⟩ := o_bind hf
        refine pw_get hC fl_X8_225 hw (rdR_F h140) dX8_total_105 ?_
        refine lv_iload hx hb dX8_total_108 (lv_at hl 5 rfl) ?_
        obtain ⟨v141, h142, hf⟩ := o_bind hf
        refine pw_iald hC hw h142 dX8_total_110 ?_
        refine lv_iload_n hx hb dX8_total_111 rfl (lv_at hl 4 rfl) ?_
        refine lv_icmp_le (tgt := 128) hx hb dX8_total_112 (by decide) (fun c143 => ?_) (fun c143 => ?_)
        · have hf := o_pos c143 hf
          refine lv_iload_n hx hb dX8_total_128 rfl (lv_at hl 4 rfl) ?_
          exact w_X8_total_L129 hC hr hlocks ih _ _ _ _ _ _ _ _ _ ls (lv_sub hl [2, 3, 0, 1, 5] rfl) hw hf
        · have hf := o_neg c143 hf
          refine lv_aload_n hx hb dX8_total_115 rfl (lv_at hl 2 rfl) ?_
          obtain ⟨q144, h145, hf⟩ := o_bind hf
          refine pw_get hC fl_X8_67 hw (rdR_F h145) dX8_total_116 ?_
          obtain ⟨q146, h147, hf⟩ := o_bind hf
          refine pw_get hC fl_X8_225 hw (rdR_F h147) dX8_total_119 ?_
          refine lv_iload hx hb dX8_total_122 (lv_at hl 5 rfl) ?_
          obtain ⟨v148, h149, hf⟩ := o_bind hf
          refine pw_iald hC hw h149 dX8_total_124 ?_
          refine lv_goto (tgt := 129) hx hb dX8_total_125 (by decide) ?_
          exact w_X8_total_L129 hC hr hlocks ih _ _ _ _ _ _ _ _ _ ls (lv_sub hl [2, 3, 0, 1, 5] rfl) hw hf
      · have hf := o_neg c136 hf
        refine lv_goto (tgt := 130) hx hb dX8_total_95 (by decide) ?_
        exact w_X8_total_L130 hC hr hlocks ih _ _ _ _ _ _ _ _ _ ls (lv_sub hl [1, 2, 3, 4, 0, 5] rfl) hw hf
def f_X8_total (cy : Nat → ClassId) (a0 : Nat) (a1 : Int32) (a2 : Int32) (μ : Mem) : Option (Int32 × Mem) :=
  if isO μ a0 7 = true then (ob2 (f_X8_noShelf cy a0 a1 μ) fun r4 μ3 => if r4 = 0 then ((rdR μ3 a0 7 21).bind fun q6 => (rdR μ3 a0 7 5).bind fun q8 => (rdQ cy μ3 5 q8 a1).bind fun q10 => if isO μ3 q6 6 = true then ((f_X7_read cy q6 q10 μ3).bind fun μ14 => (wrF μ14 a0 7 24 (.int 0)).bind fun μ15 => (wrF μ15 a0 7 25 (.int 0)).bind fun μ17 => if isO μ17 a0 7 = true then ((f_X8_tells cy a0 0 μ17).bind fun μ21 => f_X8_total_L49 cy FU a0 a2 1 1 0 1 μ21) else none) else none) else some (0, μ3)) else none
set_option maxRecDepth 100000 in
set_option maxHeartbeats 4000000 in
theorem c_X8_total {l : Launch} {g : Wg} {L : List Nat} {μ : Mem} {a0 : Nat} {a1 : Int32} {a2 : Int32} {r : Int32} {μ' : Mem} (hf : f_X8_total g.2 a0 a1 a2 μ = some (r, μ')) : MetI l yX8_total cX8_total 7 (some .int) rm_X8_total g L μ [.ref a0, .int a1, .int a2] r μ' := by
  refine pw_met (Qc := fun A => QI g L A r μ') (by decide) (Nat.le_of_ble_eq_true rfl) ?_
  intro p e s m args below meth c A ls H locs hC hr hlocks hl hw
  have hx := hC.1
  have hb := hC.2.1
  have hl : lv_has ls 7 [(0, .ref a0), (1, .int a1), (2, .int a2)] := hl
  unfold f_X8_total at hf
  refine lv_aload_n hx hb dX8_total_0 rfl (lv_at hl 0 rfl) ?_
  refine lv_iload_n hx hb dX8_total_1 rfl (lv_at hl 1 rfl) ?_
  obtain ⟨h2, hf⟩ := o_ite hf
  obtain ⟨r4, μ3, h1, hf⟩ := o_bind2 hf
  refine pw_goI hw (pw_runV (As := [.int a1]) (rest := []) hC mm_X8_noShelf tw_1313 (c_X8_noShelf h1 _) ⟨rfl, rfl, by decide, by decide⟩ hw h2 rfl hl.1 (Nat.le_of_ble_eq_true rfl) ⟨Nat.zero_le _, Nat.zero_le _⟩ rfl dX8_total_2) (fun H locs hw => ?_)
  refine lv_if_eq (tgt := 10) hx hb dX8_total_5 (by decide) (fun c5 => ?_) (fun c5 => ?_)
  · have hf := o_pos c5 hf
    refine lv_aload_n hx hb dX8_total_10 rfl (lv_at hl 0 rfl) ?_
    obtain ⟨q6, h7, hf⟩ := o_bind hf
    refine pw_get hC fl_X8_67 hw (rdR_F h7) dX8_total_11 ?_
    refine lv_aload_n hx hb dX8_total_14 rfl (lv_at hl 0 rfl) ?_
    obtain ⟨q8, h9, hf⟩ := o_bind hf
    refine pw_get hC fl_X8_22 hw (rdR_F h9) dX8_total_15 ?_
    refine lv_iload_n hx hb dX8_total_18 rfl (lv_at hl 1 rfl) ?_
    obtain ⟨q10, h11, hf⟩ := o_bind hf
    refine pw_aald hC hw 5 rfl rfl h11 dX8_total_19 ?_
    obtain ⟨h13, hf⟩ := o_ite hf
    obtain ⟨μ14, h12, hf⟩ := o_bind hf
    refine pw_goV hw (pw_runV (As := [.ref q10]) (rest := []) hC mm_X7_read tw_1325 (c_X7_read h12 _) ⟨rfl, rfl, by decide, by decide⟩ hw h13 rfl hl.1 (Nat.le_of_ble_eq_true rfl) ⟨Nat.zero_le _, Nat.zero_le _⟩ rfl dX8_total_20) (fun H locs hw => ?_)
    refine lv_aload_n hx hb dX8_total_23 rfl (lv_at hl 0 rfl) ?_
    refine lv_iconst (v := 0) hx hb dX8_total_24 nc_iconst_0 ?_
    obtain ⟨μ15, h16, hf⟩ := o_bind hf
    refine pw_put hC fl_X8_241 hw h16 .int fd_X8_24 rfl rfl dX8_total_25 (fun H locs hw => ?_)
    refine lv_aload_n hx hb dX8_total_28 rfl (lv_at hl 0 rfl) ?_
    refine lv_iconst (v := 0) hx hb dX8_total_29 nc_iconst_0 ?_
    obtain ⟨μ17, h18, hf⟩ := o_bind hf
    refine pw_put hC fl_X8_244 hw h18 .int fd_X8_25 rfl rfl dX8_total_30 (fun H locs hw => ?_)
    refine lv_aload_n hx hb dX8_total_33 rfl (lv_at hl 0 rfl) ?_
    refine lv_iconst (v := 0) hx hb dX8_total_34 nc_iconst_0 ?_
    obtain ⟨h20, hf⟩ := o_ite hf
    obtain ⟨μ21, h19, hf⟩ := o_bind hf
    refine pw_goV hw (pw_runV (As := [.int 0]) (rest := []) hC mm_X8_tells tw_1394 (c_X8_tells h19 _) ⟨rfl, rfl, by decide, by decide⟩ hw h20 rfl hl.1 (Nat.le_of_ble_eq_true rfl) ⟨Nat.zero_le _, Nat.zero_le _⟩ rfl dX8_total_35) (fun H locs hw => ?_)
    refine lv_iconst (v := 1) hx hb dX8_total_38 nc_iconst_1 ?_
    refine lv_istore_n (lv' := [(3, .int 1), (0, .ref a0), (1, .int a1), (2, .int a2)]) hx hb dX8_total_39 rfl hl (by decide) rfl (fun ls hl => ?_)
    refine lv_iconst (v := 1) hx hb dX8_total_40 nc_iconst_1 ?_
    refine lv_istore (lv' := [(4, .int 1), (3, .int 1), (0, .ref a0), (1, .int a1), (2, .int a2)]) hx hb dX8_total_41 hl (by decide) rfl (fun ls hl => ?_)
    refine lv_iconst (v := 0) hx hb dX8_total_43 nc_iconst_0 ?_
    refine lv_istore (lv' := [(5, .int 0), (4, .int 1), (3, .int 1), (0, .ref a0), (1, .int a1), (2, .int a2)]) hx hb dX8_total_44 hl (by decide) rfl (fun ls hl => ?_)
    refine lv_iconst (v := 1) hx hb dX8_total_46 nc_iconst_1 ?_
    refine lv_istore (lv' := [(6, .int 1), (5, .int 0), (4, .int 1), (3, .int 1), (0, .ref a0), (1, .int a1), (2, .int a2)]) hx hb dX8_total_47 hl (by decide) rfl (fun ls hl => ?_)
    exact w_X8_total_L49 hC hr hlocks FU _ _ _ _ _ _ _ _ _ ls (lv_sub hl [4, 6, 3, 2, 1, 0] rfl) hw hf
  · have hf := o_neg c5 hf
    refine lv_iconst (v := 0) hx hb dX8_total_8 nc_iconst_0 ?_
    obtain ⟨rfl, rfl⟩ := o_ret hf
    exact pw_iret hC hr hlocks hw dX8_total_9
theorem dX8_begin_0 : decode cX8_begin 0 = .ok (.aload_n 0, 1) := by decide +kernel
theorem dX8_begin_1 : decode cX8_begin 1 = .ok (.iconst 0, 1) := by decide +kernel
theorem dX8_begin_2 : decode cX8_begin 2 = .ok (.putfield 1, 3) := by decide +kernel
theorem dX8_begin_5 : decode cX8_begin 5 = .ok (.aload_n 0, 1) := by decide +kernel
theorem dX8_begin_6 : decode cX8_begin 6 = .ok (.iconst 1, 1) := by decide +kernel
theorem dX8_begin_7 : decode cX8_begin 7 = .ok (.putfield 348, 3) := by decide +kernel
theorem dX8_begin_10 : decode cX8_begin 10 = .ok (.aload_n 0, 1) := by decide +kernel
theorem dX8_begin_11 : decode cX8_begin 11 = .ok (.iconst 0, 1) := by decide +kernel
theorem dX8_begin_12 : decode cX8_begin 12 = .ok (.putfield 351, 3) := by decide +kernel
theorem dX8_begin_15 : decode cX8_begin 15 = .ok (.aload_n 0, 1) := by decide +kernel
theorem dX8_begin_16 : decode cX8_begin 16 = .ok (.iconst 0, 1) := by decide +kernel
theorem dX8_begin_17 : decode cX8_begin 17 = .ok (.putfield 354, 3) := by decide +kernel
theorem dX8_begin_20 : decode cX8_begin 20 = .ok (.aload_n 0, 1) := by decide +kernel
theorem dX8_begin_21 : decode cX8_begin 21 = .ok (.iconst 0, 1) := by decide +kernel
theorem dX8_begin_22 : decode cX8_begin 22 = .ok (.iconst (-1), 1) := by decide +kernel
theorem dX8_begin_23 : decode cX8_begin 23 = .ok (.invokevirtual 357, 3) := by decide +kernel
theorem dX8_begin_26 : decode cX8_begin 26 = .ok (.return_, 1) := by decide +kernel
abbrev rm_X8_begin : Room := { frames := 2, cells := 0, slots := 0, locals := 44 }
def f_X8_begin (cy : Nat → ClassId) (a0 : Nat) (μ : Mem) : Option Mem :=
  (wrF μ a0 7 0 (.int 0)).bind fun μ1 => (wrF μ1 a0 7 12 (.int 1)).bind fun μ3 => (wrF μ3 a0 7 11 (.int 0)).bind fun μ5 => (wrF μ5 a0 7 13 (.int 0)).bind fun μ7 => if isO μ7 a0 7 = true then ((f_X8_opens cy a0 0 (-1) μ7).bind fun μ11 => some μ11) else none
set_option maxRecDepth 100000 in
set_option maxHeartbeats 4000000 in
theorem c_X8_begin {l : Launch} {g : Wg} {L : List Nat} {μ : Mem} {a0 : Nat} {μ' : Mem} (hf : f_X8_begin g.2 a0 μ = some μ') : MetV l yX8_begin cX8_begin 1 none rm_X8_begin g L μ [.ref a0] μ' := by
  refine pw_met (Qc := fun A => QV g L A μ') (by decide) (Nat.le_of_ble_eq_true rfl) ?_
  intro p e s m args below meth c A ls H locs hC hr hlocks hl hw
  have hx := hC.1
  have hb := hC.2.1
  have hl : lv_has ls 1 [(0, .ref a0)] := hl
  unfold f_X8_begin at hf
  refine lv_aload_n hx hb dX8_begin_0 rfl (lv_at hl 0 rfl) ?_
  refine lv_iconst (v := 0) hx hb dX8_begin_1 nc_iconst_0 ?_
  obtain ⟨μ1, h2, hf⟩ := o_bind hf
  refine pw_put hC fl_X8_1 hw h2 .int fd_X8_0 rfl rfl dX8_begin_2 (fun H locs hw => ?_)
  refine lv_aload_n hx hb dX8_begin_5 rfl (lv_at hl 0 rfl) ?_
  refine lv_iconst (v := 1) hx hb dX8_begin_6 nc_iconst_1 ?_
  obtain ⟨μ3, h4, hf⟩ := o_bind hf
  refine pw_put hC fl_X8_348 hw h4 .boolean fd_X8_12 (by decide +kernel) rfl dX8_begin_7 (fun H locs hw => ?_)
  refine lv_aload_n hx hb dX8_begin_10 rfl (lv_at hl 0 rfl) ?_
  refine lv_iconst (v := 0) hx hb dX8_begin_11 nc_iconst_0 ?_
  obtain ⟨μ5, h6, hf⟩ := o_bind hf
  refine pw_put hC fl_X8_351 hw h6 .int fd_X8_11 rfl rfl dX8_begin_12 (fun H locs hw => ?_)
  refine lv_aload_n hx hb dX8_begin_15 rfl (lv_at hl 0 rfl) ?_
  refine lv_iconst (v := 0) hx hb dX8_begin_16 nc_iconst_0 ?_
  obtain ⟨μ7, h8, hf⟩ := o_bind hf
  refine pw_put hC fl_X8_354 hw h8 .int fd_X8_13 rfl rfl dX8_begin_17 (fun H locs hw => ?_)
  refine lv_aload_n hx hb dX8_begin_20 rfl (lv_at hl 0 rfl) ?_
  refine lv_iconst (v := 0) hx hb dX8_begin_21 nc_iconst_0 ?_
  refine lv_iconst (v := (-1)) hx hb dX8_begin_22 nc_iconst_m1 ?_
  obtain ⟨h10, hf⟩ := o_ite hf
  obtain ⟨μ11, h9, hf⟩ := o_bind hf
  refine pw_goV hw (pw_runV (As := [.int 0, .int (-1)]) (rest := []) hC mm_X8_opens tw_1499 (c_X8_opens h9 _) ⟨rfl, rfl, by decide, by decide⟩ hw h10 rfl hl.1 (Nat.le_of_ble_eq_true rfl) ⟨Nat.zero_le _, Nat.zero_le _⟩ rfl dX8_begin_23) (fun H locs hw => ?_)
  obtain rfl := o_retv hf
  exact pw_vret hC hr hlocks hw dX8_begin_26
theorem dX8_write_0 : decode cX8_write 0 = .ok (.aload_n 0, 1) := by decide +kernel
theorem dX8_write_1 : decode cX8_write 1 = .ok (.iconst 0, 1) := by decide +kernel
theorem dX8_write_2 : decode cX8_write 2 = .ok (.putfield 1, 3) := by decide +kernel
theorem dX8_write_5 : decode cX8_write 5 = .ok (.aload_n 0, 1) := by decide +kernel
theorem dX8_write_6 : decode cX8_write 6 = .ok (.getfield 103, 3) := by decide +kernel
theorem dX8_write_9 : decode cX8_write 9 = .ok (.istore_n 2, 1) := by decide +kernel
theorem dX8_write_10 : decode cX8_write 10 = .ok (.aload_n 0, 1) := by decide +kernel
theorem dX8_write_11 : decode cX8_write 11 = .ok (.iconst 0, 1) := by decide +kernel
theorem dX8_write_12 : decode cX8_write 12 = .ok (.putfield 103, 3) := by decide +kernel
theorem dX8_write_15 : decode cX8_write 15 = .ok (.aload_n 0, 1) := by decide +kernel
theorem dX8_write_16 : decode cX8_write 16 = .ok (.aload_n 0, 1) := by decide +kernel
theorem dX8_write_17 : decode cX8_write 17 = .ok (.getfield 348, 3) := by decide +kernel
theorem dX8_write_20 : decode cX8_write 20 = .ok (.ifCond .eq 10, 3) := by decide +kernel
theorem dX8_write_23 : decode cX8_write 23 = .ok (.aload_n 0, 1) := by decide +kernel
theorem dX8_write_24 : decode cX8_write 24 = .ok (.getfield 354, 3) := by decide +kernel
theorem dX8_write_27 : decode cX8_write 27 = .ok (.ifCond .ne 7, 3) := by decide +kernel
theorem dX8_write_30 : decode cX8_write 30 = .ok (.iconst 1, 1) := by decide +kernel
theorem dX8_write_31 : decode cX8_write 31 = .ok (.goto 4, 3) := by decide +kernel
theorem dX8_write_34 : decode cX8_write 34 = .ok (.iconst 0, 1) := by decide +kernel
theorem dX8_write_35 : decode cX8_write 35 = .ok (.iconst 1, 1) := by decide +kernel
theorem dX8_write_36 : decode cX8_write 36 = .ok (.invokevirtual 186, 3) := by decide +kernel
theorem dX8_write_39 : decode cX8_write 39 = .ok (.ifCond .eq 5, 3) := by decide +kernel
theorem dX8_write_42 : decode cX8_write 42 = .ok (.iconst 0, 1) := by decide +kernel
theorem dX8_write_43 : decode cX8_write 43 = .ok (.ireturn, 1) := by decide +kernel
theorem dX8_write_44 : decode cX8_write 44 = .ok (.aload_n 0, 1) := by decide +kernel
theorem dX8_write_45 : decode cX8_write 45 = .ok (.invokevirtual 170, 3) := by decide +kernel
theorem dX8_write_48 : decode cX8_write 48 = .ok (.aload_n 0, 1) := by decide +kernel
theorem dX8_write_49 : decode cX8_write 49 = .ok (.iload_n 2, 1) := by decide +kernel
theorem dX8_write_50 : decode cX8_write 50 = .ok (.putfield 103, 3) := by decide +kernel
theorem dX8_write_53 : decode cX8_write 53 = .ok (.aload_n 0, 1) := by decide +kernel
theorem dX8_write_54 : decode cX8_write 54 = .ok (.iload_n 1, 1) := by decide +kernel
theorem dX8_write_55 : decode cX8_write 55 = .ok (.aload_n 0, 1) := by decide +kernel
theorem dX8_write_56 : decode cX8_write 56 = .ok (.getfield 46, 3) := by decide +kernel
theorem dX8_write_59 : decode cX8_write 59 = .ok (.aload_n 0, 1) := by decide +kernel
theorem dX8_write_60 : decode cX8_write 60 = .ok (.getfield 354, 3) := by decide +kernel
theorem dX8_write_63 : decode cX8_write 63 = .ok (.iconst 1, 1) := by decide +kernel
theorem dX8_write_64 : decode cX8_write 64 = .ok (.isub, 1) := by decide +kernel
theorem dX8_write_65 : decode cX8_write 65 = .ok (.iaload, 1) := by decide +kernel
theorem dX8_write_66 : decode cX8_write 66 = .ok (.iconst 4, 1) := by decide +kernel
theorem dX8_write_67 : decode cX8_write 67 = .ok (.if_icmp .ne 7, 3) := by decide +kernel
theorem dX8_write_70 : decode cX8_write 70 = .ok (.iconst 1, 1) := by decide +kernel
theorem dX8_write_71 : decode cX8_write 71 = .ok (.goto 4, 3) := by decide +kernel
theorem dX8_write_74 : decode cX8_write 74 = .ok (.iconst 0, 1) := by decide +kernel
theorem dX8_write_75 : decode cX8_write 75 = .ok (.aload_n 0, 1) := by decide +kernel
theorem dX8_write_76 : decode cX8_write 76 = .ok (.getfield 354, 3) := by decide +kernel
theorem dX8_write_79 : decode cX8_write 79 = .ok (.invokevirtual 335, 3) := by decide +kernel
theorem dX8_write_82 : decode cX8_write 82 = .ok (.istore_n 3, 1) := by decide +kernel
theorem dX8_write_83 : decode cX8_write 83 = .ok (.aload_n 0, 1) := by decide +kernel
theorem dX8_write_84 : decode cX8_write 84 = .ok (.iconst 0, 1) := by decide +kernel
theorem dX8_write_85 : decode cX8_write 85 = .ok (.putfield 103, 3) := by decide +kernel
theorem dX8_write_88 : decode cX8_write 88 = .ok (.aload_n 0, 1) := by decide +kernel
theorem dX8_write_89 : decode cX8_write 89 = .ok (.iload_n 3, 1) := by decide +kernel
theorem dX8_write_90 : decode cX8_write 90 = .ok (.ifCond .ne 7, 3) := by decide +kernel
theorem dX8_write_93 : decode cX8_write 93 = .ok (.iconst 1, 1) := by decide +kernel
theorem dX8_write_94 : decode cX8_write 94 = .ok (.goto 4, 3) := by decide +kernel
theorem dX8_write_97 : decode cX8_write 97 = .ok (.iconst 0, 1) := by decide +kernel
theorem dX8_write_98 : decode cX8_write 98 = .ok (.iconst 2, 1) := by decide +kernel
theorem dX8_write_99 : decode cX8_write 99 = .ok (.invokevirtual 186, 3) := by decide +kernel
theorem dX8_write_102 : decode cX8_write 102 = .ok (.ifCond .eq 5, 3) := by decide +kernel
theorem dX8_write_105 : decode cX8_write 105 = .ok (.iconst 0, 1) := by decide +kernel
theorem dX8_write_106 : decode cX8_write 106 = .ok (.ireturn, 1) := by decide +kernel
theorem dX8_write_107 : decode cX8_write 107 = .ok (.aload_n 0, 1) := by decide +kernel
theorem dX8_write_108 : decode cX8_write 108 = .ok (.aload_n 0, 1) := by decide +kernel
theorem dX8_write_109 : decode cX8_write 109 = .ok (.getfield 351, 3) := by decide +kernel
theorem dX8_write_112 : decode cX8_write 112 = .ok (.aload_n 0, 1) := by decide +kernel
theorem dX8_write_113 : decode cX8_write 113 = .ok (.invokevirtual 364, 3) := by decide +kernel
theorem dX8_write_116 : decode cX8_write 116 = .ok (.iadd, 1) := by decide +kernel
theorem dX8_write_117 : decode cX8_write 117 = .ok (.iload_n 2, 1) := by decide +kernel
theorem dX8_write_118 : decode cX8_write 118 = .ok (.iadd, 1) := by decide +kernel
theorem dX8_write_119 : decode cX8_write 119 = .ok (.aload_n 0, 1) := by decide +kernel
theorem dX8_write_120 : decode cX8_write 120 = .ok (.getfield 339, 3) := by decide +kernel
theorem dX8_write_123 : decode cX8_write 123 = .ok (.isub, 1) := by decide +kernel
theorem dX8_write_124 : decode cX8_write 124 = .ok (.aload_n 0, 1) := by decide +kernel
theorem dX8_write_125 : decode cX8_write 125 = .ok (.getfield 354, 3) := by decide +kernel
theorem dX8_write_128 : decode cX8_write 128 = .ok (.iadd, 1) := by decide +kernel
theorem dX8_write_129 : decode cX8_write 129 = .ok (.sipush 2400, 3) := by decide +kernel
theorem dX8_write_132 : decode cX8_write 132 = .ok (.if_icmp .le 7, 3) := by decide +kernel
theorem dX8_write_135 : decode cX8_write 135 = .ok (.iconst 1, 1) := by decide +kernel
theorem dX8_write_136 : decode cX8_write 136 = .ok (.goto 4, 3) := by decide +kernel
theorem dX8_write_139 : decode cX8_write 139 = .ok (.iconst 0, 1) := by decide +kernel
theorem dX8_write_140 : decode cX8_write 140 = .ok (.iconst 3, 1) := by decide +kernel
theorem dX8_write_141 : decode cX8_write 141 = .ok (.invokevirtual 186, 3) := by decide +kernel
theorem dX8_write_144 : decode cX8_write 144 = .ok (.ifCond .eq 5, 3) := by decide +kernel
theorem dX8_write_147 : decode cX8_write 147 = .ok (.iconst 0, 1) := by decide +kernel
theorem dX8_write_148 : decode cX8_write 148 = .ok (.ireturn, 1) := by decide +kernel
theorem dX8_write_149 : decode cX8_write 149 = .ok (.aload_n 0, 1) := by decide +kernel
theorem dX8_write_150 : decode cX8_write 150 = .ok (.iload_n 1, 1) := by decide +kernel
theorem dX8_write_151 : decode cX8_write 151 = .ok (.invokevirtual 368, 3) := by decide +kernel
theorem dX8_write_154 : decode cX8_write 154 = .ok (.aload_n 0, 1) := by decide +kernel
theorem dX8_write_155 : decode cX8_write 155 = .ok (.getfield 339, 3) := by decide +kernel
theorem dX8_write_158 : decode cX8_write 158 = .ok (.istore 4, 2) := by decide +kernel
theorem dX8_write_160 : decode cX8_write 160 = .ok (.iload 4, 2) := by decide +kernel
theorem dX8_write_162 : decode cX8_write 162 = .ok (.iload_n 2, 1) := by decide +kernel
theorem dX8_write_163 : decode cX8_write 163 = .ok (.if_icmp .ge 20, 3) := by decide +kernel
theorem dX8_write_166 : decode cX8_write 166 = .ok (.aload_n 0, 1) := by decide +kernel
theorem dX8_write_167 : decode cX8_write 167 = .ok (.aload_n 0, 1) := by decide +kernel
theorem dX8_write_168 : decode cX8_write 168 = .ok (.getfield 13, 3) := by decide +kernel
theorem dX8_write_171 : decode cX8_write 171 = .ok (.iload 4, 2) := by decide +kernel
theorem dX8_write_173 : decode cX8_write 173 = .ok (.baload, 1) := by decide +kernel
theorem dX8_write_174 : decode cX8_write 174 = .ok (.invokevirtual 361, 3) := by decide +kernel
theorem dX8_write_177 : decode cX8_write 177 = .ok (.iinc 4 1, 3) := by decide +kernel
theorem dX8_write_180 : decode cX8_write 180 = .ok (.goto (-20), 3) := by decide +kernel
theorem dX8_write_183 : decode cX8_write 183 = .ok (.aload_n 0, 1) := by decide +kernel
theorem dX8_write_184 : decode cX8_write 184 = .ok (.getfield 351, 3) := by decide +kernel
theorem dX8_write_187 : decode cX8_write 187 = .ok (.ireturn, 1) := by decide +kernel
abbrev rm_X8_write : Room := { frames := 126, cells := 0, slots := 0, locals := 3506 }
def f_X8_write_L160 (cy : Nat → ClassId) : Nat → Nat → Int32 → Int32 → Mem → Option (Int32 × Mem)
  | 0, _, _, _, _ => none
  | n + 1, a0, a2, a4, μ => if a2 ≤ a4 then ((rdI μ a0 7 11).bind fun v102 => some (v102, μ)) else (rdR μ a0 7 1).bind fun q104 => (rdA cy μ 0 q104 a4).bind fun v106 => if isO μ a0 7 = true then ((f_X8_adds cy a0 v106 μ).bind fun μ110 => f_X8_write_L160 cy n a0 a2 (a4 + 1) μ110) else none
set_option maxRecDepth 100000 in
set_option maxHeartbeats 4000000 in
theorem w_X8_write_L160 {p : Program} {l : Launch} {e : Env} {s : State} {m : MethodId} {args : Array Value} {below : List Frame} {meth : Method} {c : Code} {A : Nat → Prop} {g : Wg} {L : List Nat} {r : Int32} {μ' : Mem} (hC : CX p m c cX8_write 5 s args RX8) (hr : meth.sig.returnType = (some .int)) (hlocks : meth.locks = false) : ∀ (n : Nat), ∀ (a0 : Nat) (a2 : Int32) (a4 : Int32) (μ : Mem) (H : Heap) (locs : List Loc) (ls : Array Slot), lv_has ls 5 [(0, .ref a0), (2, .int a2), (4, .int a4)] → PW g L μ A s H locs → f_X8_write_L160 g.2 n a0 a2 a4 μ = some (r, μ') → W p l e rm_X8_write s m args below meth c H locs 0 0 (MQ below (QI g L A r μ') args s 0 0 A) (F0 m 160 ls []) := by
  have hx := hC.1
  have hb := hC.2.1
  intro n
  induction n with
  | zero => intro a0 a2 a4 μ H locs ls hl hw hf; cases hf
  | succ n ih =>
    intro a0 a2 a4 μ H locs ls hl hw hf
    rw [f_X8_write_L160] at hf
    refine lv_iload hx hb dX8_write_160 (lv_at hl 2 rfl) ?_
    refine lv_iload_n hx hb dX8_write_162 rfl (lv_at hl 1 rfl) ?_
    refine lv_icmp_ge (tgt := 183) hx hb dX8_write_163 (by decide) (fun c101 => ?_) (fun c101 => ?_)
    · have hf := o_pos c101 hf
      refine lv_aload_n hx hb dX8_write_183 rfl (lv_at hl 0 rfl) ?_
      obtain ⟨v102, h103, hf⟩ := o_bind hf
      refine pw_get hC fl_X8_351 hw (rdI_F h103) dX8_write_184 ?_
      obtain ⟨rfl, rfl⟩ := o_ret hf
      exact pw_iret hC hr hlocks hw dX8_write_187
    · have hf := o_neg c101 hf
      refine lv_aload_n hx hb dX8_write_166 rfl (lv_at hl 0 rfl) ?_
      refine lv_aload_n hx hb dX8_write_167 rfl (lv_at hl 0 rfl) ?_
      obtain ⟨q104, h105, hf⟩ := o_bind hf
      refine pw_get hC fl_X8_13 hw (rdR_F h105) dX8_write_168 ?_
      refine lv_iload hx hb dX8_write_171 (lv_at hl 2 rfl) ?_
      obtain ⟨v106, h107, hf⟩ := o_bind hf
      refine pw_bald hC hw h107 dX8_write_173 ?_
      obtain ⟨h109, hf⟩ := o_ite hf
      obtain ⟨μ110, h108, hf⟩ := o_bind hf
      refine pw_goV hw (pw_runV (As := [.int v106]) (rest := []) hC mm_X8_adds tw_1503 (c_X8_adds h108 _) ⟨rfl, rfl, by decide, by decide⟩ hw h109 rfl hl.1 (Nat.le_of_ble_eq_true rfl) ⟨Nat.zero_le _, Nat.zero_le _⟩ rfl dX8_write_174) (fun H locs hw => ?_)
      refine lv_iinc (v := (a4 + 1)) (lv' := [(4, .int (a4 + 1)), (0, .ref a0), (2, .int a2)]) hx hb dX8_write_177 hl (k := 2) rfl (by first | rfl | decide +kernel) (by decide) rfl (fun ls hl => ?_)
      refine lv_goto (tgt := 160) hx hb dX8_write_180 (by decide) ?_
      exact ih _ _ _ _ _ _ ls (lv_sub hl [1, 2, 0] rfl) hw hf
def f_X8_write_L140 (cy : Nat → ClassId) (a0 : Nat) (a1 : Int32) (a2 : Int32) (t0 : Nat) (t1 : Int32) (μ : Mem) : Option (Int32 × Mem) :=
  if isO μ t0 7 = true then (ob2 (f_X8_throwsIf cy t0 t1 3 μ) fun r104 μ103 => if r104 = 0 then (if isO μ103 a0 7 = true then ((f_X8_heads cy a0 a1 μ103).bind fun μ108 => (rdI μ108 a0 7 42).bind fun v109 => f_X8_write_L160 cy FU a0 a2 v109 μ108) else none) else some (0, μ103)) else none
set_option maxRecDepth 100000 in
set_option maxHeartbeats 4000000 in
theorem w_X8_write_L140 {p : Program} {l : Launch} {e : Env} {s : State} {m : MethodId} {args : Array Value} {below : List Frame} {meth : Method} {c : Code} {A : Nat → Prop} {g : Wg} {L : List Nat} {r : Int32} {μ' : Mem} (hC : CX p m c cX8_write 5 s args RX8) (hr : meth.sig.returnType = (some .int)) (hlocks : meth.locks = false) : ∀ (a0 : Nat) (a1 : Int32) (a2 : Int32) (t0 : Nat) (t1 : Int32) (μ : Mem) (H : Heap) (locs : List Loc) (ls : Array Slot), lv_has ls 5 [(0, .ref a0), (1, .int a1), (2, .int a2)] → PW g L μ A s H locs → f_X8_write_L140 g.2 a0 a1 a2 t0 t1 μ = some (r, μ') → W p l e rm_X8_write s m args below meth c H locs 0 0 (MQ below (QI g L A r μ') args s 0 0 A) (F0 m 140 ls [.int t1, .ref t0]) := by
  have hx := hC.1
  have hb := hC.2.1
  intro a0 a1 a2 t0 t1 μ H locs ls hl hw hf
  unfold f_X8_write_L140 at hf
  refine lv_iconst (v := 3) hx hb dX8_write_140 nc_iconst_3 ?_
  obtain ⟨h102, hf⟩ := o_ite hf
  obtain ⟨r104, μ103, h101, hf⟩ := o_bind2 hf
  refine pw_goI hw (pw_runV (As := [.int t1, .int 3]) (rest := []) hC mm_X8_throwsIf tw_1317 (c_X8_throwsIf h101 _) ⟨rfl, rfl, by decide, by decide⟩ hw h102 rfl hl.1 (Nat.le_of_ble_eq_true rfl) ⟨Nat.zero_le _, Nat.zero_le _⟩ rfl dX8_write_141) (fun H locs hw => ?_)
  refine lv_if_eq (tgt := 149) hx hb dX8_write_144 (by decide) (fun c105 => ?_) (fun c105 => ?_)
  · have hf := o_pos c105 hf
    refine lv_aload_n hx hb dX8_write_149 rfl (lv_at hl 0 rfl) ?_
    refine lv_iload_n hx hb dX8_write_150 rfl (lv_at hl 1 rfl) ?_
    obtain ⟨h107, hf⟩ := o_ite hf
    obtain ⟨μ108, h106, hf⟩ := o_bind hf
    refine pw_goV hw (pw_runV (As := [.int a1]) (rest := []) hC mm_X8_heads tw_1515 (c_X8_heads h106 _) ⟨rfl, rfl, by decide, by decide⟩ hw h107 rfl hl.1 (Nat.le_of_ble_eq_true rfl) ⟨Nat.zero_le _, Nat.zero_le _⟩ rfl dX8_write_151) (fun H locs hw => ?_)
    refine lv_aload_n hx hb dX8_write_154 rfl (lv_at hl 0 rfl) ?_
    obtain ⟨v109, h110, hf⟩ := o_bind hf
    refine pw_get hC fl_X8_339 hw (rdI_F h110) dX8_write_155 ?_
    refine lv_istore (lv' := [(4, .int v109), (0, .ref a0), (1, .int a1), (2, .int a2)]) hx hb dX8_write_158 hl (by decide) rfl (fun ls hl => ?_)
    exact w_X8_write_L160 hC hr hlocks FU _ _ _ _ _ _ ls (lv_sub hl [1, 3, 0] rfl) hw hf
  · have hf := o_neg c105 hf
    refine lv_iconst (v := 0) hx hb dX8_write_147 nc_iconst_0 ?_
    obtain ⟨rfl, rfl⟩ := o_ret hf
    exact pw_iret hC hr hlocks hw dX8_write_148
def f_X8_write_L98 (cy : Nat → ClassId) (a0 : Nat) (a1 : Int32) (a2 : Int32) (t0 : Nat) (t1 : Int32) (μ : Mem) : Option (Int32 × Mem) :=
  if isO μ t0 7 = true then (ob2 (f_X8_throwsIf cy t0 t1 2 μ) fun r104 μ103 => if r104 = 0 then ((rdI μ103 a0 7 11).bind fun v106 => if isO μ103 a0 7 = true then (ob2 (f_X8_headSize cy a0 μ103) fun r111 μ110 => (rdI μ110 a0 7 42).bind fun v112 => (rdI μ110 a0 7 13).bind fun v114 => if ((((v106 + r111) + a2) - v112) + v114) ≤ 2400 then (f_X8_write_L140 cy a0 a1 a2 a0 0 μ110) else f_X8_write_L140 cy a0 a1 a2 a0 1 μ110) else none) else some (0, μ103)) else none
set_option maxRecDepth 100000 in
set_option maxHeartbeats 4000000 in
theorem w_X8_write_L98 {p : Program} {l : Launch} {e : Env} {s : State} {m : MethodId} {args : Array Value} {below : List Frame} {meth : Method} {c : Code} {A : Nat → Prop} {g : Wg} {L : List Nat} {r : Int32} {μ' : Mem} (hC : CX p m c cX8_write 5 s args RX8) (hr : meth.sig.returnType = (some .int)) (hlocks : meth.locks = false) : ∀ (a0 : Nat) (a1 : Int32) (a2 : Int32) (t0 : Nat) (t1 : Int32) (μ : Mem) (H : Heap) (locs : List Loc) (ls : Array Slot), lv_has ls 5 [(0, .ref a0), (1, .int a1), (2, .int a2)] → PW g L μ A s H locs → f_X8_write_L98 g.2 a0 a1 a2 t0 t1 μ = some (r, μ') → W p l e rm_X8_write s m args below meth c H locs 0 0 (MQ below (QI g L A r μ') args s 0 0 A) (F0 m 98 ls [.int t1, .ref t0]) := by
  have hx := hC.1
  have hb := hC.2.1
  intro a0 a1 a2 t0 t1 μ H locs ls hl hw hf
  unfold f_X8_write_L98 at hf
  refine lv_iconst (v := 2) hx hb dX8_write_98 nc_iconst_2 ?_
  obtain ⟨h102, hf⟩ := o_ite hf
  obtain ⟨r104, μ103, h101, hf⟩ := o_bind2 hf
  refine pw_goI hw (pw_runV (As := [.int t1, .int 2]) (rest := []) hC mm_X8_throwsIf tw_1317 (c_X8_throwsIf h101 _) ⟨rfl, rfl, by decide, by decide⟩ hw h102 rfl hl.1 (Nat.le_of_ble_eq_true rfl) ⟨Nat.zero_le _, Nat.zero_le _⟩ rfl dX8_write_99) (fun H locs hw => ?_)
  refine lv_if_eq (tgt := 107) hx hb dX8_write_102 (by decide) (fun c105 => ?_) (fun c105 => ?_)
  · have hf := o_pos c105 hf
    refine lv_aload_n hx hb dX8_write_107 rfl (lv_at hl 0 rfl) ?_
    refine lv_aload_n hx hb dX8_write_108 rfl (lv_at hl 0 rfl) ?_
    obtain ⟨v106, h107, hf⟩ := o_bind hf
    refine pw_get hC fl_X8_351 hw (rdI_F h107) dX8_write_109 ?_
    refine lv_aload_n hx hb dX8_write_112 rfl (lv_at hl 0 rfl) ?_
    obtain ⟨h109, hf⟩ := o_ite hf
    obtain ⟨r111, μ110, h108, hf⟩ := o_bind2 hf
    refine pw_goI hw (pw_runV (As := []) (rest := [.int v106, .ref a0]) hC mm_X8_headSize tw_1511 (c_X8_headSize h108 _) ⟨rfl, rfl, by decide, by decide⟩ hw h109 rfl hl.1 (Nat.le_of_ble_eq_true rfl) ⟨Nat.zero_le _, Nat.zero_le _⟩ rfl dX8_write_113) (fun H locs hw => ?_)
    refine lv_iadd hx hb dX8_write_116 ?_
    refine lv_iload_n hx hb dX8_write_117 rfl (lv_at hl 2 rfl) ?_
    refine lv_iadd hx hb dX8_write_118 ?_
    refine lv_aload_n hx hb dX8_write_119 rfl (lv_at hl 0 rfl) ?_
    obtain ⟨v112, h113, hf⟩ := o_bind hf
    refine pw_get hC fl_X8_339 hw (rdI_F h113) dX8_write_120 ?_
    refine lv_isub hx hb dX8_write_123 ?_
    refine lv_aload_n hx hb dX8_write_124 rfl (lv_at hl 0 rfl) ?_
    obtain ⟨v114, h115, hf⟩ := o_bind hf
    refine pw_get hC fl_X8_354 hw (rdI_F h115) dX8_write_125 ?_
    refine lv_iadd hx hb dX8_write_128 ?_
    refine lv_sipush (v := 2400) hx hb dX8_write_129 nc_sipush_2400 ?_
    refine lv_icmp_le (tgt := 139) hx hb dX8_write_132 (by decide) (fun c116 => ?_) (fun c116 => ?_)
    · have hf := o_pos c116 hf
      refine lv_iconst (v := 0) hx hb dX8_write_139 nc_iconst_0 ?_
      exact w_X8_write_L140 hC hr hlocks _ _ _ _ _ _ _ _ ls (lv_sub hl [0, 1, 2] rfl) hw hf
    · have hf := o_neg c116 hf
      refine lv_iconst (v := 1) hx hb dX8_write_135 nc_iconst_1 ?_
      refine lv_goto (tgt := 140) hx hb dX8_write_136 (by decide) ?_
      exact w_X8_write_L140 hC hr hlocks _ _ _ _ _ _ _ _ ls (lv_sub hl [0, 1, 2] rfl) hw hf
  · have hf := o_neg c105 hf
    refine lv_iconst (v := 0) hx hb dX8_write_105 nc_iconst_0 ?_
    obtain ⟨rfl, rfl⟩ := o_ret hf
    exact pw_iret hC hr hlocks hw dX8_write_106
def f_X8_write_L75 (cy : Nat → ClassId) (a0 : Nat) (a1 : Int32) (a2 : Int32) (t0 : Nat) (t1 : Int32) (t2 : Int32) (μ : Mem) : Option (Int32 × Mem) :=
  (rdI μ a0 7 13).bind fun v101 => if isO μ t0 7 = true then (ob2 (f_X8_isPiece cy t0 t1 t2 v101 μ) fun r106 μ105 => (wrF μ105 a0 7 2 (.int 0)).bind fun μ107 => if r106 = 0 then (f_X8_write_L98 cy a0 a1 a2 a0 1 μ107) else f_X8_write_L98 cy a0 a1 a2 a0 0 μ107) else none
set_option maxRecDepth 100000 in
set_option maxHeartbeats 4000000 in
theorem w_X8_write_L75 {p : Program} {l : Launch} {e : Env} {s : State} {m : MethodId} {args : Array Value} {below : List Frame} {meth : Method} {c : Code} {A : Nat → Prop} {g : Wg} {L : List Nat} {r : Int32} {μ' : Mem} (hC : CX p m c cX8_write 5 s args RX8) (hr : meth.sig.returnType = (some .int)) (hlocks : meth.locks = false) : ∀ (a0 : Nat) (a1 : Int32) (a2 : Int32) (t0 : Nat) (t1 : Int32) (t2 : Int32) (μ : Mem) (H : Heap) (locs : List Loc) (ls : Array Slot), lv_has ls 5 [(0, .ref a0), (1, .int a1), (2, .int a2)] → PW g L μ A s H locs → f_X8_write_L75 g.2 a0 a1 a2 t0 t1 t2 μ = some (r, μ') → W p l e rm_X8_write s m args below meth c H locs 0 0 (MQ below (QI g L A r μ') args s 0 0 A) (F0 m 75 ls [.int t2, .int t1, .ref t0]) := by
  have hx := hC.1
  have hb := hC.2.1
  intro a0 a1 a2 t0 t1 t2 μ H locs ls hl hw hf
  unfold f_X8_write_L75 at hf
  refine lv_aload_n hx hb dX8_write_75 rfl (lv_at hl 0 rfl) ?_
  obtain ⟨v101, h102, hf⟩ := o_bind hf
  refine pw_get hC fl_X8_354 hw (rdI_F h102) dX8_write_76 ?_
  obtain ⟨h104, hf⟩ := o_ite hf
  obtain ⟨r106, μ105, h103, hf⟩ := o_bind2 hf
  refine pw_goI hw (pw_runV (As := [.int t1, .int t2, .int v101]) (rest := []) hC mm_X8_isPiece tw_1462 (c_X8_isPiece h103 _) ⟨rfl, rfl, by decide, by decide⟩ hw h104 rfl hl.1 (Nat.le_of_ble_eq_true rfl) ⟨Nat.zero_le _, Nat.zero_le _⟩ rfl dX8_write_79) (fun H locs hw => ?_)
  refine lv_istore_n (lv' := [(3, .int r106), (0, .ref a0), (1, .int a1), (2, .int a2)]) hx hb dX8_write_82 rfl hl (by decide) rfl (fun ls hl => ?_)
  refine lv_aload_n hx hb dX8_write_83 rfl (lv_at hl 1 rfl) ?_
  refine lv_iconst (v := 0) hx hb dX8_write_84 nc_iconst_0 ?_
  obtain ⟨μ107, h108, hf⟩ := o_bind hf
  refine pw_put hC fl_X8_103 hw h108 .int fd_X8_2 rfl rfl dX8_write_85 (fun H locs hw => ?_)
  refine lv_aload_n hx hb dX8_write_88 rfl (lv_at hl 1 rfl) ?_
  refine lv_iload_n hx hb dX8_write_89 rfl (lv_at hl 0 rfl) ?_
  refine lv_if_ne (tgt := 97) hx hb dX8_write_90 (by decide) (fun c109 => ?_) (fun c109 => ?_)
  · have hf := o_neg c109 hf
    refine lv_iconst (v := 0) hx hb dX8_write_97 nc_iconst_0 ?_
    exact w_X8_write_L98 hC hr hlocks _ _ _ _ _ _ _ _ ls (lv_sub hl [1, 2, 3] rfl) hw hf
  · have hf := o_pos c109 hf
    refine lv_iconst (v := 1) hx hb dX8_write_93 nc_iconst_1 ?_
    refine lv_goto (tgt := 98) hx hb dX8_write_94 (by decide) ?_
    exact w_X8_write_L98 hC hr hlocks _ _ _ _ _ _ _ _ ls (lv_sub hl [1, 2, 3] rfl) hw hf
def f_X8_write_L35 (cy : Nat → ClassId) (a0 : Nat) (a1 : Int32) (a2 : Int32) (t0 : Nat) (t1 : Int32) (μ : Mem) : Option (Int32 × Mem) :=
  if isO μ t0 7 = true then (ob2 (f_X8_throwsIf cy t0 t1 1 μ) fun r104 μ103 => if r104 = 0 then (if isO μ103 a0 7 = true then ((f_X8_judges cy a0 μ103).bind fun μ108 => (wrF μ108 a0 7 2 (.int a2)).bind fun μ109 => (rdR μ109 a0 7 15).bind fun q111 => (rdI μ109 a0 7 13).bind fun v113 => (rdA cy μ109 1 q111 (v113 - 1)).bind fun v115 => if v115 = 4 then (f_X8_write_L75 cy a0 a1 a2 a0 a1 1 μ109) else f_X8_write_L75 cy a0 a1 a2 a0 a1 0 μ109) else none) else some (0, μ103)) else none
set_option maxRecDepth 100000 in
set_option maxHeartbeats 4000000 in
theorem w_X8_write_L35 {p : Program} {l : Launch} {e : Env} {s : State} {m : MethodId} {args : Array Value} {below : List Frame} {meth : Method} {c : Code} {A : Nat → Prop} {g : Wg} {L : List Nat} {r : Int32} {μ' : Mem} (hC : CX p m c cX8_write 5 s args RX8) (hr : meth.sig.returnType = (some .int)) (hlocks : meth.locks = false) : ∀ (a0 : Nat) (a1 : Int32) (a2 : Int32) (t0 : Nat) (t1 : Int32) (μ : Mem) (H : Heap) (locs : List Loc) (ls : Array Slot), lv_has ls 5 [(0, .ref a0), (1, .int a1), (2, .int a2)] → PW g L μ A s H locs → f_X8_write_L35 g.2 a0 a1 a2 t0 t1 μ = some (r, μ') → W p l e rm_X8_write s m args below meth c H locs 0 0 (MQ below (QI g L A r μ') args s 0 0 A) (F0 m 35 ls [.int t1, .ref t0]) := by
  have hx := hC.1
  have hb := hC.2.1
  intro a0 a1 a2 t0 t1 μ H locs ls hl hw hf
  unfold f_X8_write_L35 at hf
  refine lv_iconst (v := 1) hx hb dX8_write_35 nc_iconst_1 ?_
  obtain ⟨h102, hf⟩ := o_ite hf
  obtain ⟨r104, μ103, h101, hf⟩ := o_bind2 hf
  refine pw_goI hw (pw_runV (As := [.int t1, .int 1]) (rest := []) hC mm_X8_throwsIf tw_1317 (c_X8_throwsIf h101 _) ⟨rfl, rfl, by decide, by decide⟩ hw h102 rfl hl.1 (Nat.le_of_ble_eq_true rfl) ⟨Nat.zero_le _, Nat.zero_le _⟩ rfl dX8_write_36) (fun H locs hw => ?_)
  refine lv_if_eq (tgt := 44) hx hb dX8_write_39 (by decide) (fun c105 => ?_) (fun c105 => ?_)
  · have hf := o_pos c105 hf
    refine lv_aload_n hx hb dX8_write_44 rfl (lv_at hl 0 rfl) ?_
    obtain ⟨h107, hf⟩ := o_ite hf
    obtain ⟨μ108, h106, hf⟩ := o_bind hf
    refine pw_goV hw (pw_runV (As := []) (rest := []) hC mm_X8_judges tw_1229 (c_X8_judges h106 _) ⟨rfl, rfl, by decide, by decide⟩ hw h107 rfl hl.1 (Nat.le_of_ble_eq_true rfl) ⟨Nat.zero_le _, Nat.zero_le _⟩ rfl dX8_write_45) (fun H locs hw => ?_)
    refine lv_aload_n hx hb dX8_write_48 rfl (lv_at hl 0 rfl) ?_
    refine lv_iload_n hx hb dX8_write_49 rfl (lv_at hl 2 rfl) ?_
    obtain ⟨μ109, h110, hf⟩ := o_bind hf
    refine pw_put hC fl_X8_103 hw h110 .int fd_X8_2 rfl rfl dX8_write_50 (fun H locs hw => ?_)
    refine lv_aload_n hx hb dX8_write_53 rfl (lv_at hl 0 rfl) ?_
    refine lv_iload_n hx hb dX8_write_54 rfl (lv_at hl 1 rfl) ?_
    refine lv_aload_n hx hb dX8_write_55 rfl (lv_at hl 0 rfl) ?_
    obtain ⟨q111, h112, hf⟩ := o_bind hf
    refine pw_get hC fl_X8_46 hw (rdR_F h112) dX8_write_56 ?_
    refine lv_aload_n hx hb dX8_write_59 rfl (lv_at hl 0 rfl) ?_
    obtain ⟨v113, h114, hf⟩ := o_bind hf
    refine pw_get hC fl_X8_354 hw (rdI_F h114) dX8_write_60 ?_
    refine lv_iconst (v := 1) hx hb dX8_write_63 nc_iconst_1 ?_
    refine lv_isub hx hb dX8_write_64 ?_
    obtain ⟨v115, h116, hf⟩ := o_bind hf
    refine pw_iald hC hw h116 dX8_write_65 ?_
    refine lv_iconst (v := 4) hx hb dX8_write_66 nc_iconst_4 ?_
    refine lv_icmp_ne (tgt := 74) hx hb dX8_write_67 (by decide) (fun c117 => ?_) (fun c117 => ?_)
    · have hf := o_neg c117 hf
      refine lv_iconst (v := 0) hx hb dX8_write_74 nc_iconst_0 ?_
      exact w_X8_write_L75 hC hr hlocks _ _ _ _ _ _ _ _ _ ls (lv_sub hl [0, 1, 2] rfl) hw hf
    · have hf := o_pos c117 hf
      refine lv_iconst (v := 1) hx hb dX8_write_70 nc_iconst_1 ?_
      refine lv_goto (tgt := 75) hx hb dX8_write_71 (by decide) ?_
      exact w_X8_write_L75 hC hr hlocks _ _ _ _ _ _ _ _ _ ls (lv_sub hl [0, 1, 2] rfl) hw hf
  · have hf := o_neg c105 hf
    refine lv_iconst (v := 0) hx hb dX8_write_42 nc_iconst_0 ?_
    obtain ⟨rfl, rfl⟩ := o_ret hf
    exact pw_iret hC hr hlocks hw dX8_write_43
def f_X8_write_L30 (cy : Nat → ClassId) (a0 : Nat) (a1 : Int32) (a2 : Int32) (t0 : Nat) (μ : Mem) : Option (Int32 × Mem) :=
  f_X8_write_L35 cy a0 a1 a2 t0 1 μ
set_option maxRecDepth 100000 in
set_option maxHeartbeats 4000000 in
theorem w_X8_write_L30 {p : Program} {l : Launch} {e : Env} {s : State} {m : MethodId} {args : Array Value} {below : List Frame} {meth : Method} {c : Code} {A : Nat → Prop} {g : Wg} {L : List Nat} {r : Int32} {μ' : Mem} (hC : CX p m c cX8_write 5 s args RX8) (hr : meth.sig.returnType = (some .int)) (hlocks : meth.locks = false) : ∀ (a0 : Nat) (a1 : Int32) (a2 : Int32) (t0 : Nat) (μ : Mem) (H : Heap) (locs : List Loc) (ls : Array Slot), lv_has ls 5 [(0, .ref a0), (1, .int a1), (2, .int a2)] → PW g L μ A s H locs → f_X8_write_L30 g.2 a0 a1 a2 t0 μ = some (r, μ') → W p l e rm_X8_write s m args below meth c H locs 0 0 (MQ below (QI g L A r μ') args s 0 0 A) (F0 m 30 ls [.ref t0]) := by
  have hx := hC.1
  have hb := hC.2.1
  intro a0 a1 a2 t0 μ H locs ls hl hw hf
  unfold f_X8_write_L30 at hf
  refine lv_iconst (v := 1) hx hb dX8_write_30 nc_iconst_1 ?_
  refine lv_goto (tgt := 35) hx hb dX8_write_31 (by decide) ?_
  exact w_X8_write_L35 hC hr hlocks _ _ _ _ _ _ _ _ ls (lv_sub hl [0, 1, 2] rfl) hw hf
def f_X8_write (cy : Nat → ClassId) (a0 : Nat) (a1 : Int32) (μ : Mem) : Option (Int32 × Mem) :=
  (wrF μ a0 7 0 (.int 0)).bind fun μ1 => (rdI μ1 a0 7 2).bind fun v3 => (wrF μ1 a0 7 2 (.int 0)).bind fun μ5 => (rdI μ5 a0 7 12).bind fun v7 => if v7 = 0 then (f_X8_write_L30 cy a0 a1 v3 a0 μ5) else (rdI μ5 a0 7 13).bind fun v10 => if v10 = 0 then (f_X8_write_L30 cy a0 a1 v3 a0 μ5) else f_X8_write_L35 cy a0 a1 v3 a0 0 μ5
set_option maxRecDepth 100000 in
set_option maxHeartbeats 4000000 in
theorem c_X8_write {l : Launch} {g : Wg} {L : List Nat} {μ : Mem} {a0 : Nat} {a1 : Int32} {r : Int32} {μ' : Mem} (hf : f_X8_write g.2 a0 a1 μ = some (r, μ')) : MetI l yX8_write cX8_write 5 (some .int) rm_X8_write g L μ [.ref a0, .int a1] r μ' := by
  refine pw_met (Qc := fun A => QI g L A r μ') (by decide) (Nat.le_of_ble_eq_true rfl) ?_
  intro p e s m args below meth c A ls H locs hC hr hlocks hl hw
  have hx := hC.1
  have hb := hC.2.1
  have hl : lv_has ls 5 [(0, .ref a0), (1, .int a1)] := hl
  unfold f_X8_write at hf
  refine lv_aload_n hx hb dX8_write_0 rfl (lv_at hl 0 rfl) ?_
  refine lv_iconst (v := 0) hx hb dX8_write_1 nc_iconst_0 ?_
  obtain ⟨μ1, h2, hf⟩ := o_bind hf
  refine pw_put hC fl_X8_1 hw h2 .int fd_X8_0 rfl rfl dX8_write_2 (fun H locs hw => ?_)
  refine lv_aload_n hx hb dX8_write_5 rfl (lv_at hl 0 rfl) ?_
  obtain ⟨v3, h4, hf⟩ := o_bind hf
  refine pw_get hC fl_X8_103 hw (rdI_F h4) dX8_write_6 ?_
  refine lv_istore_n (lv' := [(2, .int v3), (0, .ref a0), (1, .int a1)]) hx hb dX8_write_9 rfl hl (by decide) rfl (fun ls hl => ?_)
  refine lv_aload_n hx hb dX8_write_10 rfl (lv_at hl 1 rfl) ?_
  refine lv_iconst (v := 0) hx hb dX8_write_11 nc_iconst_0 ?_
  obtain ⟨μ5, h6, hf⟩ := o_bind hf
  refine pw_put hC fl_X8_103 hw h6 .int fd_X8_2 rfl rfl dX8_write_12 (fun H locs hw => ?_)
  refine lv_aload_n hx hb dX8_write_15 rfl (lv_at hl 1 rfl) ?_
  refine lv_aload_n hx hb dX8_write_16 rfl (lv_at hl 1 rfl) ?_
  obtain ⟨v7, h8, hf⟩ := o_bind hf
  refine pw_get hC fl_X8_348 hw (rdI_F h8) dX8_write_17 ?_
  refine lv_if_eq (tgt := 30) hx hb dX8_write_20 (by decide) (fun c9 => ?_) (fun c9 => ?_)
  · have hf := o_pos c9 hf
    exact w_X8_write_L30 hC hr hlocks _ _ _ _ _ _ _ ls (lv_sub hl [1, 2, 0] rfl) hw hf
  · have hf := o_neg c9 hf
    refine lv_aload_n hx hb dX8_write_23 rfl (lv_at hl 1 rfl) ?_
    obtain ⟨v10, h11, hf⟩ := o_bind hf
    refine pw_get hC fl_X8_354 hw (rdI_F h11) dX8_write_24 ?_
    refine lv_if_ne (tgt := 34) hx hb dX8_write_27 (by decide) (fun c12 => ?_) (fun c12 => ?_)
    · have hf := o_neg c12 hf
      refine lv_iconst (v := 0) hx hb dX8_write_34 nc_iconst_0 ?_
      exact w_X8_write_L35 hC hr hlocks _ _ _ _ _ _ _ _ ls (lv_sub hl [1, 2, 0] rfl) hw hf
    · have hf := o_pos c12 hf
      exact w_X8_write_L30 hC hr hlocks _ _ _ _ _ _ _ ls (lv_sub hl [1, 2, 0] rfl) hw hf
theorem dX8_open_0 : decode cX8_open 0 = .ok (.aload_n 0, 1) := by decide +kernel
theorem dX8_open_1 : decode cX8_open 1 = .ok (.iconst 0, 1) := by decide +kernel
theorem dX8_open_2 : decode cX8_open 2 = .ok (.putfield 1, 3) := by decide +kernel
theorem dX8_open_5 : decode cX8_open 5 = .ok (.aload_n 0, 1) := by decide +kernel
theorem dX8_open_6 : decode cX8_open 6 = .ok (.getfield 103, 3) := by decide +kernel
theorem dX8_open_9 : decode cX8_open 9 = .ok (.istore_n 2, 1) := by decide +kernel
theorem dX8_open_10 : decode cX8_open 10 = .ok (.aload_n 0, 1) := by decide +kernel
theorem dX8_open_11 : decode cX8_open 11 = .ok (.iconst 0, 1) := by decide +kernel
theorem dX8_open_12 : decode cX8_open 12 = .ok (.putfield 103, 3) := by decide +kernel
theorem dX8_open_15 : decode cX8_open 15 = .ok (.aload_n 0, 1) := by decide +kernel
theorem dX8_open_16 : decode cX8_open 16 = .ok (.aload_n 0, 1) := by decide +kernel
theorem dX8_open_17 : decode cX8_open 17 = .ok (.getfield 348, 3) := by decide +kernel
theorem dX8_open_20 : decode cX8_open 20 = .ok (.ifCond .eq 10, 3) := by decide +kernel
theorem dX8_open_23 : decode cX8_open 23 = .ok (.aload_n 0, 1) := by decide +kernel
theorem dX8_open_24 : decode cX8_open 24 = .ok (.getfield 354, 3) := by decide +kernel
theorem dX8_open_27 : decode cX8_open 27 = .ok (.ifCond .ne 7, 3) := by decide +kernel
theorem dX8_open_30 : decode cX8_open 30 = .ok (.iconst 1, 1) := by decide +kernel
theorem dX8_open_31 : decode cX8_open 31 = .ok (.goto 4, 3) := by decide +kernel
theorem dX8_open_34 : decode cX8_open 34 = .ok (.iconst 0, 1) := by decide +kernel
theorem dX8_open_35 : decode cX8_open 35 = .ok (.iconst 1, 1) := by decide +kernel
theorem dX8_open_36 : decode cX8_open 36 = .ok (.invokevirtual 186, 3) := by decide +kernel
theorem dX8_open_39 : decode cX8_open 39 = .ok (.ifCond .eq 5, 3) := by decide +kernel
theorem dX8_open_42 : decode cX8_open 42 = .ok (.iconst 0, 1) := by decide +kernel
theorem dX8_open_43 : decode cX8_open 43 = .ok (.ireturn, 1) := by decide +kernel
theorem dX8_open_44 : decode cX8_open 44 = .ok (.aload_n 0, 1) := by decide +kernel
theorem dX8_open_45 : decode cX8_open 45 = .ok (.invokevirtual 170, 3) := by decide +kernel
theorem dX8_open_48 : decode cX8_open 48 = .ok (.aload_n 0, 1) := by decide +kernel
theorem dX8_open_49 : decode cX8_open 49 = .ok (.iload_n 2, 1) := by decide +kernel
theorem dX8_open_50 : decode cX8_open 50 = .ok (.putfield 103, 3) := by decide +kernel
theorem dX8_open_53 : decode cX8_open 53 = .ok (.aload_n 0, 1) := by decide +kernel
theorem dX8_open_54 : decode cX8_open 54 = .ok (.iload_n 1, 1) := by decide +kernel
theorem dX8_open_55 : decode cX8_open 55 = .ok (.invokevirtual 371, 3) := by decide +kernel
theorem dX8_open_58 : decode cX8_open 58 = .ok (.istore_n 3, 1) := by decide +kernel
theorem dX8_open_59 : decode cX8_open 59 = .ok (.aload_n 0, 1) := by decide +kernel
theorem dX8_open_60 : decode cX8_open 60 = .ok (.iconst 0, 1) := by decide +kernel
theorem dX8_open_61 : decode cX8_open 61 = .ok (.putfield 103, 3) := by decide +kernel
theorem dX8_open_64 : decode cX8_open 64 = .ok (.iload_n 3, 1) := by decide +kernel
theorem dX8_open_65 : decode cX8_open 65 = .ok (.ifCond .eq 28, 3) := by decide +kernel
theorem dX8_open_68 : decode cX8_open 68 = .ok (.aload_n 0, 1) := by decide +kernel
theorem dX8_open_69 : decode cX8_open 69 = .ok (.getfield 354, 3) := by decide +kernel
theorem dX8_open_72 : decode cX8_open 72 = .ok (.bipush 24, 2) := by decide +kernel
theorem dX8_open_74 : decode cX8_open 74 = .ok (.if_icmp .ne 19, 3) := by decide +kernel
theorem dX8_open_77 : decode cX8_open 77 = .ok (.aload_n 0, 1) := by decide +kernel
theorem dX8_open_78 : decode cX8_open 78 = .ok (.bipush 8, 2) := by decide +kernel
theorem dX8_open_80 : decode cX8_open 80 = .ok (.iload_n 2, 1) := by decide +kernel
theorem dX8_open_81 : decode cX8_open 81 = .ok (.invokevirtual 109, 3) := by decide +kernel
theorem dX8_open_84 : decode cX8_open 84 = .ok (.ifCond .lt 7, 3) := by decide +kernel
theorem dX8_open_87 : decode cX8_open 87 = .ok (.iconst 1, 1) := by decide +kernel
theorem dX8_open_88 : decode cX8_open 88 = .ok (.goto 4, 3) := by decide +kernel
theorem dX8_open_91 : decode cX8_open 91 = .ok (.iconst 0, 1) := by decide +kernel
theorem dX8_open_92 : decode cX8_open 92 = .ok (.istore_n 3, 1) := by decide +kernel
theorem dX8_open_93 : decode cX8_open 93 = .ok (.aload_n 0, 1) := by decide +kernel
theorem dX8_open_94 : decode cX8_open 94 = .ok (.iload_n 3, 1) := by decide +kernel
theorem dX8_open_95 : decode cX8_open 95 = .ok (.ifCond .ne 7, 3) := by decide +kernel
theorem dX8_open_98 : decode cX8_open 98 = .ok (.iconst 1, 1) := by decide +kernel
theorem dX8_open_99 : decode cX8_open 99 = .ok (.goto 4, 3) := by decide +kernel
theorem dX8_open_102 : decode cX8_open 102 = .ok (.iconst 0, 1) := by decide +kernel
theorem dX8_open_103 : decode cX8_open 103 = .ok (.iconst 2, 1) := by decide +kernel
theorem dX8_open_104 : decode cX8_open 104 = .ok (.invokevirtual 186, 3) := by decide +kernel
theorem dX8_open_107 : decode cX8_open 107 = .ok (.ifCond .eq 5, 3) := by decide +kernel
theorem dX8_open_110 : decode cX8_open 110 = .ok (.iconst 0, 1) := by decide +kernel
theorem dX8_open_111 : decode cX8_open 111 = .ok (.ireturn, 1) := by decide +kernel
theorem dX8_open_112 : decode cX8_open 112 = .ok (.aload_n 0, 1) := by decide +kernel
theorem dX8_open_113 : decode cX8_open 113 = .ok (.invokevirtual 364, 3) := by decide +kernel
theorem dX8_open_116 : decode cX8_open 116 = .ok (.iload_n 1, 1) := by decide +kernel
theorem dX8_open_117 : decode cX8_open 117 = .ok (.bipush 15, 2) := by decide +kernel
theorem dX8_open_119 : decode cX8_open 119 = .ok (.if_icmp .ne 14, 3) := by decide +kernel
theorem dX8_open_122 : decode cX8_open 122 = .ok (.iconst 4, 1) := by decide +kernel
theorem dX8_open_123 : decode cX8_open 123 = .ok (.iload_n 2, 1) := by decide +kernel
theorem dX8_open_124 : decode cX8_open 124 = .ok (.iadd, 1) := by decide +kernel
theorem dX8_open_125 : decode cX8_open 125 = .ok (.aload_n 0, 1) := by decide +kernel
theorem dX8_open_126 : decode cX8_open 126 = .ok (.getfield 339, 3) := by decide +kernel
theorem dX8_open_129 : decode cX8_open 129 = .ok (.isub, 1) := by decide +kernel
theorem dX8_open_130 : decode cX8_open 130 = .ok (.goto 4, 3) := by decide +kernel
theorem dX8_open_133 : decode cX8_open 133 = .ok (.iconst 0, 1) := by decide +kernel
theorem dX8_open_134 : decode cX8_open 134 = .ok (.iadd, 1) := by decide +kernel
theorem dX8_open_135 : decode cX8_open 135 = .ok (.iconst 4, 1) := by decide +kernel
theorem dX8_open_136 : decode cX8_open 136 = .ok (.iadd, 1) := by decide +kernel
theorem dX8_open_137 : decode cX8_open 137 = .ok (.istore 4, 2) := by decide +kernel
theorem dX8_open_139 : decode cX8_open 139 = .ok (.aload_n 0, 1) := by decide +kernel
theorem dX8_open_140 : decode cX8_open 140 = .ok (.aload_n 0, 1) := by decide +kernel
theorem dX8_open_141 : decode cX8_open 141 = .ok (.getfield 351, 3) := by decide +kernel
theorem dX8_open_144 : decode cX8_open 144 = .ok (.iload 4, 2) := by decide +kernel
theorem dX8_open_146 : decode cX8_open 146 = .ok (.iadd, 1) := by decide +kernel
theorem dX8_open_147 : decode cX8_open 147 = .ok (.aload_n 0, 1) := by decide +kernel
theorem dX8_open_148 : decode cX8_open 148 = .ok (.getfield 354, 3) := by decide +kernel
theorem dX8_open_151 : decode cX8_open 151 = .ok (.iadd, 1) := by decide +kernel
theorem dX8_open_152 : decode cX8_open 152 = .ok (.iconst 1, 1) := by decide +kernel
theorem dX8_open_153 : decode cX8_open 153 = .ok (.iadd, 1) := by decide +kernel
theorem dX8_open_154 : decode cX8_open 154 = .ok (.sipush 2400, 3) := by decide +kernel
theorem dX8_open_157 : decode cX8_open 157 = .ok (.if_icmp .le 7, 3) := by decide +kernel
theorem dX8_open_160 : decode cX8_open 160 = .ok (.iconst 1, 1) := by decide +kernel
theorem dX8_open_161 : decode cX8_open 161 = .ok (.goto 4, 3) := by decide +kernel
theorem dX8_open_164 : decode cX8_open 164 = .ok (.iconst 0, 1) := by decide +kernel
theorem dX8_open_165 : decode cX8_open 165 = .ok (.iconst 3, 1) := by decide +kernel
theorem dX8_open_166 : decode cX8_open 166 = .ok (.invokevirtual 186, 3) := by decide +kernel
theorem dX8_open_169 : decode cX8_open 169 = .ok (.ifCond .eq 5, 3) := by decide +kernel
theorem dX8_open_172 : decode cX8_open 172 = .ok (.iconst 0, 1) := by decide +kernel
theorem dX8_open_173 : decode cX8_open 173 = .ok (.ireturn, 1) := by decide +kernel
theorem dX8_open_174 : decode cX8_open 174 = .ok (.aload_n 0, 1) := by decide +kernel
theorem dX8_open_175 : decode cX8_open 175 = .ok (.iload_n 1, 1) := by decide +kernel
theorem dX8_open_176 : decode cX8_open 176 = .ok (.invokevirtual 368, 3) := by decide +kernel
theorem dX8_open_179 : decode cX8_open 179 = .ok (.iload_n 1, 1) := by decide +kernel
theorem dX8_open_180 : decode cX8_open 180 = .ok (.bipush 15, 2) := by decide +kernel
theorem dX8_open_182 : decode cX8_open 182 = .ok (.if_icmp .ne 10, 3) := by decide +kernel
theorem dX8_open_185 : decode cX8_open 185 = .ok (.aload_n 0, 1) := by decide +kernel
theorem dX8_open_186 : decode cX8_open 186 = .ok (.getfield 351, 3) := by decide +kernel
theorem dX8_open_189 : decode cX8_open 189 = .ok (.goto 4, 3) := by decide +kernel
theorem dX8_open_192 : decode cX8_open 192 = .ok (.iconst (-1), 1) := by decide +kernel
theorem dX8_open_193 : decode cX8_open 193 = .ok (.istore 5, 2) := by decide +kernel
theorem dX8_open_195 : decode cX8_open 195 = .ok (.iload_n 1, 1) := by decide +kernel
theorem dX8_open_196 : decode cX8_open 196 = .ok (.bipush 15, 2) := by decide +kernel
theorem dX8_open_198 : decode cX8_open 198 = .ok (.if_icmp .ne 52, 3) := by decide +kernel
theorem dX8_open_201 : decode cX8_open 201 = .ok (.iconst 0, 1) := by decide +kernel
theorem dX8_open_202 : decode cX8_open 202 = .ok (.istore 6, 2) := by decide +kernel
theorem dX8_open_204 : decode cX8_open 204 = .ok (.iload 6, 2) := by decide +kernel
theorem dX8_open_206 : decode cX8_open 206 = .ok (.iconst 4, 1) := by decide +kernel
theorem dX8_open_207 : decode cX8_open 207 = .ok (.if_icmp .ge 14, 3) := by decide +kernel
theorem dX8_open_210 : decode cX8_open 210 = .ok (.aload_n 0, 1) := by decide +kernel
theorem dX8_open_211 : decode cX8_open 211 = .ok (.iconst 0, 1) := by decide +kernel
theorem dX8_open_212 : decode cX8_open 212 = .ok (.invokevirtual 361, 3) := by decide +kernel
theorem dX8_open_215 : decode cX8_open 215 = .ok (.iinc 6 1, 3) := by decide +kernel
theorem dX8_open_218 : decode cX8_open 218 = .ok (.goto (-14), 3) := by decide +kernel
theorem dX8_open_221 : decode cX8_open 221 = .ok (.aload_n 0, 1) := by decide +kernel
theorem dX8_open_222 : decode cX8_open 222 = .ok (.getfield 339, 3) := by decide +kernel
theorem dX8_open_225 : decode cX8_open 225 = .ok (.istore 6, 2) := by decide +kernel
theorem dX8_open_227 : decode cX8_open 227 = .ok (.iload 6, 2) := by decide +kernel
theorem dX8_open_229 : decode cX8_open 229 = .ok (.iload_n 2, 1) := by decide +kernel
theorem dX8_open_230 : decode cX8_open 230 = .ok (.if_icmp .ge 20, 3) := by decide +kernel
theorem dX8_open_233 : decode cX8_open 233 = .ok (.aload_n 0, 1) := by decide +kernel
theorem dX8_open_234 : decode cX8_open 234 = .ok (.aload_n 0, 1) := by decide +kernel
theorem dX8_open_235 : decode cX8_open 235 = .ok (.getfield 13, 3) := by decide +kernel
theorem dX8_open_238 : decode cX8_open 238 = .ok (.iload 6, 2) := by decide +kernel
theorem dX8_open_240 : decode cX8_open 240 = .ok (.baload, 1) := by decide +kernel
theorem dX8_open_241 : decode cX8_open 241 = .ok (.invokevirtual 361, 3) := by decide +kernel
theorem dX8_open_244 : decode cX8_open 244 = .ok (.iinc 6 1, 3) := by decide +kernel
theorem dX8_open_247 : decode cX8_open 247 = .ok (.goto (-20), 3) := by decide +kernel
theorem dX8_open_250 : decode cX8_open 250 = .ok (.aload_n 0, 1) := by decide +kernel
theorem dX8_open_251 : decode cX8_open 251 = .ok (.iload_n 1, 1) := by decide +kernel
theorem dX8_open_252 : decode cX8_open 252 = .ok (.iload 5, 2) := by decide +kernel
theorem dX8_open_254 : decode cX8_open 254 = .ok (.invokevirtual 357, 3) := by decide +kernel
theorem dX8_open_257 : decode cX8_open 257 = .ok (.aload_n 0, 1) := by decide +kernel
theorem dX8_open_258 : decode cX8_open 258 = .ok (.getfield 351, 3) := by decide +kernel
theorem dX8_open_261 : decode cX8_open 261 = .ok (.ireturn, 1) := by decide +kernel
abbrev rm_X8_open : Room := { frames := 4, cells := 0, slots := 0, locals := 96 }
def f_X8_open_L250 (cy : Nat → ClassId) (a0 : Nat) (a1 : Int32) (a5 : Int32) (μ : Mem) : Option (Int32 × Mem) :=
  if isO μ a0 7 = true then ((f_X8_opens cy a0 a1 a5 μ).bind fun μ103 => (rdI μ103 a0 7 11).bind fun v104 => some (v104, μ103)) else none
set_option maxRecDepth 100000 in
set_option maxHeartbeats 4000000 in
theorem w_X8_open_L250 {p : Program} {l : Launch} {e : Env} {s : State} {m : MethodId} {args : Array Value} {below : List Frame} {meth : Method} {c : Code} {A : Nat → Prop} {g : Wg} {L : List Nat} {r : Int32} {μ' : Mem} (hC : CX p m c cX8_open 7 s args RX8) (hr : meth.sig.returnType = (some .int)) (hlocks : meth.locks = false) : ∀ (a0 : Nat) (a1 : Int32) (a5 : Int32) (μ : Mem) (H : Heap) (locs : List Loc) (ls : Array Slot), lv_has ls 7 [(0, .ref a0), (1, .int a1), (5, .int a5)] → PW g L μ A s H locs → f_X8_open_L250 g.2 a0 a1 a5 μ = some (r, μ') → W p l e rm_X8_open s m args below meth c H locs 0 0 (MQ below (QI g L A r μ') args s 0 0 A) (F0 m 250 ls []) := by
  have hx := hC.1
  have hb := hC.2.1
  intro a0 a1 a5 μ H locs ls hl hw hf
  unfold f_X8_open_L250 at hf
  refine lv_aload_n hx hb dX8_open_250 rfl (lv_at hl 0 rfl) ?_
  refine lv_iload_n hx hb dX8_open_251 rfl (lv_at hl 1 rfl) ?_
  refine lv_iload hx hb dX8_open_252 (lv_at hl 2 rfl) ?_
  obtain ⟨h102, hf⟩ := o_ite hf
  obtain ⟨μ103, h101, hf⟩ := o_bind hf
  refine pw_goV hw (pw_runV (As := [.int a1, .int a5]) (rest := []) hC mm_X8_opens tw_1499 (c_X8_opens h101 _) ⟨rfl, rfl, by decide, by decide⟩ hw h102 rfl hl.1 (Nat.le_of_ble_eq_true rfl) ⟨Nat.zero_le _, Nat.zero_le _⟩ rfl dX8_open_254) (fun H locs hw => ?_)
  refine lv_aload_n hx hb dX8_open_257 rfl (lv_at hl 0 rfl) ?_
  obtain ⟨v104, h105, hf⟩ := o_bind hf
  refine pw_get hC fl_X8_351 hw (rdI_F h105) dX8_open_258 ?_
  obtain ⟨rfl, rfl⟩ := o_ret hf
  exact pw_iret hC hr hlocks hw dX8_open_261
def f_X8_open_L227 (cy : Nat → ClassId) : Nat → Nat → Int32 → Int32 → Int32 → Int32 → Mem → Option (Int32 × Mem)
  | 0, _, _, _, _, _, _ => none
  | n + 1, a0, a1, a2, a5, a6, μ => if a2 ≤ a6 then (f_X8_open_L250 cy a0 a1 a5 μ) else (rdR μ a0 7 1).bind fun q102 => (rdA cy μ 0 q102 a6).bind fun v104 => if isO μ a0 7 = true then ((f_X8_adds cy a0 v104 μ).bind fun μ108 => f_X8_open_L227 cy n a0 a1 a2 a5 (a6 + 1) μ108) else none
set_option maxRecDepth 100000 in
set_option maxHeartbeats 4000000 in
theorem w_X8_open_L227 {p : Program} {l : Launch} {e : Env} {s : State} {m : MethodId} {args : Array Value} {below : List Frame} {meth : Method} {c : Code} {A : Nat → Prop} {g : Wg} {L : List Nat} {r : Int32} {μ' : Mem} (hC : CX p m c cX8_open 7 s args RX8) (hr : meth.sig.returnType = (some .int)) (hlocks : meth.locks = false) : ∀ (n : Nat), ∀ (a0 : Nat) (a1 : Int32) (a2 : Int32) (a5 : Int32) (a6 : Int32) (μ : Mem) (H : Heap) (locs : List Loc) (ls : Array Slot), lv_has ls 7 [(0, .ref a0), (1, .int a1), (2, .int a2), (5, .int a5), (6, .int a6)] → PW g L μ A s H locs → f_X8_open_L227 g.2 n a0 a1 a2 a5 a6 μ = some (r, μ') → W p l e rm_X8_open s m args below meth c H locs 0 0 (MQ below (QI g L A r μ') args s 0 0 A) (F0 m 227 ls []) := by
  have hx := hC.1
  have hb := hC.2.1
  intro n
  induction n with
  | zero => intro a0 a1 a2 a5 a6 μ H locs ls hl hw hf; cases hf
  | succ n ih =>
    intro a0 a1 a2 a5 a6 μ H locs ls hl hw hf
    rw [f_X8_open_L227] at hf
    refine lv_iload hx hb dX8_open_227 (lv_at hl 4 rfl) ?_
    refine lv_iload_n hx hb dX8_open_229 rfl (lv_at hl 2 rfl) ?_
    refine lv_icmp_ge (tgt := 250) hx hb dX8_open_230 (by decide) (fun c101 => ?_) (fun c101 => ?_)
    · have hf := o_pos c101 hf
      exact w_X8_open_L250 hC hr hlocks _ _ _ _ _ _ ls (lv_sub hl [0, 1, 3] rfl) hw hf
    · have hf := o_neg c101 hf
      refine lv_aload_n hx hb dX8_open_233 rfl (lv_at hl 0 rfl) ?_
      refine lv_aload_n hx hb dX8_open_234 rfl (lv_at hl 0 rfl) ?_
      obtain ⟨q102, h103, hf⟩ := o_bind hf
      refine pw_get hC fl_X8_13 hw (rdR_F h103) dX8_open_235 ?_
      refine lv_iload hx hb dX8_open_238 (lv_at hl 4 rfl) ?_
      obtain ⟨v104, h105, hf⟩ := o_bind hf
      refine pw_bald hC hw h105 dX8_open_240 ?_
      obtain ⟨h107, hf⟩ := o_ite hf
      obtain ⟨μ108, h106, hf⟩ := o_bind hf
      refine pw_goV hw (pw_runV (As := [.int v104]) (rest := []) hC mm_X8_adds tw_1503 (c_X8_adds h106 _) ⟨rfl, rfl, by decide, by decide⟩ hw h107 rfl hl.1 (Nat.le_of_ble_eq_true rfl) ⟨Nat.zero_le _, Nat.zero_le _⟩ rfl dX8_open_241) (fun H locs hw => ?_)
      refine lv_iinc (v := (a6 + 1)) (lv' := [(6, .int (a6 + 1)), (0, .ref a0), (1, .int a1), (2, .int a2), (5, .int a5)]) hx hb dX8_open_244 hl (k := 4) rfl (by first | rfl | decide +kernel) (by decide) rfl (fun ls hl => ?_)
      refine lv_goto (tgt := 227) hx hb dX8_open_247 (by decide) ?_
      exact ih _ _ _ _ _ _ _ _ ls (lv_sub hl [1, 2, 3, 4, 0] rfl) hw hf
def f_X8_open_L204 (cy : Nat → ClassId) : Nat → Nat → Int32 → Int32 → Int32 → Int32 → Mem → Option (Int32 × Mem)
  | 0, _, _, _, _, _, _ => none
  | n + 1, a0, a1, a2, a5, a6, μ => if 4 ≤ a6 then ((rdI μ a0 7 42).bind fun v102 => f_X8_open_L227 cy FU a0 a1 a2 a5 v102 μ) else if isO μ a0 7 = true then ((f_X8_adds cy a0 0 μ).bind fun μ106 => f_X8_open_L204 cy n a0 a1 a2 a5 (a6 + 1) μ106) else none
set_option maxRecDepth 100000 in
set_option maxHeartbeats 4000000 in
theorem w_X8_open_L204 {p : Program} {l : Launch} {e : Env} {s : State} {m : MethodId} {args : Array Value} {below : List Frame} {meth : Method} {c : Code} {A : Nat → Prop} {g : Wg} {L : List Nat} {r : Int32} {μ' : Mem} (hC : CX p m c cX8_open 7 s args RX8) (hr : meth.sig.returnType = (some .int)) (hlocks : meth.locks = false) : ∀ (n : Nat), ∀ (a0 : Nat) (a1 : Int32) (a2 : Int32) (a5 : Int32) (a6 : Int32) (μ : Mem) (H : Heap) (locs : List Loc) (ls : Array Slot), lv_has ls 7 [(0, .ref a0), (1, .int a1), (2, .int a2), (5, .int a5), (6, .int a6)] → PW g L μ A s H locs → f_X8_open_L204 g.2 n a0 a1 a2 a5 a6 μ = some (r, μ') → W p l e rm_X8_open s m args below meth c H locs 0 0 (MQ below (QI g L A r μ') args s 0 0 A) (F0 m 204 ls []) := by
  have hx := hC.1
  have hb := hC.2.1
  intro n
  induction n with
  | zero => intro a0 a1 a2 a5 a6 μ H locs ls hl hw hf; cases hf
  | succ n ih =>
    intro a0 a1 a2 a5 a6 μ H locs ls hl hw hf
    rw [f_X8_open_L204] at hf
    refine lv_iload hx hb dX8_open_204 (lv_at hl 4 rfl) ?_
    refine lv_iconst (v := 4) hx hb dX8_open_206 nc_iconst_4 ?_
    refine lv_icmp_ge (tgt := 221) hx hb dX8_open_207 (by decide) (fun c101 => ?_) (fun c101 => ?_)
    · have hf := o_pos c101 hf
      refine lv_aload_n hx hb dX8_open_221 rfl (lv_at hl 0 rfl) ?_
      obtain ⟨v102, h103, hf⟩ := o_bind hf
      refine pw_get hC fl_X8_339 hw (rdI_F h103) dX8_open_222 ?_
      refine lv_istore (lv' := [(6, .int v102), (0, .ref a0), (1, .int a1), (2, .int a2), (5, .int a5)]) hx hb dX8_open_225 hl (by decide) rfl (fun ls hl => ?_)
      exact w_X8_open_L227 hC hr hlocks FU _ _ _ _ _ _ _ _ ls (lv_sub hl [1, 2, 3, 4, 0] rfl) hw hf
    · have hf := o_neg c101 hf
      refine lv_aload_n hx hb dX8_open_210 rfl (lv_at hl 0 rfl) ?_
      refine lv_iconst (v := 0) hx hb dX8_open_211 nc_iconst_0 ?_
      obtain ⟨h105, hf⟩ := o_ite hf
      obtain ⟨μ106, h104, hf⟩ := o_bind hf
      refine pw_goV hw (pw_runV (As := [.int 0]) (rest := []) hC mm_X8_adds tw_1503 (c_X8_adds h104 _) ⟨rfl, rfl, by decide, by decide⟩ hw h105 rfl hl.1 (Nat.le_of_ble_eq_true rfl) ⟨Nat.zero_le _, Nat.zero_le _⟩ rfl dX8_open_212) (fun H locs hw => ?_)
      refine lv_iinc (v := (a6 + 1)) (lv' := [(6, .int (a6 + 1)), (0, .ref a0), (1, .int a1), (2, .int a2), (5, .int a5)]) hx hb dX8_open_215 hl (k := 4) rfl (by first | rfl | decide +kernel) (by decide) rfl (fun ls hl => ?_)
      refine lv_goto (tgt := 204) hx hb dX8_open_218 (by decide) ?_
      exact ih _ _ _ _ _ _ _ _ ls (lv_sub hl [1, 2, 3, 4, 0] rfl) hw hf
def f_X8_open_L193 (cy : Nat → ClassId) (a0 : Nat) (a1 : Int32) (a2 : Int32) (t0 : Int32) (μ : Mem) : Option (Int32 × Mem) :=
  if a1 = 15 then (f_X8_open_L204 cy FU a0 a1 a2 t0 0 μ) else f_X8_open_L250 cy a0 a1 t0 μ
set_option maxRecDepth 100000 in
set_option maxHeartbeats 4000000 in
theorem w_X8_open_L193 {p : Program} {l : Launch} {e : Env} {s : State} {m : MethodId} {args : Array Value} {below : List Frame} {meth : Method} {c : Code} {A : Nat → Prop} {g : Wg} {L : List Nat} {r : Int32} {μ' : Mem} (hC : CX p m c cX8_open 7 s args RX8) (hr : meth.sig.returnType = (some .int)) (hlocks : meth.locks = false) : ∀ (a0 : Nat) (a1 : Int32) (a2 : Int32) (t0 : Int32) (μ : Mem) (H : Heap) (locs : List Loc) (ls : Array Slot), lv_has ls 7 [(0, .ref a0), (1, .int a1), (2, .int a2)] → PW g L μ A s H locs → f_X8_open_L193 g.2 a0 a1 a2 t0 μ = some (r, μ') → W p l e rm_X8_open s m args below meth c H locs 0 0 (MQ below (QI g L A r μ') args s 0 0 A) (F0 m 193 ls [.int t0]) := by
  have hx := hC.1
  have hb := hC.2.1
  intro a0 a1 a2 t0 μ H locs ls hl hw hf
  unfold f_X8_open_L193 at hf
  refine lv_istore (lv' := [(5, .int t0), (0, .ref a0), (1, .int a1), (2, .int a2)]) hx hb dX8_open_193 hl (by decide) rfl (fun ls hl => ?_)
  refine lv_iload_n hx hb dX8_open_195 rfl (lv_at hl 2 rfl) ?_
  refine lv_bipush (v := 15) hx hb dX8_open_196 nc_bipush_15 ?_
  refine lv_icmp_ne (tgt := 250) hx hb dX8_open_198 (by decide) (fun c101 => ?_) (fun c101 => ?_)
  · have hf := o_neg c101 hf
    exact w_X8_open_L250 hC hr hlocks _ _ _ _ _ _ ls (lv_sub hl [1, 2, 0] rfl) hw hf
  · have hf := o_pos c101 hf
    refine lv_iconst (v := 0) hx hb dX8_open_201 nc_iconst_0 ?_
    refine lv_istore (lv' := [(6, .int 0), (5, .int t0), (0, .ref a0), (1, .int a1), (2, .int a2)]) hx hb dX8_open_202 hl (by decide) rfl (fun ls hl => ?_)
    exact w_X8_open_L204 hC hr hlocks FU _ _ _ _ _ _ _ _ ls (lv_sub hl [2, 3, 4, 1, 0] rfl) hw hf
def f_X8_open_L165 (cy : Nat → ClassId) (a0 : Nat) (a1 : Int32) (a2 : Int32) (t0 : Nat) (t1 : Int32) (μ : Mem) : Option (Int32 × Mem) :=
  if isO μ t0 7 = true then (ob2 (f_X8_throwsIf cy t0 t1 3 μ) fun r104 μ103 => if r104 = 0 then (if isO μ103 a0 7 = true then ((f_X8_heads cy a0 a1 μ103).bind fun μ108 => if a1 = 15 then ((rdI μ108 a0 7 11).bind fun v110 => f_X8_open_L193 cy a0 a1 a2 v110 μ108) else f_X8_open_L193 cy a0 a1 a2 (-1) μ108) else none) else some (0, μ103)) else none
set_option maxRecDepth 100000 in
set_option maxHeartbeats 4000000 in
theorem w_X8_open_L165 {p : Program} {l : Launch} {e : Env} {s : State} {m : MethodId} {args : Array Value} {below : List Frame} {meth : Method} {c : Code} {A : Nat → Prop} {g : Wg} {L : List Nat} {r : Int32} {μ' : Mem} (hC : CX p m c cX8_open 7 s args RX8) (hr : meth.sig.returnType = (some .int)) (hlocks : meth.locks = false) : ∀ (a0 : Nat) (a1 : Int32) (a2 : Int32) (t0 : Nat) (t1 : Int32) (μ : Mem) (H : Heap) (locs : List Loc) (ls : Array Slot), lv_has ls 7 [(0, .ref a0), (1, .int a1), (2, .int a2)] → PW g L μ A s H locs → f_X8_open_L165 g.2 a0 a1 a2 t0 t1 μ = some (r, μ') → W p l e rm_X8_open s m args below meth c H locs 0 0 (MQ below (QI g L A r μ') args s 0 0 A) (F0 m 165 ls [.int t1, .ref t0]) := by
  have hx := hC.1
  have hb := hC.2.1
  intro a0 a1 a2 t0 t1 μ H locs ls hl hw hf
  unfold f_X8_open_L165 at hf
  refine lv_iconst (v := 3) hx hb dX8_open_165 nc_iconst_3 ?_
  obtain ⟨h102, hf⟩ := o_ite hf
  obtain ⟨r104, μ103, h101, hf⟩ := o_bind2 hf
  refine pw_goI hw (pw_runV (As := [.int t1, .int 3]) (rest := []) hC mm_X8_throwsIf tw_1317 (c_X8_throwsIf h101 _) ⟨rfl, rfl, by decide, by decide⟩ hw h102 rfl hl.1 (Nat.le_of_ble_eq_true rfl) ⟨Nat.zero_le _, Nat.zero_le _⟩ rfl dX8_open_166) (fun H locs hw => ?_)
  refine lv_if_eq (tgt := 174) hx hb dX8_open_169 (by decide) (fun c105 => ?_) (fun c105 => ?_)
  · have hf := o_pos c105 hf
    refine lv_aload_n hx hb dX8_open_174 rfl (lv_at hl 0 rfl) ?_
    refine lv_iload_n hx hb dX8_open_175 rfl (lv_at hl 1 rfl) ?_
    obtain ⟨h107, hf⟩ := o_ite hf
    obtain ⟨μ108, h106, hf⟩ := o_bind hf
    refine pw_goV hw (pw_runV (As := [.int a1]) (rest := []) hC mm_X8_heads tw_1515 (c_X8_heads h106 _) ⟨rfl, rfl, by decide, by decide⟩ hw h107 rfl hl.1 (Nat.le_of_ble_eq_true rfl) ⟨Nat.zero_le _, Nat.zero_le _⟩ rfl dX8_open_176) (fun H locs hw => ?_)
    refine lv_iload_n hx hb dX8_open_179 rfl (lv_at hl 1 rfl) ?_
    refine lv_bipush (v := 15) hx hb dX8_open_180 nc_bipush_15 ?_
    refine lv_icmp_ne (tgt := 192) hx hb dX8_open_182 (by decide) (fun c109 => ?_) (fun c109 => ?_)
    · have hf := o_neg c109 hf
      refine lv_iconst (v := (-1)) hx hb dX8_open_192 nc_iconst_m1 ?_
      exact w_X8_open_L193 hC hr hlocks _ _ _ _ _ _ _ ls (lv_sub hl [0, 1, 2] rfl) hw hf
    · have hf := o_pos c109 hf
      refine lv_aload_n hx hb dX8_open_185 rfl (lv_at hl 0 rfl) ?_
      obtain ⟨v110, h111, hf⟩ := o_bind hf
      refine pw_get hC fl_X8_351 hw (rdI_F h111) dX8_open_186 ?_
      refine lv_goto (tgt := 193) hx hb dX8_open_189 (by decide) ?_
      exact w_X8_open_L193 hC hr hlocks _ _ _ _ _ _ _ ls (lv_sub hl [0, 1, 2] rfl) hw hf
  · have hf := o_neg c105 hf
    refine lv_iconst (v := 0) hx hb dX8_open_172 nc_iconst_0 ?_
    obtain ⟨rfl, rfl⟩ := o_ret hf
    exact pw_iret hC hr hlocks hw dX8_open_173
def f_X8_open_L134 (cy : Nat → ClassId) (a0 : Nat) (a1 : Int32) (a2 : Int32) (t0 : Int32) (t1 : Int32) (μ : Mem) : Option (Int32 × Mem) :=
  (rdI μ a0 7 11).bind fun v101 => (rdI μ a0 7 13).bind fun v103 => if (((v101 + ((t0 + t1) + 4)) + v103) + 1) ≤ 2400 then (f_X8_open_L165 cy a0 a1 a2 a0 0 μ) else f_X8_open_L165 cy a0 a1 a2 a0 1 μ
set_option maxRecDepth 100000 in
set_option maxHeartbeats 4000000 in
theorem w_X8_open_L134 {p : Program} {l : Launch} {e : Env} {s : State} {m : MethodId} {args : Array Value} {below : List Frame} {meth : Method} {c : Code} {A : Nat → Prop} {g : Wg} {L : List Nat} {r : Int32} {μ' : Mem} (hC : CX p m c cX8_open 7 s args RX8) (hr : meth.sig.returnType = (some .int)) (hlocks : meth.locks = false) : ∀ (a0 : Nat) (a1 : Int32) (a2 : Int32) (t0 : Int32) (t1 : Int32) (μ : Mem) (H : Heap) (locs : List Loc) (ls : Array Slot), lv_has ls 7 [(0, .ref a0), (1, .int a1), (2, .int a2)] → PW g L μ A s H locs → f_X8_open_L134 g.2 a0 a1 a2 t0 t1 μ = some (r, μ') → W p l e rm_X8_open s m args below meth c H locs 0 0 (MQ below (QI g L A r μ') args s 0 0 A) (F0 m 134 ls [.int t1, .int t0]) := by
  have hx := hC.1
  have hb := hC.2.1
  intro a0 a1 a2 t0 t1 μ H locs ls hl hw hf
  unfold f_X8_open_L134 at hf
  refine lv_iadd hx hb dX8_open_134 ?_
  refine lv_iconst (v := 4) hx hb dX8_open_135 nc_iconst_4 ?_
  refine lv_iadd hx hb dX8_open_136 ?_
  refine lv_istore (lv' := [(4, .int ((t0 + t1) + 4)), (0, .ref a0), (1, .int a1), (2, .int a2)]) hx hb dX8_open_137 hl (by decide) rfl (fun ls hl => ?_)
  refine lv_aload_n hx hb dX8_open_139 rfl (lv_at hl 1 rfl) ?_
  refine lv_aload_n hx hb dX8_open_140 rfl (lv_at hl 1 rfl) ?_
  obtain ⟨v101, h102, hf⟩ := o_bind hf
  refine pw_get hC fl_X8_351 hw (rdI_F h102) dX8_open_141 ?_
  refine lv_iload hx hb dX8_open_144 (lv_at hl 0 rfl) ?_
  refine lv_iadd hx hb dX8_open_146 ?_
  refine lv_aload_n hx hb dX8_open_147 rfl (lv_at hl 1 rfl) ?_
  obtain ⟨v103, h104, hf⟩ := o_bind hf
  refine pw_get hC fl_X8_354 hw (rdI_F h104) dX8_open_148 ?_
  refine lv_iadd hx hb dX8_open_151 ?_
  refine lv_iconst (v := 1) hx hb dX8_open_152 nc_iconst_1 ?_
  refine lv_iadd hx hb dX8_open_153 ?_
  refine lv_sipush (v := 2400) hx hb dX8_open_154 nc_sipush_2400 ?_
  refine lv_icmp_le (tgt := 164) hx hb dX8_open_157 (by decide) (fun c105 => ?_) (fun c105 => ?_)
  · have hf := o_pos c105 hf
    refine lv_iconst (v := 0) hx hb dX8_open_164 nc_iconst_0 ?_
    exact w_X8_open_L165 hC hr hlocks _ _ _ _ _ _ _ _ ls (lv_sub hl [1, 2, 3] rfl) hw hf
  · have hf := o_neg c105 hf
    refine lv_iconst (v := 1) hx hb dX8_open_160 nc_iconst_1 ?_
    refine lv_goto (tgt := 165) hx hb dX8_open_161 (by decide) ?_
    exact w_X8_open_L165 hC hr hlocks _ _ _ _ _ _ _ _ ls (lv_sub hl [1, 2, 3] rfl) hw hf
def f_X8_open_L103 (cy : Nat → ClassId) (a0 : Nat) (a1 : Int32) (a2 : Int32) (t0 : Nat) (t1 : Int32) (μ : Mem) : Option (Int32 × Mem) :=
  if isO μ t0 7 = true then (ob2 (f_X8_throwsIf cy t0 t1 2 μ) fun r104 μ103 => if r104 = 0 then (if isO μ103 a0 7 = true then (ob2 (f_X8_headSize cy a0 μ103) fun r109 μ108 => if a1 = 15 then ((rdI μ108 a0 7 42).bind fun v111 => f_X8_open_L134 cy a0 a1 a2 r109 ((4 + a2) - v111) μ108) else f_X8_open_L134 cy a0 a1 a2 r109 0 μ108) else none) else some (0, μ103)) else none
set_option maxRecDepth 100000 in
set_option maxHeartbeats 4000000 in
theorem w_X8_open_L103 {p : Program} {l : Launch} {e : Env} {s : State} {m : MethodId} {args : Array Value} {below : List Frame} {meth : Method} {c : Code} {A : Nat → Prop} {g : Wg} {L : List Nat} {r : Int32} {μ' : Mem} (hC : CX p m c cX8_open 7 s args RX8) (hr : meth.sig.returnType = (some .int)) (hlocks : meth.locks = false) : ∀ (a0 : Nat) (a1 : Int32) (a2 : Int32) (t0 : Nat) (t1 : Int32) (μ : Mem) (H : Heap) (locs : List Loc) (ls : Array Slot), lv_has ls 7 [(0, .ref a0), (1, .int a1), (2, .int a2)] → PW g L μ A s H locs → f_X8_open_L103 g.2 a0 a1 a2 t0 t1 μ = some (r, μ') → W p l e rm_X8_open s m args below meth c H locs 0 0 (MQ below (QI g L A r μ') args s 0 0 A) (F0 m 103 ls [.int t1, .ref t0]) := by
  have hx := hC.1
  have hb := hC.2.1
  intro a0 a1 a2 t0 t1 μ H locs ls hl hw hf
  unfold f_X8_open_L103 at hf
  refine lv_iconst (v := 2) hx hb dX8_open_103 nc_iconst_2 ?_
  obtain ⟨h102, hf⟩ := o_ite hf
  obtain ⟨r104, μ103, h101, hf⟩ := o_bind2 hf
  refine pw_goI hw (pw_runV (As := [.int t1, .int 2]) (rest := []) hC mm_X8_throwsIf tw_1317 (c_X8_throwsIf h101 _) ⟨rfl, rfl, by decide, by decide⟩ hw h102 rfl hl.1 (Nat.le_of_ble_eq_true rfl) ⟨Nat.zero_le _, Nat.zero_le _⟩ rfl dX8_open_104) (fun H locs hw => ?_)
  refine lv_if_eq (tgt := 112) hx hb dX8_open_107 (by decide) (fun c105 => ?_) (fun c105 => ?_)
  · have hf := o_pos c105 hf
    refine lv_aload_n hx hb dX8_open_112 rfl (lv_at hl 0 rfl) ?_
    obtain ⟨h107, hf⟩ := o_ite hf
    obtain ⟨r109, μ108, h106, hf⟩ := o_bind2 hf
    refine pw_goI hw (pw_runV (As := []) (rest := []) hC mm_X8_headSize tw_1511 (c_X8_headSize h106 _) ⟨rfl, rfl, by decide, by decide⟩ hw h107 rfl hl.1 (Nat.le_of_ble_eq_true rfl) ⟨Nat.zero_le _, Nat.zero_le _⟩ rfl dX8_open_113) (fun H locs hw => ?_)
    refine lv_iload_n hx hb dX8_open_116 rfl (lv_at hl 1 rfl) ?_
    refine lv_bipush (v := 15) hx hb dX8_open_117 nc_bipush_15 ?_
    refine lv_icmp_ne (tgt := 133) hx hb dX8_open_119 (by decide) (fun c110 => ?_) (fun c110 => ?_)
    · have hf := o_neg c110 hf
      refine lv_iconst (v := 0) hx hb dX8_open_133 nc_iconst_0 ?_
      exact w_X8_open_L134 hC hr hlocks _ _ _ _ _ _ _ _ ls (lv_sub hl [0, 1, 2] rfl) hw hf
    · have hf := o_pos c110 hf
      refine lv_iconst (v := 4) hx hb dX8_open_122 nc_iconst_4 ?_
      refine lv_iload_n hx hb dX8_open_123 rfl (lv_at hl 2 rfl) ?_
      refine lv_iadd hx hb dX8_open_124 ?_
      refine lv_aload_n hx hb dX8_open_125 rfl (lv_at hl 0 rfl) ?_
      obtain ⟨v111, h112, hf⟩ := o_bind hf
      refine pw_get hC fl_X8_339 hw (rdI_F h112) dX8_open_126 ?_
      refine lv_isub hx hb dX8_open_129 ?_
      refine lv_goto (tgt := 134) hx hb dX8_open_130 (by decide) ?_
      exact w_X8_open_L134 hC hr hlocks _ _ _ _ _ _ _ _ ls (lv_sub hl [0, 1, 2] rfl) hw hf
  · have hf := o_neg c105 hf
    refine lv_iconst (v := 0) hx hb dX8_open_110 nc_iconst_0 ?_
    obtain ⟨rfl, rfl⟩ := o_ret hf
    exact pw_iret hC hr hlocks hw dX8_open_111
def f_X8_open_L93 (cy : Nat → ClassId) (a0 : Nat) (a1 : Int32) (a2 : Int32) (a3 : Int32) (μ : Mem) : Option (Int32 × Mem) :=
  if a3 = 0 then (f_X8_open_L103 cy a0 a1 a2 a0 1 μ) else f_X8_open_L103 cy a0 a1 a2 a0 0 μ
set_option maxRecDepth 100000 in
set_option maxHeartbeats 4000000 in
theorem w_X8_open_L93 {p : Program} {l : Launch} {e : Env} {s : State} {m : MethodId} {args : Array Value} {below : List Frame} {meth : Method} {c : Code} {A : Nat → Prop} {g : Wg} {L : List Nat} {r : Int32} {μ' : Mem} (hC : CX p m c cX8_open 7 s args RX8) (hr : meth.sig.returnType = (some .int)) (hlocks : meth.locks = false) : ∀ (a0 : Nat) (a1 : Int32) (a2 : Int32) (a3 : Int32) (μ : Mem) (H : Heap) (locs : List Loc) (ls : Array Slot), lv_has ls 7 [(0, .ref a0), (1, .int a1), (2, .int a2), (3, .int a3)] → PW g L μ A s H locs → f_X8_open_L93 g.2 a0 a1 a2 a3 μ = some (r, μ') → W p l e rm_X8_open s m args below meth c H locs 0 0 (MQ below (QI g L A r μ') args s 0 0 A) (F0 m 93 ls []) := by
  have hx := hC.1
  have hb := hC.2.1
  intro a0 a1 a2 a3 μ H locs ls hl hw hf
  unfold f_X8_open_L93 at hf
  refine lv_aload_n hx hb dX8_open_93 rfl (lv_at hl 0 rfl) ?_
  refine lv_iload_n hx hb dX8_open_94 rfl (lv_at hl 3 rfl) ?_
  refine lv_if_ne (tgt := 102) hx hb dX8_open_95 (by decide) (fun c101 => ?_) (fun c101 => ?_)
  · have hf := o_neg c101 hf
    refine lv_iconst (v := 0) hx hb dX8_open_102 nc_iconst_0 ?_
    exact w_X8_open_L103 hC hr hlocks _ _ _ _ _ _ _ _ ls (lv_sub hl [0, 1, 2] rfl) hw hf
  · have hf := o_pos c101 hf
    refine lv_iconst (v := 1) hx hb dX8_open_98 nc_iconst_1 ?_
    refine lv_goto (tgt := 103) hx hb dX8_open_99 (by decide) ?_
    exact w_X8_open_L103 hC hr hlocks _ _ _ _ _ _ _ _ ls (lv_sub hl [0, 1, 2] rfl) hw hf
def f_X8_open_L92 (cy : Nat → ClassId) (a0 : Nat) (a1 : Int32) (a2 : Int32) (t0 : Int32) (μ : Mem) : Option (Int32 × Mem) :=
  f_X8_open_L93 cy a0 a1 a2 t0 μ
set_option maxRecDepth 100000 in
set_option maxHeartbeats 4000000 in
theorem w_X8_open_L92 {p : Program} {l : Launch} {e : Env} {s : State} {m : MethodId} {args : Array Value} {below : List Frame} {meth : Method} {c : Code} {A : Nat → Prop} {g : Wg} {L : List Nat} {r : Int32} {μ' : Mem} (hC : CX p m c cX8_open 7 s args RX8) (hr : meth.sig.returnType = (some .int)) (hlocks : meth.locks = false) : ∀ (a0 : Nat) (a1 : Int32) (a2 : Int32) (t0 : Int32) (μ : Mem) (H : Heap) (locs : List Loc) (ls : Array Slot), lv_has ls 7 [(0, .ref a0), (1, .int a1), (2, .int a2)] → PW g L μ A s H locs → f_X8_open_L92 g.2 a0 a1 a2 t0 μ = some (r, μ') → W p l e rm_X8_open s m args below meth c H locs 0 0 (MQ below (QI g L A r μ') args s 0 0 A) (F0 m 92 ls [.int t0]) := by
  have hx := hC.1
  have hb := hC.2.1
  intro a0 a1 a2 t0 μ H locs ls hl hw hf
  unfold f_X8_open_L92 at hf
  refine lv_istore_n (lv' := [(3, .int t0), (0, .ref a0), (1, .int a1), (2, .int a2)]) hx hb dX8_open_92 rfl hl (by decide) rfl (fun ls hl => ?_)
  exact w_X8_open_L93 hC hr hlocks _ _ _ _ _ _ _ ls (lv_sub hl [1, 2, 3, 0] rfl) hw hf
def f_X8_open_L35 (cy : Nat → ClassId) (a0 : Nat) (a1 : Int32) (a2 : Int32) (t0 : Nat) (t1 : Int32) (μ : Mem) : Option (Int32 × Mem) :=
  if isO μ t0 7 = true then (ob2 (f_X8_throwsIf cy t0 t1 1 μ) fun r104 μ103 => if r104 = 0 then (if isO μ103 a0 7 = true then ((f_X8_judges cy a0 μ103).bind fun μ108 => (wrF μ108 a0 7 2 (.int a2)).bind fun μ109 => if isO μ109 a0 7 = true then (ob2 (f_X8_isOpening cy a0 a1 μ109) fun r114 μ113 => (wrF μ113 a0 7 2 (.int 0)).bind fun μ115 => if r114 = 0 then (f_X8_open_L93 cy a0 a1 a2 r114 μ115) else (rdI μ115 a0 7 13).bind fun v118 => if v118 = 24 then (if isO μ115 a0 7 = true then (ob2 (f_X8_wrong cy a0 8 a2 μ115) fun r124 μ123 => if r124 < 0 then (f_X8_open_L92 cy a0 a1 a2 0 μ123) else f_X8_open_L92 cy a0 a1 a2 1 μ123) else none) else f_X8_open_L93 cy a0 a1 a2 r114 μ115) else none) else none) else some (0, μ103)) else none
set_option maxRecDepth 100000 in
set_option maxHeartbeats 4000000 in
theorem w_X8_open_L35 {p : Program} {l : Launch} {e : Env} {s : State} {m : MethodId} {args : Array Value} {below : List Frame} {meth : Method} {c : Code} {A : Nat → Prop} {g : Wg} {L : List Nat} {r : Int32} {μ' : Mem} (hC : CX p m c cX8_open 7 s args RX8) (hr : meth.sig.returnType = (some .int)) (hlocks : meth.locks = false) : ∀ (a0 : Nat) (a1 : Int32) (a2 : Int32) (t0 : Nat) (t1 : Int32) (μ : Mem) (H : Heap) (locs : List Loc) (ls : Array Slot), lv_has ls 7 [(0, .ref a0), (1, .int a1), (2, .int a2)] → PW g L μ A s H locs → f_X8_open_L35 g.2 a0 a1 a2 t0 t1 μ = some (r, μ') → W p l e rm_X8_open s m args below meth c H locs 0 0 (MQ below (QI g L A r μ') args s 0 0 A) (F0 m 35 ls [.int t1, .ref t0]) := by
  have hx := hC.1
  have hb := hC.2.1
  intro a0 a1 a2 t0 t1 μ H locs ls hl hw hf
  unfold f_X8_open_L35 at hf
  refine lv_iconst (v := 1) hx hb dX8_open_35 nc_iconst_1 ?_
  obtain ⟨h102, hf⟩ := o_ite hf
  obtain ⟨r104, μ103, h101, hf⟩ := o_bind2 hf
  refine pw_goI hw (pw_runV (As := [.int t1, .int 1]) (rest := []) hC mm_X8_throwsIf tw_1317 (c_X8_throwsIf h101 _) ⟨rfl, rfl, by decide, by decide⟩ hw h102 rfl hl.1 (Nat.le_of_ble_eq_true rfl) ⟨Nat.zero_le _, Nat.zero_le _⟩ rfl dX8_open_36) (fun H locs hw => ?_)
  refine lv_if_eq (tgt := 44) hx hb dX8_open_39 (by decide) (fun c105 => ?_) (fun c105 => ?_)
  · have hf := o_pos c105 hf
    refine lv_aload_n hx hb dX8_open_44 rfl (lv_at hl 0 rfl) ?_
    obtain ⟨h107, hf⟩ := o_ite hf
    obtain ⟨μ108, h106, hf⟩ := o_bind hf
    refine pw_goV hw (pw_runV (As := []) (rest := []) hC mm_X8_judges tw_1229 (c_X8_judges h106 _) ⟨rfl, rfl, by decide, by decide⟩ hw h107 rfl hl.1 (Nat.le_of_ble_eq_true rfl) ⟨Nat.zero_le _, Nat.zero_le _⟩ rfl dX8_open_45) (fun H locs hw => ?_)
    refine lv_aload_n hx hb dX8_open_48 rfl (lv_at hl 0 rfl) ?_
    refine lv_iload_n hx hb dX8_open_49 rfl (lv_at hl 2 rfl) ?_
    obtain ⟨μ109, h110, hf⟩ := o_bind hf
    refine pw_put hC fl_X8_103 hw h110 .int fd_X8_2 rfl rfl dX8_open_50 (fun H locs hw => ?_)
    refine lv_aload_n hx hb dX8_open_53 rfl (lv_at hl 0 rfl) ?_
    refine lv_iload_n hx hb dX8_open_54 rfl (lv_at hl 1 rfl) ?_
    obtain ⟨h112, hf⟩ := o_ite hf
    obtain ⟨r114, μ113, h111, hf⟩ := o_bind2 hf
    refine pw_goI hw (pw_runV (As := [.int a1]) (rest := []) hC mm_X8_isOpening tw_1523 (c_X8_isOpening h111 _) ⟨rfl, rfl, by decide, by decide⟩ hw h112 rfl hl.1 (Nat.le_of_ble_eq_true rfl) ⟨Nat.zero_le _, Nat.zero_le _⟩ rfl dX8_open_55) (fun H locs hw => ?_)
    refine lv_istore_n (lv' := [(3, .int r114), (0, .ref a0), (1, .int a1), (2, .int a2)]) hx hb dX8_open_58 rfl hl (by decide) rfl (fun ls hl => ?_)
    refine lv_aload_n hx hb dX8_open_59 rfl (lv_at hl 1 rfl) ?_
    refine lv_iconst (v := 0) hx hb dX8_open_60 nc_iconst_0 ?_
    obtain ⟨μ115, h116, hf⟩ := o_bind hf
    refine pw_put hC fl_X8_103 hw h116 .int fd_X8_2 rfl rfl dX8_open_61 (fun H locs hw => ?_)
    refine lv_iload_n hx hb dX8_open_64 rfl (lv_at hl 0 rfl) ?_
    refine lv_if_eq (tgt := 93) hx hb dX8_open_65 (by decide) (fun c117 => ?_) (fun c117 => ?_)
    · have hf := o_pos c117 hf
      exact w_X8_open_L93 hC hr hlocks _ _ _ _ _ _ _ ls (lv_sub hl [1, 2, 3, 0] rfl) hw hf
    · have hf := o_neg c117 hf
      refine lv_aload_n hx hb dX8_open_68 rfl (lv_at hl 1 rfl) ?_
      obtain ⟨v118, h119, hf⟩ := o_bind hf
      refine pw_get hC fl_X8_354 hw (rdI_F h119) dX8_open_69 ?_
      refine lv_bipush (v := 24) hx hb dX8_open_72 nc_bipush_24 ?_
      refine lv_icmp_ne (tgt := 93) hx hb dX8_open_74 (by decide) (fun c120 => ?_) (fun c120 => ?_)
      · have hf := o_neg c120 hf
        exact w_X8_open_L93 hC hr hlocks _ _ _ _ _ _ _ ls (lv_sub hl [1, 2, 3, 0] rfl) hw hf
      · have hf := o_pos c120 hf
        refine lv_aload_n hx hb dX8_open_77 rfl (lv_at hl 1 rfl) ?_
        refine lv_bipush (v := 8) hx hb dX8_open_78 nc_bipush_8 ?_
        refine lv_iload_n hx hb dX8_open_80 rfl (lv_at hl 3 rfl) ?_
        obtain ⟨h122, hf⟩ := o_ite hf
        obtain ⟨r124, μ123, h121, hf⟩ := o_bind2 hf
        refine pw_goI hw (pw_runV (As := [.int 8, .int a2]) (rest := []) hC mm_X8_wrong tw_1237 (c_X8_wrong h121 _) ⟨rfl, rfl, by decide, by decide⟩ hw h122 rfl hl.1 (Nat.le_of_ble_eq_true rfl) ⟨Nat.zero_le _, Nat.zero_le _⟩ rfl dX8_open_81) (fun H locs hw => ?_)
        refine lv_if_lt (tgt := 91) hx hb dX8_open_84 (by decide) (fun c125 => ?_) (fun c125 => ?_)
        · have hf := o_pos c125 hf
          refine lv_iconst (v := 0) hx hb dX8_open_91 nc_iconst_0 ?_
          exact w_X8_open_L92 hC hr hlocks _ _ _ _ _ _ _ ls (lv_sub hl [1, 2, 3] rfl) hw hf
        · have hf := o_neg c125 hf
          refine lv_iconst (v := 1) hx hb dX8_open_87 nc_iconst_1 ?_
          refine lv_goto (tgt := 92) hx hb dX8_open_88 (by decide) ?_
          exact w_X8_open_L92 hC hr hlocks _ _ _ _ _ _ _ ls (lv_sub hl [1, 2, 3] rfl) hw hf
  · have hf := o_neg c105 hf
    refine lv_iconst (v := 0) hx hb dX8_open_42 nc_iconst_0 ?_
    obtain ⟨rfl, rfl⟩ := o_ret hf
    exact pw_iret hC hr hlocks hw dX8_open_43
def f_X8_open_L30 (cy : Nat → ClassId) (a0 : Nat) (a1 : Int32) (a2 : Int32) (t0 : Nat) (μ : Mem) : Option (Int32 × Mem) :=
  f_X8_open_L35 cy a0 a1 a2 t0 1 μ
set_option maxRecDepth 100000 in
set_option maxHeartbeats 4000000 in
theorem w_X8_open_L30 {p : Program} {l : Launch} {e : Env} {s : State} {m : MethodId} {args : Array Value} {below : List Frame} {meth : Method} {c : Code} {A : Nat → Prop} {g : Wg} {L : List Nat} {r : Int32} {μ' : Mem} (hC : CX p m c cX8_open 7 s args RX8) (hr : meth.sig.returnType = (some .int)) (hlocks : meth.locks = false) : ∀ (a0 : Nat) (a1 : Int32) (a2 : Int32) (t0 : Nat) (μ : Mem) (H : Heap) (locs : List Loc) (ls : Array Slot), lv_has ls 7 [(0, .ref a0), (1, .int a1), (2, .int a2)] → PW g L μ A s H locs → f_X8_open_L30 g.2 a0 a1 a2 t0 μ = some (r, μ') → W p l e rm_X8_open s m args below meth c H locs 0 0 (MQ below (QI g L A r μ') args s 0 0 A) (F0 m 30 ls [.ref t0]) := by
  have hx := hC.1
  have hb := hC.2.1
  intro a0 a1 a2 t0 μ H locs ls hl hw hf
  unfold f_X8_open_L30 at hf
  refine lv_iconst (v := 1) hx hb dX8_open_30 nc_iconst_1 ?_
  refine lv_goto (tgt := 35) hx hb dX8_open_31 (by decide) ?_
  exact w_X8_open_L35 hC hr hlocks _ _ _ _ _ _ _ _ ls (lv_sub hl [0, 1, 2] rfl) hw hf
def f_X8_open (cy : Nat → ClassId) (a0 : Nat) (a1 : Int32) (μ : Mem) : Option (Int32 × Mem) :=
  (wrF μ a0 7 0 (.int 0)).bind fun μ1 => (rdI μ1 a0 7 2).bind fun v3 => (wrF μ1 a0 7 2 (.int 0)).bind fun μ5 => (rdI μ5 a0 7 12).bind fun v7 => if v7 = 0 then (f_X8_open_L30 cy a0 a1 v3 a0 μ5) else (rdI μ5 a0 7 13).bind fun v10 => if v10 = 0 then (f_X8_open_L30 cy a0 a1 v3 a0 μ5) else f_X8_open_L35 cy a0 a1 v3 a0 0 μ5
set_option maxRecDepth 100000 in
set_option maxHeartbeats 4000000 in
theorem c_X8_open {l : Launch} {g : Wg} {L : List Nat} {μ : Mem} {a0 : Nat} {a1 : Int32} {r : Int32} {μ' : Mem} (hf : f_X8_open g.2 a0 a1 μ = some (r, μ')) : MetI l yX8_open cX8_open 7 (some .int) rm_X8_open g L μ [.ref a0, .int a1] r μ' := by
  refine pw_met (Qc := fun A => QI g L A r μ') (by decide) (Nat.le_of_ble_eq_true rfl) ?_
  intro p e s m args below meth c A ls H locs hC hr hlocks hl hw
  have hx := hC.1
  have hb := hC.2.1
  have hl : lv_has ls 7 [(0, .ref a0), (1, .int a1)] := hl
  unfold f_X8_open at hf
  refine lv_aload_n hx hb dX8_open_0 rfl (lv_at hl 0 rfl) ?_
  refine lv_iconst (v := 0) hx hb dX8_open_1 nc_iconst_0 ?_
  obtain ⟨μ1, h2, hf⟩ := o_bind hf
  refine pw_put hC fl_X8_1 hw h2 .int fd_X8_0 rfl rfl dX8_open_2 (fun H locs hw => ?_)
  refine lv_aload_n hx hb dX8_open_5 rfl (lv_at hl 0 rfl) ?_
  obtain ⟨v3, h4, hf⟩ := o_bind hf
  refine pw_get hC fl_X8_103 hw (rdI_F h4) dX8_open_6 ?_
  refine lv_istore_n (lv' := [(2, .int v3), (0, .ref a0), (1, .int a1)]) hx hb dX8_open_9 rfl hl (by decide) rfl (fun ls hl => ?_)
  refine lv_aload_n hx hb dX8_open_10 rfl (lv_at hl 1 rfl) ?_
  refine lv_iconst (v := 0) hx hb dX8_open_11 nc_iconst_0 ?_
  obtain ⟨μ5, h6, hf⟩ := o_bind hf
  refine pw_put hC fl_X8_103 hw h6 .int fd_X8_2 rfl rfl dX8_open_12 (fun H locs hw => ?_)
  refine lv_aload_n hx hb dX8_open_15 rfl (lv_at hl 1 rfl) ?_
  refine lv_aload_n hx hb dX8_open_16 rfl (lv_at hl 1 rfl) ?_
  obtain ⟨v7, h8, hf⟩ := o_bind hf
  refine pw_get hC fl_X8_348 hw (rdI_F h8) dX8_open_17 ?_
  refine lv_if_eq (tgt := 30) hx hb dX8_open_20 (by decide) (fun c9 => ?_) (fun c9 => ?_)
  · have hf := o_pos c9 hf
    exact w_X8_open_L30 hC hr hlocks _ _ _ _ _ _ _ ls (lv_sub hl [1, 2, 0] rfl) hw hf
  · have hf := o_neg c9 hf
    refine lv_aload_n hx hb dX8_open_23 rfl (lv_at hl 1 rfl) ?_
    obtain ⟨v10, h11, hf⟩ := o_bind hf
    refine pw_get hC fl_X8_354 hw (rdI_F h11) dX8_open_24 ?_
    refine lv_if_ne (tgt := 34) hx hb dX8_open_27 (by decide) (fun c12 => ?_) (fun c12 => ?_)
    · have hf := o_neg c12 hf
      refine lv_iconst (v := 0) hx hb dX8_open_34 nc_iconst_0 ?_
      exact w_X8_open_L35 hC hr hlocks _ _ _ _ _ _ _ _ ls (lv_sub hl [1, 2, 0] rfl) hw hf
    · have hf := o_pos c12 hf
      exact w_X8_open_L30 hC hr hlocks _ _ _ _ _ _ _ ls (lv_sub hl [1, 2, 0] rfl) hw hf
