theorem nc_sipush_1300 : (Int16.ofInt 1300).toInt32 = 1300 := by decide +kernel
theorem tw_1017 : (Jvm.Cond.fieldLinkNest "SpanShelvesModel" (250 : Nat) "SpanShelvesModel$Tree" "nodes" "I" "SpanShelvesModel") ∈ tw := tw_t 1017 (by decide +kernel) (by decide +kernel)
theorem tw_1037 : (Jvm.Cond.fieldLinkNest "SpanShelvesModel" (194 : Nat) "SpanShelvesModel$Tree" "many" "[I" "SpanShelvesModel") ∈ tw := tw_t 1037 (by decide +kernel) (by decide +kernel)
theorem tw_1039 : (Jvm.Cond.fieldLinkNest "SpanShelvesModel" (225 : Nat) "SpanShelvesModel$Tree" "depth" "[I" "SpanShelvesModel") ∈ tw := tw_t 1039 (by decide +kernel) (by decide +kernel)
theorem tw_1097 : (Jvm.Cond.fieldLink "SpanShelvesModel" (71 : Nat) "SpanShelvesModel" "other" "LSpanShelvesModel$Tree;") ∈ tw := tw_t 1097 (by decide +kernel) (by decide +kernel)
theorem tw_1099 : (Jvm.Cond.fieldLink "SpanShelvesModel" (241 : Nat) "SpanShelvesModel" "intsMany" "I") ∈ tw := tw_t 1099 (by decide +kernel) (by decide +kernel)
theorem tw_1100 : (Jvm.Cond.fieldLink "SpanShelvesModel" (244 : Nat) "SpanShelvesModel" "intsSum" "I") ∈ tw := tw_t 1100 (by decide +kernel) (by decide +kernel)
theorem tw_1313 : (Jvm.Cond.methodLink "SpanShelvesModel" (183 : Nat) ({ cls := "SpanShelvesModel", name := "noShelf", desc := "(I)Z" } : Jvm.MethodName)) ∈ tw := tw_t 1313 (by decide +kernel) (by decide +kernel)
theorem tw_1315 : (Jvm.Cond.instanceMethod ({ cls := "SpanShelvesModel", name := "noShelf", desc := "(I)Z" } : Jvm.MethodName)) ∈ tw := tw_t 1315 (by decide +kernel) (by decide +kernel)
theorem tw_1316 : (Jvm.Cond.code ({ cls := "SpanShelvesModel", name := "noShelf", desc := "(I)Z" } : Jvm.MethodName) prog_9_method_31_code (3 : Nat) (Option.some Jvm.ClassFile.FieldType.boolean)) ∈ tw := tw_t 1316 (by decide +kernel) (by decide +kernel)
theorem tw_1317 : (Jvm.Cond.methodLink "SpanShelvesModel" (186 : Nat) ({ cls := "SpanShelvesModel", name := "throwsIf", desc := "(ZI)Z" } : Jvm.MethodName)) ∈ tw := tw_t 1317 (by decide +kernel) (by decide +kernel)
theorem tw_1319 : (Jvm.Cond.instanceMethod ({ cls := "SpanShelvesModel", name := "throwsIf", desc := "(ZI)Z" } : Jvm.MethodName)) ∈ tw := tw_t 1319 (by decide +kernel) (by decide +kernel)
theorem tw_1320 : (Jvm.Cond.code ({ cls := "SpanShelvesModel", name := "throwsIf", desc := "(ZI)Z" } : Jvm.MethodName) prog_9_method_32_code (3 : Nat) (Option.some Jvm.ClassFile.FieldType.boolean)) ∈ tw := tw_t 1320 (by decide +kernel) (by decide +kernel)
theorem tw_1386 : (Jvm.Cond.methodLink "SpanShelvesModel" (237 : Nat) ({ cls := "SpanShelvesModel", name := "longAt", desc := "([BI)J" } : Jvm.MethodName)) ∈ tw := tw_t 1386 (by decide +kernel) (by decide +kernel)
theorem tw_1387 : (Jvm.Cond.static ({ cls := "SpanShelvesModel", name := "longAt", desc := "([BI)J" } : Jvm.MethodName)) ∈ tw := tw_t 1387 (by decide +kernel) (by decide +kernel)
theorem tw_1388 : (Jvm.Cond.code ({ cls := "SpanShelvesModel", name := "longAt", desc := "([BI)J" } : Jvm.MethodName) prog_9_method_6_code (2 : Nat) (Option.some Jvm.ClassFile.FieldType.long)) ∈ tw := tw_t 1388 (by decide +kernel) (by decide +kernel)
theorem tw_1414 : (Jvm.Cond.methodLink "SpanShelvesModel" (322 : Nat) ({ cls := "SpanShelvesModel", name := "changes", desc := "(I)I" } : Jvm.MethodName)) ∈ tw := tw_t 1414 (by decide +kernel) (by decide +kernel)
theorem tw_1416 : (Jvm.Cond.instanceMethod ({ cls := "SpanShelvesModel", name := "changes", desc := "(I)I" } : Jvm.MethodName)) ∈ tw := tw_t 1416 (by decide +kernel) (by decide +kernel)
theorem tw_1417 : (Jvm.Cond.code ({ cls := "SpanShelvesModel", name := "changes", desc := "(I)I" } : Jvm.MethodName) prog_9_method_51_code (4 : Nat) (Option.some Jvm.ClassFile.FieldType.int)) ∈ tw := tw_t 1417 (by decide +kernel) (by decide +kernel)
theorem tw_1422 : (Jvm.Cond.methodLink "SpanShelvesModel" (328 : Nat) ({ cls := "SpanShelvesModel", name := "valueIs", desc := "(I[BII)V" } : Jvm.MethodName)) ∈ tw := tw_t 1422 (by decide +kernel) (by decide +kernel)
theorem tw_1424 : (Jvm.Cond.instanceMethod ({ cls := "SpanShelvesModel", name := "valueIs", desc := "(I[BII)V" } : Jvm.MethodName)) ∈ tw := tw_t 1424 (by decide +kernel) (by decide +kernel)
theorem tw_1425 : (Jvm.Cond.code ({ cls := "SpanShelvesModel", name := "valueIs", desc := "(I[BII)V" } : Jvm.MethodName) prog_9_method_58_code (5 : Nat) (Option.none : Option Jvm.ClassFile.FieldType)) ∈ tw := tw_t 1425 (by decide +kernel) (by decide +kernel)
theorem tw_1426 : (Jvm.Cond.methodLink "SpanShelvesModel" (332 : Nat) ({ cls := "SpanShelvesModel", name := "lays", desc := "(I)Z" } : Jvm.MethodName)) ∈ tw := tw_t 1426 (by decide +kernel) (by decide +kernel)
theorem tw_1428 : (Jvm.Cond.instanceMethod ({ cls := "SpanShelvesModel", name := "lays", desc := "(I)Z" } : Jvm.MethodName)) ∈ tw := tw_t 1428 (by decide +kernel) (by decide +kernel)
theorem tw_1429 : (Jvm.Cond.code ({ cls := "SpanShelvesModel", name := "lays", desc := "(I)Z" } : Jvm.MethodName) prog_9_method_55_code (6 : Nat) (Option.some Jvm.ClassFile.FieldType.boolean)) ∈ tw := tw_t 1429 (by decide +kernel) (by decide +kernel)
theorem tw_1462 : (Jvm.Cond.methodLink "SpanShelvesModel" (335 : Nat) ({ cls := "SpanShelvesModel", name := "isPiece", desc := "(IZI)Z" } : Jvm.MethodName)) ∈ tw := tw_t 1462 (by decide +kernel) (by decide +kernel)
theorem tw_1464 : (Jvm.Cond.instanceMethod ({ cls := "SpanShelvesModel", name := "isPiece", desc := "(IZI)Z" } : Jvm.MethodName)) ∈ tw := tw_t 1464 (by decide +kernel) (by decide +kernel)
theorem tw_1465 : (Jvm.Cond.code ({ cls := "SpanShelvesModel", name := "isPiece", desc := "(IZI)Z" } : Jvm.MethodName) prog_9_method_63_code (4 : Nat) (Option.some Jvm.ClassFile.FieldType.boolean)) ∈ tw := tw_t 1465 (by decide +kernel) (by decide +kernel)
theorem tw_1466 : (Jvm.Cond.methodLink "SpanShelvesModel" (342 : Nat) ({ cls := "SpanShelvesModel", name := "nameIs", desc := "([BII)V" } : Jvm.MethodName)) ∈ tw := tw_t 1466 (by decide +kernel) (by decide +kernel)
theorem tw_1468 : (Jvm.Cond.instanceMethod ({ cls := "SpanShelvesModel", name := "nameIs", desc := "([BII)V" } : Jvm.MethodName)) ∈ tw := tw_t 1468 (by decide +kernel) (by decide +kernel)
theorem tw_1469 : (Jvm.Cond.code ({ cls := "SpanShelvesModel", name := "nameIs", desc := "([BII)V" } : Jvm.MethodName) prog_9_method_59_code (4 : Nat) (Option.none : Option Jvm.ClassFile.FieldType)) ∈ tw := tw_t 1469 (by decide +kernel) (by decide +kernel)
theorem tw_1486 : (Jvm.Cond.methodLink "SpanShelvesModel" (345 : Nat) ({ cls := "SpanShelvesModel$Tree", name := "below", desc := "(I)I" } : Jvm.MethodName)) ∈ tw := tw_t 1486 (by decide +kernel) (by decide +kernel)
theorem twp_44 : (Jvm.Cond.selects "SpanShelvesModel" ({ cls := "SpanShelvesModel", name := "noShelf", desc := "(I)Z" } : Jvm.MethodName) ({ cls := "SpanShelvesModel", name := "noShelf", desc := "(I)Z" } : Jvm.MethodName)) ∈ tw := tw_p 44 (q := (({ cls := "SpanShelvesModel", name := "noShelf", desc := "(I)Z" } : Jvm.MethodName), 44)) (by decide +kernel) (by decide +kernel)
theorem twp_45 : (Jvm.Cond.selects "SpanShelvesModel" ({ cls := "SpanShelvesModel", name := "throwsIf", desc := "(ZI)Z" } : Jvm.MethodName) ({ cls := "SpanShelvesModel", name := "throwsIf", desc := "(ZI)Z" } : Jvm.MethodName)) ∈ tw := tw_p 45 (q := (({ cls := "SpanShelvesModel", name := "throwsIf", desc := "(ZI)Z" } : Jvm.MethodName), 44)) (by decide +kernel) (by decide +kernel)
theorem twp_54 : (Jvm.Cond.selects "SpanShelvesModel" ({ cls := "SpanShelvesModel", name := "changes", desc := "(I)I" } : Jvm.MethodName) ({ cls := "SpanShelvesModel", name := "changes", desc := "(I)I" } : Jvm.MethodName)) ∈ tw := tw_p 54 (q := (({ cls := "SpanShelvesModel", name := "changes", desc := "(I)I" } : Jvm.MethodName), 44)) (by decide +kernel) (by decide +kernel)
theorem twp_56 : (Jvm.Cond.selects "SpanShelvesModel" ({ cls := "SpanShelvesModel", name := "valueIs", desc := "(I[BII)V" } : Jvm.MethodName) ({ cls := "SpanShelvesModel", name := "valueIs", desc := "(I[BII)V" } : Jvm.MethodName)) ∈ tw := tw_p 56 (q := (({ cls := "SpanShelvesModel", name := "valueIs", desc := "(I[BII)V" } : Jvm.MethodName), 44)) (by decide +kernel) (by decide +kernel)
theorem twp_57 : (Jvm.Cond.selects "SpanShelvesModel" ({ cls := "SpanShelvesModel", name := "lays", desc := "(I)Z" } : Jvm.MethodName) ({ cls := "SpanShelvesModel", name := "lays", desc := "(I)Z" } : Jvm.MethodName)) ∈ tw := tw_p 57 (q := (({ cls := "SpanShelvesModel", name := "lays", desc := "(I)Z" } : Jvm.MethodName), 44)) (by decide +kernel) (by decide +kernel)
theorem twp_65 : (Jvm.Cond.selects "SpanShelvesModel" ({ cls := "SpanShelvesModel", name := "isPiece", desc := "(IZI)Z" } : Jvm.MethodName) ({ cls := "SpanShelvesModel", name := "isPiece", desc := "(IZI)Z" } : Jvm.MethodName)) ∈ tw := tw_p 65 (q := (({ cls := "SpanShelvesModel", name := "isPiece", desc := "(IZI)Z" } : Jvm.MethodName), 44)) (by decide +kernel) (by decide +kernel)
theorem twp_66 : (Jvm.Cond.selects "SpanShelvesModel" ({ cls := "SpanShelvesModel", name := "nameIs", desc := "([BII)V" } : Jvm.MethodName) ({ cls := "SpanShelvesModel", name := "nameIs", desc := "([BII)V" } : Jvm.MethodName)) ∈ tw := tw_p 66 (q := (({ cls := "SpanShelvesModel", name := "nameIs", desc := "([BII)V" } : Jvm.MethodName), 44)) (by decide +kernel) (by decide +kernel)
theorem fl_X8_71 : FL RX8 71 7 22 := ⟨by decide, RX8, TX8, 44, tyX8, rfl, by decide, rfl, iw_X8, tyX8_ok, nmX8, Or.inl tw_1097⟩
theorem fl_X8_194 : FL RX8 194 6 11 := ⟨by decide, RX7, TX7, 13, tyX7, rfl, by decide, rfl, iw_X7, tyX7_ok, nmX7, Or.inr ⟨_, tw_1037⟩⟩
theorem fl_X8_225 : FL RX8 225 6 12 := ⟨by decide, RX7, TX7, 13, tyX7, rfl, by decide, rfl, iw_X7, tyX7_ok, nmX7, Or.inr ⟨_, tw_1039⟩⟩
theorem fl_X8_241 : FL RX8 241 7 24 := ⟨by decide, RX8, TX8, 44, tyX8, rfl, by decide, rfl, iw_X8, tyX8_ok, nmX8, Or.inl tw_1099⟩
theorem fl_X8_244 : FL RX8 244 7 25 := ⟨by decide, RX8, TX8, 44, tyX8, rfl, by decide, rfl, iw_X8, tyX8_ok, nmX8, Or.inl tw_1100⟩
theorem fl_X8_250 : FL RX8 250 6 1 := ⟨by decide, RX7, TX7, 13, tyX7, rfl, by decide, rfl, iw_X7, tyX7_ok, nmX7, Or.inr ⟨_, tw_1017⟩⟩
theorem fd_X8_24 : ∀ (C : String) (T : u_T) (N : Nat), vwCl[7]? = some (C, T, N) → (T 24).2.2.2 = false ∧ parseFieldDescriptor (T 24).2.2.1 = some .int := by intro C T N h; cases h; exact ⟨rfl, by decide +kernel⟩
theorem fd_X8_25 : ∀ (C : String) (T : u_T) (N : Nat), vwCl[7]? = some (C, T, N) → (T 25).2.2.2 = false ∧ parseFieldDescriptor (T 25).2.2.1 = some .int := by intro C T N h; cases h; exact ⟨rfl, by decide +kernel⟩
theorem mm_X8_changes : MM 7 yX8_changes cX8_changes 4 (some .int) 1 := ⟨by decide, RX8, TX8, 44, rfl, tw_1416, twp_54, tw_1417, tw_10, by decide +kernel, by decide +kernel, by decide +kernel⟩
theorem mm_X8_isPiece : MM 7 yX8_isPiece cX8_isPiece 4 (some .boolean) 3 := ⟨by decide, RX8, TX8, 44, rfl, tw_1464, twp_65, tw_1465, tw_10, by decide +kernel, by decide +kernel, by decide +kernel⟩
theorem mm_X8_lays : MM 7 yX8_lays cX8_lays 6 (some .boolean) 1 := ⟨by decide, RX8, TX8, 44, rfl, tw_1428, twp_57, tw_1429, tw_10, by decide +kernel, by decide +kernel, by decide +kernel⟩
theorem mm_X8_longAt : MS yX8_longAt cX8_longAt 2 (some .long) 2 := ⟨tw_1387, tw_1388, tw_10, by decide +kernel, by decide +kernel, by decide +kernel⟩
theorem mm_X8_nameIs : MM 7 yX8_nameIs cX8_nameIs 4 none 3 := ⟨by decide, RX8, TX8, 44, rfl, tw_1468, twp_66, tw_1469, tw_10, by decide +kernel, by decide +kernel, by decide +kernel⟩
theorem mm_X8_noShelf : MM 7 yX8_noShelf cX8_noShelf 3 (some .boolean) 1 := ⟨by decide, RX8, TX8, 44, rfl, tw_1315, twp_44, tw_1316, tw_10, by decide +kernel, by decide +kernel, by decide +kernel⟩
theorem mm_X8_throwsIf : MM 7 yX8_throwsIf cX8_throwsIf 3 (some .boolean) 2 := ⟨by decide, RX8, TX8, 44, rfl, tw_1319, twp_45, tw_1320, tw_10, by decide +kernel, by decide +kernel, by decide +kernel⟩
theorem mm_X8_valueIs : MM 7 yX8_valueIs cX8_valueIs 5 none 4 := ⟨by decide, RX8, TX8, 44, rfl, tw_1424, twp_56, tw_1425, tw_10, by decide +kernel, by decide +kernel, by decide +kernel⟩
theorem dX8_take_0 : decode cX8_take 0 = .ok (.aload_n 0, 1) := by decide +kernel
theorem dX8_take_1 : decode cX8_take 1 = .ok (.getfield 103, 3) := by decide +kernel
theorem dX8_take_4 : decode cX8_take 4 = .ok (.istore_n 2, 1) := by decide +kernel
theorem dX8_take_5 : decode cX8_take 5 = .ok (.aload_n 0, 1) := by decide +kernel
theorem dX8_take_6 : decode cX8_take 6 = .ok (.iconst 0, 1) := by decide +kernel
theorem dX8_take_7 : decode cX8_take 7 = .ok (.putfield 103, 3) := by decide +kernel
theorem dX8_take_10 : decode cX8_take 10 = .ok (.aload_n 0, 1) := by decide +kernel
theorem dX8_take_11 : decode cX8_take 11 = .ok (.iload_n 1, 1) := by decide +kernel
theorem dX8_take_12 : decode cX8_take 12 = .ok (.invokevirtual 183, 3) := by decide +kernel
theorem dX8_take_15 : decode cX8_take 15 = .ok (.ifCond .eq 5, 3) := by decide +kernel
theorem dX8_take_18 : decode cX8_take 18 = .ok (.iconst 0, 1) := by decide +kernel
theorem dX8_take_19 : decode cX8_take 19 = .ok (.ireturn, 1) := by decide +kernel
theorem dX8_take_20 : decode cX8_take 20 = .ok (.aload_n 0, 1) := by decide +kernel
theorem dX8_take_21 : decode cX8_take 21 = .ok (.iload_n 2, 1) := by decide +kernel
theorem dX8_take_22 : decode cX8_take 22 = .ok (.putfield 103, 3) := by decide +kernel
theorem dX8_take_25 : decode cX8_take 25 = .ok (.aload_n 0, 1) := by decide +kernel
theorem dX8_take_26 : decode cX8_take 26 = .ok (.invokevirtual 176, 3) := by decide +kernel
theorem dX8_take_29 : decode cX8_take 29 = .ok (.istore_n 3, 1) := by decide +kernel
theorem dX8_take_30 : decode cX8_take 30 = .ok (.aload_n 0, 1) := by decide +kernel
theorem dX8_take_31 : decode cX8_take 31 = .ok (.iconst 0, 1) := by decide +kernel
theorem dX8_take_32 : decode cX8_take 32 = .ok (.putfield 103, 3) := by decide +kernel
theorem dX8_take_35 : decode cX8_take 35 = .ok (.aload_n 0, 1) := by decide +kernel
theorem dX8_take_36 : decode cX8_take 36 = .ok (.iload_n 3, 1) := by decide +kernel
theorem dX8_take_37 : decode cX8_take 37 = .ok (.ifCond .ne 7, 3) := by decide +kernel
theorem dX8_take_40 : decode cX8_take 40 = .ok (.iconst 1, 1) := by decide +kernel
theorem dX8_take_41 : decode cX8_take 41 = .ok (.goto 4, 3) := by decide +kernel
theorem dX8_take_44 : decode cX8_take 44 = .ok (.iconst 0, 1) := by decide +kernel
theorem dX8_take_45 : decode cX8_take 45 = .ok (.iconst 2, 1) := by decide +kernel
theorem dX8_take_46 : decode cX8_take 46 = .ok (.invokevirtual 186, 3) := by decide +kernel
theorem dX8_take_49 : decode cX8_take 49 = .ok (.ifCond .eq 5, 3) := by decide +kernel
theorem dX8_take_52 : decode cX8_take 52 = .ok (.iconst 0, 1) := by decide +kernel
theorem dX8_take_53 : decode cX8_take 53 = .ok (.ireturn, 1) := by decide +kernel
theorem dX8_take_54 : decode cX8_take 54 = .ok (.iconst 0, 1) := by decide +kernel
theorem dX8_take_55 : decode cX8_take 55 = .ok (.istore 4, 2) := by decide +kernel
theorem dX8_take_57 : decode cX8_take 57 = .ok (.iload 4, 2) := by decide +kernel
theorem dX8_take_59 : decode cX8_take 59 = .ok (.iload_n 2, 1) := by decide +kernel
theorem dX8_take_60 : decode cX8_take 60 = .ok (.if_icmp .ge 25, 3) := by decide +kernel
theorem dX8_take_63 : decode cX8_take 63 = .ok (.aload_n 0, 1) := by decide +kernel
theorem dX8_take_64 : decode cX8_take 64 = .ok (.getfield 22, 3) := by decide +kernel
theorem dX8_take_67 : decode cX8_take 67 = .ok (.iload_n 1, 1) := by decide +kernel
theorem dX8_take_68 : decode cX8_take 68 = .ok (.aaload, 1) := by decide +kernel
theorem dX8_take_69 : decode cX8_take 69 = .ok (.iload 4, 2) := by decide +kernel
theorem dX8_take_71 : decode cX8_take 71 = .ok (.aload_n 0, 1) := by decide +kernel
theorem dX8_take_72 : decode cX8_take 72 = .ok (.getfield 13, 3) := by decide +kernel
theorem dX8_take_75 : decode cX8_take 75 = .ok (.iload 4, 2) := by decide +kernel
theorem dX8_take_77 : decode cX8_take 77 = .ok (.baload, 1) := by decide +kernel
theorem dX8_take_78 : decode cX8_take 78 = .ok (.bastore, 1) := by decide +kernel
theorem dX8_take_79 : decode cX8_take 79 = .ok (.iinc 4 1, 3) := by decide +kernel
theorem dX8_take_82 : decode cX8_take 82 = .ok (.goto (-25), 3) := by decide +kernel
theorem dX8_take_85 : decode cX8_take 85 = .ok (.aload_n 0, 1) := by decide +kernel
theorem dX8_take_86 : decode cX8_take 86 = .ok (.getfield 25, 3) := by decide +kernel
theorem dX8_take_89 : decode cX8_take 89 = .ok (.iload_n 1, 1) := by decide +kernel
theorem dX8_take_90 : decode cX8_take 90 = .ok (.iload_n 2, 1) := by decide +kernel
theorem dX8_take_91 : decode cX8_take 91 = .ok (.iastore, 1) := by decide +kernel
theorem dX8_take_92 : decode cX8_take 92 = .ok (.aload_n 0, 1) := by decide +kernel
theorem dX8_take_93 : decode cX8_take 93 = .ok (.iload_n 1, 1) := by decide +kernel
theorem dX8_take_94 : decode cX8_take 94 = .ok (.invokevirtual 94, 3) := by decide +kernel
theorem dX8_take_97 : decode cX8_take 97 = .ok (.iload_n 2, 1) := by decide +kernel
theorem dX8_take_98 : decode cX8_take 98 = .ok (.ireturn, 1) := by decide +kernel
abbrev rm_X8_take : Room := { frames := 125, cells := 0, slots := 0, locals := 3483 }
def f_X8_take_L57 (cy : Nat → ClassId) : Nat → Nat → Int32 → Int32 → Int32 → Mem → Option (Int32 × Mem)
  | 0, _, _, _, _, _ => none
  | n + 1, a0, a1, a2, a4, μ => if a2 ≤ a4 then ((rdR μ a0 7 6).bind fun q102 => (wrA cy μ 1 q102 a1 a2).bind fun μ104 => if isO μ104 a0 7 = true then ((f_X8_rests cy a0 a1 μ104).bind fun μ108 => some (a2, μ108)) else none) else (rdR μ a0 7 5).bind fun q109 => (rdQ cy μ 5 q109 a1).bind fun q111 => (rdR μ a0 7 1).bind fun q113 => (rdA cy μ 0 q113 a4).bind fun v115 => (wrA cy μ 0 q111 a4 (vp_nar .byte v115)).bind fun μ117 => f_X8_take_L57 cy n a0 a1 a2 (a4 + 1) μ117
set_option maxRecDepth 100000 in
set_option maxHeartbeats 4000000 in
theorem w_X8_take_L57 {p : Program} {l : Launch} {e : Env} {s : State} {m : MethodId} {args : Array Value} {below : List Frame} {meth : Method} {c : Code} {A : Nat → Prop} {g : Wg} {L : List Nat} {r : Int32} {μ' : Mem} (hC : CX p m c cX8_take 5 s args RX8) (hr : meth.sig.returnType = (some .int)) (hlocks : meth.locks = false) : ∀ (n : Nat), ∀ (a0 : Nat) (a1 : Int32) (a2 : Int32) (a4 : Int32) (μ : Mem) (H : Heap) (locs : List Loc) (ls : Array Slot), lv_has ls 5 [(0, .ref a0), (1, .int a1), (2, .int a2), (4, .int a4)] → PW g L μ A s H locs → f_X8_take_L57 g.2 n a0 a1 a2 a4 μ = some (r, μ') → W p l e rm_X8_take s m args below meth c H locs 0 0 (MQ below (QI g L A r μ') args s 0 0 A) (F0 m 57 ls []) := by
  have hx := hC.1
  have hb := hC.2.1
  intro n
  induction n with
  | zero => intro a0 a1 a2 a4 μ H locs ls hl hw hf; cases hf
  | succ n ih =>
    intro a0 a1 a2 a4 μ H locs ls hl hw hf
    rw [f_X8_take_L57] at hf
    refine lv_iload hx hb dX8_take_57 (lv_at hl 3 rfl) ?_
    refine lv_iload_n hx hb dX8_take_59 rfl (lv_at hl 2 rfl) ?_
    refine lv_icmp_ge (tgt := 85) hx hb dX8_take_60 (by decide) (fun c101 => ?_) (fun c101 => ?_)
    · have hf := o_pos c101 hf
      refine lv_aload_n hx hb dX8_take_85 rfl (lv_at hl 0 rfl) ?_
      obtain ⟨q102, h103, hf⟩ := o_bind hf
      refine pw_get hC fl_X8_25 hw (rdR_F h103) dX8_take_86 ?_
      refine lv_iload_n hx hb dX8_take_89 rfl (lv_at hl 1 rfl) ?_
      refine lv_iload_n hx hb dX8_take_90 rfl (lv_at hl 2 rfl) ?_
      obtain ⟨μ104, h105, hf⟩ := o_bind hf
      refine pw_iast hC hw h105 dX8_take_91 (fun H locs hw => ?_)
      refine lv_aload_n hx hb dX8_take_92 rfl (lv_at hl 0 rfl) ?_
      refine lv_iload_n hx hb dX8_take_93 rfl (lv_at hl 1 rfl) ?_
      obtain ⟨h107, hf⟩ := o_ite hf
      obtain ⟨μ108, h106, hf⟩ := o_bind hf
      refine pw_goV hw (pw_runV (As := [.int a1]) (rest := []) hC mm_X8_rests tw_1071 (c_X8_rests h106 _) ⟨rfl, rfl, by decide, by decide⟩ hw h107 rfl hl.1 (Nat.le_of_ble_eq_true rfl) ⟨Nat.zero_le _, Nat.zero_le _⟩ rfl dX8_take_94) (fun H locs hw => ?_)
      refine lv_iload_n hx hb dX8_take_97 rfl (lv_at hl 2 rfl) ?_
      obtain ⟨rfl, rfl⟩ := o_ret hf
      exact pw_iret hC hr hlocks hw dX8_take_98
    · have hf := o_neg c101 hf
      refine lv_aload_n hx hb dX8_take_63 rfl (lv_at hl 0 rfl) ?_
      obtain ⟨q109, h110, hf⟩ := o_bind hf
      refine pw_get hC fl_X8_22 hw (rdR_F h110) dX8_take_64 ?_
      refine lv_iload_n hx hb dX8_take_67 rfl (lv_at hl 1 rfl) ?_
      obtain ⟨q111, h112, hf⟩ := o_bind hf
      refine pw_aald hC hw 5 rfl rfl h112 dX8_take_68 ?_
      refine lv_iload hx hb dX8_take_69 (lv_at hl 3 rfl) ?_
      refine lv_aload_n hx hb dX8_take_71 rfl (lv_at hl 0 rfl) ?_
      obtain ⟨q113, h114, hf⟩ := o_bind hf
      refine pw_get hC fl_X8_13 hw (rdR_F h114) dX8_take_72 ?_
      refine lv_iload hx hb dX8_take_75 (lv_at hl 3 rfl) ?_
      obtain ⟨v115, h116, hf⟩ := o_bind hf
      refine pw_bald hC hw h116 dX8_take_77 ?_
      obtain ⟨μ117, h118, hf⟩ := o_bind hf
      refine pw_bast hC hw h118 dX8_take_78 (fun H locs hw => ?_)
      refine lv_iinc (v := (a4 + 1)) (lv' := [(4, .int (a4 + 1)), (0, .ref a0), (1, .int a1), (2, .int a2)]) hx hb dX8_take_79 hl (k := 3) rfl (by first | rfl | decide +kernel) (by decide) rfl (fun ls hl => ?_)
      refine lv_goto (tgt := 57) hx hb dX8_take_82 (by decide) ?_
      exact ih _ _ _ _ _ _ _ ls (lv_sub hl [1, 2, 3, 0] rfl) hw hf
def f_X8_take_L45 (cy : Nat → ClassId) (a0 : Nat) (a1 : Int32) (a2 : Int32) (t0 : Nat) (t1 : Int32) (μ : Mem) : Option (Int32 × Mem) :=
  if isO μ t0 7 = true then (ob2 (f_X8_throwsIf cy t0 t1 2 μ) fun r104 μ103 => if r104 = 0 then (f_X8_take_L57 cy FU a0 a1 a2 0 μ103) else some (0, μ103)) else none
set_option maxRecDepth 100000 in
set_option maxHeartbeats 4000000 in
theorem w_X8_take_L45 {p : Program} {l : Launch} {e : Env} {s : State} {m : MethodId} {args : Array Value} {below : List Frame} {meth : Method} {c : Code} {A : Nat → Prop} {g : Wg} {L : List Nat} {r : Int32} {μ' : Mem} (hC : CX p m c cX8_take 5 s args RX8) (hr : meth.sig.returnType = (some .int)) (hlocks : meth.locks = false) : ∀ (a0 : Nat) (a1 : Int32) (a2 : Int32) (t0 : Nat) (t1 : Int32) (μ : Mem) (H : Heap) (locs : List Loc) (ls : Array Slot), lv_has ls 5 [(0, .ref a0), (1, .int a1), (2, .int a2)] → PW g L μ A s H locs → f_X8_take_L45 g.2 a0 a1 a2 t0 t1 μ = some (r, μ') → W p l e rm_X8_take s m args below meth c H locs 0 0 (MQ below (QI g L A r μ') args s 0 0 A) (F0 m 45 ls [.int t1, .ref t0]) := by
  have hx := hC.1
  have hb := hC.2.1
  intro a0 a1 a2 t0 t1 μ H locs ls hl hw hf
  unfold f_X8_take_L45 at hf
  refine lv_iconst (v := 2) hx hb dX8_take_45 nc_iconst_2 ?_
  obtain ⟨h102, hf⟩ := o_ite hf
  obtain ⟨r104, μ103, h101, hf⟩ := o_bind2 hf
  refine pw_goI hw (pw_runV (As := [.int t1, .int 2]) (rest := []) hC mm_X8_throwsIf tw_1317 (c_X8_throwsIf h101 _) ⟨rfl, rfl, by decide, by decide⟩ hw h102 rfl hl.1 (Nat.le_of_ble_eq_true rfl) ⟨Nat.zero_le _, Nat.zero_le _⟩ rfl dX8_take_46) (fun H locs hw => ?_)
  refine lv_if_eq (tgt := 54) hx hb dX8_take_49 (by decide) (fun c105 => ?_) (fun c105 => ?_)
  · have hf := o_pos c105 hf
    refine lv_iconst (v := 0) hx hb dX8_take_54 nc_iconst_0 ?_
    refine lv_istore (lv' := [(4, .int 0), (0, .ref a0), (1, .int a1), (2, .int a2)]) hx hb dX8_take_55 hl (by decide) rfl (fun ls hl => ?_)
    exact w_X8_take_L57 hC hr hlocks FU _ _ _ _ _ _ _ ls (lv_sub hl [1, 2, 3, 0] rfl) hw hf
  · have hf := o_neg c105 hf
    refine lv_iconst (v := 0) hx hb dX8_take_52 nc_iconst_0 ?_
    obtain ⟨rfl, rfl⟩ := o_ret hf
    exact pw_iret hC hr hlocks hw dX8_take_53
def f_X8_take (cy : Nat → ClassId) (a0 : Nat) (a1 : Int32) (μ : Mem) : Option (Int32 × Mem) :=
  (rdI μ a0 7 2).bind fun v1 => (wrF μ a0 7 2 (.int 0)).bind fun μ3 => if isO μ3 a0 7 = true then (ob2 (f_X8_noShelf cy a0 a1 μ3) fun r8 μ7 => if r8 = 0 then ((wrF μ7 a0 7 2 (.int v1)).bind fun μ10 => if isO μ10 a0 7 = true then (ob2 (f_X8_judgeRoot cy a0 μ10) fun r15 μ14 => (wrF μ14 a0 7 2 (.int 0)).bind fun μ16 => if r15 = 0 then (f_X8_take_L45 cy a0 a1 v1 a0 1 μ16) else f_X8_take_L45 cy a0 a1 v1 a0 0 μ16) else none) else some (0, μ7)) else none
set_option maxRecDepth 100000 in
set_option maxHeartbeats 4000000 in
theorem c_X8_take {l : Launch} {g : Wg} {L : List Nat} {μ : Mem} {a0 : Nat} {a1 : Int32} {r : Int32} {μ' : Mem} (hf : f_X8_take g.2 a0 a1 μ = some (r, μ')) : MetI l yX8_take cX8_take 5 (some .int) rm_X8_take g L μ [.ref a0, .int a1] r μ' := by
  refine pw_met (Qc := fun A => QI g L A r μ') (by decide) (Nat.le_of_ble_eq_true rfl) ?_
  intro p e s m args below meth c A ls H locs hC hr hlocks hl hw
  have hx := hC.1
  have hb := hC.2.1
  have hl : lv_has ls 5 [(0, .ref a0), (1, .int a1)] := hl
  unfold f_X8_take at hf
  refine lv_aload_n hx hb dX8_take_0 rfl (lv_at hl 0 rfl) ?_
  obtain ⟨v1, h2, hf⟩ := o_bind hf
  refine pw_get hC fl_X8_103 hw (rdI_F h2) dX8_take_1 ?_
  refine lv_istore_n (lv' := [(2, .int v1), (0, .ref a0), (1, .int a1)]) hx hb dX8_take_4 rfl hl (by decide) rfl (fun ls hl => ?_)
  refine lv_aload_n hx hb dX8_take_5 rfl (lv_at hl 1 rfl) ?_
  refine lv_iconst (v := 0) hx hb dX8_take_6 nc_iconst_0 ?_
  obtain ⟨μ3, h4, hf⟩ := o_bind hf
  refine pw_put hC fl_X8_103 hw h4 .int fd_X8_2 rfl rfl dX8_take_7 (fun H locs hw => ?_)
  refine lv_aload_n hx hb dX8_take_10 rfl (lv_at hl 1 rfl) ?_
  refine lv_iload_n hx hb dX8_take_11 rfl (lv_at hl 2 rfl) ?_
  obtain ⟨h6, hf⟩ := o_ite hf
  obtain ⟨r8, μ7, h5, hf⟩ := o_bind2 hf
  refine pw_goI hw (pw_runV (As := [.int a1]) (rest := []) hC mm_X8_noShelf tw_1313 (c_X8_noShelf h5 _) ⟨rfl, rfl, by decide, by decide⟩ hw h6 rfl hl.1 (Nat.le_of_ble_eq_true rfl) ⟨Nat.zero_le _, Nat.zero_le _⟩ rfl dX8_take_12) (fun H locs hw => ?_)
  refine lv_if_eq (tgt := 20) hx hb dX8_take_15 (by decide) (fun c9 => ?_) (fun c9 => ?_)
  · have hf := o_pos c9 hf
    refine lv_aload_n hx hb dX8_take_20 rfl (lv_at hl 1 rfl) ?_
    refine lv_iload_n hx hb dX8_take_21 rfl (lv_at hl 0 rfl) ?_
    obtain ⟨μ10, h11, hf⟩ := o_bind hf
    refine pw_put hC fl_X8_103 hw h11 .int fd_X8_2 rfl rfl dX8_take_22 (fun H locs hw => ?_)
    refine lv_aload_n hx hb dX8_take_25 rfl (lv_at hl 1 rfl) ?_
    obtain ⟨h13, hf⟩ := o_ite hf
    obtain ⟨r15, μ14, h12, hf⟩ := o_bind2 hf
    refine pw_goI hw (pw_runV (As := []) (rest := []) hC mm_X8_judgeRoot tw_1225 (c_X8_judgeRoot h12 _) ⟨rfl, rfl, by decide, by decide⟩ hw h13 rfl hl.1 (Nat.le_of_ble_eq_true rfl) ⟨Nat.zero_le _, Nat.zero_le _⟩ rfl dX8_take_26) (fun H locs hw => ?_)
    refine lv_istore_n (lv' := [(3, .int r15), (2, .int v1), (0, .ref a0), (1, .int a1)]) hx hb dX8_take_29 rfl hl (by decide) rfl (fun ls hl => ?_)
    refine lv_aload_n hx hb dX8_take_30 rfl (lv_at hl 2 rfl) ?_
    refine lv_iconst (v := 0) hx hb dX8_take_31 nc_iconst_0 ?_
    obtain ⟨μ16, h17, hf⟩ := o_bind hf
    refine pw_put hC fl_X8_103 hw h17 .int fd_X8_2 rfl rfl dX8_take_32 (fun H locs hw => ?_)
    refine lv_aload_n hx hb dX8_take_35 rfl (lv_at hl 2 rfl) ?_
    refine lv_iload_n hx hb dX8_take_36 rfl (lv_at hl 0 rfl) ?_
    refine lv_if_ne (tgt := 44) hx hb dX8_take_37 (by decide) (fun c18 => ?_) (fun c18 => ?_)
    · have hf := o_neg c18 hf
      refine lv_iconst (v := 0) hx hb dX8_take_44 nc_iconst_0 ?_
      exact w_X8_take_L45 hC hr hlocks _ _ _ _ _ _ _ _ ls (lv_sub hl [2, 3, 1] rfl) hw hf
    · have hf := o_pos c18 hf
      refine lv_iconst (v := 1) hx hb dX8_take_40 nc_iconst_1 ?_
      refine lv_goto (tgt := 45) hx hb dX8_take_41 (by decide) ?_
      exact w_X8_take_L45 hC hr hlocks _ _ _ _ _ _ _ _ ls (lv_sub hl [2, 3, 1] rfl) hw hf
  · have hf := o_neg c9 hf
    refine lv_iconst (v := 0) hx hb dX8_take_18 nc_iconst_0 ?_
    obtain ⟨rfl, rfl⟩ := o_ret hf
    exact pw_iret hC hr hlocks hw dX8_take_19
theorem dX8_go_0 : decode cX8_go 0 = .ok (.aload_n 0, 1) := by decide +kernel
theorem dX8_go_1 : decode cX8_go 1 = .ok (.iload_n 1, 1) := by decide +kernel
theorem dX8_go_2 : decode cX8_go 2 = .ok (.invokevirtual 183, 3) := by decide +kernel
theorem dX8_go_5 : decode cX8_go 5 = .ok (.ifCond .eq 5, 3) := by decide +kernel
theorem dX8_go_8 : decode cX8_go 8 = .ok (.iconst 0, 1) := by decide +kernel
theorem dX8_go_9 : decode cX8_go 9 = .ok (.ireturn, 1) := by decide +kernel
theorem dX8_go_10 : decode cX8_go 10 = .ok (.aload_n 0, 1) := by decide +kernel
theorem dX8_go_11 : decode cX8_go 11 = .ok (.getfield 67, 3) := by decide +kernel
theorem dX8_go_14 : decode cX8_go 14 = .ok (.aload_n 0, 1) := by decide +kernel
theorem dX8_go_15 : decode cX8_go 15 = .ok (.getfield 22, 3) := by decide +kernel
theorem dX8_go_18 : decode cX8_go 18 = .ok (.iload_n 1, 1) := by decide +kernel
theorem dX8_go_19 : decode cX8_go 19 = .ok (.aaload, 1) := by decide +kernel
theorem dX8_go_20 : decode cX8_go 20 = .ok (.invokevirtual 190, 3) := by decide +kernel
theorem dX8_go_23 : decode cX8_go 23 = .ok (.iload_n 2, 1) := by decide +kernel
theorem dX8_go_24 : decode cX8_go 24 = .ok (.ifCond .lt 24, 3) := by decide +kernel
theorem dX8_go_27 : decode cX8_go 27 = .ok (.iload_n 2, 1) := by decide +kernel
theorem dX8_go_28 : decode cX8_go 28 = .ok (.aload_n 0, 1) := by decide +kernel
theorem dX8_go_29 : decode cX8_go 29 = .ok (.getfield 67, 3) := by decide +kernel
theorem dX8_go_32 : decode cX8_go 32 = .ok (.getfield 194, 3) := by decide +kernel
theorem dX8_go_35 : decode cX8_go 35 = .ok (.aload_n 0, 1) := by decide +kernel
theorem dX8_go_36 : decode cX8_go 36 = .ok (.aload_n 0, 1) := by decide +kernel
theorem dX8_go_37 : decode cX8_go 37 = .ok (.getfield 67, 3) := by decide +kernel
theorem dX8_go_40 : decode cX8_go 40 = .ok (.iload_n 1, 1) := by decide +kernel
theorem dX8_go_41 : decode cX8_go 41 = .ok (.invokevirtual 197, 3) := by decide +kernel
theorem dX8_go_44 : decode cX8_go 44 = .ok (.iaload, 1) := by decide +kernel
theorem dX8_go_45 : decode cX8_go 45 = .ok (.if_icmp .lt 5, 3) := by decide +kernel
theorem dX8_go_48 : decode cX8_go 48 = .ok (.iconst 0, 1) := by decide +kernel
theorem dX8_go_49 : decode cX8_go 49 = .ok (.ireturn, 1) := by decide +kernel
theorem dX8_go_50 : decode cX8_go 50 = .ok (.aload_n 0, 1) := by decide +kernel
theorem dX8_go_51 : decode cX8_go 51 = .ok (.getfield 37, 3) := by decide +kernel
theorem dX8_go_54 : decode cX8_go 54 = .ok (.iload_n 1, 1) := by decide +kernel
theorem dX8_go_55 : decode cX8_go 55 = .ok (.iload_n 2, 1) := by decide +kernel
theorem dX8_go_56 : decode cX8_go 56 = .ok (.iastore, 1) := by decide +kernel
theorem dX8_go_57 : decode cX8_go 57 = .ok (.iconst 1, 1) := by decide +kernel
theorem dX8_go_58 : decode cX8_go 58 = .ok (.ireturn, 1) := by decide +kernel
abbrev rm_X8_go : Room := { frames := 124, cells := 0, slots := 0, locals := 3090 }
def f_X8_go_L48 (cy : Nat → ClassId)  (μ : Mem) : Option (Int32 × Mem) :=
  some (0, μ)
set_option maxRecDepth 100000 in
set_option maxHeartbeats 4000000 in
theorem w_X8_go_L48 {p : Program} {l : Launch} {e : Env} {s : State} {m : MethodId} {args : Array Value} {below : List Frame} {meth : Method} {c : Code} {A : Nat → Prop} {g : Wg} {L : List Nat} {r : Int32} {μ' : Mem} (hC : CX p m c cX8_go 3 s args RX8) (hr : meth.sig.returnType = (some .boolean)) (hlocks : meth.locks = false) : ∀  (μ : Mem) (H : Heap) (locs : List Loc) (ls : Array Slot), lv_has ls 3 [] → PW g L μ A s H locs → f_X8_go_L48 g.2  μ = some (r, μ') → W p l e rm_X8_go s m args below meth c H locs 0 0 (MQ below (QI g L A r μ') args s 0 0 A) (F0 m 48 ls []) := by
  have hx := hC.1
  have hb := hC.2.1
  intro  μ H locs ls hl hw hf
  unfold f_X8_go_L48 at hf
  refine lv_iconst (v := 0) hx hb dX8_go_48 nc_iconst_0 ?_
  obtain ⟨rfl, rfl⟩ := o_ret hf
  exact pw_zret hC hr hlocks (Or.inl rfl) hw dX8_go_49
def f_X8_go (cy : Nat → ClassId) (a0 : Nat) (a1 : Int32) (a2 : Int32) (μ : Mem) : Option (Int32 × Mem) :=
  if isO μ a0 7 = true then (ob2 (f_X8_noShelf cy a0 a1 μ) fun r4 μ3 => if r4 = 0 then ((rdR μ3 a0 7 21).bind fun q6 => (rdR μ3 a0 7 5).bind fun q8 => (rdQ cy μ3 5 q8 a1).bind fun q10 => if isO μ3 q6 6 = true then ((f_X7_read cy q6 q10 μ3).bind fun μ14 => if a2 < 0 then (f_X8_go_L48 cy  μ14) else (rdR μ14 a0 7 21).bind fun q16 => (rdR μ14 q16 6 11).bind fun q18 => (rdR μ14 a0 7 21).bind fun q20 => if isO μ14 a0 7 = true then (ob2 (f_X8_stands cy a0 q20 a1 μ14) fun r25 μ24 => (rdA cy μ24 1 q18 r25).bind fun v26 => if a2 < v26 then ((rdR μ24 a0 7 9).bind fun q29 => (wrA cy μ24 1 q29 a1 a2).bind fun μ31 => some (1, μ31)) else f_X8_go_L48 cy  μ24) else none) else none) else some (0, μ3)) else none
set_option maxRecDepth 100000 in
set_option maxHeartbeats 4000000 in
theorem c_X8_go {l : Launch} {g : Wg} {L : List Nat} {μ : Mem} {a0 : Nat} {a1 : Int32} {a2 : Int32} {r : Int32} {μ' : Mem} (hf : f_X8_go g.2 a0 a1 a2 μ = some (r, μ')) : MetI l yX8_go cX8_go 3 (some .boolean) rm_X8_go g L μ [.ref a0, .int a1, .int a2] r μ' := by
  refine pw_met (Qc := fun A => QI g L A r μ') (by decide) (Nat.le_of_ble_eq_true rfl) ?_
  intro p e s m args below meth c A ls H locs hC hr hlocks hl hw
  have hx := hC.1
  have hb := hC.2.1
  have hl : lv_has ls 3 [(0, .ref a0), (1, .int a1), (2, .int a2)] := hl
  unfold f_X8_go at hf
  refine lv_aload_n hx hb dX8_go_0 rfl (lv_at hl 0 rfl) ?_
  refine lv_iload_n hx hb dX8_go_1 rfl (lv_at hl 1 rfl) ?_
  obtain ⟨h2, hf⟩ := o_ite hf
  obtain ⟨r4, μ3, h1, hf⟩ := o_bind2 hf
  refine pw_goI hw (pw_runV (As := [.int a1]) (rest := []) hC mm_X8_noShelf tw_1313 (c_X8_noShelf h1 _) ⟨rfl, rfl, by decide, by decide⟩ hw h2 rfl hl.1 (Nat.le_of_ble_eq_true rfl) ⟨Nat.zero_le _, Nat.zero_le _⟩ rfl dX8_go_2) (fun H locs hw => ?_)
  refine lv_if_eq (tgt := 10) hx hb dX8_go_5 (by decide) (fun c5 => ?_) (fun c5 => ?_)
  · have hf := o_pos c5 hf
    refine lv_aload_n hx hb dX8_go_10 rfl (lv_at hl 0 rfl) ?_
    obtain ⟨q6, h7, hf⟩ := o_bind hf
    refine pw_get hC fl_X8_67 hw (rdR_F h7) dX8_go_11 ?_
    refine lv_aload_n hx hb dX8_go_14 rfl (lv_at hl 0 rfl) ?_
    obtain ⟨q8, h9, hf⟩ := o_bind hf
    refine pw_get hC fl_X8_22 hw (rdR_F h9) dX8_go_15 ?_
    refine lv_iload_n hx hb dX8_go_18 rfl (lv_at hl 1 rfl) ?_
    obtain ⟨q10, h11, hf⟩ := o_bind hf
    refine pw_aald hC hw 5 rfl rfl h11 dX8_go_19 ?_
    obtain ⟨h13, hf⟩ := o_ite hf
    obtain ⟨μ14, h12, hf⟩ := o_bind hf
    refine pw_goV hw (pw_runV (As := [.ref q10]) (rest := []) hC mm_X7_read tw_1325 (c_X7_read h12 _) ⟨rfl, rfl, by decide, by decide⟩ hw h13 rfl hl.1 (Nat.le_of_ble_eq_true rfl) ⟨Nat.zero_le _, Nat.zero_le _⟩ rfl dX8_go_20) (fun H locs hw => ?_)
    refine lv_iload_n hx hb dX8_go_23 rfl (lv_at hl 2 rfl) ?_
    refine lv_if_lt (tgt := 48) hx hb dX8_go_24 (by decide) (fun c15 => ?_) (fun c15 => ?_)
    · have hf := o_pos c15 hf
      exact w_X8_go_L48 hC hr hlocks  _ _ _ ls (lv_sub hl [] rfl) hw hf
    · have hf := o_neg c15 hf
      refine lv_iload_n hx hb dX8_go_27 rfl (lv_at hl 2 rfl) ?_
      refine lv_aload_n hx hb dX8_go_28 rfl (lv_at hl 0 rfl) ?_
      obtain ⟨q16, h17, hf⟩ := o_bind hf
      refine pw_get hC fl_X8_67 hw (rdR_F h17) dX8_go_29 ?_
      obtain ⟨q18, h19, hf⟩ := o_bind hf
      refine pw_get hC fl_X8_194 hw (rdR_F h19) dX8_go_32 ?_
      refine lv_aload_n hx hb dX8_go_35 rfl (lv_at hl 0 rfl) ?_
      refine lv_aload_n hx hb dX8_go_36 rfl (lv_at hl 0 rfl) ?_
      obtain ⟨q20, h21, hf⟩ := o_bind hf
      refine pw_get hC fl_X8_67 hw (rdR_F h21) dX8_go_37 ?_
      refine lv_iload_n hx hb dX8_go_40 rfl (lv_at hl 1 rfl) ?_
      obtain ⟨h23, hf⟩ := o_ite hf
      obtain ⟨r25, μ24, h22, hf⟩ := o_bind2 hf
      refine pw_goI hw (pw_runV (As := [.ref q20, .int a1]) (rest := [.ref q18, .int a2]) hC mm_X8_stands tw_1342 (c_X8_stands h22 _) ⟨rfl, rfl, by decide, by decide⟩ hw h23 rfl hl.1 (Nat.le_of_ble_eq_true rfl) ⟨Nat.zero_le _, Nat.zero_le _⟩ rfl dX8_go_41) (fun H locs hw => ?_)
      obtain ⟨v26, h27, hf⟩ := o_bind hf
      refine pw_iald hC hw h27 dX8_go_44 ?_
      refine lv_icmp_lt (tgt := 50) hx hb dX8_go_45 (by decide) (fun c28 => ?_) (fun c28 => ?_)
      · have hf := o_pos c28 hf
        refine lv_aload_n hx hb dX8_go_50 rfl (lv_at hl 0 rfl) ?_
        obtain ⟨q29, h30, hf⟩ := o_bind hf
        refine pw_get hC fl_X8_37 hw (rdR_F h30) dX8_go_51 ?_
        refine lv_iload_n hx hb dX8_go_54 rfl (lv_at hl 1 rfl) ?_
        refine lv_iload_n hx hb dX8_go_55 rfl (lv_at hl 2 rfl) ?_
        obtain ⟨μ31, h32, hf⟩ := o_bind hf
        refine pw_iast hC hw h32 dX8_go_56 (fun H locs hw => ?_)
        refine lv_iconst (v := 1) hx hb dX8_go_57 nc_iconst_1 ?_
        obtain ⟨rfl, rfl⟩ := o_ret hf
        exact pw_zret hC hr hlocks (Or.inr rfl) hw dX8_go_58
      · have hf := o_neg c28 hf
        exact w_X8_go_L48 hC hr hlocks  _ _ _ ls (lv_sub hl [] rfl) hw hf
  · have hf := o_neg c5 hf
    refine lv_iconst (v := 0) hx hb dX8_go_8 nc_iconst_0 ?_
    obtain ⟨rfl, rfl⟩ := o_ret hf
    exact pw_zret hC hr hlocks (Or.inl rfl) hw dX8_go_9
theorem dX8_isNamed_0 : decode cX8_isNamed 0 = .ok (.aload_n 0, 1) := by decide +kernel
theorem dX8_isNamed_1 : decode cX8_isNamed 1 = .ok (.getfield 67, 3) := by decide +kernel
theorem dX8_isNamed_4 : decode cX8_isNamed 4 = .ok (.getfield 210, 3) := by decide +kernel
theorem dX8_isNamed_7 : decode cX8_isNamed 7 = .ok (.iload_n 1, 1) := by decide +kernel
theorem dX8_isNamed_8 : decode cX8_isNamed 8 = .ok (.iaload, 1) := by decide +kernel
theorem dX8_isNamed_9 : decode cX8_isNamed 9 = .ok (.iload_n 3, 1) := by decide +kernel
theorem dX8_isNamed_10 : decode cX8_isNamed 10 = .ok (.iload_n 2, 1) := by decide +kernel
theorem dX8_isNamed_11 : decode cX8_isNamed 11 = .ok (.isub, 1) := by decide +kernel
theorem dX8_isNamed_12 : decode cX8_isNamed 12 = .ok (.if_icmp .ne 7, 3) := by decide +kernel
theorem dX8_isNamed_15 : decode cX8_isNamed 15 = .ok (.iconst 1, 1) := by decide +kernel
theorem dX8_isNamed_16 : decode cX8_isNamed 16 = .ok (.goto 4, 3) := by decide +kernel
theorem dX8_isNamed_19 : decode cX8_isNamed 19 = .ok (.iconst 0, 1) := by decide +kernel
theorem dX8_isNamed_20 : decode cX8_isNamed 20 = .ok (.istore 4, 2) := by decide +kernel
theorem dX8_isNamed_22 : decode cX8_isNamed 22 = .ok (.iconst 0, 1) := by decide +kernel
theorem dX8_isNamed_23 : decode cX8_isNamed 23 = .ok (.istore 5, 2) := by decide +kernel
theorem dX8_isNamed_25 : decode cX8_isNamed 25 = .ok (.iload 4, 2) := by decide +kernel
theorem dX8_isNamed_27 : decode cX8_isNamed 27 = .ok (.ifCond .eq 58, 3) := by decide +kernel
theorem dX8_isNamed_30 : decode cX8_isNamed 30 = .ok (.iload 5, 2) := by decide +kernel
theorem dX8_isNamed_32 : decode cX8_isNamed 32 = .ok (.iload_n 3, 1) := by decide +kernel
theorem dX8_isNamed_33 : decode cX8_isNamed 33 = .ok (.iload_n 2, 1) := by decide +kernel
theorem dX8_isNamed_34 : decode cX8_isNamed 34 = .ok (.isub, 1) := by decide +kernel
theorem dX8_isNamed_35 : decode cX8_isNamed 35 = .ok (.if_icmp .ge 50, 3) := by decide +kernel
theorem dX8_isNamed_38 : decode cX8_isNamed 38 = .ok (.aload_n 0, 1) := by decide +kernel
theorem dX8_isNamed_39 : decode cX8_isNamed 39 = .ok (.getfield 67, 3) := by decide +kernel
theorem dX8_isNamed_42 : decode cX8_isNamed 42 = .ok (.getfield 213, 3) := by decide +kernel
theorem dX8_isNamed_45 : decode cX8_isNamed 45 = .ok (.aload_n 0, 1) := by decide +kernel
theorem dX8_isNamed_46 : decode cX8_isNamed 46 = .ok (.getfield 67, 3) := by decide +kernel
theorem dX8_isNamed_49 : decode cX8_isNamed 49 = .ok (.getfield 216, 3) := by decide +kernel
theorem dX8_isNamed_52 : decode cX8_isNamed 52 = .ok (.iload_n 1, 1) := by decide +kernel
theorem dX8_isNamed_53 : decode cX8_isNamed 53 = .ok (.iaload, 1) := by decide +kernel
theorem dX8_isNamed_54 : decode cX8_isNamed 54 = .ok (.iconst 1, 1) := by decide +kernel
theorem dX8_isNamed_55 : decode cX8_isNamed 55 = .ok (.iadd, 1) := by decide +kernel
theorem dX8_isNamed_56 : decode cX8_isNamed 56 = .ok (.iload 5, 2) := by decide +kernel
theorem dX8_isNamed_58 : decode cX8_isNamed 58 = .ok (.iadd, 1) := by decide +kernel
theorem dX8_isNamed_59 : decode cX8_isNamed 59 = .ok (.baload, 1) := by decide +kernel
theorem dX8_isNamed_60 : decode cX8_isNamed 60 = .ok (.aload_n 0, 1) := by decide +kernel
theorem dX8_isNamed_61 : decode cX8_isNamed 61 = .ok (.getfield 13, 3) := by decide +kernel
theorem dX8_isNamed_64 : decode cX8_isNamed 64 = .ok (.iload_n 2, 1) := by decide +kernel
theorem dX8_isNamed_65 : decode cX8_isNamed 65 = .ok (.iload 5, 2) := by decide +kernel
theorem dX8_isNamed_67 : decode cX8_isNamed 67 = .ok (.iadd, 1) := by decide +kernel
theorem dX8_isNamed_68 : decode cX8_isNamed 68 = .ok (.baload, 1) := by decide +kernel
theorem dX8_isNamed_69 : decode cX8_isNamed 69 = .ok (.if_icmp .ne 7, 3) := by decide +kernel
theorem dX8_isNamed_72 : decode cX8_isNamed 72 = .ok (.iconst 1, 1) := by decide +kernel
theorem dX8_isNamed_73 : decode cX8_isNamed 73 = .ok (.goto 4, 3) := by decide +kernel
theorem dX8_isNamed_76 : decode cX8_isNamed 76 = .ok (.iconst 0, 1) := by decide +kernel
theorem dX8_isNamed_77 : decode cX8_isNamed 77 = .ok (.istore 4, 2) := by decide +kernel
theorem dX8_isNamed_79 : decode cX8_isNamed 79 = .ok (.iinc 5 1, 3) := by decide +kernel
theorem dX8_isNamed_82 : decode cX8_isNamed 82 = .ok (.goto (-57), 3) := by decide +kernel
theorem dX8_isNamed_85 : decode cX8_isNamed 85 = .ok (.iload 4, 2) := by decide +kernel
theorem dX8_isNamed_87 : decode cX8_isNamed 87 = .ok (.ireturn, 1) := by decide +kernel
abbrev rm_X8_isNamed : Room := { frames := 0, cells := 0, slots := 0, locals := 0 }
def f_X8_isNamed_L77 (cy : Nat → ClassId) (k25 : Nat → Int32 → Int32 → Int32 → Int32 → Int32 → Mem → Option (Int32 × Mem)) (a0 : Nat) (a1 : Int32) (a2 : Int32) (a3 : Int32) (a5 : Int32) (t0 : Int32) (μ : Mem) : Option (Int32 × Mem) :=
  k25 a0 a1 a2 a3 t0 (a5 + 1) μ
set_option maxRecDepth 100000 in
set_option maxHeartbeats 4000000 in
theorem w_X8_isNamed_L77 {p : Program} {l : Launch} {e : Env} {s : State} {m : MethodId} {args : Array Value} {below : List Frame} {meth : Method} {c : Code} {A : Nat → Prop} {g : Wg} {L : List Nat} {r : Int32} {μ' : Mem} (hC : CX p m c cX8_isNamed 6 s args RX8) (hr : meth.sig.returnType = (some .boolean)) (hlocks : meth.locks = false) {k25 : Nat → Int32 → Int32 → Int32 → Int32 → Int32 → Mem → Option (Int32 × Mem)} (hk25 : ∀ (a0 : Nat) (a1 : Int32) (a2 : Int32) (a3 : Int32) (a4 : Int32) (a5 : Int32) (μ : Mem) (H : Heap) (locs : List Loc) (ls : Array Slot), lv_has ls 6 [(0, .ref a0), (1, .int a1), (2, .int a2), (3, .int a3), (4, .int a4), (5, .int a5)] → PW g L μ A s H locs → k25 a0 a1 a2 a3 a4 a5 μ = some (r, μ') → W p l e rm_X8_isNamed s m args below meth c H locs 0 0 (MQ below (QI g L A r μ') args s 0 0 A) (F0 m 25 ls [])) : ∀ (a0 : Nat) (a1 : Int32) (a2 : Int32) (a3 : Int32) (a5 : Int32) (t0 : Int32) (μ : Mem) (H : Heap) (locs : List Loc) (ls : Array Slot), lv_has ls 6 [(0, .ref a0), (1, .int a1), (2, .int a2), (3, .int a3), (5, .int a5)] → PW g L μ A s H locs → f_X8_isNamed_L77 g.2 k25 a0 a1 a2 a3 a5 t0 μ = some (r, μ') → W p l e rm_X8_isNamed s m args below meth c H locs 0 0 (MQ below (QI g L A r μ') args s 0 0 A) (F0 m 77 ls [.int t0]) := by
  have hx := hC.1
  have hb := hC.2.1
  intro a0 a1 a2 a3 a5 t0 μ H locs ls hl hw hf
  unfold f_X8_isNamed_L77 at hf
  refine lv_istore (lv' := [(4, .int t0), (0, .ref a0), (1, .int a1), (2, .int a2), (3, .int a3), (5, .int a5)]) hx hb dX8_isNamed_77 hl (by decide) rfl (fun ls hl => ?_)
  refine lv_iinc (v := (a5 + 1)) (lv' := [(5, .int (a5 + 1)), (4, .int t0), (0, .ref a0), (1, .int a1), (2, .int a2), (3, .int a3)]) hx hb dX8_isNamed_79 hl (k := 5) rfl (by first | rfl | decide +kernel) (by decide) rfl (fun ls hl => ?_)
  refine lv_goto (tgt := 25) hx hb dX8_isNamed_82 (by decide) ?_
  exact hk25 _ _ _ _ _ _ _ _ _ ls (lv_sub hl [2, 3, 4, 5, 1, 0] rfl) hw hf
def f_X8_isNamed_L85 (cy : Nat → ClassId) (a4 : Int32) (μ : Mem) : Option (Int32 × Mem) :=
  if a4 = 0 ∨ a4 = 1 then some (a4, μ) else none
set_option maxRecDepth 100000 in
set_option maxHeartbeats 4000000 in
theorem w_X8_isNamed_L85 {p : Program} {l : Launch} {e : Env} {s : State} {m : MethodId} {args : Array Value} {below : List Frame} {meth : Method} {c : Code} {A : Nat → Prop} {g : Wg} {L : List Nat} {r : Int32} {μ' : Mem} (hC : CX p m c cX8_isNamed 6 s args RX8) (hr : meth.sig.returnType = (some .boolean)) (hlocks : meth.locks = false) : ∀ (a4 : Int32) (μ : Mem) (H : Heap) (locs : List Loc) (ls : Array Slot), lv_has ls 6 [(4, .int a4)] → PW g L μ A s H locs → f_X8_isNamed_L85 g.2 a4 μ = some (r, μ') → W p l e rm_X8_isNamed s m args below meth c H locs 0 0 (MQ below (QI g L A r μ') args s 0 0 A) (F0 m 85 ls []) := by
  have hx := hC.1
  have hb := hC.2.1
  intro a4 μ H locs ls hl hw hf
  unfold f_X8_isNamed_L85 at hf
  refine lv_iload hx hb dX8_isNamed_85 (lv_at hl 0 rfl) ?_
  obtain ⟨h101, hf⟩ := o_ite hf
  obtain ⟨rfl, rfl⟩ := o_ret hf
  exact pw_zret hC hr hlocks h101 hw dX8_isNamed_87
def f_X8_isNamed_L25 (cy : Nat → ClassId) : Nat → Nat → Int32 → Int32 → Int32 → Int32 → Int32 → Mem → Option (Int32 × Mem)
  | 0, _, _, _, _, _, _, _ => none
  | n + 1, a0, a1, a2, a3, a4, a5, μ => if a4 = 0 then (f_X8_isNamed_L85 cy a4 μ) else if (a3 - a2) ≤ a5 then (f_X8_isNamed_L85 cy a4 μ) else (rdR μ a0 7 21).bind fun q103 => (rdR μ q103 6 0).bind fun q105 => (rdR μ a0 7 21).bind fun q107 => (rdR μ q107 6 6).bind fun q109 => (rdA cy μ 1 q109 a1).bind fun v111 => (rdA cy μ 0 q105 ((v111 + 1) + a5)).bind fun v113 => (rdR μ a0 7 1).bind fun q115 => (rdA cy μ 0 q115 (a2 + a5)).bind fun v117 => if v113 = v117 then (f_X8_isNamed_L77 cy (f_X8_isNamed_L25 cy n) a0 a1 a2 a3 a5 1 μ) else f_X8_isNamed_L77 cy (f_X8_isNamed_L25 cy n) a0 a1 a2 a3 a5 0 μ
set_option maxRecDepth 100000 in
set_option maxHeartbeats 4000000 in
theorem w_X8_isNamed_L25 {p : Program} {l : Launch} {e : Env} {s : State} {m : MethodId} {args : Array Value} {below : List Frame} {meth : Method} {c : Code} {A : Nat → Prop} {g : Wg} {L : List Nat} {r : Int32} {μ' : Mem} (hC : CX p m c cX8_isNamed 6 s args RX8) (hr : meth.sig.returnType = (some .boolean)) (hlocks : meth.locks = false) : ∀ (n : Nat), ∀ (a0 : Nat) (a1 : Int32) (a2 : Int32) (a3 : Int32) (a4 : Int32) (a5 : Int32) (μ : Mem) (H : Heap) (locs : List Loc) (ls : Array Slot), lv_has ls 6 [(0, .ref a0), (1, .int a1), (2, .int a2), (3, .int a3), (4, .int a4), (5, .int a5)] → PW g L μ A s H locs → f_X8_isNamed_L25 g.2 n a0 a1 a2 a3 a4 a5 μ = some (r, μ') → W p l e rm_X8_isNamed s m args below meth c H locs 0 0 (MQ below (QI g L A r μ') args s 0 0 A) (F0 m 25 ls []) := by
  have hx := hC.1
  have hb := hC.2.1
  intro n
  induction n with
  | zero => intro a0 a1 a2 a3 a4 a5 μ H locs ls hl hw hf; cases hf
  | succ n ih =>
    intro a0 a1 a2 a3 a4 a5 μ H locs ls hl hw hf
    rw [f_X8_isNamed_L25] at hf
    refine lv_iload hx hb dX8_isNamed_25 (lv_at hl 4 rfl) ?_
    refine lv_if_eq (tgt := 85) hx hb dX8_isNamed_27 (by decide) (fun c101 => ?_) (fun c101 => ?_)
    · have hf := o_pos c101 hf
      exact w_X8_isNamed_L85 hC hr hlocks _ _ _ _ ls (lv_sub hl [4] rfl) hw hf
    · have hf := o_neg c101 hf
      refine lv_iload hx hb dX8_isNamed_30 (lv_at hl 5 rfl) ?_
      refine lv_iload_n hx hb dX8_isNamed_32 rfl (lv_at hl 3 rfl) ?_
      refine lv_iload_n hx hb dX8_isNamed_33 rfl (lv_at hl 2 rfl) ?_
      refine lv_isub hx hb dX8_isNamed_34 ?_
      refine lv_icmp_ge (tgt := 85) hx hb dX8_isNamed_35 (by decide) (fun c102 => ?_) (fun c102 => ?_)
      · have hf := o_pos c102 hf
        exact w_X8_isNamed_L85 hC hr hlocks _ _ _ _ ls (lv_sub hl [4] rfl) hw hf
      · have hf := o_neg c102 hf
        refine lv_aload_n hx hb dX8_isNamed_38 rfl (lv_at hl 0 rfl) ?_
        obtain ⟨q103, h104, hf⟩ := o_bind hf
        refine pw_get hC fl_X8_67 hw (rdR_F h104) dX8_isNamed_39 ?_
        obtain ⟨q105, h106, hf⟩ := o_bind hf
        refine pw_get hC fl_X8_213 hw (rdR_F h106) dX8_isNamed_42 ?_
        refine lv_aload_n hx hb dX8_isNamed_45 rfl (lv_at hl 0 rfl) ?_
        obtain ⟨q107, h108, hf⟩ := o_bind hf
        refine pw_get hC fl_X8_67 hw (rdR_F h108) dX8_isNamed_46 ?_
        obtain ⟨q109, h110, hf⟩ := o_bind hf
        refine pw_get hC fl_X8_216 hw (rdR_F h110) dX8_isNamed_49 ?_
        refine lv_iload_n hx hb dX8_isNamed_52 rfl (lv_at hl 1 rfl) ?_
        obtain ⟨v111, h112, hf⟩ := o_bind hf
        refine pw_iald hC hw h112 dX8_isNamed_53 ?_
        refine lv_iconst (v := 1) hx hb dX8_isNamed_54 nc_iconst_1 ?_
        refine lv_iadd hx hb dX8_isNamed_55 ?_
        refine lv_iload hx hb dX8_isNamed_56 (lv_at hl 5 rfl) ?_
        refine lv_iadd hx hb dX8_isNamed_58 ?_
        obtain ⟨v113, h114, hf⟩ := o_bind hf
        refine pw_bald hC hw h114 dX8_isNamed_59 ?_
        refine lv_aload_n hx hb dX8_isNamed_60 rfl (lv_at hl 0 rfl) ?_
        obtain ⟨q115, h116, hf⟩ := o_bind hf
        refine pw_get hC fl_X8_13 hw (rdR_F h116) dX8_isNamed_61 ?_
        refine lv_iload_n hx hb dX8_isNamed_64 rfl (lv_at hl 2 rfl) ?_
        refine lv_iload hx hb dX8_isNamed_65 (lv_at hl 5 rfl) ?_
        refine lv_iadd hx hb dX8_isNamed_67 ?_
        obtain ⟨v117, h118, hf⟩ := o_bind hf
        refine pw_bald hC hw h118 dX8_isNamed_68 ?_
        refine lv_icmp_ne (tgt := 76) hx hb dX8_isNamed_69 (by decide) (fun c119 => ?_) (fun c119 => ?_)
        · have hf := o_neg c119 hf
          refine lv_iconst (v := 0) hx hb dX8_isNamed_76 nc_iconst_0 ?_
          exact w_X8_isNamed_L77 hC hr hlocks ih _ _ _ _ _ _ _ _ _ ls (lv_sub hl [0, 1, 2, 3, 5] rfl) hw hf
        · have hf := o_pos c119 hf
          refine lv_iconst (v := 1) hx hb dX8_isNamed_72 nc_iconst_1 ?_
          refine lv_goto (tgt := 77) hx hb dX8_isNamed_73 (by decide) ?_
          exact w_X8_isNamed_L77 hC hr hlocks ih _ _ _ _ _ _ _ _ _ ls (lv_sub hl [0, 1, 2, 3, 5] rfl) hw hf
def f_X8_isNamed_L20 (cy : Nat → ClassId) (a0 : Nat) (a1 : Int32) (a2 : Int32) (a3 : Int32) (t0 : Int32) (μ : Mem) : Option (Int32 × Mem) :=
  f_X8_isNamed_L25 cy FU a0 a1 a2 a3 t0 0 μ
set_option maxRecDepth 100000 in
set_option maxHeartbeats 4000000 in
theorem w_X8_isNamed_L20 {p : Program} {l : Launch} {e : Env} {s : State} {m : MethodId} {args : Array Value} {below : List Frame} {meth : Method} {c : Code} {A : Nat → Prop} {g : Wg} {L : List Nat} {r : Int32} {μ' : Mem} (hC : CX p m c cX8_isNamed 6 s args RX8) (hr : meth.sig.returnType = (some .boolean)) (hlocks : meth.locks = false) : ∀ (a0 : Nat) (a1 : Int32) (a2 : Int32) (a3 : Int32) (t0 : Int32) (μ : Mem) (H : Heap) (locs : List Loc) (ls : Array Slot), lv_has ls 6 [(0, .ref a0), (1, .int a1), (2, .int a2), (3, .int a3)] → PW g L μ A s H locs → f_X8_isNamed_L20 g.2 a0 a1 a2 a3 t0 μ = some (r, μ') → W p l e rm_X8_isNamed s m args below meth c H locs 0 0 (MQ below (QI g L A r μ') args s 0 0 A) (F0 m 20 ls [.int t0]) := by
  have hx := hC.1
  have hb := hC.2.1
  intro a0 a1 a2 a3 t0 μ H locs ls hl hw hf
  unfold f_X8_isNamed_L20 at hf
  refine lv_istore (lv' := [(4, .int t0), (0, .ref a0), (1, .int a1), (2, .int a2), (3, .int a3)]) hx hb dX8_isNamed_20 hl (by decide) rfl (fun ls hl => ?_)
  refine lv_iconst (v := 0) hx hb dX8_isNamed_22 nc_iconst_0 ?_
  refine lv_istore (lv' := [(5, .int 0), (4, .int t0), (0, .ref a0), (1, .int a1), (2, .int a2), (3, .int a3)]) hx hb dX8_isNamed_23 hl (by decide) rfl (fun ls hl => ?_)
  exact w_X8_isNamed_L25 hC hr hlocks FU _ _ _ _ _ _ _ _ _ ls (lv_sub hl [2, 3, 4, 5, 1, 0] rfl) hw hf
def f_X8_isNamed (cy : Nat → ClassId) (a0 : Nat) (a1 : Int32) (a2 : Int32) (a3 : Int32) (μ : Mem) : Option (Int32 × Mem) :=
  (rdR μ a0 7 21).bind fun q1 => (rdR μ q1 6 7).bind fun q3 => (rdA cy μ 1 q3 a1).bind fun v5 => if v5 = (a3 - a2) then (f_X8_isNamed_L20 cy a0 a1 a2 a3 1 μ) else f_X8_isNamed_L20 cy a0 a1 a2 a3 0 μ
set_option maxRecDepth 100000 in
set_option maxHeartbeats 4000000 in
theorem c_X8_isNamed {l : Launch} {g : Wg} {L : List Nat} {μ : Mem} {a0 : Nat} {a1 : Int32} {a2 : Int32} {a3 : Int32} {r : Int32} {μ' : Mem} (hf : f_X8_isNamed g.2 a0 a1 a2 a3 μ = some (r, μ')) : MetI l yX8_isNamed cX8_isNamed 6 (some .boolean) rm_X8_isNamed g L μ [.ref a0, .int a1, .int a2, .int a3] r μ' := by
  refine pw_met (Qc := fun A => QI g L A r μ') (by decide) (Nat.le_of_ble_eq_true rfl) ?_
  intro p e s m args below meth c A ls H locs hC hr hlocks hl hw
  have hx := hC.1
  have hb := hC.2.1
  have hl : lv_has ls 6 [(0, .ref a0), (1, .int a1), (2, .int a2), (3, .int a3)] := hl
  unfold f_X8_isNamed at hf
  refine lv_aload_n hx hb dX8_isNamed_0 rfl (lv_at hl 0 rfl) ?_
  obtain ⟨q1, h2, hf⟩ := o_bind hf
  refine pw_get hC fl_X8_67 hw (rdR_F h2) dX8_isNamed_1 ?_
  obtain ⟨q3, h4, hf⟩ := o_bind hf
  refine pw_get hC fl_X8_210 hw (rdR_F h4) dX8_isNamed_4 ?_
  refine lv_iload_n hx hb dX8_isNamed_7 rfl (lv_at hl 1 rfl) ?_
  obtain ⟨v5, h6, hf⟩ := o_bind hf
  refine pw_iald hC hw h6 dX8_isNamed_8 ?_
  refine lv_iload_n hx hb dX8_isNamed_9 rfl (lv_at hl 3 rfl) ?_
  refine lv_iload_n hx hb dX8_isNamed_10 rfl (lv_at hl 2 rfl) ?_
  refine lv_isub hx hb dX8_isNamed_11 ?_
  refine lv_icmp_ne (tgt := 19) hx hb dX8_isNamed_12 (by decide) (fun c7 => ?_) (fun c7 => ?_)
  · have hf := o_neg c7 hf
    refine lv_iconst (v := 0) hx hb dX8_isNamed_19 nc_iconst_0 ?_
    exact w_X8_isNamed_L20 hC hr hlocks _ _ _ _ _ _ _ _ ls (lv_sub hl [0, 1, 2, 3] rfl) hw hf
  · have hf := o_pos c7 hf
    refine lv_iconst (v := 1) hx hb dX8_isNamed_15 nc_iconst_1 ?_
    refine lv_goto (tgt := 20) hx hb dX8_isNamed_16 (by decide) ?_
    exact w_X8_isNamed_L20 hC hr hlocks _ _ _ _ _ _ _ _ ls (lv_sub hl [0, 1, 2, 3] rfl) hw hf
theorem dX8_in_0 : decode cX8_in 0 = .ok (.aload_n 0, 1) := by decide +kernel
theorem dX8_in_1 : decode cX8_in 1 = .ok (.iload_n 1, 1) := by decide +kernel
theorem dX8_in_2 : decode cX8_in 2 = .ok (.invokevirtual 183, 3) := by decide +kernel
theorem dX8_in_5 : decode cX8_in 5 = .ok (.ifCond .eq 5, 3) := by decide +kernel
theorem dX8_in_8 : decode cX8_in 8 = .ok (.iconst 0, 1) := by decide +kernel
theorem dX8_in_9 : decode cX8_in 9 = .ok (.ireturn, 1) := by decide +kernel
theorem dX8_in_10 : decode cX8_in 10 = .ok (.aload_n 0, 1) := by decide +kernel
theorem dX8_in_11 : decode cX8_in 11 = .ok (.getfield 37, 3) := by decide +kernel
theorem dX8_in_14 : decode cX8_in 14 = .ok (.iload_n 1, 1) := by decide +kernel
theorem dX8_in_15 : decode cX8_in 15 = .ok (.iaload, 1) := by decide +kernel
theorem dX8_in_16 : decode cX8_in 16 = .ok (.ifCond .ge 5, 3) := by decide +kernel
theorem dX8_in_19 : decode cX8_in 19 = .ok (.iconst 0, 1) := by decide +kernel
theorem dX8_in_20 : decode cX8_in 20 = .ok (.ireturn, 1) := by decide +kernel
theorem dX8_in_21 : decode cX8_in 21 = .ok (.aload_n 0, 1) := by decide +kernel
theorem dX8_in_22 : decode cX8_in 22 = .ok (.getfield 67, 3) := by decide +kernel
theorem dX8_in_25 : decode cX8_in 25 = .ok (.aload_n 0, 1) := by decide +kernel
theorem dX8_in_26 : decode cX8_in 26 = .ok (.getfield 22, 3) := by decide +kernel
theorem dX8_in_29 : decode cX8_in 29 = .ok (.iload_n 1, 1) := by decide +kernel
theorem dX8_in_30 : decode cX8_in 30 = .ok (.aaload, 1) := by decide +kernel
theorem dX8_in_31 : decode cX8_in 31 = .ok (.invokevirtual 190, 3) := by decide +kernel
theorem dX8_in_34 : decode cX8_in 34 = .ok (.aload_n 0, 1) := by decide +kernel
theorem dX8_in_35 : decode cX8_in 35 = .ok (.getfield 67, 3) := by decide +kernel
theorem dX8_in_38 : decode cX8_in 38 = .ok (.aload_n 0, 1) := by decide +kernel
theorem dX8_in_39 : decode cX8_in 39 = .ok (.aload_n 0, 1) := by decide +kernel
theorem dX8_in_40 : decode cX8_in 40 = .ok (.getfield 67, 3) := by decide +kernel
theorem dX8_in_43 : decode cX8_in 43 = .ok (.iload_n 1, 1) := by decide +kernel
theorem dX8_in_44 : decode cX8_in 44 = .ok (.invokevirtual 197, 3) := by decide +kernel
theorem dX8_in_47 : decode cX8_in 47 = .ok (.aload_n 0, 1) := by decide +kernel
theorem dX8_in_48 : decode cX8_in 48 = .ok (.getfield 37, 3) := by decide +kernel
theorem dX8_in_51 : decode cX8_in 51 = .ok (.iload_n 1, 1) := by decide +kernel
theorem dX8_in_52 : decode cX8_in 52 = .ok (.iaload, 1) := by decide +kernel
theorem dX8_in_53 : decode cX8_in 53 = .ok (.invokevirtual 180, 3) := by decide +kernel
theorem dX8_in_56 : decode cX8_in 56 = .ok (.istore_n 2, 1) := by decide +kernel
theorem dX8_in_57 : decode cX8_in 57 = .ok (.aload_n 0, 1) := by decide +kernel
theorem dX8_in_58 : decode cX8_in 58 = .ok (.getfield 67, 3) := by decide +kernel
theorem dX8_in_61 : decode cX8_in 61 = .ok (.getfield 222, 3) := by decide +kernel
theorem dX8_in_64 : decode cX8_in 64 = .ok (.iload_n 2, 1) := by decide +kernel
theorem dX8_in_65 : decode cX8_in 65 = .ok (.iaload, 1) := by decide +kernel
theorem dX8_in_66 : decode cX8_in 66 = .ok (.ifCond .ge 5, 3) := by decide +kernel
theorem dX8_in_69 : decode cX8_in 69 = .ok (.iconst 0, 1) := by decide +kernel
theorem dX8_in_70 : decode cX8_in 70 = .ok (.ireturn, 1) := by decide +kernel
theorem dX8_in_71 : decode cX8_in 71 = .ok (.aload_n 0, 1) := by decide +kernel
theorem dX8_in_72 : decode cX8_in 72 = .ok (.getfield 31, 3) := by decide +kernel
theorem dX8_in_75 : decode cX8_in 75 = .ok (.iload_n 1, 1) := by decide +kernel
theorem dX8_in_76 : decode cX8_in 76 = .ok (.aaload, 1) := by decide +kernel
theorem dX8_in_77 : decode cX8_in 77 = .ok (.aload_n 0, 1) := by decide +kernel
theorem dX8_in_78 : decode cX8_in 78 = .ok (.getfield 34, 3) := by decide +kernel
theorem dX8_in_81 : decode cX8_in 81 = .ok (.iload_n 1, 1) := by decide +kernel
theorem dX8_in_82 : decode cX8_in 82 = .ok (.iaload, 1) := by decide +kernel
theorem dX8_in_83 : decode cX8_in 83 = .ok (.aload_n 0, 1) := by decide +kernel
theorem dX8_in_84 : decode cX8_in 84 = .ok (.getfield 37, 3) := by decide +kernel
theorem dX8_in_87 : decode cX8_in 87 = .ok (.iload_n 1, 1) := by decide +kernel
theorem dX8_in_88 : decode cX8_in 88 = .ok (.iaload, 1) := by decide +kernel
theorem dX8_in_89 : decode cX8_in 89 = .ok (.iastore, 1) := by decide +kernel
theorem dX8_in_90 : decode cX8_in 90 = .ok (.aload_n 0, 1) := by decide +kernel
theorem dX8_in_91 : decode cX8_in 91 = .ok (.getfield 34, 3) := by decide +kernel
theorem dX8_in_94 : decode cX8_in 94 = .ok (.iload_n 1, 1) := by decide +kernel
theorem dX8_in_95 : decode cX8_in 95 = .ok (.dup2, 1) := by decide +kernel
theorem dX8_in_96 : decode cX8_in 96 = .ok (.iaload, 1) := by decide +kernel
theorem dX8_in_97 : decode cX8_in 97 = .ok (.iconst 1, 1) := by decide +kernel
theorem dX8_in_98 : decode cX8_in 98 = .ok (.iadd, 1) := by decide +kernel
theorem dX8_in_99 : decode cX8_in 99 = .ok (.iastore, 1) := by decide +kernel
theorem dX8_in_100 : decode cX8_in 100 = .ok (.aload_n 0, 1) := by decide +kernel
theorem dX8_in_101 : decode cX8_in 101 = .ok (.getfield 37, 3) := by decide +kernel
theorem dX8_in_104 : decode cX8_in 104 = .ok (.iload_n 1, 1) := by decide +kernel
theorem dX8_in_105 : decode cX8_in 105 = .ok (.aload_n 0, 1) := by decide +kernel
theorem dX8_in_106 : decode cX8_in 106 = .ok (.getfield 67, 3) := by decide +kernel
theorem dX8_in_109 : decode cX8_in 109 = .ok (.getfield 194, 3) := by decide +kernel
theorem dX8_in_112 : decode cX8_in 112 = .ok (.iload_n 2, 1) := by decide +kernel
theorem dX8_in_113 : decode cX8_in 113 = .ok (.iaload, 1) := by decide +kernel
theorem dX8_in_114 : decode cX8_in 114 = .ok (.ifCond .le 7, 3) := by decide +kernel
theorem dX8_in_117 : decode cX8_in 117 = .ok (.iconst 0, 1) := by decide +kernel
theorem dX8_in_118 : decode cX8_in 118 = .ok (.goto 4, 3) := by decide +kernel
theorem dX8_in_121 : decode cX8_in 121 = .ok (.iconst (-1), 1) := by decide +kernel
theorem dX8_in_122 : decode cX8_in 122 = .ok (.iastore, 1) := by decide +kernel
theorem dX8_in_123 : decode cX8_in 123 = .ok (.iconst 1, 1) := by decide +kernel
theorem dX8_in_124 : decode cX8_in 124 = .ok (.ireturn, 1) := by decide +kernel
abbrev rm_X8_in : Room := { frames := 124, cells := 0, slots := 0, locals := 3090 }
def f_X8_in_L122 (cy : Nat → ClassId) (t0 : Nat) (t1 : Int32) (t2 : Int32) (μ : Mem) : Option (Int32 × Mem) :=
  (wrA cy μ 1 t0 t1 t2).bind fun μ101 => some (1, μ101)
set_option maxRecDepth 100000 in
set_option maxHeartbeats 4000000 in
theorem w_X8_in_L122 {p : Program} {l : Launch} {e : Env} {s : State} {m : MethodId} {args : Array Value} {below : List Frame} {meth : Method} {c : Code} {A : Nat → Prop} {g : Wg} {L : List Nat} {r : Int32} {μ' : Mem} (hC : CX p m c cX8_in 3 s args RX8) (hr : meth.sig.returnType = (some .boolean)) (hlocks : meth.locks = false) : ∀ (t0 : Nat) (t1 : Int32) (t2 : Int32) (μ : Mem) (H : Heap) (locs : List Loc) (ls : Array Slot), lv_has ls 3 [] → PW g L μ A s H locs → f_X8_in_L122 g.2 t0 t1 t2 μ = some (r, μ') → W p l e rm_X8_in s m args below meth c H locs 0 0 (MQ below (QI g L A r μ') args s 0 0 A) (F0 m 122 ls [.int t2, .int t1, .ref t0]) := by
  have hx := hC.1
  have hb := hC.2.1
  intro t0 t1 t2 μ H locs ls hl hw hf
  unfold f_X8_in_L122 at hf
  obtain ⟨μ101, h102, hf⟩ := o_bind hf
  refine pw_iast hC hw h102 dX8_in_122 (fun H locs hw => ?_)
  refine lv_iconst (v := 1) hx hb dX8_in_123 nc_iconst_1 ?_
  obtain ⟨rfl, rfl⟩ := o_ret hf
  exact pw_zret hC hr hlocks (Or.inr rfl) hw dX8_in_124
def f_X8_in (cy : Nat → ClassId) (a0 : Nat) (a1 : Int32) (μ : Mem) : Option (Int32 × Mem) :=
  if isO μ a0 7 = true then (ob2 (f_X8_noShelf cy a0 a1 μ) fun r4 μ3 => if r4 = 0 then ((rdR μ3 a0 7 9).bind fun q6 => (rdA cy μ3 1 q6 a1).bind fun v8 => if 0 ≤ v8 then ((rdR μ3 a0 7 21).bind fun q11 => (rdR μ3 a0 7 5).bind fun q13 => (rdQ cy μ3 5 q13 a1).bind fun q15 => if isO μ3 q11 6 = true then ((f_X7_read cy q11 q15 μ3).bind fun μ19 => (rdR μ19 a0 7 21).bind fun q20 => (rdR μ19 a0 7 21).bind fun q22 => if isO μ19 a0 7 = true then (ob2 (f_X8_stands cy a0 q22 a1 μ19) fun r27 μ26 => (rdR μ26 a0 7 9).bind fun q28 => (rdA cy μ26 1 q28 a1).bind fun v30 => if isO μ26 q20 6 = true then (ob2 (f_X7_child cy q20 r27 v30 μ26) fun r35 μ34 => (rdR μ34 a0 7 21).bind fun q36 => (rdR μ34 q36 6 10).bind fun q38 => (rdA cy μ34 1 q38 r35).bind fun v40 => if 0 ≤ v40 then ((rdR μ34 a0 7 7).bind fun q43 => (rdQ cy μ34 6 q43 a1).bind fun q45 => (rdR μ34 a0 7 8).bind fun q47 => (rdA cy μ34 1 q47 a1).bind fun v49 => (rdR μ34 a0 7 9).bind fun q51 => (rdA cy μ34 1 q51 a1).bind fun v53 => (wrA cy μ34 1 q45 v49 v53).bind fun μ55 => (rdR μ55 a0 7 8).bind fun q57 => (rdA cy μ55 1 q57 a1).bind fun v59 => (wrA cy μ55 1 q57 a1 (v59 + 1)).bind fun μ61 => (rdR μ61 a0 7 9).bind fun q63 => (rdR μ61 a0 7 21).bind fun q65 => (rdR μ61 q65 6 11).bind fun q67 => (rdA cy μ61 1 q67 r35).bind fun v69 => if v69 ≤ 0 then (f_X8_in_L122 cy q63 a1 (-1) μ61) else f_X8_in_L122 cy q63 a1 0 μ61) else some (0, μ34)) else none) else none) else none) else some (0, μ3)) else some (0, μ3)) else none
set_option maxRecDepth 100000 in
set_option maxHeartbeats 4000000 in
theorem c_X8_in {l : Launch} {g : Wg} {L : List Nat} {μ : Mem} {a0 : Nat} {a1 : Int32} {r : Int32} {μ' : Mem} (hf : f_X8_in g.2 a0 a1 μ = some (r, μ')) : MetI l yX8_in cX8_in 3 (some .boolean) rm_X8_in g L μ [.ref a0, .int a1] r μ' := by
  refine pw_met (Qc := fun A => QI g L A r μ') (by decide) (Nat.le_of_ble_eq_true rfl) ?_
  intro p e s m args below meth c A ls H locs hC hr hlocks hl hw
  have hx := hC.1
  have hb := hC.2.1
  have hl : lv_has ls 3 [(0, .ref a0), (1, .int a1)] := hl
  unfold f_X8_in at hf
  refine lv_aload_n hx hb dX8_in_0 rfl (lv_at hl 0 rfl) ?_
  refine lv_iload_n hx hb dX8_in_1 rfl (lv_at hl 1 rfl) ?_
  obtain ⟨h2, hf⟩ := o_ite hf
  obtain ⟨r4, μ3, h1, hf⟩ := o_bind2 hf
  refine pw_goI hw (pw_runV (As := [.int a1]) (rest := []) hC mm_X8_noShelf tw_1313 (c_X8_noShelf h1 _) ⟨rfl, rfl, by decide, by decide⟩ hw h2 rfl hl.1 (Nat.le_of_ble_eq_true rfl) ⟨Nat.zero_le _, Nat.zero_le _⟩ rfl dX8_in_2) (fun H locs hw => ?_)
  refine lv_if_eq (tgt := 10) hx hb dX8_in_5 (by decide) (fun c5 => ?_) (fun c5 => ?_)
  · have hf := o_pos c5 hf
    refine lv_aload_n hx hb dX8_in_10 rfl (lv_at hl 0 rfl) ?_
    obtain ⟨q6, h7, hf⟩ := o_bind hf
    refine pw_get hC fl_X8_37 hw (rdR_F h7) dX8_in_11 ?_
    refine lv_iload_n hx hb dX8_in_14 rfl (lv_at hl 1 rfl) ?_
    obtain ⟨v8, h9, hf⟩ := o_bind hf
    refine pw_iald hC hw h9 dX8_in_15 ?_
    refine lv_if_ge (tgt := 21) hx hb dX8_in_16 (by decide) (fun c10 => ?_) (fun c10 => ?_)
    · have hf := o_pos c10 hf
      refine lv_aload_n hx hb dX8_in_21 rfl (lv_at hl 0 rfl) ?_
      obtain ⟨q11, h12, hf⟩ := o_bind hf
      refine pw_get hC fl_X8_67 hw (rdR_F h12) dX8_in_22 ?_
      refine lv_aload_n hx hb dX8_in_25 rfl (lv_at hl 0 rfl) ?_
      obtain ⟨q13, h14, hf⟩ := o_bind hf
      refine pw_get hC fl_X8_22 hw (rdR_F h14) dX8_in_26 ?_
      refine lv_iload_n hx hb dX8_in_29 rfl (lv_at hl 1 rfl) ?_
      obtain ⟨q15, h16, hf⟩ := o_bind hf
      refine pw_aald hC hw 5 rfl rfl h16 dX8_in_30 ?_
      obtain ⟨h18, hf⟩ := o_ite hf
      obtain ⟨μ19, h17, hf⟩ := o_bind hf
      refine pw_goV hw (pw_runV (As := [.ref q15]) (rest := []) hC mm_X7_read tw_1325 (c_X7_read h17 _) ⟨rfl, rfl, by decide, by decide⟩ hw h18 rfl hl.1 (Nat.le_of_ble_eq_true rfl) ⟨Nat.zero_le _, Nat.zero_le _⟩ rfl dX8_in_31) (fun H locs hw => ?_)
      refine lv_aload_n hx hb dX8_in_34 rfl (lv_at hl 0 rfl) ?_
      obtain ⟨q20, h21, hf⟩ := o_bind hf
      refine pw_get hC fl_X8_67 hw (rdR_F h21) dX8_in_35 ?_
      refine lv_aload_n hx hb dX8_in_38 rfl (lv_at hl 0 rfl) ?_
      refine lv_aload_n hx hb dX8_in_39 rfl (lv_at hl 0 rfl) ?_
      obtain ⟨q22, h23, hf⟩ := o_bind hf
      refine pw_get hC fl_X8_67 hw (rdR_F h23) dX8_in_40 ?_
      refine lv_iload_n hx hb dX8_in_43 rfl (lv_at hl 1 rfl) ?_
      obtain ⟨h25, hf⟩ := o_ite hf
      obtain ⟨r27, μ26, h24, hf⟩ := o_bind2 hf
      refine pw_goI hw (pw_runV (As := [.ref q22, .int a1]) (rest := [.ref q20]) hC mm_X8_stands tw_1342 (c_X8_stands h24 _) ⟨rfl, rfl, by decide, by decide⟩ hw h25 rfl hl.1 (Nat.le_of_ble_eq_true rfl) ⟨Nat.zero_le _, Nat.zero_le _⟩ rfl dX8_in_44) (fun H locs hw => ?_)
      refine lv_aload_n hx hb dX8_in_47 rfl (lv_at hl 0 rfl) ?_
      obtain ⟨q28, h29, hf⟩ := o_bind hf
      refine pw_get hC fl_X8_37 hw (rdR_F h29) dX8_in_48 ?_
      refine lv_iload_n hx hb dX8_in_51 rfl (lv_at hl 1 rfl) ?_
      obtain ⟨v30, h31, hf⟩ := o_bind hf
      refine pw_iald hC hw h31 dX8_in_52 ?_
      obtain ⟨h33, hf⟩ := o_ite hf
      obtain ⟨r35, μ34, h32, hf⟩ := o_bind2 hf
      refine pw_goI hw (pw_runV (As := [.int r27, .int v30]) (rest := []) hC mm_X7_child tw_1346 (c_X7_child h32 _) ⟨rfl, rfl, by decide, by decide⟩ hw h33 rfl hl.1 (Nat.le_of_ble_eq_true rfl) ⟨Nat.zero_le _, Nat.zero_le _⟩ rfl dX8_in_53) (fun H locs hw => ?_)
      refine lv_istore_n (lv' := [(2, .int r35), (0, .ref a0), (1, .int a1)]) hx hb dX8_in_56 rfl hl (by decide) rfl (fun ls hl => ?_)
      refine lv_aload_n hx hb dX8_in_57 rfl (lv_at hl 1 rfl) ?_
      obtain ⟨q36, h37, hf⟩ := o_bind hf
      refine pw_get hC fl_X8_67 hw (rdR_F h37) dX8_in_58 ?_
      obtain ⟨q38, h39, hf⟩ := o_bind hf
      refine pw_get hC fl_X8_222 hw (rdR_F h39) dX8_in_61 ?_
      refine lv_iload_n hx hb dX8_in_64 rfl (lv_at hl 0 rfl) ?_
      obtain ⟨v40, h41, hf⟩ := o_bind hf
      refine pw_iald hC hw h41 dX8_in_65 ?_
      refine lv_if_ge (tgt := 71) hx hb dX8_in_66 (by decide) (fun c42 => ?_) (fun c42 => ?_)
      · have hf := o_pos c42 hf
        refine lv_aload_n hx hb dX8_in_71 rfl (lv_at hl 1 rfl) ?_
        obtain ⟨q43, h44, hf⟩ := o_bind hf
        refine pw_get hC fl_X8_31 hw (rdR_F h44) dX8_in_72 ?_
        refine lv_iload_n hx hb dX8_in_75 rfl (lv_at hl 2 rfl) ?_
        obtain ⟨q45, h46, hf⟩ := o_bind hf
        refine pw_aald hC hw 6 rfl rfl h46 dX8_in_76 ?_
        refine lv_aload_n hx hb dX8_in_77 rfl (lv_at hl 1 rfl) ?_
        obtain ⟨q47, h48, hf⟩ := o_bind hf
        refine pw_get hC fl_X8_34 hw (rdR_F h48) dX8_in_78 ?_
        refine lv_iload_n hx hb dX8_in_81 rfl (lv_at hl 2 rfl) ?_
        obtain ⟨v49, h50, hf⟩ := o_bind hf
        refine pw_iald hC hw h50 dX8_in_82 ?_
        refine lv_aload_n hx hb dX8_in_83 rfl (lv_at hl 1 rfl) ?_
        obtain ⟨q51, h52, hf⟩ := o_bind hf
        refine pw_get hC fl_X8_37 hw (rdR_F h52) dX8_in_84 ?_
        refine lv_iload_n hx hb dX8_in_87 rfl (lv_at hl 2 rfl) ?_
        obtain ⟨v53, h54, hf⟩ := o_bind hf
        refine pw_iald hC hw h54 dX8_in_88 ?_
        obtain ⟨μ55, h56, hf⟩ := o_bind hf
        refine pw_iast hC hw h56 dX8_in_89 (fun H locs hw => ?_)
        refine lv_aload_n hx hb dX8_in_90 rfl (lv_at hl 1 rfl) ?_
        obtain ⟨q57, h58, hf⟩ := o_bind hf
        refine pw_get hC fl_X8_34 hw (rdR_F h58) dX8_in_91 ?_
        refine lv_iload_n hx hb dX8_in_94 rfl (lv_at hl 2 rfl) ?_
        refine lv_dup2_11 hx hb dX8_in_95 rfl rfl ?_
        obtain ⟨v59, h60, hf⟩ := o_bind hf
        refine pw_iald hC hw h60 dX8_in_96 ?_
        refine lv_iconst (v := 1) hx hb dX8_in_97 nc_iconst_1 ?_
        refine lv_iadd hx hb dX8_in_98 ?_
        obtain ⟨μ61, h62, hf⟩ := o_bind hf
        refine pw_iast hC hw h62 dX8_in_99 (fun H locs hw => ?_)
        refine lv_aload_n hx hb dX8_in_100 rfl (lv_at hl 1 rfl) ?_
        obtain ⟨q63, h64, hf⟩ := o_bind hf
        refine pw_get hC fl_X8_37 hw (rdR_F h64) dX8_in_101 ?_
        refine lv_iload_n hx hb dX8_in_104 rfl (lv_at hl 2 rfl) ?_
        refine lv_aload_n hx hb dX8_in_105 rfl (lv_at hl 1 rfl) ?_
        obtain ⟨q65, h66, hf⟩ := o_bind hf
        refine pw_get hC fl_X8_67 hw (rdR_F h66) dX8_in_106 ?_
        obtain ⟨q67, h68, hf⟩ := o_bind hf
        refine pw_get hC fl_X8_194 hw (rdR_F h68) dX8_in_109 ?_
        refine lv_iload_n hx hb dX8_in_112 rfl (lv_at hl 0 rfl) ?_
        obtain ⟨v69, h70, hf⟩ := o_bind hf
        refine pw_iald hC hw h70 dX8_in_113 ?_
        refine lv_if_le (tgt := 121) hx hb dX8_in_114 (by decide) (fun c71 => ?_) (fun c71 => ?_)
        · have hf := o_pos c71 hf
          refine lv_iconst (v := (-1)) hx hb dX8_in_121 nc_iconst_m1 ?_
          exact w_X8_in_L122 hC hr hlocks _ _ _ _ _ _ ls (lv_sub hl [] rfl) hw hf
        · have hf := o_neg c71 hf
          refine lv_iconst (v := 0) hx hb dX8_in_117 nc_iconst_0 ?_
          refine lv_goto (tgt := 122) hx hb dX8_in_118 (by decide) ?_
          exact w_X8_in_L122 hC hr hlocks _ _ _ _ _ _ ls (lv_sub hl [] rfl) hw hf
      · have hf := o_neg c42 hf
        refine lv_iconst (v := 0) hx hb dX8_in_69 nc_iconst_0 ?_
        obtain ⟨rfl, rfl⟩ := o_ret hf
        exact pw_zret hC hr hlocks (Or.inl rfl) hw dX8_in_70
    · have hf := o_neg c10 hf
      refine lv_iconst (v := 0) hx hb dX8_in_19 nc_iconst_0 ?_
      obtain ⟨rfl, rfl⟩ := o_ret hf
      exact pw_zret hC hr hlocks (Or.inl rfl) hw dX8_in_20
  · have hf := o_neg c5 hf
    refine lv_iconst (v := 0) hx hb dX8_in_8 nc_iconst_0 ?_
    obtain ⟨rfl, rfl⟩ := o_ret hf
    exact pw_zret hC hr hlocks (Or.inl rfl) hw dX8_in_9
theorem dX8_out_0 : decode cX8_out 0 = .ok (.aload_n 0, 1) := by decide +kernel
theorem dX8_out_1 : decode cX8_out 1 = .ok (.iload_n 1, 1) := by decide +kernel
theorem dX8_out_2 : decode cX8_out 2 = .ok (.invokevirtual 183, 3) := by decide +kernel
theorem dX8_out_5 : decode cX8_out 5 = .ok (.ifCond .eq 5, 3) := by decide +kernel
theorem dX8_out_8 : decode cX8_out 8 = .ok (.iconst 0, 1) := by decide +kernel
theorem dX8_out_9 : decode cX8_out 9 = .ok (.ireturn, 1) := by decide +kernel
theorem dX8_out_10 : decode cX8_out 10 = .ok (.aload_n 0, 1) := by decide +kernel
theorem dX8_out_11 : decode cX8_out 11 = .ok (.getfield 34, 3) := by decide +kernel
theorem dX8_out_14 : decode cX8_out 14 = .ok (.iload_n 1, 1) := by decide +kernel
theorem dX8_out_15 : decode cX8_out 15 = .ok (.iaload, 1) := by decide +kernel
theorem dX8_out_16 : decode cX8_out 16 = .ok (.ifCond .ne 5, 3) := by decide +kernel
theorem dX8_out_19 : decode cX8_out 19 = .ok (.iconst 0, 1) := by decide +kernel
theorem dX8_out_20 : decode cX8_out 20 = .ok (.ireturn, 1) := by decide +kernel
theorem dX8_out_21 : decode cX8_out 21 = .ok (.aload_n 0, 1) := by decide +kernel
theorem dX8_out_22 : decode cX8_out 22 = .ok (.getfield 34, 3) := by decide +kernel
theorem dX8_out_25 : decode cX8_out 25 = .ok (.iload_n 1, 1) := by decide +kernel
theorem dX8_out_26 : decode cX8_out 26 = .ok (.dup2, 1) := by decide +kernel
theorem dX8_out_27 : decode cX8_out 27 = .ok (.iaload, 1) := by decide +kernel
theorem dX8_out_28 : decode cX8_out 28 = .ok (.iconst 1, 1) := by decide +kernel
theorem dX8_out_29 : decode cX8_out 29 = .ok (.isub, 1) := by decide +kernel
theorem dX8_out_30 : decode cX8_out 30 = .ok (.iastore, 1) := by decide +kernel
theorem dX8_out_31 : decode cX8_out 31 = .ok (.aload_n 0, 1) := by decide +kernel
theorem dX8_out_32 : decode cX8_out 32 = .ok (.getfield 37, 3) := by decide +kernel
theorem dX8_out_35 : decode cX8_out 35 = .ok (.iload_n 1, 1) := by decide +kernel
theorem dX8_out_36 : decode cX8_out 36 = .ok (.aload_n 0, 1) := by decide +kernel
theorem dX8_out_37 : decode cX8_out 37 = .ok (.getfield 31, 3) := by decide +kernel
theorem dX8_out_40 : decode cX8_out 40 = .ok (.iload_n 1, 1) := by decide +kernel
theorem dX8_out_41 : decode cX8_out 41 = .ok (.aaload, 1) := by decide +kernel
theorem dX8_out_42 : decode cX8_out 42 = .ok (.aload_n 0, 1) := by decide +kernel
theorem dX8_out_43 : decode cX8_out 43 = .ok (.getfield 34, 3) := by decide +kernel
theorem dX8_out_46 : decode cX8_out 46 = .ok (.iload_n 1, 1) := by decide +kernel
theorem dX8_out_47 : decode cX8_out 47 = .ok (.iaload, 1) := by decide +kernel
theorem dX8_out_48 : decode cX8_out 48 = .ok (.iaload, 1) := by decide +kernel
theorem dX8_out_49 : decode cX8_out 49 = .ok (.iastore, 1) := by decide +kernel
theorem dX8_out_50 : decode cX8_out 50 = .ok (.iconst 1, 1) := by decide +kernel
theorem dX8_out_51 : decode cX8_out 51 = .ok (.ireturn, 1) := by decide +kernel
abbrev rm_X8_out : Room := { frames := 1, cells := 0, slots := 0, locals := 22 }
def f_X8_out (cy : Nat → ClassId) (a0 : Nat) (a1 : Int32) (μ : Mem) : Option (Int32 × Mem) :=
  if isO μ a0 7 = true then (ob2 (f_X8_noShelf cy a0 a1 μ) fun r4 μ3 => if r4 = 0 then ((rdR μ3 a0 7 8).bind fun q6 => (rdA cy μ3 1 q6 a1).bind fun v8 => if v8 = 0 then (some (0, μ3)) else (rdR μ3 a0 7 8).bind fun q11 => (rdA cy μ3 1 q11 a1).bind fun v13 => (wrA cy μ3 1 q11 a1 (v13 - 1)).bind fun μ15 => (rdR μ15 a0 7 9).bind fun q17 => (rdR μ15 a0 7 7).bind fun q19 => (rdQ cy μ15 6 q19 a1).bind fun q21 => (rdR μ15 a0 7 8).bind fun q23 => (rdA cy μ15 1 q23 a1).bind fun v25 => (rdA cy μ15 1 q21 v25).bind fun v27 => (wrA cy μ15 1 q17 a1 v27).bind fun μ29 => some (1, μ29)) else some (0, μ3)) else none
set_option maxRecDepth 100000 in
set_option maxHeartbeats 4000000 in
theorem c_X8_out {l : Launch} {g : Wg} {L : List Nat} {μ : Mem} {a0 : Nat} {a1 : Int32} {r : Int32} {μ' : Mem} (hf : f_X8_out g.2 a0 a1 μ = some (r, μ')) : MetI l yX8_out cX8_out 2 (some .boolean) rm_X8_out g L μ [.ref a0, .int a1] r μ' := by
  refine pw_met (Qc := fun A => QI g L A r μ') (by decide) (Nat.le_of_ble_eq_true rfl) ?_
  intro p e s m args below meth c A ls H locs hC hr hlocks hl hw
  have hx := hC.1
  have hb := hC.2.1
  have hl : lv_has ls 2 [(0, .ref a0), (1, .int a1)] := hl
  unfold f_X8_out at hf
  refine lv_aload_n hx hb dX8_out_0 rfl (lv_at hl 0 rfl) ?_
  refine lv_iload_n hx hb dX8_out_1 rfl (lv_at hl 1 rfl) ?_
  obtain ⟨h2, hf⟩ := o_ite hf
  obtain ⟨r4, μ3, h1, hf⟩ := o_bind2 hf
  refine pw_goI hw (pw_runV (As := [.int a1]) (rest := []) hC mm_X8_noShelf tw_1313 (c_X8_noShelf h1 _) ⟨rfl, rfl, by decide, by decide⟩ hw h2 rfl hl.1 (Nat.le_of_ble_eq_true rfl) ⟨Nat.zero_le _, Nat.zero_le _⟩ rfl dX8_out_2) (fun H locs hw => ?_)
  refine lv_if_eq (tgt := 10) hx hb dX8_out_5 (by decide) (fun c5 => ?_) (fun c5 => ?_)
  · have hf := o_pos c5 hf
    refine lv_aload_n hx hb dX8_out_10 rfl (lv_at hl 0 rfl) ?_
    obtain ⟨q6, h7, hf⟩ := o_bind hf
    refine pw_get hC fl_X8_34 hw (rdR_F h7) dX8_out_11 ?_
    refine lv_iload_n hx hb dX8_out_14 rfl (lv_at hl 1 rfl) ?_
    obtain ⟨v8, h9, hf⟩ := o_bind hf
    refine pw_iald hC hw h9 dX8_out_15 ?_
    refine lv_if_ne (tgt := 21) hx hb dX8_out_16 (by decide) (fun c10 => ?_) (fun c10 => ?_)
    · have hf := o_neg c10 hf
      refine lv_aload_n hx hb dX8_out_21 rfl (lv_at hl 0 rfl) ?_
      obtain ⟨q11, h12, hf⟩ := o_bind hf
      refine pw_get hC fl_X8_34 hw (rdR_F h12) dX8_out_22 ?_
      refine lv_iload_n hx hb dX8_out_25 rfl (lv_at hl 1 rfl) ?_
      refine lv_dup2_11 hx hb dX8_out_26 rfl rfl ?_
      obtain ⟨v13, h14, hf⟩ := o_bind hf
      refine pw_iald hC hw h14 dX8_out_27 ?_
      refine lv_iconst (v := 1) hx hb dX8_out_28 nc_iconst_1 ?_
      refine lv_isub hx hb dX8_out_29 ?_
      obtain ⟨μ15, h16, hf⟩ := o_bind hf
      refine pw_iast hC hw h16 dX8_out_30 (fun H locs hw => ?_)
      refine lv_aload_n hx hb dX8_out_31 rfl (lv_at hl 0 rfl) ?_
      obtain ⟨q17, h18, hf⟩ := o_bind hf
      refine pw_get hC fl_X8_37 hw (rdR_F h18) dX8_out_32 ?_
      refine lv_iload_n hx hb dX8_out_35 rfl (lv_at hl 1 rfl) ?_
      refine lv_aload_n hx hb dX8_out_36 rfl (lv_at hl 0 rfl) ?_
      obtain ⟨q19, h20, hf⟩ := o_bind hf
      refine pw_get hC fl_X8_31 hw (rdR_F h20) dX8_out_37 ?_
      refine lv_iload_n hx hb dX8_out_40 rfl (lv_at hl 1 rfl) ?_
      obtain ⟨q21, h22, hf⟩ := o_bind hf
      refine pw_aald hC hw 6 rfl rfl h22 dX8_out_41 ?_
      refine lv_aload_n hx hb dX8_out_42 rfl (lv_at hl 0 rfl) ?_
      obtain ⟨q23, h24, hf⟩ := o_bind hf
      refine pw_get hC fl_X8_34 hw (rdR_F h24) dX8_out_43 ?_
      refine lv_iload_n hx hb dX8_out_46 rfl (lv_at hl 1 rfl) ?_
      obtain ⟨v25, h26, hf⟩ := o_bind hf
      refine pw_iald hC hw h26 dX8_out_47 ?_
      obtain ⟨v27, h28, hf⟩ := o_bind hf
      refine pw_iald hC hw h28 dX8_out_48 ?_
      obtain ⟨μ29, h30, hf⟩ := o_bind hf
      refine pw_iast hC hw h30 dX8_out_49 (fun H locs hw => ?_)
      refine lv_iconst (v := 1) hx hb dX8_out_50 nc_iconst_1 ?_
      obtain ⟨rfl, rfl⟩ := o_ret hf
      exact pw_zret hC hr hlocks (Or.inr rfl) hw dX8_out_51
    · have hf := o_pos c10 hf
      refine lv_iconst (v := 0) hx hb dX8_out_19 nc_iconst_0 ?_
      obtain ⟨rfl, rfl⟩ := o_ret hf
      exact pw_zret hC hr hlocks (Or.inl rfl) hw dX8_out_20
  · have hf := o_neg c5 hf
    refine lv_iconst (v := 0) hx hb dX8_out_8 nc_iconst_0 ?_
    obtain ⟨rfl, rfl⟩ := o_ret hf
    exact pw_zret hC hr hlocks (Or.inl rfl) hw dX8_out_9
theorem dX8_look_0 : decode cX8_look 0 = .ok (.aload_n 0, 1) := by decide +kernel
theorem dX8_look_1 : decode cX8_look 1 = .ok (.iload_n 1, 1) := by decide +kernel
theorem dX8_look_2 : decode cX8_look 2 = .ok (.invokevirtual 183, 3) := by decide +kernel
theorem dX8_look_5 : decode cX8_look 5 = .ok (.ifCond .eq 5, 3) := by decide +kernel
theorem dX8_look_8 : decode cX8_look 8 = .ok (.iconst 0, 1) := by decide +kernel
theorem dX8_look_9 : decode cX8_look 9 = .ok (.ireturn, 1) := by decide +kernel
theorem dX8_look_10 : decode cX8_look 10 = .ok (.aload_n 0, 1) := by decide +kernel
theorem dX8_look_11 : decode cX8_look 11 = .ok (.getfield 67, 3) := by decide +kernel
theorem dX8_look_14 : decode cX8_look 14 = .ok (.aload_n 0, 1) := by decide +kernel
theorem dX8_look_15 : decode cX8_look 15 = .ok (.getfield 22, 3) := by decide +kernel
theorem dX8_look_18 : decode cX8_look 18 = .ok (.iload_n 1, 1) := by decide +kernel
theorem dX8_look_19 : decode cX8_look 19 = .ok (.aaload, 1) := by decide +kernel
theorem dX8_look_20 : decode cX8_look 20 = .ok (.invokevirtual 190, 3) := by decide +kernel
theorem dX8_look_23 : decode cX8_look 23 = .ok (.aload_n 0, 1) := by decide +kernel
theorem dX8_look_24 : decode cX8_look 24 = .ok (.aload_n 0, 1) := by decide +kernel
theorem dX8_look_25 : decode cX8_look 25 = .ok (.getfield 67, 3) := by decide +kernel
theorem dX8_look_28 : decode cX8_look 28 = .ok (.iload_n 1, 1) := by decide +kernel
theorem dX8_look_29 : decode cX8_look 29 = .ok (.invokevirtual 197, 3) := by decide +kernel
theorem dX8_look_32 : decode cX8_look 32 = .ok (.istore_n 3, 1) := by decide +kernel
theorem dX8_look_33 : decode cX8_look 33 = .ok (.iload_n 2, 1) := by decide +kernel
theorem dX8_look_34 : decode cX8_look 34 = .ok (.tableswitch 81 0 4 #[34, 41, 51, 61, 71], 34) := by decide +kernel
theorem dX8_look_68 : decode cX8_look 68 = .ok (.aload_n 0, 1) := by decide +kernel
theorem dX8_look_69 : decode cX8_look 69 = .ok (.getfield 25, 3) := by decide +kernel
theorem dX8_look_72 : decode cX8_look 72 = .ok (.iload_n 1, 1) := by decide +kernel
theorem dX8_look_73 : decode cX8_look 73 = .ok (.iaload, 1) := by decide +kernel
theorem dX8_look_74 : decode cX8_look 74 = .ok (.ireturn, 1) := by decide +kernel
theorem dX8_look_75 : decode cX8_look 75 = .ok (.aload_n 0, 1) := by decide +kernel
theorem dX8_look_76 : decode cX8_look 76 = .ok (.getfield 67, 3) := by decide +kernel
theorem dX8_look_79 : decode cX8_look 79 = .ok (.getfield 225, 3) := by decide +kernel
theorem dX8_look_82 : decode cX8_look 82 = .ok (.iload_n 3, 1) := by decide +kernel
theorem dX8_look_83 : decode cX8_look 83 = .ok (.iaload, 1) := by decide +kernel
theorem dX8_look_84 : decode cX8_look 84 = .ok (.ireturn, 1) := by decide +kernel
theorem dX8_look_85 : decode cX8_look 85 = .ok (.aload_n 0, 1) := by decide +kernel
theorem dX8_look_86 : decode cX8_look 86 = .ok (.getfield 67, 3) := by decide +kernel
theorem dX8_look_89 : decode cX8_look 89 = .ok (.getfield 194, 3) := by decide +kernel
theorem dX8_look_92 : decode cX8_look 92 = .ok (.iload_n 3, 1) := by decide +kernel
theorem dX8_look_93 : decode cX8_look 93 = .ok (.iaload, 1) := by decide +kernel
theorem dX8_look_94 : decode cX8_look 94 = .ok (.ireturn, 1) := by decide +kernel
theorem dX8_look_95 : decode cX8_look 95 = .ok (.aload_n 0, 1) := by decide +kernel
theorem dX8_look_96 : decode cX8_look 96 = .ok (.getfield 67, 3) := by decide +kernel
theorem dX8_look_99 : decode cX8_look 99 = .ok (.getfield 222, 3) := by decide +kernel
theorem dX8_look_102 : decode cX8_look 102 = .ok (.iload_n 3, 1) := by decide +kernel
theorem dX8_look_103 : decode cX8_look 103 = .ok (.iaload, 1) := by decide +kernel
theorem dX8_look_104 : decode cX8_look 104 = .ok (.ireturn, 1) := by decide +kernel
theorem dX8_look_105 : decode cX8_look 105 = .ok (.aload_n 0, 1) := by decide +kernel
theorem dX8_look_106 : decode cX8_look 106 = .ok (.getfield 67, 3) := by decide +kernel
theorem dX8_look_109 : decode cX8_look 109 = .ok (.getfield 228, 3) := by decide +kernel
theorem dX8_look_112 : decode cX8_look 112 = .ok (.iload_n 3, 1) := by decide +kernel
theorem dX8_look_113 : decode cX8_look 113 = .ok (.iaload, 1) := by decide +kernel
theorem dX8_look_114 : decode cX8_look 114 = .ok (.ireturn, 1) := by decide +kernel
theorem dX8_look_115 : decode cX8_look 115 = .ok (.iload_n 2, 1) := by decide +kernel
theorem dX8_look_116 : decode cX8_look 116 = .ok (.ifCond .lt 18, 3) := by decide +kernel
theorem dX8_look_119 : decode cX8_look 119 = .ok (.iload_n 2, 1) := by decide +kernel
theorem dX8_look_120 : decode cX8_look 120 = .ok (.bipush 10, 2) := by decide +kernel
theorem dX8_look_122 : decode cX8_look 122 = .ok (.if_icmp .gt 12, 3) := by decide +kernel
theorem dX8_look_125 : decode cX8_look 125 = .ok (.aload_n 0, 1) := by decide +kernel
theorem dX8_look_126 : decode cX8_look 126 = .ok (.getfield 37, 3) := by decide +kernel
theorem dX8_look_129 : decode cX8_look 129 = .ok (.iload_n 1, 1) := by decide +kernel
theorem dX8_look_130 : decode cX8_look 130 = .ok (.iaload, 1) := by decide +kernel
theorem dX8_look_131 : decode cX8_look 131 = .ok (.ifCond .ge 5, 3) := by decide +kernel
theorem dX8_look_134 : decode cX8_look 134 = .ok (.iconst (-1), 1) := by decide +kernel
theorem dX8_look_135 : decode cX8_look 135 = .ok (.ireturn, 1) := by decide +kernel
theorem dX8_look_136 : decode cX8_look 136 = .ok (.aload_n 0, 1) := by decide +kernel
theorem dX8_look_137 : decode cX8_look 137 = .ok (.getfield 67, 3) := by decide +kernel
theorem dX8_look_140 : decode cX8_look 140 = .ok (.iload_n 3, 1) := by decide +kernel
theorem dX8_look_141 : decode cX8_look 141 = .ok (.aload_n 0, 1) := by decide +kernel
theorem dX8_look_142 : decode cX8_look 142 = .ok (.getfield 37, 3) := by decide +kernel
theorem dX8_look_145 : decode cX8_look 145 = .ok (.iload_n 1, 1) := by decide +kernel
theorem dX8_look_146 : decode cX8_look 146 = .ok (.iaload, 1) := by decide +kernel
theorem dX8_look_147 : decode cX8_look 147 = .ok (.invokevirtual 180, 3) := by decide +kernel
theorem dX8_look_150 : decode cX8_look 150 = .ok (.istore 4, 2) := by decide +kernel
theorem dX8_look_152 : decode cX8_look 152 = .ok (.iload_n 2, 1) := by decide +kernel
theorem dX8_look_153 : decode cX8_look 153 = .ok (.tableswitch 86 5 9 #[35, 42, 53, 64, 75], 35) := by decide +kernel
theorem dX8_look_188 : decode cX8_look 188 = .ok (.aload_n 0, 1) := by decide +kernel
theorem dX8_look_189 : decode cX8_look 189 = .ok (.getfield 37, 3) := by decide +kernel
theorem dX8_look_192 : decode cX8_look 192 = .ok (.iload_n 1, 1) := by decide +kernel
theorem dX8_look_193 : decode cX8_look 193 = .ok (.iaload, 1) := by decide +kernel
theorem dX8_look_194 : decode cX8_look 194 = .ok (.ireturn, 1) := by decide +kernel
theorem dX8_look_195 : decode cX8_look 195 = .ok (.aload_n 0, 1) := by decide +kernel
theorem dX8_look_196 : decode cX8_look 196 = .ok (.getfield 67, 3) := by decide +kernel
theorem dX8_look_199 : decode cX8_look 199 = .ok (.getfield 216, 3) := by decide +kernel
theorem dX8_look_202 : decode cX8_look 202 = .ok (.iload 4, 2) := by decide +kernel
theorem dX8_look_204 : decode cX8_look 204 = .ok (.iaload, 1) := by decide +kernel
theorem dX8_look_205 : decode cX8_look 205 = .ok (.ireturn, 1) := by decide +kernel
theorem dX8_look_206 : decode cX8_look 206 = .ok (.aload_n 0, 1) := by decide +kernel
theorem dX8_look_207 : decode cX8_look 207 = .ok (.getfield 67, 3) := by decide +kernel
theorem dX8_look_210 : decode cX8_look 210 = .ok (.getfield 228, 3) := by decide +kernel
theorem dX8_look_213 : decode cX8_look 213 = .ok (.iload 4, 2) := by decide +kernel
theorem dX8_look_215 : decode cX8_look 215 = .ok (.iaload, 1) := by decide +kernel
theorem dX8_look_216 : decode cX8_look 216 = .ok (.ireturn, 1) := by decide +kernel
theorem dX8_look_217 : decode cX8_look 217 = .ok (.aload_n 0, 1) := by decide +kernel
theorem dX8_look_218 : decode cX8_look 218 = .ok (.getfield 67, 3) := by decide +kernel
theorem dX8_look_221 : decode cX8_look 221 = .ok (.getfield 210, 3) := by decide +kernel
theorem dX8_look_224 : decode cX8_look 224 = .ok (.iload 4, 2) := by decide +kernel
theorem dX8_look_226 : decode cX8_look 226 = .ok (.iaload, 1) := by decide +kernel
theorem dX8_look_227 : decode cX8_look 227 = .ok (.ireturn, 1) := by decide +kernel
theorem dX8_look_228 : decode cX8_look 228 = .ok (.aload_n 0, 1) := by decide +kernel
theorem dX8_look_229 : decode cX8_look 229 = .ok (.getfield 67, 3) := by decide +kernel
theorem dX8_look_232 : decode cX8_look 232 = .ok (.getfield 231, 3) := by decide +kernel
theorem dX8_look_235 : decode cX8_look 235 = .ok (.iload 4, 2) := by decide +kernel
theorem dX8_look_237 : decode cX8_look 237 = .ok (.iaload, 1) := by decide +kernel
theorem dX8_look_238 : decode cX8_look 238 = .ok (.ireturn, 1) := by decide +kernel
theorem dX8_look_239 : decode cX8_look 239 = .ok (.aload_n 0, 1) := by decide +kernel
theorem dX8_look_240 : decode cX8_look 240 = .ok (.getfield 67, 3) := by decide +kernel
theorem dX8_look_243 : decode cX8_look 243 = .ok (.getfield 234, 3) := by decide +kernel
theorem dX8_look_246 : decode cX8_look 246 = .ok (.iload 4, 2) := by decide +kernel
theorem dX8_look_248 : decode cX8_look 248 = .ok (.iaload, 1) := by decide +kernel
theorem dX8_look_249 : decode cX8_look 249 = .ok (.ireturn, 1) := by decide +kernel
abbrev rm_X8_look : Room := { frames := 124, cells := 0, slots := 0, locals := 3090 }
def f_X8_look_L134 (cy : Nat → ClassId)  (μ : Mem) : Option (Int32 × Mem) :=
  some ((-1), μ)
set_option maxRecDepth 100000 in
set_option maxHeartbeats 4000000 in
theorem w_X8_look_L134 {p : Program} {l : Launch} {e : Env} {s : State} {m : MethodId} {args : Array Value} {below : List Frame} {meth : Method} {c : Code} {A : Nat → Prop} {g : Wg} {L : List Nat} {r : Int32} {μ' : Mem} (hC : CX p m c cX8_look 5 s args RX8) (hr : meth.sig.returnType = (some .int)) (hlocks : meth.locks = false) : ∀  (μ : Mem) (H : Heap) (locs : List Loc) (ls : Array Slot), lv_has ls 5 [] → PW g L μ A s H locs → f_X8_look_L134 g.2  μ = some (r, μ') → W p l e rm_X8_look s m args below meth c H locs 0 0 (MQ below (QI g L A r μ') args s 0 0 A) (F0 m 134 ls []) := by
  have hx := hC.1
  have hb := hC.2.1
  intro  μ H locs ls hl hw hf
  unfold f_X8_look_L134 at hf
  refine lv_iconst (v := (-1)) hx hb dX8_look_134 nc_iconst_m1 ?_
  obtain ⟨rfl, rfl⟩ := o_ret hf
  exact pw_iret hC hr hlocks hw dX8_look_135
def f_X8_look (cy : Nat → ClassId) (a0 : Nat) (a1 : Int32) (a2 : Int32) (μ : Mem) : Option (Int32 × Mem) :=
  if isO μ a0 7 = true then (ob2 (f_X8_noShelf cy a0 a1 μ) fun r4 μ3 => if r4 = 0 then ((rdR μ3 a0 7 21).bind fun q6 => (rdR μ3 a0 7 5).bind fun q8 => (rdQ cy μ3 5 q8 a1).bind fun q10 => if isO μ3 q6 6 = true then ((f_X7_read cy q6 q10 μ3).bind fun μ14 => (rdR μ14 a0 7 21).bind fun q15 => if isO μ14 a0 7 = true then (ob2 (f_X8_stands cy a0 q15 a1 μ14) fun r20 μ19 => if Int32.toInt a2 < 0 ∨ 4 < Int32.toInt a2 then (if a2 < 0 then (f_X8_look_L134 cy  μ19) else if 10 < a2 then (f_X8_look_L134 cy  μ19) else (rdR μ19 a0 7 9).bind fun q24 => (rdA cy μ19 1 q24 a1).bind fun v26 => if 0 ≤ v26 then ((rdR μ19 a0 7 21).bind fun q29 => (rdR μ19 a0 7 9).bind fun q31 => (rdA cy μ19 1 q31 a1).bind fun v33 => if isO μ19 q29 6 = true then (ob2 (f_X7_child cy q29 r20 v33 μ19) fun r38 μ37 => if Int32.toInt a2 < 5 ∨ 9 < Int32.toInt a2 then ((rdR μ37 a0 7 21).bind fun q40 => (rdR μ37 q40 6 9).bind fun q42 => (rdA cy μ37 1 q42 r38).bind fun v44 => some (v44, μ37)) else if a2 = 5 then ((rdR μ37 a0 7 9).bind fun q47 => (rdA cy μ37 1 q47 a1).bind fun v49 => some (v49, μ37)) else if a2 = 6 then ((rdR μ37 a0 7 21).bind fun q52 => (rdR μ37 q52 6 6).bind fun q54 => (rdA cy μ37 1 q54 r38).bind fun v56 => some (v56, μ37)) else if a2 = 7 then ((rdR μ37 a0 7 21).bind fun q59 => (rdR μ37 q59 6 2).bind fun q61 => (rdA cy μ37 1 q61 r38).bind fun v63 => some (v63, μ37)) else if a2 = 8 then ((rdR μ37 a0 7 21).bind fun q66 => (rdR μ37 q66 6 7).bind fun q68 => (rdA cy μ37 1 q68 r38).bind fun v70 => some (v70, μ37)) else if a2 = 9 then ((rdR μ37 a0 7 21).bind fun q73 => (rdR μ37 q73 6 8).bind fun q75 => (rdA cy μ37 1 q75 r38).bind fun v77 => some (v77, μ37)) else none) else none) else f_X8_look_L134 cy  μ19) else if a2 = 0 then ((rdR μ19 a0 7 6).bind fun q80 => (rdA cy μ19 1 q80 a1).bind fun v82 => some (v82, μ19)) else if a2 = 1 then ((rdR μ19 a0 7 21).bind fun q85 => (rdR μ19 q85 6 12).bind fun q87 => (rdA cy μ19 1 q87 r20).bind fun v89 => some (v89, μ19)) else if a2 = 2 then ((rdR μ19 a0 7 21).bind fun q92 => (rdR μ19 q92 6 11).bind fun q94 => (rdA cy μ19 1 q94 r20).bind fun v96 => some (v96, μ19)) else if a2 = 3 then ((rdR μ19 a0 7 21).bind fun q99 => (rdR μ19 q99 6 10).bind fun q101 => (rdA cy μ19 1 q101 r20).bind fun v103 => some (v103, μ19)) else if a2 = 4 then ((rdR μ19 a0 7 21).bind fun q106 => (rdR μ19 q106 6 2).bind fun q108 => (rdA cy μ19 1 q108 r20).bind fun v110 => some (v110, μ19)) else none) else none) else none) else some (0, μ3)) else none
set_option maxRecDepth 100000 in
set_option maxHeartbeats 4000000 in
theorem c_X8_look {l : Launch} {g : Wg} {L : List Nat} {μ : Mem} {a0 : Nat} {a1 : Int32} {a2 : Int32} {r : Int32} {μ' : Mem} (hf : f_X8_look g.2 a0 a1 a2 μ = some (r, μ')) : MetI l yX8_look cX8_look 5 (some .int) rm_X8_look g L μ [.ref a0, .int a1, .int a2] r μ' := by
  refine pw_met (Qc := fun A => QI g L A r μ') (by decide) (Nat.le_of_ble_eq_true rfl) ?_
  intro p e s m args below meth c A ls H locs hC hr hlocks hl hw
  have hx := hC.1
  have hb := hC.2.1
  have hl : lv_has ls 5 [(0, .ref a0), (1, .int a1), (2, .int a2)] := hl
  unfold f_X8_look at hf
  refine lv_aload_n hx hb dX8_look_0 rfl (lv_at hl 0 rfl) ?_
  refine lv_iload_n hx hb dX8_look_1 rfl (lv_at hl 1 rfl) ?_
  obtain ⟨h2, hf⟩ := o_ite hf
  obtain ⟨r4, μ3, h1, hf⟩ := o_bind2 hf
  refine pw_goI hw (pw_runV (As := [.int a1]) (rest := []) hC mm_X8_noShelf tw_1313 (c_X8_noShelf h1 _) ⟨rfl, rfl, by decide, by decide⟩ hw h2 rfl hl.1 (Nat.le_of_ble_eq_true rfl) ⟨Nat.zero_le _, Nat.zero_le _⟩ rfl dX8_look_2) (fun H locs hw => ?_)
  refine lv_if_eq (tgt := 10) hx hb dX8_look_5 (by decide) (fun c5 => ?_) (fun c5 => ?_)
  · have hf := o_pos c5 hf
    refine lv_aload_n hx hb dX8_look_10 rfl (lv_at hl 0 rfl) ?_
    obtain ⟨q6, h7, hf⟩ := o_bind hf
    refine pw_get hC fl_X8_67 hw (rdR_F h7) dX8_look_11 ?_
    refine lv_aload_n hx hb dX8_look_14 rfl (lv_at hl 0 rfl) ?_
    obtain ⟨q8, h9, hf⟩ := o_bind hf
    refine pw_get hC fl_X8_22 hw (rdR_F h9) dX8_look_15 ?_
    refine lv_iload_n hx hb dX8_look_18 rfl (lv_at hl 1 rfl) ?_
    obtain ⟨q10, h11, hf⟩ := o_bind hf
    refine pw_aald hC hw 5 rfl rfl h11 dX8_look_19 ?_
    obtain ⟨h13, hf⟩ := o_ite hf
    obtain ⟨μ14, h12, hf⟩ := o_bind hf
    refine pw_goV hw (pw_runV (As := [.ref q10]) (rest := []) hC mm_X7_read tw_1325 (c_X7_read h12 _) ⟨rfl, rfl, by decide, by decide⟩ hw h13 rfl hl.1 (Nat.le_of_ble_eq_true rfl) ⟨Nat.zero_le _, Nat.zero_le _⟩ rfl dX8_look_20) (fun H locs hw => ?_)
    refine lv_aload_n hx hb dX8_look_23 rfl (lv_at hl 0 rfl) ?_
    refine lv_aload_n hx hb dX8_look_24 rfl (lv_at hl 0 rfl) ?_
    obtain ⟨q15, h16, hf⟩ := o_bind hf
    refine pw_get hC fl_X8_67 hw (rdR_F h16) dX8_look_25 ?_
    refine lv_iload_n hx hb dX8_look_28 rfl (lv_at hl 1 rfl) ?_
    obtain ⟨h18, hf⟩ := o_ite hf
    obtain ⟨r20, μ19, h17, hf⟩ := o_bind2 hf
    refine pw_goI hw (pw_runV (As := [.ref q15, .int a1]) (rest := []) hC mm_X8_stands tw_1342 (c_X8_stands h17 _) ⟨rfl, rfl, by decide, by decide⟩ hw h18 rfl hl.1 (Nat.le_of_ble_eq_true rfl) ⟨Nat.zero_le _, Nat.zero_le _⟩ rfl dX8_look_29) (fun H locs hw => ?_)
    refine lv_istore_n (lv' := [(3, .int r20), (0, .ref a0), (1, .int a1), (2, .int a2)]) hx hb dX8_look_32 rfl hl (by decide) rfl (fun ls hl => ?_)
    refine lv_iload_n hx hb dX8_look_33 rfl (lv_at hl 3 rfl) ?_
    rcases o_if hf with ⟨c21, hf⟩ | ⟨c21, hf⟩
    · refine lv_tableOut (tgt := 115) hx hb dX8_look_34 c21 (by decide) ?_
      refine lv_iload_n hx hb dX8_look_115 rfl (lv_at hl 3 rfl) ?_
      refine lv_if_lt (tgt := 134) hx hb dX8_look_116 (by decide) (fun c22 => ?_) (fun c22 => ?_)
      · have hf := o_pos c22 hf
        exact w_X8_look_L134 hC hr hlocks  _ _ _ ls (lv_sub hl [] rfl) hw hf
      · have hf := o_neg c22 hf
        refine lv_iload_n hx hb dX8_look_119 rfl (lv_at hl 3 rfl) ?_
        refine lv_bipush (v := 10) hx hb dX8_look_120 nc_bipush_10 ?_
        refine lv_icmp_gt (tgt := 134) hx hb dX8_look_122 (by decide) (fun c23 => ?_) (fun c23 => ?_)
        · have hf := o_pos c23 hf
          exact w_X8_look_L134 hC hr hlocks  _ _ _ ls (lv_sub hl [] rfl) hw hf
        · have hf := o_neg c23 hf
          refine lv_aload_n hx hb dX8_look_125 rfl (lv_at hl 1 rfl) ?_
          obtain ⟨q24, h25, hf⟩ := o_bind hf
          refine pw_get hC fl_X8_37 hw (rdR_F h25) dX8_look_126 ?_
          refine lv_iload_n hx hb dX8_look_129 rfl (lv_at hl 2 rfl) ?_
          obtain ⟨v26, h27, hf⟩ := o_bind hf
          refine pw_iald hC hw h27 dX8_look_130 ?_
          refine lv_if_ge (tgt := 136) hx hb dX8_look_131 (by decide) (fun c28 => ?_) (fun c28 => ?_)
          · have hf := o_pos c28 hf
            refine lv_aload_n hx hb dX8_look_136 rfl (lv_at hl 1 rfl) ?_
            obtain ⟨q29, h30, hf⟩ := o_bind hf
            refine pw_get hC fl_X8_67 hw (rdR_F h30) dX8_look_137 ?_
            refine lv_iload_n hx hb dX8_look_140 rfl (lv_at hl 0 rfl) ?_
            refine lv_aload_n hx hb dX8_look_141 rfl (lv_at hl 1 rfl) ?_
            obtain ⟨q31, h32, hf⟩ := o_bind hf
            refine pw_get hC fl_X8_37 hw (rdR_F h32) dX8_look_142 ?_
            refine lv_iload_n hx hb dX8_look_145 rfl (lv_at hl 2 rfl) ?_
            obtain ⟨v33, h34, hf⟩ := o_bind hf
            refine pw_iald hC hw h34 dX8_look_146 ?_
            obtain ⟨h36, hf⟩ := o_ite hf
            obtain ⟨r38, μ37, h35, hf⟩ := o_bind2 hf
            refine pw_goI hw (pw_runV (As := [.int r20, .int v33]) (rest := []) hC mm_X7_child tw_1346 (c_X7_child h35 _) ⟨rfl, rfl, by decide, by decide⟩ hw h36 rfl hl.1 (Nat.le_of_ble_eq_true rfl) ⟨Nat.zero_le _, Nat.zero_le _⟩ rfl dX8_look_147) (fun H locs hw => ?_)
            refine lv_istore (lv' := [(4, .int r38), (3, .int r20), (0, .ref a0), (1, .int a1), (2, .int a2)]) hx hb dX8_look_150 hl (by decide) rfl (fun ls hl => ?_)
            refine lv_iload_n hx hb dX8_look_152 rfl (lv_at hl 4 rfl) ?_
            rcases o_if hf with ⟨c39, hf⟩ | ⟨c39, hf⟩
            · refine lv_tableOut (tgt := 239) hx hb dX8_look_153 c39 (by decide) ?_
              refine lv_aload_n hx hb dX8_look_239 rfl (lv_at hl 2 rfl) ?_
              obtain ⟨q40, h41, hf⟩ := o_bind hf
              refine pw_get hC fl_X8_67 hw (rdR_F h41) dX8_look_240 ?_
              obtain ⟨q42, h43, hf⟩ := o_bind hf
              refine pw_get hC fl_X8_234 hw (rdR_F h43) dX8_look_243 ?_
              refine lv_iload hx hb dX8_look_246 (lv_at hl 0 rfl) ?_
              obtain ⟨v44, h45, hf⟩ := o_bind hf
              refine pw_iald hC hw h45 dX8_look_248 ?_
              obtain ⟨rfl, rfl⟩ := o_ret hf
              exact pw_iret hC hr hlocks hw dX8_look_249
            · rcases o_if hf with ⟨c46, hf⟩ | ⟨-, hf⟩
              · refine lv_tableIn (tgt := 188) hx hb dX8_look_153 (by rw [c46]; decide) (by rw [c46]; decide) (by rw [c46]; rfl) (by decide) ?_
                refine lv_aload_n hx hb dX8_look_188 rfl (lv_at hl 2 rfl) ?_
                obtain ⟨q47, h48, hf⟩ := o_bind hf
                refine pw_get hC fl_X8_37 hw (rdR_F h48) dX8_look_189 ?_
                refine lv_iload_n hx hb dX8_look_192 rfl (lv_at hl 3 rfl) ?_
                obtain ⟨v49, h50, hf⟩ := o_bind hf
                refine pw_iald hC hw h50 dX8_look_193 ?_
                obtain ⟨rfl, rfl⟩ := o_ret hf
                exact pw_iret hC hr hlocks hw dX8_look_194
              · rcases o_if hf with ⟨c51, hf⟩ | ⟨-, hf⟩
                · refine lv_tableIn (tgt := 195) hx hb dX8_look_153 (by rw [c51]; decide) (by rw [c51]; decide) (by rw [c51]; rfl) (by decide) ?_
                  refine lv_aload_n hx hb dX8_look_195 rfl (lv_at hl 2 rfl) ?_
                  obtain ⟨q52, h53, hf⟩ := o_bind hf
                  refine pw_get hC fl_X8_67 hw (rdR_F h53) dX8_look_196 ?_
                  obtain ⟨q54, h55, hf⟩ := o_bind hf
                  refine pw_get hC fl_X8_216 hw (rdR_F h55) dX8_look_199 ?_
                  refine lv_iload hx hb dX8_look_202 (lv_at hl 0 rfl) ?_
                  obtain ⟨v56, h57, hf⟩ := o_bind hf
                  refine pw_iald hC hw h57 dX8_look_204 ?_
                  obtain ⟨rfl, rfl⟩ := o_ret hf
                  exact pw_iret hC hr hlocks hw dX8_look_205
                · rcases o_if hf with ⟨c58, hf⟩ | ⟨-, hf⟩
                  · refine lv_tableIn (tgt := 206) hx hb dX8_look_153 (by rw [c58]; decide) (by rw [c58]; decide) (by rw [c58]; rfl) (by decide) ?_
                    refine lv_aload_n hx hb dX8_look_206 rfl (lv_at hl 2 rfl) ?_
                    obtain ⟨q59, h60, hf⟩ := o_bind hf
                    refine pw_get hC fl_X8_67 hw (rdR_F h60) dX8_look_207 ?_
                    obtain ⟨q61, h62, hf⟩ := o_bind hf
                    refine pw_get hC fl_X8_228 hw (rdR_F h62) dX8_look_210 ?_
                    refine lv_iload hx hb dX8_look_213 (lv_at hl 0 rfl) ?_
                    obtain ⟨v63, h64, hf⟩ := o_bind hf
                    refine pw_iald hC hw h64 dX8_look_215 ?_
                    obtain ⟨rfl, rfl⟩ := o_ret hf
                    exact pw_iret hC hr hlocks hw dX8_look_216
                  · rcases o_if hf with ⟨c65, hf⟩ | ⟨-, hf⟩
                    · refine lv_tableIn (tgt := 217) hx hb dX8_look_153 (by rw [c65]; decide) (by rw [c65]; decide) (by rw [c65]; rfl) (by decide) ?_
                      refine lv_aload_n hx hb dX8_look_217 rfl (lv_at hl 2 rfl) ?_
                      obtain ⟨q66, h67, hf⟩ := o_bind hf
                      refine pw_get hC fl_X8_67 hw (rdR_F h67) dX8_look_218 ?_
                      obtain ⟨q68, h69, hf⟩ := o_bind hf
                      refine pw_get hC fl_X8_210 hw (rdR_F h69) dX8_look_221 ?_
                      refine lv_iload hx hb dX8_look_224 (lv_at hl 0 rfl) ?_
                      obtain ⟨v70, h71, hf⟩ := o_bind hf
                      refine pw_iald hC hw h71 dX8_look_226 ?_
                      obtain ⟨rfl, rfl⟩ := o_ret hf
                      exact pw_iret hC hr hlocks hw dX8_look_227
                    · rcases o_if hf with ⟨c72, hf⟩ | ⟨-, hf⟩
                      · refine lv_tableIn (tgt := 228) hx hb dX8_look_153 (by rw [c72]; decide) (by rw [c72]; decide) (by rw [c72]; rfl) (by decide) ?_
                        refine lv_aload_n hx hb dX8_look_228 rfl (lv_at hl 2 rfl) ?_
                        obtain ⟨q73, h74, hf⟩ := o_bind hf
                        refine pw_get hC fl_X8_67 hw (rdR_F h74) dX8_look_229 ?_
                        obtain ⟨q75, h76, hf⟩ := o_bind hf
                        refine pw_get hC fl_X8_231 hw (rdR_F h76) dX8_look_232 ?_
                        refine lv_iload hx hb dX8_look_235 (lv_at hl 0 rfl) ?_
                        obtain ⟨v77, h78, hf⟩ := o_bind hf
                        refine pw_iald hC hw h78 dX8_look_237 ?_
                        obtain ⟨rfl, rfl⟩ := o_ret hf
                        exact pw_iret hC hr hlocks hw dX8_look_238
                      · cases hf
          · have hf := o_neg c28 hf
            exact w_X8_look_L134 hC hr hlocks  _ _ _ ls (lv_sub hl [] rfl) hw hf
    · rcases o_if hf with ⟨c79, hf⟩ | ⟨-, hf⟩
      · refine lv_tableIn (tgt := 68) hx hb dX8_look_34 (by rw [c79]; decide) (by rw [c79]; decide) (by rw [c79]; rfl) (by decide) ?_
        refine lv_aload_n hx hb dX8_look_68 rfl (lv_at hl 1 rfl) ?_
        obtain ⟨q80, h81, hf⟩ := o_bind hf
        refine pw_get hC fl_X8_25 hw (rdR_F h81) dX8_look_69 ?_
        refine lv_iload_n hx hb dX8_look_72 rfl (lv_at hl 2 rfl) ?_
        obtain ⟨v82, h83, hf⟩ := o_bind hf
        refine pw_iald hC hw h83 dX8_look_73 ?_
        obtain ⟨rfl, rfl⟩ := o_ret hf
        exact pw_iret hC hr hlocks hw dX8_look_74
      · rcases o_if hf with ⟨c84, hf⟩ | ⟨-, hf⟩
        · refine lv_tableIn (tgt := 75) hx hb dX8_look_34 (by rw [c84]; decide) (by rw [c84]; decide) (by rw [c84]; rfl) (by decide) ?_
          refine lv_aload_n hx hb dX8_look_75 rfl (lv_at hl 1 rfl) ?_
          obtain ⟨q85, h86, hf⟩ := o_bind hf
          refine pw_get hC fl_X8_67 hw (rdR_F h86) dX8_look_76 ?_
          obtain ⟨q87, h88, hf⟩ := o_bind hf
          refine pw_get hC fl_X8_225 hw (rdR_F h88) dX8_look_79 ?_
          refine lv_iload_n hx hb dX8_look_82 rfl (lv_at hl 0 rfl) ?_
          obtain ⟨v89, h90, hf⟩ := o_bind hf
          refine pw_iald hC hw h90 dX8_look_83 ?_
          obtain ⟨rfl, rfl⟩ := o_ret hf
          exact pw_iret hC hr hlocks hw dX8_look_84
        · rcases o_if hf with ⟨c91, hf⟩ | ⟨-, hf⟩
          · refine lv_tableIn (tgt := 85) hx hb dX8_look_34 (by rw [c91]; decide) (by rw [c91]; decide) (by rw [c91]; rfl) (by decide) ?_
            refine lv_aload_n hx hb dX8_look_85 rfl (lv_at hl 1 rfl) ?_
            obtain ⟨q92, h93, hf⟩ := o_bind hf
            refine pw_get hC fl_X8_67 hw (rdR_F h93) dX8_look_86 ?_
            obtain ⟨q94, h95, hf⟩ := o_bind hf
            refine pw_get hC fl_X8_194 hw (rdR_F h95) dX8_look_89 ?_
            refine lv_iload_n hx hb dX8_look_92 rfl (lv_at hl 0 rfl) ?_
            obtain ⟨v96, h97, hf⟩ := o_bind hf
            refine pw_iald hC hw h97 dX8_look_93 ?_
            obtain ⟨rfl, rfl⟩ := o_ret hf
            exact pw_iret hC hr hlocks hw dX8_look_94
          · rcases o_if hf with ⟨c98, hf⟩ | ⟨-, hf⟩
            · refine lv_tableIn (tgt := 95) hx hb dX8_look_34 (by rw [c98]; decide) (by rw [c98]; decide) (by rw [c98]; rfl) (by decide) ?_
              refine lv_aload_n hx hb dX8_look_95 rfl (lv_at hl 1 rfl) ?_
              obtain ⟨q99, h100, hf⟩ := o_bind hf
              refine pw_get hC fl_X8_67 hw (rdR_F h100) dX8_look_96 ?_
              obtain ⟨q101, h102, hf⟩ := o_bind hf
              refine pw_get hC fl_X8_222 hw (rdR_F h102) dX8_look_99 ?_
              refine lv_iload_n hx hb dX8_look_102 rfl (lv_at hl 0 rfl) ?_
              obtain ⟨v103, h104, hf⟩ := o_bind hf
              refine pw_iald hC hw h104 dX8_look_103 ?_
              obtain ⟨rfl, rfl⟩ := o_ret hf
              exact pw_iret hC hr hlocks hw dX8_look_104
            · rcases o_if hf with ⟨c105, hf⟩ | ⟨-, hf⟩
              · refine lv_tableIn (tgt := 105) hx hb dX8_look_34 (by rw [c105]; decide) (by rw [c105]; decide) (by rw [c105]; rfl) (by decide) ?_
                refine lv_aload_n hx hb dX8_look_105 rfl (lv_at hl 1 rfl) ?_
                obtain ⟨q106, h107, hf⟩ := o_bind hf
                refine pw_get hC fl_X8_67 hw (rdR_F h107) dX8_look_106 ?_
                obtain ⟨q108, h109, hf⟩ := o_bind hf
                refine pw_get hC fl_X8_228 hw (rdR_F h109) dX8_look_109 ?_
                refine lv_iload_n hx hb dX8_look_112 rfl (lv_at hl 0 rfl) ?_
                obtain ⟨v110, h111, hf⟩ := o_bind hf
                refine pw_iald hC hw h111 dX8_look_113 ?_
                obtain ⟨rfl, rfl⟩ := o_ret hf
                exact pw_iret hC hr hlocks hw dX8_look_114
              · cases hf
  · have hf := o_neg c5 hf
    refine lv_iconst (v := 0) hx hb dX8_look_8 nc_iconst_0 ?_
    obtain ⟨rfl, rfl⟩ := o_ret hf
    exact pw_iret hC hr hlocks hw dX8_look_9
theorem dX8_byteAt_0 : decode cX8_byteAt 0 = .ok (.aload_n 0, 1) := by decide +kernel
theorem dX8_byteAt_1 : decode cX8_byteAt 1 = .ok (.iload_n 1, 1) := by decide +kernel
theorem dX8_byteAt_2 : decode cX8_byteAt 2 = .ok (.invokevirtual 183, 3) := by decide +kernel
theorem dX8_byteAt_5 : decode cX8_byteAt 5 = .ok (.ifCond .eq 5, 3) := by decide +kernel
theorem dX8_byteAt_8 : decode cX8_byteAt 8 = .ok (.iconst 0, 1) := by decide +kernel
theorem dX8_byteAt_9 : decode cX8_byteAt 9 = .ok (.ireturn, 1) := by decide +kernel
theorem dX8_byteAt_10 : decode cX8_byteAt 10 = .ok (.iload_n 2, 1) := by decide +kernel
theorem dX8_byteAt_11 : decode cX8_byteAt 11 = .ok (.ifCond .lt 13, 3) := by decide +kernel
theorem dX8_byteAt_14 : decode cX8_byteAt 14 = .ok (.iload_n 2, 1) := by decide +kernel
theorem dX8_byteAt_15 : decode cX8_byteAt 15 = .ok (.aload_n 0, 1) := by decide +kernel
theorem dX8_byteAt_16 : decode cX8_byteAt 16 = .ok (.getfield 25, 3) := by decide +kernel
theorem dX8_byteAt_19 : decode cX8_byteAt 19 = .ok (.iload_n 1, 1) := by decide +kernel
theorem dX8_byteAt_20 : decode cX8_byteAt 20 = .ok (.iaload, 1) := by decide +kernel
theorem dX8_byteAt_21 : decode cX8_byteAt 21 = .ok (.if_icmp .lt 7, 3) := by decide +kernel
theorem dX8_byteAt_24 : decode cX8_byteAt 24 = .ok (.iconst (-1), 1) := by decide +kernel
theorem dX8_byteAt_25 : decode cX8_byteAt 25 = .ok (.goto 15, 3) := by decide +kernel
theorem dX8_byteAt_28 : decode cX8_byteAt 28 = .ok (.aload_n 0, 1) := by decide +kernel
theorem dX8_byteAt_29 : decode cX8_byteAt 29 = .ok (.getfield 22, 3) := by decide +kernel
theorem dX8_byteAt_32 : decode cX8_byteAt 32 = .ok (.iload_n 1, 1) := by decide +kernel
theorem dX8_byteAt_33 : decode cX8_byteAt 33 = .ok (.aaload, 1) := by decide +kernel
theorem dX8_byteAt_34 : decode cX8_byteAt 34 = .ok (.iload_n 2, 1) := by decide +kernel
theorem dX8_byteAt_35 : decode cX8_byteAt 35 = .ok (.baload, 1) := by decide +kernel
theorem dX8_byteAt_36 : decode cX8_byteAt 36 = .ok (.sipush 255, 3) := by decide +kernel
theorem dX8_byteAt_39 : decode cX8_byteAt 39 = .ok (.iand, 1) := by decide +kernel
theorem dX8_byteAt_40 : decode cX8_byteAt 40 = .ok (.ireturn, 1) := by decide +kernel
abbrev rm_X8_byteAt : Room := { frames := 1, cells := 0, slots := 0, locals := 22 }
def f_X8_byteAt_L24 (cy : Nat → ClassId)  (μ : Mem) : Option (Int32 × Mem) :=
  some ((-1), μ)
set_option maxRecDepth 100000 in
set_option maxHeartbeats 4000000 in
theorem w_X8_byteAt_L24 {p : Program} {l : Launch} {e : Env} {s : State} {m : MethodId} {args : Array Value} {below : List Frame} {meth : Method} {c : Code} {A : Nat → Prop} {g : Wg} {L : List Nat} {r : Int32} {μ' : Mem} (hC : CX p m c cX8_byteAt 3 s args RX8) (hr : meth.sig.returnType = (some .int)) (hlocks : meth.locks = false) : ∀  (μ : Mem) (H : Heap) (locs : List Loc) (ls : Array Slot), lv_has ls 3 [] → PW g L μ A s H locs → f_X8_byteAt_L24 g.2  μ = some (r, μ') → W p l e rm_X8_byteAt s m args below meth c H locs 0 0 (MQ below (QI g L A r μ') args s 0 0 A) (F0 m 24 ls []) := by
  have hx := hC.1
  have hb := hC.2.1
  intro  μ H locs ls hl hw hf
  unfold f_X8_byteAt_L24 at hf
  refine lv_iconst (v := (-1)) hx hb dX8_byteAt_24 nc_iconst_m1 ?_
  refine lv_goto (tgt := 40) hx hb dX8_byteAt_25 (by decide) ?_
  obtain ⟨rfl, rfl⟩ := o_ret hf
  exact pw_iret hC hr hlocks hw dX8_byteAt_40
def f_X8_byteAt (cy : Nat → ClassId) (a0 : Nat) (a1 : Int32) (a2 : Int32) (μ : Mem) : Option (Int32 × Mem) :=
  if isO μ a0 7 = true then (ob2 (f_X8_noShelf cy a0 a1 μ) fun r4 μ3 => if r4 = 0 then (if a2 < 0 then (f_X8_byteAt_L24 cy  μ3) else (rdR μ3 a0 7 6).bind fun q7 => (rdA cy μ3 1 q7 a1).bind fun v9 => if a2 < v9 then ((rdR μ3 a0 7 5).bind fun q12 => (rdQ cy μ3 5 q12 a1).bind fun q14 => (rdA cy μ3 0 q14 a2).bind fun v16 => some ((v16 &&& 255), μ3)) else f_X8_byteAt_L24 cy  μ3) else some (0, μ3)) else none
set_option maxRecDepth 100000 in
set_option maxHeartbeats 4000000 in
theorem c_X8_byteAt {l : Launch} {g : Wg} {L : List Nat} {μ : Mem} {a0 : Nat} {a1 : Int32} {a2 : Int32} {r : Int32} {μ' : Mem} (hf : f_X8_byteAt g.2 a0 a1 a2 μ = some (r, μ')) : MetI l yX8_byteAt cX8_byteAt 3 (some .int) rm_X8_byteAt g L μ [.ref a0, .int a1, .int a2] r μ' := by
  refine pw_met (Qc := fun A => QI g L A r μ') (by decide) (Nat.le_of_ble_eq_true rfl) ?_
  intro p e s m args below meth c A ls H locs hC hr hlocks hl hw
  have hx := hC.1
  have hb := hC.2.1
  have hl : lv_has ls 3 [(0, .ref a0), (1, .int a1), (2, .int a2)] := hl
  unfold f_X8_byteAt at hf
  refine lv_aload_n hx hb dX8_byteAt_0 rfl (lv_at hl 0 rfl) ?_
  refine lv_iload_n hx hb dX8_byteAt_1 rfl (lv_at hl 1 rfl) ?_
  obtain ⟨h2, hf⟩ := o_ite hf
  obtain ⟨r4, μ3, h1, hf⟩ := o_bind2 hf
  refine pw_goI hw (pw_runV (As := [.int a1]) (rest := []) hC mm_X8_noShelf tw_1313 (c_X8_noShelf h1 _) ⟨rfl, rfl, by decide, by decide⟩ hw h2 rfl hl.1 (Nat.le_of_ble_eq_true rfl) ⟨Nat.zero_le _, Nat.zero_le _⟩ rfl dX8_byteAt_2) (fun H locs hw => ?_)
  refine lv_if_eq (tgt := 10) hx hb dX8_byteAt_5 (by decide) (fun c5 => ?_) (fun c5 => ?_)
  · have hf := o_pos c5 hf
    refine lv_iload_n hx hb dX8_byteAt_10 rfl (lv_at hl 2 rfl) ?_
    refine lv_if_lt (tgt := 24) hx hb dX8_byteAt_11 (by decide) (fun c6 => ?_) (fun c6 => ?_)
    · have hf := o_pos c6 hf
      exact w_X8_byteAt_L24 hC hr hlocks  _ _ _ ls (lv_sub hl [] rfl) hw hf
    · have hf := o_neg c6 hf
      refine lv_iload_n hx hb dX8_byteAt_14 rfl (lv_at hl 2 rfl) ?_
      refine lv_aload_n hx hb dX8_byteAt_15 rfl (lv_at hl 0 rfl) ?_
      obtain ⟨q7, h8, hf⟩ := o_bind hf
      refine pw_get hC fl_X8_25 hw (rdR_F h8) dX8_byteAt_16 ?_
      refine lv_iload_n hx hb dX8_byteAt_19 rfl (lv_at hl 1 rfl) ?_
      obtain ⟨v9, h10, hf⟩ := o_bind hf
      refine pw_iald hC hw h10 dX8_byteAt_20 ?_
      refine lv_icmp_lt (tgt := 28) hx hb dX8_byteAt_21 (by decide) (fun c11 => ?_) (fun c11 => ?_)
      · have hf := o_pos c11 hf
        refine lv_aload_n hx hb dX8_byteAt_28 rfl (lv_at hl 0 rfl) ?_
        obtain ⟨q12, h13, hf⟩ := o_bind hf
        refine pw_get hC fl_X8_22 hw (rdR_F h13) dX8_byteAt_29 ?_
        refine lv_iload_n hx hb dX8_byteAt_32 rfl (lv_at hl 1 rfl) ?_
        obtain ⟨q14, h15, hf⟩ := o_bind hf
        refine pw_aald hC hw 5 rfl rfl h15 dX8_byteAt_33 ?_
        refine lv_iload_n hx hb dX8_byteAt_34 rfl (lv_at hl 2 rfl) ?_
        obtain ⟨v16, h17, hf⟩ := o_bind hf
        refine pw_bald hC hw h17 dX8_byteAt_35 ?_
        refine lv_sipush (v := 255) hx hb dX8_byteAt_36 nc_sipush_255 ?_
        refine lv_iand hx hb dX8_byteAt_39 ?_
        obtain ⟨rfl, rfl⟩ := o_ret hf
        exact pw_iret hC hr hlocks hw dX8_byteAt_40
      · have hf := o_neg c11 hf
        exact w_X8_byteAt_L24 hC hr hlocks  _ _ _ ls (lv_sub hl [] rfl) hw hf
  · have hf := o_neg c5 hf
    refine lv_iconst (v := 0) hx hb dX8_byteAt_8 nc_iconst_0 ?_
    obtain ⟨rfl, rfl⟩ := o_ret hf
    exact pw_iret hC hr hlocks hw dX8_byteAt_9
theorem dX8_number_0 : decode cX8_number 0 = .ok (.aload_n 0, 1) := by decide +kernel
theorem dX8_number_1 : decode cX8_number 1 = .ok (.iload_n 1, 1) := by decide +kernel
theorem dX8_number_2 : decode cX8_number 2 = .ok (.invokevirtual 183, 3) := by decide +kernel
theorem dX8_number_5 : decode cX8_number 5 = .ok (.ifCond .eq 5, 3) := by decide +kernel
theorem dX8_number_8 : decode cX8_number 8 = .ok (.lconst 0, 1) := by decide +kernel
theorem dX8_number_9 : decode cX8_number 9 = .ok (.lreturn, 1) := by decide +kernel
theorem dX8_number_10 : decode cX8_number 10 = .ok (.aload_n 0, 1) := by decide +kernel
theorem dX8_number_11 : decode cX8_number 11 = .ok (.aload_n 0, 1) := by decide +kernel
theorem dX8_number_12 : decode cX8_number 12 = .ok (.getfield 37, 3) := by decide +kernel
theorem dX8_number_15 : decode cX8_number 15 = .ok (.iload_n 1, 1) := by decide +kernel
theorem dX8_number_16 : decode cX8_number 16 = .ok (.iaload, 1) := by decide +kernel
theorem dX8_number_17 : decode cX8_number 17 = .ok (.ifCond .ge 7, 3) := by decide +kernel
theorem dX8_number_20 : decode cX8_number 20 = .ok (.iconst 1, 1) := by decide +kernel
theorem dX8_number_21 : decode cX8_number 21 = .ok (.goto 4, 3) := by decide +kernel
theorem dX8_number_24 : decode cX8_number 24 = .ok (.iconst 0, 1) := by decide +kernel
theorem dX8_number_25 : decode cX8_number 25 = .ok (.iconst 2, 1) := by decide +kernel
theorem dX8_number_26 : decode cX8_number 26 = .ok (.invokevirtual 186, 3) := by decide +kernel
theorem dX8_number_29 : decode cX8_number 29 = .ok (.ifCond .eq 5, 3) := by decide +kernel
theorem dX8_number_32 : decode cX8_number 32 = .ok (.lconst 0, 1) := by decide +kernel
theorem dX8_number_33 : decode cX8_number 33 = .ok (.lreturn, 1) := by decide +kernel
theorem dX8_number_34 : decode cX8_number 34 = .ok (.aload_n 0, 1) := by decide +kernel
theorem dX8_number_35 : decode cX8_number 35 = .ok (.getfield 67, 3) := by decide +kernel
theorem dX8_number_38 : decode cX8_number 38 = .ok (.aload_n 0, 1) := by decide +kernel
theorem dX8_number_39 : decode cX8_number 39 = .ok (.getfield 22, 3) := by decide +kernel
theorem dX8_number_42 : decode cX8_number 42 = .ok (.iload_n 1, 1) := by decide +kernel
theorem dX8_number_43 : decode cX8_number 43 = .ok (.aaload, 1) := by decide +kernel
theorem dX8_number_44 : decode cX8_number 44 = .ok (.invokevirtual 190, 3) := by decide +kernel
theorem dX8_number_47 : decode cX8_number 47 = .ok (.aload_n 0, 1) := by decide +kernel
theorem dX8_number_48 : decode cX8_number 48 = .ok (.getfield 67, 3) := by decide +kernel
theorem dX8_number_51 : decode cX8_number 51 = .ok (.aload_n 0, 1) := by decide +kernel
theorem dX8_number_52 : decode cX8_number 52 = .ok (.aload_n 0, 1) := by decide +kernel
theorem dX8_number_53 : decode cX8_number 53 = .ok (.getfield 67, 3) := by decide +kernel
theorem dX8_number_56 : decode cX8_number 56 = .ok (.iload_n 1, 1) := by decide +kernel
theorem dX8_number_57 : decode cX8_number 57 = .ok (.invokevirtual 197, 3) := by decide +kernel
theorem dX8_number_60 : decode cX8_number 60 = .ok (.aload_n 0, 1) := by decide +kernel
theorem dX8_number_61 : decode cX8_number 61 = .ok (.getfield 37, 3) := by decide +kernel
theorem dX8_number_64 : decode cX8_number 64 = .ok (.iload_n 1, 1) := by decide +kernel
theorem dX8_number_65 : decode cX8_number 65 = .ok (.iaload, 1) := by decide +kernel
theorem dX8_number_66 : decode cX8_number 66 = .ok (.invokevirtual 180, 3) := by decide +kernel
theorem dX8_number_69 : decode cX8_number 69 = .ok (.istore_n 2, 1) := by decide +kernel
theorem dX8_number_70 : decode cX8_number 70 = .ok (.aload_n 0, 1) := by decide +kernel
theorem dX8_number_71 : decode cX8_number 71 = .ok (.getfield 67, 3) := by decide +kernel
theorem dX8_number_74 : decode cX8_number 74 = .ok (.getfield 231, 3) := by decide +kernel
theorem dX8_number_77 : decode cX8_number 77 = .ok (.iload_n 2, 1) := by decide +kernel
theorem dX8_number_78 : decode cX8_number 78 = .ok (.iaload, 1) := by decide +kernel
theorem dX8_number_79 : decode cX8_number 79 = .ok (.istore_n 3, 1) := by decide +kernel
theorem dX8_number_80 : decode cX8_number 80 = .ok (.aload_n 0, 1) := by decide +kernel
theorem dX8_number_81 : decode cX8_number 81 = .ok (.getfield 67, 3) := by decide +kernel
theorem dX8_number_84 : decode cX8_number 84 = .ok (.getfield 228, 3) := by decide +kernel
theorem dX8_number_87 : decode cX8_number 87 = .ok (.iload_n 2, 1) := by decide +kernel
theorem dX8_number_88 : decode cX8_number 88 = .ok (.iaload, 1) := by decide +kernel
theorem dX8_number_89 : decode cX8_number 89 = .ok (.tableswitch 123 1 18 #[100, 123, 123, 123, 123, 123, 123, 112, 100, 123, 123, 123, 123, 123, 123, 87, 100, 100], 87) := by decide +kernel
theorem dX8_number_176 : decode cX8_number 176 = .ok (.aload_n 0, 1) := by decide +kernel
theorem dX8_number_177 : decode cX8_number 177 = .ok (.getfield 67, 3) := by decide +kernel
theorem dX8_number_180 : decode cX8_number 180 = .ok (.getfield 213, 3) := by decide +kernel
theorem dX8_number_183 : decode cX8_number 183 = .ok (.iload_n 3, 1) := by decide +kernel
theorem dX8_number_184 : decode cX8_number 184 = .ok (.invokestatic 97, 3) := by decide +kernel
theorem dX8_number_187 : decode cX8_number 187 = .ok (.i2l, 1) := by decide +kernel
theorem dX8_number_188 : decode cX8_number 188 = .ok (.lreturn, 1) := by decide +kernel
theorem dX8_number_189 : decode cX8_number 189 = .ok (.aload_n 0, 1) := by decide +kernel
theorem dX8_number_190 : decode cX8_number 190 = .ok (.getfield 67, 3) := by decide +kernel
theorem dX8_number_193 : decode cX8_number 193 = .ok (.getfield 213, 3) := by decide +kernel
theorem dX8_number_196 : decode cX8_number 196 = .ok (.iload_n 3, 1) := by decide +kernel
theorem dX8_number_197 : decode cX8_number 197 = .ok (.invokestatic 237, 3) := by decide +kernel
theorem dX8_number_200 : decode cX8_number 200 = .ok (.lreturn, 1) := by decide +kernel
theorem dX8_number_201 : decode cX8_number 201 = .ok (.aload_n 0, 1) := by decide +kernel
theorem dX8_number_202 : decode cX8_number 202 = .ok (.getfield 67, 3) := by decide +kernel
theorem dX8_number_205 : decode cX8_number 205 = .ok (.getfield 213, 3) := by decide +kernel
theorem dX8_number_208 : decode cX8_number 208 = .ok (.iload_n 3, 1) := by decide +kernel
theorem dX8_number_209 : decode cX8_number 209 = .ok (.baload, 1) := by decide +kernel
theorem dX8_number_210 : decode cX8_number 210 = .ok (.i2l, 1) := by decide +kernel
theorem dX8_number_211 : decode cX8_number 211 = .ok (.lreturn, 1) := by decide +kernel
theorem dX8_number_212 : decode cX8_number 212 = .ok (.aload_n 0, 1) := by decide +kernel
theorem dX8_number_213 : decode cX8_number 213 = .ok (.iconst 3, 1) := by decide +kernel
theorem dX8_number_214 : decode cX8_number 214 = .ok (.putfield 1, 3) := by decide +kernel
theorem dX8_number_217 : decode cX8_number 217 = .ok (.lconst 0, 1) := by decide +kernel
theorem dX8_number_218 : decode cX8_number 218 = .ok (.lreturn, 1) := by decide +kernel
abbrev rm_X8_number : Room := { frames := 124, cells := 0, slots := 0, locals := 3090 }
def f_X8_number_L25 (cy : Nat → ClassId) (a0 : Nat) (a1 : Int32) (t0 : Nat) (t1 : Int32) (μ : Mem) : Option (Int64 × Mem) :=
  if isO μ t0 7 = true then (ob2 (f_X8_throwsIf cy t0 t1 2 μ) fun r104 μ103 => if r104 = 0 then ((rdR μ103 a0 7 21).bind fun q106 => (rdR μ103 a0 7 5).bind fun q108 => (rdQ cy μ103 5 q108 a1).bind fun q110 => if isO μ103 q106 6 = true then ((f_X7_read cy q106 q110 μ103).bind fun μ114 => (rdR μ114 a0 7 21).bind fun q115 => (rdR μ114 a0 7 21).bind fun q117 => if isO μ114 a0 7 = true then (ob2 (f_X8_stands cy a0 q117 a1 μ114) fun r122 μ121 => (rdR μ121 a0 7 9).bind fun q123 => (rdA cy μ121 1 q123 a1).bind fun v125 => if isO μ121 q115 6 = true then (ob2 (f_X7_child cy q115 r122 v125 μ121) fun r130 μ129 => (rdR μ129 a0 7 21).bind fun q131 => (rdR μ129 q131 6 8).bind fun q133 => (rdA cy μ129 1 q133 r130).bind fun v135 => (rdR μ129 a0 7 21).bind fun q137 => (rdR μ129 q137 6 2).bind fun q139 => (rdA cy μ129 1 q139 r130).bind fun v141 => if Int32.toInt v141 < 1 ∨ 18 < Int32.toInt v141 then ((wrF μ129 a0 7 0 (.int 3)).bind fun μ144 => some ((0 : Int64), μ144)) else if v141 = 1 ∨ v141 = 9 ∨ v141 = 17 ∨ v141 = 18 then ((rdR μ129 a0 7 21).bind fun q147 => (rdR μ129 q147 6 0).bind fun q149 => ob2 (f_X8_longAt cy q149 v135 μ129) fun r153 μ152 => some (r153, μ152)) else if v141 = 2 ∨ v141 = 3 ∨ v141 = 4 ∨ v141 = 5 ∨ v141 = 6 ∨ v141 = 7 ∨ v141 = 10 ∨ v141 = 11 ∨ v141 = 12 ∨ v141 = 13 ∨ v141 = 14 ∨ v141 = 15 then ((wrF μ129 a0 7 0 (.int 3)).bind fun μ155 => some ((0 : Int64), μ155)) else if v141 = 8 then ((rdR μ129 a0 7 21).bind fun q158 => (rdR μ129 q158 6 0).bind fun q160 => (rdA cy μ129 0 q160 v135).bind fun v162 => some ((Int32.toInt64 v162), μ129)) else if v141 = 16 then ((rdR μ129 a0 7 21).bind fun q165 => (rdR μ129 q165 6 0).bind fun q167 => ob2 (f_X8_intAt cy q167 v135 μ129) fun r171 μ170 => some ((Int32.toInt64 r171), μ170)) else none) else none) else none) else none) else some ((0 : Int64), μ103)) else none
set_option maxRecDepth 100000 in
set_option maxHeartbeats 4000000 in
theorem w_X8_number_L25 {p : Program} {l : Launch} {e : Env} {s : State} {m : MethodId} {args : Array Value} {below : List Frame} {meth : Method} {c : Code} {A : Nat → Prop} {g : Wg} {L : List Nat} {r : Int64} {μ' : Mem} (hC : CX p m c cX8_number 4 s args RX8) (hr : meth.sig.returnType = (some .long)) (hlocks : meth.locks = false) : ∀ (a0 : Nat) (a1 : Int32) (t0 : Nat) (t1 : Int32) (μ : Mem) (H : Heap) (locs : List Loc) (ls : Array Slot), lv_has ls 4 [(0, .ref a0), (1, .int a1)] → PW g L μ A s H locs → f_X8_number_L25 g.2 a0 a1 t0 t1 μ = some (r, μ') → W p l e rm_X8_number s m args below meth c H locs 0 0 (MQ below (QL g L A r μ') args s 0 0 A) (F0 m 25 ls [.int t1, .ref t0]) := by
  have hx := hC.1
  have hb := hC.2.1
  intro a0 a1 t0 t1 μ H locs ls hl hw hf
  unfold f_X8_number_L25 at hf
  refine lv_iconst (v := 2) hx hb dX8_number_25 nc_iconst_2 ?_
  obtain ⟨h102, hf⟩ := o_ite hf
  obtain ⟨r104, μ103, h101, hf⟩ := o_bind2 hf
  refine pw_goI hw (pw_runV (As := [.int t1, .int 2]) (rest := []) hC mm_X8_throwsIf tw_1317 (c_X8_throwsIf h101 _) ⟨rfl, rfl, by decide, by decide⟩ hw h102 rfl hl.1 (Nat.le_of_ble_eq_true rfl) ⟨Nat.zero_le _, Nat.zero_le _⟩ rfl dX8_number_26) (fun H locs hw => ?_)
  refine lv_if_eq (tgt := 34) hx hb dX8_number_29 (by decide) (fun c105 => ?_) (fun c105 => ?_)
  · have hf := o_pos c105 hf
    refine lv_aload_n hx hb dX8_number_34 rfl (lv_at hl 0 rfl) ?_
    obtain ⟨q106, h107, hf⟩ := o_bind hf
    refine pw_get hC fl_X8_67 hw (rdR_F h107) dX8_number_35 ?_
    refine lv_aload_n hx hb dX8_number_38 rfl (lv_at hl 0 rfl) ?_
    obtain ⟨q108, h109, hf⟩ := o_bind hf
    refine pw_get hC fl_X8_22 hw (rdR_F h109) dX8_number_39 ?_
    refine lv_iload_n hx hb dX8_number_42 rfl (lv_at hl 1 rfl) ?_
    obtain ⟨q110, h111, hf⟩ := o_bind hf
    refine pw_aald hC hw 5 rfl rfl h111 dX8_number_43 ?_
    obtain ⟨h113, hf⟩ := o_ite hf
    obtain ⟨μ114, h112, hf⟩ := o_bind hf
    refine pw_goV hw (pw_runV (As := [.ref q110]) (rest := []) hC mm_X7_read tw_1325 (c_X7_read h112 _) ⟨rfl, rfl, by decide, by decide⟩ hw h113 rfl hl.1 (Nat.le_of_ble_eq_true rfl) ⟨Nat.zero_le _, Nat.zero_le _⟩ rfl dX8_number_44) (fun H locs hw => ?_)
    refine lv_aload_n hx hb dX8_number_47 rfl (lv_at hl 0 rfl) ?_
    obtain ⟨q115, h116, hf⟩ := o_bind hf
    refine pw_get hC fl_X8_67 hw (rdR_F h116) dX8_number_48 ?_
    refine lv_aload_n hx hb dX8_number_51 rfl (lv_at hl 0 rfl) ?_
    refine lv_aload_n hx hb dX8_number_52 rfl (lv_at hl 0 rfl) ?_
    obtain ⟨q117, h118, hf⟩ := o_bind hf
    refine pw_get hC fl_X8_67 hw (rdR_F h118) dX8_number_53 ?_
    refine lv_iload_n hx hb dX8_number_56 rfl (lv_at hl 1 rfl) ?_
    obtain ⟨h120, hf⟩ := o_ite hf
    obtain ⟨r122, μ121, h119, hf⟩ := o_bind2 hf
    refine pw_goI hw (pw_runV (As := [.ref q117, .int a1]) (rest := [.ref q115]) hC mm_X8_stands tw_1342 (c_X8_stands h119 _) ⟨rfl, rfl, by decide, by decide⟩ hw h120 rfl hl.1 (Nat.le_of_ble_eq_true rfl) ⟨Nat.zero_le _, Nat.zero_le _⟩ rfl dX8_number_57) (fun H locs hw => ?_)
    refine lv_aload_n hx hb dX8_number_60 rfl (lv_at hl 0 rfl) ?_
    obtain ⟨q123, h124, hf⟩ := o_bind hf
    refine pw_get hC fl_X8_37 hw (rdR_F h124) dX8_number_61 ?_
    refine lv_iload_n hx hb dX8_number_64 rfl (lv_at hl 1 rfl) ?_
    obtain ⟨v125, h126, hf⟩ := o_bind hf
    refine pw_iald hC hw h126 dX8_number_65 ?_
    obtain ⟨h128, hf⟩ := o_ite hf
    obtain ⟨r130, μ129, h127, hf⟩ := o_bind2 hf
    refine pw_goI hw (pw_runV (As := [.int r122, .int v125]) (rest := []) hC mm_X7_child tw_1346 (c_X7_child h127 _) ⟨rfl, rfl, by decide, by decide⟩ hw h128 rfl hl.1 (Nat.le_of_ble_eq_true rfl) ⟨Nat.zero_le _, Nat.zero_le _⟩ rfl dX8_number_66) (fun H locs hw => ?_)
    refine lv_istore_n (lv' := [(2, .int r130), (0, .ref a0), (1, .int a1)]) hx hb dX8_number_69 rfl hl (by decide) rfl (fun ls hl => ?_)
    refine lv_aload_n hx hb dX8_number_70 rfl (lv_at hl 1 rfl) ?_
    obtain ⟨q131, h132, hf⟩ := o_bind hf
    refine pw_get hC fl_X8_67 hw (rdR_F h132) dX8_number_71 ?_
    obtain ⟨q133, h134, hf⟩ := o_bind hf
    refine pw_get hC fl_X8_231 hw (rdR_F h134) dX8_number_74 ?_
    refine lv_iload_n hx hb dX8_number_77 rfl (lv_at hl 0 rfl) ?_
    obtain ⟨v135, h136, hf⟩ := o_bind hf
    refine pw_iald hC hw h136 dX8_number_78 ?_
    refine lv_istore_n (lv' := [(3, .int v135), (2, .int r130), (0, .ref a0), (1, .int a1)]) hx hb dX8_number_79 rfl hl (by decide) rfl (fun ls hl => ?_)
    refine lv_aload_n hx hb dX8_number_80 rfl (lv_at hl 2 rfl) ?_
    obtain ⟨q137, h138, hf⟩ := o_bind hf
    refine pw_get hC fl_X8_67 hw (rdR_F h138) dX8_number_81 ?_
    obtain ⟨q139, h140, hf⟩ := o_bind hf
    refine pw_get hC fl_X8_228 hw (rdR_F h140) dX8_number_84 ?_
    refine lv_iload_n hx hb dX8_number_87 rfl (lv_at hl 1 rfl) ?_
    obtain ⟨v141, h142, hf⟩ := o_bind hf
    refine pw_iald hC hw h142 dX8_number_88 ?_
    rcases o_if hf with ⟨c143, hf⟩ | ⟨c143, hf⟩
    · refine lv_tableOut (tgt := 212) hx hb dX8_number_89 c143 (by decide) ?_
      refine lv_aload_n hx hb dX8_number_212 rfl (lv_at hl 2 rfl) ?_
      refine lv_iconst (v := 3) hx hb dX8_number_213 nc_iconst_3 ?_
      obtain ⟨μ144, h145, hf⟩ := o_bind hf
      refine pw_put hC fl_X8_1 hw h145 .int fd_X8_0 rfl rfl dX8_number_214 (fun H locs hw => ?_)
      refine lv_lconst (v := 0) hx hb dX8_number_217 (by decide +kernel) ?_
      obtain ⟨rfl, rfl⟩ := o_ret hf
      exact pw_lret hC hr hlocks hw dX8_number_218
    · rcases o_if hf with ⟨c146, hf⟩ | ⟨-, hf⟩
      · have hj : W p l e rm_X8_number s m args below meth c H locs 0 0 (MQ below (QL g L A r μ') args s 0 0 A) (F0 m 189 ls []) := by
          refine lv_aload_n hx hb dX8_number_189 rfl (lv_at hl 2 rfl) ?_
          obtain ⟨q147, h148, hf⟩ := o_bind hf
          refine pw_get hC fl_X8_67 hw (rdR_F h148) dX8_number_190 ?_
          obtain ⟨q149, h150, hf⟩ := o_bind hf
          refine pw_get hC fl_X8_213 hw (rdR_F h150) dX8_number_193 ?_
          refine lv_iload_n hx hb dX8_number_196 rfl (lv_at hl 0 rfl) ?_
          obtain ⟨r153, μ152, h151, hf⟩ := o_bind2 hf
          refine pw_goL hw (pw_runS (As := [.ref q149, .int v135]) (rest := []) hC mm_X8_longAt tw_1386 (c_X8_longAt h151 _) ⟨rfl, rfl, by decide, by decide⟩ hw rfl hl.1 (Nat.le_of_ble_eq_true rfl) ⟨Nat.zero_le _, Nat.zero_le _⟩ rfl dX8_number_197) (fun H locs hw => ?_)
          obtain ⟨rfl, rfl⟩ := o_ret hf
          exact pw_lret hC hr hlocks hw dX8_number_200
        rcases c146 with c146 | c146 | c146 | c146
        · exact lv_tableIn (tgt := 189) hx hb dX8_number_89 (by rw [c146]; decide) (by rw [c146]; decide) (by rw [c146]; rfl) (by decide) hj
        · exact lv_tableIn (tgt := 189) hx hb dX8_number_89 (by rw [c146]; decide) (by rw [c146]; decide) (by rw [c146]; rfl) (by decide) hj
        · exact lv_tableIn (tgt := 189) hx hb dX8_number_89 (by rw [c146]; decide) (by rw [c146]; decide) (by rw [c146]; rfl) (by decide) hj
        · exact lv_tableIn (tgt := 189) hx hb dX8_number_89 (by rw [c146]; decide) (by rw [c146]; decide) (by rw [c146]; rfl) (by decide) hj
      · rcases o_if hf with ⟨c154, hf⟩ | ⟨-, hf⟩
        · have hj : W p l e rm_X8_number s m args below meth c H locs 0 0 (MQ below (QL g L A r μ') args s 0 0 A) (F0 m 212 ls []) := by
            refine lv_aload_n hx hb dX8_number_212 rfl (lv_at hl 2 rfl) ?_
            refine lv_iconst (v := 3) hx hb dX8_number_213 nc_iconst_3 ?_
            obtain ⟨μ155, h156, hf⟩ := o_bind hf
            refine pw_put hC fl_X8_1 hw h156 .int fd_X8_0 rfl rfl dX8_number_214 (fun H locs hw => ?_)
            refine lv_lconst (v := 0) hx hb dX8_number_217 (by decide +kernel) ?_
            obtain ⟨rfl, rfl⟩ := o_ret hf
            exact pw_lret hC hr hlocks hw dX8_number_218
          rcases c154 with c154 | c154 | c154 | c154 | c154 | c154 | c154 | c154 | c154 | c154 | c154 | c154
          · exact lv_tableIn (tgt := 212) hx hb dX8_number_89 (by rw [c154]; decide) (by rw [c154]; decide) (by rw [c154]; rfl) (by decide) hj
          · exact lv_tableIn (tgt := 212) hx hb dX8_number_89 (by rw [c154]; decide) (by rw [c154]; decide) (by rw [c154]; rfl) (by decide) hj
          · exact lv_tableIn (tgt := 212) hx hb dX8_number_89 (by rw [c154]; decide) (by rw [c154]; decide) (by rw [c154]; rfl) (by decide) hj
          · exact lv_tableIn (tgt := 212) hx hb dX8_number_89 (by rw [c154]; decide) (by rw [c154]; decide) (by rw [c154]; rfl) (by decide) hj
          · exact lv_tableIn (tgt := 212) hx hb dX8_number_89 (by rw [c154]; decide) (by rw [c154]; decide) (by rw [c154]; rfl) (by decide) hj
          · exact lv_tableIn (tgt := 212) hx hb dX8_number_89 (by rw [c154]; decide) (by rw [c154]; decide) (by rw [c154]; rfl) (by decide) hj
          · exact lv_tableIn (tgt := 212) hx hb dX8_number_89 (by rw [c154]; decide) (by rw [c154]; decide) (by rw [c154]; rfl) (by decide) hj
          · exact lv_tableIn (tgt := 212) hx hb dX8_number_89 (by rw [c154]; decide) (by rw [c154]; decide) (by rw [c154]; rfl) (by decide) hj
          · exact lv_tableIn (tgt := 212) hx hb dX8_number_89 (by rw [c154]; decide) (by rw [c154]; decide) (by rw [c154]; rfl) (by decide) hj
          · exact lv_tableIn (tgt := 212) hx hb dX8_number_89 (by rw [c154]; decide) (by rw [c154]; decide) (by rw [c154]; rfl) (by decide) hj
          · exact lv_tableIn (tgt := 212) hx hb dX8_number_89 (by rw [c154]; decide) (by rw [c154]; decide) (by rw [c154]; rfl) (by decide) hj
          · exact lv_tableIn (tgt := 212) hx hb dX8_number_89 (by rw [c154]; decide) (by rw [c154]; decide) (by rw [c154]; rfl) (by decide) hj
        · rcases o_if hf with ⟨c157, hf⟩ | ⟨-, hf⟩
          · refine lv_tableIn (tgt := 201) hx hb dX8_number_89 (by rw [c157]; decide) (by rw [c157]; decide) (by rw [c157]; rfl) (by decide) ?_
            refine lv_aload_n hx hb dX8_number_201 rfl (lv_at hl 2 rfl) ?_
            obtain ⟨q158, h159, hf⟩ := o_bind hf
            refine pw_get hC fl_X8_67 hw (rdR_F h159) dX8_number_202 ?_
            obtain ⟨q160, h161, hf⟩ := o_bind hf
            refine pw_get hC fl_X8_213 hw (rdR_F h161) dX8_number_205 ?_
            refine lv_iload_n hx hb dX8_number_208 rfl (lv_at hl 0 rfl) ?_
            obtain ⟨v162, h163, hf⟩ := o_bind hf
            refine pw_bald hC hw h163 dX8_number_209 ?_
            refine lv_i2l hx hb dX8_number_210 rfl ?_
            obtain ⟨rfl, rfl⟩ := o_ret hf
            exact pw_lret hC hr hlocks hw dX8_number_211
          · rcases o_if hf with ⟨c164, hf⟩ | ⟨-, hf⟩
            · refine lv_tableIn (tgt := 176) hx hb dX8_number_89 (by rw [c164]; decide) (by rw [c164]; decide) (by rw [c164]; rfl) (by decide) ?_
              refine lv_aload_n hx hb dX8_number_176 rfl (lv_at hl 2 rfl) ?_
              obtain ⟨q165, h166, hf⟩ := o_bind hf
              refine pw_get hC fl_X8_67 hw (rdR_F h166) dX8_number_177 ?_
              obtain ⟨q167, h168, hf⟩ := o_bind hf
              refine pw_get hC fl_X8_213 hw (rdR_F h168) dX8_number_180 ?_
              refine lv_iload_n hx hb dX8_number_183 rfl (lv_at hl 0 rfl) ?_
              obtain ⟨r171, μ170, h169, hf⟩ := o_bind2 hf
              refine pw_goI hw (pw_runS (As := [.ref q167, .int v135]) (rest := []) hC mm_X8_intAt tw_1245 (c_X8_intAt h169 _) ⟨rfl, rfl, by decide, by decide⟩ hw rfl hl.1 (Nat.le_of_ble_eq_true rfl) ⟨Nat.zero_le _, Nat.zero_le _⟩ rfl dX8_number_184) (fun H locs hw => ?_)
              refine lv_i2l hx hb dX8_number_187 rfl ?_
              obtain ⟨rfl, rfl⟩ := o_ret hf
              exact pw_lret hC hr hlocks hw dX8_number_188
            · cases hf
  · have hf := o_neg c105 hf
    refine lv_lconst (v := 0) hx hb dX8_number_32 (by decide +kernel) ?_
    obtain ⟨rfl, rfl⟩ := o_ret hf
    exact pw_lret hC hr hlocks hw dX8_number_33
def f_X8_number (cy : Nat → ClassId) (a0 : Nat) (a1 : Int32) (μ : Mem) : Option (Int64 × Mem) :=
  if isO μ a0 7 = true then (ob2 (f_X8_noShelf cy a0 a1 μ) fun r4 μ3 => if r4 = 0 then ((rdR μ3 a0 7 9).bind fun q6 => (rdA cy μ3 1 q6 a1).bind fun v8 => if 0 ≤ v8 then (f_X8_number_L25 cy a0 a1 a0 0 μ3) else f_X8_number_L25 cy a0 a1 a0 1 μ3) else some ((0 : Int64), μ3)) else none
set_option maxRecDepth 100000 in
set_option maxHeartbeats 4000000 in
theorem c_X8_number {l : Launch} {g : Wg} {L : List Nat} {μ : Mem} {a0 : Nat} {a1 : Int32} {r : Int64} {μ' : Mem} (hf : f_X8_number g.2 a0 a1 μ = some (r, μ')) : MetL l yX8_number cX8_number 4 (some .long) rm_X8_number g L μ [.ref a0, .int a1] r μ' := by
  refine pw_met (Qc := fun A => QL g L A r μ') (by decide) (Nat.le_of_ble_eq_true rfl) ?_
  intro p e s m args below meth c A ls H locs hC hr hlocks hl hw
  have hx := hC.1
  have hb := hC.2.1
  have hl : lv_has ls 4 [(0, .ref a0), (1, .int a1)] := hl
  unfold f_X8_number at hf
  refine lv_aload_n hx hb dX8_number_0 rfl (lv_at hl 0 rfl) ?_
  refine lv_iload_n hx hb dX8_number_1 rfl (lv_at hl 1 rfl) ?_
  obtain ⟨h2, hf⟩ := o_ite hf
  obtain ⟨r4, μ3, h1, hf⟩ := o_bind2 hf
  refine pw_goI hw (pw_runV (As := [.int a1]) (rest := []) hC mm_X8_noShelf tw_1313 (c_X8_noShelf h1 _) ⟨rfl, rfl, by decide, by decide⟩ hw h2 rfl hl.1 (Nat.le_of_ble_eq_true rfl) ⟨Nat.zero_le _, Nat.zero_le _⟩ rfl dX8_number_2) (fun H locs hw => ?_)
  refine lv_if_eq (tgt := 10) hx hb dX8_number_5 (by decide) (fun c5 => ?_) (fun c5 => ?_)
  · have hf := o_pos c5 hf
    refine lv_aload_n hx hb dX8_number_10 rfl (lv_at hl 0 rfl) ?_
    refine lv_aload_n hx hb dX8_number_11 rfl (lv_at hl 0 rfl) ?_
    obtain ⟨q6, h7, hf⟩ := o_bind hf
    refine pw_get hC fl_X8_37 hw (rdR_F h7) dX8_number_12 ?_
    refine lv_iload_n hx hb dX8_number_15 rfl (lv_at hl 1 rfl) ?_
    obtain ⟨v8, h9, hf⟩ := o_bind hf
    refine pw_iald hC hw h9 dX8_number_16 ?_
    refine lv_if_ge (tgt := 24) hx hb dX8_number_17 (by decide) (fun c10 => ?_) (fun c10 => ?_)
    · have hf := o_pos c10 hf
      refine lv_iconst (v := 0) hx hb dX8_number_24 nc_iconst_0 ?_
      exact w_X8_number_L25 hC hr hlocks _ _ _ _ _ _ _ ls (lv_sub hl [0, 1] rfl) hw hf
    · have hf := o_neg c10 hf
      refine lv_iconst (v := 1) hx hb dX8_number_20 nc_iconst_1 ?_
      refine lv_goto (tgt := 25) hx hb dX8_number_21 (by decide) ?_
      exact w_X8_number_L25 hC hr hlocks _ _ _ _ _ _ _ ls (lv_sub hl [0, 1] rfl) hw hf
  · have hf := o_neg c5 hf
    refine lv_lconst (v := 0) hx hb dX8_number_8 (by decide +kernel) ?_
    obtain ⟨rfl, rfl⟩ := o_ret hf
    exact pw_lret hC hr hlocks hw dX8_number_9
theorem dX8_tells_0 : decode cX8_tells 0 = .ok (.aload_n 0, 1) := by decide +kernel
theorem dX8_tells_1 : decode cX8_tells 1 = .ok (.dup, 1) := by decide +kernel
theorem dX8_tells_2 : decode cX8_tells 2 = .ok (.getfield 241, 3) := by decide +kernel
theorem dX8_tells_5 : decode cX8_tells 5 = .ok (.iconst 1, 1) := by decide +kernel
theorem dX8_tells_6 : decode cX8_tells 6 = .ok (.iadd, 1) := by decide +kernel
theorem dX8_tells_7 : decode cX8_tells 7 = .ok (.putfield 241, 3) := by decide +kernel
theorem dX8_tells_10 : decode cX8_tells 10 = .ok (.aload_n 0, 1) := by decide +kernel
theorem dX8_tells_11 : decode cX8_tells 11 = .ok (.dup, 1) := by decide +kernel
theorem dX8_tells_12 : decode cX8_tells 12 = .ok (.getfield 244, 3) := by decide +kernel
theorem dX8_tells_15 : decode cX8_tells 15 = .ok (.aload_n 0, 1) := by decide +kernel
theorem dX8_tells_16 : decode cX8_tells 16 = .ok (.getfield 67, 3) := by decide +kernel
theorem dX8_tells_19 : decode cX8_tells 19 = .ok (.getfield 213, 3) := by decide +kernel
theorem dX8_tells_22 : decode cX8_tells 22 = .ok (.iload_n 1, 1) := by decide +kernel
theorem dX8_tells_23 : decode cX8_tells 23 = .ok (.invokestatic 97, 3) := by decide +kernel
theorem dX8_tells_26 : decode cX8_tells 26 = .ok (.iadd, 1) := by decide +kernel
theorem dX8_tells_27 : decode cX8_tells 27 = .ok (.putfield 244, 3) := by decide +kernel
theorem dX8_tells_30 : decode cX8_tells 30 = .ok (.return_, 1) := by decide +kernel
abbrev rm_X8_tells : Room := { frames := 1, cells := 0, slots := 0, locals := 21 }
def f_X8_tells (cy : Nat → ClassId) (a0 : Nat) (a1 : Int32) (μ : Mem) : Option Mem :=
  (rdI μ a0 7 24).bind fun v1 => (wrF μ a0 7 24 (.int (v1 + 1))).bind fun μ3 => (rdI μ3 a0 7 25).bind fun v5 => (rdR μ3 a0 7 21).bind fun q7 => (rdR μ3 q7 6 0).bind fun q9 => ob2 (f_X8_intAt cy q9 a1 μ3) fun r13 μ12 => (wrF μ12 a0 7 25 (.int (v5 + r13))).bind fun μ14 => some μ14
set_option maxRecDepth 100000 in
set_option maxHeartbeats 4000000 in
theorem c_X8_tells {l : Launch} {g : Wg} {L : List Nat} {μ : Mem} {a0 : Nat} {a1 : Int32} {μ' : Mem} (hf : f_X8_tells g.2 a0 a1 μ = some μ') : MetV l yX8_tells cX8_tells 2 none rm_X8_tells g L μ [.ref a0, .int a1] μ' := by
  refine pw_met (Qc := fun A => QV g L A μ') (by decide) (Nat.le_of_ble_eq_true rfl) ?_
  intro p e s m args below meth c A ls H locs hC hr hlocks hl hw
  have hx := hC.1
  have hb := hC.2.1
  have hl : lv_has ls 2 [(0, .ref a0), (1, .int a1)] := hl
  unfold f_X8_tells at hf
  refine lv_aload_n hx hb dX8_tells_0 rfl (lv_at hl 0 rfl) ?_
  refine lv_dup hx hb dX8_tells_1 rfl ?_
  obtain ⟨v1, h2, hf⟩ := o_bind hf
  refine pw_get hC fl_X8_241 hw (rdI_F h2) dX8_tells_2 ?_
  refine lv_iconst (v := 1) hx hb dX8_tells_5 nc_iconst_1 ?_
  refine lv_iadd hx hb dX8_tells_6 ?_
  obtain ⟨μ3, h4, hf⟩ := o_bind hf
  refine pw_put hC fl_X8_241 hw h4 .int fd_X8_24 rfl rfl dX8_tells_7 (fun H locs hw => ?_)
  refine lv_aload_n hx hb dX8_tells_10 rfl (lv_at hl 0 rfl) ?_
  refine lv_dup hx hb dX8_tells_11 rfl ?_
  obtain ⟨v5, h6, hf⟩ := o_bind hf
  refine pw_get hC fl_X8_244 hw (rdI_F h6) dX8_tells_12 ?_
  refine lv_aload_n hx hb dX8_tells_15 rfl (lv_at hl 0 rfl) ?_
  obtain ⟨q7, h8, hf⟩ := o_bind hf
  refine pw_get hC fl_X8_67 hw (rdR_F h8) dX8_tells_16 ?_
  obtain ⟨q9, h10, hf⟩ := o_bind hf
  refine pw_get hC fl_X8_213 hw (rdR_F h10) dX8_tells_19 ?_
  refine lv_iload_n hx hb dX8_tells_22 rfl (lv_at hl 1 rfl) ?_
  obtain ⟨r13, μ12, h11, hf⟩ := o_bind2 hf
  refine pw_goI hw (pw_runS (As := [.ref q9, .int a1]) (rest := [.int v5, .ref a0]) hC mm_X8_intAt tw_1245 (c_X8_intAt h11 _) ⟨rfl, rfl, by decide, by decide⟩ hw rfl hl.1 (Nat.le_of_ble_eq_true rfl) ⟨Nat.zero_le _, Nat.zero_le _⟩ rfl dX8_tells_23) (fun H locs hw => ?_)
  refine lv_iadd hx hb dX8_tells_26 ?_
  obtain ⟨μ14, h15, hf⟩ := o_bind hf
  refine pw_put hC fl_X8_244 hw h15 .int fd_X8_25 rfl rfl dX8_tells_27 (fun H locs hw => ?_)
  obtain rfl := o_retv hf
  exact pw_vret hC hr hlocks hw dX8_tells_30
theorem dX8_kinds_0 : decode cX8_kinds 0 = .ok (.aload_n 0, 1) := by decide +kernel
theorem dX8_kinds_1 : decode cX8_kinds 1 = .ok (.iload_n 1, 1) := by decide +kernel
theorem dX8_kinds_2 : decode cX8_kinds 2 = .ok (.invokevirtual 183, 3) := by decide +kernel
theorem dX8_kinds_5 : decode cX8_kinds 5 = .ok (.ifCond .eq 5, 3) := by decide +kernel
theorem dX8_kinds_8 : decode cX8_kinds 8 = .ok (.iconst 0, 1) := by decide +kernel
theorem dX8_kinds_9 : decode cX8_kinds 9 = .ok (.ireturn, 1) := by decide +kernel
theorem dX8_kinds_10 : decode cX8_kinds 10 = .ok (.aload_n 0, 1) := by decide +kernel
theorem dX8_kinds_11 : decode cX8_kinds 11 = .ok (.getfield 67, 3) := by decide +kernel
theorem dX8_kinds_14 : decode cX8_kinds 14 = .ok (.aload_n 0, 1) := by decide +kernel
theorem dX8_kinds_15 : decode cX8_kinds 15 = .ok (.getfield 22, 3) := by decide +kernel
theorem dX8_kinds_18 : decode cX8_kinds 18 = .ok (.iload_n 1, 1) := by decide +kernel
theorem dX8_kinds_19 : decode cX8_kinds 19 = .ok (.aaload, 1) := by decide +kernel
theorem dX8_kinds_20 : decode cX8_kinds 20 = .ok (.invokevirtual 190, 3) := by decide +kernel
theorem dX8_kinds_23 : decode cX8_kinds 23 = .ok (.iconst 0, 1) := by decide +kernel
theorem dX8_kinds_24 : decode cX8_kinds 24 = .ok (.istore_n 3, 1) := by decide +kernel
theorem dX8_kinds_25 : decode cX8_kinds 25 = .ok (.iconst 1, 1) := by decide +kernel
theorem dX8_kinds_26 : decode cX8_kinds 26 = .ok (.istore 4, 2) := by decide +kernel
theorem dX8_kinds_28 : decode cX8_kinds 28 = .ok (.iload 4, 2) := by decide +kernel
theorem dX8_kinds_30 : decode cX8_kinds 30 = .ok (.aload_n 0, 1) := by decide +kernel
theorem dX8_kinds_31 : decode cX8_kinds 31 = .ok (.getfield 67, 3) := by decide +kernel
theorem dX8_kinds_34 : decode cX8_kinds 34 = .ok (.getfield 250, 3) := by decide +kernel
theorem dX8_kinds_37 : decode cX8_kinds 37 = .ok (.if_icmp .ge 31, 3) := by decide +kernel
theorem dX8_kinds_40 : decode cX8_kinds 40 = .ok (.iload_n 3, 1) := by decide +kernel
theorem dX8_kinds_41 : decode cX8_kinds 41 = .ok (.aload_n 0, 1) := by decide +kernel
theorem dX8_kinds_42 : decode cX8_kinds 42 = .ok (.getfield 67, 3) := by decide +kernel
theorem dX8_kinds_45 : decode cX8_kinds 45 = .ok (.getfield 228, 3) := by decide +kernel
theorem dX8_kinds_48 : decode cX8_kinds 48 = .ok (.iload 4, 2) := by decide +kernel
theorem dX8_kinds_50 : decode cX8_kinds 50 = .ok (.iaload, 1) := by decide +kernel
theorem dX8_kinds_51 : decode cX8_kinds 51 = .ok (.iload_n 2, 1) := by decide +kernel
theorem dX8_kinds_52 : decode cX8_kinds 52 = .ok (.if_icmp .ne 7, 3) := by decide +kernel
theorem dX8_kinds_55 : decode cX8_kinds 55 = .ok (.iconst 1, 1) := by decide +kernel
theorem dX8_kinds_56 : decode cX8_kinds 56 = .ok (.goto 4, 3) := by decide +kernel
theorem dX8_kinds_59 : decode cX8_kinds 59 = .ok (.iconst 0, 1) := by decide +kernel
theorem dX8_kinds_60 : decode cX8_kinds 60 = .ok (.iadd, 1) := by decide +kernel
theorem dX8_kinds_61 : decode cX8_kinds 61 = .ok (.istore_n 3, 1) := by decide +kernel
theorem dX8_kinds_62 : decode cX8_kinds 62 = .ok (.iinc 4 1, 3) := by decide +kernel
theorem dX8_kinds_65 : decode cX8_kinds 65 = .ok (.goto (-37), 3) := by decide +kernel
theorem dX8_kinds_68 : decode cX8_kinds 68 = .ok (.iload_n 3, 1) := by decide +kernel
theorem dX8_kinds_69 : decode cX8_kinds 69 = .ok (.ireturn, 1) := by decide +kernel
abbrev rm_X8_kinds : Room := { frames := 124, cells := 0, slots := 0, locals := 3090 }
def f_X8_kinds_L60 (cy : Nat → ClassId) (k28 : Nat → Int32 → Int32 → Int32 → Mem → Option (Int32 × Mem)) (a0 : Nat) (a2 : Int32) (a4 : Int32) (t0 : Int32) (t1 : Int32) (μ : Mem) : Option (Int32 × Mem) :=
  k28 a0 a2 (t0 + t1) (a4 + 1) μ
set_option maxRecDepth 100000 in
set_option maxHeartbeats 4000000 in
theorem w_X8_kinds_L60 {p : Program} {l : Launch} {e : Env} {s : State} {m : MethodId} {args : Array Value} {below : List Frame} {meth : Method} {c : Code} {A : Nat → Prop} {g : Wg} {L : List Nat} {r : Int32} {μ' : Mem} (hC : CX p m c cX8_kinds 5 s args RX8) (hr : meth.sig.returnType = (some .int)) (hlocks : meth.locks = false) {k28 : Nat → Int32 → Int32 → Int32 → Mem → Option (Int32 × Mem)} (hk28 : ∀ (a0 : Nat) (a2 : Int32) (a3 : Int32) (a4 : Int32) (μ : Mem) (H : Heap) (locs : List Loc) (ls : Array Slot), lv_has ls 5 [(0, .ref a0), (2, .int a2), (3, .int a3), (4, .int a4)] → PW g L μ A s H locs → k28 a0 a2 a3 a4 μ = some (r, μ') → W p l e rm_X8_kinds s m args below meth c H locs 0 0 (MQ below (QI g L A r μ') args s 0 0 A) (F0 m 28 ls [])) : ∀ (a0 : Nat) (a2 : Int32) (a4 : Int32) (t0 : Int32) (t1 : Int32) (μ : Mem) (H : Heap) (locs : List Loc) (ls : Array Slot), lv_has ls 5 [(0, .ref a0), (2, .int a2), (4, .int a4)] → PW g L μ A s H locs → f_X8_kinds_L60 g.2 k28 a0 a2 a4 t0 t1 μ = some (r, μ') → W p l e rm_X8_kinds s m args below meth c H locs 0 0 (MQ below (QI g L A r μ') args s 0 0 A) (F0 m 60 ls [.int t1, .int t0]) := by
  have hx := hC.1
  have hb := hC.2.1
  intro a0 a2 a4 t0 t1 μ H locs ls hl hw hf
  unfold f_X8_kinds_L60 at hf
  refine lv_iadd hx hb dX8_kinds_60 ?_
  refine lv_istore_n (lv' := [(3, .int (t0 + t1)), (0, .ref a0), (2, .int a2), (4, .int a4)]) hx hb dX8_kinds_61 rfl hl (by decide) rfl (fun ls hl => ?_)
  refine lv_iinc (v := (a4 + 1)) (lv' := [(4, .int (a4 + 1)), (3, .int (t0 + t1)), (0, .ref a0), (2, .int a2)]) hx hb dX8_kinds_62 hl (k := 3) rfl (by first | rfl | decide +kernel) (by decide) rfl (fun ls hl => ?_)
  refine lv_goto (tgt := 28) hx hb dX8_kinds_65 (by decide) ?_
  exact hk28 _ _ _ _ _ _ _ ls (lv_sub hl [2, 3, 1, 0] rfl) hw hf
def f_X8_kinds_L28 (cy : Nat → ClassId) : Nat → Nat → Int32 → Int32 → Int32 → Mem → Option (Int32 × Mem)
  | 0, _, _, _, _, _ => none
  | n + 1, a0, a2, a3, a4, μ => (rdR μ a0 7 21).bind fun q101 => (rdI μ q101 6 1).bind fun v103 => if v103 ≤ a4 then (some (a3, μ)) else (rdR μ a0 7 21).bind fun q106 => (rdR μ q106 6 2).bind fun q108 => (rdA cy μ 1 q108 a4).bind fun v110 => if v110 = a2 then (f_X8_kinds_L60 cy (f_X8_kinds_L28 cy n) a0 a2 a4 a3 1 μ) else f_X8_kinds_L60 cy (f_X8_kinds_L28 cy n) a0 a2 a4 a3 0 μ
set_option maxRecDepth 100000 in
set_option maxHeartbeats 4000000 in
theorem w_X8_kinds_L28 {p : Program} {l : Launch} {e : Env} {s : State} {m : MethodId} {args : Array Value} {below : List Frame} {meth : Method} {c : Code} {A : Nat → Prop} {g : Wg} {L : List Nat} {r : Int32} {μ' : Mem} (hC : CX p m c cX8_kinds 5 s args RX8) (hr : meth.sig.returnType = (some .int)) (hlocks : meth.locks = false) : ∀ (n : Nat), ∀ (a0 : Nat) (a2 : Int32) (a3 : Int32) (a4 : Int32) (μ : Mem) (H : Heap) (locs : List Loc) (ls : Array Slot), lv_has ls 5 [(0, .ref a0), (2, .int a2), (3, .int a3), (4, .int a4)] → PW g L μ A s H locs → f_X8_kinds_L28 g.2 n a0 a2 a3 a4 μ = some (r, μ') → W p l e rm_X8_kinds s m args below meth c H locs 0 0 (MQ below (QI g L A r μ') args s 0 0 A) (F0 m 28 ls []) := by
  have hx := hC.1
  have hb := hC.2.1
  intro n
  induction n with
  | zero => intro a0 a2 a3 a4 μ H locs ls hl hw hf; cases hf
  | succ n ih =>
    intro a0 a2 a3 a4 μ H locs ls hl hw hf
    rw [f_X8_kinds_L28] at hf
    refine lv_iload hx hb dX8_kinds_28 (lv_at hl 3 rfl) ?_
    refine lv_aload_n hx hb dX8_kinds_30 rfl (lv_at hl 0 rfl) ?_
    obtain ⟨q101, h102, hf⟩ := o_bind hf
    refine pw_get hC fl_X8_67 hw (rdR_F h102) dX8_kinds_31 ?_
    obtain ⟨v103, h104, hf⟩ := o_bind hf
    refine pw_get hC fl_X8_250 hw (rdI_F h104) dX8_kinds_34 ?_
    refine lv_icmp_ge (tgt := 68) hx hb dX8_kinds_37 (by decide) (fun c105 => ?_) (fun c105 => ?_)
    · have hf := o_pos c105 hf
      refine lv_iload_n hx hb dX8_kinds_68 rfl (lv_at hl 2 rfl) ?_
      obtain ⟨rfl, rfl⟩ := o_ret hf
      exact pw_iret hC hr hlocks hw dX8_kinds_69
    · have hf := o_neg c105 hf
      refine lv_iload_n hx hb dX8_kinds_40 rfl (lv_at hl 2 rfl) ?_
      refine lv_aload_n hx hb dX8_kinds_41 rfl (lv_at hl 0 rfl) ?_
      obtain ⟨q106, h107, hf⟩ := o_bind hf
      refine pw_get hC fl_X8_67 hw (rdR_F h107) dX8_kinds_42 ?_
      obtain ⟨q108, h109, hf⟩ := o_bind hf
      refine pw_get hC fl_X8_228 hw (rdR_F h109) dX8_kinds_45 ?_
      refine lv_iload hx hb dX8_kinds_48 (lv_at hl 3 rfl) ?_
      obtain ⟨v110, h111, hf⟩ := o_bind hf
      refine pw_iald hC hw h111 dX8_kinds_50 ?_
      refine lv_iload_n hx hb dX8_kinds_51 rfl (lv_at hl 1 rfl) ?_
      refine lv_icmp_ne (tgt := 59) hx hb dX8_kinds_52 (by decide) (fun c112 => ?_) (fun c112 => ?_)
      · have hf := o_neg c112 hf
        refine lv_iconst (v := 0) hx hb dX8_kinds_59 nc_iconst_0 ?_
        exact w_X8_kinds_L60 hC hr hlocks ih _ _ _ _ _ _ _ _ ls (lv_sub hl [0, 1, 3] rfl) hw hf
      · have hf := o_pos c112 hf
        refine lv_iconst (v := 1) hx hb dX8_kinds_55 nc_iconst_1 ?_
        refine lv_goto (tgt := 60) hx hb dX8_kinds_56 (by decide) ?_
        exact w_X8_kinds_L60 hC hr hlocks ih _ _ _ _ _ _ _ _ ls (lv_sub hl [0, 1, 3] rfl) hw hf
def f_X8_kinds (cy : Nat → ClassId) (a0 : Nat) (a1 : Int32) (a2 : Int32) (μ : Mem) : Option (Int32 × Mem) :=
  if isO μ a0 7 = true then (ob2 (f_X8_noShelf cy a0 a1 μ) fun r4 μ3 => if r4 = 0 then ((rdR μ3 a0 7 21).bind fun q6 => (rdR μ3 a0 7 5).bind fun q8 => (rdQ cy μ3 5 q8 a1).bind fun q10 => if isO μ3 q6 6 = true then ((f_X7_read cy q6 q10 μ3).bind fun μ14 => f_X8_kinds_L28 cy FU a0 a2 0 1 μ14) else none) else some (0, μ3)) else none
set_option maxRecDepth 100000 in
set_option maxHeartbeats 4000000 in
theorem c_X8_kinds {l : Launch} {g : Wg} {L : List Nat} {μ : Mem} {a0 : Nat} {a1 : Int32} {a2 : Int32} {r : Int32} {μ' : Mem} (hf : f_X8_kinds g.2 a0 a1 a2 μ = some (r, μ')) : MetI l yX8_kinds cX8_kinds 5 (some .int) rm_X8_kinds g L μ [.ref a0, .int a1, .int a2] r μ' := by
  refine pw_met (Qc := fun A => QI g L A r μ') (by decide) (Nat.le_of_ble_eq_true rfl) ?_
  intro p e s m args below meth c A ls H locs hC hr hlocks hl hw
  have hx := hC.1
  have hb := hC.2.1
  have hl : lv_has ls 5 [(0, .ref a0), (1, .int a1), (2, .int a2)] := hl
  unfold f_X8_kinds at hf
  refine lv_aload_n hx hb dX8_kinds_0 rfl (lv_at hl 0 rfl) ?_
  refine lv_iload_n hx hb dX8_kinds_1 rfl (lv_at hl 1 rfl) ?_
  obtain ⟨h2, hf⟩ := o_ite hf
  obtain ⟨r4, μ3, h1, hf⟩ := o_bind2 hf
  refine pw_goI hw (pw_runV (As := [.int a1]) (rest := []) hC mm_X8_noShelf tw_1313 (c_X8_noShelf h1 _) ⟨rfl, rfl, by decide, by decide⟩ hw h2 rfl hl.1 (Nat.le_of_ble_eq_true rfl) ⟨Nat.zero_le _, Nat.zero_le _⟩ rfl dX8_kinds_2) (fun H locs hw => ?_)
  refine lv_if_eq (tgt := 10) hx hb dX8_kinds_5 (by decide) (fun c5 => ?_) (fun c5 => ?_)
  · have hf := o_pos c5 hf
    refine lv_aload_n hx hb dX8_kinds_10 rfl (lv_at hl 0 rfl) ?_
    obtain ⟨q6, h7, hf⟩ := o_bind hf
    refine pw_get hC fl_X8_67 hw (rdR_F h7) dX8_kinds_11 ?_
    refine lv_aload_n hx hb dX8_kinds_14 rfl (lv_at hl 0 rfl) ?_
    obtain ⟨q8, h9, hf⟩ := o_bind hf
    refine pw_get hC fl_X8_22 hw (rdR_F h9) dX8_kinds_15 ?_
    refine lv_iload_n hx hb dX8_kinds_18 rfl (lv_at hl 1 rfl) ?_
    obtain ⟨q10, h11, hf⟩ := o_bind hf
    refine pw_aald hC hw 5 rfl rfl h11 dX8_kinds_19 ?_
    obtain ⟨h13, hf⟩ := o_ite hf
    obtain ⟨μ14, h12, hf⟩ := o_bind hf
    refine pw_goV hw (pw_runV (As := [.ref q10]) (rest := []) hC mm_X7_read tw_1325 (c_X7_read h12 _) ⟨rfl, rfl, by decide, by decide⟩ hw h13 rfl hl.1 (Nat.le_of_ble_eq_true rfl) ⟨Nat.zero_le _, Nat.zero_le _⟩ rfl dX8_kinds_20) (fun H locs hw => ?_)
    refine lv_iconst (v := 0) hx hb dX8_kinds_23 nc_iconst_0 ?_
    refine lv_istore_n (lv' := [(3, .int 0), (0, .ref a0), (1, .int a1), (2, .int a2)]) hx hb dX8_kinds_24 rfl hl (by decide) rfl (fun ls hl => ?_)
    refine lv_iconst (v := 1) hx hb dX8_kinds_25 nc_iconst_1 ?_
    refine lv_istore (lv' := [(4, .int 1), (3, .int 0), (0, .ref a0), (1, .int a1), (2, .int a2)]) hx hb dX8_kinds_26 hl (by decide) rfl (fun ls hl => ?_)
    exact w_X8_kinds_L28 hC hr hlocks FU _ _ _ _ _ _ _ ls (lv_sub hl [2, 4, 1, 0] rfl) hw hf
  · have hf := o_neg c5 hf
    refine lv_iconst (v := 0) hx hb dX8_kinds_8 nc_iconst_0 ?_
    obtain ⟨rfl, rfl⟩ := o_ret hf
    exact pw_iret hC hr hlocks hw dX8_kinds_9
theorem dX8_latest_0 : decode cX8_latest 0 = .ok (.aload_n 0, 1) := by decide +kernel
theorem dX8_latest_1 : decode cX8_latest 1 = .ok (.iconst 0, 1) := by decide +kernel
theorem dX8_latest_2 : decode cX8_latest 2 = .ok (.putfield 1, 3) := by decide +kernel
theorem dX8_latest_5 : decode cX8_latest 5 = .ok (.iload_n 1, 1) := by decide +kernel
theorem dX8_latest_6 : decode cX8_latest 6 = .ok (.ifCond .lt 17, 3) := by decide +kernel
theorem dX8_latest_9 : decode cX8_latest 9 = .ok (.iload_n 1, 1) := by decide +kernel
theorem dX8_latest_10 : decode cX8_latest 10 = .ok (.iconst 4, 1) := by decide +kernel
theorem dX8_latest_11 : decode cX8_latest 11 = .ok (.if_icmp .ge 12, 3) := by decide +kernel
theorem dX8_latest_14 : decode cX8_latest 14 = .ok (.aload_n 0, 1) := by decide +kernel
theorem dX8_latest_15 : decode cX8_latest 15 = .ok (.getfield 55, 3) := by decide +kernel
theorem dX8_latest_18 : decode cX8_latest 18 = .ok (.iload_n 1, 1) := by decide +kernel
theorem dX8_latest_19 : decode cX8_latest 19 = .ok (.iaload, 1) := by decide +kernel
theorem dX8_latest_20 : decode cX8_latest 20 = .ok (.goto 4, 3) := by decide +kernel
theorem dX8_latest_23 : decode cX8_latest 23 = .ok (.iconst (-1), 1) := by decide +kernel
theorem dX8_latest_24 : decode cX8_latest 24 = .ok (.ireturn, 1) := by decide +kernel
abbrev rm_X8_latest : Room := { frames := 0, cells := 0, slots := 0, locals := 0 }
def f_X8_latest_L23 (cy : Nat → ClassId)  (μ : Mem) : Option (Int32 × Mem) :=
  some ((-1), μ)
set_option maxRecDepth 100000 in
set_option maxHeartbeats 4000000 in
theorem w_X8_latest_L23 {p : Program} {l : Launch} {e : Env} {s : State} {m : MethodId} {args : Array Value} {below : List Frame} {meth : Method} {c : Code} {A : Nat → Prop} {g : Wg} {L : List Nat} {r : Int32} {μ' : Mem} (hC : CX p m c cX8_latest 2 s args RX8) (hr : meth.sig.returnType = (some .int)) (hlocks : meth.locks = false) : ∀  (μ : Mem) (H : Heap) (locs : List Loc) (ls : Array Slot), lv_has ls 2 [] → PW g L μ A s H locs → f_X8_latest_L23 g.2  μ = some (r, μ') → W p l e rm_X8_latest s m args below meth c H locs 0 0 (MQ below (QI g L A r μ') args s 0 0 A) (F0 m 23 ls []) := by
  have hx := hC.1
  have hb := hC.2.1
  intro  μ H locs ls hl hw hf
  unfold f_X8_latest_L23 at hf
  refine lv_iconst (v := (-1)) hx hb dX8_latest_23 nc_iconst_m1 ?_
  obtain ⟨rfl, rfl⟩ := o_ret hf
  exact pw_iret hC hr hlocks hw dX8_latest_24
def f_X8_latest (cy : Nat → ClassId) (a0 : Nat) (a1 : Int32) (μ : Mem) : Option (Int32 × Mem) :=
  (wrF μ a0 7 0 (.int 0)).bind fun μ1 => if a1 < 0 then (f_X8_latest_L23 cy  μ1) else if 4 ≤ a1 then (f_X8_latest_L23 cy  μ1) else (rdR μ1 a0 7 18).bind fun q5 => (rdA cy μ1 1 q5 a1).bind fun v7 => some (v7, μ1)
set_option maxRecDepth 100000 in
set_option maxHeartbeats 4000000 in
theorem c_X8_latest {l : Launch} {g : Wg} {L : List Nat} {μ : Mem} {a0 : Nat} {a1 : Int32} {r : Int32} {μ' : Mem} (hf : f_X8_latest g.2 a0 a1 μ = some (r, μ')) : MetI l yX8_latest cX8_latest 2 (some .int) rm_X8_latest g L μ [.ref a0, .int a1] r μ' := by
  refine pw_met (Qc := fun A => QI g L A r μ') (by decide) (Nat.le_of_ble_eq_true rfl) ?_
  intro p e s m args below meth c A ls H locs hC hr hlocks hl hw
  have hx := hC.1
  have hb := hC.2.1
  have hl : lv_has ls 2 [(0, .ref a0), (1, .int a1)] := hl
  unfold f_X8_latest at hf
  refine lv_aload_n hx hb dX8_latest_0 rfl (lv_at hl 0 rfl) ?_
  refine lv_iconst (v := 0) hx hb dX8_latest_1 nc_iconst_0 ?_
  obtain ⟨μ1, h2, hf⟩ := o_bind hf
  refine pw_put hC fl_X8_1 hw h2 .int fd_X8_0 rfl rfl dX8_latest_2 (fun H locs hw => ?_)
  refine lv_iload_n hx hb dX8_latest_5 rfl (lv_at hl 1 rfl) ?_
  refine lv_if_lt (tgt := 23) hx hb dX8_latest_6 (by decide) (fun c3 => ?_) (fun c3 => ?_)
  · have hf := o_pos c3 hf
    exact w_X8_latest_L23 hC hr hlocks  _ _ _ ls (lv_sub hl [] rfl) hw hf
  · have hf := o_neg c3 hf
    refine lv_iload_n hx hb dX8_latest_9 rfl (lv_at hl 1 rfl) ?_
    refine lv_iconst (v := 4) hx hb dX8_latest_10 nc_iconst_4 ?_
    refine lv_icmp_ge (tgt := 23) hx hb dX8_latest_11 (by decide) (fun c4 => ?_) (fun c4 => ?_)
    · have hf := o_pos c4 hf
      exact w_X8_latest_L23 hC hr hlocks  _ _ _ ls (lv_sub hl [] rfl) hw hf
    · have hf := o_neg c4 hf
      refine lv_aload_n hx hb dX8_latest_14 rfl (lv_at hl 0 rfl) ?_
      obtain ⟨q5, h6, hf⟩ := o_bind hf
      refine pw_get hC fl_X8_55 hw (rdR_F h6) dX8_latest_15 ?_
      refine lv_iload_n hx hb dX8_latest_18 rfl (lv_at hl 1 rfl) ?_
      obtain ⟨v7, h8, hf⟩ := o_bind hf
      refine pw_iald hC hw h8 dX8_latest_19 ?_
      refine lv_goto (tgt := 24) hx hb dX8_latest_20 (by decide) ?_
      obtain ⟨rfl, rfl⟩ := o_ret hf
      exact pw_iret hC hr hlocks hw dX8_latest_24
theorem dX8_value__0 : decode cX8_value_ 0 = .ok (.aload_n 0, 1) := by decide +kernel
theorem dX8_value__1 : decode cX8_value_ 1 = .ok (.getfield 103, 3) := by decide +kernel
theorem dX8_value__4 : decode cX8_value_ 4 = .ok (.istore_n 3, 1) := by decide +kernel
theorem dX8_value__5 : decode cX8_value_ 5 = .ok (.aload_n 0, 1) := by decide +kernel
theorem dX8_value__6 : decode cX8_value_ 6 = .ok (.iconst 0, 1) := by decide +kernel
theorem dX8_value__7 : decode cX8_value_ 7 = .ok (.putfield 103, 3) := by decide +kernel
theorem dX8_value__10 : decode cX8_value_ 10 = .ok (.aload_n 0, 1) := by decide +kernel
theorem dX8_value__11 : decode cX8_value_ 11 = .ok (.iload_n 1, 1) := by decide +kernel
theorem dX8_value__12 : decode cX8_value_ 12 = .ok (.invokevirtual 183, 3) := by decide +kernel
theorem dX8_value__15 : decode cX8_value_ 15 = .ok (.ifCond .eq 5, 3) := by decide +kernel
theorem dX8_value__18 : decode cX8_value_ 18 = .ok (.iconst 0, 1) := by decide +kernel
theorem dX8_value__19 : decode cX8_value_ 19 = .ok (.ireturn, 1) := by decide +kernel
theorem dX8_value__20 : decode cX8_value_ 20 = .ok (.aload_n 0, 1) := by decide +kernel
theorem dX8_value__21 : decode cX8_value_ 21 = .ok (.aload_n 0, 1) := by decide +kernel
theorem dX8_value__22 : decode cX8_value_ 22 = .ok (.getfield 37, 3) := by decide +kernel
theorem dX8_value__25 : decode cX8_value_ 25 = .ok (.iload_n 1, 1) := by decide +kernel
theorem dX8_value__26 : decode cX8_value_ 26 = .ok (.iaload, 1) := by decide +kernel
theorem dX8_value__27 : decode cX8_value_ 27 = .ok (.ifCond .ge 7, 3) := by decide +kernel
theorem dX8_value__30 : decode cX8_value_ 30 = .ok (.iconst 1, 1) := by decide +kernel
theorem dX8_value__31 : decode cX8_value_ 31 = .ok (.goto 4, 3) := by decide +kernel
theorem dX8_value__34 : decode cX8_value_ 34 = .ok (.iconst 0, 1) := by decide +kernel
theorem dX8_value__35 : decode cX8_value_ 35 = .ok (.iconst 2, 1) := by decide +kernel
theorem dX8_value__36 : decode cX8_value_ 36 = .ok (.invokevirtual 186, 3) := by decide +kernel
theorem dX8_value__39 : decode cX8_value_ 39 = .ok (.ifCond .eq 5, 3) := by decide +kernel
theorem dX8_value__42 : decode cX8_value_ 42 = .ok (.iconst 0, 1) := by decide +kernel
theorem dX8_value__43 : decode cX8_value_ 43 = .ok (.ireturn, 1) := by decide +kernel
theorem dX8_value__44 : decode cX8_value_ 44 = .ok (.aload_n 0, 1) := by decide +kernel
theorem dX8_value__45 : decode cX8_value_ 45 = .ok (.iload_n 1, 1) := by decide +kernel
theorem dX8_value__46 : decode cX8_value_ 46 = .ok (.invokevirtual 322, 3) := by decide +kernel
theorem dX8_value__49 : decode cX8_value_ 49 = .ok (.istore 4, 2) := by decide +kernel
theorem dX8_value__51 : decode cX8_value_ 51 = .ok (.aload_n 0, 1) := by decide +kernel
theorem dX8_value__52 : decode cX8_value_ 52 = .ok (.invokevirtual 170, 3) := by decide +kernel
theorem dX8_value__55 : decode cX8_value_ 55 = .ok (.aload_n 0, 1) := by decide +kernel
theorem dX8_value__56 : decode cX8_value_ 56 = .ok (.iload_n 3, 1) := by decide +kernel
theorem dX8_value__57 : decode cX8_value_ 57 = .ok (.putfield 103, 3) := by decide +kernel
theorem dX8_value__60 : decode cX8_value_ 60 = .ok (.aload_n 0, 1) := by decide +kernel
theorem dX8_value__61 : decode cX8_value_ 61 = .ok (.iload_n 2, 1) := by decide +kernel
theorem dX8_value__62 : decode cX8_value_ 62 = .ok (.iconst 0, 1) := by decide +kernel
theorem dX8_value__63 : decode cX8_value_ 63 = .ok (.aload_n 0, 1) := by decide +kernel
theorem dX8_value__64 : decode cX8_value_ 64 = .ok (.getfield 67, 3) := by decide +kernel
theorem dX8_value__67 : decode cX8_value_ 67 = .ok (.getfield 225, 3) := by decide +kernel
theorem dX8_value__70 : decode cX8_value_ 70 = .ok (.iload 4, 2) := by decide +kernel
theorem dX8_value__72 : decode cX8_value_ 72 = .ok (.iaload, 1) := by decide +kernel
theorem dX8_value__73 : decode cX8_value_ 73 = .ok (.invokevirtual 325, 3) := by decide +kernel
theorem dX8_value__76 : decode cX8_value_ 76 = .ok (.istore 5, 2) := by decide +kernel
theorem dX8_value__78 : decode cX8_value_ 78 = .ok (.aload_n 0, 1) := by decide +kernel
theorem dX8_value__79 : decode cX8_value_ 79 = .ok (.iconst 0, 1) := by decide +kernel
theorem dX8_value__80 : decode cX8_value_ 80 = .ok (.putfield 103, 3) := by decide +kernel
theorem dX8_value__83 : decode cX8_value_ 83 = .ok (.aload_n 0, 1) := by decide +kernel
theorem dX8_value__84 : decode cX8_value_ 84 = .ok (.iload 5, 2) := by decide +kernel
theorem dX8_value__86 : decode cX8_value_ 86 = .ok (.ifCond .ne 7, 3) := by decide +kernel
theorem dX8_value__89 : decode cX8_value_ 89 = .ok (.iconst 1, 1) := by decide +kernel
theorem dX8_value__90 : decode cX8_value_ 90 = .ok (.goto 4, 3) := by decide +kernel
theorem dX8_value__93 : decode cX8_value_ 93 = .ok (.iconst 0, 1) := by decide +kernel
theorem dX8_value__94 : decode cX8_value_ 94 = .ok (.iconst 3, 1) := by decide +kernel
theorem dX8_value__95 : decode cX8_value_ 95 = .ok (.invokevirtual 186, 3) := by decide +kernel
theorem dX8_value__98 : decode cX8_value_ 98 = .ok (.ifCond .eq 5, 3) := by decide +kernel
theorem dX8_value__101 : decode cX8_value_ 101 = .ok (.iconst 0, 1) := by decide +kernel
theorem dX8_value__102 : decode cX8_value_ 102 = .ok (.ireturn, 1) := by decide +kernel
theorem dX8_value__103 : decode cX8_value_ 103 = .ok (.aload_n 0, 1) := by decide +kernel
theorem dX8_value__104 : decode cX8_value_ 104 = .ok (.aload_n 0, 1) := by decide +kernel
theorem dX8_value__105 : decode cX8_value_ 105 = .ok (.getfield 80, 3) := by decide +kernel
theorem dX8_value__108 : decode cX8_value_ 108 = .ok (.aload_n 0, 1) := by decide +kernel
theorem dX8_value__109 : decode cX8_value_ 109 = .ok (.getfield 37, 3) := by decide +kernel
theorem dX8_value__112 : decode cX8_value_ 112 = .ok (.iload_n 1, 1) := by decide +kernel
theorem dX8_value__113 : decode cX8_value_ 113 = .ok (.iaload, 1) := by decide +kernel
theorem dX8_value__114 : decode cX8_value_ 114 = .ok (.iaload, 1) := by decide +kernel
theorem dX8_value__115 : decode cX8_value_ 115 = .ok (.putfield 265, 3) := by decide +kernel
theorem dX8_value__118 : decode cX8_value_ 118 = .ok (.aload_n 0, 1) := by decide +kernel
theorem dX8_value__119 : decode cX8_value_ 119 = .ok (.iload_n 2, 1) := by decide +kernel
theorem dX8_value__120 : decode cX8_value_ 120 = .ok (.aload_n 0, 1) := by decide +kernel
theorem dX8_value__121 : decode cX8_value_ 121 = .ok (.getfield 13, 3) := by decide +kernel
theorem dX8_value__124 : decode cX8_value_ 124 = .ok (.iconst 0, 1) := by decide +kernel
theorem dX8_value__125 : decode cX8_value_ 125 = .ok (.iload_n 3, 1) := by decide +kernel
theorem dX8_value__126 : decode cX8_value_ 126 = .ok (.invokevirtual 328, 3) := by decide +kernel
theorem dX8_value__129 : decode cX8_value_ 129 = .ok (.aload_n 0, 1) := by decide +kernel
theorem dX8_value__130 : decode cX8_value_ 130 = .ok (.aload_n 0, 1) := by decide +kernel
theorem dX8_value__131 : decode cX8_value_ 131 = .ok (.iload_n 1, 1) := by decide +kernel
theorem dX8_value__132 : decode cX8_value_ 132 = .ok (.invokevirtual 332, 3) := by decide +kernel
theorem dX8_value__135 : decode cX8_value_ 135 = .ok (.ifCond .ne 7, 3) := by decide +kernel
theorem dX8_value__138 : decode cX8_value_ 138 = .ok (.iconst 1, 1) := by decide +kernel
theorem dX8_value__139 : decode cX8_value_ 139 = .ok (.goto 4, 3) := by decide +kernel
theorem dX8_value__142 : decode cX8_value_ 142 = .ok (.iconst 0, 1) := by decide +kernel
theorem dX8_value__143 : decode cX8_value_ 143 = .ok (.iconst 4, 1) := by decide +kernel
theorem dX8_value__144 : decode cX8_value_ 144 = .ok (.invokevirtual 186, 3) := by decide +kernel
theorem dX8_value__147 : decode cX8_value_ 147 = .ok (.ifCond .eq 5, 3) := by decide +kernel
theorem dX8_value__150 : decode cX8_value_ 150 = .ok (.iconst 0, 1) := by decide +kernel
theorem dX8_value__151 : decode cX8_value_ 151 = .ok (.ireturn, 1) := by decide +kernel
theorem dX8_value__152 : decode cX8_value_ 152 = .ok (.aload_n 0, 1) := by decide +kernel
theorem dX8_value__153 : decode cX8_value_ 153 = .ok (.getfield 25, 3) := by decide +kernel
theorem dX8_value__156 : decode cX8_value_ 156 = .ok (.iload_n 1, 1) := by decide +kernel
theorem dX8_value__157 : decode cX8_value_ 157 = .ok (.iaload, 1) := by decide +kernel
theorem dX8_value__158 : decode cX8_value_ 158 = .ok (.ireturn, 1) := by decide +kernel
abbrev rm_X8_value_ : Room := { frames := 125, cells := 0, slots := 0, locals := 3483 }
def f_X8_value__L143 (cy : Nat → ClassId) (a0 : Nat) (a1 : Int32) (t0 : Nat) (t1 : Int32) (μ : Mem) : Option (Int32 × Mem) :=
  if isO μ t0 7 = true then (ob2 (f_X8_throwsIf cy t0 t1 4 μ) fun r104 μ103 => if r104 = 0 then ((rdR μ103 a0 7 6).bind fun q106 => (rdA cy μ103 1 q106 a1).bind fun v108 => some (v108, μ103)) else some (0, μ103)) else none
set_option maxRecDepth 100000 in
set_option maxHeartbeats 4000000 in
theorem w_X8_value__L143 {p : Program} {l : Launch} {e : Env} {s : State} {m : MethodId} {args : Array Value} {below : List Frame} {meth : Method} {c : Code} {A : Nat → Prop} {g : Wg} {L : List Nat} {r : Int32} {μ' : Mem} (hC : CX p m c cX8_value_ 6 s args RX8) (hr : meth.sig.returnType = (some .int)) (hlocks : meth.locks = false) : ∀ (a0 : Nat) (a1 : Int32) (t0 : Nat) (t1 : Int32) (μ : Mem) (H : Heap) (locs : List Loc) (ls : Array Slot), lv_has ls 6 [(0, .ref a0), (1, .int a1)] → PW g L μ A s H locs → f_X8_value__L143 g.2 a0 a1 t0 t1 μ = some (r, μ') → W p l e rm_X8_value_ s m args below meth c H locs 0 0 (MQ below (QI g L A r μ') args s 0 0 A) (F0 m 143 ls [.int t1, .ref t0]) := by
  have hx := hC.1
  have hb := hC.2.1
  intro a0 a1 t0 t1 μ H locs ls hl hw hf
  unfold f_X8_value__L143 at hf
  refine lv_iconst (v := 4) hx hb dX8_value__143 nc_iconst_4 ?_
  obtain ⟨h102, hf⟩ := o_ite hf
  obtain ⟨r104, μ103, h101, hf⟩ := o_bind2 hf
  refine pw_goI hw (pw_runV (As := [.int t1, .int 4]) (rest := []) hC mm_X8_throwsIf tw_1317 (c_X8_throwsIf h101 _) ⟨rfl, rfl, by decide, by decide⟩ hw h102 rfl hl.1 (Nat.le_of_ble_eq_true rfl) ⟨Nat.zero_le _, Nat.zero_le _⟩ rfl dX8_value__144) (fun H locs hw => ?_)
  refine lv_if_eq (tgt := 152) hx hb dX8_value__147 (by decide) (fun c105 => ?_) (fun c105 => ?_)
  · have hf := o_pos c105 hf
    refine lv_aload_n hx hb dX8_value__152 rfl (lv_at hl 0 rfl) ?_
    obtain ⟨q106, h107, hf⟩ := o_bind hf
    refine pw_get hC fl_X8_25 hw (rdR_F h107) dX8_value__153 ?_
    refine lv_iload_n hx hb dX8_value__156 rfl (lv_at hl 1 rfl) ?_
    obtain ⟨v108, h109, hf⟩ := o_bind hf
    refine pw_iald hC hw h109 dX8_value__157 ?_
    obtain ⟨rfl, rfl⟩ := o_ret hf
    exact pw_iret hC hr hlocks hw dX8_value__158
  · have hf := o_neg c105 hf
    refine lv_iconst (v := 0) hx hb dX8_value__150 nc_iconst_0 ?_
    obtain ⟨rfl, rfl⟩ := o_ret hf
    exact pw_iret hC hr hlocks hw dX8_value__151
def f_X8_value__L94 (cy : Nat → ClassId) (a0 : Nat) (a1 : Int32) (a2 : Int32) (a3 : Int32) (t0 : Nat) (t1 : Int32) (μ : Mem) : Option (Int32 × Mem) :=
  if isO μ t0 7 = true then (ob2 (f_X8_throwsIf cy t0 t1 3 μ) fun r104 μ103 => if r104 = 0 then ((rdR μ103 a0 7 30).bind fun q106 => (rdR μ103 a0 7 9).bind fun q108 => (rdA cy μ103 1 q108 a1).bind fun v110 => (rdA cy μ103 1 q106 v110).bind fun v112 => (wrF μ103 a0 7 29 (.int v112)).bind fun μ114 => (rdR μ114 a0 7 1).bind fun q116 => if isO μ114 a0 7 = true then ((f_X8_valueIs cy a0 a2 q116 0 a3 μ114).bind fun μ120 => if isO μ120 a0 7 = true then (ob2 (f_X8_lays cy a0 a1 μ120) fun r124 μ123 => if r124 = 0 then (f_X8_value__L143 cy a0 a1 a0 1 μ123) else f_X8_value__L143 cy a0 a1 a0 0 μ123) else none) else none) else some (0, μ103)) else none
set_option maxRecDepth 100000 in
set_option maxHeartbeats 4000000 in
theorem w_X8_value__L94 {p : Program} {l : Launch} {e : Env} {s : State} {m : MethodId} {args : Array Value} {below : List Frame} {meth : Method} {c : Code} {A : Nat → Prop} {g : Wg} {L : List Nat} {r : Int32} {μ' : Mem} (hC : CX p m c cX8_value_ 6 s args RX8) (hr : meth.sig.returnType = (some .int)) (hlocks : meth.locks = false) : ∀ (a0 : Nat) (a1 : Int32) (a2 : Int32) (a3 : Int32) (t0 : Nat) (t1 : Int32) (μ : Mem) (H : Heap) (locs : List Loc) (ls : Array Slot), lv_has ls 6 [(0, .ref a0), (1, .int a1), (2, .int a2), (3, .int a3)] → PW g L μ A s H locs → f_X8_value__L94 g.2 a0 a1 a2 a3 t0 t1 μ = some (r, μ') → W p l e rm_X8_value_ s m args below meth c H locs 0 0 (MQ below (QI g L A r μ') args s 0 0 A) (F0 m 94 ls [.int t1, .ref t0]) := by
  have hx := hC.1
  have hb := hC.2.1
  intro a0 a1 a2 a3 t0 t1 μ H locs ls hl hw hf
  unfold f_X8_value__L94 at hf
  refine lv_iconst (v := 3) hx hb dX8_value__94 nc_iconst_3 ?_
  obtain ⟨h102, hf⟩ := o_ite hf
  obtain ⟨r104, μ103, h101, hf⟩ := o_bind2 hf
  refine pw_goI hw (pw_runV (As := [.int t1, .int 3]) (rest := []) hC mm_X8_throwsIf tw_1317 (c_X8_throwsIf h101 _) ⟨rfl, rfl, by decide, by decide⟩ hw h102 rfl hl.1 (Nat.le_of_ble_eq_true rfl) ⟨Nat.zero_le _, Nat.zero_le _⟩ rfl dX8_value__95) (fun H locs hw => ?_)
  refine lv_if_eq (tgt := 103) hx hb dX8_value__98 (by decide) (fun c105 => ?_) (fun c105 => ?_)
  · have hf := o_pos c105 hf
    refine lv_aload_n hx hb dX8_value__103 rfl (lv_at hl 0 rfl) ?_
    refine lv_aload_n hx hb dX8_value__104 rfl (lv_at hl 0 rfl) ?_
    obtain ⟨q106, h107, hf⟩ := o_bind hf
    refine pw_get hC fl_X8_80 hw (rdR_F h107) dX8_value__105 ?_
    refine lv_aload_n hx hb dX8_value__108 rfl (lv_at hl 0 rfl) ?_
    obtain ⟨q108, h109, hf⟩ := o_bind hf
    refine pw_get hC fl_X8_37 hw (rdR_F h109) dX8_value__109 ?_
    refine lv_iload_n hx hb dX8_value__112 rfl (lv_at hl 1 rfl) ?_
    obtain ⟨v110, h111, hf⟩ := o_bind hf
    refine pw_iald hC hw h111 dX8_value__113 ?_
    obtain ⟨v112, h113, hf⟩ := o_bind hf
    refine pw_iald hC hw h113 dX8_value__114 ?_
    obtain ⟨μ114, h115, hf⟩ := o_bind hf
    refine pw_put hC fl_X8_265 hw h115 .int fd_X8_29 rfl rfl dX8_value__115 (fun H locs hw => ?_)
    refine lv_aload_n hx hb dX8_value__118 rfl (lv_at hl 0 rfl) ?_
    refine lv_iload_n hx hb dX8_value__119 rfl (lv_at hl 2 rfl) ?_
    refine lv_aload_n hx hb dX8_value__120 rfl (lv_at hl 0 rfl) ?_
    obtain ⟨q116, h117, hf⟩ := o_bind hf
    refine pw_get hC fl_X8_13 hw (rdR_F h117) dX8_value__121 ?_
    refine lv_iconst (v := 0) hx hb dX8_value__124 nc_iconst_0 ?_
    refine lv_iload_n hx hb dX8_value__125 rfl (lv_at hl 3 rfl) ?_
    obtain ⟨h119, hf⟩ := o_ite hf
    obtain ⟨μ120, h118, hf⟩ := o_bind hf
    refine pw_goV hw (pw_runV (As := [.int a2, .ref q116, .int 0, .int a3]) (rest := []) hC mm_X8_valueIs tw_1422 (c_X8_valueIs h118 _) ⟨rfl, rfl, by decide, by decide⟩ hw h119 rfl hl.1 (Nat.le_of_ble_eq_true rfl) ⟨Nat.zero_le _, Nat.zero_le _⟩ rfl dX8_value__126) (fun H locs hw => ?_)
    refine lv_aload_n hx hb dX8_value__129 rfl (lv_at hl 0 rfl) ?_
    refine lv_aload_n hx hb dX8_value__130 rfl (lv_at hl 0 rfl) ?_
    refine lv_iload_n hx hb dX8_value__131 rfl (lv_at hl 1 rfl) ?_
    obtain ⟨h122, hf⟩ := o_ite hf
    obtain ⟨r124, μ123, h121, hf⟩ := o_bind2 hf
    refine pw_goI hw (pw_runV (As := [.int a1]) (rest := [.ref a0]) hC mm_X8_lays tw_1426 (c_X8_lays h121 _) ⟨rfl, rfl, by decide, by decide⟩ hw h122 rfl hl.1 (Nat.le_of_ble_eq_true rfl) ⟨Nat.zero_le _, Nat.zero_le _⟩ rfl dX8_value__132) (fun H locs hw => ?_)
    refine lv_if_ne (tgt := 142) hx hb dX8_value__135 (by decide) (fun c125 => ?_) (fun c125 => ?_)
    · have hf := o_neg c125 hf
      refine lv_iconst (v := 0) hx hb dX8_value__142 nc_iconst_0 ?_
      exact w_X8_value__L143 hC hr hlocks _ _ _ _ _ _ _ ls (lv_sub hl [0, 1] rfl) hw hf
    · have hf := o_pos c125 hf
      refine lv_iconst (v := 1) hx hb dX8_value__138 nc_iconst_1 ?_
      refine lv_goto (tgt := 143) hx hb dX8_value__139 (by decide) ?_
      exact w_X8_value__L143 hC hr hlocks _ _ _ _ _ _ _ ls (lv_sub hl [0, 1] rfl) hw hf
  · have hf := o_neg c105 hf
    refine lv_iconst (v := 0) hx hb dX8_value__101 nc_iconst_0 ?_
    obtain ⟨rfl, rfl⟩ := o_ret hf
    exact pw_iret hC hr hlocks hw dX8_value__102
def f_X8_value__L35 (cy : Nat → ClassId) (a0 : Nat) (a1 : Int32) (a2 : Int32) (a3 : Int32) (t0 : Nat) (t1 : Int32) (μ : Mem) : Option (Int32 × Mem) :=
  if isO μ t0 7 = true then (ob2 (f_X8_throwsIf cy t0 t1 2 μ) fun r104 μ103 => if r104 = 0 then (if isO μ103 a0 7 = true then (ob2 (f_X8_changes cy a0 a1 μ103) fun r109 μ108 => if isO μ108 a0 7 = true then ((f_X8_judges cy a0 μ108).bind fun μ112 => (wrF μ112 a0 7 2 (.int a3)).bind fun μ113 => (rdR μ113 a0 7 21).bind fun q115 => (rdR μ113 q115 6 12).bind fun q117 => (rdA cy μ113 1 q117 r109).bind fun v119 => if isO μ113 a0 7 = true then (ob2 (f_X8_isValue cy a0 a2 0 v119 μ113) fun r124 μ123 => (wrF μ123 a0 7 2 (.int 0)).bind fun μ125 => if r124 = 0 then (f_X8_value__L94 cy a0 a1 a2 a3 a0 1 μ125) else f_X8_value__L94 cy a0 a1 a2 a3 a0 0 μ125) else none) else none) else none) else some (0, μ103)) else none
set_option maxRecDepth 100000 in
set_option maxHeartbeats 4000000 in
theorem w_X8_value__L35 {p : Program} {l : Launch} {e : Env} {s : State} {m : MethodId} {args : Array Value} {below : List Frame} {meth : Method} {c : Code} {A : Nat → Prop} {g : Wg} {L : List Nat} {r : Int32} {μ' : Mem} (hC : CX p m c cX8_value_ 6 s args RX8) (hr : meth.sig.returnType = (some .int)) (hlocks : meth.locks = false) : ∀ (a0 : Nat) (a1 : Int32) (a2 : Int32) (a3 : Int32) (t0 : Nat) (t1 : Int32) (μ : Mem) (H : Heap) (locs : List Loc) (ls : Array Slot), lv_has ls 6 [(0, .ref a0), (1, .int a1), (2, .int a2), (3, .int a3)] → PW g L μ A s H locs → f_X8_value__L35 g.2 a0 a1 a2 a3 t0 t1 μ = some (r, μ') → W p l e rm_X8_value_ s m args below meth c H locs 0 0 (MQ below (QI g L A r μ') args s 0 0 A) (F0 m 35 ls [.int t1, .ref t0]) := by
  have hx := hC.1
  have hb := hC.2.1
  intro a0 a1 a2 a3 t0 t1 μ H locs ls hl hw hf
  unfold f_X8_value__L35 at hf
  refine lv_iconst (v := 2) hx hb dX8_value__35 nc_iconst_2 ?_
  obtain ⟨h102, hf⟩ := o_ite hf
  obtain ⟨r104, μ103, h101, hf⟩ := o_bind2 hf
  refine pw_goI hw (pw_runV (As := [.int t1, .int 2]) (rest := []) hC mm_X8_throwsIf tw_1317 (c_X8_throwsIf h101 _) ⟨rfl, rfl, by decide, by decide⟩ hw h102 rfl hl.1 (Nat.le_of_ble_eq_true rfl) ⟨Nat.zero_le _, Nat.zero_le _⟩ rfl dX8_value__36) (fun H locs hw => ?_)
  refine lv_if_eq (tgt := 44) hx hb dX8_value__39 (by decide) (fun c105 => ?_) (fun c105 => ?_)
  · have hf := o_pos c105 hf
    refine lv_aload_n hx hb dX8_value__44 rfl (lv_at hl 0 rfl) ?_
    refine lv_iload_n hx hb dX8_value__45 rfl (lv_at hl 1 rfl) ?_
    obtain ⟨h107, hf⟩ := o_ite hf
    obtain ⟨r109, μ108, h106, hf⟩ := o_bind2 hf
    refine pw_goI hw (pw_runV (As := [.int a1]) (rest := []) hC mm_X8_changes tw_1414 (c_X8_changes h106 _) ⟨rfl, rfl, by decide, by decide⟩ hw h107 rfl hl.1 (Nat.le_of_ble_eq_true rfl) ⟨Nat.zero_le _, Nat.zero_le _⟩ rfl dX8_value__46) (fun H locs hw => ?_)
    refine lv_istore (lv' := [(4, .int r109), (0, .ref a0), (1, .int a1), (2, .int a2), (3, .int a3)]) hx hb dX8_value__49 hl (by decide) rfl (fun ls hl => ?_)
    refine lv_aload_n hx hb dX8_value__51 rfl (lv_at hl 1 rfl) ?_
    obtain ⟨h111, hf⟩ := o_ite hf
    obtain ⟨μ112, h110, hf⟩ := o_bind hf
    refine pw_goV hw (pw_runV (As := []) (rest := []) hC mm_X8_judges tw_1229 (c_X8_judges h110 _) ⟨rfl, rfl, by decide, by decide⟩ hw h111 rfl hl.1 (Nat.le_of_ble_eq_true rfl) ⟨Nat.zero_le _, Nat.zero_le _⟩ rfl dX8_value__52) (fun H locs hw => ?_)
    refine lv_aload_n hx hb dX8_value__55 rfl (lv_at hl 1 rfl) ?_
    refine lv_iload_n hx hb dX8_value__56 rfl (lv_at hl 4 rfl) ?_
    obtain ⟨μ113, h114, hf⟩ := o_bind hf
    refine pw_put hC fl_X8_103 hw h114 .int fd_X8_2 rfl rfl dX8_value__57 (fun H locs hw => ?_)
    refine lv_aload_n hx hb dX8_value__60 rfl (lv_at hl 1 rfl) ?_
    refine lv_iload_n hx hb dX8_value__61 rfl (lv_at hl 3 rfl) ?_
    refine lv_iconst (v := 0) hx hb dX8_value__62 nc_iconst_0 ?_
    refine lv_aload_n hx hb dX8_value__63 rfl (lv_at hl 1 rfl) ?_
    obtain ⟨q115, h116, hf⟩ := o_bind hf
    refine pw_get hC fl_X8_67 hw (rdR_F h116) dX8_value__64 ?_
    obtain ⟨q117, h118, hf⟩ := o_bind hf
    refine pw_get hC fl_X8_225 hw (rdR_F h118) dX8_value__67 ?_
    refine lv_iload hx hb dX8_value__70 (lv_at hl 0 rfl) ?_
    obtain ⟨v119, h120, hf⟩ := o_bind hf
    refine pw_iald hC hw h120 dX8_value__72 ?_
    obtain ⟨h122, hf⟩ := o_ite hf
    obtain ⟨r124, μ123, h121, hf⟩ := o_bind2 hf
    refine pw_goI hw (pw_runV (As := [.int a2, .int 0, .int v119]) (rest := []) hC mm_X8_isValue tw_1418 (c_X8_isValue h121 _) ⟨rfl, rfl, by decide, by decide⟩ hw h122 rfl hl.1 (Nat.le_of_ble_eq_true rfl) ⟨Nat.zero_le _, Nat.zero_le _⟩ rfl dX8_value__73) (fun H locs hw => ?_)
    refine lv_istore (lv' := [(5, .int r124), (4, .int r109), (0, .ref a0), (1, .int a1), (2, .int a2), (3, .int a3)]) hx hb dX8_value__76 hl (by decide) rfl (fun ls hl => ?_)
    refine lv_aload_n hx hb dX8_value__78 rfl (lv_at hl 2 rfl) ?_
    refine lv_iconst (v := 0) hx hb dX8_value__79 nc_iconst_0 ?_
    obtain ⟨μ125, h126, hf⟩ := o_bind hf
    refine pw_put hC fl_X8_103 hw h126 .int fd_X8_2 rfl rfl dX8_value__80 (fun H locs hw => ?_)
    refine lv_aload_n hx hb dX8_value__83 rfl (lv_at hl 2 rfl) ?_
    refine lv_iload hx hb dX8_value__84 (lv_at hl 0 rfl) ?_
    refine lv_if_ne (tgt := 93) hx hb dX8_value__86 (by decide) (fun c127 => ?_) (fun c127 => ?_)
    · have hf := o_neg c127 hf
      refine lv_iconst (v := 0) hx hb dX8_value__93 nc_iconst_0 ?_
      exact w_X8_value__L94 hC hr hlocks _ _ _ _ _ _ _ _ _ ls (lv_sub hl [2, 3, 4, 5] rfl) hw hf
    · have hf := o_pos c127 hf
      refine lv_iconst (v := 1) hx hb dX8_value__89 nc_iconst_1 ?_
      refine lv_goto (tgt := 94) hx hb dX8_value__90 (by decide) ?_
      exact w_X8_value__L94 hC hr hlocks _ _ _ _ _ _ _ _ _ ls (lv_sub hl [2, 3, 4, 5] rfl) hw hf
  · have hf := o_neg c105 hf
    refine lv_iconst (v := 0) hx hb dX8_value__42 nc_iconst_0 ?_
    obtain ⟨rfl, rfl⟩ := o_ret hf
    exact pw_iret hC hr hlocks hw dX8_value__43
def f_X8_value_ (cy : Nat → ClassId) (a0 : Nat) (a1 : Int32) (a2 : Int32) (μ : Mem) : Option (Int32 × Mem) :=
  (rdI μ a0 7 2).bind fun v1 => (wrF μ a0 7 2 (.int 0)).bind fun μ3 => if isO μ3 a0 7 = true then (ob2 (f_X8_noShelf cy a0 a1 μ3) fun r8 μ7 => if r8 = 0 then ((rdR μ7 a0 7 9).bind fun q10 => (rdA cy μ7 1 q10 a1).bind fun v12 => if 0 ≤ v12 then (f_X8_value__L35 cy a0 a1 a2 v1 a0 0 μ7) else f_X8_value__L35 cy a0 a1 a2 v1 a0 1 μ7) else some (0, μ7)) else none
set_option maxRecDepth 100000 in
set_option maxHeartbeats 4000000 in
theorem c_X8_value_ {l : Launch} {g : Wg} {L : List Nat} {μ : Mem} {a0 : Nat} {a1 : Int32} {a2 : Int32} {r : Int32} {μ' : Mem} (hf : f_X8_value_ g.2 a0 a1 a2 μ = some (r, μ')) : MetI l yX8_value_ cX8_value_ 6 (some .int) rm_X8_value_ g L μ [.ref a0, .int a1, .int a2] r μ' := by
  refine pw_met (Qc := fun A => QI g L A r μ') (by decide) (Nat.le_of_ble_eq_true rfl) ?_
  intro p e s m args below meth c A ls H locs hC hr hlocks hl hw
  have hx := hC.1
  have hb := hC.2.1
  have hl : lv_has ls 6 [(0, .ref a0), (1, .int a1), (2, .int a2)] := hl
  unfold f_X8_value_ at hf
  refine lv_aload_n hx hb dX8_value__0 rfl (lv_at hl 0 rfl) ?_
  obtain ⟨v1, h2, hf⟩ := o_bind hf
  refine pw_get hC fl_X8_103 hw (rdI_F h2) dX8_value__1 ?_
  refine lv_istore_n (lv' := [(3, .int v1), (0, .ref a0), (1, .int a1), (2, .int a2)]) hx hb dX8_value__4 rfl hl (by decide) rfl (fun ls hl => ?_)
  refine lv_aload_n hx hb dX8_value__5 rfl (lv_at hl 1 rfl) ?_
  refine lv_iconst (v := 0) hx hb dX8_value__6 nc_iconst_0 ?_
  obtain ⟨μ3, h4, hf⟩ := o_bind hf
  refine pw_put hC fl_X8_103 hw h4 .int fd_X8_2 rfl rfl dX8_value__7 (fun H locs hw => ?_)
  refine lv_aload_n hx hb dX8_value__10 rfl (lv_at hl 1 rfl) ?_
  refine lv_iload_n hx hb dX8_value__11 rfl (lv_at hl 2 rfl) ?_
  obtain ⟨h6, hf⟩ := o_ite hf
  obtain ⟨r8, μ7, h5, hf⟩ := o_bind2 hf
  refine pw_goI hw (pw_runV (As := [.int a1]) (rest := []) hC mm_X8_noShelf tw_1313 (c_X8_noShelf h5 _) ⟨rfl, rfl, by decide, by decide⟩ hw h6 rfl hl.1 (Nat.le_of_ble_eq_true rfl) ⟨Nat.zero_le _, Nat.zero_le _⟩ rfl dX8_value__12) (fun H locs hw => ?_)
  refine lv_if_eq (tgt := 20) hx hb dX8_value__15 (by decide) (fun c9 => ?_) (fun c9 => ?_)
  · have hf := o_pos c9 hf
    refine lv_aload_n hx hb dX8_value__20 rfl (lv_at hl 1 rfl) ?_
    refine lv_aload_n hx hb dX8_value__21 rfl (lv_at hl 1 rfl) ?_
    obtain ⟨q10, h11, hf⟩ := o_bind hf
    refine pw_get hC fl_X8_37 hw (rdR_F h11) dX8_value__22 ?_
    refine lv_iload_n hx hb dX8_value__25 rfl (lv_at hl 2 rfl) ?_
    obtain ⟨v12, h13, hf⟩ := o_bind hf
    refine pw_iald hC hw h13 dX8_value__26 ?_
    refine lv_if_ge (tgt := 34) hx hb dX8_value__27 (by decide) (fun c14 => ?_) (fun c14 => ?_)
    · have hf := o_pos c14 hf
      refine lv_iconst (v := 0) hx hb dX8_value__34 nc_iconst_0 ?_
      exact w_X8_value__L35 hC hr hlocks _ _ _ _ _ _ _ _ _ ls (lv_sub hl [1, 2, 3, 0] rfl) hw hf
    · have hf := o_neg c14 hf
      refine lv_iconst (v := 1) hx hb dX8_value__30 nc_iconst_1 ?_
      refine lv_goto (tgt := 35) hx hb dX8_value__31 (by decide) ?_
      exact w_X8_value__L35 hC hr hlocks _ _ _ _ _ _ _ _ _ ls (lv_sub hl [1, 2, 3, 0] rfl) hw hf
  · have hf := o_neg c9 hf
    refine lv_iconst (v := 0) hx hb dX8_value__18 nc_iconst_0 ?_
    obtain ⟨rfl, rfl⟩ := o_ret hf
    exact pw_iret hC hr hlocks hw dX8_value__19
theorem dX8_put_0 : decode cX8_put 0 = .ok (.aload_n 0, 1) := by decide +kernel
theorem dX8_put_1 : decode cX8_put 1 = .ok (.getfield 103, 3) := by decide +kernel
theorem dX8_put_4 : decode cX8_put 4 = .ok (.istore 4, 2) := by decide +kernel
theorem dX8_put_6 : decode cX8_put 6 = .ok (.aload_n 0, 1) := by decide +kernel
theorem dX8_put_7 : decode cX8_put 7 = .ok (.iconst 0, 1) := by decide +kernel
theorem dX8_put_8 : decode cX8_put 8 = .ok (.putfield 103, 3) := by decide +kernel
theorem dX8_put_11 : decode cX8_put 11 = .ok (.aload_n 0, 1) := by decide +kernel
theorem dX8_put_12 : decode cX8_put 12 = .ok (.iload_n 1, 1) := by decide +kernel
theorem dX8_put_13 : decode cX8_put 13 = .ok (.invokevirtual 183, 3) := by decide +kernel
theorem dX8_put_16 : decode cX8_put 16 = .ok (.ifCond .eq 5, 3) := by decide +kernel
theorem dX8_put_19 : decode cX8_put 19 = .ok (.iconst 0, 1) := by decide +kernel
theorem dX8_put_20 : decode cX8_put 20 = .ok (.ireturn, 1) := by decide +kernel
theorem dX8_put_21 : decode cX8_put 21 = .ok (.aload_n 0, 1) := by decide +kernel
theorem dX8_put_22 : decode cX8_put 22 = .ok (.iload_n 1, 1) := by decide +kernel
theorem dX8_put_23 : decode cX8_put 23 = .ok (.invokevirtual 322, 3) := by decide +kernel
theorem dX8_put_26 : decode cX8_put 26 = .ok (.istore 5, 2) := by decide +kernel
theorem dX8_put_28 : decode cX8_put 28 = .ok (.aload_n 0, 1) := by decide +kernel
theorem dX8_put_29 : decode cX8_put 29 = .ok (.iload_n 2, 1) := by decide +kernel
theorem dX8_put_30 : decode cX8_put 30 = .ok (.ifCond .lt 11, 3) := by decide +kernel
theorem dX8_put_33 : decode cX8_put 33 = .ok (.iload_n 2, 1) := by decide +kernel
theorem dX8_put_34 : decode cX8_put 34 = .ok (.aload_n 0, 1) := by decide +kernel
theorem dX8_put_35 : decode cX8_put 35 = .ok (.getfield 268, 3) := by decide +kernel
theorem dX8_put_38 : decode cX8_put 38 = .ok (.if_icmp .le 7, 3) := by decide +kernel
theorem dX8_put_41 : decode cX8_put 41 = .ok (.iconst 1, 1) := by decide +kernel
theorem dX8_put_42 : decode cX8_put 42 = .ok (.goto 4, 3) := by decide +kernel
theorem dX8_put_45 : decode cX8_put 45 = .ok (.iconst 0, 1) := by decide +kernel
theorem dX8_put_46 : decode cX8_put 46 = .ok (.iconst 2, 1) := by decide +kernel
theorem dX8_put_47 : decode cX8_put 47 = .ok (.invokevirtual 186, 3) := by decide +kernel
theorem dX8_put_50 : decode cX8_put 50 = .ok (.ifCond .eq 5, 3) := by decide +kernel
theorem dX8_put_53 : decode cX8_put 53 = .ok (.iconst 0, 1) := by decide +kernel
theorem dX8_put_54 : decode cX8_put 54 = .ok (.ireturn, 1) := by decide +kernel
theorem dX8_put_55 : decode cX8_put 55 = .ok (.aload_n 0, 1) := by decide +kernel
theorem dX8_put_56 : decode cX8_put 56 = .ok (.invokevirtual 170, 3) := by decide +kernel
theorem dX8_put_59 : decode cX8_put 59 = .ok (.aload_n 0, 1) := by decide +kernel
theorem dX8_put_60 : decode cX8_put 60 = .ok (.iload 4, 2) := by decide +kernel
theorem dX8_put_62 : decode cX8_put 62 = .ok (.putfield 103, 3) := by decide +kernel
theorem dX8_put_65 : decode cX8_put 65 = .ok (.aload_n 0, 1) := by decide +kernel
theorem dX8_put_66 : decode cX8_put 66 = .ok (.iload_n 3, 1) := by decide +kernel
theorem dX8_put_67 : decode cX8_put 67 = .ok (.aload_n 0, 1) := by decide +kernel
theorem dX8_put_68 : decode cX8_put 68 = .ok (.getfield 67, 3) := by decide +kernel
theorem dX8_put_71 : decode cX8_put 71 = .ok (.getfield 228, 3) := by decide +kernel
theorem dX8_put_74 : decode cX8_put 74 = .ok (.iload 5, 2) := by decide +kernel
theorem dX8_put_76 : decode cX8_put 76 = .ok (.iaload, 1) := by decide +kernel
theorem dX8_put_77 : decode cX8_put 77 = .ok (.iconst 4, 1) := by decide +kernel
theorem dX8_put_78 : decode cX8_put 78 = .ok (.if_icmp .ne 7, 3) := by decide +kernel
theorem dX8_put_81 : decode cX8_put 81 = .ok (.iconst 1, 1) := by decide +kernel
theorem dX8_put_82 : decode cX8_put 82 = .ok (.goto 4, 3) := by decide +kernel
theorem dX8_put_85 : decode cX8_put 85 = .ok (.iconst 0, 1) := by decide +kernel
theorem dX8_put_86 : decode cX8_put 86 = .ok (.aload_n 0, 1) := by decide +kernel
theorem dX8_put_87 : decode cX8_put 87 = .ok (.getfield 67, 3) := by decide +kernel
theorem dX8_put_90 : decode cX8_put 90 = .ok (.getfield 225, 3) := by decide +kernel
theorem dX8_put_93 : decode cX8_put 93 = .ok (.iload 5, 2) := by decide +kernel
theorem dX8_put_95 : decode cX8_put 95 = .ok (.iaload, 1) := by decide +kernel
theorem dX8_put_96 : decode cX8_put 96 = .ok (.invokevirtual 335, 3) := by decide +kernel
theorem dX8_put_99 : decode cX8_put 99 = .ok (.istore 6, 2) := by decide +kernel
theorem dX8_put_101 : decode cX8_put 101 = .ok (.aload_n 0, 1) := by decide +kernel
theorem dX8_put_102 : decode cX8_put 102 = .ok (.iconst 0, 1) := by decide +kernel
theorem dX8_put_103 : decode cX8_put 103 = .ok (.putfield 103, 3) := by decide +kernel
theorem dX8_put_106 : decode cX8_put 106 = .ok (.aload_n 0, 1) := by decide +kernel
theorem dX8_put_107 : decode cX8_put 107 = .ok (.iload 6, 2) := by decide +kernel
theorem dX8_put_109 : decode cX8_put 109 = .ok (.ifCond .ne 7, 3) := by decide +kernel
theorem dX8_put_112 : decode cX8_put 112 = .ok (.iconst 1, 1) := by decide +kernel
theorem dX8_put_113 : decode cX8_put 113 = .ok (.goto 4, 3) := by decide +kernel
theorem dX8_put_116 : decode cX8_put 116 = .ok (.iconst 0, 1) := by decide +kernel
theorem dX8_put_117 : decode cX8_put 117 = .ok (.iconst 3, 1) := by decide +kernel
theorem dX8_put_118 : decode cX8_put 118 = .ok (.invokevirtual 186, 3) := by decide +kernel
theorem dX8_put_121 : decode cX8_put 121 = .ok (.ifCond .eq 5, 3) := by decide +kernel
theorem dX8_put_124 : decode cX8_put 124 = .ok (.iconst 0, 1) := by decide +kernel
theorem dX8_put_125 : decode cX8_put 125 = .ok (.ireturn, 1) := by decide +kernel
theorem dX8_put_126 : decode cX8_put 126 = .ok (.aload_n 0, 1) := by decide +kernel
theorem dX8_put_127 : decode cX8_put 127 = .ok (.getfield 268, 3) := by decide +kernel
theorem dX8_put_130 : decode cX8_put 130 = .ok (.istore 7, 2) := by decide +kernel
theorem dX8_put_132 : decode cX8_put 132 = .ok (.iload 7, 2) := by decide +kernel
theorem dX8_put_134 : decode cX8_put 134 = .ok (.iload_n 2, 1) := by decide +kernel
theorem dX8_put_135 : decode cX8_put 135 = .ok (.if_icmp .le 25, 3) := by decide +kernel
theorem dX8_put_138 : decode cX8_put 138 = .ok (.aload_n 0, 1) := by decide +kernel
theorem dX8_put_139 : decode cX8_put 139 = .ok (.getfield 80, 3) := by decide +kernel
theorem dX8_put_142 : decode cX8_put 142 = .ok (.iload 7, 2) := by decide +kernel
theorem dX8_put_144 : decode cX8_put 144 = .ok (.aload_n 0, 1) := by decide +kernel
theorem dX8_put_145 : decode cX8_put 145 = .ok (.getfield 80, 3) := by decide +kernel
theorem dX8_put_148 : decode cX8_put 148 = .ok (.iload 7, 2) := by decide +kernel
theorem dX8_put_150 : decode cX8_put 150 = .ok (.iconst 1, 1) := by decide +kernel
theorem dX8_put_151 : decode cX8_put 151 = .ok (.isub, 1) := by decide +kernel
theorem dX8_put_152 : decode cX8_put 152 = .ok (.iaload, 1) := by decide +kernel
theorem dX8_put_153 : decode cX8_put 153 = .ok (.iastore, 1) := by decide +kernel
theorem dX8_put_154 : decode cX8_put 154 = .ok (.iinc 7 (-1), 3) := by decide +kernel
theorem dX8_put_157 : decode cX8_put 157 = .ok (.goto (-25), 3) := by decide +kernel
theorem dX8_put_160 : decode cX8_put 160 = .ok (.aload_n 0, 1) := by decide +kernel
theorem dX8_put_161 : decode cX8_put 161 = .ok (.getfield 80, 3) := by decide +kernel
theorem dX8_put_164 : decode cX8_put 164 = .ok (.iload_n 2, 1) := by decide +kernel
theorem dX8_put_165 : decode cX8_put 165 = .ok (.iconst (-1), 1) := by decide +kernel
theorem dX8_put_166 : decode cX8_put 166 = .ok (.iastore, 1) := by decide +kernel
theorem dX8_put_167 : decode cX8_put 167 = .ok (.aload_n 0, 1) := by decide +kernel
theorem dX8_put_168 : decode cX8_put 168 = .ok (.dup, 1) := by decide +kernel
theorem dX8_put_169 : decode cX8_put 169 = .ok (.getfield 268, 3) := by decide +kernel
theorem dX8_put_172 : decode cX8_put 172 = .ok (.iconst 1, 1) := by decide +kernel
theorem dX8_put_173 : decode cX8_put 173 = .ok (.iadd, 1) := by decide +kernel
theorem dX8_put_174 : decode cX8_put 174 = .ok (.putfield 268, 3) := by decide +kernel
theorem dX8_put_177 : decode cX8_put 177 = .ok (.aload_n 0, 1) := by decide +kernel
theorem dX8_put_178 : decode cX8_put 178 = .ok (.aload_n 0, 1) := by decide +kernel
theorem dX8_put_179 : decode cX8_put 179 = .ok (.getfield 13, 3) := by decide +kernel
theorem dX8_put_182 : decode cX8_put 182 = .ok (.iconst 0, 1) := by decide +kernel
theorem dX8_put_183 : decode cX8_put 183 = .ok (.aload_n 0, 1) := by decide +kernel
theorem dX8_put_184 : decode cX8_put 184 = .ok (.getfield 339, 3) := by decide +kernel
theorem dX8_put_187 : decode cX8_put 187 = .ok (.iconst 1, 1) := by decide +kernel
theorem dX8_put_188 : decode cX8_put 188 = .ok (.isub, 1) := by decide +kernel
theorem dX8_put_189 : decode cX8_put 189 = .ok (.invokevirtual 342, 3) := by decide +kernel
theorem dX8_put_192 : decode cX8_put 192 = .ok (.aload_n 0, 1) := by decide +kernel
theorem dX8_put_193 : decode cX8_put 193 = .ok (.iload_n 3, 1) := by decide +kernel
theorem dX8_put_194 : decode cX8_put 194 = .ok (.aload_n 0, 1) := by decide +kernel
theorem dX8_put_195 : decode cX8_put 195 = .ok (.getfield 13, 3) := by decide +kernel
theorem dX8_put_198 : decode cX8_put 198 = .ok (.aload_n 0, 1) := by decide +kernel
theorem dX8_put_199 : decode cX8_put 199 = .ok (.getfield 339, 3) := by decide +kernel
theorem dX8_put_202 : decode cX8_put 202 = .ok (.iload 4, 2) := by decide +kernel
theorem dX8_put_204 : decode cX8_put 204 = .ok (.aload_n 0, 1) := by decide +kernel
theorem dX8_put_205 : decode cX8_put 205 = .ok (.getfield 339, 3) := by decide +kernel
theorem dX8_put_208 : decode cX8_put 208 = .ok (.isub, 1) := by decide +kernel
theorem dX8_put_209 : decode cX8_put 209 = .ok (.invokevirtual 328, 3) := by decide +kernel
theorem dX8_put_212 : decode cX8_put 212 = .ok (.aload_n 0, 1) := by decide +kernel
theorem dX8_put_213 : decode cX8_put 213 = .ok (.aload_n 0, 1) := by decide +kernel
theorem dX8_put_214 : decode cX8_put 214 = .ok (.iload_n 1, 1) := by decide +kernel
theorem dX8_put_215 : decode cX8_put 215 = .ok (.invokevirtual 332, 3) := by decide +kernel
theorem dX8_put_218 : decode cX8_put 218 = .ok (.ifCond .ne 7, 3) := by decide +kernel
theorem dX8_put_221 : decode cX8_put 221 = .ok (.iconst 1, 1) := by decide +kernel
theorem dX8_put_222 : decode cX8_put 222 = .ok (.goto 4, 3) := by decide +kernel
theorem dX8_put_225 : decode cX8_put 225 = .ok (.iconst 0, 1) := by decide +kernel
theorem dX8_put_226 : decode cX8_put 226 = .ok (.iconst 4, 1) := by decide +kernel
theorem dX8_put_227 : decode cX8_put 227 = .ok (.invokevirtual 186, 3) := by decide +kernel
theorem dX8_put_230 : decode cX8_put 230 = .ok (.ifCond .eq 5, 3) := by decide +kernel
theorem dX8_put_233 : decode cX8_put 233 = .ok (.iconst 0, 1) := by decide +kernel
theorem dX8_put_234 : decode cX8_put 234 = .ok (.ireturn, 1) := by decide +kernel
theorem dX8_put_235 : decode cX8_put 235 = .ok (.aload_n 0, 1) := by decide +kernel
theorem dX8_put_236 : decode cX8_put 236 = .ok (.getfield 37, 3) := by decide +kernel
theorem dX8_put_239 : decode cX8_put 239 = .ok (.iload_n 1, 1) := by decide +kernel
theorem dX8_put_240 : decode cX8_put 240 = .ok (.iload_n 2, 1) := by decide +kernel
theorem dX8_put_241 : decode cX8_put 241 = .ok (.iastore, 1) := by decide +kernel
theorem dX8_put_242 : decode cX8_put 242 = .ok (.aload_n 0, 1) := by decide +kernel
theorem dX8_put_243 : decode cX8_put 243 = .ok (.getfield 25, 3) := by decide +kernel
theorem dX8_put_246 : decode cX8_put 246 = .ok (.iload_n 1, 1) := by decide +kernel
theorem dX8_put_247 : decode cX8_put 247 = .ok (.iaload, 1) := by decide +kernel
theorem dX8_put_248 : decode cX8_put 248 = .ok (.ireturn, 1) := by decide +kernel
abbrev rm_X8_put : Room := { frames := 126, cells := 0, slots := 0, locals := 3506 }
def f_X8_put_L226 (cy : Nat → ClassId) (a0 : Nat) (a1 : Int32) (a2 : Int32) (t0 : Nat) (t1 : Int32) (μ : Mem) : Option (Int32 × Mem) :=
  if isO μ t0 7 = true then (ob2 (f_X8_throwsIf cy t0 t1 4 μ) fun r104 μ103 => if r104 = 0 then ((rdR μ103 a0 7 9).bind fun q106 => (wrA cy μ103 1 q106 a1 a2).bind fun μ108 => (rdR μ108 a0 7 6).bind fun q110 => (rdA cy μ108 1 q110 a1).bind fun v112 => some (v112, μ108)) else some (0, μ103)) else none
set_option maxRecDepth 100000 in
set_option maxHeartbeats 4000000 in
theorem w_X8_put_L226 {p : Program} {l : Launch} {e : Env} {s : State} {m : MethodId} {args : Array Value} {below : List Frame} {meth : Method} {c : Code} {A : Nat → Prop} {g : Wg} {L : List Nat} {r : Int32} {μ' : Mem} (hC : CX p m c cX8_put 8 s args RX8) (hr : meth.sig.returnType = (some .int)) (hlocks : meth.locks = false) : ∀ (a0 : Nat) (a1 : Int32) (a2 : Int32) (t0 : Nat) (t1 : Int32) (μ : Mem) (H : Heap) (locs : List Loc) (ls : Array Slot), lv_has ls 8 [(0, .ref a0), (1, .int a1), (2, .int a2)] → PW g L μ A s H locs → f_X8_put_L226 g.2 a0 a1 a2 t0 t1 μ = some (r, μ') → W p l e rm_X8_put s m args below meth c H locs 0 0 (MQ below (QI g L A r μ') args s 0 0 A) (F0 m 226 ls [.int t1, .ref t0]) := by
  have hx := hC.1
  have hb := hC.2.1
  intro a0 a1 a2 t0 t1 μ H locs ls hl hw hf
  unfold f_X8_put_L226 at hf
  refine lv_iconst (v := 4) hx hb dX8_put_226 nc_iconst_4 ?_
  obtain ⟨h102, hf⟩ := o_ite hf
  obtain ⟨r104, μ103, h101, hf⟩ := o_bind2 hf
  refine pw_goI hw (pw_runV (As := [.int t1, .int 4]) (rest := []) hC mm_X8_throwsIf tw_1317 (c_X8_throwsIf h101 _) ⟨rfl, rfl, by decide, by decide⟩ hw h102 rfl hl.1 (Nat.le_of_ble_eq_true rfl) ⟨Nat.zero_le _, Nat.zero_le _⟩ rfl dX8_put_227) (fun H locs hw => ?_)
  refine lv_if_eq (tgt := 235) hx hb dX8_put_230 (by decide) (fun c105 => ?_) (fun c105 => ?_)
  · have hf := o_pos c105 hf
    refine lv_aload_n hx hb dX8_put_235 rfl (lv_at hl 0 rfl) ?_
    obtain ⟨q106, h107, hf⟩ := o_bind hf
    refine pw_get hC fl_X8_37 hw (rdR_F h107) dX8_put_236 ?_
    refine lv_iload_n hx hb dX8_put_239 rfl (lv_at hl 1 rfl) ?_
    refine lv_iload_n hx hb dX8_put_240 rfl (lv_at hl 2 rfl) ?_
    obtain ⟨μ108, h109, hf⟩ := o_bind hf
    refine pw_iast hC hw h109 dX8_put_241 (fun H locs hw => ?_)
    refine lv_aload_n hx hb dX8_put_242 rfl (lv_at hl 0 rfl) ?_
    obtain ⟨q110, h111, hf⟩ := o_bind hf
    refine pw_get hC fl_X8_25 hw (rdR_F h111) dX8_put_243 ?_
    refine lv_iload_n hx hb dX8_put_246 rfl (lv_at hl 1 rfl) ?_
    obtain ⟨v112, h113, hf⟩ := o_bind hf
    refine pw_iald hC hw h113 dX8_put_247 ?_
    obtain ⟨rfl, rfl⟩ := o_ret hf
    exact pw_iret hC hr hlocks hw dX8_put_248
  · have hf := o_neg c105 hf
    refine lv_iconst (v := 0) hx hb dX8_put_233 nc_iconst_0 ?_
    obtain ⟨rfl, rfl⟩ := o_ret hf
    exact pw_iret hC hr hlocks hw dX8_put_234
def f_X8_put_L132 (cy : Nat → ClassId) : Nat → Nat → Int32 → Int32 → Int32 → Int32 → Int32 → Mem → Option (Int32 × Mem)
  | 0, _, _, _, _, _, _, _ => none
  | n + 1, a0, a1, a2, a3, a4, a7, μ => if a7 ≤ a2 then ((rdR μ a0 7 30).bind fun q102 => (wrA cy μ 1 q102 a2 (-1)).bind fun μ104 => (rdI μ104 a0 7 31).bind fun v106 => (wrF μ104 a0 7 31 (.int (v106 + 1))).bind fun μ108 => (rdR μ108 a0 7 1).bind fun q110 => (rdI μ108 a0 7 42).bind fun v112 => if isO μ108 a0 7 = true then ((f_X8_nameIs cy a0 q110 0 (v112 - 1) μ108).bind fun μ116 => (rdR μ116 a0 7 1).bind fun q117 => (rdI μ116 a0 7 42).bind fun v119 => (rdI μ116 a0 7 42).bind fun v121 => if isO μ116 a0 7 = true then ((f_X8_valueIs cy a0 a3 q117 v119 (a4 - v121) μ116).bind fun μ125 => if isO μ125 a0 7 = true then (ob2 (f_X8_lays cy a0 a1 μ125) fun r129 μ128 => if r129 = 0 then (f_X8_put_L226 cy a0 a1 a2 a0 1 μ128) else f_X8_put_L226 cy a0 a1 a2 a0 0 μ128) else none) else none) else none) else (rdR μ a0 7 30).bind fun q131 => (rdR μ a0 7 30).bind fun q133 => (rdA cy μ 1 q133 (a7 - 1)).bind fun v135 => (wrA cy μ 1 q131 a7 v135).bind fun μ137 => f_X8_put_L132 cy n a0 a1 a2 a3 a4 (a7 + (-1)) μ137
set_option maxRecDepth 100000 in
set_option maxHeartbeats 4000000 in
theorem w_X8_put_L132 {p : Program} {l : Launch} {e : Env} {s : State} {m : MethodId} {args : Array Value} {below : List Frame} {meth : Method} {c : Code} {A : Nat → Prop} {g : Wg} {L : List Nat} {r : Int32} {μ' : Mem} (hC : CX p m c cX8_put 8 s args RX8) (hr : meth.sig.returnType = (some .int)) (hlocks : meth.locks = false) : ∀ (n : Nat), ∀ (a0 : Nat) (a1 : Int32) (a2 : Int32) (a3 : Int32) (a4 : Int32) (a7 : Int32) (μ : Mem) (H : Heap) (locs : List Loc) (ls : Array Slot), lv_has ls 8 [(0, .ref a0), (1, .int a1), (2, .int a2), (3, .int a3), (4, .int a4), (7, .int a7)] → PW g L μ A s H locs → f_X8_put_L132 g.2 n a0 a1 a2 a3 a4 a7 μ = some (r, μ') → W p l e rm_X8_put s m args below meth c H locs 0 0 (MQ below (QI g L A r μ') args s 0 0 A) (F0 m 132 ls []) := by
  have hx := hC.1
  have hb := hC.2.1
  intro n
  induction n with
  | zero => intro a0 a1 a2 a3 a4 a7 μ H locs ls hl hw hf; cases hf
  | succ n ih =>
    intro a0 a1 a2 a3 a4 a7 μ H locs ls hl hw hf
    rw [f_X8_put_L132] at hf
    refine lv_iload hx hb dX8_put_132 (lv_at hl 5 rfl) ?_
    refine lv_iload_n hx hb dX8_put_134 rfl (lv_at hl 2 rfl) ?_
    refine lv_icmp_le (tgt := 160) hx hb dX8_put_135 (by decide) (fun c101 => ?_) (fun c101 => ?_)
    · have hf := o_pos c101 hf
      refine lv_aload_n hx hb dX8_put_160 rfl (lv_at hl 0 rfl) ?_
      obtain ⟨q102, h103, hf⟩ := o_bind hf
      refine pw_get hC fl_X8_80 hw (rdR_F h103) dX8_put_161 ?_
      refine lv_iload_n hx hb dX8_put_164 rfl (lv_at hl 2 rfl) ?_
      refine lv_iconst (v := (-1)) hx hb dX8_put_165 nc_iconst_m1 ?_
      obtain ⟨μ104, h105, hf⟩ := o_bind hf
      refine pw_iast hC hw h105 dX8_put_166 (fun H locs hw => ?_)
      refine lv_aload_n hx hb dX8_put_167 rfl (lv_at hl 0 rfl) ?_
      refine lv_dup hx hb dX8_put_168 rfl ?_
      obtain ⟨v106, h107, hf⟩ := o_bind hf
      refine pw_get hC fl_X8_268 hw (rdI_F h107) dX8_put_169 ?_
      refine lv_iconst (v := 1) hx hb dX8_put_172 nc_iconst_1 ?_
      refine lv_iadd hx hb dX8_put_173 ?_
      obtain ⟨μ108, h109, hf⟩ := o_bind hf
      refine pw_put hC fl_X8_268 hw h109 .int fd_X8_31 rfl rfl dX8_put_174 (fun H locs hw => ?_)
      refine lv_aload_n hx hb dX8_put_177 rfl (lv_at hl 0 rfl) ?_
      refine lv_aload_n hx hb dX8_put_178 rfl (lv_at hl 0 rfl) ?_
      obtain ⟨q110, h111, hf⟩ := o_bind hf
      refine pw_get hC fl_X8_13 hw (rdR_F h111) dX8_put_179 ?_
      refine lv_iconst (v := 0) hx hb dX8_put_182 nc_iconst_0 ?_
      refine lv_aload_n hx hb dX8_put_183 rfl (lv_at hl 0 rfl) ?_
      obtain ⟨v112, h113, hf⟩ := o_bind hf
      refine pw_get hC fl_X8_339 hw (rdI_F h113) dX8_put_184 ?_
      refine lv_iconst (v := 1) hx hb dX8_put_187 nc_iconst_1 ?_
      refine lv_isub hx hb dX8_put_188 ?_
      obtain ⟨h115, hf⟩ := o_ite hf
      obtain ⟨μ116, h114, hf⟩ := o_bind hf
      refine pw_goV hw (pw_runV (As := [.ref q110, .int 0, .int (v112 - 1)]) (rest := []) hC mm_X8_nameIs tw_1466 (c_X8_nameIs h114 _) ⟨rfl, rfl, by decide, by decide⟩ hw h115 rfl hl.1 (Nat.le_of_ble_eq_true rfl) ⟨Nat.zero_le _, Nat.zero_le _⟩ rfl dX8_put_189) (fun H locs hw => ?_)
      refine lv_aload_n hx hb dX8_put_192 rfl (lv_at hl 0 rfl) ?_
      refine lv_iload_n hx hb dX8_put_193 rfl (lv_at hl 3 rfl) ?_
      refine lv_aload_n hx hb dX8_put_194 rfl (lv_at hl 0 rfl) ?_
      obtain ⟨q117, h118, hf⟩ := o_bind hf
      refine pw_get hC fl_X8_13 hw (rdR_F h118) dX8_put_195 ?_
      refine lv_aload_n hx hb dX8_put_198 rfl (lv_at hl 0 rfl) ?_
      obtain ⟨v119, h120, hf⟩ := o_bind hf
      refine pw_get hC fl_X8_339 hw (rdI_F h120) dX8_put_199 ?_
      refine lv_iload hx hb dX8_put_202 (lv_at hl 4 rfl) ?_
      refine lv_aload_n hx hb dX8_put_204 rfl (lv_at hl 0 rfl) ?_
      obtain ⟨v121, h122, hf⟩ := o_bind hf
      refine pw_get hC fl_X8_339 hw (rdI_F h122) dX8_put_205 ?_
      refine lv_isub hx hb dX8_put_208 ?_
      obtain ⟨h124, hf⟩ := o_ite hf
      obtain ⟨μ125, h123, hf⟩ := o_bind hf
      refine pw_goV hw (pw_runV (As := [.int a3, .ref q117, .int v119, .int (a4 - v121)]) (rest := []) hC mm_X8_valueIs tw_1422 (c_X8_valueIs h123 _) ⟨rfl, rfl, by decide, by decide⟩ hw h124 rfl hl.1 (Nat.le_of_ble_eq_true rfl) ⟨Nat.zero_le _, Nat.zero_le _⟩ rfl dX8_put_209) (fun H locs hw => ?_)
      refine lv_aload_n hx hb dX8_put_212 rfl (lv_at hl 0 rfl) ?_
      refine lv_aload_n hx hb dX8_put_213 rfl (lv_at hl 0 rfl) ?_
      refine lv_iload_n hx hb dX8_put_214 rfl (lv_at hl 1 rfl) ?_
      obtain ⟨h127, hf⟩ := o_ite hf
      obtain ⟨r129, μ128, h126, hf⟩ := o_bind2 hf
      refine pw_goI hw (pw_runV (As := [.int a1]) (rest := [.ref a0]) hC mm_X8_lays tw_1426 (c_X8_lays h126 _) ⟨rfl, rfl, by decide, by decide⟩ hw h127 rfl hl.1 (Nat.le_of_ble_eq_true rfl) ⟨Nat.zero_le _, Nat.zero_le _⟩ rfl dX8_put_215) (fun H locs hw => ?_)
      refine lv_if_ne (tgt := 225) hx hb dX8_put_218 (by decide) (fun c130 => ?_) (fun c130 => ?_)
      · have hf := o_neg c130 hf
        refine lv_iconst (v := 0) hx hb dX8_put_225 nc_iconst_0 ?_
        exact w_X8_put_L226 hC hr hlocks _ _ _ _ _ _ _ _ ls (lv_sub hl [0, 1, 2] rfl) hw hf
      · have hf := o_pos c130 hf
        refine lv_iconst (v := 1) hx hb dX8_put_221 nc_iconst_1 ?_
        refine lv_goto (tgt := 226) hx hb dX8_put_222 (by decide) ?_
        exact w_X8_put_L226 hC hr hlocks _ _ _ _ _ _ _ _ ls (lv_sub hl [0, 1, 2] rfl) hw hf
    · have hf := o_neg c101 hf
      refine lv_aload_n hx hb dX8_put_138 rfl (lv_at hl 0 rfl) ?_
      obtain ⟨q131, h132, hf⟩ := o_bind hf
      refine pw_get hC fl_X8_80 hw (rdR_F h132) dX8_put_139 ?_
      refine lv_iload hx hb dX8_put_142 (lv_at hl 5 rfl) ?_
      refine lv_aload_n hx hb dX8_put_144 rfl (lv_at hl 0 rfl) ?_
      obtain ⟨q133, h134, hf⟩ := o_bind hf
      refine pw_get hC fl_X8_80 hw (rdR_F h134) dX8_put_145 ?_
      refine lv_iload hx hb dX8_put_148 (lv_at hl 5 rfl) ?_
      refine lv_iconst (v := 1) hx hb dX8_put_150 nc_iconst_1 ?_
      refine lv_isub hx hb dX8_put_151 ?_
      obtain ⟨v135, h136, hf⟩ := o_bind hf
      refine pw_iald hC hw h136 dX8_put_152 ?_
      obtain ⟨μ137, h138, hf⟩ := o_bind hf
      refine pw_iast hC hw h138 dX8_put_153 (fun H locs hw => ?_)
      refine lv_iinc (v := (a7 + (-1))) (lv' := [(7, .int (a7 + (-1))), (0, .ref a0), (1, .int a1), (2, .int a2), (3, .int a3), (4, .int a4)]) hx hb dX8_put_154 hl (k := 5) rfl (by first | rfl | decide +kernel) (by decide) rfl (fun ls hl => ?_)
      refine lv_goto (tgt := 132) hx hb dX8_put_157 (by decide) ?_
      exact ih _ _ _ _ _ _ _ _ _ ls (lv_sub hl [1, 2, 3, 4, 5, 0] rfl) hw hf
def f_X8_put_L117 (cy : Nat → ClassId) (a0 : Nat) (a1 : Int32) (a2 : Int32) (a3 : Int32) (a4 : Int32) (t0 : Nat) (t1 : Int32) (μ : Mem) : Option (Int32 × Mem) :=
  if isO μ t0 7 = true then (ob2 (f_X8_throwsIf cy t0 t1 3 μ) fun r104 μ103 => if r104 = 0 then ((rdI μ103 a0 7 31).bind fun v106 => f_X8_put_L132 cy FU a0 a1 a2 a3 a4 v106 μ103) else some (0, μ103)) else none
set_option maxRecDepth 100000 in
set_option maxHeartbeats 4000000 in
theorem w_X8_put_L117 {p : Program} {l : Launch} {e : Env} {s : State} {m : MethodId} {args : Array Value} {below : List Frame} {meth : Method} {c : Code} {A : Nat → Prop} {g : Wg} {L : List Nat} {r : Int32} {μ' : Mem} (hC : CX p m c cX8_put 8 s args RX8) (hr : meth.sig.returnType = (some .int)) (hlocks : meth.locks = false) : ∀ (a0 : Nat) (a1 : Int32) (a2 : Int32) (a3 : Int32) (a4 : Int32) (t0 : Nat) (t1 : Int32) (μ : Mem) (H : Heap) (locs : List Loc) (ls : Array Slot), lv_has ls 8 [(0, .ref a0), (1, .int a1), (2, .int a2), (3, .int a3), (4, .int a4)] → PW g L μ A s H locs → f_X8_put_L117 g.2 a0 a1 a2 a3 a4 t0 t1 μ = some (r, μ') → W p l e rm_X8_put s m args below meth c H locs 0 0 (MQ below (QI g L A r μ') args s 0 0 A) (F0 m 117 ls [.int t1, .ref t0]) := by
  have hx := hC.1
  have hb := hC.2.1
  intro a0 a1 a2 a3 a4 t0 t1 μ H locs ls hl hw hf
  unfold f_X8_put_L117 at hf
  refine lv_iconst (v := 3) hx hb dX8_put_117 nc_iconst_3 ?_
  obtain ⟨h102, hf⟩ := o_ite hf
  obtain ⟨r104, μ103, h101, hf⟩ := o_bind2 hf
  refine pw_goI hw (pw_runV (As := [.int t1, .int 3]) (rest := []) hC mm_X8_throwsIf tw_1317 (c_X8_throwsIf h101 _) ⟨rfl, rfl, by decide, by decide⟩ hw h102 rfl hl.1 (Nat.le_of_ble_eq_true rfl) ⟨Nat.zero_le _, Nat.zero_le _⟩ rfl dX8_put_118) (fun H locs hw => ?_)
  refine lv_if_eq (tgt := 126) hx hb dX8_put_121 (by decide) (fun c105 => ?_) (fun c105 => ?_)
  · have hf := o_pos c105 hf
    refine lv_aload_n hx hb dX8_put_126 rfl (lv_at hl 0 rfl) ?_
    obtain ⟨v106, h107, hf⟩ := o_bind hf
    refine pw_get hC fl_X8_268 hw (rdI_F h107) dX8_put_127 ?_
    refine lv_istore (lv' := [(7, .int v106), (0, .ref a0), (1, .int a1), (2, .int a2), (3, .int a3), (4, .int a4)]) hx hb dX8_put_130 hl (by decide) rfl (fun ls hl => ?_)
    exact w_X8_put_L132 hC hr hlocks FU _ _ _ _ _ _ _ _ _ ls (lv_sub hl [1, 2, 3, 4, 5, 0] rfl) hw hf
  · have hf := o_neg c105 hf
    refine lv_iconst (v := 0) hx hb dX8_put_124 nc_iconst_0 ?_
    obtain ⟨rfl, rfl⟩ := o_ret hf
    exact pw_iret hC hr hlocks hw dX8_put_125
def f_X8_put_L86 (cy : Nat → ClassId) (a0 : Nat) (a1 : Int32) (a2 : Int32) (a3 : Int32) (a4 : Int32) (a5 : Int32) (t0 : Nat) (t1 : Int32) (t2 : Int32) (μ : Mem) : Option (Int32 × Mem) :=
  (rdR μ a0 7 21).bind fun q101 => (rdR μ q101 6 12).bind fun q103 => (rdA cy μ 1 q103 a5).bind fun v105 => if isO μ t0 7 = true then (ob2 (f_X8_isPiece cy t0 t1 t2 v105 μ) fun r110 μ109 => (wrF μ109 a0 7 2 (.int 0)).bind fun μ111 => if r110 = 0 then (f_X8_put_L117 cy a0 a1 a2 a3 a4 a0 1 μ111) else f_X8_put_L117 cy a0 a1 a2 a3 a4 a0 0 μ111) else none
set_option maxRecDepth 100000 in
set_option maxHeartbeats 4000000 in
theorem w_X8_put_L86 {p : Program} {l : Launch} {e : Env} {s : State} {m : MethodId} {args : Array Value} {below : List Frame} {meth : Method} {c : Code} {A : Nat → Prop} {g : Wg} {L : List Nat} {r : Int32} {μ' : Mem} (hC : CX p m c cX8_put 8 s args RX8) (hr : meth.sig.returnType = (some .int)) (hlocks : meth.locks = false) : ∀ (a0 : Nat) (a1 : Int32) (a2 : Int32) (a3 : Int32) (a4 : Int32) (a5 : Int32) (t0 : Nat) (t1 : Int32) (t2 : Int32) (μ : Mem) (H : Heap) (locs : List Loc) (ls : Array Slot), lv_has ls 8 [(0, .ref a0), (1, .int a1), (2, .int a2), (3, .int a3), (4, .int a4), (5, .int a5)] → PW g L μ A s H locs → f_X8_put_L86 g.2 a0 a1 a2 a3 a4 a5 t0 t1 t2 μ = some (r, μ') → W p l e rm_X8_put s m args below meth c H locs 0 0 (MQ below (QI g L A r μ') args s 0 0 A) (F0 m 86 ls [.int t2, .int t1, .ref t0]) := by
  have hx := hC.1
  have hb := hC.2.1
  intro a0 a1 a2 a3 a4 a5 t0 t1 t2 μ H locs ls hl hw hf
  unfold f_X8_put_L86 at hf
  refine lv_aload_n hx hb dX8_put_86 rfl (lv_at hl 0 rfl) ?_
  obtain ⟨q101, h102, hf⟩ := o_bind hf
  refine pw_get hC fl_X8_67 hw (rdR_F h102) dX8_put_87 ?_
  obtain ⟨q103, h104, hf⟩ := o_bind hf
  refine pw_get hC fl_X8_225 hw (rdR_F h104) dX8_put_90 ?_
  refine lv_iload hx hb dX8_put_93 (lv_at hl 5 rfl) ?_
  obtain ⟨v105, h106, hf⟩ := o_bind hf
  refine pw_iald hC hw h106 dX8_put_95 ?_
  obtain ⟨h108, hf⟩ := o_ite hf
  obtain ⟨r110, μ109, h107, hf⟩ := o_bind2 hf
  refine pw_goI hw (pw_runV (As := [.int t1, .int t2, .int v105]) (rest := []) hC mm_X8_isPiece tw_1462 (c_X8_isPiece h107 _) ⟨rfl, rfl, by decide, by decide⟩ hw h108 rfl hl.1 (Nat.le_of_ble_eq_true rfl) ⟨Nat.zero_le _, Nat.zero_le _⟩ rfl dX8_put_96) (fun H locs hw => ?_)
  refine lv_istore (lv' := [(6, .int r110), (0, .ref a0), (1, .int a1), (2, .int a2), (3, .int a3), (4, .int a4), (5, .int a5)]) hx hb dX8_put_99 hl (by decide) rfl (fun ls hl => ?_)
  refine lv_aload_n hx hb dX8_put_101 rfl (lv_at hl 1 rfl) ?_
  refine lv_iconst (v := 0) hx hb dX8_put_102 nc_iconst_0 ?_
  obtain ⟨μ111, h112, hf⟩ := o_bind hf
  refine pw_put hC fl_X8_103 hw h112 .int fd_X8_2 rfl rfl dX8_put_103 (fun H locs hw => ?_)
  refine lv_aload_n hx hb dX8_put_106 rfl (lv_at hl 1 rfl) ?_
  refine lv_iload hx hb dX8_put_107 (lv_at hl 0 rfl) ?_
  refine lv_if_ne (tgt := 116) hx hb dX8_put_109 (by decide) (fun c113 => ?_) (fun c113 => ?_)
  · have hf := o_neg c113 hf
    refine lv_iconst (v := 0) hx hb dX8_put_116 nc_iconst_0 ?_
    exact w_X8_put_L117 hC hr hlocks _ _ _ _ _ _ _ _ _ _ ls (lv_sub hl [1, 2, 3, 4, 5] rfl) hw hf
  · have hf := o_pos c113 hf
    refine lv_iconst (v := 1) hx hb dX8_put_112 nc_iconst_1 ?_
    refine lv_goto (tgt := 117) hx hb dX8_put_113 (by decide) ?_
    exact w_X8_put_L117 hC hr hlocks _ _ _ _ _ _ _ _ _ _ ls (lv_sub hl [1, 2, 3, 4, 5] rfl) hw hf
def f_X8_put_L46 (cy : Nat → ClassId) (a0 : Nat) (a1 : Int32) (a2 : Int32) (a3 : Int32) (a4 : Int32) (a5 : Int32) (t0 : Nat) (t1 : Int32) (μ : Mem) : Option (Int32 × Mem) :=
  if isO μ t0 7 = true then (ob2 (f_X8_throwsIf cy t0 t1 2 μ) fun r104 μ103 => if r104 = 0 then (if isO μ103 a0 7 = true then ((f_X8_judges cy a0 μ103).bind fun μ108 => (wrF μ108 a0 7 2 (.int a4)).bind fun μ109 => (rdR μ109 a0 7 21).bind fun q111 => (rdR μ109 q111 6 2).bind fun q113 => (rdA cy μ109 1 q113 a5).bind fun v115 => if v115 = 4 then (f_X8_put_L86 cy a0 a1 a2 a3 a4 a5 a0 a3 1 μ109) else f_X8_put_L86 cy a0 a1 a2 a3 a4 a5 a0 a3 0 μ109) else none) else some (0, μ103)) else none
set_option maxRecDepth 100000 in
set_option maxHeartbeats 4000000 in
theorem w_X8_put_L46 {p : Program} {l : Launch} {e : Env} {s : State} {m : MethodId} {args : Array Value} {below : List Frame} {meth : Method} {c : Code} {A : Nat → Prop} {g : Wg} {L : List Nat} {r : Int32} {μ' : Mem} (hC : CX p m c cX8_put 8 s args RX8) (hr : meth.sig.returnType = (some .int)) (hlocks : meth.locks = false) : ∀ (a0 : Nat) (a1 : Int32) (a2 : Int32) (a3 : Int32) (a4 : Int32) (a5 : Int32) (t0 : Nat) (t1 : Int32) (μ : Mem) (H : Heap) (locs : List Loc) (ls : Array Slot), lv_has ls 8 [(0, .ref a0), (1, .int a1), (2, .int a2), (3, .int a3), (4, .int a4), (5, .int a5)] → PW g L μ A s H locs → f_X8_put_L46 g.2 a0 a1 a2 a3 a4 a5 t0 t1 μ = some (r, μ') → W p l e rm_X8_put s m args below meth c H locs 0 0 (MQ below (QI g L A r μ') args s 0 0 A) (F0 m 46 ls [.int t1, .ref t0]) := by
  have hx := hC.1
  have hb := hC.2.1
  intro a0 a1 a2 a3 a4 a5 t0 t1 μ H locs ls hl hw hf
  unfold f_X8_put_L46 at hf
  refine lv_iconst (v := 2) hx hb dX8_put_46 nc_iconst_2 ?_
  obtain ⟨h102, hf⟩ := o_ite hf
  obtain ⟨r104, μ103, h101, hf⟩ := o_bind2 hf
  refine pw_goI hw (pw_runV (As := [.int t1, .int 2]) (rest := []) hC mm_X8_throwsIf tw_1317 (c_X8_throwsIf h101 _) ⟨rfl, rfl, by decide, by decide⟩ hw h102 rfl hl.1 (Nat.le_of_ble_eq_true rfl) ⟨Nat.zero_le _, Nat.zero_le _⟩ rfl dX8_put_47) (fun H locs hw => ?_)
  refine lv_if_eq (tgt := 55) hx hb dX8_put_50 (by decide) (fun c105 => ?_) (fun c105 => ?_)
  · have hf := o_pos c105 hf
    refine lv_aload_n hx hb dX8_put_55 rfl (lv_at hl 0 rfl) ?_
    obtain ⟨h107, hf⟩ := o_ite hf
    obtain ⟨μ108, h106, hf⟩ := o_bind hf
    refine pw_goV hw (pw_runV (As := []) (rest := []) hC mm_X8_judges tw_1229 (c_X8_judges h106 _) ⟨rfl, rfl, by decide, by decide⟩ hw h107 rfl hl.1 (Nat.le_of_ble_eq_true rfl) ⟨Nat.zero_le _, Nat.zero_le _⟩ rfl dX8_put_56) (fun H locs hw => ?_)
    refine lv_aload_n hx hb dX8_put_59 rfl (lv_at hl 0 rfl) ?_
    refine lv_iload hx hb dX8_put_60 (lv_at hl 4 rfl) ?_
    obtain ⟨μ109, h110, hf⟩ := o_bind hf
    refine pw_put hC fl_X8_103 hw h110 .int fd_X8_2 rfl rfl dX8_put_62 (fun H locs hw => ?_)
    refine lv_aload_n hx hb dX8_put_65 rfl (lv_at hl 0 rfl) ?_
    refine lv_iload_n hx hb dX8_put_66 rfl (lv_at hl 3 rfl) ?_
    refine lv_aload_n hx hb dX8_put_67 rfl (lv_at hl 0 rfl) ?_
    obtain ⟨q111, h112, hf⟩ := o_bind hf
    refine pw_get hC fl_X8_67 hw (rdR_F h112) dX8_put_68 ?_
    obtain ⟨q113, h114, hf⟩ := o_bind hf
    refine pw_get hC fl_X8_228 hw (rdR_F h114) dX8_put_71 ?_
    refine lv_iload hx hb dX8_put_74 (lv_at hl 5 rfl) ?_
    obtain ⟨v115, h116, hf⟩ := o_bind hf
    refine pw_iald hC hw h116 dX8_put_76 ?_
    refine lv_iconst (v := 4) hx hb dX8_put_77 nc_iconst_4 ?_
    refine lv_icmp_ne (tgt := 85) hx hb dX8_put_78 (by decide) (fun c117 => ?_) (fun c117 => ?_)
    · have hf := o_neg c117 hf
      refine lv_iconst (v := 0) hx hb dX8_put_85 nc_iconst_0 ?_
      exact w_X8_put_L86 hC hr hlocks _ _ _ _ _ _ _ _ _ _ _ _ ls (lv_sub hl [0, 1, 2, 3, 4, 5] rfl) hw hf
    · have hf := o_pos c117 hf
      refine lv_iconst (v := 1) hx hb dX8_put_81 nc_iconst_1 ?_
      refine lv_goto (tgt := 86) hx hb dX8_put_82 (by decide) ?_
      exact w_X8_put_L86 hC hr hlocks _ _ _ _ _ _ _ _ _ _ _ _ ls (lv_sub hl [0, 1, 2, 3, 4, 5] rfl) hw hf
  · have hf := o_neg c105 hf
    refine lv_iconst (v := 0) hx hb dX8_put_53 nc_iconst_0 ?_
    obtain ⟨rfl, rfl⟩ := o_ret hf
    exact pw_iret hC hr hlocks hw dX8_put_54
def f_X8_put_L41 (cy : Nat → ClassId) (a0 : Nat) (a1 : Int32) (a2 : Int32) (a3 : Int32) (a4 : Int32) (a5 : Int32) (t0 : Nat) (μ : Mem) : Option (Int32 × Mem) :=
  f_X8_put_L46 cy a0 a1 a2 a3 a4 a5 t0 1 μ
set_option maxRecDepth 100000 in
set_option maxHeartbeats 4000000 in
theorem w_X8_put_L41 {p : Program} {l : Launch} {e : Env} {s : State} {m : MethodId} {args : Array Value} {below : List Frame} {meth : Method} {c : Code} {A : Nat → Prop} {g : Wg} {L : List Nat} {r : Int32} {μ' : Mem} (hC : CX p m c cX8_put 8 s args RX8) (hr : meth.sig.returnType = (some .int)) (hlocks : meth.locks = false) : ∀ (a0 : Nat) (a1 : Int32) (a2 : Int32) (a3 : Int32) (a4 : Int32) (a5 : Int32) (t0 : Nat) (μ : Mem) (H : Heap) (locs : List Loc) (ls : Array Slot), lv_has ls 8 [(0, .ref a0), (1, .int a1), (2, .int a2), (3, .int a3), (4, .int a4), (5, .int a5)] → PW g L μ A s H locs → f_X8_put_L41 g.2 a0 a1 a2 a3 a4 a5 t0 μ = some (r, μ') → W p l e rm_X8_put s m args below meth c H locs 0 0 (MQ below (QI g L A r μ') args s 0 0 A) (F0 m 41 ls [.ref t0]) := by
  have hx := hC.1
  have hb := hC.2.1
  intro a0 a1 a2 a3 a4 a5 t0 μ H locs ls hl hw hf
  unfold f_X8_put_L41 at hf
  refine lv_iconst (v := 1) hx hb dX8_put_41 nc_iconst_1 ?_
  refine lv_goto (tgt := 46) hx hb dX8_put_42 (by decide) ?_
  exact w_X8_put_L46 hC hr hlocks _ _ _ _ _ _ _ _ _ _ _ ls (lv_sub hl [0, 1, 2, 3, 4, 5] rfl) hw hf
def f_X8_put (cy : Nat → ClassId) (a0 : Nat) (a1 : Int32) (a2 : Int32) (a3 : Int32) (μ : Mem) : Option (Int32 × Mem) :=
  (rdI μ a0 7 2).bind fun v1 => (wrF μ a0 7 2 (.int 0)).bind fun μ3 => if isO μ3 a0 7 = true then (ob2 (f_X8_noShelf cy a0 a1 μ3) fun r8 μ7 => if r8 = 0 then (if isO μ7 a0 7 = true then (ob2 (f_X8_changes cy a0 a1 μ7) fun r13 μ12 => if a2 < 0 then (f_X8_put_L41 cy a0 a1 a2 a3 v1 r13 a0 μ12) else (rdI μ12 a0 7 31).bind fun v15 => if a2 ≤ v15 then (f_X8_put_L46 cy a0 a1 a2 a3 v1 r13 a0 0 μ12) else f_X8_put_L41 cy a0 a1 a2 a3 v1 r13 a0 μ12) else none) else some (0, μ7)) else none
set_option maxRecDepth 100000 in
set_option maxHeartbeats 4000000 in
theorem c_X8_put {l : Launch} {g : Wg} {L : List Nat} {μ : Mem} {a0 : Nat} {a1 : Int32} {a2 : Int32} {a3 : Int32} {r : Int32} {μ' : Mem} (hf : f_X8_put g.2 a0 a1 a2 a3 μ = some (r, μ')) : MetI l yX8_put cX8_put 8 (some .int) rm_X8_put g L μ [.ref a0, .int a1, .int a2, .int a3] r μ' := by
  refine pw_met (Qc := fun A => QI g L A r μ') (by decide) (Nat.le_of_ble_eq_true rfl) ?_
  intro p e s m args below meth c A ls H locs hC hr hlocks hl hw
  have hx := hC.1
  have hb := hC.2.1
  have hl : lv_has ls 8 [(0, .ref a0), (1, .int a1), (2, .int a2), (3, .int a3)] := hl
  unfold f_X8_put at hf
  refine lv_aload_n hx hb dX8_put_0 rfl (lv_at hl 0 rfl) ?_
  obtain ⟨v1, h2, hf⟩ := o_bind hf
  refine pw_get hC fl_X8_103 hw (rdI_F h2) dX8_put_1 ?_
  refine lv_istore (lv' := [(4, .int v1), (0, .ref a0), (1, .int a1), (2, .int a2), (3, .int a3)]) hx hb dX8_put_4 hl (by decide) rfl (fun ls hl => ?_)
  refine lv_aload_n hx hb dX8_put_6 rfl (lv_at hl 1 rfl) ?_
  refine lv_iconst (v := 0) hx hb dX8_put_7 nc_iconst_0 ?_
  obtain ⟨μ3, h4, hf⟩ := o_bind hf
  refine pw_put hC fl_X8_103 hw h4 .int fd_X8_2 rfl rfl dX8_put_8 (fun H locs hw => ?_)
  refine lv_aload_n hx hb dX8_put_11 rfl (lv_at hl 1 rfl) ?_
  refine lv_iload_n hx hb dX8_put_12 rfl (lv_at hl 2 rfl) ?_
  obtain ⟨h6, hf⟩ := o_ite hf
  obtain ⟨r8, μ7, h5, hf⟩ := o_bind2 hf
  refine pw_goI hw (pw_runV (As := [.int a1]) (rest := []) hC mm_X8_noShelf tw_1313 (c_X8_noShelf h5 _) ⟨rfl, rfl, by decide, by decide⟩ hw h6 rfl hl.1 (Nat.le_of_ble_eq_true rfl) ⟨Nat.zero_le _, Nat.zero_le _⟩ rfl dX8_put_13) (fun H locs hw => ?_)
  refine lv_if_eq (tgt := 21) hx hb dX8_put_16 (by decide) (fun c9 => ?_) (fun c9 => ?_)
  · have hf := o_pos c9 hf
    refine lv_aload_n hx hb dX8_put_21 rfl (lv_at hl 1 rfl) ?_
    refine lv_iload_n hx hb dX8_put_22 rfl (lv_at hl 2 rfl) ?_
    obtain ⟨h11, hf⟩ := o_ite hf
    obtain ⟨r13, μ12, h10, hf⟩ := o_bind2 hf
    refine pw_goI hw (pw_runV (As := [.int a1]) (rest := []) hC mm_X8_changes tw_1414 (c_X8_changes h10 _) ⟨rfl, rfl, by decide, by decide⟩ hw h11 rfl hl.1 (Nat.le_of_ble_eq_true rfl) ⟨Nat.zero_le _, Nat.zero_le _⟩ rfl dX8_put_23) (fun H locs hw => ?_)
    refine lv_istore (lv' := [(5, .int r13), (4, .int v1), (0, .ref a0), (1, .int a1), (2, .int a2), (3, .int a3)]) hx hb dX8_put_26 hl (by decide) rfl (fun ls hl => ?_)
    refine lv_aload_n hx hb dX8_put_28 rfl (lv_at hl 2 rfl) ?_
    refine lv_iload_n hx hb dX8_put_29 rfl (lv_at hl 4 rfl) ?_
    refine lv_if_lt (tgt := 41) hx hb dX8_put_30 (by decide) (fun c14 => ?_) (fun c14 => ?_)
    · have hf := o_pos c14 hf
      exact w_X8_put_L41 hC hr hlocks _ _ _ _ _ _ _ _ _ _ ls (lv_sub hl [2, 3, 4, 5, 1, 0] rfl) hw hf
    · have hf := o_neg c14 hf
      refine lv_iload_n hx hb dX8_put_33 rfl (lv_at hl 4 rfl) ?_
      refine lv_aload_n hx hb dX8_put_34 rfl (lv_at hl 2 rfl) ?_
      obtain ⟨v15, h16, hf⟩ := o_bind hf
      refine pw_get hC fl_X8_268 hw (rdI_F h16) dX8_put_35 ?_
      refine lv_icmp_le (tgt := 45) hx hb dX8_put_38 (by decide) (fun c17 => ?_) (fun c17 => ?_)
      · have hf := o_pos c17 hf
        refine lv_iconst (v := 0) hx hb dX8_put_45 nc_iconst_0 ?_
        exact w_X8_put_L46 hC hr hlocks _ _ _ _ _ _ _ _ _ _ _ ls (lv_sub hl [2, 3, 4, 5, 1, 0] rfl) hw hf
      · have hf := o_neg c17 hf
        exact w_X8_put_L41 hC hr hlocks _ _ _ _ _ _ _ _ _ _ ls (lv_sub hl [2, 3, 4, 5, 1, 0] rfl) hw hf
  · have hf := o_neg c9 hf
    refine lv_iconst (v := 0) hx hb dX8_put_19 nc_iconst_0 ?_
    obtain ⟨rfl, rfl⟩ := o_ret hf
    exact pw_iret hC hr hlocks hw dX8_put_20
theorem dX8_name__0 : decode cX8_name_ 0 = .ok (.aload_n 0, 1) := by decide +kernel
theorem dX8_name__1 : decode cX8_name_ 1 = .ok (.getfield 103, 3) := by decide +kernel
theorem dX8_name__4 : decode cX8_name_ 4 = .ok (.istore_n 2, 1) := by decide +kernel
theorem dX8_name__5 : decode cX8_name_ 5 = .ok (.aload_n 0, 1) := by decide +kernel
theorem dX8_name__6 : decode cX8_name_ 6 = .ok (.iconst 0, 1) := by decide +kernel
theorem dX8_name__7 : decode cX8_name_ 7 = .ok (.putfield 103, 3) := by decide +kernel
theorem dX8_name__10 : decode cX8_name_ 10 = .ok (.aload_n 0, 1) := by decide +kernel
theorem dX8_name__11 : decode cX8_name_ 11 = .ok (.iload_n 1, 1) := by decide +kernel
theorem dX8_name__12 : decode cX8_name_ 12 = .ok (.invokevirtual 183, 3) := by decide +kernel
theorem dX8_name__15 : decode cX8_name_ 15 = .ok (.ifCond .eq 5, 3) := by decide +kernel
theorem dX8_name__18 : decode cX8_name_ 18 = .ok (.iconst 0, 1) := by decide +kernel
theorem dX8_name__19 : decode cX8_name_ 19 = .ok (.ireturn, 1) := by decide +kernel
theorem dX8_name__20 : decode cX8_name_ 20 = .ok (.aload_n 0, 1) := by decide +kernel
theorem dX8_name__21 : decode cX8_name_ 21 = .ok (.aload_n 0, 1) := by decide +kernel
theorem dX8_name__22 : decode cX8_name_ 22 = .ok (.getfield 37, 3) := by decide +kernel
theorem dX8_name__25 : decode cX8_name_ 25 = .ok (.iload_n 1, 1) := by decide +kernel
theorem dX8_name__26 : decode cX8_name_ 26 = .ok (.iaload, 1) := by decide +kernel
theorem dX8_name__27 : decode cX8_name_ 27 = .ok (.ifCond .ge 7, 3) := by decide +kernel
theorem dX8_name__30 : decode cX8_name_ 30 = .ok (.iconst 1, 1) := by decide +kernel
theorem dX8_name__31 : decode cX8_name_ 31 = .ok (.goto 4, 3) := by decide +kernel
theorem dX8_name__34 : decode cX8_name_ 34 = .ok (.iconst 0, 1) := by decide +kernel
theorem dX8_name__35 : decode cX8_name_ 35 = .ok (.iconst 2, 1) := by decide +kernel
theorem dX8_name__36 : decode cX8_name_ 36 = .ok (.invokevirtual 186, 3) := by decide +kernel
theorem dX8_name__39 : decode cX8_name_ 39 = .ok (.ifCond .eq 5, 3) := by decide +kernel
theorem dX8_name__42 : decode cX8_name_ 42 = .ok (.iconst 0, 1) := by decide +kernel
theorem dX8_name__43 : decode cX8_name_ 43 = .ok (.ireturn, 1) := by decide +kernel
theorem dX8_name__44 : decode cX8_name_ 44 = .ok (.aload_n 0, 1) := by decide +kernel
theorem dX8_name__45 : decode cX8_name_ 45 = .ok (.iload_n 1, 1) := by decide +kernel
theorem dX8_name__46 : decode cX8_name_ 46 = .ok (.invokevirtual 322, 3) := by decide +kernel
theorem dX8_name__49 : decode cX8_name_ 49 = .ok (.istore_n 3, 1) := by decide +kernel
theorem dX8_name__50 : decode cX8_name_ 50 = .ok (.aload_n 0, 1) := by decide +kernel
theorem dX8_name__51 : decode cX8_name_ 51 = .ok (.aload_n 0, 1) := by decide +kernel
theorem dX8_name__52 : decode cX8_name_ 52 = .ok (.getfield 67, 3) := by decide +kernel
theorem dX8_name__55 : decode cX8_name_ 55 = .ok (.getfield 228, 3) := by decide +kernel
theorem dX8_name__58 : decode cX8_name_ 58 = .ok (.iload_n 3, 1) := by decide +kernel
theorem dX8_name__59 : decode cX8_name_ 59 = .ok (.iaload, 1) := by decide +kernel
theorem dX8_name__60 : decode cX8_name_ 60 = .ok (.iconst 4, 1) := by decide +kernel
theorem dX8_name__61 : decode cX8_name_ 61 = .ok (.if_icmp .ne 7, 3) := by decide +kernel
theorem dX8_name__64 : decode cX8_name_ 64 = .ok (.iconst 1, 1) := by decide +kernel
theorem dX8_name__65 : decode cX8_name_ 65 = .ok (.goto 4, 3) := by decide +kernel
theorem dX8_name__68 : decode cX8_name_ 68 = .ok (.iconst 0, 1) := by decide +kernel
theorem dX8_name__69 : decode cX8_name_ 69 = .ok (.iconst 3, 1) := by decide +kernel
theorem dX8_name__70 : decode cX8_name_ 70 = .ok (.invokevirtual 186, 3) := by decide +kernel
theorem dX8_name__73 : decode cX8_name_ 73 = .ok (.ifCond .eq 5, 3) := by decide +kernel
theorem dX8_name__76 : decode cX8_name_ 76 = .ok (.iconst 0, 1) := by decide +kernel
theorem dX8_name__77 : decode cX8_name_ 77 = .ok (.ireturn, 1) := by decide +kernel
theorem dX8_name__78 : decode cX8_name_ 78 = .ok (.aload_n 0, 1) := by decide +kernel
theorem dX8_name__79 : decode cX8_name_ 79 = .ok (.invokevirtual 170, 3) := by decide +kernel
theorem dX8_name__82 : decode cX8_name_ 82 = .ok (.aload_n 0, 1) := by decide +kernel
theorem dX8_name__83 : decode cX8_name_ 83 = .ok (.iload_n 2, 1) := by decide +kernel
theorem dX8_name__84 : decode cX8_name_ 84 = .ok (.putfield 103, 3) := by decide +kernel
theorem dX8_name__87 : decode cX8_name_ 87 = .ok (.aload_n 0, 1) := by decide +kernel
theorem dX8_name__88 : decode cX8_name_ 88 = .ok (.aload_n 0, 1) := by decide +kernel
theorem dX8_name__89 : decode cX8_name_ 89 = .ok (.iconst 0, 1) := by decide +kernel
theorem dX8_name__90 : decode cX8_name_ 90 = .ok (.iload_n 2, 1) := by decide +kernel
theorem dX8_name__91 : decode cX8_name_ 91 = .ok (.iconst (-1), 1) := by decide +kernel
theorem dX8_name__92 : decode cX8_name_ 92 = .ok (.invokevirtual 149, 3) := by decide +kernel
theorem dX8_name__95 : decode cX8_name_ 95 = .ok (.invokevirtual 173, 3) := by decide +kernel
theorem dX8_name__98 : decode cX8_name_ 98 = .ok (.istore 4, 2) := by decide +kernel
theorem dX8_name__100 : decode cX8_name_ 100 = .ok (.aload_n 0, 1) := by decide +kernel
theorem dX8_name__101 : decode cX8_name_ 101 = .ok (.iconst 0, 1) := by decide +kernel
theorem dX8_name__102 : decode cX8_name_ 102 = .ok (.putfield 103, 3) := by decide +kernel
theorem dX8_name__105 : decode cX8_name_ 105 = .ok (.aload_n 0, 1) := by decide +kernel
theorem dX8_name__106 : decode cX8_name_ 106 = .ok (.iload 4, 2) := by decide +kernel
theorem dX8_name__108 : decode cX8_name_ 108 = .ok (.ifCond .ne 7, 3) := by decide +kernel
theorem dX8_name__111 : decode cX8_name_ 111 = .ok (.iconst 1, 1) := by decide +kernel
theorem dX8_name__112 : decode cX8_name_ 112 = .ok (.goto 4, 3) := by decide +kernel
theorem dX8_name__115 : decode cX8_name_ 115 = .ok (.iconst 0, 1) := by decide +kernel
theorem dX8_name__116 : decode cX8_name_ 116 = .ok (.iconst 4, 1) := by decide +kernel
theorem dX8_name__117 : decode cX8_name_ 117 = .ok (.invokevirtual 186, 3) := by decide +kernel
theorem dX8_name__120 : decode cX8_name_ 120 = .ok (.ifCond .eq 5, 3) := by decide +kernel
theorem dX8_name__123 : decode cX8_name_ 123 = .ok (.iconst 0, 1) := by decide +kernel
theorem dX8_name__124 : decode cX8_name_ 124 = .ok (.ireturn, 1) := by decide +kernel
theorem dX8_name__125 : decode cX8_name_ 125 = .ok (.aload_n 0, 1) := by decide +kernel
theorem dX8_name__126 : decode cX8_name_ 126 = .ok (.aload_n 0, 1) := by decide +kernel
theorem dX8_name__127 : decode cX8_name_ 127 = .ok (.getfield 80, 3) := by decide +kernel
theorem dX8_name__130 : decode cX8_name_ 130 = .ok (.aload_n 0, 1) := by decide +kernel
theorem dX8_name__131 : decode cX8_name_ 131 = .ok (.getfield 37, 3) := by decide +kernel
theorem dX8_name__134 : decode cX8_name_ 134 = .ok (.iload_n 1, 1) := by decide +kernel
theorem dX8_name__135 : decode cX8_name_ 135 = .ok (.iaload, 1) := by decide +kernel
theorem dX8_name__136 : decode cX8_name_ 136 = .ok (.iaload, 1) := by decide +kernel
theorem dX8_name__137 : decode cX8_name_ 137 = .ok (.putfield 265, 3) := by decide +kernel
theorem dX8_name__140 : decode cX8_name_ 140 = .ok (.aload_n 0, 1) := by decide +kernel
theorem dX8_name__141 : decode cX8_name_ 141 = .ok (.aload_n 0, 1) := by decide +kernel
theorem dX8_name__142 : decode cX8_name_ 142 = .ok (.getfield 13, 3) := by decide +kernel
theorem dX8_name__145 : decode cX8_name_ 145 = .ok (.iconst 0, 1) := by decide +kernel
theorem dX8_name__146 : decode cX8_name_ 146 = .ok (.iload_n 2, 1) := by decide +kernel
theorem dX8_name__147 : decode cX8_name_ 147 = .ok (.iconst 1, 1) := by decide +kernel
theorem dX8_name__148 : decode cX8_name_ 148 = .ok (.isub, 1) := by decide +kernel
theorem dX8_name__149 : decode cX8_name_ 149 = .ok (.invokevirtual 342, 3) := by decide +kernel
theorem dX8_name__152 : decode cX8_name_ 152 = .ok (.aload_n 0, 1) := by decide +kernel
theorem dX8_name__153 : decode cX8_name_ 153 = .ok (.aload_n 0, 1) := by decide +kernel
theorem dX8_name__154 : decode cX8_name_ 154 = .ok (.iload_n 1, 1) := by decide +kernel
theorem dX8_name__155 : decode cX8_name_ 155 = .ok (.invokevirtual 332, 3) := by decide +kernel
theorem dX8_name__158 : decode cX8_name_ 158 = .ok (.ifCond .ne 7, 3) := by decide +kernel
theorem dX8_name__161 : decode cX8_name_ 161 = .ok (.iconst 1, 1) := by decide +kernel
theorem dX8_name__162 : decode cX8_name_ 162 = .ok (.goto 4, 3) := by decide +kernel
theorem dX8_name__165 : decode cX8_name_ 165 = .ok (.iconst 0, 1) := by decide +kernel
theorem dX8_name__166 : decode cX8_name_ 166 = .ok (.iconst 5, 1) := by decide +kernel
theorem dX8_name__167 : decode cX8_name_ 167 = .ok (.invokevirtual 186, 3) := by decide +kernel
theorem dX8_name__170 : decode cX8_name_ 170 = .ok (.ifCond .eq 5, 3) := by decide +kernel
theorem dX8_name__173 : decode cX8_name_ 173 = .ok (.iconst 0, 1) := by decide +kernel
theorem dX8_name__174 : decode cX8_name_ 174 = .ok (.ireturn, 1) := by decide +kernel
theorem dX8_name__175 : decode cX8_name_ 175 = .ok (.aload_n 0, 1) := by decide +kernel
theorem dX8_name__176 : decode cX8_name_ 176 = .ok (.getfield 25, 3) := by decide +kernel
theorem dX8_name__179 : decode cX8_name_ 179 = .ok (.iload_n 1, 1) := by decide +kernel
theorem dX8_name__180 : decode cX8_name_ 180 = .ok (.iaload, 1) := by decide +kernel
theorem dX8_name__181 : decode cX8_name_ 181 = .ok (.ireturn, 1) := by decide +kernel
abbrev rm_X8_name_ : Room := { frames := 125, cells := 0, slots := 0, locals := 3113 }
def f_X8_name__L166 (cy : Nat → ClassId) (a0 : Nat) (a1 : Int32) (t0 : Nat) (t1 : Int32) (μ : Mem) : Option (Int32 × Mem) :=
  if isO μ t0 7 = true then (ob2 (f_X8_throwsIf cy t0 t1 5 μ) fun r104 μ103 => if r104 = 0 then ((rdR μ103 a0 7 6).bind fun q106 => (rdA cy μ103 1 q106 a1).bind fun v108 => some (v108, μ103)) else some (0, μ103)) else none
set_option maxRecDepth 100000 in
set_option maxHeartbeats 4000000 in
theorem w_X8_name__L166 {p : Program} {l : Launch} {e : Env} {s : State} {m : MethodId} {args : Array Value} {below : List Frame} {meth : Method} {c : Code} {A : Nat → Prop} {g : Wg} {L : List Nat} {r : Int32} {μ' : Mem} (hC : CX p m c cX8_name_ 5 s args RX8) (hr : meth.sig.returnType = (some .int)) (hlocks : meth.locks = false) : ∀ (a0 : Nat) (a1 : Int32) (t0 : Nat) (t1 : Int32) (μ : Mem) (H : Heap) (locs : List Loc) (ls : Array Slot), lv_has ls 5 [(0, .ref a0), (1, .int a1)] → PW g L μ A s H locs → f_X8_name__L166 g.2 a0 a1 t0 t1 μ = some (r, μ') → W p l e rm_X8_name_ s m args below meth c H locs 0 0 (MQ below (QI g L A r μ') args s 0 0 A) (F0 m 166 ls [.int t1, .ref t0]) := by
  have hx := hC.1
  have hb := hC.2.1
  intro a0 a1 t0 t1 μ H locs ls hl hw hf
  unfold f_X8_name__L166 at hf
  refine lv_iconst (v := 5) hx hb dX8_name__166 nc_iconst_5 ?_
  obtain ⟨h102, hf⟩ := o_ite hf
  obtain ⟨r104, μ103, h101, hf⟩ := o_bind2 hf
  refine pw_goI hw (pw_runV (As := [.int t1, .int 5]) (rest := []) hC mm_X8_throwsIf tw_1317 (c_X8_throwsIf h101 _) ⟨rfl, rfl, by decide, by decide⟩ hw h102 rfl hl.1 (Nat.le_of_ble_eq_true rfl) ⟨Nat.zero_le _, Nat.zero_le _⟩ rfl dX8_name__167) (fun H locs hw => ?_)
  refine lv_if_eq (tgt := 175) hx hb dX8_name__170 (by decide) (fun c105 => ?_) (fun c105 => ?_)
  · have hf := o_pos c105 hf
    refine lv_aload_n hx hb dX8_name__175 rfl (lv_at hl 0 rfl) ?_
    obtain ⟨q106, h107, hf⟩ := o_bind hf
    refine pw_get hC fl_X8_25 hw (rdR_F h107) dX8_name__176 ?_
    refine lv_iload_n hx hb dX8_name__179 rfl (lv_at hl 1 rfl) ?_
    obtain ⟨v108, h109, hf⟩ := o_bind hf
    refine pw_iald hC hw h109 dX8_name__180 ?_
    obtain ⟨rfl, rfl⟩ := o_ret hf
    exact pw_iret hC hr hlocks hw dX8_name__181
  · have hf := o_neg c105 hf
    refine lv_iconst (v := 0) hx hb dX8_name__173 nc_iconst_0 ?_
    obtain ⟨rfl, rfl⟩ := o_ret hf
    exact pw_iret hC hr hlocks hw dX8_name__174
def f_X8_name__L116 (cy : Nat → ClassId) (a0 : Nat) (a1 : Int32) (a2 : Int32) (t0 : Nat) (t1 : Int32) (μ : Mem) : Option (Int32 × Mem) :=
  if isO μ t0 7 = true then (ob2 (f_X8_throwsIf cy t0 t1 4 μ) fun r104 μ103 => if r104 = 0 then ((rdR μ103 a0 7 30).bind fun q106 => (rdR μ103 a0 7 9).bind fun q108 => (rdA cy μ103 1 q108 a1).bind fun v110 => (rdA cy μ103 1 q106 v110).bind fun v112 => (wrF μ103 a0 7 29 (.int v112)).bind fun μ114 => (rdR μ114 a0 7 1).bind fun q116 => if isO μ114 a0 7 = true then ((f_X8_nameIs cy a0 q116 0 (a2 - 1) μ114).bind fun μ120 => if isO μ120 a0 7 = true then (ob2 (f_X8_lays cy a0 a1 μ120) fun r124 μ123 => if r124 = 0 then (f_X8_name__L166 cy a0 a1 a0 1 μ123) else f_X8_name__L166 cy a0 a1 a0 0 μ123) else none) else none) else some (0, μ103)) else none
set_option maxRecDepth 100000 in
set_option maxHeartbeats 4000000 in
theorem w_X8_name__L116 {p : Program} {l : Launch} {e : Env} {s : State} {m : MethodId} {args : Array Value} {below : List Frame} {meth : Method} {c : Code} {A : Nat → Prop} {g : Wg} {L : List Nat} {r : Int32} {μ' : Mem} (hC : CX p m c cX8_name_ 5 s args RX8) (hr : meth.sig.returnType = (some .int)) (hlocks : meth.locks = false) : ∀ (a0 : Nat) (a1 : Int32) (a2 : Int32) (t0 : Nat) (t1 : Int32) (μ : Mem) (H : Heap) (locs : List Loc) (ls : Array Slot), lv_has ls 5 [(0, .ref a0), (1, .int a1), (2, .int a2)] → PW g L μ A s H locs → f_X8_name__L116 g.2 a0 a1 a2 t0 t1 μ = some (r, μ') → W p l e rm_X8_name_ s m args below meth c H locs 0 0 (MQ below (QI g L A r μ') args s 0 0 A) (F0 m 116 ls [.int t1, .ref t0]) := by
  have hx := hC.1
  have hb := hC.2.1
  intro a0 a1 a2 t0 t1 μ H locs ls hl hw hf
  unfold f_X8_name__L116 at hf
  refine lv_iconst (v := 4) hx hb dX8_name__116 nc_iconst_4 ?_
  obtain ⟨h102, hf⟩ := o_ite hf
  obtain ⟨r104, μ103, h101, hf⟩ := o_bind2 hf
  refine pw_goI hw (pw_runV (As := [.int t1, .int 4]) (rest := []) hC mm_X8_throwsIf tw_1317 (c_X8_throwsIf h101 _) ⟨rfl, rfl, by decide, by decide⟩ hw h102 rfl hl.1 (Nat.le_of_ble_eq_true rfl) ⟨Nat.zero_le _, Nat.zero_le _⟩ rfl dX8_name__117) (fun H locs hw => ?_)
  refine lv_if_eq (tgt := 125) hx hb dX8_name__120 (by decide) (fun c105 => ?_) (fun c105 => ?_)
  · have hf := o_pos c105 hf
    refine lv_aload_n hx hb dX8_name__125 rfl (lv_at hl 0 rfl) ?_
    refine lv_aload_n hx hb dX8_name__126 rfl (lv_at hl 0 rfl) ?_
    obtain ⟨q106, h107, hf⟩ := o_bind hf
    refine pw_get hC fl_X8_80 hw (rdR_F h107) dX8_name__127 ?_
    refine lv_aload_n hx hb dX8_name__130 rfl (lv_at hl 0 rfl) ?_
    obtain ⟨q108, h109, hf⟩ := o_bind hf
    refine pw_get hC fl_X8_37 hw (rdR_F h109) dX8_name__131 ?_
    refine lv_iload_n hx hb dX8_name__134 rfl (lv_at hl 1 rfl) ?_
    obtain ⟨v110, h111, hf⟩ := o_bind hf
    refine pw_iald hC hw h111 dX8_name__135 ?_
    obtain ⟨v112, h113, hf⟩ := o_bind hf
    refine pw_iald hC hw h113 dX8_name__136 ?_
    obtain ⟨μ114, h115, hf⟩ := o_bind hf
    refine pw_put hC fl_X8_265 hw h115 .int fd_X8_29 rfl rfl dX8_name__137 (fun H locs hw => ?_)
    refine lv_aload_n hx hb dX8_name__140 rfl (lv_at hl 0 rfl) ?_
    refine lv_aload_n hx hb dX8_name__141 rfl (lv_at hl 0 rfl) ?_
    obtain ⟨q116, h117, hf⟩ := o_bind hf
    refine pw_get hC fl_X8_13 hw (rdR_F h117) dX8_name__142 ?_
    refine lv_iconst (v := 0) hx hb dX8_name__145 nc_iconst_0 ?_
    refine lv_iload_n hx hb dX8_name__146 rfl (lv_at hl 2 rfl) ?_
    refine lv_iconst (v := 1) hx hb dX8_name__147 nc_iconst_1 ?_
    refine lv_isub hx hb dX8_name__148 ?_
    obtain ⟨h119, hf⟩ := o_ite hf
    obtain ⟨μ120, h118, hf⟩ := o_bind hf
    refine pw_goV hw (pw_runV (As := [.ref q116, .int 0, .int (a2 - 1)]) (rest := []) hC mm_X8_nameIs tw_1466 (c_X8_nameIs h118 _) ⟨rfl, rfl, by decide, by decide⟩ hw h119 rfl hl.1 (Nat.le_of_ble_eq_true rfl) ⟨Nat.zero_le _, Nat.zero_le _⟩ rfl dX8_name__149) (fun H locs hw => ?_)
    refine lv_aload_n hx hb dX8_name__152 rfl (lv_at hl 0 rfl) ?_
    refine lv_aload_n hx hb dX8_name__153 rfl (lv_at hl 0 rfl) ?_
    refine lv_iload_n hx hb dX8_name__154 rfl (lv_at hl 1 rfl) ?_
    obtain ⟨h122, hf⟩ := o_ite hf
    obtain ⟨r124, μ123, h121, hf⟩ := o_bind2 hf
    refine pw_goI hw (pw_runV (As := [.int a1]) (rest := [.ref a0]) hC mm_X8_lays tw_1426 (c_X8_lays h121 _) ⟨rfl, rfl, by decide, by decide⟩ hw h122 rfl hl.1 (Nat.le_of_ble_eq_true rfl) ⟨Nat.zero_le _, Nat.zero_le _⟩ rfl dX8_name__155) (fun H locs hw => ?_)
    refine lv_if_ne (tgt := 165) hx hb dX8_name__158 (by decide) (fun c125 => ?_) (fun c125 => ?_)
    · have hf := o_neg c125 hf
      refine lv_iconst (v := 0) hx hb dX8_name__165 nc_iconst_0 ?_
      exact w_X8_name__L166 hC hr hlocks _ _ _ _ _ _ _ ls (lv_sub hl [0, 1] rfl) hw hf
    · have hf := o_pos c125 hf
      refine lv_iconst (v := 1) hx hb dX8_name__161 nc_iconst_1 ?_
      refine lv_goto (tgt := 166) hx hb dX8_name__162 (by decide) ?_
      exact w_X8_name__L166 hC hr hlocks _ _ _ _ _ _ _ ls (lv_sub hl [0, 1] rfl) hw hf
  · have hf := o_neg c105 hf
    refine lv_iconst (v := 0) hx hb dX8_name__123 nc_iconst_0 ?_
    obtain ⟨rfl, rfl⟩ := o_ret hf
    exact pw_iret hC hr hlocks hw dX8_name__124
def f_X8_name__L69 (cy : Nat → ClassId) (a0 : Nat) (a1 : Int32) (a2 : Int32) (t0 : Nat) (t1 : Int32) (μ : Mem) : Option (Int32 × Mem) :=
  if isO μ t0 7 = true then (ob2 (f_X8_throwsIf cy t0 t1 3 μ) fun r104 μ103 => if r104 = 0 then (if isO μ103 a0 7 = true then ((f_X8_judges cy a0 μ103).bind fun μ108 => (wrF μ108 a0 7 2 (.int a2)).bind fun μ109 => if isO μ109 a0 7 = true then (ob2 (f_X8_name cy a0 0 a2 (-1) μ109) fun r114 μ113 => if isO μ113 a0 7 = true then (ob2 (f_X8_isAll cy a0 r114 μ113) fun r118 μ117 => (wrF μ117 a0 7 2 (.int 0)).bind fun μ119 => if r118 = 0 then (f_X8_name__L116 cy a0 a1 a2 a0 1 μ119) else f_X8_name__L116 cy a0 a1 a2 a0 0 μ119) else none) else none) else none) else some (0, μ103)) else none
set_option maxRecDepth 100000 in
set_option maxHeartbeats 4000000 in
theorem w_X8_name__L69 {p : Program} {l : Launch} {e : Env} {s : State} {m : MethodId} {args : Array Value} {below : List Frame} {meth : Method} {c : Code} {A : Nat → Prop} {g : Wg} {L : List Nat} {r : Int32} {μ' : Mem} (hC : CX p m c cX8_name_ 5 s args RX8) (hr : meth.sig.returnType = (some .int)) (hlocks : meth.locks = false) : ∀ (a0 : Nat) (a1 : Int32) (a2 : Int32) (t0 : Nat) (t1 : Int32) (μ : Mem) (H : Heap) (locs : List Loc) (ls : Array Slot), lv_has ls 5 [(0, .ref a0), (1, .int a1), (2, .int a2)] → PW g L μ A s H locs → f_X8_name__L69 g.2 a0 a1 a2 t0 t1 μ = some (r, μ') → W p l e rm_X8_name_ s m args below meth c H locs 0 0 (MQ below (QI g L A r μ') args s 0 0 A) (F0 m 69 ls [.int t1, .ref t0]) := by
  have hx := hC.1
  have hb := hC.2.1
  intro a0 a1 a2 t0 t1 μ H locs ls hl hw hf
  unfold f_X8_name__L69 at hf
  refine lv_iconst (v := 3) hx hb dX8_name__69 nc_iconst_3 ?_
  obtain ⟨h102, hf⟩ := o_ite hf
  obtain ⟨r104, μ103, h101, hf⟩ := o_bind2 hf
  refine pw_goI hw (pw_runV (As := [.int t1, .int 3]) (rest := []) hC mm_X8_throwsIf tw_1317 (c_X8_throwsIf h101 _) ⟨rfl, rfl, by decide, by decide⟩ hw h102 rfl hl.1 (Nat.le_of_ble_eq_true rfl) ⟨Nat.zero_le _, Nat.zero_le _⟩ rfl dX8_name__70) (fun H locs hw => ?_)
  refine lv_if_eq (tgt := 78) hx hb dX8_name__73 (by decide) (fun c105 => ?_) (fun c105 => ?_)
  · have hf := o_pos c105 hf
    refine lv_aload_n hx hb dX8_name__78 rfl (lv_at hl 0 rfl) ?_
    obtain ⟨h107, hf⟩ := o_ite hf
    obtain ⟨μ108, h106, hf⟩ := o_bind hf
    refine pw_goV hw (pw_runV (As := []) (rest := []) hC mm_X8_judges tw_1229 (c_X8_judges h106 _) ⟨rfl, rfl, by decide, by decide⟩ hw h107 rfl hl.1 (Nat.le_of_ble_eq_true rfl) ⟨Nat.zero_le _, Nat.zero_le _⟩ rfl dX8_name__79) (fun H locs hw => ?_)
    refine lv_aload_n hx hb dX8_name__82 rfl (lv_at hl 0 rfl) ?_
    refine lv_iload_n hx hb dX8_name__83 rfl (lv_at hl 2 rfl) ?_
    obtain ⟨μ109, h110, hf⟩ := o_bind hf
    refine pw_put hC fl_X8_103 hw h110 .int fd_X8_2 rfl rfl dX8_name__84 (fun H locs hw => ?_)
    refine lv_aload_n hx hb dX8_name__87 rfl (lv_at hl 0 rfl) ?_
    refine lv_aload_n hx hb dX8_name__88 rfl (lv_at hl 0 rfl) ?_
    refine lv_iconst (v := 0) hx hb dX8_name__89 nc_iconst_0 ?_
    refine lv_iload_n hx hb dX8_name__90 rfl (lv_at hl 2 rfl) ?_
    refine lv_iconst (v := (-1)) hx hb dX8_name__91 nc_iconst_m1 ?_
    obtain ⟨h112, hf⟩ := o_ite hf
    obtain ⟨r114, μ113, h111, hf⟩ := o_bind2 hf
    refine pw_goI hw (pw_runV (As := [.int 0, .int a2, .int (-1)]) (rest := [.ref a0]) hC mm_X8_name tw_1255 (c_X8_name h111 _) ⟨rfl, rfl, by decide, by decide⟩ hw h112 rfl hl.1 (Nat.le_of_ble_eq_true rfl) ⟨Nat.zero_le _, Nat.zero_le _⟩ rfl dX8_name__92) (fun H locs hw => ?_)
    obtain ⟨h116, hf⟩ := o_ite hf
    obtain ⟨r118, μ117, h115, hf⟩ := o_bind2 hf
    refine pw_goI hw (pw_runV (As := [.int r114]) (rest := []) hC mm_X8_isAll tw_1301 (c_X8_isAll h115 _) ⟨rfl, rfl, by decide, by decide⟩ hw h116 rfl hl.1 (Nat.le_of_ble_eq_true rfl) ⟨Nat.zero_le _, Nat.zero_le _⟩ rfl dX8_name__95) (fun H locs hw => ?_)
    refine lv_istore (lv' := [(4, .int r118), (0, .ref a0), (1, .int a1), (2, .int a2)]) hx hb dX8_name__98 hl (by decide) rfl (fun ls hl => ?_)
    refine lv_aload_n hx hb dX8_name__100 rfl (lv_at hl 1 rfl) ?_
    refine lv_iconst (v := 0) hx hb dX8_name__101 nc_iconst_0 ?_
    obtain ⟨μ119, h120, hf⟩ := o_bind hf
    refine pw_put hC fl_X8_103 hw h120 .int fd_X8_2 rfl rfl dX8_name__102 (fun H locs hw => ?_)
    refine lv_aload_n hx hb dX8_name__105 rfl (lv_at hl 1 rfl) ?_
    refine lv_iload hx hb dX8_name__106 (lv_at hl 0 rfl) ?_
    refine lv_if_ne (tgt := 115) hx hb dX8_name__108 (by decide) (fun c121 => ?_) (fun c121 => ?_)
    · have hf := o_neg c121 hf
      refine lv_iconst (v := 0) hx hb dX8_name__115 nc_iconst_0 ?_
      exact w_X8_name__L116 hC hr hlocks _ _ _ _ _ _ _ _ ls (lv_sub hl [1, 2, 3] rfl) hw hf
    · have hf := o_pos c121 hf
      refine lv_iconst (v := 1) hx hb dX8_name__111 nc_iconst_1 ?_
      refine lv_goto (tgt := 116) hx hb dX8_name__112 (by decide) ?_
      exact w_X8_name__L116 hC hr hlocks _ _ _ _ _ _ _ _ ls (lv_sub hl [1, 2, 3] rfl) hw hf
  · have hf := o_neg c105 hf
    refine lv_iconst (v := 0) hx hb dX8_name__76 nc_iconst_0 ?_
    obtain ⟨rfl, rfl⟩ := o_ret hf
    exact pw_iret hC hr hlocks hw dX8_name__77
def f_X8_name__L35 (cy : Nat → ClassId) (a0 : Nat) (a1 : Int32) (a2 : Int32) (t0 : Nat) (t1 : Int32) (μ : Mem) : Option (Int32 × Mem) :=
  if isO μ t0 7 = true then (ob2 (f_X8_throwsIf cy t0 t1 2 μ) fun r104 μ103 => if r104 = 0 then (if isO μ103 a0 7 = true then (ob2 (f_X8_changes cy a0 a1 μ103) fun r109 μ108 => (rdR μ108 a0 7 21).bind fun q110 => (rdR μ108 q110 6 2).bind fun q112 => (rdA cy μ108 1 q112 r109).bind fun v114 => if v114 = 4 then (f_X8_name__L69 cy a0 a1 a2 a0 1 μ108) else f_X8_name__L69 cy a0 a1 a2 a0 0 μ108) else none) else some (0, μ103)) else none
set_option maxRecDepth 100000 in
set_option maxHeartbeats 4000000 in
theorem w_X8_name__L35 {p : Program} {l : Launch} {e : Env} {s : State} {m : MethodId} {args : Array Value} {below : List Frame} {meth : Method} {c : Code} {A : Nat → Prop} {g : Wg} {L : List Nat} {r : Int32} {μ' : Mem} (hC : CX p m c cX8_name_ 5 s args RX8) (hr : meth.sig.returnType = (some .int)) (hlocks : meth.locks = false) : ∀ (a0 : Nat) (a1 : Int32) (a2 : Int32) (t0 : Nat) (t1 : Int32) (μ : Mem) (H : Heap) (locs : List Loc) (ls : Array Slot), lv_has ls 5 [(0, .ref a0), (1, .int a1), (2, .int a2)] → PW g L μ A s H locs → f_X8_name__L35 g.2 a0 a1 a2 t0 t1 μ = some (r, μ') → W p l e rm_X8_name_ s m args below meth c H locs 0 0 (MQ below (QI g L A r μ') args s 0 0 A) (F0 m 35 ls [.int t1, .ref t0]) := by
  have hx := hC.1
  have hb := hC.2.1
  intro a0 a1 a2 t0 t1 μ H locs ls hl hw hf
  unfold f_X8_name__L35 at hf
  refine lv_iconst (v := 2) hx hb dX8_name__35 nc_iconst_2 ?_
  obtain ⟨h102, hf⟩ := o_ite hf
  obtain ⟨r104, μ103, h101, hf⟩ := o_bind2 hf
  refine pw_goI hw (pw_runV (As := [.int t1, .int 2]) (rest := []) hC mm_X8_throwsIf tw_1317 (c_X8_throwsIf h101 _) ⟨rfl, rfl, by decide, by decide⟩ hw h102 rfl hl.1 (Nat.le_of_ble_eq_true rfl) ⟨Nat.zero_le _, Nat.zero_le _⟩ rfl dX8_name__36) (fun H locs hw => ?_)
  refine lv_if_eq (tgt := 44) hx hb dX8_name__39 (by decide) (fun c105 => ?_) (fun c105 => ?_)
  · have hf := o_pos c105 hf
    refine lv_aload_n hx hb dX8_name__44 rfl (lv_at hl 0 rfl) ?_
    refine lv_iload_n hx hb dX8_name__45 rfl (lv_at hl 1 rfl) ?_
    obtain ⟨h107, hf⟩ := o_ite hf
    obtain ⟨r109, μ108, h106, hf⟩ := o_bind2 hf
    refine pw_goI hw (pw_runV (As := [.int a1]) (rest := []) hC mm_X8_changes tw_1414 (c_X8_changes h106 _) ⟨rfl, rfl, by decide, by decide⟩ hw h107 rfl hl.1 (Nat.le_of_ble_eq_true rfl) ⟨Nat.zero_le _, Nat.zero_le _⟩ rfl dX8_name__46) (fun H locs hw => ?_)
    refine lv_istore_n (lv' := [(3, .int r109), (0, .ref a0), (1, .int a1), (2, .int a2)]) hx hb dX8_name__49 rfl hl (by decide) rfl (fun ls hl => ?_)
    refine lv_aload_n hx hb dX8_name__50 rfl (lv_at hl 1 rfl) ?_
    refine lv_aload_n hx hb dX8_name__51 rfl (lv_at hl 1 rfl) ?_
    obtain ⟨q110, h111, hf⟩ := o_bind hf
    refine pw_get hC fl_X8_67 hw (rdR_F h111) dX8_name__52 ?_
    obtain ⟨q112, h113, hf⟩ := o_bind hf
    refine pw_get hC fl_X8_228 hw (rdR_F h113) dX8_name__55 ?_
    refine lv_iload_n hx hb dX8_name__58 rfl (lv_at hl 0 rfl) ?_
    obtain ⟨v114, h115, hf⟩ := o_bind hf
    refine pw_iald hC hw h115 dX8_name__59 ?_
    refine lv_iconst (v := 4) hx hb dX8_name__60 nc_iconst_4 ?_
    refine lv_icmp_ne (tgt := 68) hx hb dX8_name__61 (by decide) (fun c116 => ?_) (fun c116 => ?_)
    · have hf := o_neg c116 hf
      refine lv_iconst (v := 0) hx hb dX8_name__68 nc_iconst_0 ?_
      exact w_X8_name__L69 hC hr hlocks _ _ _ _ _ _ _ _ ls (lv_sub hl [1, 2, 3] rfl) hw hf
    · have hf := o_pos c116 hf
      refine lv_iconst (v := 1) hx hb dX8_name__64 nc_iconst_1 ?_
      refine lv_goto (tgt := 69) hx hb dX8_name__65 (by decide) ?_
      exact w_X8_name__L69 hC hr hlocks _ _ _ _ _ _ _ _ ls (lv_sub hl [1, 2, 3] rfl) hw hf
  · have hf := o_neg c105 hf
    refine lv_iconst (v := 0) hx hb dX8_name__42 nc_iconst_0 ?_
    obtain ⟨rfl, rfl⟩ := o_ret hf
    exact pw_iret hC hr hlocks hw dX8_name__43
def f_X8_name_ (cy : Nat → ClassId) (a0 : Nat) (a1 : Int32) (μ : Mem) : Option (Int32 × Mem) :=
  (rdI μ a0 7 2).bind fun v1 => (wrF μ a0 7 2 (.int 0)).bind fun μ3 => if isO μ3 a0 7 = true then (ob2 (f_X8_noShelf cy a0 a1 μ3) fun r8 μ7 => if r8 = 0 then ((rdR μ7 a0 7 9).bind fun q10 => (rdA cy μ7 1 q10 a1).bind fun v12 => if 0 ≤ v12 then (f_X8_name__L35 cy a0 a1 v1 a0 0 μ7) else f_X8_name__L35 cy a0 a1 v1 a0 1 μ7) else some (0, μ7)) else none
set_option maxRecDepth 100000 in
set_option maxHeartbeats 4000000 in
theorem c_X8_name_ {l : Launch} {g : Wg} {L : List Nat} {μ : Mem} {a0 : Nat} {a1 : Int32} {r : Int32} {μ' : Mem} (hf : f_X8_name_ g.2 a0 a1 μ = some (r, μ')) : MetI l yX8_name_ cX8_name_ 5 (some .int) rm_X8_name_ g L μ [.ref a0, .int a1] r μ' := by
  refine pw_met (Qc := fun A => QI g L A r μ') (by decide) (Nat.le_of_ble_eq_true rfl) ?_
  intro p e s m args below meth c A ls H locs hC hr hlocks hl hw
  have hx := hC.1
  have hb := hC.2.1
  have hl : lv_has ls 5 [(0, .ref a0), (1, .int a1)] := hl
  unfold f_X8_name_ at hf
  refine lv_aload_n hx hb dX8_name__0 rfl (lv_at hl 0 rfl) ?_
  obtain ⟨v1, h2, hf⟩ := o_bind hf
  refine pw_get hC fl_X8_103 hw (rdI_F h2) dX8_name__1 ?_
  refine lv_istore_n (lv' := [(2, .int v1), (0, .ref a0), (1, .int a1)]) hx hb dX8_name__4 rfl hl (by decide) rfl (fun ls hl => ?_)
  refine lv_aload_n hx hb dX8_name__5 rfl (lv_at hl 1 rfl) ?_
  refine lv_iconst (v := 0) hx hb dX8_name__6 nc_iconst_0 ?_
  obtain ⟨μ3, h4, hf⟩ := o_bind hf
  refine pw_put hC fl_X8_103 hw h4 .int fd_X8_2 rfl rfl dX8_name__7 (fun H locs hw => ?_)
  refine lv_aload_n hx hb dX8_name__10 rfl (lv_at hl 1 rfl) ?_
  refine lv_iload_n hx hb dX8_name__11 rfl (lv_at hl 2 rfl) ?_
  obtain ⟨h6, hf⟩ := o_ite hf
  obtain ⟨r8, μ7, h5, hf⟩ := o_bind2 hf
  refine pw_goI hw (pw_runV (As := [.int a1]) (rest := []) hC mm_X8_noShelf tw_1313 (c_X8_noShelf h5 _) ⟨rfl, rfl, by decide, by decide⟩ hw h6 rfl hl.1 (Nat.le_of_ble_eq_true rfl) ⟨Nat.zero_le _, Nat.zero_le _⟩ rfl dX8_name__12) (fun H locs hw => ?_)
  refine lv_if_eq (tgt := 20) hx hb dX8_name__15 (by decide) (fun c9 => ?_) (fun c9 => ?_)
  · have hf := o_pos c9 hf
    refine lv_aload_n hx hb dX8_name__20 rfl (lv_at hl 1 rfl) ?_
    refine lv_aload_n hx hb dX8_name__21 rfl (lv_at hl 1 rfl) ?_
    obtain ⟨q10, h11, hf⟩ := o_bind hf
    refine pw_get hC fl_X8_37 hw (rdR_F h11) dX8_name__22 ?_
    refine lv_iload_n hx hb dX8_name__25 rfl (lv_at hl 2 rfl) ?_
    obtain ⟨v12, h13, hf⟩ := o_bind hf
    refine pw_iald hC hw h13 dX8_name__26 ?_
    refine lv_if_ge (tgt := 34) hx hb dX8_name__27 (by decide) (fun c14 => ?_) (fun c14 => ?_)
    · have hf := o_pos c14 hf
      refine lv_iconst (v := 0) hx hb dX8_name__34 nc_iconst_0 ?_
      exact w_X8_name__L35 hC hr hlocks _ _ _ _ _ _ _ _ ls (lv_sub hl [1, 2, 0] rfl) hw hf
    · have hf := o_neg c14 hf
      refine lv_iconst (v := 1) hx hb dX8_name__30 nc_iconst_1 ?_
      refine lv_goto (tgt := 35) hx hb dX8_name__31 (by decide) ?_
      exact w_X8_name__L35 hC hr hlocks _ _ _ _ _ _ _ _ ls (lv_sub hl [1, 2, 0] rfl) hw hf
  · have hf := o_neg c9 hf
    refine lv_iconst (v := 0) hx hb dX8_name__18 nc_iconst_0 ?_
    obtain ⟨rfl, rfl⟩ := o_ret hf
    exact pw_iret hC hr hlocks hw dX8_name__19
theorem dX8_drop_0 : decode cX8_drop 0 = .ok (.aload_n 0, 1) := by decide +kernel
theorem dX8_drop_1 : decode cX8_drop 1 = .ok (.iload_n 1, 1) := by decide +kernel
theorem dX8_drop_2 : decode cX8_drop 2 = .ok (.invokevirtual 183, 3) := by decide +kernel
theorem dX8_drop_5 : decode cX8_drop 5 = .ok (.ifCond .eq 5, 3) := by decide +kernel
theorem dX8_drop_8 : decode cX8_drop 8 = .ok (.iconst 0, 1) := by decide +kernel
theorem dX8_drop_9 : decode cX8_drop 9 = .ok (.ireturn, 1) := by decide +kernel
theorem dX8_drop_10 : decode cX8_drop 10 = .ok (.aload_n 0, 1) := by decide +kernel
theorem dX8_drop_11 : decode cX8_drop 11 = .ok (.aload_n 0, 1) := by decide +kernel
theorem dX8_drop_12 : decode cX8_drop 12 = .ok (.getfield 37, 3) := by decide +kernel
theorem dX8_drop_15 : decode cX8_drop 15 = .ok (.iload_n 1, 1) := by decide +kernel
theorem dX8_drop_16 : decode cX8_drop 16 = .ok (.iaload, 1) := by decide +kernel
theorem dX8_drop_17 : decode cX8_drop 17 = .ok (.ifCond .ge 7, 3) := by decide +kernel
theorem dX8_drop_20 : decode cX8_drop 20 = .ok (.iconst 1, 1) := by decide +kernel
theorem dX8_drop_21 : decode cX8_drop 21 = .ok (.goto 4, 3) := by decide +kernel
theorem dX8_drop_24 : decode cX8_drop 24 = .ok (.iconst 0, 1) := by decide +kernel
theorem dX8_drop_25 : decode cX8_drop 25 = .ok (.iconst 2, 1) := by decide +kernel
theorem dX8_drop_26 : decode cX8_drop 26 = .ok (.invokevirtual 186, 3) := by decide +kernel
theorem dX8_drop_29 : decode cX8_drop 29 = .ok (.ifCond .eq 5, 3) := by decide +kernel
theorem dX8_drop_32 : decode cX8_drop 32 = .ok (.iconst 0, 1) := by decide +kernel
theorem dX8_drop_33 : decode cX8_drop 33 = .ok (.ireturn, 1) := by decide +kernel
theorem dX8_drop_34 : decode cX8_drop 34 = .ok (.aload_n 0, 1) := by decide +kernel
theorem dX8_drop_35 : decode cX8_drop 35 = .ok (.iload_n 1, 1) := by decide +kernel
theorem dX8_drop_36 : decode cX8_drop 36 = .ok (.invokevirtual 322, 3) := by decide +kernel
theorem dX8_drop_39 : decode cX8_drop 39 = .ok (.istore_n 2, 1) := by decide +kernel
theorem dX8_drop_40 : decode cX8_drop 40 = .ok (.aload_n 0, 1) := by decide +kernel
theorem dX8_drop_41 : decode cX8_drop 41 = .ok (.sipush 1300, 3) := by decide +kernel
theorem dX8_drop_44 : decode cX8_drop 44 = .ok (.putfield 265, 3) := by decide +kernel
theorem dX8_drop_47 : decode cX8_drop 47 = .ok (.aload_n 0, 1) := by decide +kernel
theorem dX8_drop_48 : decode cX8_drop 48 = .ok (.getfield 37, 3) := by decide +kernel
theorem dX8_drop_51 : decode cX8_drop 51 = .ok (.iload_n 1, 1) := by decide +kernel
theorem dX8_drop_52 : decode cX8_drop 52 = .ok (.iaload, 1) := by decide +kernel
theorem dX8_drop_53 : decode cX8_drop 53 = .ok (.istore_n 3, 1) := by decide +kernel
theorem dX8_drop_54 : decode cX8_drop 54 = .ok (.iload_n 3, 1) := by decide +kernel
theorem dX8_drop_55 : decode cX8_drop 55 = .ok (.iconst 1, 1) := by decide +kernel
theorem dX8_drop_56 : decode cX8_drop 56 = .ok (.iadd, 1) := by decide +kernel
theorem dX8_drop_57 : decode cX8_drop 57 = .ok (.aload_n 0, 1) := by decide +kernel
theorem dX8_drop_58 : decode cX8_drop 58 = .ok (.getfield 268, 3) := by decide +kernel
theorem dX8_drop_61 : decode cX8_drop 61 = .ok (.if_icmp .ge 23, 3) := by decide +kernel
theorem dX8_drop_64 : decode cX8_drop 64 = .ok (.aload_n 0, 1) := by decide +kernel
theorem dX8_drop_65 : decode cX8_drop 65 = .ok (.getfield 80, 3) := by decide +kernel
theorem dX8_drop_68 : decode cX8_drop 68 = .ok (.iload_n 3, 1) := by decide +kernel
theorem dX8_drop_69 : decode cX8_drop 69 = .ok (.aload_n 0, 1) := by decide +kernel
theorem dX8_drop_70 : decode cX8_drop 70 = .ok (.getfield 80, 3) := by decide +kernel
theorem dX8_drop_73 : decode cX8_drop 73 = .ok (.iload_n 3, 1) := by decide +kernel
theorem dX8_drop_74 : decode cX8_drop 74 = .ok (.iconst 1, 1) := by decide +kernel
theorem dX8_drop_75 : decode cX8_drop 75 = .ok (.iadd, 1) := by decide +kernel
theorem dX8_drop_76 : decode cX8_drop 76 = .ok (.iaload, 1) := by decide +kernel
theorem dX8_drop_77 : decode cX8_drop 77 = .ok (.iastore, 1) := by decide +kernel
theorem dX8_drop_78 : decode cX8_drop 78 = .ok (.iinc 3 1, 3) := by decide +kernel
theorem dX8_drop_81 : decode cX8_drop 81 = .ok (.goto (-27), 3) := by decide +kernel
theorem dX8_drop_84 : decode cX8_drop 84 = .ok (.aload_n 0, 1) := by decide +kernel
theorem dX8_drop_85 : decode cX8_drop 85 = .ok (.dup, 1) := by decide +kernel
theorem dX8_drop_86 : decode cX8_drop 86 = .ok (.getfield 268, 3) := by decide +kernel
theorem dX8_drop_89 : decode cX8_drop 89 = .ok (.iconst 1, 1) := by decide +kernel
theorem dX8_drop_90 : decode cX8_drop 90 = .ok (.isub, 1) := by decide +kernel
theorem dX8_drop_91 : decode cX8_drop 91 = .ok (.putfield 268, 3) := by decide +kernel
theorem dX8_drop_94 : decode cX8_drop 94 = .ok (.aload_n 0, 1) := by decide +kernel
theorem dX8_drop_95 : decode cX8_drop 95 = .ok (.iload_n 1, 1) := by decide +kernel
theorem dX8_drop_96 : decode cX8_drop 96 = .ok (.invokevirtual 332, 3) := by decide +kernel
theorem dX8_drop_99 : decode cX8_drop 99 = .ok (.istore_n 3, 1) := by decide +kernel
theorem dX8_drop_100 : decode cX8_drop 100 = .ok (.aload_n 0, 1) := by decide +kernel
theorem dX8_drop_101 : decode cX8_drop 101 = .ok (.getfield 37, 3) := by decide +kernel
theorem dX8_drop_104 : decode cX8_drop 104 = .ok (.iload_n 1, 1) := by decide +kernel
theorem dX8_drop_105 : decode cX8_drop 105 = .ok (.iaload, 1) := by decide +kernel
theorem dX8_drop_106 : decode cX8_drop 106 = .ok (.aload_n 0, 1) := by decide +kernel
theorem dX8_drop_107 : decode cX8_drop 107 = .ok (.getfield 268, 3) := by decide +kernel
theorem dX8_drop_110 : decode cX8_drop 110 = .ok (.if_icmp .lt 15, 3) := by decide +kernel
theorem dX8_drop_113 : decode cX8_drop 113 = .ok (.aload_n 0, 1) := by decide +kernel
theorem dX8_drop_114 : decode cX8_drop 114 = .ok (.getfield 37, 3) := by decide +kernel
theorem dX8_drop_117 : decode cX8_drop 117 = .ok (.iload_n 1, 1) := by decide +kernel
theorem dX8_drop_118 : decode cX8_drop 118 = .ok (.aload_n 0, 1) := by decide +kernel
theorem dX8_drop_119 : decode cX8_drop 119 = .ok (.getfield 268, 3) := by decide +kernel
theorem dX8_drop_122 : decode cX8_drop 122 = .ok (.iconst 1, 1) := by decide +kernel
theorem dX8_drop_123 : decode cX8_drop 123 = .ok (.isub, 1) := by decide +kernel
theorem dX8_drop_124 : decode cX8_drop 124 = .ok (.iastore, 1) := by decide +kernel
theorem dX8_drop_125 : decode cX8_drop 125 = .ok (.aload_n 0, 1) := by decide +kernel
theorem dX8_drop_126 : decode cX8_drop 126 = .ok (.getfield 25, 3) := by decide +kernel
theorem dX8_drop_129 : decode cX8_drop 129 = .ok (.iload_n 1, 1) := by decide +kernel
theorem dX8_drop_130 : decode cX8_drop 130 = .ok (.iaload, 1) := by decide +kernel
theorem dX8_drop_131 : decode cX8_drop 131 = .ok (.ireturn, 1) := by decide +kernel
abbrev rm_X8_drop : Room := { frames := 125, cells := 0, slots := 0, locals := 3113 }
def f_X8_drop_L125 (cy : Nat → ClassId) (a0 : Nat) (a1 : Int32) (μ : Mem) : Option (Int32 × Mem) :=
  (rdR μ a0 7 6).bind fun q101 => (rdA cy μ 1 q101 a1).bind fun v103 => some (v103, μ)
set_option maxRecDepth 100000 in
set_option maxHeartbeats 4000000 in
theorem w_X8_drop_L125 {p : Program} {l : Launch} {e : Env} {s : State} {m : MethodId} {args : Array Value} {below : List Frame} {meth : Method} {c : Code} {A : Nat → Prop} {g : Wg} {L : List Nat} {r : Int32} {μ' : Mem} (hC : CX p m c cX8_drop 4 s args RX8) (hr : meth.sig.returnType = (some .int)) (hlocks : meth.locks = false) : ∀ (a0 : Nat) (a1 : Int32) (μ : Mem) (H : Heap) (locs : List Loc) (ls : Array Slot), lv_has ls 4 [(0, .ref a0), (1, .int a1)] → PW g L μ A s H locs → f_X8_drop_L125 g.2 a0 a1 μ = some (r, μ') → W p l e rm_X8_drop s m args below meth c H locs 0 0 (MQ below (QI g L A r μ') args s 0 0 A) (F0 m 125 ls []) := by
  have hx := hC.1
  have hb := hC.2.1
  intro a0 a1 μ H locs ls hl hw hf
  unfold f_X8_drop_L125 at hf
  refine lv_aload_n hx hb dX8_drop_125 rfl (lv_at hl 0 rfl) ?_
  obtain ⟨q101, h102, hf⟩ := o_bind hf
  refine pw_get hC fl_X8_25 hw (rdR_F h102) dX8_drop_126 ?_
  refine lv_iload_n hx hb dX8_drop_129 rfl (lv_at hl 1 rfl) ?_
  obtain ⟨v103, h104, hf⟩ := o_bind hf
  refine pw_iald hC hw h104 dX8_drop_130 ?_
  obtain ⟨rfl, rfl⟩ := o_ret hf
  exact pw_iret hC hr hlocks hw dX8_drop_131
def f_X8_drop_L54 (cy : Nat → ClassId) : Nat → Nat → Int32 → Int32 → Mem → Option (Int32 × Mem)
  | 0, _, _, _, _ => none
  | n + 1, a0, a1, a3, μ => (rdI μ a0 7 31).bind fun v101 => if v101 ≤ (a3 + 1) then ((rdI μ a0 7 31).bind fun v104 => (wrF μ a0 7 31 (.int (v104 - 1))).bind fun μ106 => if isO μ106 a0 7 = true then (ob2 (f_X8_lays cy a0 a1 μ106) fun r111 μ110 => (rdR μ110 a0 7 9).bind fun q112 => (rdA cy μ110 1 q112 a1).bind fun v114 => (rdI μ110 a0 7 31).bind fun v116 => if v114 < v116 then (f_X8_drop_L125 cy a0 a1 μ110) else (rdR μ110 a0 7 9).bind fun q119 => (rdI μ110 a0 7 31).bind fun v121 => (wrA cy μ110 1 q119 a1 (v121 - 1)).bind fun μ123 => f_X8_drop_L125 cy a0 a1 μ123) else none) else (rdR μ a0 7 30).bind fun q125 => (rdR μ a0 7 30).bind fun q127 => (rdA cy μ 1 q127 (a3 + 1)).bind fun v129 => (wrA cy μ 1 q125 a3 v129).bind fun μ131 => f_X8_drop_L54 cy n a0 a1 (a3 + 1) μ131
set_option maxRecDepth 100000 in
set_option maxHeartbeats 4000000 in
theorem w_X8_drop_L54 {p : Program} {l : Launch} {e : Env} {s : State} {m : MethodId} {args : Array Value} {below : List Frame} {meth : Method} {c : Code} {A : Nat → Prop} {g : Wg} {L : List Nat} {r : Int32} {μ' : Mem} (hC : CX p m c cX8_drop 4 s args RX8) (hr : meth.sig.returnType = (some .int)) (hlocks : meth.locks = false) : ∀ (n : Nat), ∀ (a0 : Nat) (a1 : Int32) (a3 : Int32) (μ : Mem) (H : Heap) (locs : List Loc) (ls : Array Slot), lv_has ls 4 [(0, .ref a0), (1, .int a1), (3, .int a3)] → PW g L μ A s H locs → f_X8_drop_L54 g.2 n a0 a1 a3 μ = some (r, μ') → W p l e rm_X8_drop s m args below meth c H locs 0 0 (MQ below (QI g L A r μ') args s 0 0 A) (F0 m 54 ls []) := by
  have hx := hC.1
  have hb := hC.2.1
  intro n
  induction n with
  | zero => intro a0 a1 a3 μ H locs ls hl hw hf; cases hf
  | succ n ih =>
    intro a0 a1 a3 μ H locs ls hl hw hf
    rw [f_X8_drop_L54] at hf
    refine lv_iload_n hx hb dX8_drop_54 rfl (lv_at hl 2 rfl) ?_
    refine lv_iconst (v := 1) hx hb dX8_drop_55 nc_iconst_1 ?_
    refine lv_iadd hx hb dX8_drop_56 ?_
    refine lv_aload_n hx hb dX8_drop_57 rfl (lv_at hl 0 rfl) ?_
    obtain ⟨v101, h102, hf⟩ := o_bind hf
    refine pw_get hC fl_X8_268 hw (rdI_F h102) dX8_drop_58 ?_
    refine lv_icmp_ge (tgt := 84) hx hb dX8_drop_61 (by decide) (fun c103 => ?_) (fun c103 => ?_)
    · have hf := o_pos c103 hf
      refine lv_aload_n hx hb dX8_drop_84 rfl (lv_at hl 0 rfl) ?_
      refine lv_dup hx hb dX8_drop_85 rfl ?_
      obtain ⟨v104, h105, hf⟩ := o_bind hf
      refine pw_get hC fl_X8_268 hw (rdI_F h105) dX8_drop_86 ?_
      refine lv_iconst (v := 1) hx hb dX8_drop_89 nc_iconst_1 ?_
      refine lv_isub hx hb dX8_drop_90 ?_
      obtain ⟨μ106, h107, hf⟩ := o_bind hf
      refine pw_put hC fl_X8_268 hw h107 .int fd_X8_31 rfl rfl dX8_drop_91 (fun H locs hw => ?_)
      refine lv_aload_n hx hb dX8_drop_94 rfl (lv_at hl 0 rfl) ?_
      refine lv_iload_n hx hb dX8_drop_95 rfl (lv_at hl 1 rfl) ?_
      obtain ⟨h109, hf⟩ := o_ite hf
      obtain ⟨r111, μ110, h108, hf⟩ := o_bind2 hf
      refine pw_goI hw (pw_runV (As := [.int a1]) (rest := []) hC mm_X8_lays tw_1426 (c_X8_lays h108 _) ⟨rfl, rfl, by decide, by decide⟩ hw h109 rfl hl.1 (Nat.le_of_ble_eq_true rfl) ⟨Nat.zero_le _, Nat.zero_le _⟩ rfl dX8_drop_96) (fun H locs hw => ?_)
      refine lv_istore_n (lv' := [(3, .int r111), (0, .ref a0), (1, .int a1)]) hx hb dX8_drop_99 rfl hl (by decide) rfl (fun ls hl => ?_)
      refine lv_aload_n hx hb dX8_drop_100 rfl (lv_at hl 1 rfl) ?_
      obtain ⟨q112, h113, hf⟩ := o_bind hf
      refine pw_get hC fl_X8_37 hw (rdR_F h113) dX8_drop_101 ?_
      refine lv_iload_n hx hb dX8_drop_104 rfl (lv_at hl 2 rfl) ?_
      obtain ⟨v114, h115, hf⟩ := o_bind hf
      refine pw_iald hC hw h115 dX8_drop_105 ?_
      refine lv_aload_n hx hb dX8_drop_106 rfl (lv_at hl 1 rfl) ?_
      obtain ⟨v116, h117, hf⟩ := o_bind hf
      refine pw_get hC fl_X8_268 hw (rdI_F h117) dX8_drop_107 ?_
      refine lv_icmp_lt (tgt := 125) hx hb dX8_drop_110 (by decide) (fun c118 => ?_) (fun c118 => ?_)
      · have hf := o_pos c118 hf
        exact w_X8_drop_L125 hC hr hlocks _ _ _ _ _ ls (lv_sub hl [1, 2] rfl) hw hf
      · have hf := o_neg c118 hf
        refine lv_aload_n hx hb dX8_drop_113 rfl (lv_at hl 1 rfl) ?_
        obtain ⟨q119, h120, hf⟩ := o_bind hf
        refine pw_get hC fl_X8_37 hw (rdR_F h120) dX8_drop_114 ?_
        refine lv_iload_n hx hb dX8_drop_117 rfl (lv_at hl 2 rfl) ?_
        refine lv_aload_n hx hb dX8_drop_118 rfl (lv_at hl 1 rfl) ?_
        obtain ⟨v121, h122, hf⟩ := o_bind hf
        refine pw_get hC fl_X8_268 hw (rdI_F h122) dX8_drop_119 ?_
        refine lv_iconst (v := 1) hx hb dX8_drop_122 nc_iconst_1 ?_
        refine lv_isub hx hb dX8_drop_123 ?_
        obtain ⟨μ123, h124, hf⟩ := o_bind hf
        refine pw_iast hC hw h124 dX8_drop_124 (fun H locs hw => ?_)
        exact w_X8_drop_L125 hC hr hlocks _ _ _ _ _ ls (lv_sub hl [1, 2] rfl) hw hf
    · have hf := o_neg c103 hf
      refine lv_aload_n hx hb dX8_drop_64 rfl (lv_at hl 0 rfl) ?_
      obtain ⟨q125, h126, hf⟩ := o_bind hf
      refine pw_get hC fl_X8_80 hw (rdR_F h126) dX8_drop_65 ?_
      refine lv_iload_n hx hb dX8_drop_68 rfl (lv_at hl 2 rfl) ?_
      refine lv_aload_n hx hb dX8_drop_69 rfl (lv_at hl 0 rfl) ?_
      obtain ⟨q127, h128, hf⟩ := o_bind hf
      refine pw_get hC fl_X8_80 hw (rdR_F h128) dX8_drop_70 ?_
      refine lv_iload_n hx hb dX8_drop_73 rfl (lv_at hl 2 rfl) ?_
      refine lv_iconst (v := 1) hx hb dX8_drop_74 nc_iconst_1 ?_
      refine lv_iadd hx hb dX8_drop_75 ?_
      obtain ⟨v129, h130, hf⟩ := o_bind hf
      refine pw_iald hC hw h130 dX8_drop_76 ?_
      obtain ⟨μ131, h132, hf⟩ := o_bind hf
      refine pw_iast hC hw h132 dX8_drop_77 (fun H locs hw => ?_)
      refine lv_iinc (v := (a3 + 1)) (lv' := [(3, .int (a3 + 1)), (0, .ref a0), (1, .int a1)]) hx hb dX8_drop_78 hl (k := 2) rfl (by first | rfl | decide +kernel) (by decide) rfl (fun ls hl => ?_)
      refine lv_goto (tgt := 54) hx hb dX8_drop_81 (by decide) ?_
      exact ih _ _ _ _ _ _ ls (lv_sub hl [1, 2, 0] rfl) hw hf
def f_X8_drop_L25 (cy : Nat → ClassId) (a0 : Nat) (a1 : Int32) (t0 : Nat) (t1 : Int32) (μ : Mem) : Option (Int32 × Mem) :=
  if isO μ t0 7 = true then (ob2 (f_X8_throwsIf cy t0 t1 2 μ) fun r104 μ103 => if r104 = 0 then (if isO μ103 a0 7 = true then (ob2 (f_X8_changes cy a0 a1 μ103) fun r109 μ108 => (wrF μ108 a0 7 29 (.int 1300)).bind fun μ110 => (rdR μ110 a0 7 9).bind fun q112 => (rdA cy μ110 1 q112 a1).bind fun v114 => f_X8_drop_L54 cy FU a0 a1 v114 μ110) else none) else some (0, μ103)) else none
set_option maxRecDepth 100000 in
set_option maxHeartbeats 4000000 in
theorem w_X8_drop_L25 {p : Program} {l : Launch} {e : Env} {s : State} {m : MethodId} {args : Array Value} {below : List Frame} {meth : Method} {c : Code} {A : Nat → Prop} {g : Wg} {L : List Nat} {r : Int32} {μ' : Mem} (hC : CX p m c cX8_drop 4 s args RX8) (hr : meth.sig.returnType = (some .int)) (hlocks : meth.locks = false) : ∀ (a0 : Nat) (a1 : Int32) (t0 : Nat) (t1 : Int32) (μ : Mem) (H : Heap) (locs : List Loc) (ls : Array Slot), lv_has ls 4 [(0, .ref a0), (1, .int a1)] → PW g L μ A s H locs → f_X8_drop_L25 g.2 a0 a1 t0 t1 μ = some (r, μ') → W p l e rm_X8_drop s m args below meth c H locs 0 0 (MQ below (QI g L A r μ') args s 0 0 A) (F0 m 25 ls [.int t1, .ref t0]) := by
  have hx := hC.1
  have hb := hC.2.1
  intro a0 a1 t0 t1 μ H locs ls hl hw hf
  unfold f_X8_drop_L25 at hf
  refine lv_iconst (v := 2) hx hb dX8_drop_25 nc_iconst_2 ?_
  obtain ⟨h102, hf⟩ := o_ite hf
  obtain ⟨r104, μ103, h101, hf⟩ := o_bind2 hf
  refine pw_goI hw (pw_runV (As := [.int t1, .int 2]) (rest := []) hC mm_X8_throwsIf tw_1317 (c_X8_throwsIf h101 _) ⟨rfl, rfl, by decide, by decide⟩ hw h102 rfl hl.1 (Nat.le_of_ble_eq_true rfl) ⟨Nat.zero_le _, Nat.zero_le _⟩ rfl dX8_drop_26) (fun H locs hw => ?_)
  refine lv_if_eq (tgt := 34) hx hb dX8_drop_29 (by decide) (fun c105 => ?_) (fun c105 => ?_)
  · have hf := o_pos c105 hf
    refine lv_aload_n hx hb dX8_drop_34 rfl (lv_at hl 0 rfl) ?_
    refine lv_iload_n hx hb dX8_drop_35 rfl (lv_at hl 1 rfl) ?_
    obtain ⟨h107, hf⟩ := o_ite hf
    obtain ⟨r109, μ108, h106, hf⟩ := o_bind2 hf
    refine pw_goI hw (pw_runV (As := [.int a1]) (rest := []) hC mm_X8_changes tw_1414 (c_X8_changes h106 _) ⟨rfl, rfl, by decide, by decide⟩ hw h107 rfl hl.1 (Nat.le_of_ble_eq_true rfl) ⟨Nat.zero_le _, Nat.zero_le _⟩ rfl dX8_drop_36) (fun H locs hw => ?_)
    refine lv_istore_n (lv' := [(2, .int r109), (0, .ref a0), (1, .int a1)]) hx hb dX8_drop_39 rfl hl (by decide) rfl (fun ls hl => ?_)
    refine lv_aload_n hx hb dX8_drop_40 rfl (lv_at hl 1 rfl) ?_
    refine lv_sipush (v := 1300) hx hb dX8_drop_41 nc_sipush_1300 ?_
    obtain ⟨μ110, h111, hf⟩ := o_bind hf
    refine pw_put hC fl_X8_265 hw h111 .int fd_X8_29 rfl rfl dX8_drop_44 (fun H locs hw => ?_)
    refine lv_aload_n hx hb dX8_drop_47 rfl (lv_at hl 1 rfl) ?_
    obtain ⟨q112, h113, hf⟩ := o_bind hf
    refine pw_get hC fl_X8_37 hw (rdR_F h113) dX8_drop_48 ?_
    refine lv_iload_n hx hb dX8_drop_51 rfl (lv_at hl 2 rfl) ?_
    obtain ⟨v114, h115, hf⟩ := o_bind hf
    refine pw_iald hC hw h115 dX8_drop_52 ?_
    refine lv_istore_n (lv' := [(3, .int v114), (2, .int r109), (0, .ref a0), (1, .int a1)]) hx hb dX8_drop_53 rfl hl (by decide) rfl (fun ls hl => ?_)
    exact w_X8_drop_L54 hC hr hlocks FU _ _ _ _ _ _ ls (lv_sub hl [2, 3, 0] rfl) hw hf
  · have hf := o_neg c105 hf
    refine lv_iconst (v := 0) hx hb dX8_drop_32 nc_iconst_0 ?_
    obtain ⟨rfl, rfl⟩ := o_ret hf
    exact pw_iret hC hr hlocks hw dX8_drop_33
def f_X8_drop (cy : Nat → ClassId) (a0 : Nat) (a1 : Int32) (μ : Mem) : Option (Int32 × Mem) :=
  if isO μ a0 7 = true then (ob2 (f_X8_noShelf cy a0 a1 μ) fun r4 μ3 => if r4 = 0 then ((rdR μ3 a0 7 9).bind fun q6 => (rdA cy μ3 1 q6 a1).bind fun v8 => if 0 ≤ v8 then (f_X8_drop_L25 cy a0 a1 a0 0 μ3) else f_X8_drop_L25 cy a0 a1 a0 1 μ3) else some (0, μ3)) else none
set_option maxRecDepth 100000 in
set_option maxHeartbeats 4000000 in
theorem c_X8_drop {l : Launch} {g : Wg} {L : List Nat} {μ : Mem} {a0 : Nat} {a1 : Int32} {r : Int32} {μ' : Mem} (hf : f_X8_drop g.2 a0 a1 μ = some (r, μ')) : MetI l yX8_drop cX8_drop 4 (some .int) rm_X8_drop g L μ [.ref a0, .int a1] r μ' := by
  refine pw_met (Qc := fun A => QI g L A r μ') (by decide) (Nat.le_of_ble_eq_true rfl) ?_
  intro p e s m args below meth c A ls H locs hC hr hlocks hl hw
  have hx := hC.1
  have hb := hC.2.1
  have hl : lv_has ls 4 [(0, .ref a0), (1, .int a1)] := hl
  unfold f_X8_drop at hf
  refine lv_aload_n hx hb dX8_drop_0 rfl (lv_at hl 0 rfl) ?_
  refine lv_iload_n hx hb dX8_drop_1 rfl (lv_at hl 1 rfl) ?_
  obtain ⟨h2, hf⟩ := o_ite hf
  obtain ⟨r4, μ3, h1, hf⟩ := o_bind2 hf
  refine pw_goI hw (pw_runV (As := [.int a1]) (rest := []) hC mm_X8_noShelf tw_1313 (c_X8_noShelf h1 _) ⟨rfl, rfl, by decide, by decide⟩ hw h2 rfl hl.1 (Nat.le_of_ble_eq_true rfl) ⟨Nat.zero_le _, Nat.zero_le _⟩ rfl dX8_drop_2) (fun H locs hw => ?_)
  refine lv_if_eq (tgt := 10) hx hb dX8_drop_5 (by decide) (fun c5 => ?_) (fun c5 => ?_)
  · have hf := o_pos c5 hf
    refine lv_aload_n hx hb dX8_drop_10 rfl (lv_at hl 0 rfl) ?_
    refine lv_aload_n hx hb dX8_drop_11 rfl (lv_at hl 0 rfl) ?_
    obtain ⟨q6, h7, hf⟩ := o_bind hf
    refine pw_get hC fl_X8_37 hw (rdR_F h7) dX8_drop_12 ?_
    refine lv_iload_n hx hb dX8_drop_15 rfl (lv_at hl 1 rfl) ?_
    obtain ⟨v8, h9, hf⟩ := o_bind hf
    refine pw_iald hC hw h9 dX8_drop_16 ?_
    refine lv_if_ge (tgt := 24) hx hb dX8_drop_17 (by decide) (fun c10 => ?_) (fun c10 => ?_)
    · have hf := o_pos c10 hf
      refine lv_iconst (v := 0) hx hb dX8_drop_24 nc_iconst_0 ?_
      exact w_X8_drop_L25 hC hr hlocks _ _ _ _ _ _ _ ls (lv_sub hl [0, 1] rfl) hw hf
    · have hf := o_neg c10 hf
      refine lv_iconst (v := 1) hx hb dX8_drop_20 nc_iconst_1 ?_
      refine lv_goto (tgt := 25) hx hb dX8_drop_21 (by decide) ?_
      exact w_X8_drop_L25 hC hr hlocks _ _ _ _ _ _ _ ls (lv_sub hl [0, 1] rfl) hw hf
  · have hf := o_neg c5 hf
    refine lv_iconst (v := 0) hx hb dX8_drop_8 nc_iconst_0 ?_
    obtain ⟨rfl, rfl⟩ := o_ret hf
    exact pw_iret hC hr hlocks hw dX8_drop_9
theorem dX8_move_0 : decode cX8_move 0 = .ok (.aload_n 0, 1) := by decide +kernel
theorem dX8_move_1 : decode cX8_move 1 = .ok (.iload_n 1, 1) := by decide +kernel
theorem dX8_move_2 : decode cX8_move 2 = .ok (.invokevirtual 183, 3) := by decide +kernel
theorem dX8_move_5 : decode cX8_move 5 = .ok (.ifCond .eq 5, 3) := by decide +kernel
theorem dX8_move_8 : decode cX8_move 8 = .ok (.iconst 0, 1) := by decide +kernel
theorem dX8_move_9 : decode cX8_move 9 = .ok (.ireturn, 1) := by decide +kernel
theorem dX8_move_10 : decode cX8_move 10 = .ok (.aload_n 0, 1) := by decide +kernel
theorem dX8_move_11 : decode cX8_move 11 = .ok (.aload_n 0, 1) := by decide +kernel
theorem dX8_move_12 : decode cX8_move 12 = .ok (.getfield 37, 3) := by decide +kernel
theorem dX8_move_15 : decode cX8_move 15 = .ok (.iload_n 1, 1) := by decide +kernel
theorem dX8_move_16 : decode cX8_move 16 = .ok (.iaload, 1) := by decide +kernel
theorem dX8_move_17 : decode cX8_move 17 = .ok (.ifCond .ge 7, 3) := by decide +kernel
theorem dX8_move_20 : decode cX8_move 20 = .ok (.iconst 1, 1) := by decide +kernel
theorem dX8_move_21 : decode cX8_move 21 = .ok (.goto 4, 3) := by decide +kernel
theorem dX8_move_24 : decode cX8_move 24 = .ok (.iconst 0, 1) := by decide +kernel
theorem dX8_move_25 : decode cX8_move 25 = .ok (.iconst 2, 1) := by decide +kernel
theorem dX8_move_26 : decode cX8_move 26 = .ok (.invokevirtual 186, 3) := by decide +kernel
theorem dX8_move_29 : decode cX8_move 29 = .ok (.ifCond .eq 5, 3) := by decide +kernel
theorem dX8_move_32 : decode cX8_move 32 = .ok (.iconst 0, 1) := by decide +kernel
theorem dX8_move_33 : decode cX8_move 33 = .ok (.ireturn, 1) := by decide +kernel
theorem dX8_move_34 : decode cX8_move 34 = .ok (.aload_n 0, 1) := by decide +kernel
theorem dX8_move_35 : decode cX8_move 35 = .ok (.iload_n 1, 1) := by decide +kernel
theorem dX8_move_36 : decode cX8_move 36 = .ok (.invokevirtual 322, 3) := by decide +kernel
theorem dX8_move_39 : decode cX8_move 39 = .ok (.istore_n 3, 1) := by decide +kernel
theorem dX8_move_40 : decode cX8_move 40 = .ok (.iload_n 2, 1) := by decide +kernel
theorem dX8_move_41 : decode cX8_move 41 = .ok (.ifCond .lt 11, 3) := by decide +kernel
theorem dX8_move_44 : decode cX8_move 44 = .ok (.iload_n 2, 1) := by decide +kernel
theorem dX8_move_45 : decode cX8_move 45 = .ok (.aload_n 0, 1) := by decide +kernel
theorem dX8_move_46 : decode cX8_move 46 = .ok (.getfield 268, 3) := by decide +kernel
theorem dX8_move_49 : decode cX8_move 49 = .ok (.if_icmp .lt 5, 3) := by decide +kernel
theorem dX8_move_52 : decode cX8_move 52 = .ok (.iconst 0, 1) := by decide +kernel
theorem dX8_move_53 : decode cX8_move 53 = .ok (.ireturn, 1) := by decide +kernel
theorem dX8_move_54 : decode cX8_move 54 = .ok (.aload_n 0, 1) := by decide +kernel
theorem dX8_move_55 : decode cX8_move 55 = .ok (.sipush 1300, 3) := by decide +kernel
theorem dX8_move_58 : decode cX8_move 58 = .ok (.putfield 265, 3) := by decide +kernel
theorem dX8_move_61 : decode cX8_move 61 = .ok (.aload_n 0, 1) := by decide +kernel
theorem dX8_move_62 : decode cX8_move 62 = .ok (.getfield 80, 3) := by decide +kernel
theorem dX8_move_65 : decode cX8_move 65 = .ok (.aload_n 0, 1) := by decide +kernel
theorem dX8_move_66 : decode cX8_move 66 = .ok (.getfield 37, 3) := by decide +kernel
theorem dX8_move_69 : decode cX8_move 69 = .ok (.iload_n 1, 1) := by decide +kernel
theorem dX8_move_70 : decode cX8_move 70 = .ok (.iaload, 1) := by decide +kernel
theorem dX8_move_71 : decode cX8_move 71 = .ok (.iaload, 1) := by decide +kernel
theorem dX8_move_72 : decode cX8_move 72 = .ok (.istore 4, 2) := by decide +kernel
theorem dX8_move_74 : decode cX8_move 74 = .ok (.aload_n 0, 1) := by decide +kernel
theorem dX8_move_75 : decode cX8_move 75 = .ok (.getfield 37, 3) := by decide +kernel
theorem dX8_move_78 : decode cX8_move 78 = .ok (.iload_n 1, 1) := by decide +kernel
theorem dX8_move_79 : decode cX8_move 79 = .ok (.iaload, 1) := by decide +kernel
theorem dX8_move_80 : decode cX8_move 80 = .ok (.istore 5, 2) := by decide +kernel
theorem dX8_move_82 : decode cX8_move 82 = .ok (.iload 5, 2) := by decide +kernel
theorem dX8_move_84 : decode cX8_move 84 = .ok (.iload_n 2, 1) := by decide +kernel
theorem dX8_move_85 : decode cX8_move 85 = .ok (.if_icmp .ge 25, 3) := by decide +kernel
theorem dX8_move_88 : decode cX8_move 88 = .ok (.aload_n 0, 1) := by decide +kernel
theorem dX8_move_89 : decode cX8_move 89 = .ok (.getfield 80, 3) := by decide +kernel
theorem dX8_move_92 : decode cX8_move 92 = .ok (.iload 5, 2) := by decide +kernel
theorem dX8_move_94 : decode cX8_move 94 = .ok (.aload_n 0, 1) := by decide +kernel
theorem dX8_move_95 : decode cX8_move 95 = .ok (.getfield 80, 3) := by decide +kernel
theorem dX8_move_98 : decode cX8_move 98 = .ok (.iload 5, 2) := by decide +kernel
theorem dX8_move_100 : decode cX8_move 100 = .ok (.iconst 1, 1) := by decide +kernel
theorem dX8_move_101 : decode cX8_move 101 = .ok (.iadd, 1) := by decide +kernel
theorem dX8_move_102 : decode cX8_move 102 = .ok (.iaload, 1) := by decide +kernel
theorem dX8_move_103 : decode cX8_move 103 = .ok (.iastore, 1) := by decide +kernel
theorem dX8_move_104 : decode cX8_move 104 = .ok (.iinc 5 1, 3) := by decide +kernel
theorem dX8_move_107 : decode cX8_move 107 = .ok (.goto (-25), 3) := by decide +kernel
theorem dX8_move_110 : decode cX8_move 110 = .ok (.aload_n 0, 1) := by decide +kernel
theorem dX8_move_111 : decode cX8_move 111 = .ok (.getfield 37, 3) := by decide +kernel
theorem dX8_move_114 : decode cX8_move 114 = .ok (.iload_n 1, 1) := by decide +kernel
theorem dX8_move_115 : decode cX8_move 115 = .ok (.iaload, 1) := by decide +kernel
theorem dX8_move_116 : decode cX8_move 116 = .ok (.istore 5, 2) := by decide +kernel
theorem dX8_move_118 : decode cX8_move 118 = .ok (.iload 5, 2) := by decide +kernel
theorem dX8_move_120 : decode cX8_move 120 = .ok (.iload_n 2, 1) := by decide +kernel
theorem dX8_move_121 : decode cX8_move 121 = .ok (.if_icmp .le 25, 3) := by decide +kernel
theorem dX8_move_124 : decode cX8_move 124 = .ok (.aload_n 0, 1) := by decide +kernel
theorem dX8_move_125 : decode cX8_move 125 = .ok (.getfield 80, 3) := by decide +kernel
theorem dX8_move_128 : decode cX8_move 128 = .ok (.iload 5, 2) := by decide +kernel
theorem dX8_move_130 : decode cX8_move 130 = .ok (.aload_n 0, 1) := by decide +kernel
theorem dX8_move_131 : decode cX8_move 131 = .ok (.getfield 80, 3) := by decide +kernel
theorem dX8_move_134 : decode cX8_move 134 = .ok (.iload 5, 2) := by decide +kernel
theorem dX8_move_136 : decode cX8_move 136 = .ok (.iconst 1, 1) := by decide +kernel
theorem dX8_move_137 : decode cX8_move 137 = .ok (.isub, 1) := by decide +kernel
theorem dX8_move_138 : decode cX8_move 138 = .ok (.iaload, 1) := by decide +kernel
theorem dX8_move_139 : decode cX8_move 139 = .ok (.iastore, 1) := by decide +kernel
theorem dX8_move_140 : decode cX8_move 140 = .ok (.iinc 5 (-1), 3) := by decide +kernel
theorem dX8_move_143 : decode cX8_move 143 = .ok (.goto (-25), 3) := by decide +kernel
theorem dX8_move_146 : decode cX8_move 146 = .ok (.aload_n 0, 1) := by decide +kernel
theorem dX8_move_147 : decode cX8_move 147 = .ok (.getfield 80, 3) := by decide +kernel
theorem dX8_move_150 : decode cX8_move 150 = .ok (.iload_n 2, 1) := by decide +kernel
theorem dX8_move_151 : decode cX8_move 151 = .ok (.iload 4, 2) := by decide +kernel
theorem dX8_move_153 : decode cX8_move 153 = .ok (.iastore, 1) := by decide +kernel
theorem dX8_move_154 : decode cX8_move 154 = .ok (.aload_n 0, 1) := by decide +kernel
theorem dX8_move_155 : decode cX8_move 155 = .ok (.iload_n 1, 1) := by decide +kernel
theorem dX8_move_156 : decode cX8_move 156 = .ok (.invokevirtual 332, 3) := by decide +kernel
theorem dX8_move_159 : decode cX8_move 159 = .ok (.istore 5, 2) := by decide +kernel
theorem dX8_move_161 : decode cX8_move 161 = .ok (.aload_n 0, 1) := by decide +kernel
theorem dX8_move_162 : decode cX8_move 162 = .ok (.getfield 37, 3) := by decide +kernel
theorem dX8_move_165 : decode cX8_move 165 = .ok (.iload_n 1, 1) := by decide +kernel
theorem dX8_move_166 : decode cX8_move 166 = .ok (.iload_n 2, 1) := by decide +kernel
theorem dX8_move_167 : decode cX8_move 167 = .ok (.iastore, 1) := by decide +kernel
theorem dX8_move_168 : decode cX8_move 168 = .ok (.iconst 1, 1) := by decide +kernel
theorem dX8_move_169 : decode cX8_move 169 = .ok (.ireturn, 1) := by decide +kernel
abbrev rm_X8_move : Room := { frames := 125, cells := 0, slots := 0, locals := 3113 }
def f_X8_move_L52 (cy : Nat → ClassId)  (μ : Mem) : Option (Int32 × Mem) :=
  some (0, μ)
set_option maxRecDepth 100000 in
set_option maxHeartbeats 4000000 in
theorem w_X8_move_L52 {p : Program} {l : Launch} {e : Env} {s : State} {m : MethodId} {args : Array Value} {below : List Frame} {meth : Method} {c : Code} {A : Nat → Prop} {g : Wg} {L : List Nat} {r : Int32} {μ' : Mem} (hC : CX p m c cX8_move 6 s args RX8) (hr : meth.sig.returnType = (some .boolean)) (hlocks : meth.locks = false) : ∀  (μ : Mem) (H : Heap) (locs : List Loc) (ls : Array Slot), lv_has ls 6 [] → PW g L μ A s H locs → f_X8_move_L52 g.2  μ = some (r, μ') → W p l e rm_X8_move s m args below meth c H locs 0 0 (MQ below (QI g L A r μ') args s 0 0 A) (F0 m 52 ls []) := by
  have hx := hC.1
  have hb := hC.2.1
  intro  μ H locs ls hl hw hf
  unfold f_X8_move_L52 at hf
  refine lv_iconst (v := 0) hx hb dX8_move_52 nc_iconst_0 ?_
  obtain ⟨rfl, rfl⟩ := o_ret hf
  exact pw_zret hC hr hlocks (Or.inl rfl) hw dX8_move_53
def f_X8_move_L118 (cy : Nat → ClassId) : Nat → Nat → Int32 → Int32 → Int32 → Int32 → Mem → Option (Int32 × Mem)
  | 0, _, _, _, _, _, _ => none
  | n + 1, a0, a1, a2, a4, a5, μ => if a5 ≤ a2 then ((rdR μ a0 7 30).bind fun q102 => (wrA cy μ 1 q102 a2 a4).bind fun μ104 => if isO μ104 a0 7 = true then (ob2 (f_X8_lays cy a0 a1 μ104) fun r109 μ108 => (rdR μ108 a0 7 9).bind fun q110 => (wrA cy μ108 1 q110 a1 a2).bind fun μ112 => some (1, μ112)) else none) else (rdR μ a0 7 30).bind fun q114 => (rdR μ a0 7 30).bind fun q116 => (rdA cy μ 1 q116 (a5 - 1)).bind fun v118 => (wrA cy μ 1 q114 a5 v118).bind fun μ120 => f_X8_move_L118 cy n a0 a1 a2 a4 (a5 + (-1)) μ120
set_option maxRecDepth 100000 in
set_option maxHeartbeats 4000000 in
theorem w_X8_move_L118 {p : Program} {l : Launch} {e : Env} {s : State} {m : MethodId} {args : Array Value} {below : List Frame} {meth : Method} {c : Code} {A : Nat → Prop} {g : Wg} {L : List Nat} {r : Int32} {μ' : Mem} (hC : CX p m c cX8_move 6 s args RX8) (hr : meth.sig.returnType = (some .boolean)) (hlocks : meth.locks = false) : ∀ (n : Nat), ∀ (a0 : Nat) (a1 : Int32) (a2 : Int32) (a4 : Int32) (a5 : Int32) (μ : Mem) (H : Heap) (locs : List Loc) (ls : Array Slot), lv_has ls 6 [(0, .ref a0), (1, .int a1), (2, .int a2), (4, .int a4), (5, .int a5)] → PW g L μ A s H locs → f_X8_move_L118 g.2 n a0 a1 a2 a4 a5 μ = some (r, μ') → W p l e rm_X8_move s m args below meth c H locs 0 0 (MQ below (QI g L A r μ') args s 0 0 A) (F0 m 118 ls []) := by
  have hx := hC.1
  have hb := hC.2.1
  intro n
  induction n with
  | zero => intro a0 a1 a2 a4 a5 μ H locs ls hl hw hf; cases hf
  | succ n ih =>
    intro a0 a1 a2 a4 a5 μ H locs ls hl hw hf
    rw [f_X8_move_L118] at hf
    refine lv_iload hx hb dX8_move_118 (lv_at hl 4 rfl) ?_
    refine lv_iload_n hx hb dX8_move_120 rfl (lv_at hl 2 rfl) ?_
    refine lv_icmp_le (tgt := 146) hx hb dX8_move_121 (by decide) (fun c101 => ?_) (fun c101 => ?_)
    · have hf := o_pos c101 hf
      refine lv_aload_n hx hb dX8_move_146 rfl (lv_at hl 0 rfl) ?_
      obtain ⟨q102, h103, hf⟩ := o_bind hf
      refine pw_get hC fl_X8_80 hw (rdR_F h103) dX8_move_147 ?_
      refine lv_iload_n hx hb dX8_move_150 rfl (lv_at hl 2 rfl) ?_
      refine lv_iload hx hb dX8_move_151 (lv_at hl 3 rfl) ?_
      obtain ⟨μ104, h105, hf⟩ := o_bind hf
      refine pw_iast hC hw h105 dX8_move_153 (fun H locs hw => ?_)
      refine lv_aload_n hx hb dX8_move_154 rfl (lv_at hl 0 rfl) ?_
      refine lv_iload_n hx hb dX8_move_155 rfl (lv_at hl 1 rfl) ?_
      obtain ⟨h107, hf⟩ := o_ite hf
      obtain ⟨r109, μ108, h106, hf⟩ := o_bind2 hf
      refine pw_goI hw (pw_runV (As := [.int a1]) (rest := []) hC mm_X8_lays tw_1426 (c_X8_lays h106 _) ⟨rfl, rfl, by decide, by decide⟩ hw h107 rfl hl.1 (Nat.le_of_ble_eq_true rfl) ⟨Nat.zero_le _, Nat.zero_le _⟩ rfl dX8_move_156) (fun H locs hw => ?_)
      refine lv_istore (lv' := [(5, .int r109), (0, .ref a0), (1, .int a1), (2, .int a2), (4, .int a4)]) hx hb dX8_move_159 hl (by decide) rfl (fun ls hl => ?_)
      refine lv_aload_n hx hb dX8_move_161 rfl (lv_at hl 1 rfl) ?_
      obtain ⟨q110, h111, hf⟩ := o_bind hf
      refine pw_get hC fl_X8_37 hw (rdR_F h111) dX8_move_162 ?_
      refine lv_iload_n hx hb dX8_move_165 rfl (lv_at hl 2 rfl) ?_
      refine lv_iload_n hx hb dX8_move_166 rfl (lv_at hl 3 rfl) ?_
      obtain ⟨μ112, h113, hf⟩ := o_bind hf
      refine pw_iast hC hw h113 dX8_move_167 (fun H locs hw => ?_)
      refine lv_iconst (v := 1) hx hb dX8_move_168 nc_iconst_1 ?_
      obtain ⟨rfl, rfl⟩ := o_ret hf
      exact pw_zret hC hr hlocks (Or.inr rfl) hw dX8_move_169
    · have hf := o_neg c101 hf
      refine lv_aload_n hx hb dX8_move_124 rfl (lv_at hl 0 rfl) ?_
      obtain ⟨q114, h115, hf⟩ := o_bind hf
      refine pw_get hC fl_X8_80 hw (rdR_F h115) dX8_move_125 ?_
      refine lv_iload hx hb dX8_move_128 (lv_at hl 4 rfl) ?_
      refine lv_aload_n hx hb dX8_move_130 rfl (lv_at hl 0 rfl) ?_
      obtain ⟨q116, h117, hf⟩ := o_bind hf
      refine pw_get hC fl_X8_80 hw (rdR_F h117) dX8_move_131 ?_
      refine lv_iload hx hb dX8_move_134 (lv_at hl 4 rfl) ?_
      refine lv_iconst (v := 1) hx hb dX8_move_136 nc_iconst_1 ?_
      refine lv_isub hx hb dX8_move_137 ?_
      obtain ⟨v118, h119, hf⟩ := o_bind hf
      refine pw_iald hC hw h119 dX8_move_138 ?_
      obtain ⟨μ120, h121, hf⟩ := o_bind hf
      refine pw_iast hC hw h121 dX8_move_139 (fun H locs hw => ?_)
      refine lv_iinc (v := (a5 + (-1))) (lv' := [(5, .int (a5 + (-1))), (0, .ref a0), (1, .int a1), (2, .int a2), (4, .int a4)]) hx hb dX8_move_140 hl (k := 4) rfl (by first | rfl | decide +kernel) (by decide) rfl (fun ls hl => ?_)
      refine lv_goto (tgt := 118) hx hb dX8_move_143 (by decide) ?_
      exact ih _ _ _ _ _ _ _ _ ls (lv_sub hl [1, 2, 3, 4, 0] rfl) hw hf
def f_X8_move_L82 (cy : Nat → ClassId) : Nat → Nat → Int32 → Int32 → Int32 → Int32 → Mem → Option (Int32 × Mem)
  | 0, _, _, _, _, _, _ => none
  | n + 1, a0, a1, a2, a4, a5, μ => if a2 ≤ a5 then ((rdR μ a0 7 9).bind fun q102 => (rdA cy μ 1 q102 a1).bind fun v104 => f_X8_move_L118 cy FU a0 a1 a2 a4 v104 μ) else (rdR μ a0 7 30).bind fun q106 => (rdR μ a0 7 30).bind fun q108 => (rdA cy μ 1 q108 (a5 + 1)).bind fun v110 => (wrA cy μ 1 q106 a5 v110).bind fun μ112 => f_X8_move_L82 cy n a0 a1 a2 a4 (a5 + 1) μ112
set_option maxRecDepth 100000 in
set_option maxHeartbeats 4000000 in
theorem w_X8_move_L82 {p : Program} {l : Launch} {e : Env} {s : State} {m : MethodId} {args : Array Value} {below : List Frame} {meth : Method} {c : Code} {A : Nat → Prop} {g : Wg} {L : List Nat} {r : Int32} {μ' : Mem} (hC : CX p m c cX8_move 6 s args RX8) (hr : meth.sig.returnType = (some .boolean)) (hlocks : meth.locks = false) : ∀ (n : Nat), ∀ (a0 : Nat) (a1 : Int32) (a2 : Int32) (a4 : Int32) (a5 : Int32) (μ : Mem) (H : Heap) (locs : List Loc) (ls : Array Slot), lv_has ls 6 [(0, .ref a0), (1, .int a1), (2, .int a2), (4, .int a4), (5, .int a5)] → PW g L μ A s H locs → f_X8_move_L82 g.2 n a0 a1 a2 a4 a5 μ = some (r, μ') → W p l e rm_X8_move s m args below meth c H locs 0 0 (MQ below (QI g L A r μ') args s 0 0 A) (F0 m 82 ls []) := by
  have hx := hC.1
  have hb := hC.2.1
  intro n
  induction n with
  | zero => intro a0 a1 a2 a4 a5 μ H locs ls hl hw hf; cases hf
  | succ n ih =>
    intro a0 a1 a2 a4 a5 μ H locs ls hl hw hf
    rw [f_X8_move_L82] at hf
    refine lv_iload hx hb dX8_move_82 (lv_at hl 4 rfl) ?_
    refine lv_iload_n hx hb dX8_move_84 rfl (lv_at hl 2 rfl) ?_
    refine lv_icmp_ge (tgt := 110) hx hb dX8_move_85 (by decide) (fun c101 => ?_) (fun c101 => ?_)
    · have hf := o_pos c101 hf
      refine lv_aload_n hx hb dX8_move_110 rfl (lv_at hl 0 rfl) ?_
      obtain ⟨q102, h103, hf⟩ := o_bind hf
      refine pw_get hC fl_X8_37 hw (rdR_F h103) dX8_move_111 ?_
      refine lv_iload_n hx hb dX8_move_114 rfl (lv_at hl 1 rfl) ?_
      obtain ⟨v104, h105, hf⟩ := o_bind hf
      refine pw_iald hC hw h105 dX8_move_115 ?_
      refine lv_istore (lv' := [(5, .int v104), (0, .ref a0), (1, .int a1), (2, .int a2), (4, .int a4)]) hx hb dX8_move_116 hl (by decide) rfl (fun ls hl => ?_)
      exact w_X8_move_L118 hC hr hlocks FU _ _ _ _ _ _ _ _ ls (lv_sub hl [1, 2, 3, 4, 0] rfl) hw hf
    · have hf := o_neg c101 hf
      refine lv_aload_n hx hb dX8_move_88 rfl (lv_at hl 0 rfl) ?_
      obtain ⟨q106, h107, hf⟩ := o_bind hf
      refine pw_get hC fl_X8_80 hw (rdR_F h107) dX8_move_89 ?_
      refine lv_iload hx hb dX8_move_92 (lv_at hl 4 rfl) ?_
      refine lv_aload_n hx hb dX8_move_94 rfl (lv_at hl 0 rfl) ?_
      obtain ⟨q108, h109, hf⟩ := o_bind hf
      refine pw_get hC fl_X8_80 hw (rdR_F h109) dX8_move_95 ?_
      refine lv_iload hx hb dX8_move_98 (lv_at hl 4 rfl) ?_
      refine lv_iconst (v := 1) hx hb dX8_move_100 nc_iconst_1 ?_
      refine lv_iadd hx hb dX8_move_101 ?_
      obtain ⟨v110, h111, hf⟩ := o_bind hf
      refine pw_iald hC hw h111 dX8_move_102 ?_
      obtain ⟨μ112, h113, hf⟩ := o_bind hf
      refine pw_iast hC hw h113 dX8_move_103 (fun H locs hw => ?_)
      refine lv_iinc (v := (a5 + 1)) (lv' := [(5, .int (a5 + 1)), (0, .ref a0), (1, .int a1), (2, .int a2), (4, .int a4)]) hx hb dX8_move_104 hl (k := 4) rfl (by first | rfl | decide +kernel) (by decide) rfl (fun ls hl => ?_)
      refine lv_goto (tgt := 82) hx hb dX8_move_107 (by decide) ?_
      exact ih _ _ _ _ _ _ _ _ ls (lv_sub hl [1, 2, 3, 4, 0] rfl) hw hf
def f_X8_move_L25 (cy : Nat → ClassId) (a0 : Nat) (a1 : Int32) (a2 : Int32) (t0 : Nat) (t1 : Int32) (μ : Mem) : Option (Int32 × Mem) :=
  if isO μ t0 7 = true then (ob2 (f_X8_throwsIf cy t0 t1 2 μ) fun r104 μ103 => if r104 = 0 then (if isO μ103 a0 7 = true then (ob2 (f_X8_changes cy a0 a1 μ103) fun r109 μ108 => if a2 < 0 then (f_X8_move_L52 cy  μ108) else (rdI μ108 a0 7 31).bind fun v111 => if a2 < v111 then ((wrF μ108 a0 7 29 (.int 1300)).bind fun μ114 => (rdR μ114 a0 7 30).bind fun q116 => (rdR μ114 a0 7 9).bind fun q118 => (rdA cy μ114 1 q118 a1).bind fun v120 => (rdA cy μ114 1 q116 v120).bind fun v122 => (rdR μ114 a0 7 9).bind fun q124 => (rdA cy μ114 1 q124 a1).bind fun v126 => f_X8_move_L82 cy FU a0 a1 a2 v122 v126 μ114) else f_X8_move_L52 cy  μ108) else none) else some (0, μ103)) else none
set_option maxRecDepth 100000 in
set_option maxHeartbeats 4000000 in
theorem w_X8_move_L25 {p : Program} {l : Launch} {e : Env} {s : State} {m : MethodId} {args : Array Value} {below : List Frame} {meth : Method} {c : Code} {A : Nat → Prop} {g : Wg} {L : List Nat} {r : Int32} {μ' : Mem} (hC : CX p m c cX8_move 6 s args RX8) (hr : meth.sig.returnType = (some .boolean)) (hlocks : meth.locks = false) : ∀ (a0 : Nat) (a1 : Int32) (a2 : Int32) (t0 : Nat) (t1 : Int32) (μ : Mem) (H : Heap) (locs : List Loc) (ls : Array Slot), lv_has ls 6 [(0, .ref a0), (1, .int a1), (2, .int a2)] → PW g L μ A s H locs → f_X8_move_L25 g.2 a0 a1 a2 t0 t1 μ = some (r, μ') → W p l e rm_X8_move s m args below meth c H locs 0 0 (MQ below (QI g L A r μ') args s 0 0 A) (F0 m 25 ls [.int t1, .ref t0]) := by
  have hx := hC.1
  have hb := hC.2.1
  intro a0 a1 a2 t0 t1 μ H locs ls hl hw hf
  unfold f_X8_move_L25 at hf
  refine lv_iconst (v := 2) hx hb dX8_move_25 nc_iconst_2 ?_
  obtain ⟨h102, hf⟩ := o_ite hf
  obtain ⟨r104, μ103, h101, hf⟩ := o_bind2 hf
  refine pw_goI hw (pw_runV (As := [.int t1, .int 2]) (rest := []) hC mm_X8_throwsIf tw_1317 (c_X8_throwsIf h101 _) ⟨rfl, rfl, by decide, by decide⟩ hw h102 rfl hl.1 (Nat.le_of_ble_eq_true rfl) ⟨Nat.zero_le _, Nat.zero_le _⟩ rfl dX8_move_26) (fun H locs hw => ?_)
  refine lv_if_eq (tgt := 34) hx hb dX8_move_29 (by decide) (fun c105 => ?_) (fun c105 => ?_)
  · have hf := o_pos c105 hf
    refine lv_aload_n hx hb dX8_move_34 rfl (lv_at hl 0 rfl) ?_
    refine lv_iload_n hx hb dX8_move_35 rfl (lv_at hl 1 rfl) ?_
    obtain ⟨h107, hf⟩ := o_ite hf
    obtain ⟨r109, μ108, h106, hf⟩ := o_bind2 hf
    refine pw_goI hw (pw_runV (As := [.int a1]) (rest := []) hC mm_X8_changes tw_1414 (c_X8_changes h106 _) ⟨rfl, rfl, by decide, by decide⟩ hw h107 rfl hl.1 (Nat.le_of_ble_eq_true rfl) ⟨Nat.zero_le _, Nat.zero_le _⟩ rfl dX8_move_36) (fun H locs hw => ?_)
    refine lv_istore_n (lv' := [(3, .int r109), (0, .ref a0), (1, .int a1), (2, .int a2)]) hx hb dX8_move_39 rfl hl (by decide) rfl (fun ls hl => ?_)
    refine lv_iload_n hx hb dX8_move_40 rfl (lv_at hl 3 rfl) ?_
    refine lv_if_lt (tgt := 52) hx hb dX8_move_41 (by decide) (fun c110 => ?_) (fun c110 => ?_)
    · have hf := o_pos c110 hf
      exact w_X8_move_L52 hC hr hlocks  _ _ _ ls (lv_sub hl [] rfl) hw hf
    · have hf := o_neg c110 hf
      refine lv_iload_n hx hb dX8_move_44 rfl (lv_at hl 3 rfl) ?_
      refine lv_aload_n hx hb dX8_move_45 rfl (lv_at hl 1 rfl) ?_
      obtain ⟨v111, h112, hf⟩ := o_bind hf
      refine pw_get hC fl_X8_268 hw (rdI_F h112) dX8_move_46 ?_
      refine lv_icmp_lt (tgt := 54) hx hb dX8_move_49 (by decide) (fun c113 => ?_) (fun c113 => ?_)
      · have hf := o_pos c113 hf
        refine lv_aload_n hx hb dX8_move_54 rfl (lv_at hl 1 rfl) ?_
        refine lv_sipush (v := 1300) hx hb dX8_move_55 nc_sipush_1300 ?_
        obtain ⟨μ114, h115, hf⟩ := o_bind hf
        refine pw_put hC fl_X8_265 hw h115 .int fd_X8_29 rfl rfl dX8_move_58 (fun H locs hw => ?_)
        refine lv_aload_n hx hb dX8_move_61 rfl (lv_at hl 1 rfl) ?_
        obtain ⟨q116, h117, hf⟩ := o_bind hf
        refine pw_get hC fl_X8_80 hw (rdR_F h117) dX8_move_62 ?_
        refine lv_aload_n hx hb dX8_move_65 rfl (lv_at hl 1 rfl) ?_
        obtain ⟨q118, h119, hf⟩ := o_bind hf
        refine pw_get hC fl_X8_37 hw (rdR_F h119) dX8_move_66 ?_
        refine lv_iload_n hx hb dX8_move_69 rfl (lv_at hl 2 rfl) ?_
        obtain ⟨v120, h121, hf⟩ := o_bind hf
        refine pw_iald hC hw h121 dX8_move_70 ?_
        obtain ⟨v122, h123, hf⟩ := o_bind hf
        refine pw_iald hC hw h123 dX8_move_71 ?_
        refine lv_istore (lv' := [(4, .int v122), (3, .int r109), (0, .ref a0), (1, .int a1), (2, .int a2)]) hx hb dX8_move_72 hl (by decide) rfl (fun ls hl => ?_)
        refine lv_aload_n hx hb dX8_move_74 rfl (lv_at hl 2 rfl) ?_
        obtain ⟨q124, h125, hf⟩ := o_bind hf
        refine pw_get hC fl_X8_37 hw (rdR_F h125) dX8_move_75 ?_
        refine lv_iload_n hx hb dX8_move_78 rfl (lv_at hl 3 rfl) ?_
        obtain ⟨v126, h127, hf⟩ := o_bind hf
        refine pw_iald hC hw h127 dX8_move_79 ?_
        refine lv_istore (lv' := [(5, .int v126), (4, .int v122), (3, .int r109), (0, .ref a0), (1, .int a1), (2, .int a2)]) hx hb dX8_move_80 hl (by decide) rfl (fun ls hl => ?_)
        exact w_X8_move_L82 hC hr hlocks FU _ _ _ _ _ _ _ _ ls (lv_sub hl [3, 4, 5, 1, 0] rfl) hw hf
      · have hf := o_neg c113 hf
        exact w_X8_move_L52 hC hr hlocks  _ _ _ ls (lv_sub hl [] rfl) hw hf
  · have hf := o_neg c105 hf
    refine lv_iconst (v := 0) hx hb dX8_move_32 nc_iconst_0 ?_
    obtain ⟨rfl, rfl⟩ := o_ret hf
    exact pw_zret hC hr hlocks (Or.inl rfl) hw dX8_move_33
def f_X8_move (cy : Nat → ClassId) (a0 : Nat) (a1 : Int32) (a2 : Int32) (μ : Mem) : Option (Int32 × Mem) :=
  if isO μ a0 7 = true then (ob2 (f_X8_noShelf cy a0 a1 μ) fun r4 μ3 => if r4 = 0 then ((rdR μ3 a0 7 9).bind fun q6 => (rdA cy μ3 1 q6 a1).bind fun v8 => if 0 ≤ v8 then (f_X8_move_L25 cy a0 a1 a2 a0 0 μ3) else f_X8_move_L25 cy a0 a1 a2 a0 1 μ3) else some (0, μ3)) else none
set_option maxRecDepth 100000 in
set_option maxHeartbeats 4000000 in
theorem c_X8_move {l : Launch} {g : Wg} {L : List Nat} {μ : Mem} {a0 : Nat} {a1 : Int32} {a2 : Int32} {r : Int32} {μ' : Mem} (hf : f_X8_move g.2 a0 a1 a2 μ = some (r, μ')) : MetI l yX8_move cX8_move 6 (some .boolean) rm_X8_move g L μ [.ref a0, .int a1, .int a2] r μ' := by
  refine pw_met (Qc := fun A => QI g L A r μ') (by decide) (Nat.le_of_ble_eq_true rfl) ?_
  intro p e s m args below meth c A ls H locs hC hr hlocks hl hw
  have hx := hC.1
  have hb := hC.2.1
  have hl : lv_has ls 6 [(0, .ref a0), (1, .int a1), (2, .int a2)] := hl
  unfold f_X8_move at hf
  refine lv_aload_n hx hb dX8_move_0 rfl (lv_at hl 0 rfl) ?_
  refine lv_iload_n hx hb dX8_move_1 rfl (lv_at hl 1 rfl) ?_
  obtain ⟨h2, hf⟩ := o_ite hf
  obtain ⟨r4, μ3, h1, hf⟩ := o_bind2 hf
  refine pw_goI hw (pw_runV (As := [.int a1]) (rest := []) hC mm_X8_noShelf tw_1313 (c_X8_noShelf h1 _) ⟨rfl, rfl, by decide, by decide⟩ hw h2 rfl hl.1 (Nat.le_of_ble_eq_true rfl) ⟨Nat.zero_le _, Nat.zero_le _⟩ rfl dX8_move_2) (fun H locs hw => ?_)
  refine lv_if_eq (tgt := 10) hx hb dX8_move_5 (by decide) (fun c5 => ?_) (fun c5 => ?_)
  · have hf := o_pos c5 hf
    refine lv_aload_n hx hb dX8_move_10 rfl (lv_at hl 0 rfl) ?_
    refine lv_aload_n hx hb dX8_move_11 rfl (lv_at hl 0 rfl) ?_
    obtain ⟨q6, h7, hf⟩ := o_bind hf
    refine pw_get hC fl_X8_37 hw (rdR_F h7) dX8_move_12 ?_
    refine lv_iload_n hx hb dX8_move_15 rfl (lv_at hl 1 rfl) ?_
    obtain ⟨v8, h9, hf⟩ := o_bind hf
    refine pw_iald hC hw h9 dX8_move_16 ?_
    refine lv_if_ge (tgt := 24) hx hb dX8_move_17 (by decide) (fun c10 => ?_) (fun c10 => ?_)
    · have hf := o_pos c10 hf
      refine lv_iconst (v := 0) hx hb dX8_move_24 nc_iconst_0 ?_
      exact w_X8_move_L25 hC hr hlocks _ _ _ _ _ _ _ _ ls (lv_sub hl [0, 1, 2] rfl) hw hf
    · have hf := o_neg c10 hf
      refine lv_iconst (v := 1) hx hb dX8_move_20 nc_iconst_1 ?_
      refine lv_goto (tgt := 25) hx hb dX8_move_21 (by decide) ?_
      exact w_X8_move_L25 hC hr hlocks _ _ _ _ _ _ _ _ ls (lv_sub hl [0, 1, 2] rfl) hw hf
  · have hf := o_neg c5 hf
    refine lv_iconst (v := 0) hx hb dX8_move_8 nc_iconst_0 ?_
    obtain ⟨rfl, rfl⟩ := o_ret hf
    exact pw_zret hC hr hlocks (Or.inl rfl) hw dX8_move_9
theorem dX8_copy_0 : decode cX8_copy 0 = .ok (.aload_n 0, 1) := by decide +kernel
theorem dX8_copy_1 : decode cX8_copy 1 = .ok (.iload_n 1, 1) := by decide +kernel
theorem dX8_copy_2 : decode cX8_copy 2 = .ok (.invokevirtual 183, 3) := by decide +kernel
theorem dX8_copy_5 : decode cX8_copy 5 = .ok (.ifCond .ne 11, 3) := by decide +kernel
theorem dX8_copy_8 : decode cX8_copy 8 = .ok (.aload_n 0, 1) := by decide +kernel
theorem dX8_copy_9 : decode cX8_copy 9 = .ok (.iload_n 2, 1) := by decide +kernel
theorem dX8_copy_10 : decode cX8_copy 10 = .ok (.invokevirtual 183, 3) := by decide +kernel
theorem dX8_copy_13 : decode cX8_copy 13 = .ok (.ifCond .eq 5, 3) := by decide +kernel
theorem dX8_copy_16 : decode cX8_copy 16 = .ok (.iconst 0, 1) := by decide +kernel
theorem dX8_copy_17 : decode cX8_copy 17 = .ok (.ireturn, 1) := by decide +kernel
theorem dX8_copy_18 : decode cX8_copy 18 = .ok (.aload_n 0, 1) := by decide +kernel
theorem dX8_copy_19 : decode cX8_copy 19 = .ok (.aload_n 0, 1) := by decide +kernel
theorem dX8_copy_20 : decode cX8_copy 20 = .ok (.getfield 37, 3) := by decide +kernel
theorem dX8_copy_23 : decode cX8_copy 23 = .ok (.iload_n 1, 1) := by decide +kernel
theorem dX8_copy_24 : decode cX8_copy 24 = .ok (.iaload, 1) := by decide +kernel
theorem dX8_copy_25 : decode cX8_copy 25 = .ok (.ifCond .lt 12, 3) := by decide +kernel
theorem dX8_copy_28 : decode cX8_copy 28 = .ok (.aload_n 0, 1) := by decide +kernel
theorem dX8_copy_29 : decode cX8_copy 29 = .ok (.getfield 37, 3) := by decide +kernel
theorem dX8_copy_32 : decode cX8_copy 32 = .ok (.iload_n 2, 1) := by decide +kernel
theorem dX8_copy_33 : decode cX8_copy 33 = .ok (.iaload, 1) := by decide +kernel
theorem dX8_copy_34 : decode cX8_copy 34 = .ok (.ifCond .ge 7, 3) := by decide +kernel
theorem dX8_copy_37 : decode cX8_copy 37 = .ok (.iconst 1, 1) := by decide +kernel
theorem dX8_copy_38 : decode cX8_copy 38 = .ok (.goto 4, 3) := by decide +kernel
theorem dX8_copy_41 : decode cX8_copy 41 = .ok (.iconst 0, 1) := by decide +kernel
theorem dX8_copy_42 : decode cX8_copy 42 = .ok (.iconst 2, 1) := by decide +kernel
theorem dX8_copy_43 : decode cX8_copy 43 = .ok (.invokevirtual 186, 3) := by decide +kernel
theorem dX8_copy_46 : decode cX8_copy 46 = .ok (.ifCond .eq 5, 3) := by decide +kernel
theorem dX8_copy_49 : decode cX8_copy 49 = .ok (.iconst 0, 1) := by decide +kernel
theorem dX8_copy_50 : decode cX8_copy 50 = .ok (.ireturn, 1) := by decide +kernel
theorem dX8_copy_51 : decode cX8_copy 51 = .ok (.aload_n 0, 1) := by decide +kernel
theorem dX8_copy_52 : decode cX8_copy 52 = .ok (.getfield 71, 3) := by decide +kernel
theorem dX8_copy_55 : decode cX8_copy 55 = .ok (.aload_n 0, 1) := by decide +kernel
theorem dX8_copy_56 : decode cX8_copy 56 = .ok (.getfield 22, 3) := by decide +kernel
theorem dX8_copy_59 : decode cX8_copy 59 = .ok (.iload_n 2, 1) := by decide +kernel
theorem dX8_copy_60 : decode cX8_copy 60 = .ok (.aaload, 1) := by decide +kernel
theorem dX8_copy_61 : decode cX8_copy 61 = .ok (.invokevirtual 190, 3) := by decide +kernel
theorem dX8_copy_64 : decode cX8_copy 64 = .ok (.aload_n 0, 1) := by decide +kernel
theorem dX8_copy_65 : decode cX8_copy 65 = .ok (.getfield 71, 3) := by decide +kernel
theorem dX8_copy_68 : decode cX8_copy 68 = .ok (.aload_n 0, 1) := by decide +kernel
theorem dX8_copy_69 : decode cX8_copy 69 = .ok (.aload_n 0, 1) := by decide +kernel
theorem dX8_copy_70 : decode cX8_copy 70 = .ok (.getfield 71, 3) := by decide +kernel
theorem dX8_copy_73 : decode cX8_copy 73 = .ok (.iload_n 2, 1) := by decide +kernel
theorem dX8_copy_74 : decode cX8_copy 74 = .ok (.invokevirtual 197, 3) := by decide +kernel
theorem dX8_copy_77 : decode cX8_copy 77 = .ok (.aload_n 0, 1) := by decide +kernel
theorem dX8_copy_78 : decode cX8_copy 78 = .ok (.getfield 37, 3) := by decide +kernel
theorem dX8_copy_81 : decode cX8_copy 81 = .ok (.iload_n 2, 1) := by decide +kernel
theorem dX8_copy_82 : decode cX8_copy 82 = .ok (.iaload, 1) := by decide +kernel
theorem dX8_copy_83 : decode cX8_copy 83 = .ok (.invokevirtual 180, 3) := by decide +kernel
theorem dX8_copy_86 : decode cX8_copy 86 = .ok (.istore_n 3, 1) := by decide +kernel
theorem dX8_copy_87 : decode cX8_copy 87 = .ok (.aload_n 0, 1) := by decide +kernel
theorem dX8_copy_88 : decode cX8_copy 88 = .ok (.iload_n 1, 1) := by decide +kernel
theorem dX8_copy_89 : decode cX8_copy 89 = .ok (.invokevirtual 322, 3) := by decide +kernel
theorem dX8_copy_92 : decode cX8_copy 92 = .ok (.istore 4, 2) := by decide +kernel
theorem dX8_copy_94 : decode cX8_copy 94 = .ok (.aload_n 0, 1) := by decide +kernel
theorem dX8_copy_95 : decode cX8_copy 95 = .ok (.invokevirtual 170, 3) := by decide +kernel
theorem dX8_copy_98 : decode cX8_copy 98 = .ok (.aload_n 0, 1) := by decide +kernel
theorem dX8_copy_99 : decode cX8_copy 99 = .ok (.getfield 67, 3) := by decide +kernel
theorem dX8_copy_102 : decode cX8_copy 102 = .ok (.getfield 225, 3) := by decide +kernel
theorem dX8_copy_105 : decode cX8_copy 105 = .ok (.iload 4, 2) := by decide +kernel
theorem dX8_copy_107 : decode cX8_copy 107 = .ok (.iaload, 1) := by decide +kernel
theorem dX8_copy_108 : decode cX8_copy 108 = .ok (.aload_n 0, 1) := by decide +kernel
theorem dX8_copy_109 : decode cX8_copy 109 = .ok (.getfield 71, 3) := by decide +kernel
theorem dX8_copy_112 : decode cX8_copy 112 = .ok (.iload_n 3, 1) := by decide +kernel
theorem dX8_copy_113 : decode cX8_copy 113 = .ok (.invokevirtual 345, 3) := by decide +kernel
theorem dX8_copy_116 : decode cX8_copy 116 = .ok (.iadd, 1) := by decide +kernel
theorem dX8_copy_117 : decode cX8_copy 117 = .ok (.bipush 24, 2) := by decide +kernel
theorem dX8_copy_119 : decode cX8_copy 119 = .ok (.if_icmp .le 19, 3) := by decide +kernel
theorem dX8_copy_122 : decode cX8_copy 122 = .ok (.aload_n 0, 1) := by decide +kernel
theorem dX8_copy_123 : decode cX8_copy 123 = .ok (.bipush 8, 2) := by decide +kernel
theorem dX8_copy_125 : decode cX8_copy 125 = .ok (.iconst 0, 1) := by decide +kernel
theorem dX8_copy_126 : decode cX8_copy 126 = .ok (.invokevirtual 109, 3) := by decide +kernel
theorem dX8_copy_129 : decode cX8_copy 129 = .ok (.istore 5, 2) := by decide +kernel
theorem dX8_copy_131 : decode cX8_copy 131 = .ok (.aload_n 0, 1) := by decide +kernel
theorem dX8_copy_132 : decode cX8_copy 132 = .ok (.iconst 3, 1) := by decide +kernel
theorem dX8_copy_133 : decode cX8_copy 133 = .ok (.putfield 1, 3) := by decide +kernel
theorem dX8_copy_136 : decode cX8_copy 136 = .ok (.iconst 0, 1) := by decide +kernel
theorem dX8_copy_137 : decode cX8_copy 137 = .ok (.ireturn, 1) := by decide +kernel
theorem dX8_copy_138 : decode cX8_copy 138 = .ok (.aload_n 0, 1) := by decide +kernel
theorem dX8_copy_139 : decode cX8_copy 139 = .ok (.aload_n 0, 1) := by decide +kernel
theorem dX8_copy_140 : decode cX8_copy 140 = .ok (.getfield 80, 3) := by decide +kernel
theorem dX8_copy_143 : decode cX8_copy 143 = .ok (.aload_n 0, 1) := by decide +kernel
theorem dX8_copy_144 : decode cX8_copy 144 = .ok (.getfield 37, 3) := by decide +kernel
theorem dX8_copy_147 : decode cX8_copy 147 = .ok (.iload_n 1, 1) := by decide +kernel
theorem dX8_copy_148 : decode cX8_copy 148 = .ok (.iaload, 1) := by decide +kernel
theorem dX8_copy_149 : decode cX8_copy 149 = .ok (.iaload, 1) := by decide +kernel
theorem dX8_copy_150 : decode cX8_copy 150 = .ok (.putfield 265, 3) := by decide +kernel
theorem dX8_copy_153 : decode cX8_copy 153 = .ok (.aload_n 0, 1) := by decide +kernel
theorem dX8_copy_154 : decode cX8_copy 154 = .ok (.aload_n 0, 1) := by decide +kernel
theorem dX8_copy_155 : decode cX8_copy 155 = .ok (.getfield 71, 3) := by decide +kernel
theorem dX8_copy_158 : decode cX8_copy 158 = .ok (.getfield 228, 3) := by decide +kernel
theorem dX8_copy_161 : decode cX8_copy 161 = .ok (.iload_n 3, 1) := by decide +kernel
theorem dX8_copy_162 : decode cX8_copy 162 = .ok (.iaload, 1) := by decide +kernel
theorem dX8_copy_163 : decode cX8_copy 163 = .ok (.aload_n 0, 1) := by decide +kernel
theorem dX8_copy_164 : decode cX8_copy 164 = .ok (.getfield 71, 3) := by decide +kernel
theorem dX8_copy_167 : decode cX8_copy 167 = .ok (.getfield 213, 3) := by decide +kernel
theorem dX8_copy_170 : decode cX8_copy 170 = .ok (.aload_n 0, 1) := by decide +kernel
theorem dX8_copy_171 : decode cX8_copy 171 = .ok (.getfield 71, 3) := by decide +kernel
theorem dX8_copy_174 : decode cX8_copy 174 = .ok (.getfield 231, 3) := by decide +kernel
theorem dX8_copy_177 : decode cX8_copy 177 = .ok (.iload_n 3, 1) := by decide +kernel
theorem dX8_copy_178 : decode cX8_copy 178 = .ok (.iaload, 1) := by decide +kernel
theorem dX8_copy_179 : decode cX8_copy 179 = .ok (.aload_n 0, 1) := by decide +kernel
theorem dX8_copy_180 : decode cX8_copy 180 = .ok (.getfield 71, 3) := by decide +kernel
theorem dX8_copy_183 : decode cX8_copy 183 = .ok (.getfield 234, 3) := by decide +kernel
theorem dX8_copy_186 : decode cX8_copy 186 = .ok (.iload_n 3, 1) := by decide +kernel
theorem dX8_copy_187 : decode cX8_copy 187 = .ok (.iaload, 1) := by decide +kernel
theorem dX8_copy_188 : decode cX8_copy 188 = .ok (.invokevirtual 328, 3) := by decide +kernel
theorem dX8_copy_191 : decode cX8_copy 191 = .ok (.aload_n 0, 1) := by decide +kernel
theorem dX8_copy_192 : decode cX8_copy 192 = .ok (.aload_n 0, 1) := by decide +kernel
theorem dX8_copy_193 : decode cX8_copy 193 = .ok (.iload_n 1, 1) := by decide +kernel
theorem dX8_copy_194 : decode cX8_copy 194 = .ok (.invokevirtual 332, 3) := by decide +kernel
theorem dX8_copy_197 : decode cX8_copy 197 = .ok (.ifCond .ne 7, 3) := by decide +kernel
theorem dX8_copy_200 : decode cX8_copy 200 = .ok (.iconst 1, 1) := by decide +kernel
theorem dX8_copy_201 : decode cX8_copy 201 = .ok (.goto 4, 3) := by decide +kernel
theorem dX8_copy_204 : decode cX8_copy 204 = .ok (.iconst 0, 1) := by decide +kernel
theorem dX8_copy_205 : decode cX8_copy 205 = .ok (.iconst 4, 1) := by decide +kernel
theorem dX8_copy_206 : decode cX8_copy 206 = .ok (.invokevirtual 186, 3) := by decide +kernel
theorem dX8_copy_209 : decode cX8_copy 209 = .ok (.ifCond .eq 5, 3) := by decide +kernel
theorem dX8_copy_212 : decode cX8_copy 212 = .ok (.iconst 0, 1) := by decide +kernel
theorem dX8_copy_213 : decode cX8_copy 213 = .ok (.ireturn, 1) := by decide +kernel
theorem dX8_copy_214 : decode cX8_copy 214 = .ok (.aload_n 0, 1) := by decide +kernel
theorem dX8_copy_215 : decode cX8_copy 215 = .ok (.getfield 25, 3) := by decide +kernel
theorem dX8_copy_218 : decode cX8_copy 218 = .ok (.iload_n 1, 1) := by decide +kernel
theorem dX8_copy_219 : decode cX8_copy 219 = .ok (.iaload, 1) := by decide +kernel
theorem dX8_copy_220 : decode cX8_copy 220 = .ok (.ireturn, 1) := by decide +kernel
abbrev rm_X8_copy : Room := { frames := 125, cells := 0, slots := 0, locals := 3113 }
def f_X8_copy_L16 (cy : Nat → ClassId)  (μ : Mem) : Option (Int32 × Mem) :=
  some (0, μ)
set_option maxRecDepth 100000 in
set_option maxHeartbeats 4000000 in
theorem w_X8_copy_L16 {p : Program} {l : Launch} {e : Env} {s : State} {m : MethodId} {args : Array Value} {below : List Frame} {meth : Method} {c : Code} {A : Nat → Prop} {g : Wg} {L : List Nat} {r : Int32} {μ' : Mem} (hC : CX p m c cX8_copy 6 s args RX8) (hr : meth.sig.returnType = (some .int)) (hlocks : meth.locks = false) : ∀  (μ : Mem) (H : Heap) (locs : List Loc) (ls : Array Slot), lv_has ls 6 [] → PW g L μ A s H locs → f_X8_copy_L16 g.2  μ = some (r, μ') → W p l e rm_X8_copy s m args below meth c H locs 0 0 (MQ below (QI g L A r μ') args s 0 0 A) (F0 m 16 ls []) := by
  have hx := hC.1
  have hb := hC.2.1
  intro  μ H locs ls hl hw hf
  unfold f_X8_copy_L16 at hf
  refine lv_iconst (v := 0) hx hb dX8_copy_16 nc_iconst_0 ?_
  obtain ⟨rfl, rfl⟩ := o_ret hf
  exact pw_iret hC hr hlocks hw dX8_copy_17
def f_X8_copy_L205 (cy : Nat → ClassId) (a0 : Nat) (a1 : Int32) (t0 : Nat) (t1 : Int32) (μ : Mem) : Option (Int32 × Mem) :=
  if isO μ t0 7 = true then (ob2 (f_X8_throwsIf cy t0 t1 4 μ) fun r104 μ103 => if r104 = 0 then ((rdR μ103 a0 7 6).bind fun q106 => (rdA cy μ103 1 q106 a1).bind fun v108 => some (v108, μ103)) else some (0, μ103)) else none
set_option maxRecDepth 100000 in
set_option maxHeartbeats 4000000 in
theorem w_X8_copy_L205 {p : Program} {l : Launch} {e : Env} {s : State} {m : MethodId} {args : Array Value} {below : List Frame} {meth : Method} {c : Code} {A : Nat → Prop} {g : Wg} {L : List Nat} {r : Int32} {μ' : Mem} (hC : CX p m c cX8_copy 6 s args RX8) (hr : meth.sig.returnType = (some .int)) (hlocks : meth.locks = false) : ∀ (a0 : Nat) (a1 : Int32) (t0 : Nat) (t1 : Int32) (μ : Mem) (H : Heap) (locs : List Loc) (ls : Array Slot), lv_has ls 6 [(0, .ref a0), (1, .int a1)] → PW g L μ A s H locs → f_X8_copy_L205 g.2 a0 a1 t0 t1 μ = some (r, μ') → W p l e rm_X8_copy s m args below meth c H locs 0 0 (MQ below (QI g L A r μ') args s 0 0 A) (F0 m 205 ls [.int t1, .ref t0]) := by
  have hx := hC.1
  have hb := hC.2.1
  intro a0 a1 t0 t1 μ H locs ls hl hw hf
  unfold f_X8_copy_L205 at hf
  refine lv_iconst (v := 4) hx hb dX8_copy_205 nc_iconst_4 ?_
  obtain ⟨h102, hf⟩ := o_ite hf
  obtain ⟨r104, μ103, h101, hf⟩ := o_bind2 hf
  refine pw_goI hw (pw_runV (As := [.int t1, .int 4]) (rest := []) hC mm_X8_throwsIf tw_1317 (c_X8_throwsIf h101 _) ⟨rfl, rfl, by decide, by decide⟩ hw h102 rfl hl.1 (Nat.le_of_ble_eq_true rfl) ⟨Nat.zero_le _, Nat.zero_le _⟩ rfl dX8_copy_206) (fun H locs hw => ?_)
  refine lv_if_eq (tgt := 214) hx hb dX8_copy_209 (by decide) (fun c105 => ?_) (fun c105 => ?_)
  · have hf := o_pos c105 hf
    refine lv_aload_n hx hb dX8_copy_214 rfl (lv_at hl 0 rfl) ?_
    obtain ⟨q106, h107, hf⟩ := o_bind hf
    refine pw_get hC fl_X8_25 hw (rdR_F h107) dX8_copy_215 ?_
    refine lv_iload_n hx hb dX8_copy_218 rfl (lv_at hl 1 rfl) ?_
    obtain ⟨v108, h109, hf⟩ := o_bind hf
    refine pw_iald hC hw h109 dX8_copy_219 ?_
    obtain ⟨rfl, rfl⟩ := o_ret hf
    exact pw_iret hC hr hlocks hw dX8_copy_220
  · have hf := o_neg c105 hf
    refine lv_iconst (v := 0) hx hb dX8_copy_212 nc_iconst_0 ?_
    obtain ⟨rfl, rfl⟩ := o_ret hf
    exact pw_iret hC hr hlocks hw dX8_copy_213
def f_X8_copy_L42 (cy : Nat → ClassId) (a0 : Nat) (a1 : Int32) (a2 : Int32) (t0 : Nat) (t1 : Int32) (μ : Mem) : Option (Int32 × Mem) :=
  if isO μ t0 7 = true then (ob2 (f_X8_throwsIf cy t0 t1 2 μ) fun r104 μ103 => if r104 = 0 then ((rdR μ103 a0 7 22).bind fun q106 => (rdR μ103 a0 7 5).bind fun q108 => (rdQ cy μ103 5 q108 a2).bind fun q110 => if isO μ103 q106 6 = true then ((f_X7_read cy q106 q110 μ103).bind fun μ114 => (rdR μ114 a0 7 22).bind fun q115 => (rdR μ114 a0 7 22).bind fun q117 => if isO μ114 a0 7 = true then (ob2 (f_X8_stands cy a0 q117 a2 μ114) fun r122 μ121 => (rdR μ121 a0 7 9).bind fun q123 => (rdA cy μ121 1 q123 a2).bind fun v125 => if isO μ121 q115 6 = true then (ob2 (f_X7_child cy q115 r122 v125 μ121) fun r130 μ129 => if isO μ129 a0 7 = true then (ob2 (f_X8_changes cy a0 a1 μ129) fun r134 μ133 => if isO μ133 a0 7 = true then ((f_X8_judges cy a0 μ133).bind fun μ137 => (rdR μ137 a0 7 21).bind fun q138 => (rdR μ137 q138 6 12).bind fun q140 => (rdA cy μ137 1 q140 r134).bind fun v142 => (rdR μ137 a0 7 22).bind fun q144 => if isO μ137 q144 6 = true then (ob2 (f_X7_below cy DP q144 r130 μ137) fun r149 μ148 => if (v142 + r149) ≤ 24 then ((rdR μ148 a0 7 30).bind fun q151 => (rdR μ148 a0 7 9).bind fun q153 => (rdA cy μ148 1 q153 a1).bind fun v155 => (rdA cy μ148 1 q151 v155).bind fun v157 => (wrF μ148 a0 7 29 (.int v157)).bind fun μ159 => (rdR μ159 a0 7 22).bind fun q161 => (rdR μ159 q161 6 2).bind fun q163 => (rdA cy μ159 1 q163 r130).bind fun v165 => (rdR μ159 a0 7 22).bind fun q167 => (rdR μ159 q167 6 0).bind fun q169 => (rdR μ159 a0 7 22).bind fun q171 => (rdR μ159 q171 6 8).bind fun q173 => (rdA cy μ159 1 q173 r130).bind fun v175 => (rdR μ159 a0 7 22).bind fun q177 => (rdR μ159 q177 6 9).bind fun q179 => (rdA cy μ159 1 q179 r130).bind fun v181 => if isO μ159 a0 7 = true then ((f_X8_valueIs cy a0 v165 q169 v175 v181 μ159).bind fun μ185 => if isO μ185 a0 7 = true then (ob2 (f_X8_lays cy a0 a1 μ185) fun r189 μ188 => if r189 = 0 then (f_X8_copy_L205 cy a0 a1 a0 1 μ188) else f_X8_copy_L205 cy a0 a1 a0 0 μ188) else none) else none) else if isO μ148 a0 7 = true then (ob2 (f_X8_wrong cy a0 8 0 μ148) fun r194 μ193 => (wrF μ193 a0 7 0 (.int 3)).bind fun μ195 => some (0, μ195)) else none) else none) else none) else none) else none) else none) else none) else some (0, μ103)) else none
set_option maxRecDepth 100000 in
set_option maxHeartbeats 4000000 in
theorem w_X8_copy_L42 {p : Program} {l : Launch} {e : Env} {s : State} {m : MethodId} {args : Array Value} {below : List Frame} {meth : Method} {c : Code} {A : Nat → Prop} {g : Wg} {L : List Nat} {r : Int32} {μ' : Mem} (hC : CX p m c cX8_copy 6 s args RX8) (hr : meth.sig.returnType = (some .int)) (hlocks : meth.locks = false) : ∀ (a0 : Nat) (a1 : Int32) (a2 : Int32) (t0 : Nat) (t1 : Int32) (μ : Mem) (H : Heap) (locs : List Loc) (ls : Array Slot), lv_has ls 6 [(0, .ref a0), (1, .int a1), (2, .int a2)] → PW g L μ A s H locs → f_X8_copy_L42 g.2 a0 a1 a2 t0 t1 μ = some (r, μ') → W p l e rm_X8_copy s m args below meth c H locs 0 0 (MQ below (QI g L A r μ') args s 0 0 A) (F0 m 42 ls [.int t1, .ref t0]) := by
  have hx := hC.1
  have hb := hC.2.1
  intro a0 a1 a2 t0 t1 μ H locs ls hl hw hf
  unfold f_X8_copy_L42 at hf
  refine lv_iconst (v := 2) hx hb dX8_copy_42 nc_iconst_2 ?_
  obtain ⟨h102, hf⟩ := o_ite hf
  obtain ⟨r104, μ103, h101, hf⟩ := o_bind2 hf
  refine pw_goI hw (pw_runV (As := [.int t1, .int 2]) (rest := []) hC mm_X8_throwsIf tw_1317 (c_X8_throwsIf h101 _) ⟨rfl, rfl, by decide, by decide⟩ hw h102 rfl hl.1 (Nat.le_of_ble_eq_true rfl) ⟨Nat.zero_le _, Nat.zero_le _⟩ rfl dX8_copy_43) (fun H locs hw => ?_)
  refine lv_if_eq (tgt := 51) hx hb dX8_copy_46 (by decide) (fun c105 => ?_) (fun c105 => ?_)
  · have hf := o_pos c105 hf
    refine lv_aload_n hx hb dX8_copy_51 rfl (lv_at hl 0 rfl) ?_
    obtain ⟨q106, h107, hf⟩ := o_bind hf
    refine pw_get hC fl_X8_71 hw (rdR_F h107) dX8_copy_52 ?_
    refine lv_aload_n hx hb dX8_copy_55 rfl (lv_at hl 0 rfl) ?_
    obtain ⟨q108, h109, hf⟩ := o_bind hf
    refine pw_get hC fl_X8_22 hw (rdR_F h109) dX8_copy_56 ?_
    refine lv_iload_n hx hb dX8_copy_59 rfl (lv_at hl 2 rfl) ?_
    obtain ⟨q110, h111, hf⟩ := o_bind hf
    refine pw_aald hC hw 5 rfl rfl h111 dX8_copy_60 ?_
    obtain ⟨h113, hf⟩ := o_ite hf
    obtain ⟨μ114, h112, hf⟩ := o_bind hf
    refine pw_goV hw (pw_runV (As := [.ref q110]) (rest := []) hC mm_X7_read tw_1325 (c_X7_read h112 _) ⟨rfl, rfl, by decide, by decide⟩ hw h113 rfl hl.1 (Nat.le_of_ble_eq_true rfl) ⟨Nat.zero_le _, Nat.zero_le _⟩ rfl dX8_copy_61) (fun H locs hw => ?_)
    refine lv_aload_n hx hb dX8_copy_64 rfl (lv_at hl 0 rfl) ?_
    obtain ⟨q115, h116, hf⟩ := o_bind hf
    refine pw_get hC fl_X8_71 hw (rdR_F h116) dX8_copy_65 ?_
    refine lv_aload_n hx hb dX8_copy_68 rfl (lv_at hl 0 rfl) ?_
    refine lv_aload_n hx hb dX8_copy_69 rfl (lv_at hl 0 rfl) ?_
    obtain ⟨q117, h118, hf⟩ := o_bind hf
    refine pw_get hC fl_X8_71 hw (rdR_F h118) dX8_copy_70 ?_
    refine lv_iload_n hx hb dX8_copy_73 rfl (lv_at hl 2 rfl) ?_
    obtain ⟨h120, hf⟩ := o_ite hf
    obtain ⟨r122, μ121, h119, hf⟩ := o_bind2 hf
    refine pw_goI hw (pw_runV (As := [.ref q117, .int a2]) (rest := [.ref q115]) hC mm_X8_stands tw_1342 (c_X8_stands h119 _) ⟨rfl, rfl, by decide, by decide⟩ hw h120 rfl hl.1 (Nat.le_of_ble_eq_true rfl) ⟨Nat.zero_le _, Nat.zero_le _⟩ rfl dX8_copy_74) (fun H locs hw => ?_)
    refine lv_aload_n hx hb dX8_copy_77 rfl (lv_at hl 0 rfl) ?_
    obtain ⟨q123, h124, hf⟩ := o_bind hf
    refine pw_get hC fl_X8_37 hw (rdR_F h124) dX8_copy_78 ?_
    refine lv_iload_n hx hb dX8_copy_81 rfl (lv_at hl 2 rfl) ?_
    obtain ⟨v125, h126, hf⟩ := o_bind hf
    refine pw_iald hC hw h126 dX8_copy_82 ?_
    obtain ⟨h128, hf⟩ := o_ite hf
    obtain ⟨r130, μ129, h127, hf⟩ := o_bind2 hf
    refine pw_goI hw (pw_runV (As := [.int r122, .int v125]) (rest := []) hC mm_X7_child tw_1346 (c_X7_child h127 _) ⟨rfl, rfl, by decide, by decide⟩ hw h128 rfl hl.1 (Nat.le_of_ble_eq_true rfl) ⟨Nat.zero_le _, Nat.zero_le _⟩ rfl dX8_copy_83) (fun H locs hw => ?_)
    refine lv_istore_n (lv' := [(3, .int r130), (0, .ref a0), (1, .int a1), (2, .int a2)]) hx hb dX8_copy_86 rfl hl (by decide) rfl (fun ls hl => ?_)
    refine lv_aload_n hx hb dX8_copy_87 rfl (lv_at hl 1 rfl) ?_
    refine lv_iload_n hx hb dX8_copy_88 rfl (lv_at hl 2 rfl) ?_
    obtain ⟨h132, hf⟩ := o_ite hf
    obtain ⟨r134, μ133, h131, hf⟩ := o_bind2 hf
    refine pw_goI hw (pw_runV (As := [.int a1]) (rest := []) hC mm_X8_changes tw_1414 (c_X8_changes h131 _) ⟨rfl, rfl, by decide, by decide⟩ hw h132 rfl hl.1 (Nat.le_of_ble_eq_true rfl) ⟨Nat.zero_le _, Nat.zero_le _⟩ rfl dX8_copy_89) (fun H locs hw => ?_)
    refine lv_istore (lv' := [(4, .int r134), (3, .int r130), (0, .ref a0), (1, .int a1), (2, .int a2)]) hx hb dX8_copy_92 hl (by decide) rfl (fun ls hl => ?_)
    refine lv_aload_n hx hb dX8_copy_94 rfl (lv_at hl 2 rfl) ?_
    obtain ⟨h136, hf⟩ := o_ite hf
    obtain ⟨μ137, h135, hf⟩ := o_bind hf
    refine pw_goV hw (pw_runV (As := []) (rest := []) hC mm_X8_judges tw_1229 (c_X8_judges h135 _) ⟨rfl, rfl, by decide, by decide⟩ hw h136 rfl hl.1 (Nat.le_of_ble_eq_true rfl) ⟨Nat.zero_le _, Nat.zero_le _⟩ rfl dX8_copy_95) (fun H locs hw => ?_)
    refine lv_aload_n hx hb dX8_copy_98 rfl (lv_at hl 2 rfl) ?_
    obtain ⟨q138, h139, hf⟩ := o_bind hf
    refine pw_get hC fl_X8_67 hw (rdR_F h139) dX8_copy_99 ?_
    obtain ⟨q140, h141, hf⟩ := o_bind hf
    refine pw_get hC fl_X8_225 hw (rdR_F h141) dX8_copy_102 ?_
    refine lv_iload hx hb dX8_copy_105 (lv_at hl 0 rfl) ?_
    obtain ⟨v142, h143, hf⟩ := o_bind hf
    refine pw_iald hC hw h143 dX8_copy_107 ?_
    refine lv_aload_n hx hb dX8_copy_108 rfl (lv_at hl 2 rfl) ?_
    obtain ⟨q144, h145, hf⟩ := o_bind hf
    refine pw_get hC fl_X8_71 hw (rdR_F h145) dX8_copy_109 ?_
    refine lv_iload_n hx hb dX8_copy_112 rfl (lv_at hl 1 rfl) ?_
    obtain ⟨h147, hf⟩ := o_ite hf
    obtain ⟨r149, μ148, h146, hf⟩ := o_bind2 hf
    refine pw_goI hw (pw_runV (As := [.int r130]) (rest := [.int v142]) hC mm_X7_below tw_1486 (c_X7_below (d := DP) h146 _) ⟨rfl, rfl, by decide, by decide⟩ hw h147 rfl hl.1 (Nat.le_of_ble_eq_true rfl) ⟨Nat.zero_le _, Nat.zero_le _⟩ rfl dX8_copy_113) (fun H locs hw => ?_)
    refine lv_iadd hx hb dX8_copy_116 ?_
    refine lv_bipush (v := 24) hx hb dX8_copy_117 nc_bipush_24 ?_
    refine lv_icmp_le (tgt := 138) hx hb dX8_copy_119 (by decide) (fun c150 => ?_) (fun c150 => ?_)
    · have hf := o_pos c150 hf
      refine lv_aload_n hx hb dX8_copy_138 rfl (lv_at hl 2 rfl) ?_
      refine lv_aload_n hx hb dX8_copy_139 rfl (lv_at hl 2 rfl) ?_
      obtain ⟨q151, h152, hf⟩ := o_bind hf
      refine pw_get hC fl_X8_80 hw (rdR_F h152) dX8_copy_140 ?_
      refine lv_aload_n hx hb dX8_copy_143 rfl (lv_at hl 2 rfl) ?_
      obtain ⟨q153, h154, hf⟩ := o_bind hf
      refine pw_get hC fl_X8_37 hw (rdR_F h154) dX8_copy_144 ?_
      refine lv_iload_n hx hb dX8_copy_147 rfl (lv_at hl 3 rfl) ?_
      obtain ⟨v155, h156, hf⟩ := o_bind hf
      refine pw_iald hC hw h156 dX8_copy_148 ?_
      obtain ⟨v157, h158, hf⟩ := o_bind hf
      refine pw_iald hC hw h158 dX8_copy_149 ?_
      obtain ⟨μ159, h160, hf⟩ := o_bind hf
      refine pw_put hC fl_X8_265 hw h160 .int fd_X8_29 rfl rfl dX8_copy_150 (fun H locs hw => ?_)
      refine lv_aload_n hx hb dX8_copy_153 rfl (lv_at hl 2 rfl) ?_
      refine lv_aload_n hx hb dX8_copy_154 rfl (lv_at hl 2 rfl) ?_
      obtain ⟨q161, h162, hf⟩ := o_bind hf
      refine pw_get hC fl_X8_71 hw (rdR_F h162) dX8_copy_155 ?_
      obtain ⟨q163, h164, hf⟩ := o_bind hf
      refine pw_get hC fl_X8_228 hw (rdR_F h164) dX8_copy_158 ?_
      refine lv_iload_n hx hb dX8_copy_161 rfl (lv_at hl 1 rfl) ?_
      obtain ⟨v165, h166, hf⟩ := o_bind hf
      refine pw_iald hC hw h166 dX8_copy_162 ?_
      refine lv_aload_n hx hb dX8_copy_163 rfl (lv_at hl 2 rfl) ?_
      obtain ⟨q167, h168, hf⟩ := o_bind hf
      refine pw_get hC fl_X8_71 hw (rdR_F h168) dX8_copy_164 ?_
      obtain ⟨q169, h170, hf⟩ := o_bind hf
      refine pw_get hC fl_X8_213 hw (rdR_F h170) dX8_copy_167 ?_
      refine lv_aload_n hx hb dX8_copy_170 rfl (lv_at hl 2 rfl) ?_
      obtain ⟨q171, h172, hf⟩ := o_bind hf
      refine pw_get hC fl_X8_71 hw (rdR_F h172) dX8_copy_171 ?_
      obtain ⟨q173, h174, hf⟩ := o_bind hf
      refine pw_get hC fl_X8_231 hw (rdR_F h174) dX8_copy_174 ?_
      refine lv_iload_n hx hb dX8_copy_177 rfl (lv_at hl 1 rfl) ?_
      obtain ⟨v175, h176, hf⟩ := o_bind hf
      refine pw_iald hC hw h176 dX8_copy_178 ?_
      refine lv_aload_n hx hb dX8_copy_179 rfl (lv_at hl 2 rfl) ?_
      obtain ⟨q177, h178, hf⟩ := o_bind hf
      refine pw_get hC fl_X8_71 hw (rdR_F h178) dX8_copy_180 ?_
      obtain ⟨q179, h180, hf⟩ := o_bind hf
      refine pw_get hC fl_X8_234 hw (rdR_F h180) dX8_copy_183 ?_
      refine lv_iload_n hx hb dX8_copy_186 rfl (lv_at hl 1 rfl) ?_
      obtain ⟨v181, h182, hf⟩ := o_bind hf
      refine pw_iald hC hw h182 dX8_copy_187 ?_
      obtain ⟨h184, hf⟩ := o_ite hf
      obtain ⟨μ185, h183, hf⟩ := o_bind hf
      refine pw_goV hw (pw_runV (As := [.int v165, .ref q169, .int v175, .int v181]) (rest := []) hC mm_X8_valueIs tw_1422 (c_X8_valueIs h183 _) ⟨rfl, rfl, by decide, by decide⟩ hw h184 rfl hl.1 (Nat.le_of_ble_eq_true rfl) ⟨Nat.zero_le _, Nat.zero_le _⟩ rfl dX8_copy_188) (fun H locs hw => ?_)
      refine lv_aload_n hx hb dX8_copy_191 rfl (lv_at hl 2 rfl) ?_
      refine lv_aload_n hx hb dX8_copy_192 rfl (lv_at hl 2 rfl) ?_
      refine lv_iload_n hx hb dX8_copy_193 rfl (lv_at hl 3 rfl) ?_
      obtain ⟨h187, hf⟩ := o_ite hf
      obtain ⟨r189, μ188, h186, hf⟩ := o_bind2 hf
      refine pw_goI hw (pw_runV (As := [.int a1]) (rest := [.ref a0]) hC mm_X8_lays tw_1426 (c_X8_lays h186 _) ⟨rfl, rfl, by decide, by decide⟩ hw h187 rfl hl.1 (Nat.le_of_ble_eq_true rfl) ⟨Nat.zero_le _, Nat.zero_le _⟩ rfl dX8_copy_194) (fun H locs hw => ?_)
      refine lv_if_ne (tgt := 204) hx hb dX8_copy_197 (by decide) (fun c190 => ?_) (fun c190 => ?_)
      · have hf := o_neg c190 hf
        refine lv_iconst (v := 0) hx hb dX8_copy_204 nc_iconst_0 ?_
        exact w_X8_copy_L205 hC hr hlocks _ _ _ _ _ _ _ ls (lv_sub hl [2, 3] rfl) hw hf
      · have hf := o_pos c190 hf
        refine lv_iconst (v := 1) hx hb dX8_copy_200 nc_iconst_1 ?_
        refine lv_goto (tgt := 205) hx hb dX8_copy_201 (by decide) ?_
        exact w_X8_copy_L205 hC hr hlocks _ _ _ _ _ _ _ ls (lv_sub hl [2, 3] rfl) hw hf
    · have hf := o_neg c150 hf
      refine lv_aload_n hx hb dX8_copy_122 rfl (lv_at hl 2 rfl) ?_
      refine lv_bipush (v := 8) hx hb dX8_copy_123 nc_bipush_8 ?_
      refine lv_iconst (v := 0) hx hb dX8_copy_125 nc_iconst_0 ?_
      obtain ⟨h192, hf⟩ := o_ite hf
      obtain ⟨r194, μ193, h191, hf⟩ := o_bind2 hf
      refine pw_goI hw (pw_runV (As := [.int 8, .int 0]) (rest := []) hC mm_X8_wrong tw_1237 (c_X8_wrong h191 _) ⟨rfl, rfl, by decide, by decide⟩ hw h192 rfl hl.1 (Nat.le_of_ble_eq_true rfl) ⟨Nat.zero_le _, Nat.zero_le _⟩ rfl dX8_copy_126) (fun H locs hw => ?_)
      refine lv_istore (lv' := [(5, .int r194), (4, .int r134), (3, .int r130), (0, .ref a0), (1, .int a1), (2, .int a2)]) hx hb dX8_copy_129 hl (by decide) rfl (fun ls hl => ?_)
      refine lv_aload_n hx hb dX8_copy_131 rfl (lv_at hl 3 rfl) ?_
      refine lv_iconst (v := 3) hx hb dX8_copy_132 nc_iconst_3 ?_
      obtain ⟨μ195, h196, hf⟩ := o_bind hf
      refine pw_put hC fl_X8_1 hw h196 .int fd_X8_0 rfl rfl dX8_copy_133 (fun H locs hw => ?_)
      refine lv_iconst (v := 0) hx hb dX8_copy_136 nc_iconst_0 ?_
      obtain ⟨rfl, rfl⟩ := o_ret hf
      exact pw_iret hC hr hlocks hw dX8_copy_137
  · have hf := o_neg c105 hf
    refine lv_iconst (v := 0) hx hb dX8_copy_49 nc_iconst_0 ?_
    obtain ⟨rfl, rfl⟩ := o_ret hf
    exact pw_iret hC hr hlocks hw dX8_copy_50
def f_X8_copy_L37 (cy : Nat → ClassId) (a0 : Nat) (a1 : Int32) (a2 : Int32) (t0 : Nat) (μ : Mem) : Option (Int32 × Mem) :=
  f_X8_copy_L42 cy a0 a1 a2 t0 1 μ
set_option maxRecDepth 100000 in
set_option maxHeartbeats 4000000 in
theorem w_X8_copy_L37 {p : Program} {l : Launch} {e : Env} {s : State} {m : MethodId} {args : Array Value} {below : List Frame} {meth : Method} {c : Code} {A : Nat → Prop} {g : Wg} {L : List Nat} {r : Int32} {μ' : Mem} (hC : CX p m c cX8_copy 6 s args RX8) (hr : meth.sig.returnType = (some .int)) (hlocks : meth.locks = false) : ∀ (a0 : Nat) (a1 : Int32) (a2 : Int32) (t0 : Nat) (μ : Mem) (H : Heap) (locs : List Loc) (ls : Array Slot), lv_has ls 6 [(0, .ref a0), (1, .int a1), (2, .int a2)] → PW g L μ A s H locs → f_X8_copy_L37 g.2 a0 a1 a2 t0 μ = some (r, μ') → W p l e rm_X8_copy s m args below meth c H locs 0 0 (MQ below (QI g L A r μ') args s 0 0 A) (F0 m 37 ls [.ref t0]) := by
  have hx := hC.1
  have hb := hC.2.1
  intro a0 a1 a2 t0 μ H locs ls hl hw hf
  unfold f_X8_copy_L37 at hf
  refine lv_iconst (v := 1) hx hb dX8_copy_37 nc_iconst_1 ?_
  refine lv_goto (tgt := 42) hx hb dX8_copy_38 (by decide) ?_
  exact w_X8_copy_L42 hC hr hlocks _ _ _ _ _ _ _ _ ls (lv_sub hl [0, 1, 2] rfl) hw hf
def f_X8_copy (cy : Nat → ClassId) (a0 : Nat) (a1 : Int32) (a2 : Int32) (μ : Mem) : Option (Int32 × Mem) :=
  if isO μ a0 7 = true then (ob2 (f_X8_noShelf cy a0 a1 μ) fun r4 μ3 => if r4 = 0 then (if isO μ3 a0 7 = true then (ob2 (f_X8_noShelf cy a0 a2 μ3) fun r9 μ8 => if r9 = 0 then ((rdR μ8 a0 7 9).bind fun q11 => (rdA cy μ8 1 q11 a1).bind fun v13 => if v13 < 0 then (f_X8_copy_L37 cy a0 a1 a2 a0 μ8) else (rdR μ8 a0 7 9).bind fun q16 => (rdA cy μ8 1 q16 a2).bind fun v18 => if 0 ≤ v18 then (f_X8_copy_L42 cy a0 a1 a2 a0 0 μ8) else f_X8_copy_L37 cy a0 a1 a2 a0 μ8) else f_X8_copy_L16 cy  μ8) else none) else f_X8_copy_L16 cy  μ3) else none
set_option maxRecDepth 100000 in
set_option maxHeartbeats 4000000 in
theorem c_X8_copy {l : Launch} {g : Wg} {L : List Nat} {μ : Mem} {a0 : Nat} {a1 : Int32} {a2 : Int32} {r : Int32} {μ' : Mem} (hf : f_X8_copy g.2 a0 a1 a2 μ = some (r, μ')) : MetI l yX8_copy cX8_copy 6 (some .int) rm_X8_copy g L μ [.ref a0, .int a1, .int a2] r μ' := by
  refine pw_met (Qc := fun A => QI g L A r μ') (by decide) (Nat.le_of_ble_eq_true rfl) ?_
  intro p e s m args below meth c A ls H locs hC hr hlocks hl hw
  have hx := hC.1
  have hb := hC.2.1
  have hl : lv_has ls 6 [(0, .ref a0), (1, .int a1), (2, .int a2)] := hl
  unfold f_X8_copy at hf
  refine lv_aload_n hx hb dX8_copy_0 rfl (lv_at hl 0 rfl) ?_
  refine lv_iload_n hx hb dX8_copy_1 rfl (lv_at hl 1 rfl) ?_
  obtain ⟨h2, hf⟩ := o_ite hf
  obtain ⟨r4, μ3, h1, hf⟩ := o_bind2 hf
  refine pw_goI hw (pw_runV (As := [.int a1]) (rest := []) hC mm_X8_noShelf tw_1313 (c_X8_noShelf h1 _) ⟨rfl, rfl, by decide, by decide⟩ hw h2 rfl hl.1 (Nat.le_of_ble_eq_true rfl) ⟨Nat.zero_le _, Nat.zero_le _⟩ rfl dX8_copy_2) (fun H locs hw => ?_)
  refine lv_if_ne (tgt := 16) hx hb dX8_copy_5 (by decide) (fun c5 => ?_) (fun c5 => ?_)
  · have hf := o_neg c5 hf
    exact w_X8_copy_L16 hC hr hlocks  _ _ _ ls (lv_sub hl [] rfl) hw hf
  · have hf := o_pos c5 hf
    refine lv_aload_n hx hb dX8_copy_8 rfl (lv_at hl 0 rfl) ?_
    refine lv_iload_n hx hb dX8_copy_9 rfl (lv_at hl 2 rfl) ?_
    obtain ⟨h7, hf⟩ := o_ite hf
    obtain ⟨r9, μ8, h6, hf⟩ := o_bind2 hf
    refine pw_goI hw (pw_runV (As := [.int a2]) (rest := []) hC mm_X8_noShelf tw_1313 (c_X8_noShelf h6 _) ⟨rfl, rfl, by decide, by decide⟩ hw h7 rfl hl.1 (Nat.le_of_ble_eq_true rfl) ⟨Nat.zero_le _, Nat.zero_le _⟩ rfl dX8_copy_10) (fun H locs hw => ?_)
    refine lv_if_eq (tgt := 18) hx hb dX8_copy_13 (by decide) (fun c10 => ?_) (fun c10 => ?_)
    · have hf := o_pos c10 hf
      refine lv_aload_n hx hb dX8_copy_18 rfl (lv_at hl 0 rfl) ?_
      refine lv_aload_n hx hb dX8_copy_19 rfl (lv_at hl 0 rfl) ?_
      obtain ⟨q11, h12, hf⟩ := o_bind hf
      refine pw_get hC fl_X8_37 hw (rdR_F h12) dX8_copy_20 ?_
      refine lv_iload_n hx hb dX8_copy_23 rfl (lv_at hl 1 rfl) ?_
      obtain ⟨v13, h14, hf⟩ := o_bind hf
      refine pw_iald hC hw h14 dX8_copy_24 ?_
      refine lv_if_lt (tgt := 37) hx hb dX8_copy_25 (by decide) (fun c15 => ?_) (fun c15 => ?_)
      · have hf := o_pos c15 hf
        exact w_X8_copy_L37 hC hr hlocks _ _ _ _ _ _ _ ls (lv_sub hl [0, 1, 2] rfl) hw hf
      · have hf := o_neg c15 hf
        refine lv_aload_n hx hb dX8_copy_28 rfl (lv_at hl 0 rfl) ?_
        obtain ⟨q16, h17, hf⟩ := o_bind hf
        refine pw_get hC fl_X8_37 hw (rdR_F h17) dX8_copy_29 ?_
        refine lv_iload_n hx hb dX8_copy_32 rfl (lv_at hl 2 rfl) ?_
        obtain ⟨v18, h19, hf⟩ := o_bind hf
        refine pw_iald hC hw h19 dX8_copy_33 ?_
        refine lv_if_ge (tgt := 41) hx hb dX8_copy_34 (by decide) (fun c20 => ?_) (fun c20 => ?_)
        · have hf := o_pos c20 hf
          refine lv_iconst (v := 0) hx hb dX8_copy_41 nc_iconst_0 ?_
          exact w_X8_copy_L42 hC hr hlocks _ _ _ _ _ _ _ _ ls (lv_sub hl [0, 1, 2] rfl) hw hf
        · have hf := o_neg c20 hf
          exact w_X8_copy_L37 hC hr hlocks _ _ _ _ _ _ _ ls (lv_sub hl [0, 1, 2] rfl) hw hf
    · have hf := o_neg c10 hf
      exact w_X8_copy_L16 hC hr hlocks  _ _ _ ls (lv_sub hl [] rfl) hw hf
