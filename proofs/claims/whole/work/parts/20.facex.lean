theorem tw_15 : (Jvm.Cond.initialized "java/lang/IndexOutOfBoundsException") ∈ tw := tw_t 15 (by decide +kernel) (by decide +kernel)
theorem tw_16 : (Jvm.Cond.initialized "java/lang/IllegalArgumentException") ∈ tw := tw_t 16 (by decide +kernel) (by decide +kernel)
theorem tw_17 : (Jvm.Cond.initialized "java/util/NoSuchElementException") ∈ tw := tw_t 17 (by decide +kernel) (by decide +kernel)
theorem tw_18 : (Jvm.Cond.initialized "java/lang/IllegalStateException") ∈ tw := tw_t 18 (by decide +kernel) (by decide +kernel)
theorem tw_19 : (Jvm.Cond.initialized "java/lang/UnsupportedOperationException") ∈ tw := tw_t 19 (by decide +kernel) (by decide +kernel)
theorem tw_127 : (Jvm.Cond.fieldLinkNest "SpanShelves" (140 : Nat) "SpanShelves$Cursor" "count" "I" "SpanShelves") ∈ tw := tw_t 127 (by decide +kernel) (by decide +kernel)
theorem tw_223 : (Jvm.Cond.methodLink "SpanShelves" (70 : Nat) ({ cls := "SpanShelves$Shelf", name := "become", desc := "(LSpanShelves$Span;)V" } : Jvm.MethodName)) ∈ tw := tw_t 223 (by decide +kernel) (by decide +kernel)
theorem tw_224 : (Jvm.Cond.instanceMethod ({ cls := "SpanShelves$Shelf", name := "become", desc := "(LSpanShelves$Span;)V" } : Jvm.MethodName)) ∈ tw := tw_t 224 (by decide +kernel) (by decide +kernel)
theorem tw_225 : (Jvm.Cond.selects "SpanShelves$Shelf" ({ cls := "SpanShelves$Shelf", name := "become", desc := "(LSpanShelves$Span;)V" } : Jvm.MethodName) ({ cls := "SpanShelves$Shelf", name := "become", desc := "(LSpanShelves$Span;)V" } : Jvm.MethodName)) ∈ tw := tw_t 225 (by decide +kernel) (by decide +kernel)
theorem tw_226 : (Jvm.Cond.code ({ cls := "SpanShelves$Shelf", name := "become", desc := "(LSpanShelves$Span;)V" } : Jvm.MethodName) prog_6_method_2_code (2 : Nat) (Option.none : Option Jvm.ClassFile.FieldType)) ∈ tw := tw_t 226 (by decide +kernel) (by decide +kernel)
theorem tw_290 : (Jvm.Cond.fieldLink "SpanShelves" (33 : Nat) "SpanShelves" "shelves" "[LSpanShelves$Shelf;") ∈ tw := tw_t 290 (by decide +kernel) (by decide +kernel)
theorem tw_291 : (Jvm.Cond.fieldLink "SpanShelves" (40 : Nat) "SpanShelves" "scout" "LSpanShelves$Cursor;") ∈ tw := tw_t 291 (by decide +kernel) (by decide +kernel)
theorem tw_295 : (Jvm.Cond.fieldLink "SpanShelves" (58 : Nat) "SpanShelves" "latestShelf" "I") ∈ tw := tw_t 295 (by decide +kernel) (by decide +kernel)
theorem tw_429 : (Jvm.Cond.methodLink "SpanShelves" (95 : Nat) ({ cls := "SpanShelves", name := "shelfOf", desc := "(I)LSpanShelves$Shelf;" } : Jvm.MethodName)) ∈ tw := tw_t 429 (by decide +kernel) (by decide +kernel)
theorem tw_431 : (Jvm.Cond.instanceMethod ({ cls := "SpanShelves", name := "shelfOf", desc := "(I)LSpanShelves$Shelf;" } : Jvm.MethodName)) ∈ tw := tw_t 431 (by decide +kernel) (by decide +kernel)
theorem tw_432 : (Jvm.Cond.code ({ cls := "SpanShelves", name := "shelfOf", desc := "(I)LSpanShelves$Shelf;" } : Jvm.MethodName) prog_1_method_35_code (2 : Nat) (Option.some (Jvm.ClassFile.FieldType.object "SpanShelves$Shelf"))) ∈ tw := tw_t 432 (by decide +kernel) (by decide +kernel)
theorem tw_433 : (Jvm.Cond.classLink "SpanShelves" (334 : Nat) "java/lang/IndexOutOfBoundsException") ∈ tw := tw_t 433 (by decide +kernel) (by decide +kernel)
theorem tw_551 : (Jvm.Cond.methodLink "SpanShelves" (92 : Nat) ({ cls := "SpanShelves", name := "useTapeUp", desc := "()V" } : Jvm.MethodName)) ∈ tw := tw_t 551 (by decide +kernel) (by decide +kernel)
theorem tw_553 : (Jvm.Cond.instanceMethod ({ cls := "SpanShelves", name := "useTapeUp", desc := "()V" } : Jvm.MethodName)) ∈ tw := tw_t 553 (by decide +kernel) (by decide +kernel)
theorem tw_554 : (Jvm.Cond.code ({ cls := "SpanShelves", name := "useTapeUp", desc := "()V" } : Jvm.MethodName) prog_1_method_34_code (1 : Nat) (Option.none : Option Jvm.ClassFile.FieldType)) ∈ tw := tw_t 554 (by decide +kernel) (by decide +kernel)
theorem tw_557 : (Jvm.Cond.methodLink "SpanShelves" (99 : Nat) ({ cls := "SpanShelves", name := "refuseFault", desc := "(II)V" } : Jvm.MethodName)) ∈ tw := tw_t 557 (by decide +kernel) (by decide +kernel)
theorem tw_559 : (Jvm.Cond.instanceMethod ({ cls := "SpanShelves", name := "refuseFault", desc := "(II)V" } : Jvm.MethodName)) ∈ tw := tw_t 559 (by decide +kernel) (by decide +kernel)
theorem tw_560 : (Jvm.Cond.code ({ cls := "SpanShelves", name := "refuseFault", desc := "(II)V" } : Jvm.MethodName) prog_1_method_39_code (3 : Nat) (Option.none : Option Jvm.ClassFile.FieldType)) ∈ tw := tw_t 560 (by decide +kernel) (by decide +kernel)
theorem tw_561 : (Jvm.Cond.classLink "SpanShelves" (343 : Nat) "java/lang/IllegalArgumentException") ∈ tw := tw_t 561 (by decide +kernel) (by decide +kernel)
theorem tw_584 : (Jvm.Cond.methodLink "SpanShelves" (108 : Nat) ({ cls := "SpanShelves$Cursor", name := "hasElement", desc := "(I)Z" } : Jvm.MethodName)) ∈ tw := tw_t 584 (by decide +kernel) (by decide +kernel)
theorem tw_585 : (Jvm.Cond.instanceMethod ({ cls := "SpanShelves$Cursor", name := "hasElement", desc := "(I)Z" } : Jvm.MethodName)) ∈ tw := tw_t 585 (by decide +kernel) (by decide +kernel)
theorem tw_586 : (Jvm.Cond.selects "SpanShelves$Cursor" ({ cls := "SpanShelves$Cursor", name := "hasElement", desc := "(I)Z" } : Jvm.MethodName) ({ cls := "SpanShelves$Cursor", name := "hasElement", desc := "(I)Z" } : Jvm.MethodName)) ∈ tw := tw_t 586 (by decide +kernel) (by decide +kernel)
theorem tw_587 : (Jvm.Cond.code ({ cls := "SpanShelves$Cursor", name := "hasElement", desc := "(I)Z" } : Jvm.MethodName) prog_2_method_9_code (2 : Nat) (Option.some Jvm.ClassFile.FieldType.boolean)) ∈ tw := tw_t 587 (by decide +kernel) (by decide +kernel)
theorem tw_595 : (Jvm.Cond.methodLink "SpanShelves" (115 : Nat) ({ cls := "SpanShelves$Cursor", name := "numberOfName", desc := "(LSpanShelves$Span;LSpanShelves$Span;II)I" } : Jvm.MethodName)) ∈ tw := tw_t 595 (by decide +kernel) (by decide +kernel)
theorem tw_596 : (Jvm.Cond.instanceMethod ({ cls := "SpanShelves$Cursor", name := "numberOfName", desc := "(LSpanShelves$Span;LSpanShelves$Span;II)I" } : Jvm.MethodName)) ∈ tw := tw_t 596 (by decide +kernel) (by decide +kernel)
theorem tw_597 : (Jvm.Cond.selects "SpanShelves$Cursor" ({ cls := "SpanShelves$Cursor", name := "numberOfName", desc := "(LSpanShelves$Span;LSpanShelves$Span;II)I" } : Jvm.MethodName) ({ cls := "SpanShelves$Cursor", name := "numberOfName", desc := "(LSpanShelves$Span;LSpanShelves$Span;II)I" } : Jvm.MethodName)) ∈ tw := tw_t 597 (by decide +kernel) (by decide +kernel)
theorem tw_598 : (Jvm.Cond.code ({ cls := "SpanShelves$Cursor", name := "numberOfName", desc := "(LSpanShelves$Span;LSpanShelves$Span;II)I" } : Jvm.MethodName) prog_2_method_16_code (8 : Nat) (Option.some Jvm.ClassFile.FieldType.int)) ∈ tw := tw_t 598 (by decide +kernel) (by decide +kernel)
theorem tw_614 : (Jvm.Cond.methodLink "SpanShelves" (119 : Nat) ({ cls := "SpanShelves$Cursor", name := "toRoot", desc := "(LSpanShelves$Span;)V" } : Jvm.MethodName)) ∈ tw := tw_t 614 (by decide +kernel) (by decide +kernel)
theorem tw_615 : (Jvm.Cond.methodLink "SpanShelves" (122 : Nat) ({ cls := "SpanShelves$Span", name := "zeroFrom", desc := "(II)I" } : Jvm.MethodName)) ∈ tw := tw_t 615 (by decide +kernel) (by decide +kernel)
theorem tw_616 : (Jvm.Cond.methodLink "SpanShelves" (126 : Nat) ({ cls := "SpanShelves$Cursor", name := "become", desc := "(LSpanShelves$Cursor;LSpanShelves$Span;)V" } : Jvm.MethodName)) ∈ tw := tw_t 616 (by decide +kernel) (by decide +kernel)
theorem tw_617 : (Jvm.Cond.instanceMethod ({ cls := "SpanShelves$Cursor", name := "become", desc := "(LSpanShelves$Cursor;LSpanShelves$Span;)V" } : Jvm.MethodName)) ∈ tw := tw_t 617 (by decide +kernel) (by decide +kernel)
theorem tw_618 : (Jvm.Cond.selects "SpanShelves$Cursor" ({ cls := "SpanShelves$Cursor", name := "become", desc := "(LSpanShelves$Cursor;LSpanShelves$Span;)V" } : Jvm.MethodName) ({ cls := "SpanShelves$Cursor", name := "become", desc := "(LSpanShelves$Cursor;LSpanShelves$Span;)V" } : Jvm.MethodName)) ∈ tw := tw_t 618 (by decide +kernel) (by decide +kernel)
theorem tw_619 : (Jvm.Cond.code ({ cls := "SpanShelves$Cursor", name := "become", desc := "(LSpanShelves$Cursor;LSpanShelves$Span;)V" } : Jvm.MethodName) prog_2_method_3_code (3 : Nat) (Option.none : Option Jvm.ClassFile.FieldType)) ∈ tw := tw_t 619 (by decide +kernel) (by decide +kernel)
theorem tw_621 : (Jvm.Cond.methodLink "SpanShelves" (129 : Nat) ({ cls := "SpanShelves$Cursor", name := "stepIn", desc := "(LSpanShelves$Span;)Z" } : Jvm.MethodName)) ∈ tw := tw_t 621 (by decide +kernel) (by decide +kernel)
theorem tw_622 : (Jvm.Cond.instanceMethod ({ cls := "SpanShelves$Cursor", name := "stepIn", desc := "(LSpanShelves$Span;)Z" } : Jvm.MethodName)) ∈ tw := tw_t 622 (by decide +kernel) (by decide +kernel)
theorem tw_623 : (Jvm.Cond.selects "SpanShelves$Cursor" ({ cls := "SpanShelves$Cursor", name := "stepIn", desc := "(LSpanShelves$Span;)Z" } : Jvm.MethodName) ({ cls := "SpanShelves$Cursor", name := "stepIn", desc := "(LSpanShelves$Span;)Z" } : Jvm.MethodName)) ∈ tw := tw_t 623 (by decide +kernel) (by decide +kernel)
theorem tw_624 : (Jvm.Cond.code ({ cls := "SpanShelves$Cursor", name := "stepIn", desc := "(LSpanShelves$Span;)Z" } : Jvm.MethodName) prog_2_method_4_code (4 : Nat) (Option.some Jvm.ClassFile.FieldType.boolean)) ∈ tw := tw_t 624 (by decide +kernel) (by decide +kernel)
theorem tw_649 : (Jvm.Cond.methodLink "SpanShelves" (133 : Nat) ({ cls := "SpanShelves$Cursor", name := "stepOut", desc := "(LSpanShelves$Span;)Z" } : Jvm.MethodName)) ∈ tw := tw_t 649 (by decide +kernel) (by decide +kernel)
theorem tw_650 : (Jvm.Cond.instanceMethod ({ cls := "SpanShelves$Cursor", name := "stepOut", desc := "(LSpanShelves$Span;)Z" } : Jvm.MethodName)) ∈ tw := tw_t 650 (by decide +kernel) (by decide +kernel)
theorem tw_651 : (Jvm.Cond.selects "SpanShelves$Cursor" ({ cls := "SpanShelves$Cursor", name := "stepOut", desc := "(LSpanShelves$Span;)Z" } : Jvm.MethodName) ({ cls := "SpanShelves$Cursor", name := "stepOut", desc := "(LSpanShelves$Span;)Z" } : Jvm.MethodName)) ∈ tw := tw_t 651 (by decide +kernel) (by decide +kernel)
theorem tw_652 : (Jvm.Cond.code ({ cls := "SpanShelves$Cursor", name := "stepOut", desc := "(LSpanShelves$Span;)Z" } : Jvm.MethodName) prog_2_method_5_code (2 : Nat) (Option.some Jvm.ClassFile.FieldType.boolean)) ∈ tw := tw_t 652 (by decide +kernel) (by decide +kernel)
theorem tw_660 : (Jvm.Cond.methodLink "SpanShelves" (136 : Nat) ({ cls := "SpanShelves$Cursor", name := "depth", desc := "()I" } : Jvm.MethodName)) ∈ tw := tw_t 660 (by decide +kernel) (by decide +kernel)
theorem tw_661 : (Jvm.Cond.instanceMethod ({ cls := "SpanShelves$Cursor", name := "depth", desc := "()I" } : Jvm.MethodName)) ∈ tw := tw_t 661 (by decide +kernel) (by decide +kernel)
theorem tw_662 : (Jvm.Cond.selects "SpanShelves$Cursor" ({ cls := "SpanShelves$Cursor", name := "depth", desc := "()I" } : Jvm.MethodName) ({ cls := "SpanShelves$Cursor", name := "depth", desc := "()I" } : Jvm.MethodName)) ∈ tw := tw_t 662 (by decide +kernel) (by decide +kernel)
theorem tw_663 : (Jvm.Cond.code ({ cls := "SpanShelves$Cursor", name := "depth", desc := "()I" } : Jvm.MethodName) prog_2_method_11_code (1 : Nat) (Option.some Jvm.ClassFile.FieldType.int)) ∈ tw := tw_t 663 (by decide +kernel) (by decide +kernel)
theorem tw_664 : (Jvm.Cond.methodLink "SpanShelves" (143 : Nat) ({ cls := "SpanShelves$Cursor", name := "document", desc := "()I" } : Jvm.MethodName)) ∈ tw := tw_t 664 (by decide +kernel) (by decide +kernel)
theorem tw_665 : (Jvm.Cond.methodLink "SpanShelves" (146 : Nat) ({ cls := "SpanShelves$Cursor", name := "documentType", desc := "()I" } : Jvm.MethodName)) ∈ tw := tw_t 665 (by decide +kernel) (by decide +kernel)
theorem tw_669 : (Jvm.Cond.methodLink "SpanShelves" (149 : Nat) ({ cls := "SpanShelves$Cursor", name := "isAtElement", desc := "()Z" } : Jvm.MethodName)) ∈ tw := tw_t 669 (by decide +kernel) (by decide +kernel)
theorem tw_670 : (Jvm.Cond.methodLink "SpanShelves" (153 : Nat) ({ cls := "SpanShelves", name := "lookAtElement", desc := "(LSpanShelves$Shelf;I)I" } : Jvm.MethodName)) ∈ tw := tw_t 670 (by decide +kernel) (by decide +kernel)
theorem tw_671 : (Jvm.Cond.static ({ cls := "SpanShelves", name := "lookAtElement", desc := "(LSpanShelves$Shelf;I)I" } : Jvm.MethodName)) ∈ tw := tw_t 671 (by decide +kernel) (by decide +kernel)
theorem tw_672 : (Jvm.Cond.code ({ cls := "SpanShelves", name := "lookAtElement", desc := "(LSpanShelves$Shelf;I)I" } : Jvm.MethodName) prog_1_method_13_code (5 : Nat) (Option.some Jvm.ClassFile.FieldType.int)) ∈ tw := tw_t 672 (by decide +kernel) (by decide +kernel)
theorem tw_699 : (Jvm.Cond.classLink "SpanShelves" (239 : Nat) "java/util/NoSuchElementException") ∈ tw := tw_t 699 (by decide +kernel) (by decide +kernel)
theorem tw_724 : (Jvm.Cond.classLink "SpanShelves" (183 : Nat) "java/lang/IllegalStateException") ∈ tw := tw_t 724 (by decide +kernel) (by decide +kernel)
theorem tw_817 : (Jvm.Cond.methodLink "SpanShelves" (348 : Nat) ({ cls := "SpanShelves$Shelf", name := "finishDraft", desc := "(I)Z" } : Jvm.MethodName)) ∈ tw := tw_t 817 (by decide +kernel) (by decide +kernel)
theorem tw_818 : (Jvm.Cond.instanceMethod ({ cls := "SpanShelves$Shelf", name := "finishDraft", desc := "(I)Z" } : Jvm.MethodName)) ∈ tw := tw_t 818 (by decide +kernel) (by decide +kernel)
theorem tw_819 : (Jvm.Cond.selects "SpanShelves$Shelf" ({ cls := "SpanShelves$Shelf", name := "finishDraft", desc := "(I)Z" } : Jvm.MethodName) ({ cls := "SpanShelves$Shelf", name := "finishDraft", desc := "(I)Z" } : Jvm.MethodName)) ∈ tw := tw_t 819 (by decide +kernel) (by decide +kernel)
theorem tw_820 : (Jvm.Cond.code ({ cls := "SpanShelves$Shelf", name := "finishDraft", desc := "(I)Z" } : Jvm.MethodName) prog_6_method_11_code (3 : Nat) (Option.some Jvm.ClassFile.FieldType.boolean)) ∈ tw := tw_t 820 (by decide +kernel) (by decide +kernel)
theorem tw_840 : (Jvm.Cond.classLink "SpanShelves" (303 : Nat) "java/lang/UnsupportedOperationException") ∈ tw := tw_t 840 (by decide +kernel) (by decide +kernel)
theorem twp_15 : (Jvm.Cond.selects "SpanShelves" ({ cls := "SpanShelves", name := "shelfOf", desc := "(I)LSpanShelves$Shelf;" } : Jvm.MethodName) ({ cls := "SpanShelves", name := "shelfOf", desc := "(I)LSpanShelves$Shelf;" } : Jvm.MethodName)) ∈ tw := tw_p 15 (q := (({ cls := "SpanShelves", name := "shelfOf", desc := "(I)LSpanShelves$Shelf;" } : Jvm.MethodName), 10)) (by decide +kernel) (by decide +kernel)
theorem twp_18 : (Jvm.Cond.selects "SpanShelves" ({ cls := "SpanShelves", name := "useTapeUp", desc := "()V" } : Jvm.MethodName) ({ cls := "SpanShelves", name := "useTapeUp", desc := "()V" } : Jvm.MethodName)) ∈ tw := tw_p 18 (q := (({ cls := "SpanShelves", name := "useTapeUp", desc := "()V" } : Jvm.MethodName), 10)) (by decide +kernel) (by decide +kernel)
theorem twp_19 : (Jvm.Cond.selects "SpanShelves" ({ cls := "SpanShelves", name := "refuseFault", desc := "(II)V" } : Jvm.MethodName) ({ cls := "SpanShelves", name := "refuseFault", desc := "(II)V" } : Jvm.MethodName)) ∈ tw := tw_p 19 (q := (({ cls := "SpanShelves", name := "refuseFault", desc := "(II)V" } : Jvm.MethodName), 10)) (by decide +kernel) (by decide +kernel)
theorem fl_X6_33 : FL RX6 33 5 4 := ⟨by decide, RX6, TX6, 10, tyX6, rfl, by decide, rfl, iw_X6, tyX6_ok, nmX6, Or.inl tw_290⟩
theorem fl_X6_40 : FL RX6 40 5 5 := ⟨by decide, RX6, TX6, 10, tyX6, rfl, by decide, rfl, iw_X6, tyX6_ok, nmX6, Or.inl tw_291⟩
theorem fl_X6_58 : FL RX6 58 5 9 := ⟨by decide, RX6, TX6, 10, tyX6, rfl, by decide, rfl, iw_X6, tyX6_ok, nmX6, Or.inl tw_295⟩
theorem fl_X6_140 : FL RX6 140 0 7 := ⟨by decide, RX0, TX0, 8, tyX0, rfl, by decide, rfl, iw_X0, tyX0_ok, nmX0, Or.inr ⟨_, tw_127⟩⟩
theorem fd_X6_9 : ∀ (C : String) (T : u_T) (N : Nat), vwCl[5]? = some (C, T, N) → (T 9).2.2.2 = false ∧ parseFieldDescriptor (T 9).2.2.1 = some .int := by intro C T N h; cases h; exact ⟨rfl, by decide +kernel⟩
theorem mm_X0_become : MM 0 yX0_become cX0_become 3 none 2 := ⟨by decide, RX0, TX0, 8, rfl, tw_617, tw_618, tw_619, tw_5, by decide +kernel, by decide +kernel, by decide +kernel⟩
theorem mm_X0_depth : MM 0 yX0_depth cX0_depth 1 (some .int) 0 := ⟨by decide, RX0, TX0, 8, rfl, tw_661, tw_662, tw_663, tw_5, by decide +kernel, by decide +kernel, by decide +kernel⟩
theorem mm_X0_hasElement : MM 0 yX0_hasElement cX0_hasElement 2 (some .boolean) 1 := ⟨by decide, RX0, TX0, 8, rfl, tw_585, tw_586, tw_587, tw_5, by decide +kernel, by decide +kernel, by decide +kernel⟩
theorem mm_X0_numberOfName : MM 0 yX0_numberOfName cX0_numberOfName 8 (some .int) 4 := ⟨by decide, RX0, TX0, 8, rfl, tw_596, tw_597, tw_598, tw_5, by decide +kernel, by decide +kernel, by decide +kernel⟩
theorem mm_X0_stepIn : MM 0 yX0_stepIn cX0_stepIn 4 (some .boolean) 1 := ⟨by decide, RX0, TX0, 8, rfl, tw_622, tw_623, tw_624, tw_5, by decide +kernel, by decide +kernel, by decide +kernel⟩
theorem mm_X0_stepOut : MM 0 yX0_stepOut cX0_stepOut 2 (some .boolean) 1 := ⟨by decide, RX0, TX0, 8, rfl, tw_650, tw_651, tw_652, tw_5, by decide +kernel, by decide +kernel, by decide +kernel⟩
theorem mm_X4_become : MM 3 yX4_become cX4_become 2 none 1 := ⟨by decide, RX4, TX4, 7, rfl, tw_224, tw_225, tw_226, tw_7, by decide +kernel, by decide +kernel, by decide +kernel⟩
theorem mm_X4_finishDraft : MM 3 yX4_finishDraft cX4_finishDraft 3 (some .boolean) 1 := ⟨by decide, RX4, TX4, 7, rfl, tw_818, tw_819, tw_820, tw_7, by decide +kernel, by decide +kernel, by decide +kernel⟩
theorem mm_X6_lookAtElement : MS yX6_lookAtElement cX6_lookAtElement 5 (some .int) 2 := ⟨tw_671, tw_672, tw_1, by decide +kernel, by decide +kernel, by decide +kernel⟩
theorem mm_X6_refuseFault : MM 5 yX6_refuseFault cX6_refuseFault 3 none 2 := ⟨by decide, RX6, TX6, 10, rfl, tw_559, twp_19, tw_560, tw_1, by decide +kernel, by decide +kernel, by decide +kernel⟩
theorem mm_X6_shelfOf : MM 5 yX6_shelfOf cX6_shelfOf 2 (some (.object "SpanShelves$Shelf")) 1 := ⟨by decide, RX6, TX6, 10, rfl, tw_431, twp_15, tw_432, tw_1, by decide +kernel, by decide +kernel, by decide +kernel⟩
theorem mm_X6_useTapeUp : MM 5 yX6_useTapeUp cX6_useTapeUp 1 none 0 := ⟨by decide, RX6, TX6, 10, rfl, tw_553, twp_18, tw_554, tw_1, by decide +kernel, by decide +kernel, by decide +kernel⟩
theorem tws_X6_183 : TW RX6 183 187 "java/lang/IllegalStateException" ["java/lang/RuntimeException", "java/lang/Exception"] := ⟨by decide +kernel, by decide +kernel, tw_724, tw_18, fun w h => List.mem_filter.mpr ⟨(show ∀ w ∈ vx_atS RX6 187 "java/lang/IllegalStateException" ["java/lang/RuntimeException", "java/lang/Exception"], w ∈ lw_tbl by decide +kernel) w h, (show ∀ w ∈ vx_atS RX6 187 "java/lang/IllegalStateException" ["java/lang/RuntimeException", "java/lang/Exception"], tw_ok w = true by decide +kernel) w h⟩⟩
theorem tws_X6_239 : TWN RX6 239 243 "java/util/NoSuchElementException" ["java/lang/RuntimeException", "java/lang/Exception"] := ⟨by decide +kernel, by decide +kernel, tw_699, tw_17, fun w h => List.mem_filter.mpr ⟨(show ∀ w ∈ nx_atS RX6 243 "java/util/NoSuchElementException" ["java/lang/RuntimeException", "java/lang/Exception"], w ∈ lw_tbl by decide +kernel) w h, (show ∀ w ∈ nx_atS RX6 243 "java/util/NoSuchElementException" ["java/lang/RuntimeException", "java/lang/Exception"], tw_ok w = true by decide +kernel) w h⟩⟩
theorem tws_X6_303 : TW RX6 303 307 "java/lang/UnsupportedOperationException" ["java/lang/RuntimeException", "java/lang/Exception"] := ⟨by decide +kernel, by decide +kernel, tw_840, tw_19, fun w h => List.mem_filter.mpr ⟨(show ∀ w ∈ vx_atS RX6 307 "java/lang/UnsupportedOperationException" ["java/lang/RuntimeException", "java/lang/Exception"], w ∈ lw_tbl by decide +kernel) w h, (show ∀ w ∈ vx_atS RX6 307 "java/lang/UnsupportedOperationException" ["java/lang/RuntimeException", "java/lang/Exception"], tw_ok w = true by decide +kernel) w h⟩⟩
theorem tws_X6_334 : TW RX6 334 338 "java/lang/IndexOutOfBoundsException" ["java/lang/RuntimeException", "java/lang/Exception"] := ⟨by decide +kernel, by decide +kernel, tw_433, tw_15, fun w h => List.mem_filter.mpr ⟨(show ∀ w ∈ vx_atS RX6 338 "java/lang/IndexOutOfBoundsException" ["java/lang/RuntimeException", "java/lang/Exception"], w ∈ lw_tbl by decide +kernel) w h, (show ∀ w ∈ vx_atS RX6 338 "java/lang/IndexOutOfBoundsException" ["java/lang/RuntimeException", "java/lang/Exception"], tw_ok w = true by decide +kernel) w h⟩⟩
theorem tws_X6_343 : TW RX6 343 347 "java/lang/IllegalArgumentException" ["java/lang/RuntimeException", "java/lang/Exception"] := ⟨by decide +kernel, by decide +kernel, tw_561, tw_16, fun w h => List.mem_filter.mpr ⟨(show ∀ w ∈ vx_atS RX6 347 "java/lang/IllegalArgumentException" ["java/lang/RuntimeException", "java/lang/Exception"], w ∈ lw_tbl by decide +kernel) w h, (show ∀ w ∈ vx_atS RX6 347 "java/lang/IllegalArgumentException" ["java/lang/RuntimeException", "java/lang/Exception"], tw_ok w = true by decide +kernel) w h⟩⟩
theorem dX6_shelfOf_0 : decode cX6_shelfOf 0 = .ok (.iload_n 1, 1) := by decide +kernel
theorem dX6_shelfOf_1 : decode cX6_shelfOf 1 = .ok (.ifCond .lt 8, 3) := by decide +kernel
theorem dX6_shelfOf_4 : decode cX6_shelfOf 4 = .ok (.iload_n 1, 1) := by decide +kernel
theorem dX6_shelfOf_5 : decode cX6_shelfOf 5 = .ok (.iconst 4, 1) := by decide +kernel
theorem dX6_shelfOf_6 : decode cX6_shelfOf 6 = .ok (.if_icmp .lt 14, 3) := by decide +kernel
theorem dX6_shelfOf_9 : decode cX6_shelfOf 9 = .ok (.new 334, 3) := by decide +kernel
theorem dX6_shelfOf_12 : decode cX6_shelfOf 12 = .ok (.dup, 1) := by decide +kernel
theorem dX6_shelfOf_13 : decode cX6_shelfOf 13 = .ok (.ldc_w 336, 3) := by decide +kernel
theorem dX6_shelfOf_16 : decode cX6_shelfOf 16 = .ok (.invokespecial 338, 3) := by decide +kernel
theorem dX6_shelfOf_19 : decode cX6_shelfOf 19 = .ok (.athrow, 1) := by decide +kernel
theorem dX6_shelfOf_20 : decode cX6_shelfOf 20 = .ok (.aload_n 0, 1) := by decide +kernel
theorem dX6_shelfOf_21 : decode cX6_shelfOf 21 = .ok (.getfield 33, 3) := by decide +kernel
theorem dX6_shelfOf_24 : decode cX6_shelfOf 24 = .ok (.iload_n 1, 1) := by decide +kernel
theorem dX6_shelfOf_25 : decode cX6_shelfOf 25 = .ok (.aaload, 1) := by decide +kernel
theorem dX6_shelfOf_26 : decode cX6_shelfOf 26 = .ok (.areturn, 1) := by decide +kernel
abbrev rm_X6_shelfOf : Room := { frames := 6, cells := 1, slots := 6, locals := 100 }
def f_X6_shelfOf_L9 (cy : Nat → ClassId)  (μ : Mem) : Option ((String × Mem) ⊕ (Nat × Mem)) :=
  some (.inl ("java/lang/IndexOutOfBoundsException", μ))
set_option maxRecDepth 100000 in
set_option maxHeartbeats 4000000 in
theorem w_X6_shelfOf_L9 {p : Program} {l : Launch} {e : Env} {s : State} {m : MethodId} {args : Array Value} {below : List Frame} {meth : Method} {c : Code} {A : Nat → Prop} {g : Wg} {L : List Nat} {res : ((String × Mem) ⊕ (Nat × Mem))} (hC : CX p m c cX6_shelfOf 2 s args RX6) (hr : meth.sig.returnType = (some (.object "SpanShelves$Shelf"))) (hlocks : meth.locks = false) (hl0 : l.stackTraces = false) (hX : XS A s s.heap) (hno : ∀ x ∈ c.exceptionTable.toList, False) : ∀  (μ : Mem) (H : Heap) (locs : List Loc) (ls : Array Slot), lv_has ls 2 [] → PW g L μ A s H locs → f_X6_shelfOf_L9 g.2  μ = some res → W p l e rm_X6_shelfOf s m args below meth c H locs 0 0 (vx_MQ below (QX g L A (rvR res)) (XX g L A (rvR res)) args s 1 6 A) (F0 m 9 ls []) := by
  have hx := hC.1
  have hb := hC.2.1
  intro  μ H locs ls hl hw hf
  unfold f_X6_shelfOf_L9 at hf
  obtain rfl := o_retv hf
  exact pw_thrSW (text := "there is no such shelf") hC hl0 hw hX hno hlocks rfl tws_X6_334 (by decide) hl.1 dX6_shelfOf_9 dX6_shelfOf_12 dX6_shelfOf_13 dX6_shelfOf_16 dX6_shelfOf_19 (by decide) (Nat.le_of_ble_eq_true rfl) (by decide) (by decide) (by decide) (by decide)
def f_X6_shelfOf (cy : Nat → ClassId) (a0 : Nat) (a1 : Int32) (μ : Mem) : Option ((String × Mem) ⊕ (Nat × Mem)) :=
  if a1 < 0 then (f_X6_shelfOf_L9 cy  μ) else if a1 < 4 then ((rdR μ a0 5 4).bind fun q3 => (rdQ cy μ 4 q3 a1).bind fun q5 => some (.inr (q5, μ))) else f_X6_shelfOf_L9 cy  μ
set_option maxRecDepth 100000 in
set_option maxHeartbeats 4000000 in
theorem c_X6_shelfOf {l : Launch} {g : Wg} {L : List Nat} {μ : Mem} {a0 : Nat} {a1 : Int32} {res : ((String × Mem) ⊕ (Nat × Mem))} (hl0 : l.stackTraces = false) (hf : f_X6_shelfOf g.2 a0 a1 μ = some res) : MetX l yX6_shelfOf cX6_shelfOf 2 (some (.object "SpanShelves$Shelf")) rm_X6_shelfOf g L μ [.ref a0, .int a1] (rvR res) := by
  refine pw_metX (by decide) (Nat.le_of_ble_eq_true rfl) ?_
  intro p e s m args below meth c A ls H locs hC hr hlocks hl hw hX hno
  have hx := hC.1
  have hb := hC.2.1
  have hl : lv_has ls 2 [(0, .ref a0), (1, .int a1)] := hl
  unfold f_X6_shelfOf at hf
  refine lv_iload_n hx hb dX6_shelfOf_0 rfl (lv_at hl 1 rfl) ?_
  refine lv_if_lt (tgt := 9) hx hb dX6_shelfOf_1 (by decide) (fun c1 => ?_) (fun c1 => ?_)
  · have hf := o_pos c1 hf
    refine W.widen (k := 0) (n := 0) (by decide) (by decide) ?_
    exact w_X6_shelfOf_L9 hC hr hlocks hl0 hX hno  _ _ _ ls (lv_sub hl [] rfl) hw hf
  · have hf := o_neg c1 hf
    refine lv_iload_n hx hb dX6_shelfOf_4 rfl (lv_at hl 1 rfl) ?_
    refine lv_iconst (v := 4) hx hb dX6_shelfOf_5 nc_iconst_4 ?_
    refine lv_icmp_lt (tgt := 20) hx hb dX6_shelfOf_6 (by decide) (fun c2 => ?_) (fun c2 => ?_)
    · have hf := o_pos c2 hf
      refine lv_aload_n hx hb dX6_shelfOf_20 rfl (lv_at hl 0 rfl) ?_
      obtain ⟨q3, h4, hf⟩ := o_bind hf
      refine pw_get hC fl_X6_33 hw (rdR_F h4) dX6_shelfOf_21 ?_
      refine lv_iload_n hx hb dX6_shelfOf_24 rfl (lv_at hl 1 rfl) ?_
      obtain ⟨q5, h6, hf⟩ := o_bind hf
      refine pw_aald hC hw 4 rfl rfl h6 dX6_shelfOf_25 ?_
      obtain rfl := o_retv hf
      exact pw_xaret hC hr hlocks (by decide) (by decide) hw dX6_shelfOf_26
    · have hf := o_neg c2 hf
      refine W.widen (k := 0) (n := 0) (by decide) (by decide) ?_
      exact w_X6_shelfOf_L9 hC hr hlocks hl0 hX hno  _ _ _ ls (lv_sub hl [] rfl) hw hf
theorem dX6_refuseNoElement_0 : decode cX6_refuseNoElement 0 = .ok (.aload_n 0, 1) := by decide +kernel
theorem dX6_refuseNoElement_1 : decode cX6_refuseNoElement 1 = .ok (.getfield 105, 3) := by decide +kernel
theorem dX6_refuseNoElement_4 : decode cX6_refuseNoElement 4 = .ok (.invokevirtual 149, 3) := by decide +kernel
theorem dX6_refuseNoElement_7 : decode cX6_refuseNoElement 7 = .ok (.ifCond .ne 14, 3) := by decide +kernel
theorem dX6_refuseNoElement_10 : decode cX6_refuseNoElement 10 = .ok (.new 239, 3) := by decide +kernel
theorem dX6_refuseNoElement_13 : decode cX6_refuseNoElement 13 = .ok (.dup, 1) := by decide +kernel
theorem dX6_refuseNoElement_14 : decode cX6_refuseNoElement 14 = .ok (.ldc_w 339, 3) := by decide +kernel
theorem dX6_refuseNoElement_17 : decode cX6_refuseNoElement 17 = .ok (.invokespecial 243, 3) := by decide +kernel
theorem dX6_refuseNoElement_20 : decode cX6_refuseNoElement 20 = .ok (.athrow, 1) := by decide +kernel
theorem dX6_refuseNoElement_21 : decode cX6_refuseNoElement 21 = .ok (.return_, 1) := by decide +kernel
abbrev rm_X6_refuseNoElement : Room := { frames := 6, cells := 1, slots := 6, locals := 100 }
def f_X6_refuseNoElement (cy : Nat → ClassId) (a0 : Nat) (μ : Mem) : Option ((String × Mem) ⊕ Mem) :=
  (rdR μ a0 3 1).bind fun q1 => if isO μ q1 0 = true then (ob2 (f_X0_isAtElement cy q1 μ) fun r6 μ5 => if r6 = 0 then (some (.inl ("java/util/NoSuchElementException", μ5))) else some (.inr μ5)) else none
set_option maxRecDepth 100000 in
set_option maxHeartbeats 4000000 in
theorem c_X6_refuseNoElement {l : Launch} {g : Wg} {L : List Nat} {μ : Mem} {a0 : Nat} {res : ((String × Mem) ⊕ Mem)} (hl0 : l.stackTraces = false) (hf : f_X6_refuseNoElement g.2 a0 μ = some res) : MetX l yX6_refuseNoElement cX6_refuseNoElement 1 none rm_X6_refuseNoElement g L μ [.ref a0] (rvV res) := by
  refine pw_metX (by decide) (Nat.le_of_ble_eq_true rfl) ?_
  intro p e s m args below meth c A ls H locs hC hr hlocks hl hw hX hno
  have hx := hC.1
  have hb := hC.2.1
  have hl : lv_has ls 1 [(0, .ref a0)] := hl
  unfold f_X6_refuseNoElement at hf
  refine lv_aload_n hx hb dX6_refuseNoElement_0 rfl (lv_at hl 0 rfl) ?_
  obtain ⟨q1, h2, hf⟩ := o_bind hf
  refine pw_get hC fl_X6_105 hw (rdR_F h2) dX6_refuseNoElement_1 ?_
  obtain ⟨h4, hf⟩ := o_ite hf
  obtain ⟨r6, μ5, h3, hf⟩ := o_bind2 hf
  refine pw_goI hw (pw_runV (As := []) (rest := []) hC mm_X0_isAtElement tw_669 (c_X0_isAtElement h3 _) ⟨rfl, rfl, by decide, by decide⟩ hw h4 rfl hl.1 (Nat.le_of_ble_eq_true rfl) ⟨by decide, by decide⟩ rfl dX6_refuseNoElement_4) (fun H locs hw => ?_)
  refine lv_if_ne (tgt := 21) hx hb dX6_refuseNoElement_7 (by decide) (fun c7 => ?_) (fun c7 => ?_)
  · have hf := o_neg c7 hf
    obtain rfl := o_retv hf
    exact pw_xvret hC hr hlocks (by decide) (by decide) hw dX6_refuseNoElement_21
  · have hf := o_pos c7 hf
    obtain rfl := o_retv hf
    exact pw_thrNW (text := "the cursor is at no element") hC hl0 hw hX hno hlocks rfl tws_X6_239 (by decide) hl.1 dX6_refuseNoElement_10 dX6_refuseNoElement_13 dX6_refuseNoElement_14 dX6_refuseNoElement_17 dX6_refuseNoElement_20 (by decide) (Nat.le_of_ble_eq_true rfl) (by decide) (by decide) (by decide) (by decide)
theorem dX6_refuseNothingOpen_0 : decode cX6_refuseNothingOpen 0 = .ok (.aload_n 0, 1) := by decide +kernel
theorem dX6_refuseNothingOpen_1 : decode cX6_refuseNothingOpen 1 = .ok (.getfield 47, 3) := by decide +kernel
theorem dX6_refuseNothingOpen_4 : decode cX6_refuseNothingOpen 4 = .ok (.getfield 297, 3) := by decide +kernel
theorem dX6_refuseNothingOpen_7 : decode cX6_refuseNothingOpen 7 = .ok (.iconst 1, 1) := by decide +kernel
theorem dX6_refuseNothingOpen_8 : decode cX6_refuseNothingOpen 8 = .ok (.if_icmp .ge 14, 3) := by decide +kernel
theorem dX6_refuseNothingOpen_11 : decode cX6_refuseNothingOpen 11 = .ok (.new 183, 3) := by decide +kernel
theorem dX6_refuseNothingOpen_14 : decode cX6_refuseNothingOpen 14 = .ok (.dup, 1) := by decide +kernel
theorem dX6_refuseNothingOpen_15 : decode cX6_refuseNothingOpen 15 = .ok (.ldc_w 341, 3) := by decide +kernel
theorem dX6_refuseNothingOpen_18 : decode cX6_refuseNothingOpen 18 = .ok (.invokespecial 187, 3) := by decide +kernel
theorem dX6_refuseNothingOpen_21 : decode cX6_refuseNothingOpen 21 = .ok (.athrow, 1) := by decide +kernel
theorem dX6_refuseNothingOpen_22 : decode cX6_refuseNothingOpen 22 = .ok (.return_, 1) := by decide +kernel
abbrev rm_X6_refuseNothingOpen : Room := { frames := 6, cells := 1, slots := 6, locals := 100 }
def f_X6_refuseNothingOpen (cy : Nat → ClassId) (a0 : Nat) (μ : Mem) : Option ((String × Mem) ⊕ Mem) :=
  (rdR μ a0 5 6).bind fun q1 => (rdI μ q1 2 5).bind fun v3 => if 1 ≤ v3 then (some (.inr μ)) else some (.inl ("java/lang/IllegalStateException", μ))
set_option maxRecDepth 100000 in
set_option maxHeartbeats 4000000 in
theorem c_X6_refuseNothingOpen {l : Launch} {g : Wg} {L : List Nat} {μ : Mem} {a0 : Nat} {res : ((String × Mem) ⊕ Mem)} (hl0 : l.stackTraces = false) (hf : f_X6_refuseNothingOpen g.2 a0 μ = some res) : MetX l yX6_refuseNothingOpen cX6_refuseNothingOpen 1 none rm_X6_refuseNothingOpen g L μ [.ref a0] (rvV res) := by
  refine pw_metX (by decide) (Nat.le_of_ble_eq_true rfl) ?_
  intro p e s m args below meth c A ls H locs hC hr hlocks hl hw hX hno
  have hx := hC.1
  have hb := hC.2.1
  have hl : lv_has ls 1 [(0, .ref a0)] := hl
  unfold f_X6_refuseNothingOpen at hf
  refine lv_aload_n hx hb dX6_refuseNothingOpen_0 rfl (lv_at hl 0 rfl) ?_
  obtain ⟨q1, h2, hf⟩ := o_bind hf
  refine pw_get hC fl_X6_47 hw (rdR_F h2) dX6_refuseNothingOpen_1 ?_
  obtain ⟨v3, h4, hf⟩ := o_bind hf
  refine pw_get hC fl_X6_297 hw (rdI_F h4) dX6_refuseNothingOpen_4 ?_
  refine lv_iconst (v := 1) hx hb dX6_refuseNothingOpen_7 nc_iconst_1 ?_
  refine lv_icmp_ge (tgt := 22) hx hb dX6_refuseNothingOpen_8 (by decide) (fun c5 => ?_) (fun c5 => ?_)
  · have hf := o_pos c5 hf
    obtain rfl := o_retv hf
    exact pw_xvret hC hr hlocks (by decide) (by decide) hw dX6_refuseNothingOpen_22
  · have hf := o_neg c5 hf
    obtain rfl := o_retv hf
    exact pw_thrSW (text := "no document is open") hC hl0 hw hX hno hlocks rfl tws_X6_183 (by decide) hl.1 dX6_refuseNothingOpen_11 dX6_refuseNothingOpen_14 dX6_refuseNothingOpen_15 dX6_refuseNothingOpen_18 dX6_refuseNothingOpen_21 (by decide) (Nat.le_of_ble_eq_true rfl) (by decide) (by decide) (by decide) (by decide)
theorem dX6_refuseFault_0 : decode cX6_refuseFault 0 = .ok (.aload_n 0, 1) := by decide +kernel
theorem dX6_refuseFault_1 : decode cX6_refuseFault 1 = .ok (.iload_n 1, 1) := by decide +kernel
theorem dX6_refuseFault_2 : decode cX6_refuseFault 2 = .ok (.iload_n 2, 1) := by decide +kernel
theorem dX6_refuseFault_3 : decode cX6_refuseFault 3 = .ok (.invokevirtual 88, 3) := by decide +kernel
theorem dX6_refuseFault_6 : decode cX6_refuseFault 6 = .ok (.iload_n 1, 1) := by decide +kernel
theorem dX6_refuseFault_7 : decode cX6_refuseFault 7 = .ok (.ifCond .eq 14, 3) := by decide +kernel
theorem dX6_refuseFault_10 : decode cX6_refuseFault 10 = .ok (.new 343, 3) := by decide +kernel
theorem dX6_refuseFault_13 : decode cX6_refuseFault 13 = .ok (.dup, 1) := by decide +kernel
theorem dX6_refuseFault_14 : decode cX6_refuseFault 14 = .ok (.ldc_w 345, 3) := by decide +kernel
theorem dX6_refuseFault_17 : decode cX6_refuseFault 17 = .ok (.invokespecial 347, 3) := by decide +kernel
theorem dX6_refuseFault_20 : decode cX6_refuseFault 20 = .ok (.athrow, 1) := by decide +kernel
theorem dX6_refuseFault_21 : decode cX6_refuseFault 21 = .ok (.return_, 1) := by decide +kernel
abbrev rm_X6_refuseFault : Room := { frames := 6, cells := 1, slots := 6, locals := 100 }
def f_X6_refuseFault (cy : Nat → ClassId) (a0 : Nat) (a1 : Int32) (a2 : Int32) (μ : Mem) : Option ((String × Mem) ⊕ Mem) :=
  if isO μ a0 5 = true then ((f_X6_keepFault cy a0 a1 a2 μ).bind fun μ3 => if a1 = 0 then (some (.inr μ3)) else some (.inl ("java/lang/IllegalArgumentException", μ3))) else none
set_option maxRecDepth 100000 in
set_option maxHeartbeats 4000000 in
theorem c_X6_refuseFault {l : Launch} {g : Wg} {L : List Nat} {μ : Mem} {a0 : Nat} {a1 : Int32} {a2 : Int32} {res : ((String × Mem) ⊕ Mem)} (hl0 : l.stackTraces = false) (hf : f_X6_refuseFault g.2 a0 a1 a2 μ = some res) : MetX l yX6_refuseFault cX6_refuseFault 3 none rm_X6_refuseFault g L μ [.ref a0, .int a1, .int a2] (rvV res) := by
  refine pw_metX (by decide) (Nat.le_of_ble_eq_true rfl) ?_
  intro p e s m args below meth c A ls H locs hC hr hlocks hl hw hX hno
  have hx := hC.1
  have hb := hC.2.1
  have hl : lv_has ls 3 [(0, .ref a0), (1, .int a1), (2, .int a2)] := hl
  unfold f_X6_refuseFault at hf
  refine lv_aload_n hx hb dX6_refuseFault_0 rfl (lv_at hl 0 rfl) ?_
  refine lv_iload_n hx hb dX6_refuseFault_1 rfl (lv_at hl 1 rfl) ?_
  refine lv_iload_n hx hb dX6_refuseFault_2 rfl (lv_at hl 2 rfl) ?_
  obtain ⟨h2, hf⟩ := o_ite hf
  obtain ⟨μ3, h1, hf⟩ := o_bind hf
  refine pw_goV hw (pw_runV (As := [.int a1, .int a2]) (rest := []) hC mm_X6_keepFault tw_417 (c_X6_keepFault h1 _) ⟨rfl, rfl, by decide, by decide⟩ hw h2 rfl hl.1 (Nat.le_of_ble_eq_true rfl) ⟨by decide, by decide⟩ rfl dX6_refuseFault_3) (fun H locs hw => ?_)
  refine lv_iload_n hx hb dX6_refuseFault_6 rfl (lv_at hl 1 rfl) ?_
  refine lv_if_eq (tgt := 21) hx hb dX6_refuseFault_7 (by decide) (fun c4 => ?_) (fun c4 => ?_)
  · have hf := o_pos c4 hf
    obtain rfl := o_retv hf
    exact pw_xvret hC hr hlocks (by decide) (by decide) hw dX6_refuseFault_21
  · have hf := o_neg c4 hf
    obtain rfl := o_retv hf
    exact pw_thrSW (text := "the bytes have a fault") hC hl0 hw hX hno hlocks rfl tws_X6_343 (by decide) hl.1 dX6_refuseFault_10 dX6_refuseFault_13 dX6_refuseFault_14 dX6_refuseFault_17 dX6_refuseFault_20 (by decide) (Nat.le_of_ble_eq_true rfl) (by decide) (by decide) (by decide) (by decide)
theorem dX6_finishChange_0 : decode cX6_finishChange 0 = .ok (.aload_n 0, 1) := by decide +kernel
theorem dX6_finishChange_1 : decode cX6_finishChange 1 = .ok (.iload_n 1, 1) := by decide +kernel
theorem dX6_finishChange_2 : decode cX6_finishChange 2 = .ok (.invokevirtual 95, 3) := by decide +kernel
theorem dX6_finishChange_5 : decode cX6_finishChange 5 = .ok (.astore_n 3, 1) := by decide +kernel
theorem dX6_finishChange_6 : decode cX6_finishChange 6 = .ok (.aload_n 3, 1) := by decide +kernel
theorem dX6_finishChange_7 : decode cX6_finishChange 7 = .ok (.iload_n 2, 1) := by decide +kernel
theorem dX6_finishChange_8 : decode cX6_finishChange 8 = .ok (.invokevirtual 348, 3) := by decide +kernel
theorem dX6_finishChange_11 : decode cX6_finishChange 11 = .ok (.ifCond .ne 14, 3) := by decide +kernel
theorem dX6_finishChange_14 : decode cX6_finishChange 14 = .ok (.new 303, 3) := by decide +kernel
theorem dX6_finishChange_17 : decode cX6_finishChange 17 = .ok (.dup, 1) := by decide +kernel
theorem dX6_finishChange_18 : decode cX6_finishChange 18 = .ok (.ldc_w 351, 3) := by decide +kernel
theorem dX6_finishChange_21 : decode cX6_finishChange 21 = .ok (.invokespecial 307, 3) := by decide +kernel
theorem dX6_finishChange_24 : decode cX6_finishChange 24 = .ok (.athrow, 1) := by decide +kernel
theorem dX6_finishChange_25 : decode cX6_finishChange 25 = .ok (.aload_n 0, 1) := by decide +kernel
theorem dX6_finishChange_26 : decode cX6_finishChange 26 = .ok (.iload_n 1, 1) := by decide +kernel
theorem dX6_finishChange_27 : decode cX6_finishChange 27 = .ok (.putfield 58, 3) := by decide +kernel
theorem dX6_finishChange_30 : decode cX6_finishChange 30 = .ok (.aload_n 3, 1) := by decide +kernel
theorem dX6_finishChange_31 : decode cX6_finishChange 31 = .ok (.getfield 102, 3) := by decide +kernel
theorem dX6_finishChange_34 : decode cX6_finishChange 34 = .ok (.getfield 73, 3) := by decide +kernel
theorem dX6_finishChange_37 : decode cX6_finishChange 37 = .ok (.ireturn, 1) := by decide +kernel
abbrev rm_X6_finishChange : Room := { frames := 7, cells := 2, slots := 12, locals := 126 }
def f_X6_finishChange (cy : Nat → ClassId) (a0 : Nat) (a1 : Int32) (a2 : Int32) (μ : Mem) : Option ((String × Mem) ⊕ (Int32 × Mem)) :=
  if isO μ a0 5 = true then (obX2 (f_X6_shelfOf cy a0 a1 μ) fun q6 μ3 => if isO μ3 q6 3 = true then (ob2 (f_X4_finishDraft cy q6 a2 μ3) fun r10 μ9 => if r10 = 0 then (some (.inl ("java/lang/UnsupportedOperationException", μ9))) else (wrF μ9 a0 5 9 (.int a1)).bind fun μ12 => (rdR μ12 q6 3 0).bind fun q14 => (rdI μ12 q14 4 1).bind fun v16 => some (.inr (v16, μ12))) else none) else none
set_option maxRecDepth 100000 in
set_option maxHeartbeats 4000000 in
theorem c_X6_finishChange {l : Launch} {g : Wg} {L : List Nat} {μ : Mem} {a0 : Nat} {a1 : Int32} {a2 : Int32} {res : ((String × Mem) ⊕ (Int32 × Mem))} (hl0 : l.stackTraces = false) (hf : f_X6_finishChange g.2 a0 a1 a2 μ = some res) : MetX l yX6_finishChange cX6_finishChange 4 (some .int) rm_X6_finishChange g L μ [.ref a0, .int a1, .int a2] (rvI res) := by
  refine pw_metX (by decide) (Nat.le_of_ble_eq_true rfl) ?_
  intro p e s m args below meth c A ls H locs hC hr hlocks hl hw hX hno
  have hx := hC.1
  have hb := hC.2.1
  have hl : lv_has ls 4 [(0, .ref a0), (1, .int a1), (2, .int a2)] := hl
  unfold f_X6_finishChange at hf
  refine lv_aload_n hx hb dX6_finishChange_0 rfl (lv_at hl 0 rfl) ?_
  refine lv_iload_n hx hb dX6_finishChange_1 rfl (lv_at hl 1 rfl) ?_
  obtain ⟨h2, hf⟩ := o_ite hf
  rcases o_bindX2 hf with ⟨er4, h1, rfl⟩ | ⟨q6, μ3, h1, hf⟩
  · exact pw_thru hw hno hlocks (pw_runVX (As := [.int a1]) (rest := []) hC mm_X6_shelfOf tw_429 (c_X6_shelfOf hl0 h1) ⟨by decide, by decide⟩ hw hX h2 rfl hl.1 (Nat.le_of_ble_eq_true rfl) ⟨by decide, by decide⟩ rfl dX6_finishChange_2) (by decide) (by decide)
  · refine pw_goX hw (pw_runVX (As := [.int a1]) (rest := []) hC mm_X6_shelfOf tw_429 (c_X6_shelfOf hl0 h1) ⟨by decide, by decide⟩ hw hX h2 rfl hl.1 (Nat.le_of_ble_eq_true rfl) ⟨by decide, by decide⟩ rfl dX6_finishChange_2) (fun H locs hw => ?_)
    refine W.eq (g2 := F0 m 5 ls [.ref q6]) rfl ?_
    refine W.widen (k := 1) (n := 6) (by decide) (by decide) ?_
    refine lv_astore_n (lv' := [(3, .ref q6), (0, .ref a0), (1, .int a1), (2, .int a2)]) hx hb dX6_finishChange_5 rfl hl (by decide) rfl (fun ls hl => ?_)
    refine lv_aload_n hx hb dX6_finishChange_6 rfl (lv_at hl 0 rfl) ?_
    refine lv_iload_n hx hb dX6_finishChange_7 rfl (lv_at hl 3 rfl) ?_
    obtain ⟨h8, hf⟩ := o_ite hf
    obtain ⟨r10, μ9, h7, hf⟩ := o_bind2 hf
    refine pw_goI hw (pw_runV (As := [.int a2]) (rest := []) hC mm_X4_finishDraft tw_817 (c_X4_finishDraft h7 _) ⟨rfl, rfl, by decide, by decide⟩ hw h8 rfl hl.1 (Nat.le_of_ble_eq_true rfl) ⟨by decide, by decide⟩ rfl dX6_finishChange_8) (fun H locs hw => ?_)
    refine lv_if_ne (tgt := 25) hx hb dX6_finishChange_11 (by decide) (fun c11 => ?_) (fun c11 => ?_)
    · have hf := o_neg c11 hf
      refine lv_aload_n hx hb dX6_finishChange_25 rfl (lv_at hl 1 rfl) ?_
      refine lv_iload_n hx hb dX6_finishChange_26 rfl (lv_at hl 2 rfl) ?_
      obtain ⟨μ12, h13, hf⟩ := o_bind hf
      refine pw_put hC fl_X6_58 hw h13 .int fd_X6_9 rfl rfl dX6_finishChange_27 (fun H locs hw => ?_)
      refine lv_aload_n hx hb dX6_finishChange_30 rfl (lv_at hl 0 rfl) ?_
      obtain ⟨q14, h15, hf⟩ := o_bind hf
      refine pw_get hC fl_X6_102 hw (rdR_F h15) dX6_finishChange_31 ?_
      obtain ⟨v16, h17, hf⟩ := o_bind hf
      refine pw_get hC fl_X6_73 hw (rdI_F h17) dX6_finishChange_34 ?_
      obtain rfl := o_retv hf
      exact pw_xiret hC hr hlocks (by decide) (by decide) hw dX6_finishChange_37
    · have hf := o_pos c11 hf
      obtain rfl := o_retv hf
      exact pw_thrSW (text := "the document would be too big") hC hl0 hw hX hno hlocks rfl tws_X6_303 (by decide) hl.1 dX6_finishChange_14 dX6_finishChange_17 dX6_finishChange_18 dX6_finishChange_21 dX6_finishChange_24 (by decide) (Nat.le_of_ble_eq_true rfl) (by decide) (by decide) (by decide) (by decide)
theorem dX6_take_0 : decode cX6_take 0 = .ok (.aload_n 0, 1) := by decide +kernel
theorem dX6_take_1 : decode cX6_take 1 = .ok (.invokevirtual 92, 3) := by decide +kernel
theorem dX6_take_4 : decode cX6_take 4 = .ok (.aload_n 0, 1) := by decide +kernel
theorem dX6_take_5 : decode cX6_take 5 = .ok (.iload_n 1, 1) := by decide +kernel
theorem dX6_take_6 : decode cX6_take 6 = .ok (.invokevirtual 95, 3) := by decide +kernel
theorem dX6_take_9 : decode cX6_take 9 = .ok (.astore_n 2, 1) := by decide +kernel
theorem dX6_take_10 : decode cX6_take 10 = .ok (.aload_n 0, 1) := by decide +kernel
theorem dX6_take_11 : decode cX6_take 11 = .ok (.getfield 27, 3) := by decide +kernel
theorem dX6_take_14 : decode cX6_take 14 = .ok (.aload_n 0, 1) := by decide +kernel
theorem dX6_take_15 : decode cX6_take 15 = .ok (.getfield 18, 3) := by decide +kernel
theorem dX6_take_18 : decode cX6_take 18 = .ok (.invokevirtual 79, 3) := by decide +kernel
theorem dX6_take_21 : decode cX6_take 21 = .ok (.aload_n 0, 1) := by decide +kernel
theorem dX6_take_22 : decode cX6_take 22 = .ok (.aload_n 0, 1) := by decide +kernel
theorem dX6_take_23 : decode cX6_take 23 = .ok (.getfield 27, 3) := by decide +kernel
theorem dX6_take_26 : decode cX6_take 26 = .ok (.getfield 82, 3) := by decide +kernel
theorem dX6_take_29 : decode cX6_take 29 = .ok (.aload_n 0, 1) := by decide +kernel
theorem dX6_take_30 : decode cX6_take 30 = .ok (.getfield 27, 3) := by decide +kernel
theorem dX6_take_33 : decode cX6_take 33 = .ok (.getfield 85, 3) := by decide +kernel
theorem dX6_take_36 : decode cX6_take 36 = .ok (.invokevirtual 99, 3) := by decide +kernel
theorem dX6_take_39 : decode cX6_take 39 = .ok (.aload_n 2, 1) := by decide +kernel
theorem dX6_take_40 : decode cX6_take 40 = .ok (.aload_n 0, 1) := by decide +kernel
theorem dX6_take_41 : decode cX6_take 41 = .ok (.getfield 18, 3) := by decide +kernel
theorem dX6_take_44 : decode cX6_take 44 = .ok (.invokevirtual 70, 3) := by decide +kernel
theorem dX6_take_47 : decode cX6_take 47 = .ok (.aload_n 2, 1) := by decide +kernel
theorem dX6_take_48 : decode cX6_take 48 = .ok (.getfield 102, 3) := by decide +kernel
theorem dX6_take_51 : decode cX6_take 51 = .ok (.getfield 73, 3) := by decide +kernel
theorem dX6_take_54 : decode cX6_take 54 = .ok (.ireturn, 1) := by decide +kernel
abbrev rm_X6_take : Room := { frames := 126, cells := 2, slots := 12, locals := 3503 }
def f_X6_take (cy : Nat → ClassId) (a0 : Nat) (a1 : Int32) (μ : Mem) : Option ((String × Mem) ⊕ (Int32 × Mem)) :=
  if isO μ a0 5 = true then ((f_X6_useTapeUp cy a0 μ).bind fun μ3 => if isO μ3 a0 5 = true then (obX2 (f_X6_shelfOf cy a0 a1 μ3) fun q9 μ6 => (rdR μ6 a0 5 3).bind fun q10 => (rdR μ6 a0 5 1).bind fun q12 => if isO μ6 q10 1 = true then ((f_X2_judgeRoot cy q10 q12 μ6).bind fun μ16 => (rdR μ16 a0 5 3).bind fun q17 => (rdI μ16 q17 1 1).bind fun v19 => (rdR μ16 a0 5 3).bind fun q21 => (rdI μ16 q21 1 2).bind fun v23 => if isO μ16 a0 5 = true then (obX (f_X6_refuseFault cy a0 v19 v23 μ16) fun μ27 => (rdR μ27 a0 5 1).bind fun q30 => if isO μ27 q9 3 = true then ((f_X4_become cy q9 q30 μ27).bind fun μ34 => (rdR μ34 q9 3 0).bind fun q35 => (rdI μ34 q35 4 1).bind fun v37 => some (.inr (v37, μ34))) else none) else none) else none) else none) else none
set_option maxRecDepth 100000 in
set_option maxHeartbeats 4000000 in
theorem c_X6_take {l : Launch} {g : Wg} {L : List Nat} {μ : Mem} {a0 : Nat} {a1 : Int32} {res : ((String × Mem) ⊕ (Int32 × Mem))} (hl0 : l.stackTraces = false) (hf : f_X6_take g.2 a0 a1 μ = some res) : MetX l yX6_take cX6_take 3 (some .int) rm_X6_take g L μ [.ref a0, .int a1] (rvI res) := by
  refine pw_metX (by decide) (Nat.le_of_ble_eq_true rfl) ?_
  intro p e s m args below meth c A ls H locs hC hr hlocks hl hw hX hno
  have hx := hC.1
  have hb := hC.2.1
  have hl : lv_has ls 3 [(0, .ref a0), (1, .int a1)] := hl
  unfold f_X6_take at hf
  refine lv_aload_n hx hb dX6_take_0 rfl (lv_at hl 0 rfl) ?_
  obtain ⟨h2, hf⟩ := o_ite hf
  obtain ⟨μ3, h1, hf⟩ := o_bind hf
  refine pw_goV hw (pw_runV (As := []) (rest := []) hC mm_X6_useTapeUp tw_551 (c_X6_useTapeUp h1 _) ⟨rfl, rfl, by decide, by decide⟩ hw h2 rfl hl.1 (Nat.le_of_ble_eq_true rfl) ⟨by decide, by decide⟩ rfl dX6_take_1) (fun H locs hw => ?_)
  refine lv_aload_n hx hb dX6_take_4 rfl (lv_at hl 0 rfl) ?_
  refine lv_iload_n hx hb dX6_take_5 rfl (lv_at hl 1 rfl) ?_
  obtain ⟨h5, hf⟩ := o_ite hf
  rcases o_bindX2 hf with ⟨er7, h4, rfl⟩ | ⟨q9, μ6, h4, hf⟩
  · exact pw_thru hw hno hlocks (pw_runVX (As := [.int a1]) (rest := []) hC mm_X6_shelfOf tw_429 (c_X6_shelfOf hl0 h4) ⟨by decide, by decide⟩ hw hX h5 rfl hl.1 (Nat.le_of_ble_eq_true rfl) ⟨by decide, by decide⟩ rfl dX6_take_6) (by decide) (by decide)
  · refine pw_goX hw (pw_runVX (As := [.int a1]) (rest := []) hC mm_X6_shelfOf tw_429 (c_X6_shelfOf hl0 h4) ⟨by decide, by decide⟩ hw hX h5 rfl hl.1 (Nat.le_of_ble_eq_true rfl) ⟨by decide, by decide⟩ rfl dX6_take_6) (fun H locs hw => ?_)
    refine W.eq (g2 := F0 m 9 ls [.ref q9]) rfl ?_
    refine W.widen (k := 1) (n := 6) (by decide) (by decide) ?_
    refine lv_astore_n (lv' := [(2, .ref q9), (0, .ref a0), (1, .int a1)]) hx hb dX6_take_9 rfl hl (by decide) rfl (fun ls hl => ?_)
    refine lv_aload_n hx hb dX6_take_10 rfl (lv_at hl 1 rfl) ?_
    obtain ⟨q10, h11, hf⟩ := o_bind hf
    refine pw_get hC fl_X6_27 hw (rdR_F h11) dX6_take_11 ?_
    refine lv_aload_n hx hb dX6_take_14 rfl (lv_at hl 1 rfl) ?_
    obtain ⟨q12, h13, hf⟩ := o_bind hf
    refine pw_get hC fl_X6_18 hw (rdR_F h13) dX6_take_15 ?_
    obtain ⟨h15, hf⟩ := o_ite hf
    obtain ⟨μ16, h14, hf⟩ := o_bind hf
    refine pw_goV hw (pw_runV (As := [.ref q12]) (rest := []) hC mm_X2_judgeRoot tw_333 (c_X2_judgeRoot h14 _) ⟨rfl, rfl, by decide, by decide⟩ hw h15 rfl hl.1 (Nat.le_of_ble_eq_true rfl) ⟨by decide, by decide⟩ rfl dX6_take_18) (fun H locs hw => ?_)
    refine lv_aload_n hx hb dX6_take_21 rfl (lv_at hl 1 rfl) ?_
    refine lv_aload_n hx hb dX6_take_22 rfl (lv_at hl 1 rfl) ?_
    obtain ⟨q17, h18, hf⟩ := o_bind hf
    refine pw_get hC fl_X6_27 hw (rdR_F h18) dX6_take_23 ?_
    obtain ⟨v19, h20, hf⟩ := o_bind hf
    refine pw_get hC fl_X6_82 hw (rdI_F h20) dX6_take_26 ?_
    refine lv_aload_n hx hb dX6_take_29 rfl (lv_at hl 1 rfl) ?_
    obtain ⟨q21, h22, hf⟩ := o_bind hf
    refine pw_get hC fl_X6_27 hw (rdR_F h22) dX6_take_30 ?_
    obtain ⟨v23, h24, hf⟩ := o_bind hf
    refine pw_get hC fl_X6_85 hw (rdI_F h24) dX6_take_33 ?_
    obtain ⟨h26, hf⟩ := o_ite hf
    rcases o_bindX hf with ⟨er28, h25, rfl⟩ | ⟨μ27, h25, hf⟩
    · exact pw_thru hw hno hlocks (pw_runVX (As := [.int v19, .int v23]) (rest := []) hC mm_X6_refuseFault tw_557 (c_X6_refuseFault hl0 h25) ⟨by decide, by decide⟩ hw hX h26 rfl hl.1 (Nat.le_of_ble_eq_true rfl) ⟨by decide, by decide⟩ rfl dX6_take_36) (by decide) (by decide)
    · refine pw_goX hw (pw_runVX (As := [.int v19, .int v23]) (rest := []) hC mm_X6_refuseFault tw_557 (c_X6_refuseFault hl0 h25) ⟨by decide, by decide⟩ hw hX h26 rfl hl.1 (Nat.le_of_ble_eq_true rfl) ⟨by decide, by decide⟩ rfl dX6_take_36) (fun H locs hw => ?_)
      refine W.eq (g2 := F0 m 39 ls []) rfl ?_
      refine W.widen (k := 2) (n := 12) (by decide) (by decide) ?_
      refine lv_aload_n hx hb dX6_take_39 rfl (lv_at hl 0 rfl) ?_
      refine lv_aload_n hx hb dX6_take_40 rfl (lv_at hl 1 rfl) ?_
      obtain ⟨q30, h31, hf⟩ := o_bind hf
      refine pw_get hC fl_X6_18 hw (rdR_F h31) dX6_take_41 ?_
      obtain ⟨h33, hf⟩ := o_ite hf
      obtain ⟨μ34, h32, hf⟩ := o_bind hf
      refine pw_goV hw (pw_runV (As := [.ref q30]) (rest := []) hC mm_X4_become tw_223 (c_X4_become h32 _) ⟨rfl, rfl, by decide, by decide⟩ hw h33 rfl hl.1 (Nat.le_of_ble_eq_true rfl) ⟨by decide, by decide⟩ rfl dX6_take_44) (fun H locs hw => ?_)
      refine lv_aload_n hx hb dX6_take_47 rfl (lv_at hl 0 rfl) ?_
      obtain ⟨q35, h36, hf⟩ := o_bind hf
      refine pw_get hC fl_X6_102 hw (rdR_F h36) dX6_take_48 ?_
      obtain ⟨v37, h38, hf⟩ := o_bind hf
      refine pw_get hC fl_X6_73 hw (rdI_F h38) dX6_take_51 ?_
      obtain rfl := o_retv hf
      exact pw_xiret hC hr hlocks (by decide) (by decide) hw dX6_take_54
theorem dX6_go_0 : decode cX6_go 0 = .ok (.aload_n 0, 1) := by decide +kernel
theorem dX6_go_1 : decode cX6_go 1 = .ok (.iload_n 1, 1) := by decide +kernel
theorem dX6_go_2 : decode cX6_go 2 = .ok (.invokevirtual 95, 3) := by decide +kernel
theorem dX6_go_5 : decode cX6_go 5 = .ok (.getfield 105, 3) := by decide +kernel
theorem dX6_go_8 : decode cX6_go 8 = .ok (.astore_n 3, 1) := by decide +kernel
theorem dX6_go_9 : decode cX6_go 9 = .ok (.aload_n 3, 1) := by decide +kernel
theorem dX6_go_10 : decode cX6_go 10 = .ok (.iload_n 2, 1) := by decide +kernel
theorem dX6_go_11 : decode cX6_go 11 = .ok (.invokevirtual 108, 3) := by decide +kernel
theorem dX6_go_14 : decode cX6_go 14 = .ok (.ifCond .ne 5, 3) := by decide +kernel
theorem dX6_go_17 : decode cX6_go 17 = .ok (.iconst 0, 1) := by decide +kernel
theorem dX6_go_18 : decode cX6_go 18 = .ok (.ireturn, 1) := by decide +kernel
theorem dX6_go_19 : decode cX6_go 19 = .ok (.aload_n 3, 1) := by decide +kernel
theorem dX6_go_20 : decode cX6_go 20 = .ok (.iload_n 2, 1) := by decide +kernel
theorem dX6_go_21 : decode cX6_go 21 = .ok (.putfield 112, 3) := by decide +kernel
theorem dX6_go_24 : decode cX6_go 24 = .ok (.iconst 1, 1) := by decide +kernel
theorem dX6_go_25 : decode cX6_go 25 = .ok (.ireturn, 1) := by decide +kernel
abbrev rm_X6_go : Room := { frames := 7, cells := 1, slots := 6, locals := 121 }
def f_X6_go (cy : Nat → ClassId) (a0 : Nat) (a1 : Int32) (a2 : Int32) (μ : Mem) : Option ((String × Mem) ⊕ (Int32 × Mem)) :=
  if isO μ a0 5 = true then (obX2 (f_X6_shelfOf cy a0 a1 μ) fun q6 μ3 => (rdR μ3 q6 3 1).bind fun q7 => if isO μ3 q7 0 = true then (ob2 (f_X0_hasElement cy q7 a2 μ3) fun r12 μ11 => if r12 = 0 then (some (.inr (0, μ11))) else (wrF μ11 q7 0 5 (.int a2)).bind fun μ14 => some (.inr (1, μ14))) else none) else none
set_option maxRecDepth 100000 in
set_option maxHeartbeats 4000000 in
theorem c_X6_go {l : Launch} {g : Wg} {L : List Nat} {μ : Mem} {a0 : Nat} {a1 : Int32} {a2 : Int32} {res : ((String × Mem) ⊕ (Int32 × Mem))} (hl0 : l.stackTraces = false) (hf : f_X6_go g.2 a0 a1 a2 μ = some res) : MetX l yX6_go cX6_go 4 (some .boolean) rm_X6_go g L μ [.ref a0, .int a1, .int a2] (rvI res) := by
  refine pw_metX (by decide) (Nat.le_of_ble_eq_true rfl) ?_
  intro p e s m args below meth c A ls H locs hC hr hlocks hl hw hX hno
  have hx := hC.1
  have hb := hC.2.1
  have hl : lv_has ls 4 [(0, .ref a0), (1, .int a1), (2, .int a2)] := hl
  unfold f_X6_go at hf
  refine lv_aload_n hx hb dX6_go_0 rfl (lv_at hl 0 rfl) ?_
  refine lv_iload_n hx hb dX6_go_1 rfl (lv_at hl 1 rfl) ?_
  obtain ⟨h2, hf⟩ := o_ite hf
  rcases o_bindX2 hf with ⟨er4, h1, rfl⟩ | ⟨q6, μ3, h1, hf⟩
  · exact pw_thru hw hno hlocks (pw_runVX (As := [.int a1]) (rest := []) hC mm_X6_shelfOf tw_429 (c_X6_shelfOf hl0 h1) ⟨by decide, by decide⟩ hw hX h2 rfl hl.1 (Nat.le_of_ble_eq_true rfl) ⟨by decide, by decide⟩ rfl dX6_go_2) (by decide) (by decide)
  · refine pw_goX hw (pw_runVX (As := [.int a1]) (rest := []) hC mm_X6_shelfOf tw_429 (c_X6_shelfOf hl0 h1) ⟨by decide, by decide⟩ hw hX h2 rfl hl.1 (Nat.le_of_ble_eq_true rfl) ⟨by decide, by decide⟩ rfl dX6_go_2) (fun H locs hw => ?_)
    refine W.eq (g2 := F0 m 5 ls [.ref q6]) rfl ?_
    refine W.widen (k := 1) (n := 6) (by decide) (by decide) ?_
    obtain ⟨q7, h8, hf⟩ := o_bind hf
    refine pw_get hC fl_X6_105 hw (rdR_F h8) dX6_go_5 ?_
    refine lv_astore_n (lv' := [(3, .ref q7), (0, .ref a0), (1, .int a1), (2, .int a2)]) hx hb dX6_go_8 rfl hl (by decide) rfl (fun ls hl => ?_)
    refine lv_aload_n hx hb dX6_go_9 rfl (lv_at hl 0 rfl) ?_
    refine lv_iload_n hx hb dX6_go_10 rfl (lv_at hl 3 rfl) ?_
    obtain ⟨h10, hf⟩ := o_ite hf
    obtain ⟨r12, μ11, h9, hf⟩ := o_bind2 hf
    refine pw_goI hw (pw_runV (As := [.int a2]) (rest := []) hC mm_X0_hasElement tw_584 (c_X0_hasElement h9 _) ⟨rfl, rfl, by decide, by decide⟩ hw h10 rfl hl.1 (Nat.le_of_ble_eq_true rfl) ⟨by decide, by decide⟩ rfl dX6_go_11) (fun H locs hw => ?_)
    refine lv_if_ne (tgt := 19) hx hb dX6_go_14 (by decide) (fun c13 => ?_) (fun c13 => ?_)
    · have hf := o_neg c13 hf
      refine lv_aload_n hx hb dX6_go_19 rfl (lv_at hl 0 rfl) ?_
      refine lv_iload_n hx hb dX6_go_20 rfl (lv_at hl 3 rfl) ?_
      obtain ⟨μ14, h15, hf⟩ := o_bind hf
      refine pw_put hC fl_X6_112 hw h15 .int fd_X0_5 rfl rfl dX6_go_21 (fun H locs hw => ?_)
      refine lv_iconst (v := 1) hx hb dX6_go_24 nc_iconst_1 ?_
      obtain rfl := o_retv hf
      exact pw_xzret hC hr hlocks (Or.inr rfl) (by decide) (by decide) hw dX6_go_25
    · have hf := o_pos c13 hf
      refine lv_iconst (v := 0) hx hb dX6_go_17 nc_iconst_0 ?_
      obtain rfl := o_retv hf
      exact pw_xzret hC hr hlocks (Or.inl rfl) (by decide) (by decide) hw dX6_go_18
theorem dX6_find_0 : decode cX6_find 0 = .ok (.aload_n 0, 1) := by decide +kernel
theorem dX6_find_1 : decode cX6_find 1 = .ok (.invokevirtual 92, 3) := by decide +kernel
theorem dX6_find_4 : decode cX6_find 4 = .ok (.aload_n 0, 1) := by decide +kernel
theorem dX6_find_5 : decode cX6_find 5 = .ok (.iload_n 1, 1) := by decide +kernel
theorem dX6_find_6 : decode cX6_find 6 = .ok (.invokevirtual 95, 3) := by decide +kernel
theorem dX6_find_9 : decode cX6_find 9 = .ok (.astore_n 2, 1) := by decide +kernel
theorem dX6_find_10 : decode cX6_find 10 = .ok (.aload_n 2, 1) := by decide +kernel
theorem dX6_find_11 : decode cX6_find 11 = .ok (.getfield 105, 3) := by decide +kernel
theorem dX6_find_14 : decode cX6_find 14 = .ok (.aload_n 2, 1) := by decide +kernel
theorem dX6_find_15 : decode cX6_find 15 = .ok (.getfield 102, 3) := by decide +kernel
theorem dX6_find_18 : decode cX6_find 18 = .ok (.aload_n 0, 1) := by decide +kernel
theorem dX6_find_19 : decode cX6_find 19 = .ok (.getfield 18, 3) := by decide +kernel
theorem dX6_find_22 : decode cX6_find 22 = .ok (.iconst 0, 1) := by decide +kernel
theorem dX6_find_23 : decode cX6_find 23 = .ok (.aload_n 0, 1) := by decide +kernel
theorem dX6_find_24 : decode cX6_find 24 = .ok (.getfield 18, 3) := by decide +kernel
theorem dX6_find_27 : decode cX6_find 27 = .ok (.getfield 73, 3) := by decide +kernel
theorem dX6_find_30 : decode cX6_find 30 = .ok (.invokevirtual 115, 3) := by decide +kernel
theorem dX6_find_33 : decode cX6_find 33 = .ok (.istore_n 3, 1) := by decide +kernel
theorem dX6_find_34 : decode cX6_find 34 = .ok (.iload_n 3, 1) := by decide +kernel
theorem dX6_find_35 : decode cX6_find 35 = .ok (.iconst (-1), 1) := by decide +kernel
theorem dX6_find_36 : decode cX6_find 36 = .ok (.if_icmp .eq 11, 3) := by decide +kernel
theorem dX6_find_39 : decode cX6_find 39 = .ok (.aload_n 2, 1) := by decide +kernel
theorem dX6_find_40 : decode cX6_find 40 = .ok (.getfield 105, 3) := by decide +kernel
theorem dX6_find_43 : decode cX6_find 43 = .ok (.iload_n 3, 1) := by decide +kernel
theorem dX6_find_44 : decode cX6_find 44 = .ok (.putfield 112, 3) := by decide +kernel
theorem dX6_find_47 : decode cX6_find 47 = .ok (.iload_n 3, 1) := by decide +kernel
theorem dX6_find_48 : decode cX6_find 48 = .ok (.ireturn, 1) := by decide +kernel
abbrev rm_X6_find : Room := { frames := 7, cells := 1, slots := 6, locals := 124 }
def f_X6_find_L47 (cy : Nat → ClassId) (a3 : Int32) (μ : Mem) : Option ((String × Mem) ⊕ (Int32 × Mem)) :=
  some (.inr (a3, μ))
set_option maxRecDepth 100000 in
set_option maxHeartbeats 4000000 in
theorem w_X6_find_L47 {p : Program} {l : Launch} {e : Env} {s : State} {m : MethodId} {args : Array Value} {below : List Frame} {meth : Method} {c : Code} {A : Nat → Prop} {g : Wg} {L : List Nat} {res : ((String × Mem) ⊕ (Int32 × Mem))} (hC : CX p m c cX6_find 4 s args RX6) (hr : meth.sig.returnType = (some .int)) (hlocks : meth.locks = false) (hl0 : l.stackTraces = false) (hX : XS A s s.heap) (hno : ∀ x ∈ c.exceptionTable.toList, False) : ∀ (a3 : Int32) (μ : Mem) (H : Heap) (locs : List Loc) (ls : Array Slot), lv_has ls 4 [(3, .int a3)] → PW g L μ A s H locs → f_X6_find_L47 g.2 a3 μ = some res → W p l e rm_X6_find s m args below meth c H locs 1 6 (vx_MQ below (QX g L A (rvI res)) (XX g L A (rvI res)) args s 1 6 A) (F0 m 47 ls []) := by
  have hx := hC.1
  have hb := hC.2.1
  intro a3 μ H locs ls hl hw hf
  unfold f_X6_find_L47 at hf
  refine lv_iload_n hx hb dX6_find_47 rfl (lv_at hl 0 rfl) ?_
  obtain rfl := o_retv hf
  exact pw_xiret hC hr hlocks (by decide) (by decide) hw dX6_find_48
def f_X6_find (cy : Nat → ClassId) (a0 : Nat) (a1 : Int32) (μ : Mem) : Option ((String × Mem) ⊕ (Int32 × Mem)) :=
  if isO μ a0 5 = true then ((f_X6_useTapeUp cy a0 μ).bind fun μ3 => if isO μ3 a0 5 = true then (obX2 (f_X6_shelfOf cy a0 a1 μ3) fun q9 μ6 => (rdR μ6 q9 3 1).bind fun q10 => (rdR μ6 q9 3 0).bind fun q12 => (rdR μ6 a0 5 1).bind fun q14 => (rdR μ6 a0 5 1).bind fun q16 => (rdI μ6 q16 4 1).bind fun v18 => if isO μ6 q10 0 = true then (ob2 (f_X0_numberOfName cy q10 q12 q14 0 v18 μ6) fun r23 μ22 => if r23 = (-1) then (f_X6_find_L47 cy r23 μ22) else (rdR μ22 q9 3 1).bind fun q25 => (wrF μ22 q25 0 5 (.int r23)).bind fun μ27 => f_X6_find_L47 cy r23 μ27) else none) else none) else none
set_option maxRecDepth 100000 in
set_option maxHeartbeats 4000000 in
theorem c_X6_find {l : Launch} {g : Wg} {L : List Nat} {μ : Mem} {a0 : Nat} {a1 : Int32} {res : ((String × Mem) ⊕ (Int32 × Mem))} (hl0 : l.stackTraces = false) (hf : f_X6_find g.2 a0 a1 μ = some res) : MetX l yX6_find cX6_find 4 (some .int) rm_X6_find g L μ [.ref a0, .int a1] (rvI res) := by
  refine pw_metX (by decide) (Nat.le_of_ble_eq_true rfl) ?_
  intro p e s m args below meth c A ls H locs hC hr hlocks hl hw hX hno
  have hx := hC.1
  have hb := hC.2.1
  have hl : lv_has ls 4 [(0, .ref a0), (1, .int a1)] := hl
  unfold f_X6_find at hf
  refine lv_aload_n hx hb dX6_find_0 rfl (lv_at hl 0 rfl) ?_
  obtain ⟨h2, hf⟩ := o_ite hf
  obtain ⟨μ3, h1, hf⟩ := o_bind hf
  refine pw_goV hw (pw_runV (As := []) (rest := []) hC mm_X6_useTapeUp tw_551 (c_X6_useTapeUp h1 _) ⟨rfl, rfl, by decide, by decide⟩ hw h2 rfl hl.1 (Nat.le_of_ble_eq_true rfl) ⟨by decide, by decide⟩ rfl dX6_find_1) (fun H locs hw => ?_)
  refine lv_aload_n hx hb dX6_find_4 rfl (lv_at hl 0 rfl) ?_
  refine lv_iload_n hx hb dX6_find_5 rfl (lv_at hl 1 rfl) ?_
  obtain ⟨h5, hf⟩ := o_ite hf
  rcases o_bindX2 hf with ⟨er7, h4, rfl⟩ | ⟨q9, μ6, h4, hf⟩
  · exact pw_thru hw hno hlocks (pw_runVX (As := [.int a1]) (rest := []) hC mm_X6_shelfOf tw_429 (c_X6_shelfOf hl0 h4) ⟨by decide, by decide⟩ hw hX h5 rfl hl.1 (Nat.le_of_ble_eq_true rfl) ⟨by decide, by decide⟩ rfl dX6_find_6) (by decide) (by decide)
  · refine pw_goX hw (pw_runVX (As := [.int a1]) (rest := []) hC mm_X6_shelfOf tw_429 (c_X6_shelfOf hl0 h4) ⟨by decide, by decide⟩ hw hX h5 rfl hl.1 (Nat.le_of_ble_eq_true rfl) ⟨by decide, by decide⟩ rfl dX6_find_6) (fun H locs hw => ?_)
    refine W.eq (g2 := F0 m 9 ls [.ref q9]) rfl ?_
    refine W.widen (k := 1) (n := 6) (by decide) (by decide) ?_
    refine lv_astore_n (lv' := [(2, .ref q9), (0, .ref a0), (1, .int a1)]) hx hb dX6_find_9 rfl hl (by decide) rfl (fun ls hl => ?_)
    refine lv_aload_n hx hb dX6_find_10 rfl (lv_at hl 0 rfl) ?_
    obtain ⟨q10, h11, hf⟩ := o_bind hf
    refine pw_get hC fl_X6_105 hw (rdR_F h11) dX6_find_11 ?_
    refine lv_aload_n hx hb dX6_find_14 rfl (lv_at hl 0 rfl) ?_
    obtain ⟨q12, h13, hf⟩ := o_bind hf
    refine pw_get hC fl_X6_102 hw (rdR_F h13) dX6_find_15 ?_
    refine lv_aload_n hx hb dX6_find_18 rfl (lv_at hl 1 rfl) ?_
    obtain ⟨q14, h15, hf⟩ := o_bind hf
    refine pw_get hC fl_X6_18 hw (rdR_F h15) dX6_find_19 ?_
    refine lv_iconst (v := 0) hx hb dX6_find_22 nc_iconst_0 ?_
    refine lv_aload_n hx hb dX6_find_23 rfl (lv_at hl 1 rfl) ?_
    obtain ⟨q16, h17, hf⟩ := o_bind hf
    refine pw_get hC fl_X6_18 hw (rdR_F h17) dX6_find_24 ?_
    obtain ⟨v18, h19, hf⟩ := o_bind hf
    refine pw_get hC fl_X6_73 hw (rdI_F h19) dX6_find_27 ?_
    obtain ⟨h21, hf⟩ := o_ite hf
    obtain ⟨r23, μ22, h20, hf⟩ := o_bind2 hf
    refine pw_goI hw (pw_runV (As := [.ref q12, .ref q14, .int 0, .int v18]) (rest := []) hC mm_X0_numberOfName tw_595 (c_X0_numberOfName h20 _) ⟨rfl, rfl, by decide, by decide⟩ hw h21 rfl hl.1 (Nat.le_of_ble_eq_true rfl) ⟨by decide, by decide⟩ rfl dX6_find_30) (fun H locs hw => ?_)
    refine lv_istore_n (lv' := [(3, .int r23), (2, .ref q9), (0, .ref a0), (1, .int a1)]) hx hb dX6_find_33 rfl hl (by decide) rfl (fun ls hl => ?_)
    refine lv_iload_n hx hb dX6_find_34 rfl (lv_at hl 0 rfl) ?_
    refine lv_iconst (v := (-1)) hx hb dX6_find_35 nc_iconst_m1 ?_
    refine lv_icmp_eq (tgt := 47) hx hb dX6_find_36 (by decide) (fun c24 => ?_) (fun c24 => ?_)
    · have hf := o_pos c24 hf
      refine W.widen (k := 1) (n := 6) (by decide) (by decide) ?_
      exact w_X6_find_L47 hC hr hlocks hl0 hX hno _ _ _ _ ls (lv_sub hl [0] rfl) hw hf
    · have hf := o_neg c24 hf
      refine lv_aload_n hx hb dX6_find_39 rfl (lv_at hl 1 rfl) ?_
      obtain ⟨q25, h26, hf⟩ := o_bind hf
      refine pw_get hC fl_X6_105 hw (rdR_F h26) dX6_find_40 ?_
      refine lv_iload_n hx hb dX6_find_43 rfl (lv_at hl 0 rfl) ?_
      obtain ⟨μ27, h28, hf⟩ := o_bind hf
      refine pw_put hC fl_X6_112 hw h28 .int fd_X0_5 rfl rfl dX6_find_44 (fun H locs hw => ?_)
      refine W.widen (k := 1) (n := 6) (by decide) (by decide) ?_
      exact w_X6_find_L47 hC hr hlocks hl0 hX hno _ _ _ _ ls (lv_sub hl [0] rfl) hw hf
theorem dX6_path_0 : decode cX6_path 0 = .ok (.aload_n 0, 1) := by decide +kernel
theorem dX6_path_1 : decode cX6_path 1 = .ok (.invokevirtual 92, 3) := by decide +kernel
theorem dX6_path_4 : decode cX6_path 4 = .ok (.aload_n 0, 1) := by decide +kernel
theorem dX6_path_5 : decode cX6_path 5 = .ok (.iload_n 1, 1) := by decide +kernel
theorem dX6_path_6 : decode cX6_path 6 = .ok (.invokevirtual 95, 3) := by decide +kernel
theorem dX6_path_9 : decode cX6_path 9 = .ok (.astore_n 2, 1) := by decide +kernel
theorem dX6_path_10 : decode cX6_path 10 = .ok (.aload_n 0, 1) := by decide +kernel
theorem dX6_path_11 : decode cX6_path 11 = .ok (.getfield 40, 3) := by decide +kernel
theorem dX6_path_14 : decode cX6_path 14 = .ok (.aload_n 2, 1) := by decide +kernel
theorem dX6_path_15 : decode cX6_path 15 = .ok (.getfield 102, 3) := by decide +kernel
theorem dX6_path_18 : decode cX6_path 18 = .ok (.invokevirtual 119, 3) := by decide +kernel
theorem dX6_path_21 : decode cX6_path 21 = .ok (.iconst 0, 1) := by decide +kernel
theorem dX6_path_22 : decode cX6_path 22 = .ok (.istore_n 3, 1) := by decide +kernel
theorem dX6_path_23 : decode cX6_path 23 = .ok (.iconst 0, 1) := by decide +kernel
theorem dX6_path_24 : decode cX6_path 24 = .ok (.istore 4, 2) := by decide +kernel
theorem dX6_path_26 : decode cX6_path 26 = .ok (.iload 4, 2) := by decide +kernel
theorem dX6_path_28 : decode cX6_path 28 = .ok (.bipush 24, 2) := by decide +kernel
theorem dX6_path_30 : decode cX6_path 30 = .ok (.if_icmp .ge 130, 3) := by decide +kernel
theorem dX6_path_33 : decode cX6_path 33 = .ok (.aload_n 0, 1) := by decide +kernel
theorem dX6_path_34 : decode cX6_path 34 = .ok (.getfield 18, 3) := by decide +kernel
theorem dX6_path_37 : decode cX6_path 37 = .ok (.iload_n 3, 1) := by decide +kernel
theorem dX6_path_38 : decode cX6_path 38 = .ok (.aload_n 0, 1) := by decide +kernel
theorem dX6_path_39 : decode cX6_path 39 = .ok (.getfield 18, 3) := by decide +kernel
theorem dX6_path_42 : decode cX6_path 42 = .ok (.getfield 73, 3) := by decide +kernel
theorem dX6_path_45 : decode cX6_path 45 = .ok (.invokevirtual 122, 3) := by decide +kernel
theorem dX6_path_48 : decode cX6_path 48 = .ok (.istore 5, 2) := by decide +kernel
theorem dX6_path_50 : decode cX6_path 50 = .ok (.aload_n 0, 1) := by decide +kernel
theorem dX6_path_51 : decode cX6_path 51 = .ok (.getfield 40, 3) := by decide +kernel
theorem dX6_path_54 : decode cX6_path 54 = .ok (.aload_n 2, 1) := by decide +kernel
theorem dX6_path_55 : decode cX6_path 55 = .ok (.getfield 102, 3) := by decide +kernel
theorem dX6_path_58 : decode cX6_path 58 = .ok (.aload_n 0, 1) := by decide +kernel
theorem dX6_path_59 : decode cX6_path 59 = .ok (.getfield 18, 3) := by decide +kernel
theorem dX6_path_62 : decode cX6_path 62 = .ok (.iload_n 3, 1) := by decide +kernel
theorem dX6_path_63 : decode cX6_path 63 = .ok (.iload 5, 2) := by decide +kernel
theorem dX6_path_65 : decode cX6_path 65 = .ok (.iconst (-1), 1) := by decide +kernel
theorem dX6_path_66 : decode cX6_path 66 = .ok (.if_icmp .ne 13, 3) := by decide +kernel
theorem dX6_path_69 : decode cX6_path 69 = .ok (.aload_n 0, 1) := by decide +kernel
theorem dX6_path_70 : decode cX6_path 70 = .ok (.getfield 18, 3) := by decide +kernel
theorem dX6_path_73 : decode cX6_path 73 = .ok (.getfield 73, 3) := by decide +kernel
theorem dX6_path_76 : decode cX6_path 76 = .ok (.goto 5, 3) := by decide +kernel
theorem dX6_path_79 : decode cX6_path 79 = .ok (.iload 5, 2) := by decide +kernel
theorem dX6_path_81 : decode cX6_path 81 = .ok (.invokevirtual 115, 3) := by decide +kernel
theorem dX6_path_84 : decode cX6_path 84 = .ok (.istore 6, 2) := by decide +kernel
theorem dX6_path_86 : decode cX6_path 86 = .ok (.iload 6, 2) := by decide +kernel
theorem dX6_path_88 : decode cX6_path 88 = .ok (.iconst (-1), 1) := by decide +kernel
theorem dX6_path_89 : decode cX6_path 89 = .ok (.if_icmp .ne 6, 3) := by decide +kernel
theorem dX6_path_92 : decode cX6_path 92 = .ok (.iload 4, 2) := by decide +kernel
theorem dX6_path_94 : decode cX6_path 94 = .ok (.ireturn, 1) := by decide +kernel
theorem dX6_path_95 : decode cX6_path 95 = .ok (.aload_n 0, 1) := by decide +kernel
theorem dX6_path_96 : decode cX6_path 96 = .ok (.getfield 40, 3) := by decide +kernel
theorem dX6_path_99 : decode cX6_path 99 = .ok (.iload 6, 2) := by decide +kernel
theorem dX6_path_101 : decode cX6_path 101 = .ok (.putfield 112, 3) := by decide +kernel
theorem dX6_path_104 : decode cX6_path 104 = .ok (.iload 5, 2) := by decide +kernel
theorem dX6_path_106 : decode cX6_path 106 = .ok (.iconst (-1), 1) := by decide +kernel
theorem dX6_path_107 : decode cX6_path 107 = .ok (.if_icmp .ne 23, 3) := by decide +kernel
theorem dX6_path_110 : decode cX6_path 110 = .ok (.aload_n 2, 1) := by decide +kernel
theorem dX6_path_111 : decode cX6_path 111 = .ok (.getfield 105, 3) := by decide +kernel
theorem dX6_path_114 : decode cX6_path 114 = .ok (.aload_n 0, 1) := by decide +kernel
theorem dX6_path_115 : decode cX6_path 115 = .ok (.getfield 40, 3) := by decide +kernel
theorem dX6_path_118 : decode cX6_path 118 = .ok (.aload_n 2, 1) := by decide +kernel
theorem dX6_path_119 : decode cX6_path 119 = .ok (.getfield 102, 3) := by decide +kernel
theorem dX6_path_122 : decode cX6_path 122 = .ok (.invokevirtual 126, 3) := by decide +kernel
theorem dX6_path_125 : decode cX6_path 125 = .ok (.iload 4, 2) := by decide +kernel
theorem dX6_path_127 : decode cX6_path 127 = .ok (.iconst 1, 1) := by decide +kernel
theorem dX6_path_128 : decode cX6_path 128 = .ok (.iadd, 1) := by decide +kernel
theorem dX6_path_129 : decode cX6_path 129 = .ok (.ireturn, 1) := by decide +kernel
theorem dX6_path_130 : decode cX6_path 130 = .ok (.aload_n 0, 1) := by decide +kernel
theorem dX6_path_131 : decode cX6_path 131 = .ok (.getfield 40, 3) := by decide +kernel
theorem dX6_path_134 : decode cX6_path 134 = .ok (.aload_n 2, 1) := by decide +kernel
theorem dX6_path_135 : decode cX6_path 135 = .ok (.getfield 102, 3) := by decide +kernel
theorem dX6_path_138 : decode cX6_path 138 = .ok (.invokevirtual 129, 3) := by decide +kernel
theorem dX6_path_141 : decode cX6_path 141 = .ok (.ifCond .ne 8, 3) := by decide +kernel
theorem dX6_path_144 : decode cX6_path 144 = .ok (.iload 4, 2) := by decide +kernel
theorem dX6_path_146 : decode cX6_path 146 = .ok (.iconst 1, 1) := by decide +kernel
theorem dX6_path_147 : decode cX6_path 147 = .ok (.iadd, 1) := by decide +kernel
theorem dX6_path_148 : decode cX6_path 148 = .ok (.ireturn, 1) := by decide +kernel
theorem dX6_path_149 : decode cX6_path 149 = .ok (.iload 5, 2) := by decide +kernel
theorem dX6_path_151 : decode cX6_path 151 = .ok (.iconst 1, 1) := by decide +kernel
theorem dX6_path_152 : decode cX6_path 152 = .ok (.iadd, 1) := by decide +kernel
theorem dX6_path_153 : decode cX6_path 153 = .ok (.istore_n 3, 1) := by decide +kernel
theorem dX6_path_154 : decode cX6_path 154 = .ok (.iinc 4 1, 3) := by decide +kernel
theorem dX6_path_157 : decode cX6_path 157 = .ok (.goto (-131), 3) := by decide +kernel
theorem dX6_path_160 : decode cX6_path 160 = .ok (.bipush 24, 2) := by decide +kernel
theorem dX6_path_162 : decode cX6_path 162 = .ok (.ireturn, 1) := by decide +kernel
abbrev rm_X6_path : Room := { frames := 7, cells := 1, slots := 6, locals := 124 }
def f_X6_path_L81 (cy : Nat → ClassId) (k26 : Nat → Nat → Int32 → Int32 → Mem → Option ((String × Mem) ⊕ (Int32 × Mem))) (a0 : Nat) (a2 : Nat) (a4 : Int32) (a5 : Int32) (t0 : Nat) (t1 : Nat) (t2 : Nat) (t3 : Int32) (t4 : Int32) (μ : Mem) : Option ((String × Mem) ⊕ (Int32 × Mem)) :=
  if isO μ t0 0 = true then (ob2 (f_X0_numberOfName cy t0 t1 t2 t3 t4 μ) fun r104 μ103 => if r104 = (-1) then (some (.inr (a4, μ103))) else (rdR μ103 a0 5 5).bind fun q106 => (wrF μ103 q106 0 5 (.int r104)).bind fun μ108 => if a5 = (-1) then ((rdR μ108 a2 3 1).bind fun q120 => (rdR μ108 a0 5 5).bind fun q122 => (rdR μ108 a2 3 0).bind fun q124 => if isO μ108 q120 0 = true then ((f_X0_become cy q120 q122 q124 μ108).bind fun μ128 => some (.inr ((a4 + 1), μ128))) else none) else (rdR μ108 a0 5 5).bind fun q111 => (rdR μ108 a2 3 0).bind fun q113 => if isO μ108 q111 0 = true then (ob2 (f_X0_stepIn cy q111 q113 μ108) fun r118 μ117 => if r118 = 0 then (some (.inr ((a4 + 1), μ117))) else k26 a0 a2 (a5 + 1) (a4 + 1) μ117) else none) else none
set_option maxRecDepth 100000 in
set_option maxHeartbeats 4000000 in
theorem w_X6_path_L81 {p : Program} {l : Launch} {e : Env} {s : State} {m : MethodId} {args : Array Value} {below : List Frame} {meth : Method} {c : Code} {A : Nat → Prop} {g : Wg} {L : List Nat} {res : ((String × Mem) ⊕ (Int32 × Mem))} (hC : CX p m c cX6_path 7 s args RX6) (hr : meth.sig.returnType = (some .int)) (hlocks : meth.locks = false) (hl0 : l.stackTraces = false) (hX : XS A s s.heap) (hno : ∀ x ∈ c.exceptionTable.toList, False) {k26 : Nat → Nat → Int32 → Int32 → Mem → Option ((String × Mem) ⊕ (Int32 × Mem))} (hk26 : ∀ (a0 : Nat) (a2 : Nat) (a3 : Int32) (a4 : Int32) (μ : Mem) (H : Heap) (locs : List Loc) (ls : Array Slot), lv_has ls 7 [(0, .ref a0), (2, .ref a2), (3, .int a3), (4, .int a4)] → PW g L μ A s H locs → k26 a0 a2 a3 a4 μ = some res → W p l e rm_X6_path s m args below meth c H locs 1 6 (vx_MQ below (QX g L A (rvI res)) (XX g L A (rvI res)) args s 1 6 A) (F0 m 26 ls [])) : ∀ (a0 : Nat) (a2 : Nat) (a4 : Int32) (a5 : Int32) (t0 : Nat) (t1 : Nat) (t2 : Nat) (t3 : Int32) (t4 : Int32) (μ : Mem) (H : Heap) (locs : List Loc) (ls : Array Slot), lv_has ls 7 [(0, .ref a0), (2, .ref a2), (4, .int a4), (5, .int a5)] → PW g L μ A s H locs → f_X6_path_L81 g.2 k26 a0 a2 a4 a5 t0 t1 t2 t3 t4 μ = some res → W p l e rm_X6_path s m args below meth c H locs 1 6 (vx_MQ below (QX g L A (rvI res)) (XX g L A (rvI res)) args s 1 6 A) (F0 m 81 ls [.int t4, .int t3, .ref t2, .ref t1, .ref t0]) := by
  have hx := hC.1
  have hb := hC.2.1
  intro a0 a2 a4 a5 t0 t1 t2 t3 t4 μ H locs ls hl hw hf
  unfold f_X6_path_L81 at hf
  obtain ⟨h102, hf⟩ := o_ite hf
  obtain ⟨r104, μ103, h101, hf⟩ := o_bind2 hf
  refine pw_goI hw (pw_runV (As := [.ref t1, .ref t2, .int t3, .int t4]) (rest := []) hC mm_X0_numberOfName tw_595 (c_X0_numberOfName h101 _) ⟨rfl, rfl, by decide, by decide⟩ hw h102 rfl hl.1 (Nat.le_of_ble_eq_true rfl) ⟨by decide, by decide⟩ rfl dX6_path_81) (fun H locs hw => ?_)
  refine lv_istore (lv' := [(6, .int r104), (0, .ref a0), (2, .ref a2), (4, .int a4), (5, .int a5)]) hx hb dX6_path_84 hl (by decide) rfl (fun ls hl => ?_)
  refine lv_iload hx hb dX6_path_86 (lv_at hl 0 rfl) ?_
  refine lv_iconst (v := (-1)) hx hb dX6_path_88 nc_iconst_m1 ?_
  refine lv_icmp_ne (tgt := 95) hx hb dX6_path_89 (by decide) (fun c105 => ?_) (fun c105 => ?_)
  · have hf := o_neg c105 hf
    refine lv_aload_n hx hb dX6_path_95 rfl (lv_at hl 1 rfl) ?_
    obtain ⟨q106, h107, hf⟩ := o_bind hf
    refine pw_get hC fl_X6_40 hw (rdR_F h107) dX6_path_96 ?_
    refine lv_iload hx hb dX6_path_99 (lv_at hl 0 rfl) ?_
    obtain ⟨μ108, h109, hf⟩ := o_bind hf
    refine pw_put hC fl_X6_112 hw h109 .int fd_X0_5 rfl rfl dX6_path_101 (fun H locs hw => ?_)
    refine lv_iload hx hb dX6_path_104 (lv_at hl 4 rfl) ?_
    refine lv_iconst (v := (-1)) hx hb dX6_path_106 nc_iconst_m1 ?_
    refine lv_icmp_ne (tgt := 130) hx hb dX6_path_107 (by decide) (fun c110 => ?_) (fun c110 => ?_)
    · have hf := o_neg c110 hf
      refine lv_aload_n hx hb dX6_path_130 rfl (lv_at hl 1 rfl) ?_
      obtain ⟨q111, h112, hf⟩ := o_bind hf
      refine pw_get hC fl_X6_40 hw (rdR_F h112) dX6_path_131 ?_
      refine lv_aload_n hx hb dX6_path_134 rfl (lv_at hl 2 rfl) ?_
      obtain ⟨q113, h114, hf⟩ := o_bind hf
      refine pw_get hC fl_X6_102 hw (rdR_F h114) dX6_path_135 ?_
      obtain ⟨h116, hf⟩ := o_ite hf
      obtain ⟨r118, μ117, h115, hf⟩ := o_bind2 hf
      refine pw_goI hw (pw_runV (As := [.ref q113]) (rest := []) hC mm_X0_stepIn tw_621 (c_X0_stepIn h115 _) ⟨rfl, rfl, by decide, by decide⟩ hw h116 rfl hl.1 (Nat.le_of_ble_eq_true rfl) ⟨by decide, by decide⟩ rfl dX6_path_138) (fun H locs hw => ?_)
      refine lv_if_ne (tgt := 149) hx hb dX6_path_141 (by decide) (fun c119 => ?_) (fun c119 => ?_)
      · have hf := o_neg c119 hf
        refine lv_iload hx hb dX6_path_149 (lv_at hl 4 rfl) ?_
        refine lv_iconst (v := 1) hx hb dX6_path_151 nc_iconst_1 ?_
        refine lv_iadd hx hb dX6_path_152 ?_
        refine lv_istore_n (lv' := [(3, .int (a5 + 1)), (6, .int r104), (0, .ref a0), (2, .ref a2), (4, .int a4), (5, .int a5)]) hx hb dX6_path_153 rfl hl (by decide) rfl (fun ls hl => ?_)
        refine lv_iinc (v := (a4 + 1)) (lv' := [(4, .int (a4 + 1)), (3, .int (a5 + 1)), (6, .int r104), (0, .ref a0), (2, .ref a2), (5, .int a5)]) hx hb dX6_path_154 hl (k := 4) rfl (by first | rfl | decide +kernel) (by decide) rfl (fun ls hl => ?_)
        refine lv_goto (tgt := 26) hx hb dX6_path_157 (by decide) ?_
        refine W.widen (k := 1) (n := 6) (by decide) (by decide) ?_
        exact hk26 _ _ _ _ _ _ _ ls (lv_sub hl [3, 4, 1, 0] rfl) hw hf
      · have hf := o_pos c119 hf
        refine lv_iload hx hb dX6_path_144 (lv_at hl 3 rfl) ?_
        refine lv_iconst (v := 1) hx hb dX6_path_146 nc_iconst_1 ?_
        refine lv_iadd hx hb dX6_path_147 ?_
        obtain rfl := o_retv hf
        exact pw_xiret hC hr hlocks (by decide) (by decide) hw dX6_path_148
    · have hf := o_pos c110 hf
      refine lv_aload_n hx hb dX6_path_110 rfl (lv_at hl 2 rfl) ?_
      obtain ⟨q120, h121, hf⟩ := o_bind hf
      refine pw_get hC fl_X6_105 hw (rdR_F h121) dX6_path_111 ?_
      refine lv_aload_n hx hb dX6_path_114 rfl (lv_at hl 1 rfl) ?_
      obtain ⟨q122, h123, hf⟩ := o_bind hf
      refine pw_get hC fl_X6_40 hw (rdR_F h123) dX6_path_115 ?_
      refine lv_aload_n hx hb dX6_path_118 rfl (lv_at hl 2 rfl) ?_
      obtain ⟨q124, h125, hf⟩ := o_bind hf
      refine pw_get hC fl_X6_102 hw (rdR_F h125) dX6_path_119 ?_
      obtain ⟨h127, hf⟩ := o_ite hf
      obtain ⟨μ128, h126, hf⟩ := o_bind hf
      refine pw_goV hw (pw_runV (As := [.ref q122, .ref q124]) (rest := []) hC mm_X0_become tw_616 (c_X0_become h126 _) ⟨rfl, rfl, by decide, by decide⟩ hw h127 rfl hl.1 (Nat.le_of_ble_eq_true rfl) ⟨by decide, by decide⟩ rfl dX6_path_122) (fun H locs hw => ?_)
      refine lv_iload hx hb dX6_path_125 (lv_at hl 3 rfl) ?_
      refine lv_iconst (v := 1) hx hb dX6_path_127 nc_iconst_1 ?_
      refine lv_iadd hx hb dX6_path_128 ?_
      obtain rfl := o_retv hf
      exact pw_xiret hC hr hlocks (by decide) (by decide) hw dX6_path_129
  · have hf := o_pos c105 hf
    refine lv_iload hx hb dX6_path_92 (lv_at hl 3 rfl) ?_
    obtain rfl := o_retv hf
    exact pw_xiret hC hr hlocks (by decide) (by decide) hw dX6_path_94
def f_X6_path_L26 (cy : Nat → ClassId) : Nat → Nat → Nat → Int32 → Int32 → Mem → Option ((String × Mem) ⊕ (Int32 × Mem))
  | 0, _, _, _, _, _ => none
  | n + 1, a0, a2, a3, a4, μ => if 24 ≤ a4 then (some (.inr (24, μ))) else (rdR μ a0 5 1).bind fun q102 => (rdR μ a0 5 1).bind fun q104 => (rdI μ q104 4 1).bind fun v106 => if isO μ q102 4 = true then (ob2 (f_X5_zeroFrom cy q102 a3 v106 μ) fun r111 μ110 => (rdR μ110 a0 5 5).bind fun q112 => (rdR μ110 a2 3 0).bind fun q114 => (rdR μ110 a0 5 1).bind fun q116 => if r111 = (-1) then ((rdR μ110 a0 5 1).bind fun q119 => (rdI μ110 q119 4 1).bind fun v121 => f_X6_path_L81 cy (f_X6_path_L26 cy n) a0 a2 a4 r111 q112 q114 q116 a3 v121 μ110) else f_X6_path_L81 cy (f_X6_path_L26 cy n) a0 a2 a4 r111 q112 q114 q116 a3 r111 μ110) else none
set_option maxRecDepth 100000 in
set_option maxHeartbeats 4000000 in
theorem w_X6_path_L26 {p : Program} {l : Launch} {e : Env} {s : State} {m : MethodId} {args : Array Value} {below : List Frame} {meth : Method} {c : Code} {A : Nat → Prop} {g : Wg} {L : List Nat} {res : ((String × Mem) ⊕ (Int32 × Mem))} (hC : CX p m c cX6_path 7 s args RX6) (hr : meth.sig.returnType = (some .int)) (hlocks : meth.locks = false) (hl0 : l.stackTraces = false) (hX : XS A s s.heap) (hno : ∀ x ∈ c.exceptionTable.toList, False) : ∀ (n : Nat), ∀ (a0 : Nat) (a2 : Nat) (a3 : Int32) (a4 : Int32) (μ : Mem) (H : Heap) (locs : List Loc) (ls : Array Slot), lv_has ls 7 [(0, .ref a0), (2, .ref a2), (3, .int a3), (4, .int a4)] → PW g L μ A s H locs → f_X6_path_L26 g.2 n a0 a2 a3 a4 μ = some res → W p l e rm_X6_path s m args below meth c H locs 1 6 (vx_MQ below (QX g L A (rvI res)) (XX g L A (rvI res)) args s 1 6 A) (F0 m 26 ls []) := by
  have hx := hC.1
  have hb := hC.2.1
  intro n
  induction n with
  | zero => intro a0 a2 a3 a4 μ H locs ls hl hw hf; cases hf
  | succ n ih =>
    intro a0 a2 a3 a4 μ H locs ls hl hw hf
    rw [f_X6_path_L26] at hf
    refine lv_iload hx hb dX6_path_26 (lv_at hl 3 rfl) ?_
    refine lv_bipush (v := 24) hx hb dX6_path_28 nc_bipush_24 ?_
    refine lv_icmp_ge (tgt := 160) hx hb dX6_path_30 (by decide) (fun c101 => ?_) (fun c101 => ?_)
    · have hf := o_pos c101 hf
      refine lv_bipush (v := 24) hx hb dX6_path_160 nc_bipush_24 ?_
      obtain rfl := o_retv hf
      exact pw_xiret hC hr hlocks (by decide) (by decide) hw dX6_path_162
    · have hf := o_neg c101 hf
      refine lv_aload_n hx hb dX6_path_33 rfl (lv_at hl 0 rfl) ?_
      obtain ⟨q102, h103, hf⟩ := o_bind hf
      refine pw_get hC fl_X6_18 hw (rdR_F h103) dX6_path_34 ?_
      refine lv_iload_n hx hb dX6_path_37 rfl (lv_at hl 2 rfl) ?_
      refine lv_aload_n hx hb dX6_path_38 rfl (lv_at hl 0 rfl) ?_
      obtain ⟨q104, h105, hf⟩ := o_bind hf
      refine pw_get hC fl_X6_18 hw (rdR_F h105) dX6_path_39 ?_
      obtain ⟨v106, h107, hf⟩ := o_bind hf
      refine pw_get hC fl_X6_73 hw (rdI_F h107) dX6_path_42 ?_
      obtain ⟨h109, hf⟩ := o_ite hf
      obtain ⟨r111, μ110, h108, hf⟩ := o_bind2 hf
      refine pw_goI hw (pw_runV (As := [.int a3, .int v106]) (rest := []) hC mm_X5_zeroFrom tw_615 (c_X5_zeroFrom h108 _) ⟨rfl, rfl, by decide, by decide⟩ hw h109 rfl hl.1 (Nat.le_of_ble_eq_true rfl) ⟨by decide, by decide⟩ rfl dX6_path_45) (fun H locs hw => ?_)
      refine lv_istore (lv' := [(5, .int r111), (0, .ref a0), (2, .ref a2), (3, .int a3), (4, .int a4)]) hx hb dX6_path_48 hl (by decide) rfl (fun ls hl => ?_)
      refine lv_aload_n hx hb dX6_path_50 rfl (lv_at hl 1 rfl) ?_
      obtain ⟨q112, h113, hf⟩ := o_bind hf
      refine pw_get hC fl_X6_40 hw (rdR_F h113) dX6_path_51 ?_
      refine lv_aload_n hx hb dX6_path_54 rfl (lv_at hl 2 rfl) ?_
      obtain ⟨q114, h115, hf⟩ := o_bind hf
      refine pw_get hC fl_X6_102 hw (rdR_F h115) dX6_path_55 ?_
      refine lv_aload_n hx hb dX6_path_58 rfl (lv_at hl 1 rfl) ?_
      obtain ⟨q116, h117, hf⟩ := o_bind hf
      refine pw_get hC fl_X6_18 hw (rdR_F h117) dX6_path_59 ?_
      refine lv_iload_n hx hb dX6_path_62 rfl (lv_at hl 3 rfl) ?_
      refine lv_iload hx hb dX6_path_63 (lv_at hl 0 rfl) ?_
      refine lv_iconst (v := (-1)) hx hb dX6_path_65 nc_iconst_m1 ?_
      refine lv_icmp_ne (tgt := 79) hx hb dX6_path_66 (by decide) (fun c118 => ?_) (fun c118 => ?_)
      · have hf := o_neg c118 hf
        refine lv_iload hx hb dX6_path_79 (lv_at hl 0 rfl) ?_
        refine W.widen (k := 1) (n := 6) (by decide) (by decide) ?_
        exact w_X6_path_L81 hC hr hlocks hl0 hX hno ih _ _ _ _ _ _ _ _ _ _ _ _ ls (lv_sub hl [1, 2, 4, 0] rfl) hw hf
      · have hf := o_pos c118 hf
        refine lv_aload_n hx hb dX6_path_69 rfl (lv_at hl 1 rfl) ?_
        obtain ⟨q119, h120, hf⟩ := o_bind hf
        refine pw_get hC fl_X6_18 hw (rdR_F h120) dX6_path_70 ?_
        obtain ⟨v121, h122, hf⟩ := o_bind hf
        refine pw_get hC fl_X6_73 hw (rdI_F h122) dX6_path_73 ?_
        refine lv_goto (tgt := 81) hx hb dX6_path_76 (by decide) ?_
        refine W.widen (k := 1) (n := 6) (by decide) (by decide) ?_
        exact w_X6_path_L81 hC hr hlocks hl0 hX hno ih _ _ _ _ _ _ _ _ _ _ _ _ ls (lv_sub hl [1, 2, 4, 0] rfl) hw hf
def f_X6_path (cy : Nat → ClassId) (a0 : Nat) (a1 : Int32) (μ : Mem) : Option ((String × Mem) ⊕ (Int32 × Mem)) :=
  if isO μ a0 5 = true then ((f_X6_useTapeUp cy a0 μ).bind fun μ3 => if isO μ3 a0 5 = true then (obX2 (f_X6_shelfOf cy a0 a1 μ3) fun q9 μ6 => (rdR μ6 a0 5 5).bind fun q10 => (rdR μ6 q9 3 0).bind fun q12 => if isO μ6 q10 0 = true then ((f_X0_toRoot cy q10 q12 μ6).bind fun μ16 => f_X6_path_L26 cy FU a0 q9 0 0 μ16) else none) else none) else none
set_option maxRecDepth 100000 in
set_option maxHeartbeats 4000000 in
theorem c_X6_path {l : Launch} {g : Wg} {L : List Nat} {μ : Mem} {a0 : Nat} {a1 : Int32} {res : ((String × Mem) ⊕ (Int32 × Mem))} (hl0 : l.stackTraces = false) (hf : f_X6_path g.2 a0 a1 μ = some res) : MetX l yX6_path cX6_path 7 (some .int) rm_X6_path g L μ [.ref a0, .int a1] (rvI res) := by
  refine pw_metX (by decide) (Nat.le_of_ble_eq_true rfl) ?_
  intro p e s m args below meth c A ls H locs hC hr hlocks hl hw hX hno
  have hx := hC.1
  have hb := hC.2.1
  have hl : lv_has ls 7 [(0, .ref a0), (1, .int a1)] := hl
  unfold f_X6_path at hf
  refine lv_aload_n hx hb dX6_path_0 rfl (lv_at hl 0 rfl) ?_
  obtain ⟨h2, hf⟩ := o_ite hf
  obtain ⟨μ3, h1, hf⟩ := o_bind hf
  refine pw_goV hw (pw_runV (As := []) (rest := []) hC mm_X6_useTapeUp tw_551 (c_X6_useTapeUp h1 _) ⟨rfl, rfl, by decide, by decide⟩ hw h2 rfl hl.1 (Nat.le_of_ble_eq_true rfl) ⟨by decide, by decide⟩ rfl dX6_path_1) (fun H locs hw => ?_)
  refine lv_aload_n hx hb dX6_path_4 rfl (lv_at hl 0 rfl) ?_
  refine lv_iload_n hx hb dX6_path_5 rfl (lv_at hl 1 rfl) ?_
  obtain ⟨h5, hf⟩ := o_ite hf
  rcases o_bindX2 hf with ⟨er7, h4, rfl⟩ | ⟨q9, μ6, h4, hf⟩
  · exact pw_thru hw hno hlocks (pw_runVX (As := [.int a1]) (rest := []) hC mm_X6_shelfOf tw_429 (c_X6_shelfOf hl0 h4) ⟨by decide, by decide⟩ hw hX h5 rfl hl.1 (Nat.le_of_ble_eq_true rfl) ⟨by decide, by decide⟩ rfl dX6_path_6) (by decide) (by decide)
  · refine pw_goX hw (pw_runVX (As := [.int a1]) (rest := []) hC mm_X6_shelfOf tw_429 (c_X6_shelfOf hl0 h4) ⟨by decide, by decide⟩ hw hX h5 rfl hl.1 (Nat.le_of_ble_eq_true rfl) ⟨by decide, by decide⟩ rfl dX6_path_6) (fun H locs hw => ?_)
    refine W.eq (g2 := F0 m 9 ls [.ref q9]) rfl ?_
    refine W.widen (k := 1) (n := 6) (by decide) (by decide) ?_
    refine lv_astore_n (lv' := [(2, .ref q9), (0, .ref a0), (1, .int a1)]) hx hb dX6_path_9 rfl hl (by decide) rfl (fun ls hl => ?_)
    refine lv_aload_n hx hb dX6_path_10 rfl (lv_at hl 1 rfl) ?_
    obtain ⟨q10, h11, hf⟩ := o_bind hf
    refine pw_get hC fl_X6_40 hw (rdR_F h11) dX6_path_11 ?_
    refine lv_aload_n hx hb dX6_path_14 rfl (lv_at hl 0 rfl) ?_
    obtain ⟨q12, h13, hf⟩ := o_bind hf
    refine pw_get hC fl_X6_102 hw (rdR_F h13) dX6_path_15 ?_
    obtain ⟨h15, hf⟩ := o_ite hf
    obtain ⟨μ16, h14, hf⟩ := o_bind hf
    refine pw_goV hw (pw_runV (As := [.ref q12]) (rest := []) hC mm_X0_toRoot tw_614 (c_X0_toRoot h14 _) ⟨rfl, rfl, by decide, by decide⟩ hw h15 rfl hl.1 (Nat.le_of_ble_eq_true rfl) ⟨by decide, by decide⟩ rfl dX6_path_18) (fun H locs hw => ?_)
    refine lv_iconst (v := 0) hx hb dX6_path_21 nc_iconst_0 ?_
    refine lv_istore_n (lv' := [(3, .int 0), (2, .ref q9), (0, .ref a0), (1, .int a1)]) hx hb dX6_path_22 rfl hl (by decide) rfl (fun ls hl => ?_)
    refine lv_iconst (v := 0) hx hb dX6_path_23 nc_iconst_0 ?_
    refine lv_istore (lv' := [(4, .int 0), (3, .int 0), (2, .ref q9), (0, .ref a0), (1, .int a1)]) hx hb dX6_path_24 hl (by decide) rfl (fun ls hl => ?_)
    refine W.widen (k := 1) (n := 6) (by decide) (by decide) ?_
    exact w_X6_path_L26 hC hr hlocks hl0 hX hno FU _ _ _ _ _ _ _ ls (lv_sub hl [3, 2, 1, 0] rfl) hw hf
theorem dX6_in_0 : decode cX6_in 0 = .ok (.aload_n 0, 1) := by decide +kernel
theorem dX6_in_1 : decode cX6_in 1 = .ok (.iload_n 1, 1) := by decide +kernel
theorem dX6_in_2 : decode cX6_in 2 = .ok (.invokevirtual 95, 3) := by decide +kernel
theorem dX6_in_5 : decode cX6_in 5 = .ok (.astore_n 2, 1) := by decide +kernel
theorem dX6_in_6 : decode cX6_in 6 = .ok (.aload_n 2, 1) := by decide +kernel
theorem dX6_in_7 : decode cX6_in 7 = .ok (.getfield 105, 3) := by decide +kernel
theorem dX6_in_10 : decode cX6_in 10 = .ok (.aload_n 2, 1) := by decide +kernel
theorem dX6_in_11 : decode cX6_in 11 = .ok (.getfield 102, 3) := by decide +kernel
theorem dX6_in_14 : decode cX6_in 14 = .ok (.invokevirtual 129, 3) := by decide +kernel
theorem dX6_in_17 : decode cX6_in 17 = .ok (.ireturn, 1) := by decide +kernel
abbrev rm_X6_in : Room := { frames := 7, cells := 1, slots := 6, locals := 121 }
def f_X6_in (cy : Nat → ClassId) (a0 : Nat) (a1 : Int32) (μ : Mem) : Option ((String × Mem) ⊕ (Int32 × Mem)) :=
  if isO μ a0 5 = true then (obX2 (f_X6_shelfOf cy a0 a1 μ) fun q6 μ3 => (rdR μ3 q6 3 1).bind fun q7 => (rdR μ3 q6 3 0).bind fun q9 => if isO μ3 q7 0 = true then (ob2 (f_X0_stepIn cy q7 q9 μ3) fun r14 μ13 => if r14 = 0 ∨ r14 = 1 then some (.inr (r14, μ13)) else none) else none) else none
set_option maxRecDepth 100000 in
set_option maxHeartbeats 4000000 in
theorem c_X6_in {l : Launch} {g : Wg} {L : List Nat} {μ : Mem} {a0 : Nat} {a1 : Int32} {res : ((String × Mem) ⊕ (Int32 × Mem))} (hl0 : l.stackTraces = false) (hf : f_X6_in g.2 a0 a1 μ = some res) : MetX l yX6_in cX6_in 3 (some .boolean) rm_X6_in g L μ [.ref a0, .int a1] (rvI res) := by
  refine pw_metX (by decide) (Nat.le_of_ble_eq_true rfl) ?_
  intro p e s m args below meth c A ls H locs hC hr hlocks hl hw hX hno
  have hx := hC.1
  have hb := hC.2.1
  have hl : lv_has ls 3 [(0, .ref a0), (1, .int a1)] := hl
  unfold f_X6_in at hf
  refine lv_aload_n hx hb dX6_in_0 rfl (lv_at hl 0 rfl) ?_
  refine lv_iload_n hx hb dX6_in_1 rfl (lv_at hl 1 rfl) ?_
  obtain ⟨h2, hf⟩ := o_ite hf
  rcases o_bindX2 hf with ⟨er4, h1, rfl⟩ | ⟨q6, μ3, h1, hf⟩
  · exact pw_thru hw hno hlocks (pw_runVX (As := [.int a1]) (rest := []) hC mm_X6_shelfOf tw_429 (c_X6_shelfOf hl0 h1) ⟨by decide, by decide⟩ hw hX h2 rfl hl.1 (Nat.le_of_ble_eq_true rfl) ⟨by decide, by decide⟩ rfl dX6_in_2) (by decide) (by decide)
  · refine pw_goX hw (pw_runVX (As := [.int a1]) (rest := []) hC mm_X6_shelfOf tw_429 (c_X6_shelfOf hl0 h1) ⟨by decide, by decide⟩ hw hX h2 rfl hl.1 (Nat.le_of_ble_eq_true rfl) ⟨by decide, by decide⟩ rfl dX6_in_2) (fun H locs hw => ?_)
    refine W.eq (g2 := F0 m 5 ls [.ref q6]) rfl ?_
    refine W.widen (k := 1) (n := 6) (by decide) (by decide) ?_
    refine lv_astore_n (lv' := [(2, .ref q6), (0, .ref a0), (1, .int a1)]) hx hb dX6_in_5 rfl hl (by decide) rfl (fun ls hl => ?_)
    refine lv_aload_n hx hb dX6_in_6 rfl (lv_at hl 0 rfl) ?_
    obtain ⟨q7, h8, hf⟩ := o_bind hf
    refine pw_get hC fl_X6_105 hw (rdR_F h8) dX6_in_7 ?_
    refine lv_aload_n hx hb dX6_in_10 rfl (lv_at hl 0 rfl) ?_
    obtain ⟨q9, h10, hf⟩ := o_bind hf
    refine pw_get hC fl_X6_102 hw (rdR_F h10) dX6_in_11 ?_
    obtain ⟨h12, hf⟩ := o_ite hf
    obtain ⟨r14, μ13, h11, hf⟩ := o_bind2 hf
    refine pw_goI hw (pw_runV (As := [.ref q9]) (rest := []) hC mm_X0_stepIn tw_621 (c_X0_stepIn h11 _) ⟨rfl, rfl, by decide, by decide⟩ hw h12 rfl hl.1 (Nat.le_of_ble_eq_true rfl) ⟨by decide, by decide⟩ rfl dX6_in_14) (fun H locs hw => ?_)
    obtain ⟨h15, hf⟩ := o_ite hf
    obtain rfl := o_retv hf
    exact pw_xzret hC hr hlocks h15 (by decide) (by decide) hw dX6_in_17
theorem dX6_out_0 : decode cX6_out 0 = .ok (.aload_n 0, 1) := by decide +kernel
theorem dX6_out_1 : decode cX6_out 1 = .ok (.iload_n 1, 1) := by decide +kernel
theorem dX6_out_2 : decode cX6_out 2 = .ok (.invokevirtual 95, 3) := by decide +kernel
theorem dX6_out_5 : decode cX6_out 5 = .ok (.astore_n 2, 1) := by decide +kernel
theorem dX6_out_6 : decode cX6_out 6 = .ok (.aload_n 2, 1) := by decide +kernel
theorem dX6_out_7 : decode cX6_out 7 = .ok (.getfield 105, 3) := by decide +kernel
theorem dX6_out_10 : decode cX6_out 10 = .ok (.aload_n 2, 1) := by decide +kernel
theorem dX6_out_11 : decode cX6_out 11 = .ok (.getfield 102, 3) := by decide +kernel
theorem dX6_out_14 : decode cX6_out 14 = .ok (.invokevirtual 133, 3) := by decide +kernel
theorem dX6_out_17 : decode cX6_out 17 = .ok (.ireturn, 1) := by decide +kernel
abbrev rm_X6_out : Room := { frames := 7, cells := 1, slots := 6, locals := 121 }
def f_X6_out (cy : Nat → ClassId) (a0 : Nat) (a1 : Int32) (μ : Mem) : Option ((String × Mem) ⊕ (Int32 × Mem)) :=
  if isO μ a0 5 = true then (obX2 (f_X6_shelfOf cy a0 a1 μ) fun q6 μ3 => (rdR μ3 q6 3 1).bind fun q7 => (rdR μ3 q6 3 0).bind fun q9 => if isO μ3 q7 0 = true then (ob2 (f_X0_stepOut cy q7 q9 μ3) fun r14 μ13 => if r14 = 0 ∨ r14 = 1 then some (.inr (r14, μ13)) else none) else none) else none
set_option maxRecDepth 100000 in
set_option maxHeartbeats 4000000 in
theorem c_X6_out {l : Launch} {g : Wg} {L : List Nat} {μ : Mem} {a0 : Nat} {a1 : Int32} {res : ((String × Mem) ⊕ (Int32 × Mem))} (hl0 : l.stackTraces = false) (hf : f_X6_out g.2 a0 a1 μ = some res) : MetX l yX6_out cX6_out 3 (some .boolean) rm_X6_out g L μ [.ref a0, .int a1] (rvI res) := by
  refine pw_metX (by decide) (Nat.le_of_ble_eq_true rfl) ?_
  intro p e s m args below meth c A ls H locs hC hr hlocks hl hw hX hno
  have hx := hC.1
  have hb := hC.2.1
  have hl : lv_has ls 3 [(0, .ref a0), (1, .int a1)] := hl
  unfold f_X6_out at hf
  refine lv_aload_n hx hb dX6_out_0 rfl (lv_at hl 0 rfl) ?_
  refine lv_iload_n hx hb dX6_out_1 rfl (lv_at hl 1 rfl) ?_
  obtain ⟨h2, hf⟩ := o_ite hf
  rcases o_bindX2 hf with ⟨er4, h1, rfl⟩ | ⟨q6, μ3, h1, hf⟩
  · exact pw_thru hw hno hlocks (pw_runVX (As := [.int a1]) (rest := []) hC mm_X6_shelfOf tw_429 (c_X6_shelfOf hl0 h1) ⟨by decide, by decide⟩ hw hX h2 rfl hl.1 (Nat.le_of_ble_eq_true rfl) ⟨by decide, by decide⟩ rfl dX6_out_2) (by decide) (by decide)
  · refine pw_goX hw (pw_runVX (As := [.int a1]) (rest := []) hC mm_X6_shelfOf tw_429 (c_X6_shelfOf hl0 h1) ⟨by decide, by decide⟩ hw hX h2 rfl hl.1 (Nat.le_of_ble_eq_true rfl) ⟨by decide, by decide⟩ rfl dX6_out_2) (fun H locs hw => ?_)
    refine W.eq (g2 := F0 m 5 ls [.ref q6]) rfl ?_
    refine W.widen (k := 1) (n := 6) (by decide) (by decide) ?_
    refine lv_astore_n (lv' := [(2, .ref q6), (0, .ref a0), (1, .int a1)]) hx hb dX6_out_5 rfl hl (by decide) rfl (fun ls hl => ?_)
    refine lv_aload_n hx hb dX6_out_6 rfl (lv_at hl 0 rfl) ?_
    obtain ⟨q7, h8, hf⟩ := o_bind hf
    refine pw_get hC fl_X6_105 hw (rdR_F h8) dX6_out_7 ?_
    refine lv_aload_n hx hb dX6_out_10 rfl (lv_at hl 0 rfl) ?_
    obtain ⟨q9, h10, hf⟩ := o_bind hf
    refine pw_get hC fl_X6_102 hw (rdR_F h10) dX6_out_11 ?_
    obtain ⟨h12, hf⟩ := o_ite hf
    obtain ⟨r14, μ13, h11, hf⟩ := o_bind2 hf
    refine pw_goI hw (pw_runV (As := [.ref q9]) (rest := []) hC mm_X0_stepOut tw_649 (c_X0_stepOut h11 _) ⟨rfl, rfl, by decide, by decide⟩ hw h12 rfl hl.1 (Nat.le_of_ble_eq_true rfl) ⟨by decide, by decide⟩ rfl dX6_out_14) (fun H locs hw => ?_)
    obtain ⟨h15, hf⟩ := o_ite hf
    obtain rfl := o_retv hf
    exact pw_xzret hC hr hlocks h15 (by decide) (by decide) hw dX6_out_17
theorem dX6_look_0 : decode cX6_look 0 = .ok (.aload_n 0, 1) := by decide +kernel
theorem dX6_look_1 : decode cX6_look 1 = .ok (.iload_n 1, 1) := by decide +kernel
theorem dX6_look_2 : decode cX6_look 2 = .ok (.invokevirtual 95, 3) := by decide +kernel
theorem dX6_look_5 : decode cX6_look 5 = .ok (.astore_n 3, 1) := by decide +kernel
theorem dX6_look_6 : decode cX6_look 6 = .ok (.aload_n 3, 1) := by decide +kernel
theorem dX6_look_7 : decode cX6_look 7 = .ok (.getfield 105, 3) := by decide +kernel
theorem dX6_look_10 : decode cX6_look 10 = .ok (.astore 4, 2) := by decide +kernel
theorem dX6_look_12 : decode cX6_look 12 = .ok (.iload_n 2, 1) := by decide +kernel
theorem dX6_look_13 : decode cX6_look 13 = .ok (.tableswitch 67 0 4 #[35, 43, 49, 55, 61], 35) := by decide +kernel
theorem dX6_look_48 : decode cX6_look 48 = .ok (.aload_n 3, 1) := by decide +kernel
theorem dX6_look_49 : decode cX6_look 49 = .ok (.getfield 102, 3) := by decide +kernel
theorem dX6_look_52 : decode cX6_look 52 = .ok (.getfield 73, 3) := by decide +kernel
theorem dX6_look_55 : decode cX6_look 55 = .ok (.ireturn, 1) := by decide +kernel
theorem dX6_look_56 : decode cX6_look 56 = .ok (.aload 4, 2) := by decide +kernel
theorem dX6_look_58 : decode cX6_look 58 = .ok (.invokevirtual 136, 3) := by decide +kernel
theorem dX6_look_61 : decode cX6_look 61 = .ok (.ireturn, 1) := by decide +kernel
theorem dX6_look_62 : decode cX6_look 62 = .ok (.aload 4, 2) := by decide +kernel
theorem dX6_look_64 : decode cX6_look 64 = .ok (.getfield 140, 3) := by decide +kernel
theorem dX6_look_67 : decode cX6_look 67 = .ok (.ireturn, 1) := by decide +kernel
theorem dX6_look_68 : decode cX6_look 68 = .ok (.aload 4, 2) := by decide +kernel
theorem dX6_look_70 : decode cX6_look 70 = .ok (.invokevirtual 143, 3) := by decide +kernel
theorem dX6_look_73 : decode cX6_look 73 = .ok (.ireturn, 1) := by decide +kernel
theorem dX6_look_74 : decode cX6_look 74 = .ok (.aload 4, 2) := by decide +kernel
theorem dX6_look_76 : decode cX6_look 76 = .ok (.invokevirtual 146, 3) := by decide +kernel
theorem dX6_look_79 : decode cX6_look 79 = .ok (.ireturn, 1) := by decide +kernel
theorem dX6_look_80 : decode cX6_look 80 = .ok (.aload 4, 2) := by decide +kernel
theorem dX6_look_82 : decode cX6_look 82 = .ok (.invokevirtual 149, 3) := by decide +kernel
theorem dX6_look_85 : decode cX6_look 85 = .ok (.ifCond .eq 11, 3) := by decide +kernel
theorem dX6_look_88 : decode cX6_look 88 = .ok (.aload_n 3, 1) := by decide +kernel
theorem dX6_look_89 : decode cX6_look 89 = .ok (.iload_n 2, 1) := by decide +kernel
theorem dX6_look_90 : decode cX6_look 90 = .ok (.invokestatic 153, 3) := by decide +kernel
theorem dX6_look_93 : decode cX6_look 93 = .ok (.goto 4, 3) := by decide +kernel
theorem dX6_look_96 : decode cX6_look 96 = .ok (.iconst (-1), 1) := by decide +kernel
theorem dX6_look_97 : decode cX6_look 97 = .ok (.ireturn, 1) := by decide +kernel
abbrev rm_X6_look : Room := { frames := 7, cells := 1, slots := 6, locals := 121 }
def f_X6_look (cy : Nat → ClassId) (a0 : Nat) (a1 : Int32) (a2 : Int32) (μ : Mem) : Option ((String × Mem) ⊕ (Int32 × Mem)) :=
  if isO μ a0 5 = true then (obX2 (f_X6_shelfOf cy a0 a1 μ) fun q6 μ3 => (rdR μ3 q6 3 1).bind fun q7 => if Int32.toInt a2 < 0 ∨ 4 < Int32.toInt a2 then (if isO μ3 q7 0 = true then (ob2 (f_X0_isAtElement cy q7 μ3) fun r13 μ12 => if r13 = 0 then (some (.inr ((-1), μ12))) else ob2 (f_X6_lookAtElement cy q6 a2 μ12) fun r17 μ16 => some (.inr (r17, μ16))) else none) else if a2 = 0 then ((rdR μ3 q6 3 0).bind fun q19 => (rdI μ3 q19 4 1).bind fun v21 => some (.inr (v21, μ3))) else if a2 = 1 then (if isO μ3 q7 0 = true then (ob2 (f_X0_depth cy q7 μ3) fun r27 μ26 => some (.inr (r27, μ26))) else none) else if a2 = 2 then ((rdI μ3 q7 0 7).bind fun v29 => some (.inr (v29, μ3))) else if a2 = 3 then (if isO μ3 q7 0 = true then (ob2 (f_X0_document cy q7 μ3) fun r35 μ34 => some (.inr (r35, μ34))) else none) else if a2 = 4 then (if isO μ3 q7 0 = true then (ob2 (f_X0_documentType cy q7 μ3) fun r40 μ39 => some (.inr (r40, μ39))) else none) else none) else none
set_option maxRecDepth 100000 in
set_option maxHeartbeats 4000000 in
theorem c_X6_look {l : Launch} {g : Wg} {L : List Nat} {μ : Mem} {a0 : Nat} {a1 : Int32} {a2 : Int32} {res : ((String × Mem) ⊕ (Int32 × Mem))} (hl0 : l.stackTraces = false) (hf : f_X6_look g.2 a0 a1 a2 μ = some res) : MetX l yX6_look cX6_look 5 (some .int) rm_X6_look g L μ [.ref a0, .int a1, .int a2] (rvI res) := by
  refine pw_metX (by decide) (Nat.le_of_ble_eq_true rfl) ?_
  intro p e s m args below meth c A ls H locs hC hr hlocks hl hw hX hno
  have hx := hC.1
  have hb := hC.2.1
  have hl : lv_has ls 5 [(0, .ref a0), (1, .int a1), (2, .int a2)] := hl
  unfold f_X6_look at hf
  refine lv_aload_n hx hb dX6_look_0 rfl (lv_at hl 0 rfl) ?_
  refine lv_iload_n hx hb dX6_look_1 rfl (lv_at hl 1 rfl) ?_
  obtain ⟨h2, hf⟩ := o_ite hf
  rcases o_bindX2 hf with ⟨er4, h1, rfl⟩ | ⟨q6, μ3, h1, hf⟩
  · exact pw_thru hw hno hlocks (pw_runVX (As := [.int a1]) (rest := []) hC mm_X6_shelfOf tw_429 (c_X6_shelfOf hl0 h1) ⟨by decide, by decide⟩ hw hX h2 rfl hl.1 (Nat.le_of_ble_eq_true rfl) ⟨by decide, by decide⟩ rfl dX6_look_2) (by decide) (by decide)
  · refine pw_goX hw (pw_runVX (As := [.int a1]) (rest := []) hC mm_X6_shelfOf tw_429 (c_X6_shelfOf hl0 h1) ⟨by decide, by decide⟩ hw hX h2 rfl hl.1 (Nat.le_of_ble_eq_true rfl) ⟨by decide, by decide⟩ rfl dX6_look_2) (fun H locs hw => ?_)
    refine W.eq (g2 := F0 m 5 ls [.ref q6]) rfl ?_
    refine W.widen (k := 1) (n := 6) (by decide) (by decide) ?_
    refine lv_astore_n (lv' := [(3, .ref q6), (0, .ref a0), (1, .int a1), (2, .int a2)]) hx hb dX6_look_5 rfl hl (by decide) rfl (fun ls hl => ?_)
    refine lv_aload_n hx hb dX6_look_6 rfl (lv_at hl 0 rfl) ?_
    obtain ⟨q7, h8, hf⟩ := o_bind hf
    refine pw_get hC fl_X6_105 hw (rdR_F h8) dX6_look_7 ?_
    refine lv_astore (lv' := [(4, .ref q7), (3, .ref q6), (0, .ref a0), (1, .int a1), (2, .int a2)]) hx hb dX6_look_10 hl (by decide) rfl (fun ls hl => ?_)
    refine lv_iload_n hx hb dX6_look_12 rfl (lv_at hl 4 rfl) ?_
    rcases o_if hf with ⟨c9, hf⟩ | ⟨c9, hf⟩
    · refine lv_tableOut (tgt := 80) hx hb dX6_look_13 c9 (by decide) ?_
      refine lv_aload hx hb dX6_look_80 (lv_at hl 0 rfl) ?_
      obtain ⟨h11, hf⟩ := o_ite hf
      obtain ⟨r13, μ12, h10, hf⟩ := o_bind2 hf
      refine pw_goI hw (pw_runV (As := []) (rest := []) hC mm_X0_isAtElement tw_669 (c_X0_isAtElement h10 _) ⟨rfl, rfl, by decide, by decide⟩ hw h11 rfl hl.1 (Nat.le_of_ble_eq_true rfl) ⟨by decide, by decide⟩ rfl dX6_look_82) (fun H locs hw => ?_)
      refine lv_if_eq (tgt := 96) hx hb dX6_look_85 (by decide) (fun c14 => ?_) (fun c14 => ?_)
      · have hf := o_pos c14 hf
        refine lv_iconst (v := (-1)) hx hb dX6_look_96 nc_iconst_m1 ?_
        obtain rfl := o_retv hf
        exact pw_xiret hC hr hlocks (by decide) (by decide) hw dX6_look_97
      · have hf := o_neg c14 hf
        refine lv_aload_n hx hb dX6_look_88 rfl (lv_at hl 1 rfl) ?_
        refine lv_iload_n hx hb dX6_look_89 rfl (lv_at hl 4 rfl) ?_
        obtain ⟨r17, μ16, h15, hf⟩ := o_bind2 hf
        refine pw_goI hw (pw_runS (As := [.ref q6, .int a2]) (rest := []) hC mm_X6_lookAtElement tw_670 (c_X6_lookAtElement h15 _) ⟨rfl, rfl, by decide, by decide⟩ hw rfl hl.1 (Nat.le_of_ble_eq_true rfl) ⟨by decide, by decide⟩ rfl dX6_look_90) (fun H locs hw => ?_)
        refine lv_goto (tgt := 97) hx hb dX6_look_93 (by decide) ?_
        obtain rfl := o_retv hf
        exact pw_xiret hC hr hlocks (by decide) (by decide) hw dX6_look_97
    · rcases o_if hf with ⟨c18, hf⟩ | ⟨-, hf⟩
      · refine lv_tableIn (tgt := 48) hx hb dX6_look_13 (by rw [c18]; decide) (by rw [c18]; decide) (by rw [c18]; rfl) (by decide) ?_
        refine lv_aload_n hx hb dX6_look_48 rfl (lv_at hl 1 rfl) ?_
        obtain ⟨q19, h20, hf⟩ := o_bind hf
        refine pw_get hC fl_X6_102 hw (rdR_F h20) dX6_look_49 ?_
        obtain ⟨v21, h22, hf⟩ := o_bind hf
        refine pw_get hC fl_X6_73 hw (rdI_F h22) dX6_look_52 ?_
        obtain rfl := o_retv hf
        exact pw_xiret hC hr hlocks (by decide) (by decide) hw dX6_look_55
      · rcases o_if hf with ⟨c23, hf⟩ | ⟨-, hf⟩
        · refine lv_tableIn (tgt := 56) hx hb dX6_look_13 (by rw [c23]; decide) (by rw [c23]; decide) (by rw [c23]; rfl) (by decide) ?_
          refine lv_aload hx hb dX6_look_56 (lv_at hl 0 rfl) ?_
          obtain ⟨h25, hf⟩ := o_ite hf
          obtain ⟨r27, μ26, h24, hf⟩ := o_bind2 hf
          refine pw_goI hw (pw_runV (As := []) (rest := []) hC mm_X0_depth tw_660 (c_X0_depth h24 _) ⟨rfl, rfl, by decide, by decide⟩ hw h25 rfl hl.1 (Nat.le_of_ble_eq_true rfl) ⟨by decide, by decide⟩ rfl dX6_look_58) (fun H locs hw => ?_)
          obtain rfl := o_retv hf
          exact pw_xiret hC hr hlocks (by decide) (by decide) hw dX6_look_61
        · rcases o_if hf with ⟨c28, hf⟩ | ⟨-, hf⟩
          · refine lv_tableIn (tgt := 62) hx hb dX6_look_13 (by rw [c28]; decide) (by rw [c28]; decide) (by rw [c28]; rfl) (by decide) ?_
            refine lv_aload hx hb dX6_look_62 (lv_at hl 0 rfl) ?_
            obtain ⟨v29, h30, hf⟩ := o_bind hf
            refine pw_get hC fl_X6_140 hw (rdI_F h30) dX6_look_64 ?_
            obtain rfl := o_retv hf
            exact pw_xiret hC hr hlocks (by decide) (by decide) hw dX6_look_67
          · rcases o_if hf with ⟨c31, hf⟩ | ⟨-, hf⟩
            · refine lv_tableIn (tgt := 68) hx hb dX6_look_13 (by rw [c31]; decide) (by rw [c31]; decide) (by rw [c31]; rfl) (by decide) ?_
              refine lv_aload hx hb dX6_look_68 (lv_at hl 0 rfl) ?_
              obtain ⟨h33, hf⟩ := o_ite hf
              obtain ⟨r35, μ34, h32, hf⟩ := o_bind2 hf
              refine pw_goI hw (pw_runV (As := []) (rest := []) hC mm_X0_document tw_664 (c_X0_document h32 _) ⟨rfl, rfl, by decide, by decide⟩ hw h33 rfl hl.1 (Nat.le_of_ble_eq_true rfl) ⟨by decide, by decide⟩ rfl dX6_look_70) (fun H locs hw => ?_)
              obtain rfl := o_retv hf
              exact pw_xiret hC hr hlocks (by decide) (by decide) hw dX6_look_73
            · rcases o_if hf with ⟨c36, hf⟩ | ⟨-, hf⟩
              · refine lv_tableIn (tgt := 74) hx hb dX6_look_13 (by rw [c36]; decide) (by rw [c36]; decide) (by rw [c36]; rfl) (by decide) ?_
                refine lv_aload hx hb dX6_look_74 (lv_at hl 0 rfl) ?_
                obtain ⟨h38, hf⟩ := o_ite hf
                obtain ⟨r40, μ39, h37, hf⟩ := o_bind2 hf
                refine pw_goI hw (pw_runV (As := []) (rest := []) hC mm_X0_documentType tw_665 (c_X0_documentType h37 _) ⟨rfl, rfl, by decide, by decide⟩ hw h38 rfl hl.1 (Nat.le_of_ble_eq_true rfl) ⟨by decide, by decide⟩ rfl dX6_look_76) (fun H locs hw => ?_)
                obtain rfl := o_retv hf
                exact pw_xiret hC hr hlocks (by decide) (by decide) hw dX6_look_79
              · cases hf
theorem dX6_byteAt_0 : decode cX6_byteAt 0 = .ok (.aload_n 0, 1) := by decide +kernel
theorem dX6_byteAt_1 : decode cX6_byteAt 1 = .ok (.iload_n 1, 1) := by decide +kernel
theorem dX6_byteAt_2 : decode cX6_byteAt 2 = .ok (.invokevirtual 95, 3) := by decide +kernel
theorem dX6_byteAt_5 : decode cX6_byteAt 5 = .ok (.astore_n 3, 1) := by decide +kernel
theorem dX6_byteAt_6 : decode cX6_byteAt 6 = .ok (.iload_n 2, 1) := by decide +kernel
theorem dX6_byteAt_7 : decode cX6_byteAt 7 = .ok (.ifCond .lt 14, 3) := by decide +kernel
theorem dX6_byteAt_10 : decode cX6_byteAt 10 = .ok (.iload_n 2, 1) := by decide +kernel
theorem dX6_byteAt_11 : decode cX6_byteAt 11 = .ok (.aload_n 3, 1) := by decide +kernel
theorem dX6_byteAt_12 : decode cX6_byteAt 12 = .ok (.getfield 102, 3) := by decide +kernel
theorem dX6_byteAt_15 : decode cX6_byteAt 15 = .ok (.getfield 73, 3) := by decide +kernel
theorem dX6_byteAt_18 : decode cX6_byteAt 18 = .ok (.if_icmp .lt 7, 3) := by decide +kernel
theorem dX6_byteAt_21 : decode cX6_byteAt 21 = .ok (.iconst (-1), 1) := by decide +kernel
theorem dX6_byteAt_22 : decode cX6_byteAt 22 = .ok (.goto 11, 3) := by decide +kernel
theorem dX6_byteAt_25 : decode cX6_byteAt 25 = .ok (.aload_n 3, 1) := by decide +kernel
theorem dX6_byteAt_26 : decode cX6_byteAt 26 = .ok (.getfield 102, 3) := by decide +kernel
theorem dX6_byteAt_29 : decode cX6_byteAt 29 = .ok (.iload_n 2, 1) := by decide +kernel
theorem dX6_byteAt_30 : decode cX6_byteAt 30 = .ok (.invokevirtual 160, 3) := by decide +kernel
theorem dX6_byteAt_33 : decode cX6_byteAt 33 = .ok (.ireturn, 1) := by decide +kernel
abbrev rm_X6_byteAt : Room := { frames := 7, cells := 1, slots := 6, locals := 121 }
def f_X6_byteAt_L21 (cy : Nat → ClassId)  (μ : Mem) : Option ((String × Mem) ⊕ (Int32 × Mem)) :=
  some (.inr ((-1), μ))
set_option maxRecDepth 100000 in
set_option maxHeartbeats 4000000 in
theorem w_X6_byteAt_L21 {p : Program} {l : Launch} {e : Env} {s : State} {m : MethodId} {args : Array Value} {below : List Frame} {meth : Method} {c : Code} {A : Nat → Prop} {g : Wg} {L : List Nat} {res : ((String × Mem) ⊕ (Int32 × Mem))} (hC : CX p m c cX6_byteAt 4 s args RX6) (hr : meth.sig.returnType = (some .int)) (hlocks : meth.locks = false) (hl0 : l.stackTraces = false) (hX : XS A s s.heap) (hno : ∀ x ∈ c.exceptionTable.toList, False) : ∀  (μ : Mem) (H : Heap) (locs : List Loc) (ls : Array Slot), lv_has ls 4 [] → PW g L μ A s H locs → f_X6_byteAt_L21 g.2  μ = some res → W p l e rm_X6_byteAt s m args below meth c H locs 1 6 (vx_MQ below (QX g L A (rvI res)) (XX g L A (rvI res)) args s 1 6 A) (F0 m 21 ls []) := by
  have hx := hC.1
  have hb := hC.2.1
  intro  μ H locs ls hl hw hf
  unfold f_X6_byteAt_L21 at hf
  refine lv_iconst (v := (-1)) hx hb dX6_byteAt_21 nc_iconst_m1 ?_
  refine lv_goto (tgt := 33) hx hb dX6_byteAt_22 (by decide) ?_
  obtain rfl := o_retv hf
  exact pw_xiret hC hr hlocks (by decide) (by decide) hw dX6_byteAt_33
def f_X6_byteAt (cy : Nat → ClassId) (a0 : Nat) (a1 : Int32) (a2 : Int32) (μ : Mem) : Option ((String × Mem) ⊕ (Int32 × Mem)) :=
  if isO μ a0 5 = true then (obX2 (f_X6_shelfOf cy a0 a1 μ) fun q6 μ3 => if a2 < 0 then (f_X6_byteAt_L21 cy  μ3) else (rdR μ3 q6 3 0).bind fun q8 => (rdI μ3 q8 4 1).bind fun v10 => if a2 < v10 then ((rdR μ3 q6 3 0).bind fun q13 => if isO μ3 q13 4 = true then (ob2 (f_X5_at cy q13 a2 μ3) fun r18 μ17 => some (.inr (r18, μ17))) else none) else f_X6_byteAt_L21 cy  μ3) else none
set_option maxRecDepth 100000 in
set_option maxHeartbeats 4000000 in
theorem c_X6_byteAt {l : Launch} {g : Wg} {L : List Nat} {μ : Mem} {a0 : Nat} {a1 : Int32} {a2 : Int32} {res : ((String × Mem) ⊕ (Int32 × Mem))} (hl0 : l.stackTraces = false) (hf : f_X6_byteAt g.2 a0 a1 a2 μ = some res) : MetX l yX6_byteAt cX6_byteAt 4 (some .int) rm_X6_byteAt g L μ [.ref a0, .int a1, .int a2] (rvI res) := by
  refine pw_metX (by decide) (Nat.le_of_ble_eq_true rfl) ?_
  intro p e s m args below meth c A ls H locs hC hr hlocks hl hw hX hno
  have hx := hC.1
  have hb := hC.2.1
  have hl : lv_has ls 4 [(0, .ref a0), (1, .int a1), (2, .int a2)] := hl
  unfold f_X6_byteAt at hf
  refine lv_aload_n hx hb dX6_byteAt_0 rfl (lv_at hl 0 rfl) ?_
  refine lv_iload_n hx hb dX6_byteAt_1 rfl (lv_at hl 1 rfl) ?_
  obtain ⟨h2, hf⟩ := o_ite hf
  rcases o_bindX2 hf with ⟨er4, h1, rfl⟩ | ⟨q6, μ3, h1, hf⟩
  · exact pw_thru hw hno hlocks (pw_runVX (As := [.int a1]) (rest := []) hC mm_X6_shelfOf tw_429 (c_X6_shelfOf hl0 h1) ⟨by decide, by decide⟩ hw hX h2 rfl hl.1 (Nat.le_of_ble_eq_true rfl) ⟨by decide, by decide⟩ rfl dX6_byteAt_2) (by decide) (by decide)
  · refine pw_goX hw (pw_runVX (As := [.int a1]) (rest := []) hC mm_X6_shelfOf tw_429 (c_X6_shelfOf hl0 h1) ⟨by decide, by decide⟩ hw hX h2 rfl hl.1 (Nat.le_of_ble_eq_true rfl) ⟨by decide, by decide⟩ rfl dX6_byteAt_2) (fun H locs hw => ?_)
    refine W.eq (g2 := F0 m 5 ls [.ref q6]) rfl ?_
    refine W.widen (k := 1) (n := 6) (by decide) (by decide) ?_
    refine lv_astore_n (lv' := [(3, .ref q6), (0, .ref a0), (1, .int a1), (2, .int a2)]) hx hb dX6_byteAt_5 rfl hl (by decide) rfl (fun ls hl => ?_)
    refine lv_iload_n hx hb dX6_byteAt_6 rfl (lv_at hl 3 rfl) ?_
    refine lv_if_lt (tgt := 21) hx hb dX6_byteAt_7 (by decide) (fun c7 => ?_) (fun c7 => ?_)
    · have hf := o_pos c7 hf
      refine W.widen (k := 1) (n := 6) (by decide) (by decide) ?_
      exact w_X6_byteAt_L21 hC hr hlocks hl0 hX hno  _ _ _ ls (lv_sub hl [] rfl) hw hf
    · have hf := o_neg c7 hf
      refine lv_iload_n hx hb dX6_byteAt_10 rfl (lv_at hl 3 rfl) ?_
      refine lv_aload_n hx hb dX6_byteAt_11 rfl (lv_at hl 0 rfl) ?_
      obtain ⟨q8, h9, hf⟩ := o_bind hf
      refine pw_get hC fl_X6_102 hw (rdR_F h9) dX6_byteAt_12 ?_
      obtain ⟨v10, h11, hf⟩ := o_bind hf
      refine pw_get hC fl_X6_73 hw (rdI_F h11) dX6_byteAt_15 ?_
      refine lv_icmp_lt (tgt := 25) hx hb dX6_byteAt_18 (by decide) (fun c12 => ?_) (fun c12 => ?_)
      · have hf := o_pos c12 hf
        refine lv_aload_n hx hb dX6_byteAt_25 rfl (lv_at hl 0 rfl) ?_
        obtain ⟨q13, h14, hf⟩ := o_bind hf
        refine pw_get hC fl_X6_102 hw (rdR_F h14) dX6_byteAt_26 ?_
        refine lv_iload_n hx hb dX6_byteAt_29 rfl (lv_at hl 3 rfl) ?_
        obtain ⟨h16, hf⟩ := o_ite hf
        obtain ⟨r18, μ17, h15, hf⟩ := o_bind2 hf
        refine pw_goI hw (pw_runV (As := [.int a2]) (rest := []) hC mm_X5_at tw_537 (c_X5_at h15 _) ⟨rfl, rfl, by decide, by decide⟩ hw h16 rfl hl.1 (Nat.le_of_ble_eq_true rfl) ⟨by decide, by decide⟩ rfl dX6_byteAt_30) (fun H locs hw => ?_)
        obtain rfl := o_retv hf
        exact pw_xiret hC hr hlocks (by decide) (by decide) hw dX6_byteAt_33
      · have hf := o_neg c12 hf
        refine W.widen (k := 1) (n := 6) (by decide) (by decide) ?_
        exact w_X6_byteAt_L21 hC hr hlocks hl0 hX hno  _ _ _ ls (lv_sub hl [] rfl) hw hf
