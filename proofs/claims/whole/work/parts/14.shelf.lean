theorem tw_7 : (Jvm.Cond.initialized "SpanShelves$Shelf") ∈ tw := tw_t 7 (by decide +kernel) (by decide +kernel)
theorem tw_42 : (Jvm.Cond.fieldLinkNest "SpanShelves$Shelf" (104 : Nat) "SpanShelves$Span" "size" "I" "SpanShelves") ∈ tw := tw_t 42 (by decide +kernel) (by decide +kernel)
theorem tw_44 : (Jvm.Cond.fieldLinkNest "SpanShelves$Shelf" (107 : Nat) "SpanShelves$Span" "isOver" "Z" "SpanShelves") ∈ tw := tw_t 44 (by decide +kernel) (by decide +kernel)
theorem tw_122 : (Jvm.Cond.fieldLinkNest "SpanShelves$Shelf" (50 : Nat) "SpanShelves$Cursor" "number" "I" "SpanShelves") ∈ tw := tw_t 122 (by decide +kernel) (by decide +kernel)
theorem tw_126 : (Jvm.Cond.fieldLinkNest "SpanShelves$Shelf" (98 : Nat) "SpanShelves$Cursor" "count" "I" "SpanShelves") ∈ tw := tw_t 126 (by decide +kernel) (by decide +kernel)
theorem tw_196 : (Jvm.Cond.fieldLink "SpanShelves$Shelf" (14 : Nat) "SpanShelves$Shelf" "bytes" "LSpanShelves$Span;") ∈ tw := tw_t 196 (by decide +kernel) (by decide +kernel)
theorem tw_198 : (Jvm.Cond.fieldLink "SpanShelves$Shelf" (23 : Nat) "SpanShelves$Shelf" "cursor" "LSpanShelves$Cursor;") ∈ tw := tw_t 198 (by decide +kernel) (by decide +kernel)
theorem tw_200 : (Jvm.Cond.fieldLink "SpanShelves$Shelf" (40 : Nat) "SpanShelves$Shelf" "draft" "LSpanShelves$Span;") ∈ tw := tw_t 200 (by decide +kernel) (by decide +kernel)
theorem tw_201 : (Jvm.Cond.fieldLink "SpanShelves$Shelf" (27 : Nat) "SpanShelves$Shelf" "drafted" "I") ∈ tw := tw_t 201 (by decide +kernel) (by decide +kernel)
theorem tw_202 : (Jvm.Cond.fieldLink "SpanShelves$Shelf" (31 : Nat) "SpanShelves$Shelf" "changedPlace" "I") ∈ tw := tw_t 202 (by decide +kernel) (by decide +kernel)
theorem tw_204 : (Jvm.Cond.fieldLink "SpanShelves$Shelf" (34 : Nat) "SpanShelves$Shelf" "changedLengths" "I") ∈ tw := tw_t 204 (by decide +kernel) (by decide +kernel)
theorem tw_206 : (Jvm.Cond.fieldLink "SpanShelves$Shelf" (37 : Nat) "SpanShelves$Shelf" "changedBy" "I") ∈ tw := tw_t 206 (by decide +kernel) (by decide +kernel)
theorem tw_227 : (Jvm.Cond.methodLink "SpanShelves$Shelf" (43 : Nat) ({ cls := "SpanShelves$Span", name := "become", desc := "(LSpanShelves$Span;)V" } : Jvm.MethodName)) ∈ tw := tw_t 227 (by decide +kernel) (by decide +kernel)
theorem tw_228 : (Jvm.Cond.instanceMethod ({ cls := "SpanShelves$Span", name := "become", desc := "(LSpanShelves$Span;)V" } : Jvm.MethodName)) ∈ tw := tw_t 228 (by decide +kernel) (by decide +kernel)
theorem tw_229 : (Jvm.Cond.selects "SpanShelves$Span" ({ cls := "SpanShelves$Span", name := "become", desc := "(LSpanShelves$Span;)V" } : Jvm.MethodName) ({ cls := "SpanShelves$Span", name := "become", desc := "(LSpanShelves$Span;)V" } : Jvm.MethodName)) ∈ tw := tw_t 229 (by decide +kernel) (by decide +kernel)
theorem tw_230 : (Jvm.Cond.code ({ cls := "SpanShelves$Span", name := "become", desc := "(LSpanShelves$Span;)V" } : Jvm.MethodName) prog_7_method_3_code (2 : Nat) (Option.none : Option Jvm.ClassFile.FieldType)) ∈ tw := tw_t 230 (by decide +kernel) (by decide +kernel)
theorem tw_242 : (Jvm.Cond.methodLink "SpanShelves$Shelf" (47 : Nat) ({ cls := "SpanShelves$Cursor", name := "toRoot", desc := "(LSpanShelves$Span;)V" } : Jvm.MethodName)) ∈ tw := tw_t 242 (by decide +kernel) (by decide +kernel)
theorem tw_243 : (Jvm.Cond.instanceMethod ({ cls := "SpanShelves$Cursor", name := "toRoot", desc := "(LSpanShelves$Span;)V" } : Jvm.MethodName)) ∈ tw := tw_t 243 (by decide +kernel) (by decide +kernel)
theorem tw_244 : (Jvm.Cond.selects "SpanShelves$Cursor" ({ cls := "SpanShelves$Cursor", name := "toRoot", desc := "(LSpanShelves$Span;)V" } : Jvm.MethodName) ({ cls := "SpanShelves$Cursor", name := "toRoot", desc := "(LSpanShelves$Span;)V" } : Jvm.MethodName)) ∈ tw := tw_t 244 (by decide +kernel) (by decide +kernel)
theorem tw_245 : (Jvm.Cond.code ({ cls := "SpanShelves$Cursor", name := "toRoot", desc := "(LSpanShelves$Span;)V" } : Jvm.MethodName) prog_2_method_2_code (2 : Nat) (Option.none : Option Jvm.ClassFile.FieldType)) ∈ tw := tw_t 245 (by decide +kernel) (by decide +kernel)
theorem tw_674 : (Jvm.Cond.instanceMethod ({ cls := "SpanShelves$Shelf", name := "elementPlace", desc := "()I" } : Jvm.MethodName)) ∈ tw := tw_t 674 (by decide +kernel) (by decide +kernel)
theorem tw_675 : (Jvm.Cond.selects "SpanShelves$Shelf" ({ cls := "SpanShelves$Shelf", name := "elementPlace", desc := "()I" } : Jvm.MethodName) ({ cls := "SpanShelves$Shelf", name := "elementPlace", desc := "()I" } : Jvm.MethodName)) ∈ tw := tw_t 675 (by decide +kernel) (by decide +kernel)
theorem tw_676 : (Jvm.Cond.code ({ cls := "SpanShelves$Shelf", name := "elementPlace", desc := "()I" } : Jvm.MethodName) prog_6_method_3_code (1 : Nat) (Option.some Jvm.ClassFile.FieldType.int)) ∈ tw := tw_t 676 (by decide +kernel) (by decide +kernel)
theorem tw_677 : (Jvm.Cond.methodLink "SpanShelves$Shelf" (53 : Nat) ({ cls := "SpanShelves$Cursor", name := "startOf", desc := "(I)I" } : Jvm.MethodName)) ∈ tw := tw_t 677 (by decide +kernel) (by decide +kernel)
theorem tw_719 : (Jvm.Cond.methodLink "SpanShelves$Shelf" (57 : Nat) ({ cls := "SpanShelves$Shelf", name := "elementPlace", desc := "()I" } : Jvm.MethodName)) ∈ tw := tw_t 719 (by decide +kernel) (by decide +kernel)
theorem tw_720 : (Jvm.Cond.methodLink "SpanShelves$Shelf" (61 : Nat) ({ cls := "SpanShelves$Span", name := "at", desc := "(I)I" } : Jvm.MethodName)) ∈ tw := tw_t 720 (by decide +kernel) (by decide +kernel)
theorem tw_744 : (Jvm.Cond.methodLink "SpanShelves$Shelf" (64 : Nat) ({ cls := "SpanShelves$Span", name := "behindName", desc := "(I)I" } : Jvm.MethodName)) ∈ tw := tw_t 744 (by decide +kernel) (by decide +kernel)
theorem tw_787 : (Jvm.Cond.methodLink "SpanShelves$Shelf" (91 : Nat) ({ cls := "SpanShelves$Shelf", name := "startDraft", desc := "()V" } : Jvm.MethodName)) ∈ tw := tw_t 787 (by decide +kernel) (by decide +kernel)
theorem tw_788 : (Jvm.Cond.instanceMethod ({ cls := "SpanShelves$Shelf", name := "startDraft", desc := "()V" } : Jvm.MethodName)) ∈ tw := tw_t 788 (by decide +kernel) (by decide +kernel)
theorem tw_789 : (Jvm.Cond.selects "SpanShelves$Shelf" ({ cls := "SpanShelves$Shelf", name := "startDraft", desc := "()V" } : Jvm.MethodName) ({ cls := "SpanShelves$Shelf", name := "startDraft", desc := "()V" } : Jvm.MethodName)) ∈ tw := tw_t 789 (by decide +kernel) (by decide +kernel)
theorem tw_790 : (Jvm.Cond.code ({ cls := "SpanShelves$Shelf", name := "startDraft", desc := "()V" } : Jvm.MethodName) prog_6_method_7_code (1 : Nat) (Option.none : Option Jvm.ClassFile.FieldType)) ∈ tw := tw_t 790 (by decide +kernel) (by decide +kernel)
theorem tw_791 : (Jvm.Cond.methodLink "SpanShelves$Shelf" (67 : Nat) ({ cls := "SpanShelves$Span", name := "clear", desc := "()V" } : Jvm.MethodName)) ∈ tw := tw_t 791 (by decide +kernel) (by decide +kernel)
theorem tw_792 : (Jvm.Cond.methodLink "SpanShelves$Shelf" (70 : Nat) ({ cls := "SpanShelves$Cursor", name := "document", desc := "()I" } : Jvm.MethodName)) ∈ tw := tw_t 792 (by decide +kernel) (by decide +kernel)
theorem tw_793 : (Jvm.Cond.methodLink "SpanShelves$Shelf" (73 : Nat) ({ cls := "SpanShelves$Span", name := "appendPart", desc := "(LSpanShelves$Span;II)V" } : Jvm.MethodName)) ∈ tw := tw_t 793 (by decide +kernel) (by decide +kernel)
theorem tw_794 : (Jvm.Cond.methodLink "SpanShelves$Shelf" (94 : Nat) ({ cls := "SpanShelves$Shelf", name := "keepElements", desc := "(II)V" } : Jvm.MethodName)) ∈ tw := tw_t 794 (by decide +kernel) (by decide +kernel)
theorem tw_795 : (Jvm.Cond.instanceMethod ({ cls := "SpanShelves$Shelf", name := "keepElements", desc := "(II)V" } : Jvm.MethodName)) ∈ tw := tw_t 795 (by decide +kernel) (by decide +kernel)
theorem tw_796 : (Jvm.Cond.selects "SpanShelves$Shelf" ({ cls := "SpanShelves$Shelf", name := "keepElements", desc := "(II)V" } : Jvm.MethodName) ({ cls := "SpanShelves$Shelf", name := "keepElements", desc := "(II)V" } : Jvm.MethodName)) ∈ tw := tw_t 796 (by decide +kernel) (by decide +kernel)
theorem tw_797 : (Jvm.Cond.code ({ cls := "SpanShelves$Shelf", name := "keepElements", desc := "(II)V" } : Jvm.MethodName) prog_6_method_8_code (6 : Nat) (Option.none : Option Jvm.ClassFile.FieldType)) ∈ tw := tw_t 797 (by decide +kernel) (by decide +kernel)
theorem tw_798 : (Jvm.Cond.methodLink "SpanShelves$Shelf" (77 : Nat) ({ cls := "SpanShelves$Cursor", name := "isInRow", desc := "()Z" } : Jvm.MethodName)) ∈ tw := tw_t 798 (by decide +kernel) (by decide +kernel)
theorem tw_799 : (Jvm.Cond.instanceMethod ({ cls := "SpanShelves$Cursor", name := "isInRow", desc := "()Z" } : Jvm.MethodName)) ∈ tw := tw_t 799 (by decide +kernel) (by decide +kernel)
theorem tw_800 : (Jvm.Cond.selects "SpanShelves$Cursor" ({ cls := "SpanShelves$Cursor", name := "isInRow", desc := "()Z" } : Jvm.MethodName) ({ cls := "SpanShelves$Cursor", name := "isInRow", desc := "()Z" } : Jvm.MethodName)) ∈ tw := tw_t 800 (by decide +kernel) (by decide +kernel)
theorem tw_801 : (Jvm.Cond.code ({ cls := "SpanShelves$Cursor", name := "isInRow", desc := "()Z" } : Jvm.MethodName) prog_2_method_10_code (1 : Nat) (Option.some Jvm.ClassFile.FieldType.boolean)) ∈ tw := tw_t 801 (by decide +kernel) (by decide +kernel)
theorem tw_803 : (Jvm.Cond.methodLink "SpanShelves$Shelf" (81 : Nat) ({ cls := "SpanShelves$Shelf", name := "addElement", desc := "(ILSpanShelves$Span;ILSpanShelves$Span;II)V" } : Jvm.MethodName)) ∈ tw := tw_t 803 (by decide +kernel) (by decide +kernel)
theorem tw_804 : (Jvm.Cond.instanceMethod ({ cls := "SpanShelves$Shelf", name := "addElement", desc := "(ILSpanShelves$Span;ILSpanShelves$Span;II)V" } : Jvm.MethodName)) ∈ tw := tw_t 804 (by decide +kernel) (by decide +kernel)
theorem tw_805 : (Jvm.Cond.selects "SpanShelves$Shelf" ({ cls := "SpanShelves$Shelf", name := "addElement", desc := "(ILSpanShelves$Span;ILSpanShelves$Span;II)V" } : Jvm.MethodName) ({ cls := "SpanShelves$Shelf", name := "addElement", desc := "(ILSpanShelves$Span;ILSpanShelves$Span;II)V" } : Jvm.MethodName)) ∈ tw := tw_t 805 (by decide +kernel) (by decide +kernel)
theorem tw_806 : (Jvm.Cond.code ({ cls := "SpanShelves$Shelf", name := "addElement", desc := "(ILSpanShelves$Span;ILSpanShelves$Span;II)V" } : Jvm.MethodName) prog_6_method_9_code (7 : Nat) (Option.none : Option Jvm.ClassFile.FieldType)) ∈ tw := tw_t 806 (by decide +kernel) (by decide +kernel)
theorem tw_807 : (Jvm.Cond.methodLink "SpanShelves$Shelf" (85 : Nat) ({ cls := "SpanShelves$Span", name := "append", desc := "(I)V" } : Jvm.MethodName)) ∈ tw := tw_t 807 (by decide +kernel) (by decide +kernel)
theorem tw_808 : (Jvm.Cond.methodLink "SpanShelves$Shelf" (88 : Nat) ({ cls := "SpanShelves$Span", name := "appendRowName", desc := "(I)V" } : Jvm.MethodName)) ∈ tw := tw_t 808 (by decide +kernel) (by decide +kernel)
theorem tw_809 : (Jvm.Cond.instanceMethod ({ cls := "SpanShelves$Span", name := "appendRowName", desc := "(I)V" } : Jvm.MethodName)) ∈ tw := tw_t 809 (by decide +kernel) (by decide +kernel)
theorem tw_810 : (Jvm.Cond.selects "SpanShelves$Span" ({ cls := "SpanShelves$Span", name := "appendRowName", desc := "(I)V" } : Jvm.MethodName) ({ cls := "SpanShelves$Span", name := "appendRowName", desc := "(I)V" } : Jvm.MethodName)) ∈ tw := tw_t 810 (by decide +kernel) (by decide +kernel)
theorem tw_811 : (Jvm.Cond.code ({ cls := "SpanShelves$Span", name := "appendRowName", desc := "(I)V" } : Jvm.MethodName) prog_7_method_12_code (4 : Nat) (Option.none : Option Jvm.ClassFile.FieldType)) ∈ tw := tw_t 811 (by decide +kernel) (by decide +kernel)
theorem tw_821 : (Jvm.Cond.methodLink "SpanShelves$Shelf" (101 : Nat) ({ cls := "SpanShelves$Cursor", name := "lastBytePlace", desc := "()I" } : Jvm.MethodName)) ∈ tw := tw_t 821 (by decide +kernel) (by decide +kernel)
theorem tw_822 : (Jvm.Cond.instanceMethod ({ cls := "SpanShelves$Cursor", name := "lastBytePlace", desc := "()I" } : Jvm.MethodName)) ∈ tw := tw_t 822 (by decide +kernel) (by decide +kernel)
theorem tw_823 : (Jvm.Cond.selects "SpanShelves$Cursor" ({ cls := "SpanShelves$Cursor", name := "lastBytePlace", desc := "()I" } : Jvm.MethodName) ({ cls := "SpanShelves$Cursor", name := "lastBytePlace", desc := "()I" } : Jvm.MethodName)) ∈ tw := tw_t 823 (by decide +kernel) (by decide +kernel)
theorem tw_824 : (Jvm.Cond.code ({ cls := "SpanShelves$Cursor", name := "lastBytePlace", desc := "()I" } : Jvm.MethodName) prog_2_method_15_code (1 : Nat) (Option.some Jvm.ClassFile.FieldType.int)) ∈ tw := tw_t 824 (by decide +kernel) (by decide +kernel)
theorem tw_825 : (Jvm.Cond.methodLink "SpanShelves$Shelf" (111 : Nat) ({ cls := "SpanShelves$Span", name := "firstDifference", desc := "(LSpanShelves$Span;I)I" } : Jvm.MethodName)) ∈ tw := tw_t 825 (by decide +kernel) (by decide +kernel)
theorem tw_826 : (Jvm.Cond.instanceMethod ({ cls := "SpanShelves$Span", name := "firstDifference", desc := "(LSpanShelves$Span;I)I" } : Jvm.MethodName)) ∈ tw := tw_t 826 (by decide +kernel) (by decide +kernel)
theorem tw_827 : (Jvm.Cond.selects "SpanShelves$Span" ({ cls := "SpanShelves$Span", name := "firstDifference", desc := "(LSpanShelves$Span;I)I" } : Jvm.MethodName) ({ cls := "SpanShelves$Span", name := "firstDifference", desc := "(LSpanShelves$Span;I)I" } : Jvm.MethodName)) ∈ tw := tw_t 827 (by decide +kernel) (by decide +kernel)
theorem tw_828 : (Jvm.Cond.code ({ cls := "SpanShelves$Span", name := "firstDifference", desc := "(LSpanShelves$Span;I)I" } : Jvm.MethodName) prog_7_method_16_code (5 : Nat) (Option.some Jvm.ClassFile.FieldType.int)) ∈ tw := tw_t 828 (by decide +kernel) (by decide +kernel)
theorem tw_830 : (Jvm.Cond.methodLink "SpanShelves$Shelf" (115 : Nat) ({ cls := "SpanShelves$Cursor", name := "lengthen", desc := "(LSpanShelves$Span;I)I" } : Jvm.MethodName)) ∈ tw := tw_t 830 (by decide +kernel) (by decide +kernel)
theorem tw_831 : (Jvm.Cond.instanceMethod ({ cls := "SpanShelves$Cursor", name := "lengthen", desc := "(LSpanShelves$Span;I)I" } : Jvm.MethodName)) ∈ tw := tw_t 831 (by decide +kernel) (by decide +kernel)
theorem tw_832 : (Jvm.Cond.selects "SpanShelves$Cursor" ({ cls := "SpanShelves$Cursor", name := "lengthen", desc := "(LSpanShelves$Span;I)I" } : Jvm.MethodName) ({ cls := "SpanShelves$Cursor", name := "lengthen", desc := "(LSpanShelves$Span;I)I" } : Jvm.MethodName)) ∈ tw := tw_t 832 (by decide +kernel) (by decide +kernel)
theorem tw_833 : (Jvm.Cond.code ({ cls := "SpanShelves$Cursor", name := "lengthen", desc := "(LSpanShelves$Span;I)I" } : Jvm.MethodName) prog_2_method_17_code (6 : Nat) (Option.some Jvm.ClassFile.FieldType.int)) ∈ tw := tw_t 833 (by decide +kernel) (by decide +kernel)
theorem tw_838 : (Jvm.Cond.methodLink "SpanShelves$Shelf" (118 : Nat) ({ cls := "SpanShelves$Cursor", name := "findStarts", desc := "(LSpanShelves$Span;)V" } : Jvm.MethodName)) ∈ tw := tw_t 838 (by decide +kernel) (by decide +kernel)
theorem tw_839 : (Jvm.Cond.methodLink "SpanShelves$Shelf" (121 : Nat) ({ cls := "SpanShelves$Cursor", name := "toNumberOrLast", desc := "(I)V" } : Jvm.MethodName)) ∈ tw := tw_t 839 (by decide +kernel) (by decide +kernel)
theorem iw_X4 : ∀ w ∈ u_ws RX4 TX4 7, w ∈ tw := fun w h => List.mem_filter.mpr ⟨(show ∀ w ∈ u_ws RX4 TX4 7, w ∈ lw_tbl by decide +kernel) w h, (show ∀ w ∈ u_ws RX4 TX4 7, tw_ok w = true by decide +kernel) w h⟩
theorem fl_X4_14 : FL RX4 14 3 0 := ⟨by decide, RX4, TX4, 7, tyX4, rfl, by decide, rfl, iw_X4, tyX4_ok, nmX4, Or.inl tw_196⟩
theorem fl_X4_23 : FL RX4 23 3 1 := ⟨by decide, RX4, TX4, 7, tyX4, rfl, by decide, rfl, iw_X4, tyX4_ok, nmX4, Or.inl tw_198⟩
theorem fl_X4_27 : FL RX4 27 3 3 := ⟨by decide, RX4, TX4, 7, tyX4, rfl, by decide, rfl, iw_X4, tyX4_ok, nmX4, Or.inl tw_201⟩
theorem fl_X4_31 : FL RX4 31 3 4 := ⟨by decide, RX4, TX4, 7, tyX4, rfl, by decide, rfl, iw_X4, tyX4_ok, nmX4, Or.inl tw_202⟩
theorem fl_X4_34 : FL RX4 34 3 5 := ⟨by decide, RX4, TX4, 7, tyX4, rfl, by decide, rfl, iw_X4, tyX4_ok, nmX4, Or.inl tw_204⟩
theorem fl_X4_37 : FL RX4 37 3 6 := ⟨by decide, RX4, TX4, 7, tyX4, rfl, by decide, rfl, iw_X4, tyX4_ok, nmX4, Or.inl tw_206⟩
theorem fl_X4_40 : FL RX4 40 3 2 := ⟨by decide, RX4, TX4, 7, tyX4, rfl, by decide, rfl, iw_X4, tyX4_ok, nmX4, Or.inl tw_200⟩
theorem fl_X4_50 : FL RX4 50 0 5 := ⟨by decide, RX0, TX0, 8, tyX0, rfl, by decide, rfl, iw_X0, tyX0_ok, nmX0, Or.inr ⟨_, tw_122⟩⟩
theorem fl_X4_98 : FL RX4 98 0 7 := ⟨by decide, RX0, TX0, 8, tyX0, rfl, by decide, rfl, iw_X0, tyX0_ok, nmX0, Or.inr ⟨_, tw_126⟩⟩
theorem fl_X4_104 : FL RX4 104 4 1 := ⟨by decide, RX5, TX5, 3, tyX5, rfl, by decide, rfl, iw_X5, tyX5_ok, nmX5, Or.inr ⟨_, tw_42⟩⟩
theorem fl_X4_107 : FL RX4 107 4 2 := ⟨by decide, RX5, TX5, 3, tyX5, rfl, by decide, rfl, iw_X5, tyX5_ok, nmX5, Or.inr ⟨_, tw_44⟩⟩
theorem fd_X4_3 : ∀ (C : String) (T : u_T) (N : Nat), vwCl[3]? = some (C, T, N) → (T 3).2.2.2 = false ∧ parseFieldDescriptor (T 3).2.2.1 = some .int := by intro C T N h; cases h; exact ⟨rfl, by decide +kernel⟩
theorem fd_X4_4 : ∀ (C : String) (T : u_T) (N : Nat), vwCl[3]? = some (C, T, N) → (T 4).2.2.2 = false ∧ parseFieldDescriptor (T 4).2.2.1 = some .int := by intro C T N h; cases h; exact ⟨rfl, by decide +kernel⟩
theorem fd_X4_5 : ∀ (C : String) (T : u_T) (N : Nat), vwCl[3]? = some (C, T, N) → (T 5).2.2.2 = false ∧ parseFieldDescriptor (T 5).2.2.1 = some .int := by intro C T N h; cases h; exact ⟨rfl, by decide +kernel⟩
theorem fd_X4_6 : ∀ (C : String) (T : u_T) (N : Nat), vwCl[3]? = some (C, T, N) → (T 6).2.2.2 = false ∧ parseFieldDescriptor (T 6).2.2.1 = some .int := by intro C T N h; cases h; exact ⟨rfl, by decide +kernel⟩
theorem mm_X0_isInRow : MM 0 yX0_isInRow cX0_isInRow 1 (some .boolean) 0 := ⟨by decide, RX0, TX0, 8, rfl, tw_799, tw_800, tw_801, tw_5, by decide +kernel, by decide +kernel, by decide +kernel⟩
theorem mm_X0_lastBytePlace : MM 0 yX0_lastBytePlace cX0_lastBytePlace 1 (some .int) 0 := ⟨by decide, RX0, TX0, 8, rfl, tw_822, tw_823, tw_824, tw_5, by decide +kernel, by decide +kernel, by decide +kernel⟩
theorem mm_X0_lengthen : MM 0 yX0_lengthen cX0_lengthen 6 (some .int) 2 := ⟨by decide, RX0, TX0, 8, rfl, tw_831, tw_832, tw_833, tw_5, by decide +kernel, by decide +kernel, by decide +kernel⟩
theorem mm_X0_toRoot : MM 0 yX0_toRoot cX0_toRoot 2 none 1 := ⟨by decide, RX0, TX0, 8, rfl, tw_243, tw_244, tw_245, tw_5, by decide +kernel, by decide +kernel, by decide +kernel⟩
theorem mm_X4_addElement : MM 3 yX4_addElement cX4_addElement 7 none 6 := ⟨by decide, RX4, TX4, 7, rfl, tw_804, tw_805, tw_806, tw_7, by decide +kernel, by decide +kernel, by decide +kernel⟩
theorem mm_X4_elementPlace : MM 3 yX4_elementPlace cX4_elementPlace 1 (some .int) 0 := ⟨by decide, RX4, TX4, 7, rfl, tw_674, tw_675, tw_676, tw_7, by decide +kernel, by decide +kernel, by decide +kernel⟩
theorem mm_X4_keepElements : MM 3 yX4_keepElements cX4_keepElements 6 none 2 := ⟨by decide, RX4, TX4, 7, rfl, tw_795, tw_796, tw_797, tw_7, by decide +kernel, by decide +kernel, by decide +kernel⟩
theorem mm_X4_startDraft : MM 3 yX4_startDraft cX4_startDraft 1 none 0 := ⟨by decide, RX4, TX4, 7, rfl, tw_788, tw_789, tw_790, tw_7, by decide +kernel, by decide +kernel, by decide +kernel⟩
theorem mm_X5_appendRowName : MM 4 yX5_appendRowName cX5_appendRowName 4 none 1 := ⟨by decide, RX5, TX5, 3, rfl, tw_809, tw_810, tw_811, tw_2, by decide +kernel, by decide +kernel, by decide +kernel⟩
theorem mm_X5_become : MM 4 yX5_become cX5_become 2 none 1 := ⟨by decide, RX5, TX5, 3, rfl, tw_228, tw_229, tw_230, tw_2, by decide +kernel, by decide +kernel, by decide +kernel⟩
theorem mm_X5_firstDifference : MM 4 yX5_firstDifference cX5_firstDifference 5 (some .int) 2 := ⟨by decide, RX5, TX5, 3, rfl, tw_826, tw_827, tw_828, tw_2, by decide +kernel, by decide +kernel, by decide +kernel⟩
theorem dX4_become_0 : decode cX4_become 0 = .ok (.aload_n 0, 1) := by decide +kernel
theorem dX4_become_1 : decode cX4_become 1 = .ok (.getfield 14, 3) := by decide +kernel
theorem dX4_become_4 : decode cX4_become 4 = .ok (.aload_n 1, 1) := by decide +kernel
theorem dX4_become_5 : decode cX4_become 5 = .ok (.invokevirtual 43, 3) := by decide +kernel
theorem dX4_become_8 : decode cX4_become 8 = .ok (.aload_n 0, 1) := by decide +kernel
theorem dX4_become_9 : decode cX4_become 9 = .ok (.getfield 23, 3) := by decide +kernel
theorem dX4_become_12 : decode cX4_become 12 = .ok (.aload_n 0, 1) := by decide +kernel
theorem dX4_become_13 : decode cX4_become 13 = .ok (.getfield 14, 3) := by decide +kernel
theorem dX4_become_16 : decode cX4_become 16 = .ok (.invokevirtual 47, 3) := by decide +kernel
theorem dX4_become_19 : decode cX4_become 19 = .ok (.return_, 1) := by decide +kernel
abbrev rm_X4_become : Room := { frames := 5, cells := 0, slots := 0, locals := 112 }
def f_X4_become (cy : Nat → ClassId) (a0 : Nat) (a1 : Nat) (μ : Mem) : Option Mem :=
  (rdR μ a0 3 0).bind fun q1 => if isO μ q1 4 = true then ((f_X5_become cy q1 a1 μ).bind fun μ5 => (rdR μ5 a0 3 1).bind fun q6 => (rdR μ5 a0 3 0).bind fun q8 => if isO μ5 q6 0 = true then ((f_X0_toRoot cy q6 q8 μ5).bind fun μ12 => some μ12) else none) else none
set_option maxRecDepth 100000 in
set_option maxHeartbeats 4000000 in
theorem c_X4_become {l : Launch} {g : Wg} {L : List Nat} {μ : Mem} {a0 : Nat} {a1 : Nat} {μ' : Mem} (hf : f_X4_become g.2 a0 a1 μ = some μ') : MetV l yX4_become cX4_become 2 none rm_X4_become g L μ [.ref a0, .ref a1] μ' := by
  refine pw_met (Qc := fun A => QV g L A μ') (by decide) (Nat.le_of_ble_eq_true rfl) ?_
  intro p e s m args below meth c A ls H locs hC hr hlocks hl hw
  have hx := hC.1
  have hb := hC.2.1
  have hl : lv_has ls 2 [(0, .ref a0), (1, .ref a1)] := hl
  unfold f_X4_become at hf
  refine lv_aload_n hx hb dX4_become_0 rfl (lv_at hl 0 rfl) ?_
  obtain ⟨q1, h2, hf⟩ := o_bind hf
  refine pw_get hC fl_X4_14 hw (rdR_F h2) dX4_become_1 ?_
  refine lv_aload_n hx hb dX4_become_4 rfl (lv_at hl 1 rfl) ?_
  obtain ⟨h4, hf⟩ := o_ite hf
  obtain ⟨μ5, h3, hf⟩ := o_bind hf
  refine pw_goV hw (pw_runV (As := [.ref a1]) (rest := []) hC mm_X5_become tw_227 (c_X5_become h3 _) ⟨rfl, rfl, by decide, by decide⟩ hw h4 rfl hl.1 (Nat.le_of_ble_eq_true rfl) ⟨Nat.zero_le _, Nat.zero_le _⟩ rfl dX4_become_5) (fun H locs hw => ?_)
  refine lv_aload_n hx hb dX4_become_8 rfl (lv_at hl 0 rfl) ?_
  obtain ⟨q6, h7, hf⟩ := o_bind hf
  refine pw_get hC fl_X4_23 hw (rdR_F h7) dX4_become_9 ?_
  refine lv_aload_n hx hb dX4_become_12 rfl (lv_at hl 0 rfl) ?_
  obtain ⟨q8, h9, hf⟩ := o_bind hf
  refine pw_get hC fl_X4_14 hw (rdR_F h9) dX4_become_13 ?_
  obtain ⟨h11, hf⟩ := o_ite hf
  obtain ⟨μ12, h10, hf⟩ := o_bind hf
  refine pw_goV hw (pw_runV (As := [.ref q8]) (rest := []) hC mm_X0_toRoot tw_242 (c_X0_toRoot h10 _) ⟨rfl, rfl, by decide, by decide⟩ hw h11 rfl hl.1 (Nat.le_of_ble_eq_true rfl) ⟨Nat.zero_le _, Nat.zero_le _⟩ rfl dX4_become_16) (fun H locs hw => ?_)
  obtain rfl := o_retv hf
  exact pw_vret hC hr hlocks hw dX4_become_19
theorem dX4_elementPlace_0 : decode cX4_elementPlace 0 = .ok (.aload_n 0, 1) := by decide +kernel
theorem dX4_elementPlace_1 : decode cX4_elementPlace 1 = .ok (.getfield 23, 3) := by decide +kernel
theorem dX4_elementPlace_4 : decode cX4_elementPlace 4 = .ok (.aload_n 0, 1) := by decide +kernel
theorem dX4_elementPlace_5 : decode cX4_elementPlace 5 = .ok (.getfield 23, 3) := by decide +kernel
theorem dX4_elementPlace_8 : decode cX4_elementPlace 8 = .ok (.getfield 50, 3) := by decide +kernel
theorem dX4_elementPlace_11 : decode cX4_elementPlace 11 = .ok (.invokevirtual 53, 3) := by decide +kernel
theorem dX4_elementPlace_14 : decode cX4_elementPlace 14 = .ok (.ireturn, 1) := by decide +kernel
abbrev rm_X4_elementPlace : Room := { frames := 1, cells := 0, slots := 0, locals := 21 }
def f_X4_elementPlace (cy : Nat → ClassId) (a0 : Nat) (μ : Mem) : Option (Int32 × Mem) :=
  (rdR μ a0 3 1).bind fun q1 => (rdR μ a0 3 1).bind fun q3 => (rdI μ q3 0 5).bind fun v5 => if isO μ q1 0 = true then (ob2 (f_X0_startOf cy q1 v5 μ) fun r10 μ9 => some (r10, μ9)) else none
set_option maxRecDepth 100000 in
set_option maxHeartbeats 4000000 in
theorem c_X4_elementPlace {l : Launch} {g : Wg} {L : List Nat} {μ : Mem} {a0 : Nat} {r : Int32} {μ' : Mem} (hf : f_X4_elementPlace g.2 a0 μ = some (r, μ')) : MetI l yX4_elementPlace cX4_elementPlace 1 (some .int) rm_X4_elementPlace g L μ [.ref a0] r μ' := by
  refine pw_met (Qc := fun A => QI g L A r μ') (by decide) (Nat.le_of_ble_eq_true rfl) ?_
  intro p e s m args below meth c A ls H locs hC hr hlocks hl hw
  have hx := hC.1
  have hb := hC.2.1
  have hl : lv_has ls 1 [(0, .ref a0)] := hl
  unfold f_X4_elementPlace at hf
  refine lv_aload_n hx hb dX4_elementPlace_0 rfl (lv_at hl 0 rfl) ?_
  obtain ⟨q1, h2, hf⟩ := o_bind hf
  refine pw_get hC fl_X4_23 hw (rdR_F h2) dX4_elementPlace_1 ?_
  refine lv_aload_n hx hb dX4_elementPlace_4 rfl (lv_at hl 0 rfl) ?_
  obtain ⟨q3, h4, hf⟩ := o_bind hf
  refine pw_get hC fl_X4_23 hw (rdR_F h4) dX4_elementPlace_5 ?_
  obtain ⟨v5, h6, hf⟩ := o_bind hf
  refine pw_get hC fl_X4_50 hw (rdI_F h6) dX4_elementPlace_8 ?_
  obtain ⟨h8, hf⟩ := o_ite hf
  obtain ⟨r10, μ9, h7, hf⟩ := o_bind2 hf
  refine pw_goI hw (pw_runV (As := [.int v5]) (rest := []) hC mm_X0_startOf tw_677 (c_X0_startOf h7 _) ⟨rfl, rfl, by decide, by decide⟩ hw h8 rfl hl.1 (Nat.le_of_ble_eq_true rfl) ⟨Nat.zero_le _, Nat.zero_le _⟩ rfl dX4_elementPlace_11) (fun H locs hw => ?_)
  obtain ⟨rfl, rfl⟩ := o_ret hf
  exact pw_iret hC hr hlocks hw dX4_elementPlace_14
theorem dX4_valueEnd_0 : decode cX4_valueEnd 0 = .ok (.aload_n 0, 1) := by decide +kernel
theorem dX4_valueEnd_1 : decode cX4_valueEnd 1 = .ok (.getfield 23, 3) := by decide +kernel
theorem dX4_valueEnd_4 : decode cX4_valueEnd 4 = .ok (.aload_n 0, 1) := by decide +kernel
theorem dX4_valueEnd_5 : decode cX4_valueEnd 5 = .ok (.getfield 23, 3) := by decide +kernel
theorem dX4_valueEnd_8 : decode cX4_valueEnd 8 = .ok (.getfield 50, 3) := by decide +kernel
theorem dX4_valueEnd_11 : decode cX4_valueEnd 11 = .ok (.iconst 1, 1) := by decide +kernel
theorem dX4_valueEnd_12 : decode cX4_valueEnd 12 = .ok (.iadd, 1) := by decide +kernel
theorem dX4_valueEnd_13 : decode cX4_valueEnd 13 = .ok (.invokevirtual 53, 3) := by decide +kernel
theorem dX4_valueEnd_16 : decode cX4_valueEnd 16 = .ok (.ireturn, 1) := by decide +kernel
abbrev rm_X4_valueEnd : Room := { frames := 1, cells := 0, slots := 0, locals := 21 }
def f_X4_valueEnd (cy : Nat → ClassId) (a0 : Nat) (μ : Mem) : Option (Int32 × Mem) :=
  (rdR μ a0 3 1).bind fun q1 => (rdR μ a0 3 1).bind fun q3 => (rdI μ q3 0 5).bind fun v5 => if isO μ q1 0 = true then (ob2 (f_X0_startOf cy q1 (v5 + 1) μ) fun r10 μ9 => some (r10, μ9)) else none
set_option maxRecDepth 100000 in
set_option maxHeartbeats 4000000 in
theorem c_X4_valueEnd {l : Launch} {g : Wg} {L : List Nat} {μ : Mem} {a0 : Nat} {r : Int32} {μ' : Mem} (hf : f_X4_valueEnd g.2 a0 μ = some (r, μ')) : MetI l yX4_valueEnd cX4_valueEnd 1 (some .int) rm_X4_valueEnd g L μ [.ref a0] r μ' := by
  refine pw_met (Qc := fun A => QI g L A r μ') (by decide) (Nat.le_of_ble_eq_true rfl) ?_
  intro p e s m args below meth c A ls H locs hC hr hlocks hl hw
  have hx := hC.1
  have hb := hC.2.1
  have hl : lv_has ls 1 [(0, .ref a0)] := hl
  unfold f_X4_valueEnd at hf
  refine lv_aload_n hx hb dX4_valueEnd_0 rfl (lv_at hl 0 rfl) ?_
  obtain ⟨q1, h2, hf⟩ := o_bind hf
  refine pw_get hC fl_X4_23 hw (rdR_F h2) dX4_valueEnd_1 ?_
  refine lv_aload_n hx hb dX4_valueEnd_4 rfl (lv_at hl 0 rfl) ?_
  obtain ⟨q3, h4, hf⟩ := o_bind hf
  refine pw_get hC fl_X4_23 hw (rdR_F h4) dX4_valueEnd_5 ?_
  obtain ⟨v5, h6, hf⟩ := o_bind hf
  refine pw_get hC fl_X4_50 hw (rdI_F h6) dX4_valueEnd_8 ?_
  refine lv_iconst (v := 1) hx hb dX4_valueEnd_11 nc_iconst_1 ?_
  refine lv_iadd hx hb dX4_valueEnd_12 ?_
  obtain ⟨h8, hf⟩ := o_ite hf
  obtain ⟨r10, μ9, h7, hf⟩ := o_bind2 hf
  refine pw_goI hw (pw_runV (As := [.int (v5 + 1)]) (rest := []) hC mm_X0_startOf tw_677 (c_X0_startOf h7 _) ⟨rfl, rfl, by decide, by decide⟩ hw h8 rfl hl.1 (Nat.le_of_ble_eq_true rfl) ⟨Nat.zero_le _, Nat.zero_le _⟩ rfl dX4_valueEnd_13) (fun H locs hw => ?_)
  obtain ⟨rfl, rfl⟩ := o_ret hf
  exact pw_iret hC hr hlocks hw dX4_valueEnd_16
theorem dX4_startDraft_0 : decode cX4_startDraft 0 = .ok (.aload_n 0, 1) := by decide +kernel
theorem dX4_startDraft_1 : decode cX4_startDraft 1 = .ok (.getfield 40, 3) := by decide +kernel
theorem dX4_startDraft_4 : decode cX4_startDraft 4 = .ok (.invokevirtual 67, 3) := by decide +kernel
theorem dX4_startDraft_7 : decode cX4_startDraft 7 = .ok (.aload_n 0, 1) := by decide +kernel
theorem dX4_startDraft_8 : decode cX4_startDraft 8 = .ok (.iconst 0, 1) := by decide +kernel
theorem dX4_startDraft_9 : decode cX4_startDraft 9 = .ok (.putfield 27, 3) := by decide +kernel
theorem dX4_startDraft_12 : decode cX4_startDraft 12 = .ok (.aload_n 0, 1) := by decide +kernel
theorem dX4_startDraft_13 : decode cX4_startDraft 13 = .ok (.getfield 40, 3) := by decide +kernel
theorem dX4_startDraft_16 : decode cX4_startDraft 16 = .ok (.aload_n 0, 1) := by decide +kernel
theorem dX4_startDraft_17 : decode cX4_startDraft 17 = .ok (.getfield 14, 3) := by decide +kernel
theorem dX4_startDraft_20 : decode cX4_startDraft 20 = .ok (.iconst 0, 1) := by decide +kernel
theorem dX4_startDraft_21 : decode cX4_startDraft 21 = .ok (.aload_n 0, 1) := by decide +kernel
theorem dX4_startDraft_22 : decode cX4_startDraft 22 = .ok (.getfield 23, 3) := by decide +kernel
theorem dX4_startDraft_25 : decode cX4_startDraft 25 = .ok (.invokevirtual 70, 3) := by decide +kernel
theorem dX4_startDraft_28 : decode cX4_startDraft 28 = .ok (.iconst 4, 1) := by decide +kernel
theorem dX4_startDraft_29 : decode cX4_startDraft 29 = .ok (.iadd, 1) := by decide +kernel
theorem dX4_startDraft_30 : decode cX4_startDraft 30 = .ok (.invokevirtual 73, 3) := by decide +kernel
theorem dX4_startDraft_33 : decode cX4_startDraft 33 = .ok (.return_, 1) := by decide +kernel
abbrev rm_X4_startDraft : Room := { frames := 2, cells := 0, slots := 0, locals := 83 }
def f_X4_startDraft (cy : Nat → ClassId) (a0 : Nat) (μ : Mem) : Option Mem :=
  (rdR μ a0 3 2).bind fun q1 => if isO μ q1 4 = true then ((f_X5_clear cy q1 μ).bind fun μ5 => (wrF μ5 a0 3 3 (.int 0)).bind fun μ6 => (rdR μ6 a0 3 2).bind fun q8 => (rdR μ6 a0 3 0).bind fun q10 => (rdR μ6 a0 3 1).bind fun q12 => if isO μ6 q12 0 = true then (ob2 (f_X0_document cy q12 μ6) fun r17 μ16 => if isO μ16 q8 4 = true then ((f_X5_appendPart cy q8 q10 0 (r17 + 4) μ16).bind fun μ20 => some μ20) else none) else none) else none
set_option maxRecDepth 100000 in
set_option maxHeartbeats 4000000 in
theorem c_X4_startDraft {l : Launch} {g : Wg} {L : List Nat} {μ : Mem} {a0 : Nat} {μ' : Mem} (hf : f_X4_startDraft g.2 a0 μ = some μ') : MetV l yX4_startDraft cX4_startDraft 1 none rm_X4_startDraft g L μ [.ref a0] μ' := by
  refine pw_met (Qc := fun A => QV g L A μ') (by decide) (Nat.le_of_ble_eq_true rfl) ?_
  intro p e s m args below meth c A ls H locs hC hr hlocks hl hw
  have hx := hC.1
  have hb := hC.2.1
  have hl : lv_has ls 1 [(0, .ref a0)] := hl
  unfold f_X4_startDraft at hf
  refine lv_aload_n hx hb dX4_startDraft_0 rfl (lv_at hl 0 rfl) ?_
  obtain ⟨q1, h2, hf⟩ := o_bind hf
  refine pw_get hC fl_X4_40 hw (rdR_F h2) dX4_startDraft_1 ?_
  obtain ⟨h4, hf⟩ := o_ite hf
  obtain ⟨μ5, h3, hf⟩ := o_bind hf
  refine pw_goV hw (pw_runV (As := []) (rest := []) hC mm_X5_clear tw_791 (c_X5_clear h3 _) ⟨rfl, rfl, by decide, by decide⟩ hw h4 rfl hl.1 (Nat.le_of_ble_eq_true rfl) ⟨Nat.zero_le _, Nat.zero_le _⟩ rfl dX4_startDraft_4) (fun H locs hw => ?_)
  refine lv_aload_n hx hb dX4_startDraft_7 rfl (lv_at hl 0 rfl) ?_
  refine lv_iconst (v := 0) hx hb dX4_startDraft_8 nc_iconst_0 ?_
  obtain ⟨μ6, h7, hf⟩ := o_bind hf
  refine pw_put hC fl_X4_27 hw h7 .int fd_X4_3 rfl rfl dX4_startDraft_9 (fun H locs hw => ?_)
  refine lv_aload_n hx hb dX4_startDraft_12 rfl (lv_at hl 0 rfl) ?_
  obtain ⟨q8, h9, hf⟩ := o_bind hf
  refine pw_get hC fl_X4_40 hw (rdR_F h9) dX4_startDraft_13 ?_
  refine lv_aload_n hx hb dX4_startDraft_16 rfl (lv_at hl 0 rfl) ?_
  obtain ⟨q10, h11, hf⟩ := o_bind hf
  refine pw_get hC fl_X4_14 hw (rdR_F h11) dX4_startDraft_17 ?_
  refine lv_iconst (v := 0) hx hb dX4_startDraft_20 nc_iconst_0 ?_
  refine lv_aload_n hx hb dX4_startDraft_21 rfl (lv_at hl 0 rfl) ?_
  obtain ⟨q12, h13, hf⟩ := o_bind hf
  refine pw_get hC fl_X4_23 hw (rdR_F h13) dX4_startDraft_22 ?_
  obtain ⟨h15, hf⟩ := o_ite hf
  obtain ⟨r17, μ16, h14, hf⟩ := o_bind2 hf
  refine pw_goI hw (pw_runV (As := []) (rest := [.int 0, .ref q10, .ref q8]) hC mm_X0_document tw_792 (c_X0_document h14 _) ⟨rfl, rfl, by decide, by decide⟩ hw h15 rfl hl.1 (Nat.le_of_ble_eq_true rfl) ⟨Nat.zero_le _, Nat.zero_le _⟩ rfl dX4_startDraft_25) (fun H locs hw => ?_)
  refine lv_iconst (v := 4) hx hb dX4_startDraft_28 nc_iconst_4 ?_
  refine lv_iadd hx hb dX4_startDraft_29 ?_
  obtain ⟨h19, hf⟩ := o_ite hf
  obtain ⟨μ20, h18, hf⟩ := o_bind hf
  refine pw_goV hw (pw_runV (As := [.ref q10, .int 0, .int (r17 + 4)]) (rest := []) hC mm_X5_appendPart tw_793 (c_X5_appendPart h18 _) ⟨rfl, rfl, by decide, by decide⟩ hw h19 rfl hl.1 (Nat.le_of_ble_eq_true rfl) ⟨Nat.zero_le _, Nat.zero_le _⟩ rfl dX4_startDraft_30) (fun H locs hw => ?_)
  obtain rfl := o_retv hf
  exact pw_vret hC hr hlocks hw dX4_startDraft_33
theorem dX4_addElement_0 : decode cX4_addElement 0 = .ok (.aload_n 0, 1) := by decide +kernel
theorem dX4_addElement_1 : decode cX4_addElement 1 = .ok (.getfield 40, 3) := by decide +kernel
theorem dX4_addElement_4 : decode cX4_addElement 4 = .ok (.iload_n 1, 1) := by decide +kernel
theorem dX4_addElement_5 : decode cX4_addElement 5 = .ok (.invokevirtual 85, 3) := by decide +kernel
theorem dX4_addElement_8 : decode cX4_addElement 8 = .ok (.aload_n 0, 1) := by decide +kernel
theorem dX4_addElement_9 : decode cX4_addElement 9 = .ok (.getfield 23, 3) := by decide +kernel
theorem dX4_addElement_12 : decode cX4_addElement 12 = .ok (.invokevirtual 77, 3) := by decide +kernel
theorem dX4_addElement_15 : decode cX4_addElement 15 = .ok (.ifCond .eq 17, 3) := by decide +kernel
theorem dX4_addElement_18 : decode cX4_addElement 18 = .ok (.aload_n 0, 1) := by decide +kernel
theorem dX4_addElement_19 : decode cX4_addElement 19 = .ok (.getfield 40, 3) := by decide +kernel
theorem dX4_addElement_22 : decode cX4_addElement 22 = .ok (.aload_n 0, 1) := by decide +kernel
theorem dX4_addElement_23 : decode cX4_addElement 23 = .ok (.getfield 27, 3) := by decide +kernel
theorem dX4_addElement_26 : decode cX4_addElement 26 = .ok (.invokevirtual 88, 3) := by decide +kernel
theorem dX4_addElement_29 : decode cX4_addElement 29 = .ok (.goto 17, 3) := by decide +kernel
theorem dX4_addElement_32 : decode cX4_addElement 32 = .ok (.aload_n 0, 1) := by decide +kernel
theorem dX4_addElement_33 : decode cX4_addElement 33 = .ok (.getfield 40, 3) := by decide +kernel
theorem dX4_addElement_36 : decode cX4_addElement 36 = .ok (.aload_n 2, 1) := by decide +kernel
theorem dX4_addElement_37 : decode cX4_addElement 37 = .ok (.iload_n 3, 1) := by decide +kernel
theorem dX4_addElement_38 : decode cX4_addElement 38 = .ok (.aload_n 2, 1) := by decide +kernel
theorem dX4_addElement_39 : decode cX4_addElement 39 = .ok (.iload_n 3, 1) := by decide +kernel
theorem dX4_addElement_40 : decode cX4_addElement 40 = .ok (.invokevirtual 64, 3) := by decide +kernel
theorem dX4_addElement_43 : decode cX4_addElement 43 = .ok (.invokevirtual 73, 3) := by decide +kernel
theorem dX4_addElement_46 : decode cX4_addElement 46 = .ok (.aload_n 0, 1) := by decide +kernel
theorem dX4_addElement_47 : decode cX4_addElement 47 = .ok (.getfield 40, 3) := by decide +kernel
theorem dX4_addElement_50 : decode cX4_addElement 50 = .ok (.aload 4, 2) := by decide +kernel
theorem dX4_addElement_52 : decode cX4_addElement 52 = .ok (.iload 5, 2) := by decide +kernel
theorem dX4_addElement_54 : decode cX4_addElement 54 = .ok (.iload 6, 2) := by decide +kernel
theorem dX4_addElement_56 : decode cX4_addElement 56 = .ok (.invokevirtual 73, 3) := by decide +kernel
theorem dX4_addElement_59 : decode cX4_addElement 59 = .ok (.aload_n 0, 1) := by decide +kernel
theorem dX4_addElement_60 : decode cX4_addElement 60 = .ok (.dup, 1) := by decide +kernel
theorem dX4_addElement_61 : decode cX4_addElement 61 = .ok (.getfield 27, 3) := by decide +kernel
theorem dX4_addElement_64 : decode cX4_addElement 64 = .ok (.iconst 1, 1) := by decide +kernel
theorem dX4_addElement_65 : decode cX4_addElement 65 = .ok (.iadd, 1) := by decide +kernel
theorem dX4_addElement_66 : decode cX4_addElement 66 = .ok (.putfield 27, 3) := by decide +kernel
theorem dX4_addElement_69 : decode cX4_addElement 69 = .ok (.return_, 1) := by decide +kernel
abbrev rm_X4_addElement : Room := { frames := 2, cells := 0, slots := 0, locals := 83 }
def f_X4_addElement_L46 (cy : Nat → ClassId) (a0 : Nat) (a4 : Nat) (a5 : Int32) (a6 : Int32) (μ : Mem) : Option Mem :=
  (rdR μ a0 3 2).bind fun q101 => if isO μ q101 4 = true then ((f_X5_appendPart cy q101 a4 a5 a6 μ).bind fun μ105 => (rdI μ105 a0 3 3).bind fun v106 => (wrF μ105 a0 3 3 (.int (v106 + 1))).bind fun μ108 => some μ108) else none
set_option maxRecDepth 100000 in
set_option maxHeartbeats 4000000 in
theorem w_X4_addElement_L46 {p : Program} {l : Launch} {e : Env} {s : State} {m : MethodId} {args : Array Value} {below : List Frame} {meth : Method} {c : Code} {A : Nat → Prop} {g : Wg} {L : List Nat} {μ' : Mem} (hC : CX p m c cX4_addElement 7 s args RX4) (hr : meth.sig.returnType = none) (hlocks : meth.locks = false) : ∀ (a0 : Nat) (a4 : Nat) (a5 : Int32) (a6 : Int32) (μ : Mem) (H : Heap) (locs : List Loc) (ls : Array Slot), lv_has ls 7 [(0, .ref a0), (4, .ref a4), (5, .int a5), (6, .int a6)] → PW g L μ A s H locs → f_X4_addElement_L46 g.2 a0 a4 a5 a6 μ = some μ' → W p l e rm_X4_addElement s m args below meth c H locs 0 0 (MQ below (QV g L A μ') args s 0 0 A) (F0 m 46 ls []) := by
  have hx := hC.1
  have hb := hC.2.1
  intro a0 a4 a5 a6 μ H locs ls hl hw hf
  unfold f_X4_addElement_L46 at hf
  refine lv_aload_n hx hb dX4_addElement_46 rfl (lv_at hl 0 rfl) ?_
  obtain ⟨q101, h102, hf⟩ := o_bind hf
  refine pw_get hC fl_X4_40 hw (rdR_F h102) dX4_addElement_47 ?_
  refine lv_aload hx hb dX4_addElement_50 (lv_at hl 1 rfl) ?_
  refine lv_iload hx hb dX4_addElement_52 (lv_at hl 2 rfl) ?_
  refine lv_iload hx hb dX4_addElement_54 (lv_at hl 3 rfl) ?_
  obtain ⟨h104, hf⟩ := o_ite hf
  obtain ⟨μ105, h103, hf⟩ := o_bind hf
  refine pw_goV hw (pw_runV (As := [.ref a4, .int a5, .int a6]) (rest := []) hC mm_X5_appendPart tw_793 (c_X5_appendPart h103 _) ⟨rfl, rfl, by decide, by decide⟩ hw h104 rfl hl.1 (Nat.le_of_ble_eq_true rfl) ⟨Nat.zero_le _, Nat.zero_le _⟩ rfl dX4_addElement_56) (fun H locs hw => ?_)
  refine lv_aload_n hx hb dX4_addElement_59 rfl (lv_at hl 0 rfl) ?_
  refine lv_dup hx hb dX4_addElement_60 rfl ?_
  obtain ⟨v106, h107, hf⟩ := o_bind hf
  refine pw_get hC fl_X4_27 hw (rdI_F h107) dX4_addElement_61 ?_
  refine lv_iconst (v := 1) hx hb dX4_addElement_64 nc_iconst_1 ?_
  refine lv_iadd hx hb dX4_addElement_65 ?_
  obtain ⟨μ108, h109, hf⟩ := o_bind hf
  refine pw_put hC fl_X4_27 hw h109 .int fd_X4_3 rfl rfl dX4_addElement_66 (fun H locs hw => ?_)
  obtain rfl := o_retv hf
  exact pw_vret hC hr hlocks hw dX4_addElement_69
def f_X4_addElement (cy : Nat → ClassId) (a0 : Nat) (a1 : Int32) (a2 : Nat) (a3 : Int32) (a4 : Nat) (a5 : Int32) (a6 : Int32) (μ : Mem) : Option Mem :=
  (rdR μ a0 3 2).bind fun q1 => if isO μ q1 4 = true then ((f_X5_append cy q1 a1 μ).bind fun μ5 => (rdR μ5 a0 3 1).bind fun q6 => if isO μ5 q6 0 = true then (ob2 (f_X0_isInRow cy q6 μ5) fun r11 μ10 => if r11 = 0 then ((rdR μ10 a0 3 2).bind fun q13 => if isO μ10 a2 4 = true then (ob2 (f_X5_behindName cy a2 a3 μ10) fun r18 μ17 => if isO μ17 q13 4 = true then ((f_X5_appendPart cy q13 a2 a3 r18 μ17).bind fun μ21 => f_X4_addElement_L46 cy a0 a4 a5 a6 μ21) else none) else none) else (rdR μ10 a0 3 2).bind fun q22 => (rdI μ10 a0 3 3).bind fun v24 => if isO μ10 q22 4 = true then ((f_X5_appendRowName cy q22 v24 μ10).bind fun μ28 => f_X4_addElement_L46 cy a0 a4 a5 a6 μ28) else none) else none) else none
set_option maxRecDepth 100000 in
set_option maxHeartbeats 4000000 in
theorem c_X4_addElement {l : Launch} {g : Wg} {L : List Nat} {μ : Mem} {a0 : Nat} {a1 : Int32} {a2 : Nat} {a3 : Int32} {a4 : Nat} {a5 : Int32} {a6 : Int32} {μ' : Mem} (hf : f_X4_addElement g.2 a0 a1 a2 a3 a4 a5 a6 μ = some μ') : MetV l yX4_addElement cX4_addElement 7 none rm_X4_addElement g L μ [.ref a0, .int a1, .ref a2, .int a3, .ref a4, .int a5, .int a6] μ' := by
  refine pw_met (Qc := fun A => QV g L A μ') (by decide) (Nat.le_of_ble_eq_true rfl) ?_
  intro p e s m args below meth c A ls H locs hC hr hlocks hl hw
  have hx := hC.1
  have hb := hC.2.1
  have hl : lv_has ls 7 [(0, .ref a0), (1, .int a1), (2, .ref a2), (3, .int a3), (4, .ref a4), (5, .int a5), (6, .int a6)] := hl
  unfold f_X4_addElement at hf
  refine lv_aload_n hx hb dX4_addElement_0 rfl (lv_at hl 0 rfl) ?_
  obtain ⟨q1, h2, hf⟩ := o_bind hf
  refine pw_get hC fl_X4_40 hw (rdR_F h2) dX4_addElement_1 ?_
  refine lv_iload_n hx hb dX4_addElement_4 rfl (lv_at hl 1 rfl) ?_
  obtain ⟨h4, hf⟩ := o_ite hf
  obtain ⟨μ5, h3, hf⟩ := o_bind hf
  refine pw_goV hw (pw_runV (As := [.int a1]) (rest := []) hC mm_X5_append tw_807 (c_X5_append h3 _) ⟨rfl, rfl, by decide, by decide⟩ hw h4 rfl hl.1 (Nat.le_of_ble_eq_true rfl) ⟨Nat.zero_le _, Nat.zero_le _⟩ rfl dX4_addElement_5) (fun H locs hw => ?_)
  refine lv_aload_n hx hb dX4_addElement_8 rfl (lv_at hl 0 rfl) ?_
  obtain ⟨q6, h7, hf⟩ := o_bind hf
  refine pw_get hC fl_X4_23 hw (rdR_F h7) dX4_addElement_9 ?_
  obtain ⟨h9, hf⟩ := o_ite hf
  obtain ⟨r11, μ10, h8, hf⟩ := o_bind2 hf
  refine pw_goI hw (pw_runV (As := []) (rest := []) hC mm_X0_isInRow tw_798 (c_X0_isInRow h8 _) ⟨rfl, rfl, by decide, by decide⟩ hw h9 rfl hl.1 (Nat.le_of_ble_eq_true rfl) ⟨Nat.zero_le _, Nat.zero_le _⟩ rfl dX4_addElement_12) (fun H locs hw => ?_)
  refine lv_if_eq (tgt := 32) hx hb dX4_addElement_15 (by decide) (fun c12 => ?_) (fun c12 => ?_)
  · have hf := o_pos c12 hf
    refine lv_aload_n hx hb dX4_addElement_32 rfl (lv_at hl 0 rfl) ?_
    obtain ⟨q13, h14, hf⟩ := o_bind hf
    refine pw_get hC fl_X4_40 hw (rdR_F h14) dX4_addElement_33 ?_
    refine lv_aload_n hx hb dX4_addElement_36 rfl (lv_at hl 2 rfl) ?_
    refine lv_iload_n hx hb dX4_addElement_37 rfl (lv_at hl 3 rfl) ?_
    refine lv_aload_n hx hb dX4_addElement_38 rfl (lv_at hl 2 rfl) ?_
    refine lv_iload_n hx hb dX4_addElement_39 rfl (lv_at hl 3 rfl) ?_
    obtain ⟨h16, hf⟩ := o_ite hf
    obtain ⟨r18, μ17, h15, hf⟩ := o_bind2 hf
    refine pw_goI hw (pw_runV (As := [.int a3]) (rest := [.int a3, .ref a2, .ref q13]) hC mm_X5_behindName tw_744 (c_X5_behindName h15 _) ⟨rfl, rfl, by decide, by decide⟩ hw h16 rfl hl.1 (Nat.le_of_ble_eq_true rfl) ⟨Nat.zero_le _, Nat.zero_le _⟩ rfl dX4_addElement_40) (fun H locs hw => ?_)
    obtain ⟨h20, hf⟩ := o_ite hf
    obtain ⟨μ21, h19, hf⟩ := o_bind hf
    refine pw_goV hw (pw_runV (As := [.ref a2, .int a3, .int r18]) (rest := []) hC mm_X5_appendPart tw_793 (c_X5_appendPart h19 _) ⟨rfl, rfl, by decide, by decide⟩ hw h20 rfl hl.1 (Nat.le_of_ble_eq_true rfl) ⟨Nat.zero_le _, Nat.zero_le _⟩ rfl dX4_addElement_43) (fun H locs hw => ?_)
    exact w_X4_addElement_L46 hC hr hlocks _ _ _ _ _ _ _ ls (lv_sub hl [0, 4, 5, 6] rfl) hw hf
  · have hf := o_neg c12 hf
    refine lv_aload_n hx hb dX4_addElement_18 rfl (lv_at hl 0 rfl) ?_
    obtain ⟨q22, h23, hf⟩ := o_bind hf
    refine pw_get hC fl_X4_40 hw (rdR_F h23) dX4_addElement_19 ?_
    refine lv_aload_n hx hb dX4_addElement_22 rfl (lv_at hl 0 rfl) ?_
    obtain ⟨v24, h25, hf⟩ := o_bind hf
    refine pw_get hC fl_X4_27 hw (rdI_F h25) dX4_addElement_23 ?_
    obtain ⟨h27, hf⟩ := o_ite hf
    obtain ⟨μ28, h26, hf⟩ := o_bind hf
    refine pw_goV hw (pw_runV (As := [.int v24]) (rest := []) hC mm_X5_appendRowName tw_808 (c_X5_appendRowName h26 _) ⟨rfl, rfl, by decide, by decide⟩ hw h27 rfl hl.1 (Nat.le_of_ble_eq_true rfl) ⟨Nat.zero_le _, Nat.zero_le _⟩ rfl dX4_addElement_26) (fun H locs hw => ?_)
    refine lv_goto (tgt := 46) hx hb dX4_addElement_29 (by decide) ?_
    exact w_X4_addElement_L46 hC hr hlocks _ _ _ _ _ _ _ ls (lv_sub hl [0, 4, 5, 6] rfl) hw hf
theorem dX4_finishDraft_0 : decode cX4_finishDraft 0 = .ok (.aload_n 0, 1) := by decide +kernel
theorem dX4_finishDraft_1 : decode cX4_finishDraft 1 = .ok (.getfield 40, 3) := by decide +kernel
theorem dX4_finishDraft_4 : decode cX4_finishDraft 4 = .ok (.aload_n 0, 1) := by decide +kernel
theorem dX4_finishDraft_5 : decode cX4_finishDraft 5 = .ok (.getfield 14, 3) := by decide +kernel
theorem dX4_finishDraft_8 : decode cX4_finishDraft 8 = .ok (.aload_n 0, 1) := by decide +kernel
theorem dX4_finishDraft_9 : decode cX4_finishDraft 9 = .ok (.getfield 23, 3) := by decide +kernel
theorem dX4_finishDraft_12 : decode cX4_finishDraft 12 = .ok (.invokevirtual 101, 3) := by decide +kernel
theorem dX4_finishDraft_15 : decode cX4_finishDraft 15 = .ok (.aload_n 0, 1) := by decide +kernel
theorem dX4_finishDraft_16 : decode cX4_finishDraft 16 = .ok (.getfield 14, 3) := by decide +kernel
theorem dX4_finishDraft_19 : decode cX4_finishDraft 19 = .ok (.getfield 104, 3) := by decide +kernel
theorem dX4_finishDraft_22 : decode cX4_finishDraft 22 = .ok (.invokevirtual 73, 3) := by decide +kernel
theorem dX4_finishDraft_25 : decode cX4_finishDraft 25 = .ok (.aload_n 0, 1) := by decide +kernel
theorem dX4_finishDraft_26 : decode cX4_finishDraft 26 = .ok (.getfield 40, 3) := by decide +kernel
theorem dX4_finishDraft_29 : decode cX4_finishDraft 29 = .ok (.getfield 107, 3) := by decide +kernel
theorem dX4_finishDraft_32 : decode cX4_finishDraft 32 = .ok (.ifCond .eq 5, 3) := by decide +kernel
theorem dX4_finishDraft_35 : decode cX4_finishDraft 35 = .ok (.iconst 0, 1) := by decide +kernel
theorem dX4_finishDraft_36 : decode cX4_finishDraft 36 = .ok (.ireturn, 1) := by decide +kernel
theorem dX4_finishDraft_37 : decode cX4_finishDraft 37 = .ok (.aload_n 0, 1) := by decide +kernel
theorem dX4_finishDraft_38 : decode cX4_finishDraft 38 = .ok (.aload_n 0, 1) := by decide +kernel
theorem dX4_finishDraft_39 : decode cX4_finishDraft 39 = .ok (.getfield 40, 3) := by decide +kernel
theorem dX4_finishDraft_42 : decode cX4_finishDraft 42 = .ok (.getfield 104, 3) := by decide +kernel
theorem dX4_finishDraft_45 : decode cX4_finishDraft 45 = .ok (.aload_n 0, 1) := by decide +kernel
theorem dX4_finishDraft_46 : decode cX4_finishDraft 46 = .ok (.getfield 14, 3) := by decide +kernel
theorem dX4_finishDraft_49 : decode cX4_finishDraft 49 = .ok (.getfield 104, 3) := by decide +kernel
theorem dX4_finishDraft_52 : decode cX4_finishDraft 52 = .ok (.isub, 1) := by decide +kernel
theorem dX4_finishDraft_53 : decode cX4_finishDraft 53 = .ok (.putfield 37, 3) := by decide +kernel
theorem dX4_finishDraft_56 : decode cX4_finishDraft 56 = .ok (.aload_n 0, 1) := by decide +kernel
theorem dX4_finishDraft_57 : decode cX4_finishDraft 57 = .ok (.aload_n 0, 1) := by decide +kernel
theorem dX4_finishDraft_58 : decode cX4_finishDraft 58 = .ok (.getfield 14, 3) := by decide +kernel
theorem dX4_finishDraft_61 : decode cX4_finishDraft 61 = .ok (.aload_n 0, 1) := by decide +kernel
theorem dX4_finishDraft_62 : decode cX4_finishDraft 62 = .ok (.getfield 40, 3) := by decide +kernel
theorem dX4_finishDraft_65 : decode cX4_finishDraft 65 = .ok (.aload_n 0, 1) := by decide +kernel
theorem dX4_finishDraft_66 : decode cX4_finishDraft 66 = .ok (.getfield 23, 3) := by decide +kernel
theorem dX4_finishDraft_69 : decode cX4_finishDraft 69 = .ok (.invokevirtual 70, 3) := by decide +kernel
theorem dX4_finishDraft_72 : decode cX4_finishDraft 72 = .ok (.iconst 4, 1) := by decide +kernel
theorem dX4_finishDraft_73 : decode cX4_finishDraft 73 = .ok (.iadd, 1) := by decide +kernel
theorem dX4_finishDraft_74 : decode cX4_finishDraft 74 = .ok (.invokevirtual 111, 3) := by decide +kernel
theorem dX4_finishDraft_77 : decode cX4_finishDraft 77 = .ok (.putfield 31, 3) := by decide +kernel
theorem dX4_finishDraft_80 : decode cX4_finishDraft 80 = .ok (.aload_n 0, 1) := by decide +kernel
theorem dX4_finishDraft_81 : decode cX4_finishDraft 81 = .ok (.getfield 23, 3) := by decide +kernel
theorem dX4_finishDraft_84 : decode cX4_finishDraft 84 = .ok (.aload_n 0, 1) := by decide +kernel
theorem dX4_finishDraft_85 : decode cX4_finishDraft 85 = .ok (.getfield 40, 3) := by decide +kernel
theorem dX4_finishDraft_88 : decode cX4_finishDraft 88 = .ok (.aload_n 0, 1) := by decide +kernel
theorem dX4_finishDraft_89 : decode cX4_finishDraft 89 = .ok (.getfield 37, 3) := by decide +kernel
theorem dX4_finishDraft_92 : decode cX4_finishDraft 92 = .ok (.invokevirtual 115, 3) := by decide +kernel
theorem dX4_finishDraft_95 : decode cX4_finishDraft 95 = .ok (.istore_n 2, 1) := by decide +kernel
theorem dX4_finishDraft_96 : decode cX4_finishDraft 96 = .ok (.aload_n 0, 1) := by decide +kernel
theorem dX4_finishDraft_97 : decode cX4_finishDraft 97 = .ok (.aload_n 0, 1) := by decide +kernel
theorem dX4_finishDraft_98 : decode cX4_finishDraft 98 = .ok (.getfield 37, 3) := by decide +kernel
theorem dX4_finishDraft_101 : decode cX4_finishDraft 101 = .ok (.ifCond .ne 7, 3) := by decide +kernel
theorem dX4_finishDraft_104 : decode cX4_finishDraft 104 = .ok (.iconst 0, 1) := by decide +kernel
theorem dX4_finishDraft_105 : decode cX4_finishDraft 105 = .ok (.goto 4, 3) := by decide +kernel
theorem dX4_finishDraft_108 : decode cX4_finishDraft 108 = .ok (.iload_n 2, 1) := by decide +kernel
theorem dX4_finishDraft_109 : decode cX4_finishDraft 109 = .ok (.putfield 34, 3) := by decide +kernel
theorem dX4_finishDraft_112 : decode cX4_finishDraft 112 = .ok (.aload_n 0, 1) := by decide +kernel
theorem dX4_finishDraft_113 : decode cX4_finishDraft 113 = .ok (.getfield 14, 3) := by decide +kernel
theorem dX4_finishDraft_116 : decode cX4_finishDraft 116 = .ok (.aload_n 0, 1) := by decide +kernel
theorem dX4_finishDraft_117 : decode cX4_finishDraft 117 = .ok (.getfield 40, 3) := by decide +kernel
theorem dX4_finishDraft_120 : decode cX4_finishDraft 120 = .ok (.invokevirtual 43, 3) := by decide +kernel
theorem dX4_finishDraft_123 : decode cX4_finishDraft 123 = .ok (.aload_n 0, 1) := by decide +kernel
theorem dX4_finishDraft_124 : decode cX4_finishDraft 124 = .ok (.getfield 23, 3) := by decide +kernel
theorem dX4_finishDraft_127 : decode cX4_finishDraft 127 = .ok (.aload_n 0, 1) := by decide +kernel
theorem dX4_finishDraft_128 : decode cX4_finishDraft 128 = .ok (.getfield 14, 3) := by decide +kernel
theorem dX4_finishDraft_131 : decode cX4_finishDraft 131 = .ok (.invokevirtual 118, 3) := by decide +kernel
theorem dX4_finishDraft_134 : decode cX4_finishDraft 134 = .ok (.aload_n 0, 1) := by decide +kernel
theorem dX4_finishDraft_135 : decode cX4_finishDraft 135 = .ok (.getfield 23, 3) := by decide +kernel
theorem dX4_finishDraft_138 : decode cX4_finishDraft 138 = .ok (.iload_n 1, 1) := by decide +kernel
theorem dX4_finishDraft_139 : decode cX4_finishDraft 139 = .ok (.invokevirtual 121, 3) := by decide +kernel
theorem dX4_finishDraft_142 : decode cX4_finishDraft 142 = .ok (.iconst 1, 1) := by decide +kernel
theorem dX4_finishDraft_143 : decode cX4_finishDraft 143 = .ok (.ireturn, 1) := by decide +kernel
abbrev rm_X4_finishDraft : Room := { frames := 4, cells := 0, slots := 0, locals := 104 }
def f_X4_finishDraft_L109 (cy : Nat → ClassId) (a0 : Nat) (a1 : Int32) (t0 : Nat) (t1 : Int32) (μ : Mem) : Option (Int32 × Mem) :=
  (wrF μ t0 3 5 (.int t1)).bind fun μ101 => (rdR μ101 a0 3 0).bind fun q103 => (rdR μ101 a0 3 2).bind fun q105 => if isO μ101 q103 4 = true then ((f_X5_become cy q103 q105 μ101).bind fun μ109 => (rdR μ109 a0 3 1).bind fun q110 => (rdR μ109 a0 3 0).bind fun q112 => if isO μ109 q110 0 = true then ((f_X0_findStarts cy q110 q112 μ109).bind fun μ116 => (rdR μ116 a0 3 1).bind fun q117 => if isO μ116 q117 0 = true then ((f_X0_toNumberOrLast cy q117 a1 μ116).bind fun μ121 => some (1, μ121)) else none) else none) else none
set_option maxRecDepth 100000 in
set_option maxHeartbeats 4000000 in
theorem w_X4_finishDraft_L109 {p : Program} {l : Launch} {e : Env} {s : State} {m : MethodId} {args : Array Value} {below : List Frame} {meth : Method} {c : Code} {A : Nat → Prop} {g : Wg} {L : List Nat} {r : Int32} {μ' : Mem} (hC : CX p m c cX4_finishDraft 3 s args RX4) (hr : meth.sig.returnType = (some .boolean)) (hlocks : meth.locks = false) : ∀ (a0 : Nat) (a1 : Int32) (t0 : Nat) (t1 : Int32) (μ : Mem) (H : Heap) (locs : List Loc) (ls : Array Slot), lv_has ls 3 [(0, .ref a0), (1, .int a1)] → PW g L μ A s H locs → f_X4_finishDraft_L109 g.2 a0 a1 t0 t1 μ = some (r, μ') → W p l e rm_X4_finishDraft s m args below meth c H locs 0 0 (MQ below (QI g L A r μ') args s 0 0 A) (F0 m 109 ls [.int t1, .ref t0]) := by
  have hx := hC.1
  have hb := hC.2.1
  intro a0 a1 t0 t1 μ H locs ls hl hw hf
  unfold f_X4_finishDraft_L109 at hf
  obtain ⟨μ101, h102, hf⟩ := o_bind hf
  refine pw_put hC fl_X4_34 hw h102 .int fd_X4_5 rfl rfl dX4_finishDraft_109 (fun H locs hw => ?_)
  refine lv_aload_n hx hb dX4_finishDraft_112 rfl (lv_at hl 0 rfl) ?_
  obtain ⟨q103, h104, hf⟩ := o_bind hf
  refine pw_get hC fl_X4_14 hw (rdR_F h104) dX4_finishDraft_113 ?_
  refine lv_aload_n hx hb dX4_finishDraft_116 rfl (lv_at hl 0 rfl) ?_
  obtain ⟨q105, h106, hf⟩ := o_bind hf
  refine pw_get hC fl_X4_40 hw (rdR_F h106) dX4_finishDraft_117 ?_
  obtain ⟨h108, hf⟩ := o_ite hf
  obtain ⟨μ109, h107, hf⟩ := o_bind hf
  refine pw_goV hw (pw_runV (As := [.ref q105]) (rest := []) hC mm_X5_become tw_227 (c_X5_become h107 _) ⟨rfl, rfl, by decide, by decide⟩ hw h108 rfl hl.1 (Nat.le_of_ble_eq_true rfl) ⟨Nat.zero_le _, Nat.zero_le _⟩ rfl dX4_finishDraft_120) (fun H locs hw => ?_)
  refine lv_aload_n hx hb dX4_finishDraft_123 rfl (lv_at hl 0 rfl) ?_
  obtain ⟨q110, h111, hf⟩ := o_bind hf
  refine pw_get hC fl_X4_23 hw (rdR_F h111) dX4_finishDraft_124 ?_
  refine lv_aload_n hx hb dX4_finishDraft_127 rfl (lv_at hl 0 rfl) ?_
  obtain ⟨q112, h113, hf⟩ := o_bind hf
  refine pw_get hC fl_X4_14 hw (rdR_F h113) dX4_finishDraft_128 ?_
  obtain ⟨h115, hf⟩ := o_ite hf
  obtain ⟨μ116, h114, hf⟩ := o_bind hf
  refine pw_goV hw (pw_runV (As := [.ref q112]) (rest := []) hC mm_X0_findStarts tw_838 (c_X0_findStarts h114 _) ⟨rfl, rfl, by decide, by decide⟩ hw h115 rfl hl.1 (Nat.le_of_ble_eq_true rfl) ⟨Nat.zero_le _, Nat.zero_le _⟩ rfl dX4_finishDraft_131) (fun H locs hw => ?_)
  refine lv_aload_n hx hb dX4_finishDraft_134 rfl (lv_at hl 0 rfl) ?_
  obtain ⟨q117, h118, hf⟩ := o_bind hf
  refine pw_get hC fl_X4_23 hw (rdR_F h118) dX4_finishDraft_135 ?_
  refine lv_iload_n hx hb dX4_finishDraft_138 rfl (lv_at hl 1 rfl) ?_
  obtain ⟨h120, hf⟩ := o_ite hf
  obtain ⟨μ121, h119, hf⟩ := o_bind hf
  refine pw_goV hw (pw_runV (As := [.int a1]) (rest := []) hC mm_X0_toNumberOrLast tw_839 (c_X0_toNumberOrLast h119 _) ⟨rfl, rfl, by decide, by decide⟩ hw h120 rfl hl.1 (Nat.le_of_ble_eq_true rfl) ⟨Nat.zero_le _, Nat.zero_le _⟩ rfl dX4_finishDraft_139) (fun H locs hw => ?_)
  refine lv_iconst (v := 1) hx hb dX4_finishDraft_142 nc_iconst_1 ?_
  obtain ⟨rfl, rfl⟩ := o_ret hf
  exact pw_zret hC hr hlocks (Or.inr rfl) hw dX4_finishDraft_143
def f_X4_finishDraft (cy : Nat → ClassId) (a0 : Nat) (a1 : Int32) (μ : Mem) : Option (Int32 × Mem) :=
  (rdR μ a0 3 2).bind fun q1 => (rdR μ a0 3 0).bind fun q3 => (rdR μ a0 3 1).bind fun q5 => if isO μ q5 0 = true then (ob2 (f_X0_lastBytePlace cy q5 μ) fun r10 μ9 => (rdR μ9 a0 3 0).bind fun q11 => (rdI μ9 q11 4 1).bind fun v13 => if isO μ9 q1 4 = true then ((f_X5_appendPart cy q1 q3 r10 v13 μ9).bind fun μ17 => (rdR μ17 a0 3 2).bind fun q18 => (rdI μ17 q18 4 2).bind fun v20 => if v20 = 0 then ((rdR μ17 a0 3 2).bind fun q23 => (rdI μ17 q23 4 1).bind fun v25 => (rdR μ17 a0 3 0).bind fun q27 => (rdI μ17 q27 4 1).bind fun v29 => (wrF μ17 a0 3 6 (.int (v25 - v29))).bind fun μ31 => (rdR μ31 a0 3 0).bind fun q33 => (rdR μ31 a0 3 2).bind fun q35 => (rdR μ31 a0 3 1).bind fun q37 => if isO μ31 q37 0 = true then (ob2 (f_X0_document cy q37 μ31) fun r42 μ41 => if isO μ41 q33 4 = true then (ob2 (f_X5_firstDifference cy q33 q35 (r42 + 4) μ41) fun r46 μ45 => (wrF μ45 a0 3 4 (.int r46)).bind fun μ47 => (rdR μ47 a0 3 1).bind fun q49 => (rdR μ47 a0 3 2).bind fun q51 => (rdI μ47 a0 3 6).bind fun v53 => if isO μ47 q49 0 = true then (ob2 (f_X0_lengthen cy q49 q51 v53 μ47) fun r58 μ57 => (rdI μ57 a0 3 6).bind fun v59 => if v59 = 0 then (f_X4_finishDraft_L109 cy a0 a1 a0 0 μ57) else f_X4_finishDraft_L109 cy a0 a1 a0 r58 μ57) else none) else none) else none) else some (0, μ17)) else none) else none
set_option maxRecDepth 100000 in
set_option maxHeartbeats 4000000 in
theorem c_X4_finishDraft {l : Launch} {g : Wg} {L : List Nat} {μ : Mem} {a0 : Nat} {a1 : Int32} {r : Int32} {μ' : Mem} (hf : f_X4_finishDraft g.2 a0 a1 μ = some (r, μ')) : MetI l yX4_finishDraft cX4_finishDraft 3 (some .boolean) rm_X4_finishDraft g L μ [.ref a0, .int a1] r μ' := by
  refine pw_met (Qc := fun A => QI g L A r μ') (by decide) (Nat.le_of_ble_eq_true rfl) ?_
  intro p e s m args below meth c A ls H locs hC hr hlocks hl hw
  have hx := hC.1
  have hb := hC.2.1
  have hl : lv_has ls 3 [(0, .ref a0), (1, .int a1)] := hl
  unfold f_X4_finishDraft at hf
  refine lv_aload_n hx hb dX4_finishDraft_0 rfl (lv_at hl 0 rfl) ?_
  obtain ⟨q1, h2, hf⟩ := o_bind hf
  refine pw_get hC fl_X4_40 hw (rdR_F h2) dX4_finishDraft_1 ?_
  refine lv_aload_n hx hb dX4_finishDraft_4 rfl (lv_at hl 0 rfl) ?_
  obtain ⟨q3, h4, hf⟩ := o_bind hf
  refine pw_get hC fl_X4_14 hw (rdR_F h4) dX4_finishDraft_5 ?_
  refine lv_aload_n hx hb dX4_finishDraft_8 rfl (lv_at hl 0 rfl) ?_
  obtain ⟨q5, h6, hf⟩ := o_bind hf
  refine pw_get hC fl_X4_23 hw (rdR_F h6) dX4_finishDraft_9 ?_
  obtain ⟨h8, hf⟩ := o_ite hf
  obtain ⟨r10, μ9, h7, hf⟩ := o_bind2 hf
  refine pw_goI hw (pw_runV (As := []) (rest := [.ref q3, .ref q1]) hC mm_X0_lastBytePlace tw_821 (c_X0_lastBytePlace h7 _) ⟨rfl, rfl, by decide, by decide⟩ hw h8 rfl hl.1 (Nat.le_of_ble_eq_true rfl) ⟨Nat.zero_le _, Nat.zero_le _⟩ rfl dX4_finishDraft_12) (fun H locs hw => ?_)
  refine lv_aload_n hx hb dX4_finishDraft_15 rfl (lv_at hl 0 rfl) ?_
  obtain ⟨q11, h12, hf⟩ := o_bind hf
  refine pw_get hC fl_X4_14 hw (rdR_F h12) dX4_finishDraft_16 ?_
  obtain ⟨v13, h14, hf⟩ := o_bind hf
  refine pw_get hC fl_X4_104 hw (rdI_F h14) dX4_finishDraft_19 ?_
  obtain ⟨h16, hf⟩ := o_ite hf
  obtain ⟨μ17, h15, hf⟩ := o_bind hf
  refine pw_goV hw (pw_runV (As := [.ref q3, .int r10, .int v13]) (rest := []) hC mm_X5_appendPart tw_793 (c_X5_appendPart h15 _) ⟨rfl, rfl, by decide, by decide⟩ hw h16 rfl hl.1 (Nat.le_of_ble_eq_true rfl) ⟨Nat.zero_le _, Nat.zero_le _⟩ rfl dX4_finishDraft_22) (fun H locs hw => ?_)
  refine lv_aload_n hx hb dX4_finishDraft_25 rfl (lv_at hl 0 rfl) ?_
  obtain ⟨q18, h19, hf⟩ := o_bind hf
  refine pw_get hC fl_X4_40 hw (rdR_F h19) dX4_finishDraft_26 ?_
  obtain ⟨v20, h21, hf⟩ := o_bind hf
  refine pw_get hC fl_X4_107 hw (rdI_F h21) dX4_finishDraft_29 ?_
  refine lv_if_eq (tgt := 37) hx hb dX4_finishDraft_32 (by decide) (fun c22 => ?_) (fun c22 => ?_)
  · have hf := o_pos c22 hf
    refine lv_aload_n hx hb dX4_finishDraft_37 rfl (lv_at hl 0 rfl) ?_
    refine lv_aload_n hx hb dX4_finishDraft_38 rfl (lv_at hl 0 rfl) ?_
    obtain ⟨q23, h24, hf⟩ := o_bind hf
    refine pw_get hC fl_X4_40 hw (rdR_F h24) dX4_finishDraft_39 ?_
    obtain ⟨v25, h26, hf⟩ := o_bind hf
    refine pw_get hC fl_X4_104 hw (rdI_F h26) dX4_finishDraft_42 ?_
    refine lv_aload_n hx hb dX4_finishDraft_45 rfl (lv_at hl 0 rfl) ?_
    obtain ⟨q27, h28, hf⟩ := o_bind hf
    refine pw_get hC fl_X4_14 hw (rdR_F h28) dX4_finishDraft_46 ?_
    obtain ⟨v29, h30, hf⟩ := o_bind hf
    refine pw_get hC fl_X4_104 hw (rdI_F h30) dX4_finishDraft_49 ?_
    refine lv_isub hx hb dX4_finishDraft_52 ?_
    obtain ⟨μ31, h32, hf⟩ := o_bind hf
    refine pw_put hC fl_X4_37 hw h32 .int fd_X4_6 rfl rfl dX4_finishDraft_53 (fun H locs hw => ?_)
    refine lv_aload_n hx hb dX4_finishDraft_56 rfl (lv_at hl 0 rfl) ?_
    refine lv_aload_n hx hb dX4_finishDraft_57 rfl (lv_at hl 0 rfl) ?_
    obtain ⟨q33, h34, hf⟩ := o_bind hf
    refine pw_get hC fl_X4_14 hw (rdR_F h34) dX4_finishDraft_58 ?_
    refine lv_aload_n hx hb dX4_finishDraft_61 rfl (lv_at hl 0 rfl) ?_
    obtain ⟨q35, h36, hf⟩ := o_bind hf
    refine pw_get hC fl_X4_40 hw (rdR_F h36) dX4_finishDraft_62 ?_
    refine lv_aload_n hx hb dX4_finishDraft_65 rfl (lv_at hl 0 rfl) ?_
    obtain ⟨q37, h38, hf⟩ := o_bind hf
    refine pw_get hC fl_X4_23 hw (rdR_F h38) dX4_finishDraft_66 ?_
    obtain ⟨h40, hf⟩ := o_ite hf
    obtain ⟨r42, μ41, h39, hf⟩ := o_bind2 hf
    refine pw_goI hw (pw_runV (As := []) (rest := [.ref q35, .ref q33, .ref a0]) hC mm_X0_document tw_792 (c_X0_document h39 _) ⟨rfl, rfl, by decide, by decide⟩ hw h40 rfl hl.1 (Nat.le_of_ble_eq_true rfl) ⟨Nat.zero_le _, Nat.zero_le _⟩ rfl dX4_finishDraft_69) (fun H locs hw => ?_)
    refine lv_iconst (v := 4) hx hb dX4_finishDraft_72 nc_iconst_4 ?_
    refine lv_iadd hx hb dX4_finishDraft_73 ?_
    obtain ⟨h44, hf⟩ := o_ite hf
    obtain ⟨r46, μ45, h43, hf⟩ := o_bind2 hf
    refine pw_goI hw (pw_runV (As := [.ref q35, .int (r42 + 4)]) (rest := [.ref a0]) hC mm_X5_firstDifference tw_825 (c_X5_firstDifference h43 _) ⟨rfl, rfl, by decide, by decide⟩ hw h44 rfl hl.1 (Nat.le_of_ble_eq_true rfl) ⟨Nat.zero_le _, Nat.zero_le _⟩ rfl dX4_finishDraft_74) (fun H locs hw => ?_)
    obtain ⟨μ47, h48, hf⟩ := o_bind hf
    refine pw_put hC fl_X4_31 hw h48 .int fd_X4_4 rfl rfl dX4_finishDraft_77 (fun H locs hw => ?_)
    refine lv_aload_n hx hb dX4_finishDraft_80 rfl (lv_at hl 0 rfl) ?_
    obtain ⟨q49, h50, hf⟩ := o_bind hf
    refine pw_get hC fl_X4_23 hw (rdR_F h50) dX4_finishDraft_81 ?_
    refine lv_aload_n hx hb dX4_finishDraft_84 rfl (lv_at hl 0 rfl) ?_
    obtain ⟨q51, h52, hf⟩ := o_bind hf
    refine pw_get hC fl_X4_40 hw (rdR_F h52) dX4_finishDraft_85 ?_
    refine lv_aload_n hx hb dX4_finishDraft_88 rfl (lv_at hl 0 rfl) ?_
    obtain ⟨v53, h54, hf⟩ := o_bind hf
    refine pw_get hC fl_X4_37 hw (rdI_F h54) dX4_finishDraft_89 ?_
    obtain ⟨h56, hf⟩ := o_ite hf
    obtain ⟨r58, μ57, h55, hf⟩ := o_bind2 hf
    refine pw_goI hw (pw_runV (As := [.ref q51, .int v53]) (rest := []) hC mm_X0_lengthen tw_830 (c_X0_lengthen h55 _) ⟨rfl, rfl, by decide, by decide⟩ hw h56 rfl hl.1 (Nat.le_of_ble_eq_true rfl) ⟨Nat.zero_le _, Nat.zero_le _⟩ rfl dX4_finishDraft_92) (fun H locs hw => ?_)
    refine lv_istore_n (lv' := [(2, .int r58), (0, .ref a0), (1, .int a1)]) hx hb dX4_finishDraft_95 rfl hl (by decide) rfl (fun ls hl => ?_)
    refine lv_aload_n hx hb dX4_finishDraft_96 rfl (lv_at hl 1 rfl) ?_
    refine lv_aload_n hx hb dX4_finishDraft_97 rfl (lv_at hl 1 rfl) ?_
    obtain ⟨v59, h60, hf⟩ := o_bind hf
    refine pw_get hC fl_X4_37 hw (rdI_F h60) dX4_finishDraft_98 ?_
    refine lv_if_ne (tgt := 108) hx hb dX4_finishDraft_101 (by decide) (fun c61 => ?_) (fun c61 => ?_)
    · have hf := o_neg c61 hf
      refine lv_iload_n hx hb dX4_finishDraft_108 rfl (lv_at hl 0 rfl) ?_
      exact w_X4_finishDraft_L109 hC hr hlocks _ _ _ _ _ _ _ ls (lv_sub hl [1, 2] rfl) hw hf
    · have hf := o_pos c61 hf
      refine lv_iconst (v := 0) hx hb dX4_finishDraft_104 nc_iconst_0 ?_
      refine lv_goto (tgt := 109) hx hb dX4_finishDraft_105 (by decide) ?_
      exact w_X4_finishDraft_L109 hC hr hlocks _ _ _ _ _ _ _ ls (lv_sub hl [1, 2] rfl) hw hf
  · have hf := o_neg c22 hf
    refine lv_iconst (v := 0) hx hb dX4_finishDraft_35 nc_iconst_0 ?_
    obtain ⟨rfl, rfl⟩ := o_ret hf
    exact pw_zret hC hr hlocks (Or.inl rfl) hw dX4_finishDraft_36
theorem dX4_elementType_0 : decode cX4_elementType 0 = .ok (.aload_n 0, 1) := by decide +kernel
theorem dX4_elementType_1 : decode cX4_elementType 1 = .ok (.getfield 14, 3) := by decide +kernel
theorem dX4_elementType_4 : decode cX4_elementType 4 = .ok (.aload_n 0, 1) := by decide +kernel
theorem dX4_elementType_5 : decode cX4_elementType 5 = .ok (.invokevirtual 57, 3) := by decide +kernel
theorem dX4_elementType_8 : decode cX4_elementType 8 = .ok (.invokevirtual 61, 3) := by decide +kernel
theorem dX4_elementType_11 : decode cX4_elementType 11 = .ok (.ireturn, 1) := by decide +kernel
abbrev rm_X4_elementType : Room := { frames := 2, cells := 0, slots := 0, locals := 41 }
def f_X4_elementType (cy : Nat → ClassId) (a0 : Nat) (μ : Mem) : Option (Int32 × Mem) :=
  (rdR μ a0 3 0).bind fun q1 => if isO μ a0 3 = true then (ob2 (f_X4_elementPlace cy a0 μ) fun r6 μ5 => if isO μ5 q1 4 = true then (ob2 (f_X5_at cy q1 r6 μ5) fun r10 μ9 => some (r10, μ9)) else none) else none
set_option maxRecDepth 100000 in
set_option maxHeartbeats 4000000 in
theorem c_X4_elementType {l : Launch} {g : Wg} {L : List Nat} {μ : Mem} {a0 : Nat} {r : Int32} {μ' : Mem} (hf : f_X4_elementType g.2 a0 μ = some (r, μ')) : MetI l yX4_elementType cX4_elementType 1 (some .int) rm_X4_elementType g L μ [.ref a0] r μ' := by
  refine pw_met (Qc := fun A => QI g L A r μ') (by decide) (Nat.le_of_ble_eq_true rfl) ?_
  intro p e s m args below meth c A ls H locs hC hr hlocks hl hw
  have hx := hC.1
  have hb := hC.2.1
  have hl : lv_has ls 1 [(0, .ref a0)] := hl
  unfold f_X4_elementType at hf
  refine lv_aload_n hx hb dX4_elementType_0 rfl (lv_at hl 0 rfl) ?_
  obtain ⟨q1, h2, hf⟩ := o_bind hf
  refine pw_get hC fl_X4_14 hw (rdR_F h2) dX4_elementType_1 ?_
  refine lv_aload_n hx hb dX4_elementType_4 rfl (lv_at hl 0 rfl) ?_
  obtain ⟨h4, hf⟩ := o_ite hf
  obtain ⟨r6, μ5, h3, hf⟩ := o_bind2 hf
  refine pw_goI hw (pw_runV (As := []) (rest := [.ref q1]) hC mm_X4_elementPlace tw_719 (c_X4_elementPlace h3 _) ⟨rfl, rfl, by decide, by decide⟩ hw h4 rfl hl.1 (Nat.le_of_ble_eq_true rfl) ⟨Nat.zero_le _, Nat.zero_le _⟩ rfl dX4_elementType_5) (fun H locs hw => ?_)
  obtain ⟨h8, hf⟩ := o_ite hf
  obtain ⟨r10, μ9, h7, hf⟩ := o_bind2 hf
  refine pw_goI hw (pw_runV (As := [.int r6]) (rest := []) hC mm_X5_at tw_720 (c_X5_at h7 _) ⟨rfl, rfl, by decide, by decide⟩ hw h8 rfl hl.1 (Nat.le_of_ble_eq_true rfl) ⟨Nat.zero_le _, Nat.zero_le _⟩ rfl dX4_elementType_8) (fun H locs hw => ?_)
  obtain ⟨rfl, rfl⟩ := o_ret hf
  exact pw_iret hC hr hlocks hw dX4_elementType_11
theorem dX4_valuePlace_0 : decode cX4_valuePlace 0 = .ok (.aload_n 0, 1) := by decide +kernel
theorem dX4_valuePlace_1 : decode cX4_valuePlace 1 = .ok (.getfield 14, 3) := by decide +kernel
theorem dX4_valuePlace_4 : decode cX4_valuePlace 4 = .ok (.aload_n 0, 1) := by decide +kernel
theorem dX4_valuePlace_5 : decode cX4_valuePlace 5 = .ok (.invokevirtual 57, 3) := by decide +kernel
theorem dX4_valuePlace_8 : decode cX4_valuePlace 8 = .ok (.iconst 1, 1) := by decide +kernel
theorem dX4_valuePlace_9 : decode cX4_valuePlace 9 = .ok (.iadd, 1) := by decide +kernel
theorem dX4_valuePlace_10 : decode cX4_valuePlace 10 = .ok (.invokevirtual 64, 3) := by decide +kernel
theorem dX4_valuePlace_13 : decode cX4_valuePlace 13 = .ok (.ireturn, 1) := by decide +kernel
abbrev rm_X4_valuePlace : Room := { frames := 2, cells := 0, slots := 0, locals := 45 }
def f_X4_valuePlace (cy : Nat → ClassId) (a0 : Nat) (μ : Mem) : Option (Int32 × Mem) :=
  (rdR μ a0 3 0).bind fun q1 => if isO μ a0 3 = true then (ob2 (f_X4_elementPlace cy a0 μ) fun r6 μ5 => if isO μ5 q1 4 = true then (ob2 (f_X5_behindName cy q1 (r6 + 1) μ5) fun r10 μ9 => some (r10, μ9)) else none) else none
set_option maxRecDepth 100000 in
set_option maxHeartbeats 4000000 in
theorem c_X4_valuePlace {l : Launch} {g : Wg} {L : List Nat} {μ : Mem} {a0 : Nat} {r : Int32} {μ' : Mem} (hf : f_X4_valuePlace g.2 a0 μ = some (r, μ')) : MetI l yX4_valuePlace cX4_valuePlace 1 (some .int) rm_X4_valuePlace g L μ [.ref a0] r μ' := by
  refine pw_met (Qc := fun A => QI g L A r μ') (by decide) (Nat.le_of_ble_eq_true rfl) ?_
  intro p e s m args below meth c A ls H locs hC hr hlocks hl hw
  have hx := hC.1
  have hb := hC.2.1
  have hl : lv_has ls 1 [(0, .ref a0)] := hl
  unfold f_X4_valuePlace at hf
  refine lv_aload_n hx hb dX4_valuePlace_0 rfl (lv_at hl 0 rfl) ?_
  obtain ⟨q1, h2, hf⟩ := o_bind hf
  refine pw_get hC fl_X4_14 hw (rdR_F h2) dX4_valuePlace_1 ?_
  refine lv_aload_n hx hb dX4_valuePlace_4 rfl (lv_at hl 0 rfl) ?_
  obtain ⟨h4, hf⟩ := o_ite hf
  obtain ⟨r6, μ5, h3, hf⟩ := o_bind2 hf
  refine pw_goI hw (pw_runV (As := []) (rest := [.ref q1]) hC mm_X4_elementPlace tw_719 (c_X4_elementPlace h3 _) ⟨rfl, rfl, by decide, by decide⟩ hw h4 rfl hl.1 (Nat.le_of_ble_eq_true rfl) ⟨Nat.zero_le _, Nat.zero_le _⟩ rfl dX4_valuePlace_5) (fun H locs hw => ?_)
  refine lv_iconst (v := 1) hx hb dX4_valuePlace_8 nc_iconst_1 ?_
  refine lv_iadd hx hb dX4_valuePlace_9 ?_
  obtain ⟨h8, hf⟩ := o_ite hf
  obtain ⟨r10, μ9, h7, hf⟩ := o_bind2 hf
  refine pw_goI hw (pw_runV (As := [.int (r6 + 1)]) (rest := []) hC mm_X5_behindName tw_744 (c_X5_behindName h7 _) ⟨rfl, rfl, by decide, by decide⟩ hw h8 rfl hl.1 (Nat.le_of_ble_eq_true rfl) ⟨Nat.zero_le _, Nat.zero_le _⟩ rfl dX4_valuePlace_10) (fun H locs hw => ?_)
  obtain ⟨rfl, rfl⟩ := o_ret hf
  exact pw_iret hC hr hlocks hw dX4_valuePlace_13
theorem dX4_keepElements_0 : decode cX4_keepElements 0 = .ok (.aload_n 0, 1) := by decide +kernel
theorem dX4_keepElements_1 : decode cX4_keepElements 1 = .ok (.getfield 23, 3) := by decide +kernel
theorem dX4_keepElements_4 : decode cX4_keepElements 4 = .ok (.invokevirtual 77, 3) := by decide +kernel
theorem dX4_keepElements_7 : decode cX4_keepElements 7 = .ok (.ifCond .eq 11, 3) := by decide +kernel
theorem dX4_keepElements_10 : decode cX4_keepElements 10 = .ok (.iload_n 1, 1) := by decide +kernel
theorem dX4_keepElements_11 : decode cX4_keepElements 11 = .ok (.aload_n 0, 1) := by decide +kernel
theorem dX4_keepElements_12 : decode cX4_keepElements 12 = .ok (.getfield 27, 3) := by decide +kernel
theorem dX4_keepElements_15 : decode cX4_keepElements 15 = .ok (.if_icmp .ne 43, 3) := by decide +kernel
theorem dX4_keepElements_18 : decode cX4_keepElements 18 = .ok (.aload_n 0, 1) := by decide +kernel
theorem dX4_keepElements_19 : decode cX4_keepElements 19 = .ok (.getfield 40, 3) := by decide +kernel
theorem dX4_keepElements_22 : decode cX4_keepElements 22 = .ok (.aload_n 0, 1) := by decide +kernel
theorem dX4_keepElements_23 : decode cX4_keepElements 23 = .ok (.getfield 14, 3) := by decide +kernel
theorem dX4_keepElements_26 : decode cX4_keepElements 26 = .ok (.aload_n 0, 1) := by decide +kernel
theorem dX4_keepElements_27 : decode cX4_keepElements 27 = .ok (.getfield 23, 3) := by decide +kernel
theorem dX4_keepElements_30 : decode cX4_keepElements 30 = .ok (.iload_n 1, 1) := by decide +kernel
theorem dX4_keepElements_31 : decode cX4_keepElements 31 = .ok (.invokevirtual 53, 3) := by decide +kernel
theorem dX4_keepElements_34 : decode cX4_keepElements 34 = .ok (.aload_n 0, 1) := by decide +kernel
theorem dX4_keepElements_35 : decode cX4_keepElements 35 = .ok (.getfield 23, 3) := by decide +kernel
theorem dX4_keepElements_38 : decode cX4_keepElements 38 = .ok (.iload_n 2, 1) := by decide +kernel
theorem dX4_keepElements_39 : decode cX4_keepElements 39 = .ok (.invokevirtual 53, 3) := by decide +kernel
theorem dX4_keepElements_42 : decode cX4_keepElements 42 = .ok (.invokevirtual 73, 3) := by decide +kernel
theorem dX4_keepElements_45 : decode cX4_keepElements 45 = .ok (.aload_n 0, 1) := by decide +kernel
theorem dX4_keepElements_46 : decode cX4_keepElements 46 = .ok (.dup, 1) := by decide +kernel
theorem dX4_keepElements_47 : decode cX4_keepElements 47 = .ok (.getfield 27, 3) := by decide +kernel
theorem dX4_keepElements_50 : decode cX4_keepElements 50 = .ok (.iload_n 2, 1) := by decide +kernel
theorem dX4_keepElements_51 : decode cX4_keepElements 51 = .ok (.iload_n 1, 1) := by decide +kernel
theorem dX4_keepElements_52 : decode cX4_keepElements 52 = .ok (.isub, 1) := by decide +kernel
theorem dX4_keepElements_53 : decode cX4_keepElements 53 = .ok (.iadd, 1) := by decide +kernel
theorem dX4_keepElements_54 : decode cX4_keepElements 54 = .ok (.putfield 27, 3) := by decide +kernel
theorem dX4_keepElements_57 : decode cX4_keepElements 57 = .ok (.return_, 1) := by decide +kernel
theorem dX4_keepElements_58 : decode cX4_keepElements 58 = .ok (.iload_n 1, 1) := by decide +kernel
theorem dX4_keepElements_59 : decode cX4_keepElements 59 = .ok (.istore_n 3, 1) := by decide +kernel
theorem dX4_keepElements_60 : decode cX4_keepElements 60 = .ok (.iload_n 3, 1) := by decide +kernel
theorem dX4_keepElements_61 : decode cX4_keepElements 61 = .ok (.iload_n 2, 1) := by decide +kernel
theorem dX4_keepElements_62 : decode cX4_keepElements 62 = .ok (.if_icmp .ge 69, 3) := by decide +kernel
theorem dX4_keepElements_65 : decode cX4_keepElements 65 = .ok (.aload_n 0, 1) := by decide +kernel
theorem dX4_keepElements_66 : decode cX4_keepElements 66 = .ok (.getfield 23, 3) := by decide +kernel
theorem dX4_keepElements_69 : decode cX4_keepElements 69 = .ok (.iload_n 3, 1) := by decide +kernel
theorem dX4_keepElements_70 : decode cX4_keepElements 70 = .ok (.invokevirtual 53, 3) := by decide +kernel
theorem dX4_keepElements_73 : decode cX4_keepElements 73 = .ok (.istore 4, 2) := by decide +kernel
theorem dX4_keepElements_75 : decode cX4_keepElements 75 = .ok (.aload_n 0, 1) := by decide +kernel
theorem dX4_keepElements_76 : decode cX4_keepElements 76 = .ok (.getfield 14, 3) := by decide +kernel
theorem dX4_keepElements_79 : decode cX4_keepElements 79 = .ok (.iload 4, 2) := by decide +kernel
theorem dX4_keepElements_81 : decode cX4_keepElements 81 = .ok (.iconst 1, 1) := by decide +kernel
theorem dX4_keepElements_82 : decode cX4_keepElements 82 = .ok (.iadd, 1) := by decide +kernel
theorem dX4_keepElements_83 : decode cX4_keepElements 83 = .ok (.invokevirtual 64, 3) := by decide +kernel
theorem dX4_keepElements_86 : decode cX4_keepElements 86 = .ok (.istore 5, 2) := by decide +kernel
theorem dX4_keepElements_88 : decode cX4_keepElements 88 = .ok (.aload_n 0, 1) := by decide +kernel
theorem dX4_keepElements_89 : decode cX4_keepElements 89 = .ok (.aload_n 0, 1) := by decide +kernel
theorem dX4_keepElements_90 : decode cX4_keepElements 90 = .ok (.getfield 14, 3) := by decide +kernel
theorem dX4_keepElements_93 : decode cX4_keepElements 93 = .ok (.iload 4, 2) := by decide +kernel
theorem dX4_keepElements_95 : decode cX4_keepElements 95 = .ok (.invokevirtual 61, 3) := by decide +kernel
theorem dX4_keepElements_98 : decode cX4_keepElements 98 = .ok (.aload_n 0, 1) := by decide +kernel
theorem dX4_keepElements_99 : decode cX4_keepElements 99 = .ok (.getfield 14, 3) := by decide +kernel
theorem dX4_keepElements_102 : decode cX4_keepElements 102 = .ok (.iload 4, 2) := by decide +kernel
theorem dX4_keepElements_104 : decode cX4_keepElements 104 = .ok (.iconst 1, 1) := by decide +kernel
theorem dX4_keepElements_105 : decode cX4_keepElements 105 = .ok (.iadd, 1) := by decide +kernel
theorem dX4_keepElements_106 : decode cX4_keepElements 106 = .ok (.aload_n 0, 1) := by decide +kernel
theorem dX4_keepElements_107 : decode cX4_keepElements 107 = .ok (.getfield 14, 3) := by decide +kernel
theorem dX4_keepElements_110 : decode cX4_keepElements 110 = .ok (.iload 5, 2) := by decide +kernel
theorem dX4_keepElements_112 : decode cX4_keepElements 112 = .ok (.aload_n 0, 1) := by decide +kernel
theorem dX4_keepElements_113 : decode cX4_keepElements 113 = .ok (.getfield 23, 3) := by decide +kernel
theorem dX4_keepElements_116 : decode cX4_keepElements 116 = .ok (.iload_n 3, 1) := by decide +kernel
theorem dX4_keepElements_117 : decode cX4_keepElements 117 = .ok (.iconst 1, 1) := by decide +kernel
theorem dX4_keepElements_118 : decode cX4_keepElements 118 = .ok (.iadd, 1) := by decide +kernel
theorem dX4_keepElements_119 : decode cX4_keepElements 119 = .ok (.invokevirtual 53, 3) := by decide +kernel
theorem dX4_keepElements_122 : decode cX4_keepElements 122 = .ok (.invokevirtual 81, 3) := by decide +kernel
theorem dX4_keepElements_125 : decode cX4_keepElements 125 = .ok (.iinc 3 1, 3) := by decide +kernel
theorem dX4_keepElements_128 : decode cX4_keepElements 128 = .ok (.goto (-68), 3) := by decide +kernel
theorem dX4_keepElements_131 : decode cX4_keepElements 131 = .ok (.return_, 1) := by decide +kernel
abbrev rm_X4_keepElements : Room := { frames := 3, cells := 0, slots := 0, locals := 109 }
def f_X4_keepElements_L18 (cy : Nat → ClassId) (a0 : Nat) (a1 : Int32) (a2 : Int32) (μ : Mem) : Option Mem :=
  (rdR μ a0 3 2).bind fun q101 => (rdR μ a0 3 0).bind fun q103 => (rdR μ a0 3 1).bind fun q105 => if isO μ q105 0 = true then (ob2 (f_X0_startOf cy q105 a1 μ) fun r110 μ109 => (rdR μ109 a0 3 1).bind fun q111 => if isO μ109 q111 0 = true then (ob2 (f_X0_startOf cy q111 a2 μ109) fun r116 μ115 => if isO μ115 q101 4 = true then ((f_X5_appendPart cy q101 q103 r110 r116 μ115).bind fun μ119 => (rdI μ119 a0 3 3).bind fun v120 => (wrF μ119 a0 3 3 (.int (v120 + (a2 - a1)))).bind fun μ122 => some μ122) else none) else none) else none
set_option maxRecDepth 100000 in
set_option maxHeartbeats 4000000 in
theorem w_X4_keepElements_L18 {p : Program} {l : Launch} {e : Env} {s : State} {m : MethodId} {args : Array Value} {below : List Frame} {meth : Method} {c : Code} {A : Nat → Prop} {g : Wg} {L : List Nat} {μ' : Mem} (hC : CX p m c cX4_keepElements 6 s args RX4) (hr : meth.sig.returnType = none) (hlocks : meth.locks = false) : ∀ (a0 : Nat) (a1 : Int32) (a2 : Int32) (μ : Mem) (H : Heap) (locs : List Loc) (ls : Array Slot), lv_has ls 6 [(0, .ref a0), (1, .int a1), (2, .int a2)] → PW g L μ A s H locs → f_X4_keepElements_L18 g.2 a0 a1 a2 μ = some μ' → W p l e rm_X4_keepElements s m args below meth c H locs 0 0 (MQ below (QV g L A μ') args s 0 0 A) (F0 m 18 ls []) := by
  have hx := hC.1
  have hb := hC.2.1
  intro a0 a1 a2 μ H locs ls hl hw hf
  unfold f_X4_keepElements_L18 at hf
  refine lv_aload_n hx hb dX4_keepElements_18 rfl (lv_at hl 0 rfl) ?_
  obtain ⟨q101, h102, hf⟩ := o_bind hf
  refine pw_get hC fl_X4_40 hw (rdR_F h102) dX4_keepElements_19 ?_
  refine lv_aload_n hx hb dX4_keepElements_22 rfl (lv_at hl 0 rfl) ?_
  obtain ⟨q103, h104, hf⟩ := o_bind hf
  refine pw_get hC fl_X4_14 hw (rdR_F h104) dX4_keepElements_23 ?_
  refine lv_aload_n hx hb dX4_keepElements_26 rfl (lv_at hl 0 rfl) ?_
  obtain ⟨q105, h106, hf⟩ := o_bind hf
  refine pw_get hC fl_X4_23 hw (rdR_F h106) dX4_keepElements_27 ?_
  refine lv_iload_n hx hb dX4_keepElements_30 rfl (lv_at hl 1 rfl) ?_
  obtain ⟨h108, hf⟩ := o_ite hf
  obtain ⟨r110, μ109, h107, hf⟩ := o_bind2 hf
  refine pw_goI hw (pw_runV (As := [.int a1]) (rest := [.ref q103, .ref q101]) hC mm_X0_startOf tw_677 (c_X0_startOf h107 _) ⟨rfl, rfl, by decide, by decide⟩ hw h108 rfl hl.1 (Nat.le_of_ble_eq_true rfl) ⟨Nat.zero_le _, Nat.zero_le _⟩ rfl dX4_keepElements_31) (fun H locs hw => ?_)
  refine lv_aload_n hx hb dX4_keepElements_34 rfl (lv_at hl 0 rfl) ?_
  obtain ⟨q111, h112, hf⟩ := o_bind hf
  refine pw_get hC fl_X4_23 hw (rdR_F h112) dX4_keepElements_35 ?_
  refine lv_iload_n hx hb dX4_keepElements_38 rfl (lv_at hl 2 rfl) ?_
  obtain ⟨h114, hf⟩ := o_ite hf
  obtain ⟨r116, μ115, h113, hf⟩ := o_bind2 hf
  refine pw_goI hw (pw_runV (As := [.int a2]) (rest := [.int r110, .ref q103, .ref q101]) hC mm_X0_startOf tw_677 (c_X0_startOf h113 _) ⟨rfl, rfl, by decide, by decide⟩ hw h114 rfl hl.1 (Nat.le_of_ble_eq_true rfl) ⟨Nat.zero_le _, Nat.zero_le _⟩ rfl dX4_keepElements_39) (fun H locs hw => ?_)
  obtain ⟨h118, hf⟩ := o_ite hf
  obtain ⟨μ119, h117, hf⟩ := o_bind hf
  refine pw_goV hw (pw_runV (As := [.ref q103, .int r110, .int r116]) (rest := []) hC mm_X5_appendPart tw_793 (c_X5_appendPart h117 _) ⟨rfl, rfl, by decide, by decide⟩ hw h118 rfl hl.1 (Nat.le_of_ble_eq_true rfl) ⟨Nat.zero_le _, Nat.zero_le _⟩ rfl dX4_keepElements_42) (fun H locs hw => ?_)
  refine lv_aload_n hx hb dX4_keepElements_45 rfl (lv_at hl 0 rfl) ?_
  refine lv_dup hx hb dX4_keepElements_46 rfl ?_
  obtain ⟨v120, h121, hf⟩ := o_bind hf
  refine pw_get hC fl_X4_27 hw (rdI_F h121) dX4_keepElements_47 ?_
  refine lv_iload_n hx hb dX4_keepElements_50 rfl (lv_at hl 2 rfl) ?_
  refine lv_iload_n hx hb dX4_keepElements_51 rfl (lv_at hl 1 rfl) ?_
  refine lv_isub hx hb dX4_keepElements_52 ?_
  refine lv_iadd hx hb dX4_keepElements_53 ?_
  obtain ⟨μ122, h123, hf⟩ := o_bind hf
  refine pw_put hC fl_X4_27 hw h123 .int fd_X4_3 rfl rfl dX4_keepElements_54 (fun H locs hw => ?_)
  obtain rfl := o_retv hf
  exact pw_vret hC hr hlocks hw dX4_keepElements_57
def f_X4_keepElements_L60 (cy : Nat → ClassId) : Nat → Nat → Int32 → Int32 → Mem → Option Mem
  | 0, _, _, _, _ => none
  | n + 1, a0, a2, a3, μ => if a2 ≤ a3 then (some μ) else (rdR μ a0 3 1).bind fun q102 => if isO μ q102 0 = true then (ob2 (f_X0_startOf cy q102 a3 μ) fun r107 μ106 => (rdR μ106 a0 3 0).bind fun q108 => if isO μ106 q108 4 = true then (ob2 (f_X5_behindName cy q108 (r107 + 1) μ106) fun r113 μ112 => (rdR μ112 a0 3 0).bind fun q114 => if isO μ112 q114 4 = true then (ob2 (f_X5_at cy q114 r107 μ112) fun r119 μ118 => (rdR μ118 a0 3 0).bind fun q120 => (rdR μ118 a0 3 0).bind fun q122 => (rdR μ118 a0 3 1).bind fun q124 => if isO μ118 q124 0 = true then (ob2 (f_X0_startOf cy q124 (a3 + 1) μ118) fun r129 μ128 => if isO μ128 a0 3 = true then ((f_X4_addElement cy a0 r119 q120 (r107 + 1) q122 r113 r129 μ128).bind fun μ132 => f_X4_keepElements_L60 cy n a0 a2 (a3 + 1) μ132) else none) else none) else none) else none) else none
set_option maxRecDepth 100000 in
set_option maxHeartbeats 4000000 in
theorem w_X4_keepElements_L60 {p : Program} {l : Launch} {e : Env} {s : State} {m : MethodId} {args : Array Value} {below : List Frame} {meth : Method} {c : Code} {A : Nat → Prop} {g : Wg} {L : List Nat} {μ' : Mem} (hC : CX p m c cX4_keepElements 6 s args RX4) (hr : meth.sig.returnType = none) (hlocks : meth.locks = false) : ∀ (n : Nat), ∀ (a0 : Nat) (a2 : Int32) (a3 : Int32) (μ : Mem) (H : Heap) (locs : List Loc) (ls : Array Slot), lv_has ls 6 [(0, .ref a0), (2, .int a2), (3, .int a3)] → PW g L μ A s H locs → f_X4_keepElements_L60 g.2 n a0 a2 a3 μ = some μ' → W p l e rm_X4_keepElements s m args below meth c H locs 0 0 (MQ below (QV g L A μ') args s 0 0 A) (F0 m 60 ls []) := by
  have hx := hC.1
  have hb := hC.2.1
  intro n
  induction n with
  | zero => intro a0 a2 a3 μ H locs ls hl hw hf; cases hf
  | succ n ih =>
    intro a0 a2 a3 μ H locs ls hl hw hf
    rw [f_X4_keepElements_L60] at hf
    refine lv_iload_n hx hb dX4_keepElements_60 rfl (lv_at hl 2 rfl) ?_
    refine lv_iload_n hx hb dX4_keepElements_61 rfl (lv_at hl 1 rfl) ?_
    refine lv_icmp_ge (tgt := 131) hx hb dX4_keepElements_62 (by decide) (fun c101 => ?_) (fun c101 => ?_)
    · have hf := o_pos c101 hf
      obtain rfl := o_retv hf
      exact pw_vret hC hr hlocks hw dX4_keepElements_131
    · have hf := o_neg c101 hf
      refine lv_aload_n hx hb dX4_keepElements_65 rfl (lv_at hl 0 rfl) ?_
      obtain ⟨q102, h103, hf⟩ := o_bind hf
      refine pw_get hC fl_X4_23 hw (rdR_F h103) dX4_keepElements_66 ?_
      refine lv_iload_n hx hb dX4_keepElements_69 rfl (lv_at hl 2 rfl) ?_
      obtain ⟨h105, hf⟩ := o_ite hf
      obtain ⟨r107, μ106, h104, hf⟩ := o_bind2 hf
      refine pw_goI hw (pw_runV (As := [.int a3]) (rest := []) hC mm_X0_startOf tw_677 (c_X0_startOf h104 _) ⟨rfl, rfl, by decide, by decide⟩ hw h105 rfl hl.1 (Nat.le_of_ble_eq_true rfl) ⟨Nat.zero_le _, Nat.zero_le _⟩ rfl dX4_keepElements_70) (fun H locs hw => ?_)
      refine lv_istore (lv' := [(4, .int r107), (0, .ref a0), (2, .int a2), (3, .int a3)]) hx hb dX4_keepElements_73 hl (by decide) rfl (fun ls hl => ?_)
      refine lv_aload_n hx hb dX4_keepElements_75 rfl (lv_at hl 1 rfl) ?_
      obtain ⟨q108, h109, hf⟩ := o_bind hf
      refine pw_get hC fl_X4_14 hw (rdR_F h109) dX4_keepElements_76 ?_
      refine lv_iload hx hb dX4_keepElements_79 (lv_at hl 0 rfl) ?_
      refine lv_iconst (v := 1) hx hb dX4_keepElements_81 nc_iconst_1 ?_
      refine lv_iadd hx hb dX4_keepElements_82 ?_
      obtain ⟨h111, hf⟩ := o_ite hf
      obtain ⟨r113, μ112, h110, hf⟩ := o_bind2 hf
      refine pw_goI hw (pw_runV (As := [.int (r107 + 1)]) (rest := []) hC mm_X5_behindName tw_744 (c_X5_behindName h110 _) ⟨rfl, rfl, by decide, by decide⟩ hw h111 rfl hl.1 (Nat.le_of_ble_eq_true rfl) ⟨Nat.zero_le _, Nat.zero_le _⟩ rfl dX4_keepElements_83) (fun H locs hw => ?_)
      refine lv_istore (lv' := [(5, .int r113), (4, .int r107), (0, .ref a0), (2, .int a2), (3, .int a3)]) hx hb dX4_keepElements_86 hl (by decide) rfl (fun ls hl => ?_)
      refine lv_aload_n hx hb dX4_keepElements_88 rfl (lv_at hl 2 rfl) ?_
      refine lv_aload_n hx hb dX4_keepElements_89 rfl (lv_at hl 2 rfl) ?_
      obtain ⟨q114, h115, hf⟩ := o_bind hf
      refine pw_get hC fl_X4_14 hw (rdR_F h115) dX4_keepElements_90 ?_
      refine lv_iload hx hb dX4_keepElements_93 (lv_at hl 1 rfl) ?_
      obtain ⟨h117, hf⟩ := o_ite hf
      obtain ⟨r119, μ118, h116, hf⟩ := o_bind2 hf
      refine pw_goI hw (pw_runV (As := [.int r107]) (rest := [.ref a0]) hC mm_X5_at tw_720 (c_X5_at h116 _) ⟨rfl, rfl, by decide, by decide⟩ hw h117 rfl hl.1 (Nat.le_of_ble_eq_true rfl) ⟨Nat.zero_le _, Nat.zero_le _⟩ rfl dX4_keepElements_95) (fun H locs hw => ?_)
      refine lv_aload_n hx hb dX4_keepElements_98 rfl (lv_at hl 2 rfl) ?_
      obtain ⟨q120, h121, hf⟩ := o_bind hf
      refine pw_get hC fl_X4_14 hw (rdR_F h121) dX4_keepElements_99 ?_
      refine lv_iload hx hb dX4_keepElements_102 (lv_at hl 1 rfl) ?_
      refine lv_iconst (v := 1) hx hb dX4_keepElements_104 nc_iconst_1 ?_
      refine lv_iadd hx hb dX4_keepElements_105 ?_
      refine lv_aload_n hx hb dX4_keepElements_106 rfl (lv_at hl 2 rfl) ?_
      obtain ⟨q122, h123, hf⟩ := o_bind hf
      refine pw_get hC fl_X4_14 hw (rdR_F h123) dX4_keepElements_107 ?_
      refine lv_iload hx hb dX4_keepElements_110 (lv_at hl 0 rfl) ?_
      refine lv_aload_n hx hb dX4_keepElements_112 rfl (lv_at hl 2 rfl) ?_
      obtain ⟨q124, h125, hf⟩ := o_bind hf
      refine pw_get hC fl_X4_23 hw (rdR_F h125) dX4_keepElements_113 ?_
      refine lv_iload_n hx hb dX4_keepElements_116 rfl (lv_at hl 4 rfl) ?_
      refine lv_iconst (v := 1) hx hb dX4_keepElements_117 nc_iconst_1 ?_
      refine lv_iadd hx hb dX4_keepElements_118 ?_
      obtain ⟨h127, hf⟩ := o_ite hf
      obtain ⟨r129, μ128, h126, hf⟩ := o_bind2 hf
      refine pw_goI hw (pw_runV (As := [.int (a3 + 1)]) (rest := [.int r113, .ref q122, .int (r107 + 1), .ref q120, .int r119, .ref a0]) hC mm_X0_startOf tw_677 (c_X0_startOf h126 _) ⟨rfl, rfl, by decide, by decide⟩ hw h127 rfl hl.1 (Nat.le_of_ble_eq_true rfl) ⟨Nat.zero_le _, Nat.zero_le _⟩ rfl dX4_keepElements_119) (fun H locs hw => ?_)
      obtain ⟨h131, hf⟩ := o_ite hf
      obtain ⟨μ132, h130, hf⟩ := o_bind hf
      refine pw_goV hw (pw_runV (As := [.int r119, .ref q120, .int (r107 + 1), .ref q122, .int r113, .int r129]) (rest := []) hC mm_X4_addElement tw_803 (c_X4_addElement h130 _) ⟨rfl, rfl, by decide, by decide⟩ hw h131 rfl hl.1 (Nat.le_of_ble_eq_true rfl) ⟨Nat.zero_le _, Nat.zero_le _⟩ rfl dX4_keepElements_122) (fun H locs hw => ?_)
      refine lv_iinc (v := (a3 + 1)) (lv' := [(3, .int (a3 + 1)), (5, .int r113), (4, .int r107), (0, .ref a0), (2, .int a2)]) hx hb dX4_keepElements_125 hl (k := 4) rfl (by first | rfl | decide +kernel) (by decide) rfl (fun ls hl => ?_)
      refine lv_goto (tgt := 60) hx hb dX4_keepElements_128 (by decide) ?_
      exact ih _ _ _ _ _ _ ls (lv_sub hl [3, 4, 0] rfl) hw hf
def f_X4_keepElements (cy : Nat → ClassId) (a0 : Nat) (a1 : Int32) (a2 : Int32) (μ : Mem) : Option Mem :=
  (rdR μ a0 3 1).bind fun q1 => if isO μ q1 0 = true then (ob2 (f_X0_isInRow cy q1 μ) fun r6 μ5 => if r6 = 0 then (f_X4_keepElements_L18 cy a0 a1 a2 μ5) else (rdI μ5 a0 3 3).bind fun v8 => if a1 = v8 then (f_X4_keepElements_L18 cy a0 a1 a2 μ5) else f_X4_keepElements_L60 cy FU a0 a2 a1 μ5) else none
set_option maxRecDepth 100000 in
set_option maxHeartbeats 4000000 in
theorem c_X4_keepElements {l : Launch} {g : Wg} {L : List Nat} {μ : Mem} {a0 : Nat} {a1 : Int32} {a2 : Int32} {μ' : Mem} (hf : f_X4_keepElements g.2 a0 a1 a2 μ = some μ') : MetV l yX4_keepElements cX4_keepElements 6 none rm_X4_keepElements g L μ [.ref a0, .int a1, .int a2] μ' := by
  refine pw_met (Qc := fun A => QV g L A μ') (by decide) (Nat.le_of_ble_eq_true rfl) ?_
  intro p e s m args below meth c A ls H locs hC hr hlocks hl hw
  have hx := hC.1
  have hb := hC.2.1
  have hl : lv_has ls 6 [(0, .ref a0), (1, .int a1), (2, .int a2)] := hl
  unfold f_X4_keepElements at hf
  refine lv_aload_n hx hb dX4_keepElements_0 rfl (lv_at hl 0 rfl) ?_
  obtain ⟨q1, h2, hf⟩ := o_bind hf
  refine pw_get hC fl_X4_23 hw (rdR_F h2) dX4_keepElements_1 ?_
  obtain ⟨h4, hf⟩ := o_ite hf
  obtain ⟨r6, μ5, h3, hf⟩ := o_bind2 hf
  refine pw_goI hw (pw_runV (As := []) (rest := []) hC mm_X0_isInRow tw_798 (c_X0_isInRow h3 _) ⟨rfl, rfl, by decide, by decide⟩ hw h4 rfl hl.1 (Nat.le_of_ble_eq_true rfl) ⟨Nat.zero_le _, Nat.zero_le _⟩ rfl dX4_keepElements_4) (fun H locs hw => ?_)
  refine lv_if_eq (tgt := 18) hx hb dX4_keepElements_7 (by decide) (fun c7 => ?_) (fun c7 => ?_)
  · have hf := o_pos c7 hf
    exact w_X4_keepElements_L18 hC hr hlocks _ _ _ _ _ _ ls (lv_sub hl [0, 1, 2] rfl) hw hf
  · have hf := o_neg c7 hf
    refine lv_iload_n hx hb dX4_keepElements_10 rfl (lv_at hl 1 rfl) ?_
    refine lv_aload_n hx hb dX4_keepElements_11 rfl (lv_at hl 0 rfl) ?_
    obtain ⟨v8, h9, hf⟩ := o_bind hf
    refine pw_get hC fl_X4_27 hw (rdI_F h9) dX4_keepElements_12 ?_
    refine lv_icmp_ne (tgt := 58) hx hb dX4_keepElements_15 (by decide) (fun c10 => ?_) (fun c10 => ?_)
    · have hf := o_neg c10 hf
      refine lv_iload_n hx hb dX4_keepElements_58 rfl (lv_at hl 1 rfl) ?_
      refine lv_istore_n (lv' := [(3, .int a1), (0, .ref a0), (1, .int a1), (2, .int a2)]) hx hb dX4_keepElements_59 rfl hl (by decide) rfl (fun ls hl => ?_)
      exact w_X4_keepElements_L60 hC hr hlocks FU _ _ _ _ _ _ ls (lv_sub hl [1, 3, 0] rfl) hw hf
    · have hf := o_pos c10 hf
      exact w_X4_keepElements_L18 hC hr hlocks _ _ _ _ _ _ ls (lv_sub hl [0, 1, 2] rfl) hw hf
theorem dX4_draftValue_0 : decode cX4_draftValue 0 = .ok (.aload_n 0, 1) := by decide +kernel
theorem dX4_draftValue_1 : decode cX4_draftValue 1 = .ok (.invokevirtual 91, 3) := by decide +kernel
theorem dX4_draftValue_4 : decode cX4_draftValue 4 = .ok (.aload_n 0, 1) := by decide +kernel
theorem dX4_draftValue_5 : decode cX4_draftValue 5 = .ok (.iconst 0, 1) := by decide +kernel
theorem dX4_draftValue_6 : decode cX4_draftValue 6 = .ok (.aload_n 0, 1) := by decide +kernel
theorem dX4_draftValue_7 : decode cX4_draftValue 7 = .ok (.getfield 23, 3) := by decide +kernel
theorem dX4_draftValue_10 : decode cX4_draftValue 10 = .ok (.getfield 50, 3) := by decide +kernel
theorem dX4_draftValue_13 : decode cX4_draftValue 13 = .ok (.invokevirtual 94, 3) := by decide +kernel
theorem dX4_draftValue_16 : decode cX4_draftValue 16 = .ok (.aload_n 0, 1) := by decide +kernel
theorem dX4_draftValue_17 : decode cX4_draftValue 17 = .ok (.iload_n 1, 1) := by decide +kernel
theorem dX4_draftValue_18 : decode cX4_draftValue 18 = .ok (.aload_n 0, 1) := by decide +kernel
theorem dX4_draftValue_19 : decode cX4_draftValue 19 = .ok (.getfield 14, 3) := by decide +kernel
theorem dX4_draftValue_22 : decode cX4_draftValue 22 = .ok (.aload_n 0, 1) := by decide +kernel
theorem dX4_draftValue_23 : decode cX4_draftValue 23 = .ok (.invokevirtual 57, 3) := by decide +kernel
theorem dX4_draftValue_26 : decode cX4_draftValue 26 = .ok (.iconst 1, 1) := by decide +kernel
theorem dX4_draftValue_27 : decode cX4_draftValue 27 = .ok (.iadd, 1) := by decide +kernel
theorem dX4_draftValue_28 : decode cX4_draftValue 28 = .ok (.aload_n 2, 1) := by decide +kernel
theorem dX4_draftValue_29 : decode cX4_draftValue 29 = .ok (.iload_n 3, 1) := by decide +kernel
theorem dX4_draftValue_30 : decode cX4_draftValue 30 = .ok (.iload 4, 2) := by decide +kernel
theorem dX4_draftValue_32 : decode cX4_draftValue 32 = .ok (.invokevirtual 81, 3) := by decide +kernel
theorem dX4_draftValue_35 : decode cX4_draftValue 35 = .ok (.aload_n 0, 1) := by decide +kernel
theorem dX4_draftValue_36 : decode cX4_draftValue 36 = .ok (.aload_n 0, 1) := by decide +kernel
theorem dX4_draftValue_37 : decode cX4_draftValue 37 = .ok (.getfield 23, 3) := by decide +kernel
theorem dX4_draftValue_40 : decode cX4_draftValue 40 = .ok (.getfield 50, 3) := by decide +kernel
theorem dX4_draftValue_43 : decode cX4_draftValue 43 = .ok (.iconst 1, 1) := by decide +kernel
theorem dX4_draftValue_44 : decode cX4_draftValue 44 = .ok (.iadd, 1) := by decide +kernel
theorem dX4_draftValue_45 : decode cX4_draftValue 45 = .ok (.aload_n 0, 1) := by decide +kernel
theorem dX4_draftValue_46 : decode cX4_draftValue 46 = .ok (.getfield 23, 3) := by decide +kernel
theorem dX4_draftValue_49 : decode cX4_draftValue 49 = .ok (.getfield 98, 3) := by decide +kernel
theorem dX4_draftValue_52 : decode cX4_draftValue 52 = .ok (.invokevirtual 94, 3) := by decide +kernel
theorem dX4_draftValue_55 : decode cX4_draftValue 55 = .ok (.return_, 1) := by decide +kernel
abbrev rm_X4_draftValue : Room := { frames := 4, cells := 0, slots := 0, locals := 134 }
def f_X4_draftValue (cy : Nat → ClassId) (a0 : Nat) (a1 : Int32) (a2 : Nat) (a3 : Int32) (a4 : Int32) (μ : Mem) : Option Mem :=
  if isO μ a0 3 = true then ((f_X4_startDraft cy a0 μ).bind fun μ3 => (rdR μ3 a0 3 1).bind fun q4 => (rdI μ3 q4 0 5).bind fun v6 => if isO μ3 a0 3 = true then ((f_X4_keepElements cy a0 0 v6 μ3).bind fun μ10 => (rdR μ10 a0 3 0).bind fun q11 => if isO μ10 a0 3 = true then (ob2 (f_X4_elementPlace cy a0 μ10) fun r16 μ15 => if isO μ15 a0 3 = true then ((f_X4_addElement cy a0 a1 q11 (r16 + 1) a2 a3 a4 μ15).bind fun μ19 => (rdR μ19 a0 3 1).bind fun q20 => (rdI μ19 q20 0 5).bind fun v22 => (rdR μ19 a0 3 1).bind fun q24 => (rdI μ19 q24 0 7).bind fun v26 => if isO μ19 a0 3 = true then ((f_X4_keepElements cy a0 (v22 + 1) v26 μ19).bind fun μ30 => some μ30) else none) else none) else none) else none) else none
set_option maxRecDepth 100000 in
set_option maxHeartbeats 4000000 in
theorem c_X4_draftValue {l : Launch} {g : Wg} {L : List Nat} {μ : Mem} {a0 : Nat} {a1 : Int32} {a2 : Nat} {a3 : Int32} {a4 : Int32} {μ' : Mem} (hf : f_X4_draftValue g.2 a0 a1 a2 a3 a4 μ = some μ') : MetV l yX4_draftValue cX4_draftValue 5 none rm_X4_draftValue g L μ [.ref a0, .int a1, .ref a2, .int a3, .int a4] μ' := by
  refine pw_met (Qc := fun A => QV g L A μ') (by decide) (Nat.le_of_ble_eq_true rfl) ?_
  intro p e s m args below meth c A ls H locs hC hr hlocks hl hw
  have hx := hC.1
  have hb := hC.2.1
  have hl : lv_has ls 5 [(0, .ref a0), (1, .int a1), (2, .ref a2), (3, .int a3), (4, .int a4)] := hl
  unfold f_X4_draftValue at hf
  refine lv_aload_n hx hb dX4_draftValue_0 rfl (lv_at hl 0 rfl) ?_
  obtain ⟨h2, hf⟩ := o_ite hf
  obtain ⟨μ3, h1, hf⟩ := o_bind hf
  refine pw_goV hw (pw_runV (As := []) (rest := []) hC mm_X4_startDraft tw_787 (c_X4_startDraft h1 _) ⟨rfl, rfl, by decide, by decide⟩ hw h2 rfl hl.1 (Nat.le_of_ble_eq_true rfl) ⟨Nat.zero_le _, Nat.zero_le _⟩ rfl dX4_draftValue_1) (fun H locs hw => ?_)
  refine lv_aload_n hx hb dX4_draftValue_4 rfl (lv_at hl 0 rfl) ?_
  refine lv_iconst (v := 0) hx hb dX4_draftValue_5 nc_iconst_0 ?_
  refine lv_aload_n hx hb dX4_draftValue_6 rfl (lv_at hl 0 rfl) ?_
  obtain ⟨q4, h5, hf⟩ := o_bind hf
  refine pw_get hC fl_X4_23 hw (rdR_F h5) dX4_draftValue_7 ?_
  obtain ⟨v6, h7, hf⟩ := o_bind hf
  refine pw_get hC fl_X4_50 hw (rdI_F h7) dX4_draftValue_10 ?_
  obtain ⟨h9, hf⟩ := o_ite hf
  obtain ⟨μ10, h8, hf⟩ := o_bind hf
  refine pw_goV hw (pw_runV (As := [.int 0, .int v6]) (rest := []) hC mm_X4_keepElements tw_794 (c_X4_keepElements h8 _) ⟨rfl, rfl, by decide, by decide⟩ hw h9 rfl hl.1 (Nat.le_of_ble_eq_true rfl) ⟨Nat.zero_le _, Nat.zero_le _⟩ rfl dX4_draftValue_13) (fun H locs hw => ?_)
  refine lv_aload_n hx hb dX4_draftValue_16 rfl (lv_at hl 0 rfl) ?_
  refine lv_iload_n hx hb dX4_draftValue_17 rfl (lv_at hl 1 rfl) ?_
  refine lv_aload_n hx hb dX4_draftValue_18 rfl (lv_at hl 0 rfl) ?_
  obtain ⟨q11, h12, hf⟩ := o_bind hf
  refine pw_get hC fl_X4_14 hw (rdR_F h12) dX4_draftValue_19 ?_
  refine lv_aload_n hx hb dX4_draftValue_22 rfl (lv_at hl 0 rfl) ?_
  obtain ⟨h14, hf⟩ := o_ite hf
  obtain ⟨r16, μ15, h13, hf⟩ := o_bind2 hf
  refine pw_goI hw (pw_runV (As := []) (rest := [.ref q11, .int a1, .ref a0]) hC mm_X4_elementPlace tw_719 (c_X4_elementPlace h13 _) ⟨rfl, rfl, by decide, by decide⟩ hw h14 rfl hl.1 (Nat.le_of_ble_eq_true rfl) ⟨Nat.zero_le _, Nat.zero_le _⟩ rfl dX4_draftValue_23) (fun H locs hw => ?_)
  refine lv_iconst (v := 1) hx hb dX4_draftValue_26 nc_iconst_1 ?_
  refine lv_iadd hx hb dX4_draftValue_27 ?_
  refine lv_aload_n hx hb dX4_draftValue_28 rfl (lv_at hl 2 rfl) ?_
  refine lv_iload_n hx hb dX4_draftValue_29 rfl (lv_at hl 3 rfl) ?_
  refine lv_iload hx hb dX4_draftValue_30 (lv_at hl 4 rfl) ?_
  obtain ⟨h18, hf⟩ := o_ite hf
  obtain ⟨μ19, h17, hf⟩ := o_bind hf
  refine pw_goV hw (pw_runV (As := [.int a1, .ref q11, .int (r16 + 1), .ref a2, .int a3, .int a4]) (rest := []) hC mm_X4_addElement tw_803 (c_X4_addElement h17 _) ⟨rfl, rfl, by decide, by decide⟩ hw h18 rfl hl.1 (Nat.le_of_ble_eq_true rfl) ⟨Nat.zero_le _, Nat.zero_le _⟩ rfl dX4_draftValue_32) (fun H locs hw => ?_)
  refine lv_aload_n hx hb dX4_draftValue_35 rfl (lv_at hl 0 rfl) ?_
  refine lv_aload_n hx hb dX4_draftValue_36 rfl (lv_at hl 0 rfl) ?_
  obtain ⟨q20, h21, hf⟩ := o_bind hf
  refine pw_get hC fl_X4_23 hw (rdR_F h21) dX4_draftValue_37 ?_
  obtain ⟨v22, h23, hf⟩ := o_bind hf
  refine pw_get hC fl_X4_50 hw (rdI_F h23) dX4_draftValue_40 ?_
  refine lv_iconst (v := 1) hx hb dX4_draftValue_43 nc_iconst_1 ?_
  refine lv_iadd hx hb dX4_draftValue_44 ?_
  refine lv_aload_n hx hb dX4_draftValue_45 rfl (lv_at hl 0 rfl) ?_
  obtain ⟨q24, h25, hf⟩ := o_bind hf
  refine pw_get hC fl_X4_23 hw (rdR_F h25) dX4_draftValue_46 ?_
  obtain ⟨v26, h27, hf⟩ := o_bind hf
  refine pw_get hC fl_X4_98 hw (rdI_F h27) dX4_draftValue_49 ?_
  obtain ⟨h29, hf⟩ := o_ite hf
  obtain ⟨μ30, h28, hf⟩ := o_bind hf
  refine pw_goV hw (pw_runV (As := [.int (v22 + 1), .int v26]) (rest := []) hC mm_X4_keepElements tw_794 (c_X4_keepElements h28 _) ⟨rfl, rfl, by decide, by decide⟩ hw h29 rfl hl.1 (Nat.le_of_ble_eq_true rfl) ⟨Nat.zero_le _, Nat.zero_le _⟩ rfl dX4_draftValue_52) (fun H locs hw => ?_)
  obtain rfl := o_retv hf
  exact pw_vret hC hr hlocks hw dX4_draftValue_55
