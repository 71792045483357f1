theorem nc_sipush_1200 : (Int16.ofInt 1200).toInt32 = 1200 := by decide +kernel
theorem tw_5 : (Jvm.Cond.initialized "SpanShelves$Cursor") ∈ tw := tw_t 5 (by decide +kernel) (by decide +kernel)
theorem tw_116 : (Jvm.Cond.fieldLink "SpanShelves$Cursor" (9 : Nat) "SpanShelves$Cursor" "documentPlaces" "[I") ∈ tw := tw_t 116 (by decide +kernel) (by decide +kernel)
theorem tw_117 : (Jvm.Cond.fieldLink "SpanShelves$Cursor" (15 : Nat) "SpanShelves$Cursor" "documentTypes" "[I") ∈ tw := tw_t 117 (by decide +kernel) (by decide +kernel)
theorem tw_118 : (Jvm.Cond.fieldLink "SpanShelves$Cursor" (18 : Nat) "SpanShelves$Cursor" "wayPlaces" "[I") ∈ tw := tw_t 118 (by decide +kernel) (by decide +kernel)
theorem tw_119 : (Jvm.Cond.fieldLink "SpanShelves$Cursor" (21 : Nat) "SpanShelves$Cursor" "wayNumbers" "[I") ∈ tw := tw_t 119 (by decide +kernel) (by decide +kernel)
theorem tw_120 : (Jvm.Cond.fieldLink "SpanShelves$Cursor" (24 : Nat) "SpanShelves$Cursor" "level" "I") ∈ tw := tw_t 120 (by decide +kernel) (by decide +kernel)
theorem tw_121 : (Jvm.Cond.fieldLink "SpanShelves$Cursor" (28 : Nat) "SpanShelves$Cursor" "number" "I") ∈ tw := tw_t 121 (by decide +kernel) (by decide +kernel)
theorem tw_124 : (Jvm.Cond.fieldLink "SpanShelves$Cursor" (31 : Nat) "SpanShelves$Cursor" "starts" "[I") ∈ tw := tw_t 124 (by decide +kernel) (by decide +kernel)
theorem tw_125 : (Jvm.Cond.fieldLink "SpanShelves$Cursor" (34 : Nat) "SpanShelves$Cursor" "count" "I") ∈ tw := tw_t 125 (by decide +kernel) (by decide +kernel)
theorem tw_246 : (Jvm.Cond.methodLink "SpanShelves$Cursor" (37 : Nat) ({ cls := "SpanShelves$Cursor", name := "findStarts", desc := "(LSpanShelves$Span;)V" } : Jvm.MethodName)) ∈ tw := tw_t 246 (by decide +kernel) (by decide +kernel)
theorem tw_247 : (Jvm.Cond.instanceMethod ({ cls := "SpanShelves$Cursor", name := "findStarts", desc := "(LSpanShelves$Span;)V" } : Jvm.MethodName)) ∈ tw := tw_t 247 (by decide +kernel) (by decide +kernel)
theorem tw_248 : (Jvm.Cond.selects "SpanShelves$Cursor" ({ cls := "SpanShelves$Cursor", name := "findStarts", desc := "(LSpanShelves$Span;)V" } : Jvm.MethodName) ({ cls := "SpanShelves$Cursor", name := "findStarts", desc := "(LSpanShelves$Span;)V" } : Jvm.MethodName)) ∈ tw := tw_t 248 (by decide +kernel) (by decide +kernel)
theorem tw_249 : (Jvm.Cond.code ({ cls := "SpanShelves$Cursor", name := "findStarts", desc := "(LSpanShelves$Span;)V" } : Jvm.MethodName) prog_2_method_6_code (5 : Nat) (Option.none : Option Jvm.ClassFile.FieldType)) ∈ tw := tw_t 249 (by decide +kernel) (by decide +kernel)
theorem tw_250 : (Jvm.Cond.methodLink "SpanShelves$Cursor" (77 : Nat) ({ cls := "SpanShelves$Cursor", name := "document", desc := "()I" } : Jvm.MethodName)) ∈ tw := tw_t 250 (by decide +kernel) (by decide +kernel)
theorem tw_251 : (Jvm.Cond.instanceMethod ({ cls := "SpanShelves$Cursor", name := "document", desc := "()I" } : Jvm.MethodName)) ∈ tw := tw_t 251 (by decide +kernel) (by decide +kernel)
theorem tw_252 : (Jvm.Cond.selects "SpanShelves$Cursor" ({ cls := "SpanShelves$Cursor", name := "document", desc := "()I" } : Jvm.MethodName) ({ cls := "SpanShelves$Cursor", name := "document", desc := "()I" } : Jvm.MethodName)) ∈ tw := tw_t 252 (by decide +kernel) (by decide +kernel)
theorem tw_253 : (Jvm.Cond.code ({ cls := "SpanShelves$Cursor", name := "document", desc := "()I" } : Jvm.MethodName) prog_2_method_12_code (1 : Nat) (Option.some Jvm.ClassFile.FieldType.int)) ∈ tw := tw_t 253 (by decide +kernel) (by decide +kernel)
theorem tw_254 : (Jvm.Cond.methodLink "SpanShelves$Cursor" (81 : Nat) ({ cls := "SpanShelves$Span", name := "intAt", desc := "(I)I" } : Jvm.MethodName)) ∈ tw := tw_t 254 (by decide +kernel) (by decide +kernel)
theorem tw_262 : (Jvm.Cond.methodLink "SpanShelves$Cursor" (55 : Nat) ({ cls := "SpanShelves$Span", name := "at", desc := "(I)I" } : Jvm.MethodName)) ∈ tw := tw_t 262 (by decide +kernel) (by decide +kernel)
theorem tw_263 : (Jvm.Cond.methodLink "SpanShelves$Cursor" (70 : Nat) ({ cls := "SpanShelves$Span", name := "behindName", desc := "(I)I" } : Jvm.MethodName)) ∈ tw := tw_t 263 (by decide +kernel) (by decide +kernel)
theorem tw_271 : (Jvm.Cond.methodLink "SpanShelves$Cursor" (84 : Nat) ({ cls := "SpanShelves$Form", name := "behindValue", desc := "(LSpanShelves$Span;II)I" } : Jvm.MethodName)) ∈ tw := tw_t 271 (by decide +kernel) (by decide +kernel)
theorem tw_272 : (Jvm.Cond.static ({ cls := "SpanShelves$Form", name := "behindValue", desc := "(LSpanShelves$Span;II)I" } : Jvm.MethodName)) ∈ tw := tw_t 272 (by decide +kernel) (by decide +kernel)
theorem tw_273 : (Jvm.Cond.code ({ cls := "SpanShelves$Form", name := "behindValue", desc := "(LSpanShelves$Span;II)I" } : Jvm.MethodName) prog_3_method_6_code (3 : Nat) (Option.some Jvm.ClassFile.FieldType.int)) ∈ tw := tw_t 273 (by decide +kernel) (by decide +kernel)
theorem tw_279 : (Jvm.Cond.methodLink "SpanShelves$Cursor" (41 : Nat) ({ cls := "SpanShelves$Cursor", name := "toNumberOrLast", desc := "(I)V" } : Jvm.MethodName)) ∈ tw := tw_t 279 (by decide +kernel) (by decide +kernel)
theorem tw_280 : (Jvm.Cond.instanceMethod ({ cls := "SpanShelves$Cursor", name := "toNumberOrLast", desc := "(I)V" } : Jvm.MethodName)) ∈ tw := tw_t 280 (by decide +kernel) (by decide +kernel)
theorem tw_281 : (Jvm.Cond.selects "SpanShelves$Cursor" ({ cls := "SpanShelves$Cursor", name := "toNumberOrLast", desc := "(I)V" } : Jvm.MethodName) ({ cls := "SpanShelves$Cursor", name := "toNumberOrLast", desc := "(I)V" } : Jvm.MethodName)) ∈ tw := tw_t 281 (by decide +kernel) (by decide +kernel)
theorem tw_282 : (Jvm.Cond.code ({ cls := "SpanShelves$Cursor", name := "toNumberOrLast", desc := "(I)V" } : Jvm.MethodName) prog_2_method_7_code (2 : Nat) (Option.none : Option Jvm.ClassFile.FieldType)) ∈ tw := tw_t 282 (by decide +kernel) (by decide +kernel)
theorem tw_283 : (Jvm.Cond.methodLink "SpanShelves$Cursor" (87 : Nat) ({ cls := "java/lang/Math", name := "min", desc := "(II)I" } : Jvm.MethodName)) ∈ tw := tw_t 283 (by decide +kernel) (by decide +kernel)
theorem tw_599 : (Jvm.Cond.methodLink "SpanShelves$Cursor" (51 : Nat) ({ cls := "SpanShelves$Cursor", name := "startOf", desc := "(I)I" } : Jvm.MethodName)) ∈ tw := tw_t 599 (by decide +kernel) (by decide +kernel)
theorem tw_600 : (Jvm.Cond.instanceMethod ({ cls := "SpanShelves$Cursor", name := "startOf", desc := "(I)I" } : Jvm.MethodName)) ∈ tw := tw_t 600 (by decide +kernel) (by decide +kernel)
theorem tw_601 : (Jvm.Cond.selects "SpanShelves$Cursor" ({ cls := "SpanShelves$Cursor", name := "startOf", desc := "(I)I" } : Jvm.MethodName) ({ cls := "SpanShelves$Cursor", name := "startOf", desc := "(I)I" } : Jvm.MethodName)) ∈ tw := tw_t 601 (by decide +kernel) (by decide +kernel)
theorem tw_602 : (Jvm.Cond.code ({ cls := "SpanShelves$Cursor", name := "startOf", desc := "(I)I" } : Jvm.MethodName) prog_2_method_14_code (2 : Nat) (Option.some Jvm.ClassFile.FieldType.int)) ∈ tw := tw_t 602 (by decide +kernel) (by decide +kernel)
theorem tw_603 : (Jvm.Cond.methodLink "SpanShelves$Cursor" (96 : Nat) ({ cls := "SpanShelves$Span", name := "hasSame", desc := "(ILSpanShelves$Span;II)Z" } : Jvm.MethodName)) ∈ tw := tw_t 603 (by decide +kernel) (by decide +kernel)
theorem tw_604 : (Jvm.Cond.instanceMethod ({ cls := "SpanShelves$Span", name := "hasSame", desc := "(ILSpanShelves$Span;II)Z" } : Jvm.MethodName)) ∈ tw := tw_t 604 (by decide +kernel) (by decide +kernel)
theorem tw_605 : (Jvm.Cond.selects "SpanShelves$Span" ({ cls := "SpanShelves$Span", name := "hasSame", desc := "(ILSpanShelves$Span;II)Z" } : Jvm.MethodName) ({ cls := "SpanShelves$Span", name := "hasSame", desc := "(ILSpanShelves$Span;II)Z" } : Jvm.MethodName)) ∈ tw := tw_t 605 (by decide +kernel) (by decide +kernel)
theorem tw_606 : (Jvm.Cond.code ({ cls := "SpanShelves$Span", name := "hasSame", desc := "(ILSpanShelves$Span;II)Z" } : Jvm.MethodName) prog_7_method_15_code (6 : Nat) (Option.some Jvm.ClassFile.FieldType.boolean)) ∈ tw := tw_t 606 (by decide +kernel) (by decide +kernel)
theorem tw_620 : (Jvm.Cond.methodLink "SpanShelves$Cursor" (45 : Nat) ({ cls := "java/lang/System", name := "arraycopy", desc := "(Ljava/lang/Object;ILjava/lang/Object;II)V" } : Jvm.MethodName)) ∈ tw := tw_t 620 (by decide +kernel) (by decide +kernel)
theorem tw_625 : (Jvm.Cond.methodLink "SpanShelves$Cursor" (60 : Nat) ({ cls := "SpanShelves$Cursor", name := "isAtElement", desc := "()Z" } : Jvm.MethodName)) ∈ tw := tw_t 625 (by decide +kernel) (by decide +kernel)
theorem tw_626 : (Jvm.Cond.instanceMethod ({ cls := "SpanShelves$Cursor", name := "isAtElement", desc := "()Z" } : Jvm.MethodName)) ∈ tw := tw_t 626 (by decide +kernel) (by decide +kernel)
theorem tw_627 : (Jvm.Cond.selects "SpanShelves$Cursor" ({ cls := "SpanShelves$Cursor", name := "isAtElement", desc := "()Z" } : Jvm.MethodName) ({ cls := "SpanShelves$Cursor", name := "isAtElement", desc := "()Z" } : Jvm.MethodName)) ∈ tw := tw_t 627 (by decide +kernel) (by decide +kernel)
theorem tw_628 : (Jvm.Cond.code ({ cls := "SpanShelves$Cursor", name := "isAtElement", desc := "()Z" } : Jvm.MethodName) prog_2_method_8_code (1 : Nat) (Option.some Jvm.ClassFile.FieldType.boolean)) ∈ tw := tw_t 628 (by decide +kernel) (by decide +kernel)
theorem tw_629 : (Jvm.Cond.methodLink "SpanShelves$Cursor" (64 : Nat) ({ cls := "SpanShelves$Form", name := "hasDocument", desc := "(I)Z" } : Jvm.MethodName)) ∈ tw := tw_t 629 (by decide +kernel) (by decide +kernel)
theorem tw_630 : (Jvm.Cond.static ({ cls := "SpanShelves$Form", name := "hasDocument", desc := "(I)Z" } : Jvm.MethodName)) ∈ tw := tw_t 630 (by decide +kernel) (by decide +kernel)
theorem tw_631 : (Jvm.Cond.code ({ cls := "SpanShelves$Form", name := "hasDocument", desc := "(I)Z" } : Jvm.MethodName) prog_3_method_3_code (1 : Nat) (Option.some Jvm.ClassFile.FieldType.boolean)) ∈ tw := tw_t 631 (by decide +kernel) (by decide +kernel)
theorem tw_632 : (Jvm.Cond.methodLink "SpanShelves$Cursor" (73 : Nat) ({ cls := "SpanShelves$Form", name := "documentIn", desc := "(LSpanShelves$Span;II)I" } : Jvm.MethodName)) ∈ tw := tw_t 632 (by decide +kernel) (by decide +kernel)
theorem tw_633 : (Jvm.Cond.static ({ cls := "SpanShelves$Form", name := "documentIn", desc := "(LSpanShelves$Span;II)I" } : Jvm.MethodName)) ∈ tw := tw_t 633 (by decide +kernel) (by decide +kernel)
theorem tw_634 : (Jvm.Cond.code ({ cls := "SpanShelves$Form", name := "documentIn", desc := "(LSpanShelves$Span;II)I" } : Jvm.MethodName) prog_3_method_7_code (3 : Nat) (Option.some Jvm.ClassFile.FieldType.int)) ∈ tw := tw_t 634 (by decide +kernel) (by decide +kernel)
theorem tw_666 : (Jvm.Cond.instanceMethod ({ cls := "SpanShelves$Cursor", name := "documentType", desc := "()I" } : Jvm.MethodName)) ∈ tw := tw_t 666 (by decide +kernel) (by decide +kernel)
theorem tw_667 : (Jvm.Cond.selects "SpanShelves$Cursor" ({ cls := "SpanShelves$Cursor", name := "documentType", desc := "()I" } : Jvm.MethodName) ({ cls := "SpanShelves$Cursor", name := "documentType", desc := "()I" } : Jvm.MethodName)) ∈ tw := tw_t 667 (by decide +kernel) (by decide +kernel)
theorem tw_668 : (Jvm.Cond.code ({ cls := "SpanShelves$Cursor", name := "documentType", desc := "()I" } : Jvm.MethodName) prog_2_method_13_code (1 : Nat) (Option.some Jvm.ClassFile.FieldType.int)) ∈ tw := tw_t 668 (by decide +kernel) (by decide +kernel)
theorem tw_802 : (Jvm.Cond.methodLink "SpanShelves$Cursor" (93 : Nat) ({ cls := "SpanShelves$Cursor", name := "documentType", desc := "()I" } : Jvm.MethodName)) ∈ tw := tw_t 802 (by decide +kernel) (by decide +kernel)
theorem tw_834 : (Jvm.Cond.methodLink "SpanShelves$Cursor" (100 : Nat) ({ cls := "SpanShelves$Span", name := "putInt", desc := "(II)V" } : Jvm.MethodName)) ∈ tw := tw_t 834 (by decide +kernel) (by decide +kernel)
theorem tw_835 : (Jvm.Cond.instanceMethod ({ cls := "SpanShelves$Span", name := "putInt", desc := "(II)V" } : Jvm.MethodName)) ∈ tw := tw_t 835 (by decide +kernel) (by decide +kernel)
theorem tw_836 : (Jvm.Cond.selects "SpanShelves$Span" ({ cls := "SpanShelves$Span", name := "putInt", desc := "(II)V" } : Jvm.MethodName) ({ cls := "SpanShelves$Span", name := "putInt", desc := "(II)V" } : Jvm.MethodName)) ∈ tw := tw_t 836 (by decide +kernel) (by decide +kernel)
theorem tw_837 : (Jvm.Cond.code ({ cls := "SpanShelves$Span", name := "putInt", desc := "(II)V" } : Jvm.MethodName) prog_7_method_7_code (4 : Nat) (Option.none : Option Jvm.ClassFile.FieldType)) ∈ tw := tw_t 837 (by decide +kernel) (by decide +kernel)
theorem iw_X0 : ∀ w ∈ u_ws RX0 TX0 8, w ∈ tw := fun w h => List.mem_filter.mpr ⟨(show ∀ w ∈ u_ws RX0 TX0 8, w ∈ lw_tbl by decide +kernel) w h, (show ∀ w ∈ u_ws RX0 TX0 8, tw_ok w = true by decide +kernel) w h⟩
theorem fl_X0_9 : FL RX0 9 0 0 := ⟨by decide, RX0, TX0, 8, tyX0, rfl, by decide, rfl, iw_X0, tyX0_ok, nmX0, Or.inl tw_116⟩
theorem fl_X0_15 : FL RX0 15 0 1 := ⟨by decide, RX0, TX0, 8, tyX0, rfl, by decide, rfl, iw_X0, tyX0_ok, nmX0, Or.inl tw_117⟩
theorem fl_X0_18 : FL RX0 18 0 2 := ⟨by decide, RX0, TX0, 8, tyX0, rfl, by decide, rfl, iw_X0, tyX0_ok, nmX0, Or.inl tw_118⟩
theorem fl_X0_21 : FL RX0 21 0 3 := ⟨by decide, RX0, TX0, 8, tyX0, rfl, by decide, rfl, iw_X0, tyX0_ok, nmX0, Or.inl tw_119⟩
theorem fl_X0_24 : FL RX0 24 0 4 := ⟨by decide, RX0, TX0, 8, tyX0, rfl, by decide, rfl, iw_X0, tyX0_ok, nmX0, Or.inl tw_120⟩
theorem fl_X0_28 : FL RX0 28 0 5 := ⟨by decide, RX0, TX0, 8, tyX0, rfl, by decide, rfl, iw_X0, tyX0_ok, nmX0, Or.inl tw_121⟩
theorem fl_X0_31 : FL RX0 31 0 6 := ⟨by decide, RX0, TX0, 8, tyX0, rfl, by decide, rfl, iw_X0, tyX0_ok, nmX0, Or.inl tw_124⟩
theorem fl_X0_34 : FL RX0 34 0 7 := ⟨by decide, RX0, TX0, 8, tyX0, rfl, by decide, rfl, iw_X0, tyX0_ok, nmX0, Or.inl tw_125⟩
theorem fd_X0_4 : ∀ (C : String) (T : u_T) (N : Nat), vwCl[0]? = some (C, T, N) → (T 4).2.2.2 = false ∧ parseFieldDescriptor (T 4).2.2.1 = some .int := by intro C T N h; cases h; exact ⟨rfl, by decide +kernel⟩
theorem fd_X0_5 : ∀ (C : String) (T : u_T) (N : Nat), vwCl[0]? = some (C, T, N) → (T 5).2.2.2 = false ∧ parseFieldDescriptor (T 5).2.2.1 = some .int := by intro C T N h; cases h; exact ⟨rfl, by decide +kernel⟩
theorem fd_X0_7 : ∀ (C : String) (T : u_T) (N : Nat), vwCl[0]? = some (C, T, N) → (T 7).2.2.2 = false ∧ parseFieldDescriptor (T 7).2.2.1 = some .int := by intro C T N h; cases h; exact ⟨rfl, by decide +kernel⟩
theorem mm_X0_document : MM 0 yX0_document cX0_document 1 (some .int) 0 := ⟨by decide, RX0, TX0, 8, rfl, tw_251, tw_252, tw_253, tw_5, by decide +kernel, by decide +kernel, by decide +kernel⟩
theorem mm_X0_documentType : MM 0 yX0_documentType cX0_documentType 1 (some .int) 0 := ⟨by decide, RX0, TX0, 8, rfl, tw_666, tw_667, tw_668, tw_5, by decide +kernel, by decide +kernel, by decide +kernel⟩
theorem mm_X0_findStarts : MM 0 yX0_findStarts cX0_findStarts 5 none 1 := ⟨by decide, RX0, TX0, 8, rfl, tw_247, tw_248, tw_249, tw_5, by decide +kernel, by decide +kernel, by decide +kernel⟩
theorem mm_X0_isAtElement : MM 0 yX0_isAtElement cX0_isAtElement 1 (some .boolean) 0 := ⟨by decide, RX0, TX0, 8, rfl, tw_626, tw_627, tw_628, tw_5, by decide +kernel, by decide +kernel, by decide +kernel⟩
theorem mm_X0_startOf : MM 0 yX0_startOf cX0_startOf 2 (some .int) 1 := ⟨by decide, RX0, TX0, 8, rfl, tw_600, tw_601, tw_602, tw_5, by decide +kernel, by decide +kernel, by decide +kernel⟩
theorem mm_X0_toNumberOrLast : MM 0 yX0_toNumberOrLast cX0_toNumberOrLast 2 none 1 := ⟨by decide, RX0, TX0, 8, rfl, tw_280, tw_281, tw_282, tw_5, by decide +kernel, by decide +kernel, by decide +kernel⟩
theorem mm_X1_behindValue : MS yX1_behindValue cX1_behindValue 3 (some .int) 3 := ⟨tw_272, tw_273, tw_9, by decide +kernel, by decide +kernel, by decide +kernel⟩
theorem mm_X1_documentIn : MS yX1_documentIn cX1_documentIn 3 (some .int) 3 := ⟨tw_633, tw_634, tw_9, by decide +kernel, by decide +kernel, by decide +kernel⟩
theorem mm_X1_hasDocument : MS yX1_hasDocument cX1_hasDocument 1 (some .boolean) 1 := ⟨tw_630, tw_631, tw_9, by decide +kernel, by decide +kernel, by decide +kernel⟩
theorem mm_X5_hasSame : MM 4 yX5_hasSame cX5_hasSame 6 (some .boolean) 4 := ⟨by decide, RX5, TX5, 3, rfl, tw_604, tw_605, tw_606, tw_2, by decide +kernel, by decide +kernel, by decide +kernel⟩
theorem mm_X5_putInt : MM 4 yX5_putInt cX5_putInt 4 none 2 := ⟨by decide, RX5, TX5, 3, rfl, tw_835, tw_836, tw_837, tw_2, by decide +kernel, by decide +kernel, by decide +kernel⟩
theorem dX0_document_0 : decode cX0_document 0 = .ok (.aload_n 0, 1) := by decide +kernel
theorem dX0_document_1 : decode cX0_document 1 = .ok (.getfield 9, 3) := by decide +kernel
theorem dX0_document_4 : decode cX0_document 4 = .ok (.aload_n 0, 1) := by decide +kernel
theorem dX0_document_5 : decode cX0_document 5 = .ok (.getfield 24, 3) := by decide +kernel
theorem dX0_document_8 : decode cX0_document 8 = .ok (.iaload, 1) := by decide +kernel
theorem dX0_document_9 : decode cX0_document 9 = .ok (.ireturn, 1) := by decide +kernel
abbrev rm_X0_document : Room := { frames := 0, cells := 0, slots := 0, locals := 0 }
def f_X0_document (cy : Nat → ClassId) (a0 : Nat) (μ : Mem) : Option (Int32 × Mem) :=
  (rdR μ a0 0 0).bind fun q1 => (rdI μ a0 0 4).bind fun v3 => (rdA cy μ 1 q1 v3).bind fun v5 => some (v5, μ)
set_option maxRecDepth 100000 in
set_option maxHeartbeats 4000000 in
theorem c_X0_document {l : Launch} {g : Wg} {L : List Nat} {μ : Mem} {a0 : Nat} {r : Int32} {μ' : Mem} (hf : f_X0_document g.2 a0 μ = some (r, μ')) : MetI l yX0_document cX0_document 1 (some .int) rm_X0_document g L μ [.ref a0] r μ' := by
  refine pw_met (Qc := fun A => QI g L A r μ') (by decide) (Nat.le_of_ble_eq_true rfl) ?_
  intro p e s m args below meth c A ls H locs hC hr hlocks hl hw
  have hx := hC.1
  have hb := hC.2.1
  have hl : lv_has ls 1 [(0, .ref a0)] := hl
  unfold f_X0_document at hf
  refine lv_aload_n hx hb dX0_document_0 rfl (lv_at hl 0 rfl) ?_
  obtain ⟨q1, h2, hf⟩ := o_bind hf
  refine pw_get hC fl_X0_9 hw (rdR_F h2) dX0_document_1 ?_
  refine lv_aload_n hx hb dX0_document_4 rfl (lv_at hl 0 rfl) ?_
  obtain ⟨v3, h4, hf⟩ := o_bind hf
  refine pw_get hC fl_X0_24 hw (rdI_F h4) dX0_document_5 ?_
  obtain ⟨v5, h6, hf⟩ := o_bind hf
  refine pw_iald hC hw h6 dX0_document_8 ?_
  obtain ⟨rfl, rfl⟩ := o_ret hf
  exact pw_iret hC hr hlocks hw dX0_document_9
theorem dX0_documentType_0 : decode cX0_documentType 0 = .ok (.aload_n 0, 1) := by decide +kernel
theorem dX0_documentType_1 : decode cX0_documentType 1 = .ok (.getfield 15, 3) := by decide +kernel
theorem dX0_documentType_4 : decode cX0_documentType 4 = .ok (.aload_n 0, 1) := by decide +kernel
theorem dX0_documentType_5 : decode cX0_documentType 5 = .ok (.getfield 24, 3) := by decide +kernel
theorem dX0_documentType_8 : decode cX0_documentType 8 = .ok (.iaload, 1) := by decide +kernel
theorem dX0_documentType_9 : decode cX0_documentType 9 = .ok (.ireturn, 1) := by decide +kernel
abbrev rm_X0_documentType : Room := { frames := 0, cells := 0, slots := 0, locals := 0 }
def f_X0_documentType (cy : Nat → ClassId) (a0 : Nat) (μ : Mem) : Option (Int32 × Mem) :=
  (rdR μ a0 0 1).bind fun q1 => (rdI μ a0 0 4).bind fun v3 => (rdA cy μ 1 q1 v3).bind fun v5 => some (v5, μ)
set_option maxRecDepth 100000 in
set_option maxHeartbeats 4000000 in
theorem c_X0_documentType {l : Launch} {g : Wg} {L : List Nat} {μ : Mem} {a0 : Nat} {r : Int32} {μ' : Mem} (hf : f_X0_documentType g.2 a0 μ = some (r, μ')) : MetI l yX0_documentType cX0_documentType 1 (some .int) rm_X0_documentType g L μ [.ref a0] r μ' := by
  refine pw_met (Qc := fun A => QI g L A r μ') (by decide) (Nat.le_of_ble_eq_true rfl) ?_
  intro p e s m args below meth c A ls H locs hC hr hlocks hl hw
  have hx := hC.1
  have hb := hC.2.1
  have hl : lv_has ls 1 [(0, .ref a0)] := hl
  unfold f_X0_documentType at hf
  refine lv_aload_n hx hb dX0_documentType_0 rfl (lv_at hl 0 rfl) ?_
  obtain ⟨q1, h2, hf⟩ := o_bind hf
  refine pw_get hC fl_X0_15 hw (rdR_F h2) dX0_documentType_1 ?_
  refine lv_aload_n hx hb dX0_documentType_4 rfl (lv_at hl 0 rfl) ?_
  obtain ⟨v3, h4, hf⟩ := o_bind hf
  refine pw_get hC fl_X0_24 hw (rdI_F h4) dX0_documentType_5 ?_
  obtain ⟨v5, h6, hf⟩ := o_bind hf
  refine pw_iald hC hw h6 dX0_documentType_8 ?_
  obtain ⟨rfl, rfl⟩ := o_ret hf
  exact pw_iret hC hr hlocks hw dX0_documentType_9
theorem dX0_isAtElement_0 : decode cX0_isAtElement 0 = .ok (.aload_n 0, 1) := by decide +kernel
theorem dX0_isAtElement_1 : decode cX0_isAtElement 1 = .ok (.getfield 28, 3) := by decide +kernel
theorem dX0_isAtElement_4 : decode cX0_isAtElement 4 = .ok (.iconst (-1), 1) := by decide +kernel
theorem dX0_isAtElement_5 : decode cX0_isAtElement 5 = .ok (.if_icmp .eq 7, 3) := by decide +kernel
theorem dX0_isAtElement_8 : decode cX0_isAtElement 8 = .ok (.iconst 1, 1) := by decide +kernel
theorem dX0_isAtElement_9 : decode cX0_isAtElement 9 = .ok (.goto 4, 3) := by decide +kernel
theorem dX0_isAtElement_12 : decode cX0_isAtElement 12 = .ok (.iconst 0, 1) := by decide +kernel
theorem dX0_isAtElement_13 : decode cX0_isAtElement 13 = .ok (.ireturn, 1) := by decide +kernel
abbrev rm_X0_isAtElement : Room := { frames := 0, cells := 0, slots := 0, locals := 0 }
def f_X0_isAtElement (cy : Nat → ClassId) (a0 : Nat) (μ : Mem) : Option (Int32 × Mem) :=
  (rdI μ a0 0 5).bind fun v1 => if v1 = (-1) then (some (0, μ)) else some (1, μ)
set_option maxRecDepth 100000 in
set_option maxHeartbeats 4000000 in
theorem c_X0_isAtElement {l : Launch} {g : Wg} {L : List Nat} {μ : Mem} {a0 : Nat} {r : Int32} {μ' : Mem} (hf : f_X0_isAtElement g.2 a0 μ = some (r, μ')) : MetI l yX0_isAtElement cX0_isAtElement 1 (some .boolean) rm_X0_isAtElement g L μ [.ref a0] r μ' := by
  refine pw_met (Qc := fun A => QI g L A r μ') (by decide) (Nat.le_of_ble_eq_true rfl) ?_
  intro p e s m args below meth c A ls H locs hC hr hlocks hl hw
  have hx := hC.1
  have hb := hC.2.1
  have hl : lv_has ls 1 [(0, .ref a0)] := hl
  unfold f_X0_isAtElement at hf
  refine lv_aload_n hx hb dX0_isAtElement_0 rfl (lv_at hl 0 rfl) ?_
  obtain ⟨v1, h2, hf⟩ := o_bind hf
  refine pw_get hC fl_X0_28 hw (rdI_F h2) dX0_isAtElement_1 ?_
  refine lv_iconst (v := (-1)) hx hb dX0_isAtElement_4 nc_iconst_m1 ?_
  refine lv_icmp_eq (tgt := 12) hx hb dX0_isAtElement_5 (by decide) (fun c3 => ?_) (fun c3 => ?_)
  · have hf := o_pos c3 hf
    refine lv_iconst (v := 0) hx hb dX0_isAtElement_12 nc_iconst_0 ?_
    obtain ⟨rfl, rfl⟩ := o_ret hf
    exact pw_zret hC hr hlocks (Or.inl rfl) hw dX0_isAtElement_13
  · have hf := o_neg c3 hf
    refine lv_iconst (v := 1) hx hb dX0_isAtElement_8 nc_iconst_1 ?_
    refine lv_goto (tgt := 13) hx hb dX0_isAtElement_9 (by decide) ?_
    obtain ⟨rfl, rfl⟩ := o_ret hf
    exact pw_zret hC hr hlocks (Or.inr rfl) hw dX0_isAtElement_13
theorem dX0_hasElement_0 : decode cX0_hasElement 0 = .ok (.iload_n 1, 1) := by decide +kernel
theorem dX0_hasElement_1 : decode cX0_hasElement 1 = .ok (.ifCond .lt 15, 3) := by decide +kernel
theorem dX0_hasElement_4 : decode cX0_hasElement 4 = .ok (.iload_n 1, 1) := by decide +kernel
theorem dX0_hasElement_5 : decode cX0_hasElement 5 = .ok (.aload_n 0, 1) := by decide +kernel
theorem dX0_hasElement_6 : decode cX0_hasElement 6 = .ok (.getfield 34, 3) := by decide +kernel
theorem dX0_hasElement_9 : decode cX0_hasElement 9 = .ok (.if_icmp .ge 7, 3) := by decide +kernel
theorem dX0_hasElement_12 : decode cX0_hasElement 12 = .ok (.iconst 1, 1) := by decide +kernel
theorem dX0_hasElement_13 : decode cX0_hasElement 13 = .ok (.goto 4, 3) := by decide +kernel
theorem dX0_hasElement_16 : decode cX0_hasElement 16 = .ok (.iconst 0, 1) := by decide +kernel
theorem dX0_hasElement_17 : decode cX0_hasElement 17 = .ok (.ireturn, 1) := by decide +kernel
abbrev rm_X0_hasElement : Room := { frames := 0, cells := 0, slots := 0, locals := 0 }
def f_X0_hasElement_L16 (cy : Nat → ClassId)  (μ : Mem) : Option (Int32 × Mem) :=
  some (0, μ)
set_option maxRecDepth 100000 in
set_option maxHeartbeats 4000000 in
theorem w_X0_hasElement_L16 {p : Program} {l : Launch} {e : Env} {s : State} {m : MethodId} {args : Array Value} {below : List Frame} {meth : Method} {c : Code} {A : Nat → Prop} {g : Wg} {L : List Nat} {r : Int32} {μ' : Mem} (hC : CX p m c cX0_hasElement 2 s args RX0) (hr : meth.sig.returnType = (some .boolean)) (hlocks : meth.locks = false) : ∀  (μ : Mem) (H : Heap) (locs : List Loc) (ls : Array Slot), lv_has ls 2 [] → PW g L μ A s H locs → f_X0_hasElement_L16 g.2  μ = some (r, μ') → W p l e rm_X0_hasElement s m args below meth c H locs 0 0 (MQ below (QI g L A r μ') args s 0 0 A) (F0 m 16 ls []) := by
  have hx := hC.1
  have hb := hC.2.1
  intro  μ H locs ls hl hw hf
  unfold f_X0_hasElement_L16 at hf
  refine lv_iconst (v := 0) hx hb dX0_hasElement_16 nc_iconst_0 ?_
  obtain ⟨rfl, rfl⟩ := o_ret hf
  exact pw_zret hC hr hlocks (Or.inl rfl) hw dX0_hasElement_17
def f_X0_hasElement (cy : Nat → ClassId) (a0 : Nat) (a1 : Int32) (μ : Mem) : Option (Int32 × Mem) :=
  if a1 < 0 then (f_X0_hasElement_L16 cy  μ) else (rdI μ a0 0 7).bind fun v2 => if v2 ≤ a1 then (f_X0_hasElement_L16 cy  μ) else some (1, μ)
set_option maxRecDepth 100000 in
set_option maxHeartbeats 4000000 in
theorem c_X0_hasElement {l : Launch} {g : Wg} {L : List Nat} {μ : Mem} {a0 : Nat} {a1 : Int32} {r : Int32} {μ' : Mem} (hf : f_X0_hasElement g.2 a0 a1 μ = some (r, μ')) : MetI l yX0_hasElement cX0_hasElement 2 (some .boolean) rm_X0_hasElement g L μ [.ref a0, .int a1] r μ' := by
  refine pw_met (Qc := fun A => QI g L A r μ') (by decide) (Nat.le_of_ble_eq_true rfl) ?_
  intro p e s m args below meth c A ls H locs hC hr hlocks hl hw
  have hx := hC.1
  have hb := hC.2.1
  have hl : lv_has ls 2 [(0, .ref a0), (1, .int a1)] := hl
  unfold f_X0_hasElement at hf
  refine lv_iload_n hx hb dX0_hasElement_0 rfl (lv_at hl 1 rfl) ?_
  refine lv_if_lt (tgt := 16) hx hb dX0_hasElement_1 (by decide) (fun c1 => ?_) (fun c1 => ?_)
  · have hf := o_pos c1 hf
    exact w_X0_hasElement_L16 hC hr hlocks  _ _ _ ls (lv_sub hl [] rfl) hw hf
  · have hf := o_neg c1 hf
    refine lv_iload_n hx hb dX0_hasElement_4 rfl (lv_at hl 1 rfl) ?_
    refine lv_aload_n hx hb dX0_hasElement_5 rfl (lv_at hl 0 rfl) ?_
    obtain ⟨v2, h3, hf⟩ := o_bind hf
    refine pw_get hC fl_X0_34 hw (rdI_F h3) dX0_hasElement_6 ?_
    refine lv_icmp_ge (tgt := 16) hx hb dX0_hasElement_9 (by decide) (fun c4 => ?_) (fun c4 => ?_)
    · have hf := o_pos c4 hf
      exact w_X0_hasElement_L16 hC hr hlocks  _ _ _ ls (lv_sub hl [] rfl) hw hf
    · have hf := o_neg c4 hf
      refine lv_iconst (v := 1) hx hb dX0_hasElement_12 nc_iconst_1 ?_
      refine lv_goto (tgt := 17) hx hb dX0_hasElement_13 (by decide) ?_
      obtain ⟨rfl, rfl⟩ := o_ret hf
      exact pw_zret hC hr hlocks (Or.inr rfl) hw dX0_hasElement_17
theorem dX0_isInRow_0 : decode cX0_isInRow 0 = .ok (.aload_n 0, 1) := by decide +kernel
theorem dX0_isInRow_1 : decode cX0_isInRow 1 = .ok (.invokevirtual 93, 3) := by decide +kernel
theorem dX0_isInRow_4 : decode cX0_isInRow 4 = .ok (.iconst 4, 1) := by decide +kernel
theorem dX0_isInRow_5 : decode cX0_isInRow 5 = .ok (.if_icmp .ne 7, 3) := by decide +kernel
theorem dX0_isInRow_8 : decode cX0_isInRow 8 = .ok (.iconst 1, 1) := by decide +kernel
theorem dX0_isInRow_9 : decode cX0_isInRow 9 = .ok (.goto 4, 3) := by decide +kernel
theorem dX0_isInRow_12 : decode cX0_isInRow 12 = .ok (.iconst 0, 1) := by decide +kernel
theorem dX0_isInRow_13 : decode cX0_isInRow 13 = .ok (.ireturn, 1) := by decide +kernel
abbrev rm_X0_isInRow : Room := { frames := 1, cells := 0, slots := 0, locals := 20 }
def f_X0_isInRow (cy : Nat → ClassId) (a0 : Nat) (μ : Mem) : Option (Int32 × Mem) :=
  if isO μ a0 0 = true then (ob2 (f_X0_documentType cy a0 μ) fun r4 μ3 => if r4 = 4 then (some (1, μ3)) else some (0, μ3)) else none
set_option maxRecDepth 100000 in
set_option maxHeartbeats 4000000 in
theorem c_X0_isInRow {l : Launch} {g : Wg} {L : List Nat} {μ : Mem} {a0 : Nat} {r : Int32} {μ' : Mem} (hf : f_X0_isInRow g.2 a0 μ = some (r, μ')) : MetI l yX0_isInRow cX0_isInRow 1 (some .boolean) rm_X0_isInRow g L μ [.ref a0] r μ' := by
  refine pw_met (Qc := fun A => QI g L A r μ') (by decide) (Nat.le_of_ble_eq_true rfl) ?_
  intro p e s m args below meth c A ls H locs hC hr hlocks hl hw
  have hx := hC.1
  have hb := hC.2.1
  have hl : lv_has ls 1 [(0, .ref a0)] := hl
  unfold f_X0_isInRow at hf
  refine lv_aload_n hx hb dX0_isInRow_0 rfl (lv_at hl 0 rfl) ?_
  obtain ⟨h2, hf⟩ := o_ite hf
  obtain ⟨r4, μ3, h1, hf⟩ := o_bind2 hf
  refine pw_goI hw (pw_runV (As := []) (rest := []) hC mm_X0_documentType tw_802 (c_X0_documentType h1 _) ⟨rfl, rfl, by decide, by decide⟩ hw h2 rfl hl.1 (Nat.le_of_ble_eq_true rfl) ⟨Nat.zero_le _, Nat.zero_le _⟩ rfl dX0_isInRow_1) (fun H locs hw => ?_)
  refine lv_iconst (v := 4) hx hb dX0_isInRow_4 nc_iconst_4 ?_
  refine lv_icmp_ne (tgt := 12) hx hb dX0_isInRow_5 (by decide) (fun c5 => ?_) (fun c5 => ?_)
  · have hf := o_neg c5 hf
    refine lv_iconst (v := 0) hx hb dX0_isInRow_12 nc_iconst_0 ?_
    obtain ⟨rfl, rfl⟩ := o_ret hf
    exact pw_zret hC hr hlocks (Or.inl rfl) hw dX0_isInRow_13
  · have hf := o_pos c5 hf
    refine lv_iconst (v := 1) hx hb dX0_isInRow_8 nc_iconst_1 ?_
    refine lv_goto (tgt := 13) hx hb dX0_isInRow_9 (by decide) ?_
    obtain ⟨rfl, rfl⟩ := o_ret hf
    exact pw_zret hC hr hlocks (Or.inr rfl) hw dX0_isInRow_13
theorem dX0_depth_0 : decode cX0_depth 0 = .ok (.aload_n 0, 1) := by decide +kernel
theorem dX0_depth_1 : decode cX0_depth 1 = .ok (.getfield 24, 3) := by decide +kernel
theorem dX0_depth_4 : decode cX0_depth 4 = .ok (.iconst 1, 1) := by decide +kernel
theorem dX0_depth_5 : decode cX0_depth 5 = .ok (.iadd, 1) := by decide +kernel
theorem dX0_depth_6 : decode cX0_depth 6 = .ok (.ireturn, 1) := by decide +kernel
abbrev rm_X0_depth : Room := { frames := 0, cells := 0, slots := 0, locals := 0 }
def f_X0_depth (cy : Nat → ClassId) (a0 : Nat) (μ : Mem) : Option (Int32 × Mem) :=
  (rdI μ a0 0 4).bind fun v1 => some ((v1 + 1), μ)
set_option maxRecDepth 100000 in
set_option maxHeartbeats 4000000 in
theorem c_X0_depth {l : Launch} {g : Wg} {L : List Nat} {μ : Mem} {a0 : Nat} {r : Int32} {μ' : Mem} (hf : f_X0_depth g.2 a0 μ = some (r, μ')) : MetI l yX0_depth cX0_depth 1 (some .int) rm_X0_depth g L μ [.ref a0] r μ' := by
  refine pw_met (Qc := fun A => QI g L A r μ') (by decide) (Nat.le_of_ble_eq_true rfl) ?_
  intro p e s m args below meth c A ls H locs hC hr hlocks hl hw
  have hx := hC.1
  have hb := hC.2.1
  have hl : lv_has ls 1 [(0, .ref a0)] := hl
  unfold f_X0_depth at hf
  refine lv_aload_n hx hb dX0_depth_0 rfl (lv_at hl 0 rfl) ?_
  obtain ⟨v1, h2, hf⟩ := o_bind hf
  refine pw_get hC fl_X0_24 hw (rdI_F h2) dX0_depth_1 ?_
  refine lv_iconst (v := 1) hx hb dX0_depth_4 nc_iconst_1 ?_
  refine lv_iadd hx hb dX0_depth_5 ?_
  obtain ⟨rfl, rfl⟩ := o_ret hf
  exact pw_iret hC hr hlocks hw dX0_depth_6
theorem dX0_startOf_0 : decode cX0_startOf 0 = .ok (.iload_n 1, 1) := by decide +kernel
theorem dX0_startOf_1 : decode cX0_startOf 1 = .ok (.ifCond .lt 20, 3) := by decide +kernel
theorem dX0_startOf_4 : decode cX0_startOf 4 = .ok (.iload_n 1, 1) := by decide +kernel
theorem dX0_startOf_5 : decode cX0_startOf 5 = .ok (.aload_n 0, 1) := by decide +kernel
theorem dX0_startOf_6 : decode cX0_startOf 6 = .ok (.getfield 34, 3) := by decide +kernel
theorem dX0_startOf_9 : decode cX0_startOf 9 = .ok (.if_icmp .gt 12, 3) := by decide +kernel
theorem dX0_startOf_12 : decode cX0_startOf 12 = .ok (.aload_n 0, 1) := by decide +kernel
theorem dX0_startOf_13 : decode cX0_startOf 13 = .ok (.getfield 31, 3) := by decide +kernel
theorem dX0_startOf_16 : decode cX0_startOf 16 = .ok (.iload_n 1, 1) := by decide +kernel
theorem dX0_startOf_17 : decode cX0_startOf 17 = .ok (.iaload, 1) := by decide +kernel
theorem dX0_startOf_18 : decode cX0_startOf 18 = .ok (.goto 4, 3) := by decide +kernel
theorem dX0_startOf_21 : decode cX0_startOf 21 = .ok (.iconst 0, 1) := by decide +kernel
theorem dX0_startOf_22 : decode cX0_startOf 22 = .ok (.ireturn, 1) := by decide +kernel
abbrev rm_X0_startOf : Room := { frames := 0, cells := 0, slots := 0, locals := 0 }
def f_X0_startOf_L21 (cy : Nat → ClassId)  (μ : Mem) : Option (Int32 × Mem) :=
  some (0, μ)
set_option maxRecDepth 100000 in
set_option maxHeartbeats 4000000 in
theorem w_X0_startOf_L21 {p : Program} {l : Launch} {e : Env} {s : State} {m : MethodId} {args : Array Value} {below : List Frame} {meth : Method} {c : Code} {A : Nat → Prop} {g : Wg} {L : List Nat} {r : Int32} {μ' : Mem} (hC : CX p m c cX0_startOf 2 s args RX0) (hr : meth.sig.returnType = (some .int)) (hlocks : meth.locks = false) : ∀  (μ : Mem) (H : Heap) (locs : List Loc) (ls : Array Slot), lv_has ls 2 [] → PW g L μ A s H locs → f_X0_startOf_L21 g.2  μ = some (r, μ') → W p l e rm_X0_startOf s m args below meth c H locs 0 0 (MQ below (QI g L A r μ') args s 0 0 A) (F0 m 21 ls []) := by
  have hx := hC.1
  have hb := hC.2.1
  intro  μ H locs ls hl hw hf
  unfold f_X0_startOf_L21 at hf
  refine lv_iconst (v := 0) hx hb dX0_startOf_21 nc_iconst_0 ?_
  obtain ⟨rfl, rfl⟩ := o_ret hf
  exact pw_iret hC hr hlocks hw dX0_startOf_22
def f_X0_startOf (cy : Nat → ClassId) (a0 : Nat) (a1 : Int32) (μ : Mem) : Option (Int32 × Mem) :=
  if a1 < 0 then (f_X0_startOf_L21 cy  μ) else (rdI μ a0 0 7).bind fun v2 => if v2 < a1 then (f_X0_startOf_L21 cy  μ) else (rdR μ a0 0 6).bind fun q5 => (rdA cy μ 1 q5 a1).bind fun v7 => some (v7, μ)
set_option maxRecDepth 100000 in
set_option maxHeartbeats 4000000 in
theorem c_X0_startOf {l : Launch} {g : Wg} {L : List Nat} {μ : Mem} {a0 : Nat} {a1 : Int32} {r : Int32} {μ' : Mem} (hf : f_X0_startOf g.2 a0 a1 μ = some (r, μ')) : MetI l yX0_startOf cX0_startOf 2 (some .int) rm_X0_startOf g L μ [.ref a0, .int a1] r μ' := by
  refine pw_met (Qc := fun A => QI g L A r μ') (by decide) (Nat.le_of_ble_eq_true rfl) ?_
  intro p e s m args below meth c A ls H locs hC hr hlocks hl hw
  have hx := hC.1
  have hb := hC.2.1
  have hl : lv_has ls 2 [(0, .ref a0), (1, .int a1)] := hl
  unfold f_X0_startOf at hf
  refine lv_iload_n hx hb dX0_startOf_0 rfl (lv_at hl 1 rfl) ?_
  refine lv_if_lt (tgt := 21) hx hb dX0_startOf_1 (by decide) (fun c1 => ?_) (fun c1 => ?_)
  · have hf := o_pos c1 hf
    exact w_X0_startOf_L21 hC hr hlocks  _ _ _ ls (lv_sub hl [] rfl) hw hf
  · have hf := o_neg c1 hf
    refine lv_iload_n hx hb dX0_startOf_4 rfl (lv_at hl 1 rfl) ?_
    refine lv_aload_n hx hb dX0_startOf_5 rfl (lv_at hl 0 rfl) ?_
    obtain ⟨v2, h3, hf⟩ := o_bind hf
    refine pw_get hC fl_X0_34 hw (rdI_F h3) dX0_startOf_6 ?_
    refine lv_icmp_gt (tgt := 21) hx hb dX0_startOf_9 (by decide) (fun c4 => ?_) (fun c4 => ?_)
    · have hf := o_pos c4 hf
      exact w_X0_startOf_L21 hC hr hlocks  _ _ _ ls (lv_sub hl [] rfl) hw hf
    · have hf := o_neg c4 hf
      refine lv_aload_n hx hb dX0_startOf_12 rfl (lv_at hl 0 rfl) ?_
      obtain ⟨q5, h6, hf⟩ := o_bind hf
      refine pw_get hC fl_X0_31 hw (rdR_F h6) dX0_startOf_13 ?_
      refine lv_iload_n hx hb dX0_startOf_16 rfl (lv_at hl 1 rfl) ?_
      obtain ⟨v7, h8, hf⟩ := o_bind hf
      refine pw_iald hC hw h8 dX0_startOf_17 ?_
      refine lv_goto (tgt := 22) hx hb dX0_startOf_18 (by decide) ?_
      obtain ⟨rfl, rfl⟩ := o_ret hf
      exact pw_iret hC hr hlocks hw dX0_startOf_22
theorem dX0_lastBytePlace_0 : decode cX0_lastBytePlace 0 = .ok (.aload_n 0, 1) := by decide +kernel
theorem dX0_lastBytePlace_1 : decode cX0_lastBytePlace 1 = .ok (.aload_n 0, 1) := by decide +kernel
theorem dX0_lastBytePlace_2 : decode cX0_lastBytePlace 2 = .ok (.getfield 34, 3) := by decide +kernel
theorem dX0_lastBytePlace_5 : decode cX0_lastBytePlace 5 = .ok (.invokevirtual 51, 3) := by decide +kernel
theorem dX0_lastBytePlace_8 : decode cX0_lastBytePlace 8 = .ok (.ireturn, 1) := by decide +kernel
abbrev rm_X0_lastBytePlace : Room := { frames := 1, cells := 0, slots := 0, locals := 21 }
def f_X0_lastBytePlace (cy : Nat → ClassId) (a0 : Nat) (μ : Mem) : Option (Int32 × Mem) :=
  (rdI μ a0 0 7).bind fun v1 => if isO μ a0 0 = true then (ob2 (f_X0_startOf cy a0 v1 μ) fun r6 μ5 => some (r6, μ5)) else none
set_option maxRecDepth 100000 in
set_option maxHeartbeats 4000000 in
theorem c_X0_lastBytePlace {l : Launch} {g : Wg} {L : List Nat} {μ : Mem} {a0 : Nat} {r : Int32} {μ' : Mem} (hf : f_X0_lastBytePlace g.2 a0 μ = some (r, μ')) : MetI l yX0_lastBytePlace cX0_lastBytePlace 1 (some .int) rm_X0_lastBytePlace g L μ [.ref a0] r μ' := by
  refine pw_met (Qc := fun A => QI g L A r μ') (by decide) (Nat.le_of_ble_eq_true rfl) ?_
  intro p e s m args below meth c A ls H locs hC hr hlocks hl hw
  have hx := hC.1
  have hb := hC.2.1
  have hl : lv_has ls 1 [(0, .ref a0)] := hl
  unfold f_X0_lastBytePlace at hf
  refine lv_aload_n hx hb dX0_lastBytePlace_0 rfl (lv_at hl 0 rfl) ?_
  refine lv_aload_n hx hb dX0_lastBytePlace_1 rfl (lv_at hl 0 rfl) ?_
  obtain ⟨v1, h2, hf⟩ := o_bind hf
  refine pw_get hC fl_X0_34 hw (rdI_F h2) dX0_lastBytePlace_2 ?_
  obtain ⟨h4, hf⟩ := o_ite hf
  obtain ⟨r6, μ5, h3, hf⟩ := o_bind2 hf
  refine pw_goI hw (pw_runV (As := [.int v1]) (rest := []) hC mm_X0_startOf tw_599 (c_X0_startOf h3 _) ⟨rfl, rfl, by decide, by decide⟩ hw h4 rfl hl.1 (Nat.le_of_ble_eq_true rfl) ⟨Nat.zero_le _, Nat.zero_le _⟩ rfl dX0_lastBytePlace_5) (fun H locs hw => ?_)
  obtain ⟨rfl, rfl⟩ := o_ret hf
  exact pw_iret hC hr hlocks hw dX0_lastBytePlace_8
theorem dX0_toNumberOrLast_0 : decode cX0_toNumberOrLast 0 = .ok (.aload_n 0, 1) := by decide +kernel
theorem dX0_toNumberOrLast_1 : decode cX0_toNumberOrLast 1 = .ok (.iload_n 1, 1) := by decide +kernel
theorem dX0_toNumberOrLast_2 : decode cX0_toNumberOrLast 2 = .ok (.aload_n 0, 1) := by decide +kernel
theorem dX0_toNumberOrLast_3 : decode cX0_toNumberOrLast 3 = .ok (.getfield 34, 3) := by decide +kernel
theorem dX0_toNumberOrLast_6 : decode cX0_toNumberOrLast 6 = .ok (.iconst 1, 1) := by decide +kernel
theorem dX0_toNumberOrLast_7 : decode cX0_toNumberOrLast 7 = .ok (.isub, 1) := by decide +kernel
theorem dX0_toNumberOrLast_8 : decode cX0_toNumberOrLast 8 = .ok (.invokestatic 87, 3) := by decide +kernel
theorem dX0_toNumberOrLast_11 : decode cX0_toNumberOrLast 11 = .ok (.putfield 28, 3) := by decide +kernel
theorem dX0_toNumberOrLast_14 : decode cX0_toNumberOrLast 14 = .ok (.return_, 1) := by decide +kernel
abbrev rm_X0_toNumberOrLast : Room := { frames := 1, cells := 0, slots := 0, locals := 40 }
def f_X0_toNumberOrLast (cy : Nat → ClassId) (a0 : Nat) (a1 : Int32) (μ : Mem) : Option Mem :=
  (rdI μ a0 0 7).bind fun v1 => (wrF μ a0 0 5 (.int (if (v1 - 1) < a1 then (v1 - 1) else a1))).bind fun μ3 => some μ3
set_option maxRecDepth 100000 in
set_option maxHeartbeats 4000000 in
theorem c_X0_toNumberOrLast {l : Launch} {g : Wg} {L : List Nat} {μ : Mem} {a0 : Nat} {a1 : Int32} {μ' : Mem} (hf : f_X0_toNumberOrLast g.2 a0 a1 μ = some μ') : MetV l yX0_toNumberOrLast cX0_toNumberOrLast 2 none rm_X0_toNumberOrLast g L μ [.ref a0, .int a1] μ' := by
  refine pw_met (Qc := fun A => QV g L A μ') (by decide) (Nat.le_of_ble_eq_true rfl) ?_
  intro p e s m args below meth c A ls H locs hC hr hlocks hl hw
  have hx := hC.1
  have hb := hC.2.1
  have hl : lv_has ls 2 [(0, .ref a0), (1, .int a1)] := hl
  unfold f_X0_toNumberOrLast at hf
  refine lv_aload_n hx hb dX0_toNumberOrLast_0 rfl (lv_at hl 0 rfl) ?_
  refine lv_iload_n hx hb dX0_toNumberOrLast_1 rfl (lv_at hl 1 rfl) ?_
  refine lv_aload_n hx hb dX0_toNumberOrLast_2 rfl (lv_at hl 0 rfl) ?_
  obtain ⟨v1, h2, hf⟩ := o_bind hf
  refine pw_get hC fl_X0_34 hw (rdI_F h2) dX0_toNumberOrLast_3 ?_
  refine lv_iconst (v := 1) hx hb dX0_toNumberOrLast_6 nc_iconst_1 ?_
  refine lv_isub hx hb dX0_toNumberOrLast_7 ?_
  refine va_mmin hx hb (hC.2.2.1.trans hl.1.symm) hC.2.2.2.1 (hC.2.2.2.2 _ tw_283) (hC.2.2.2.2 _ tw_284) (hC.2.2.2.2 _ tw_3) (hC.2.2.2.2 _ tw_285) (by decide) (Nat.le_of_ble_eq_true rfl) (by first | exact Nat.zero_le _ | decide) (by first | exact Nat.zero_le _ | decide) dX0_toNumberOrLast_8 ?_
  obtain ⟨μ3, h4, hf⟩ := o_bind hf
  refine pw_put hC fl_X0_28 hw h4 .int fd_X0_5 rfl rfl dX0_toNumberOrLast_11 (fun H locs hw => ?_)
  obtain rfl := o_retv hf
  exact pw_vret hC hr hlocks hw dX0_toNumberOrLast_14
theorem dX0_findStarts_0 : decode cX0_findStarts 0 = .ok (.aload_n 0, 1) := by decide +kernel
theorem dX0_findStarts_1 : decode cX0_findStarts 1 = .ok (.invokevirtual 77, 3) := by decide +kernel
theorem dX0_findStarts_4 : decode cX0_findStarts 4 = .ok (.aload_n 1, 1) := by decide +kernel
theorem dX0_findStarts_5 : decode cX0_findStarts 5 = .ok (.aload_n 0, 1) := by decide +kernel
theorem dX0_findStarts_6 : decode cX0_findStarts 6 = .ok (.invokevirtual 77, 3) := by decide +kernel
theorem dX0_findStarts_9 : decode cX0_findStarts 9 = .ok (.invokevirtual 81, 3) := by decide +kernel
theorem dX0_findStarts_12 : decode cX0_findStarts 12 = .ok (.iadd, 1) := by decide +kernel
theorem dX0_findStarts_13 : decode cX0_findStarts 13 = .ok (.iconst 1, 1) := by decide +kernel
theorem dX0_findStarts_14 : decode cX0_findStarts 14 = .ok (.isub, 1) := by decide +kernel
theorem dX0_findStarts_15 : decode cX0_findStarts 15 = .ok (.istore_n 2, 1) := by decide +kernel
theorem dX0_findStarts_16 : decode cX0_findStarts 16 = .ok (.aload_n 0, 1) := by decide +kernel
theorem dX0_findStarts_17 : decode cX0_findStarts 17 = .ok (.invokevirtual 77, 3) := by decide +kernel
theorem dX0_findStarts_20 : decode cX0_findStarts 20 = .ok (.iconst 4, 1) := by decide +kernel
theorem dX0_findStarts_21 : decode cX0_findStarts 21 = .ok (.iadd, 1) := by decide +kernel
theorem dX0_findStarts_22 : decode cX0_findStarts 22 = .ok (.istore_n 3, 1) := by decide +kernel
theorem dX0_findStarts_23 : decode cX0_findStarts 23 = .ok (.aload_n 0, 1) := by decide +kernel
theorem dX0_findStarts_24 : decode cX0_findStarts 24 = .ok (.iconst 0, 1) := by decide +kernel
theorem dX0_findStarts_25 : decode cX0_findStarts 25 = .ok (.putfield 34, 3) := by decide +kernel
theorem dX0_findStarts_28 : decode cX0_findStarts 28 = .ok (.iconst 0, 1) := by decide +kernel
theorem dX0_findStarts_29 : decode cX0_findStarts 29 = .ok (.istore 4, 2) := by decide +kernel
theorem dX0_findStarts_31 : decode cX0_findStarts 31 = .ok (.iload 4, 2) := by decide +kernel
theorem dX0_findStarts_33 : decode cX0_findStarts 33 = .ok (.sipush 1200, 3) := by decide +kernel
theorem dX0_findStarts_36 : decode cX0_findStarts 36 = .ok (.if_icmp .ge 49, 3) := by decide +kernel
theorem dX0_findStarts_39 : decode cX0_findStarts 39 = .ok (.iload_n 3, 1) := by decide +kernel
theorem dX0_findStarts_40 : decode cX0_findStarts 40 = .ok (.iload_n 2, 1) := by decide +kernel
theorem dX0_findStarts_41 : decode cX0_findStarts 41 = .ok (.if_icmp .ge 44, 3) := by decide +kernel
theorem dX0_findStarts_44 : decode cX0_findStarts 44 = .ok (.aload_n 0, 1) := by decide +kernel
theorem dX0_findStarts_45 : decode cX0_findStarts 45 = .ok (.getfield 31, 3) := by decide +kernel
theorem dX0_findStarts_48 : decode cX0_findStarts 48 = .ok (.iload 4, 2) := by decide +kernel
theorem dX0_findStarts_50 : decode cX0_findStarts 50 = .ok (.iload_n 3, 1) := by decide +kernel
theorem dX0_findStarts_51 : decode cX0_findStarts 51 = .ok (.iastore, 1) := by decide +kernel
theorem dX0_findStarts_52 : decode cX0_findStarts 52 = .ok (.aload_n 0, 1) := by decide +kernel
theorem dX0_findStarts_53 : decode cX0_findStarts 53 = .ok (.dup, 1) := by decide +kernel
theorem dX0_findStarts_54 : decode cX0_findStarts 54 = .ok (.getfield 34, 3) := by decide +kernel
theorem dX0_findStarts_57 : decode cX0_findStarts 57 = .ok (.iconst 1, 1) := by decide +kernel
theorem dX0_findStarts_58 : decode cX0_findStarts 58 = .ok (.iadd, 1) := by decide +kernel
theorem dX0_findStarts_59 : decode cX0_findStarts 59 = .ok (.putfield 34, 3) := by decide +kernel
theorem dX0_findStarts_62 : decode cX0_findStarts 62 = .ok (.aload_n 1, 1) := by decide +kernel
theorem dX0_findStarts_63 : decode cX0_findStarts 63 = .ok (.aload_n 1, 1) := by decide +kernel
theorem dX0_findStarts_64 : decode cX0_findStarts 64 = .ok (.iload_n 3, 1) := by decide +kernel
theorem dX0_findStarts_65 : decode cX0_findStarts 65 = .ok (.invokevirtual 55, 3) := by decide +kernel
theorem dX0_findStarts_68 : decode cX0_findStarts 68 = .ok (.aload_n 1, 1) := by decide +kernel
theorem dX0_findStarts_69 : decode cX0_findStarts 69 = .ok (.iload_n 3, 1) := by decide +kernel
theorem dX0_findStarts_70 : decode cX0_findStarts 70 = .ok (.iconst 1, 1) := by decide +kernel
theorem dX0_findStarts_71 : decode cX0_findStarts 71 = .ok (.iadd, 1) := by decide +kernel
theorem dX0_findStarts_72 : decode cX0_findStarts 72 = .ok (.invokevirtual 70, 3) := by decide +kernel
theorem dX0_findStarts_75 : decode cX0_findStarts 75 = .ok (.invokestatic 84, 3) := by decide +kernel
theorem dX0_findStarts_78 : decode cX0_findStarts 78 = .ok (.istore_n 3, 1) := by decide +kernel
theorem dX0_findStarts_79 : decode cX0_findStarts 79 = .ok (.iinc 4 1, 3) := by decide +kernel
theorem dX0_findStarts_82 : decode cX0_findStarts 82 = .ok (.goto (-51), 3) := by decide +kernel
theorem dX0_findStarts_85 : decode cX0_findStarts 85 = .ok (.aload_n 0, 1) := by decide +kernel
theorem dX0_findStarts_86 : decode cX0_findStarts 86 = .ok (.getfield 31, 3) := by decide +kernel
theorem dX0_findStarts_89 : decode cX0_findStarts 89 = .ok (.aload_n 0, 1) := by decide +kernel
theorem dX0_findStarts_90 : decode cX0_findStarts 90 = .ok (.getfield 34, 3) := by decide +kernel
theorem dX0_findStarts_93 : decode cX0_findStarts 93 = .ok (.iload_n 2, 1) := by decide +kernel
theorem dX0_findStarts_94 : decode cX0_findStarts 94 = .ok (.iastore, 1) := by decide +kernel
theorem dX0_findStarts_95 : decode cX0_findStarts 95 = .ok (.return_, 1) := by decide +kernel
abbrev rm_X0_findStarts : Room := { frames := 3, cells := 0, slots := 0, locals := 67 }
def f_X0_findStarts_L85 (cy : Nat → ClassId) (a0 : Nat) (a2 : Int32) (μ : Mem) : Option Mem :=
  (rdR μ a0 0 6).bind fun q101 => (rdI μ a0 0 7).bind fun v103 => (wrA cy μ 1 q101 v103 a2).bind fun μ105 => some μ105
set_option maxRecDepth 100000 in
set_option maxHeartbeats 4000000 in
theorem w_X0_findStarts_L85 {p : Program} {l : Launch} {e : Env} {s : State} {m : MethodId} {args : Array Value} {below : List Frame} {meth : Method} {c : Code} {A : Nat → Prop} {g : Wg} {L : List Nat} {μ' : Mem} (hC : CX p m c cX0_findStarts 5 s args RX0) (hr : meth.sig.returnType = none) (hlocks : meth.locks = false) : ∀ (a0 : Nat) (a2 : Int32) (μ : Mem) (H : Heap) (locs : List Loc) (ls : Array Slot), lv_has ls 5 [(0, .ref a0), (2, .int a2)] → PW g L μ A s H locs → f_X0_findStarts_L85 g.2 a0 a2 μ = some μ' → W p l e rm_X0_findStarts s m args below meth c H locs 0 0 (MQ below (QV g L A μ') args s 0 0 A) (F0 m 85 ls []) := by
  have hx := hC.1
  have hb := hC.2.1
  intro a0 a2 μ H locs ls hl hw hf
  unfold f_X0_findStarts_L85 at hf
  refine lv_aload_n hx hb dX0_findStarts_85 rfl (lv_at hl 0 rfl) ?_
  obtain ⟨q101, h102, hf⟩ := o_bind hf
  refine pw_get hC fl_X0_31 hw (rdR_F h102) dX0_findStarts_86 ?_
  refine lv_aload_n hx hb dX0_findStarts_89 rfl (lv_at hl 0 rfl) ?_
  obtain ⟨v103, h104, hf⟩ := o_bind hf
  refine pw_get hC fl_X0_34 hw (rdI_F h104) dX0_findStarts_90 ?_
  refine lv_iload_n hx hb dX0_findStarts_93 rfl (lv_at hl 1 rfl) ?_
  obtain ⟨μ105, h106, hf⟩ := o_bind hf
  refine pw_iast hC hw h106 dX0_findStarts_94 (fun H locs hw => ?_)
  obtain rfl := o_retv hf
  exact pw_vret hC hr hlocks hw dX0_findStarts_95
def f_X0_findStarts_L31 (cy : Nat → ClassId) : Nat → Nat → Nat → Int32 → Int32 → Int32 → Mem → Option Mem
  | 0, _, _, _, _, _, _ => none
  | n + 1, a0, a1, a2, a3, a4, μ => if 1200 ≤ a4 then (f_X0_findStarts_L85 cy a0 a2 μ) else if a2 ≤ a3 then (f_X0_findStarts_L85 cy a0 a2 μ) else (rdR μ a0 0 6).bind fun q103 => (wrA cy μ 1 q103 a4 a3).bind fun μ105 => (rdI μ105 a0 0 7).bind fun v107 => (wrF μ105 a0 0 7 (.int (v107 + 1))).bind fun μ109 => if isO μ109 a1 4 = true then (ob2 (f_X5_at cy a1 a3 μ109) fun r114 μ113 => if isO μ113 a1 4 = true then (ob2 (f_X5_behindName cy a1 (a3 + 1) μ113) fun r118 μ117 => ob2 (f_X1_behindValue cy a1 r114 r118 μ117) fun r121 μ120 => f_X0_findStarts_L31 cy n a0 a1 a2 r121 (a4 + 1) μ120) else none) else none
set_option maxRecDepth 100000 in
set_option maxHeartbeats 4000000 in
theorem w_X0_findStarts_L31 {p : Program} {l : Launch} {e : Env} {s : State} {m : MethodId} {args : Array Value} {below : List Frame} {meth : Method} {c : Code} {A : Nat → Prop} {g : Wg} {L : List Nat} {μ' : Mem} (hC : CX p m c cX0_findStarts 5 s args RX0) (hr : meth.sig.returnType = none) (hlocks : meth.locks = false) : ∀ (n : Nat), ∀ (a0 : Nat) (a1 : Nat) (a2 : Int32) (a3 : Int32) (a4 : Int32) (μ : Mem) (H : Heap) (locs : List Loc) (ls : Array Slot), lv_has ls 5 [(0, .ref a0), (1, .ref a1), (2, .int a2), (3, .int a3), (4, .int a4)] → PW g L μ A s H locs → f_X0_findStarts_L31 g.2 n a0 a1 a2 a3 a4 μ = some μ' → W p l e rm_X0_findStarts s m args below meth c H locs 0 0 (MQ below (QV g L A μ') args s 0 0 A) (F0 m 31 ls []) := by
  have hx := hC.1
  have hb := hC.2.1
  intro n
  induction n with
  | zero => intro a0 a1 a2 a3 a4 μ H locs ls hl hw hf; cases hf
  | succ n ih =>
    intro a0 a1 a2 a3 a4 μ H locs ls hl hw hf
    rw [f_X0_findStarts_L31] at hf
    refine lv_iload hx hb dX0_findStarts_31 (lv_at hl 4 rfl) ?_
    refine lv_sipush (v := 1200) hx hb dX0_findStarts_33 nc_sipush_1200 ?_
    refine lv_icmp_ge (tgt := 85) hx hb dX0_findStarts_36 (by decide) (fun c101 => ?_) (fun c101 => ?_)
    · have hf := o_pos c101 hf
      exact w_X0_findStarts_L85 hC hr hlocks _ _ _ _ _ ls (lv_sub hl [0, 2] rfl) hw hf
    · have hf := o_neg c101 hf
      refine lv_iload_n hx hb dX0_findStarts_39 rfl (lv_at hl 3 rfl) ?_
      refine lv_iload_n hx hb dX0_findStarts_40 rfl (lv_at hl 2 rfl) ?_
      refine lv_icmp_ge (tgt := 85) hx hb dX0_findStarts_41 (by decide) (fun c102 => ?_) (fun c102 => ?_)
      · have hf := o_pos c102 hf
        exact w_X0_findStarts_L85 hC hr hlocks _ _ _ _ _ ls (lv_sub hl [0, 2] rfl) hw hf
      · have hf := o_neg c102 hf
        refine lv_aload_n hx hb dX0_findStarts_44 rfl (lv_at hl 0 rfl) ?_
        obtain ⟨q103, h104, hf⟩ := o_bind hf
        refine pw_get hC fl_X0_31 hw (rdR_F h104) dX0_findStarts_45 ?_
        refine lv_iload hx hb dX0_findStarts_48 (lv_at hl 4 rfl) ?_
        refine lv_iload_n hx hb dX0_findStarts_50 rfl (lv_at hl 3 rfl) ?_
        obtain ⟨μ105, h106, hf⟩ := o_bind hf
        refine pw_iast hC hw h106 dX0_findStarts_51 (fun H locs hw => ?_)
        refine lv_aload_n hx hb dX0_findStarts_52 rfl (lv_at hl 0 rfl) ?_
        refine lv_dup hx hb dX0_findStarts_53 rfl ?_
        obtain ⟨v107, h108, hf⟩ := o_bind hf
        refine pw_get hC fl_X0_34 hw (rdI_F h108) dX0_findStarts_54 ?_
        refine lv_iconst (v := 1) hx hb dX0_findStarts_57 nc_iconst_1 ?_
        refine lv_iadd hx hb dX0_findStarts_58 ?_
        obtain ⟨μ109, h110, hf⟩ := o_bind hf
        refine pw_put hC fl_X0_34 hw h110 .int fd_X0_7 rfl rfl dX0_findStarts_59 (fun H locs hw => ?_)
        refine lv_aload_n hx hb dX0_findStarts_62 rfl (lv_at hl 1 rfl) ?_
        refine lv_aload_n hx hb dX0_findStarts_63 rfl (lv_at hl 1 rfl) ?_
        refine lv_iload_n hx hb dX0_findStarts_64 rfl (lv_at hl 3 rfl) ?_
        obtain ⟨h112, hf⟩ := o_ite hf
        obtain ⟨r114, μ113, h111, hf⟩ := o_bind2 hf
        refine pw_goI hw (pw_runV (As := [.int a3]) (rest := [.ref a1]) hC mm_X5_at tw_262 (c_X5_at h111 _) ⟨rfl, rfl, by decide, by decide⟩ hw h112 rfl hl.1 (Nat.le_of_ble_eq_true rfl) ⟨Nat.zero_le _, Nat.zero_le _⟩ rfl dX0_findStarts_65) (fun H locs hw => ?_)
        refine lv_aload_n hx hb dX0_findStarts_68 rfl (lv_at hl 1 rfl) ?_
        refine lv_iload_n hx hb dX0_findStarts_69 rfl (lv_at hl 3 rfl) ?_
        refine lv_iconst (v := 1) hx hb dX0_findStarts_70 nc_iconst_1 ?_
        refine lv_iadd hx hb dX0_findStarts_71 ?_
        obtain ⟨h116, hf⟩ := o_ite hf
        obtain ⟨r118, μ117, h115, hf⟩ := o_bind2 hf
        refine pw_goI hw (pw_runV (As := [.int (a3 + 1)]) (rest := [.int r114, .ref a1]) hC mm_X5_behindName tw_263 (c_X5_behindName h115 _) ⟨rfl, rfl, by decide, by decide⟩ hw h116 rfl hl.1 (Nat.le_of_ble_eq_true rfl) ⟨Nat.zero_le _, Nat.zero_le _⟩ rfl dX0_findStarts_72) (fun H locs hw => ?_)
        obtain ⟨r121, μ120, h119, hf⟩ := o_bind2 hf
        refine pw_goI hw (pw_runS (As := [.ref a1, .int r114, .int r118]) (rest := []) hC mm_X1_behindValue tw_271 (c_X1_behindValue h119 _) ⟨rfl, rfl, by decide, by decide⟩ hw rfl hl.1 (Nat.le_of_ble_eq_true rfl) ⟨Nat.zero_le _, Nat.zero_le _⟩ rfl dX0_findStarts_75) (fun H locs hw => ?_)
        refine lv_istore_n (lv' := [(3, .int r121), (0, .ref a0), (1, .ref a1), (2, .int a2), (4, .int a4)]) hx hb dX0_findStarts_78 rfl hl (by decide) rfl (fun ls hl => ?_)
        refine lv_iinc (v := (a4 + 1)) (lv' := [(4, .int (a4 + 1)), (3, .int r121), (0, .ref a0), (1, .ref a1), (2, .int a2)]) hx hb dX0_findStarts_79 hl (k := 4) rfl (by first | rfl | decide +kernel) (by decide) rfl (fun ls hl => ?_)
        refine lv_goto (tgt := 31) hx hb dX0_findStarts_82 (by decide) ?_
        exact ih _ _ _ _ _ _ _ _ ls (lv_sub hl [2, 3, 4, 1, 0] rfl) hw hf
def f_X0_findStarts (cy : Nat → ClassId) (a0 : Nat) (a1 : Nat) (μ : Mem) : Option Mem :=
  if isO μ a0 0 = true then (ob2 (f_X0_document cy a0 μ) fun r4 μ3 => if isO μ3 a0 0 = true then (ob2 (f_X0_document cy a0 μ3) fun r8 μ7 => if isO μ7 a1 4 = true then (ob2 (f_X5_intAt cy a1 r8 μ7) fun r12 μ11 => if isO μ11 a0 0 = true then (ob2 (f_X0_document cy a0 μ11) fun r16 μ15 => (wrF μ15 a0 0 7 (.int 0)).bind fun μ17 => f_X0_findStarts_L31 cy FU a0 a1 ((r4 + r12) - 1) (r16 + 4) 0 μ17) else none) else none) else none) else none
set_option maxRecDepth 100000 in
set_option maxHeartbeats 4000000 in
theorem c_X0_findStarts {l : Launch} {g : Wg} {L : List Nat} {μ : Mem} {a0 : Nat} {a1 : Nat} {μ' : Mem} (hf : f_X0_findStarts g.2 a0 a1 μ = some μ') : MetV l yX0_findStarts cX0_findStarts 5 none rm_X0_findStarts g L μ [.ref a0, .ref a1] μ' := by
  refine pw_met (Qc := fun A => QV g L A μ') (by decide) (Nat.le_of_ble_eq_true rfl) ?_
  intro p e s m args below meth c A ls H locs hC hr hlocks hl hw
  have hx := hC.1
  have hb := hC.2.1
  have hl : lv_has ls 5 [(0, .ref a0), (1, .ref a1)] := hl
  unfold f_X0_findStarts at hf
  refine lv_aload_n hx hb dX0_findStarts_0 rfl (lv_at hl 0 rfl) ?_
  obtain ⟨h2, hf⟩ := o_ite hf
  obtain ⟨r4, μ3, h1, hf⟩ := o_bind2 hf
  refine pw_goI hw (pw_runV (As := []) (rest := []) hC mm_X0_document tw_250 (c_X0_document h1 _) ⟨rfl, rfl, by decide, by decide⟩ hw h2 rfl hl.1 (Nat.le_of_ble_eq_true rfl) ⟨Nat.zero_le _, Nat.zero_le _⟩ rfl dX0_findStarts_1) (fun H locs hw => ?_)
  refine lv_aload_n hx hb dX0_findStarts_4 rfl (lv_at hl 1 rfl) ?_
  refine lv_aload_n hx hb dX0_findStarts_5 rfl (lv_at hl 0 rfl) ?_
  obtain ⟨h6, hf⟩ := o_ite hf
  obtain ⟨r8, μ7, h5, hf⟩ := o_bind2 hf
  refine pw_goI hw (pw_runV (As := []) (rest := [.ref a1, .int r4]) hC mm_X0_document tw_250 (c_X0_document h5 _) ⟨rfl, rfl, by decide, by decide⟩ hw h6 rfl hl.1 (Nat.le_of_ble_eq_true rfl) ⟨Nat.zero_le _, Nat.zero_le _⟩ rfl dX0_findStarts_6) (fun H locs hw => ?_)
  obtain ⟨h10, hf⟩ := o_ite hf
  obtain ⟨r12, μ11, h9, hf⟩ := o_bind2 hf
  refine pw_goI hw (pw_runV (As := [.int r8]) (rest := [.int r4]) hC mm_X5_intAt tw_254 (c_X5_intAt h9 _) ⟨rfl, rfl, by decide, by decide⟩ hw h10 rfl hl.1 (Nat.le_of_ble_eq_true rfl) ⟨Nat.zero_le _, Nat.zero_le _⟩ rfl dX0_findStarts_9) (fun H locs hw => ?_)
  refine lv_iadd hx hb dX0_findStarts_12 ?_
  refine lv_iconst (v := 1) hx hb dX0_findStarts_13 nc_iconst_1 ?_
  refine lv_isub hx hb dX0_findStarts_14 ?_
  refine lv_istore_n (lv' := [(2, .int ((r4 + r12) - 1)), (0, .ref a0), (1, .ref a1)]) hx hb dX0_findStarts_15 rfl hl (by decide) rfl (fun ls hl => ?_)
  refine lv_aload_n hx hb dX0_findStarts_16 rfl (lv_at hl 1 rfl) ?_
  obtain ⟨h14, hf⟩ := o_ite hf
  obtain ⟨r16, μ15, h13, hf⟩ := o_bind2 hf
  refine pw_goI hw (pw_runV (As := []) (rest := []) hC mm_X0_document tw_250 (c_X0_document h13 _) ⟨rfl, rfl, by decide, by decide⟩ hw h14 rfl hl.1 (Nat.le_of_ble_eq_true rfl) ⟨Nat.zero_le _, Nat.zero_le _⟩ rfl dX0_findStarts_17) (fun H locs hw => ?_)
  refine lv_iconst (v := 4) hx hb dX0_findStarts_20 nc_iconst_4 ?_
  refine lv_iadd hx hb dX0_findStarts_21 ?_
  refine lv_istore_n (lv' := [(3, .int (r16 + 4)), (2, .int ((r4 + r12) - 1)), (0, .ref a0), (1, .ref a1)]) hx hb dX0_findStarts_22 rfl hl (by decide) rfl (fun ls hl => ?_)
  refine lv_aload_n hx hb dX0_findStarts_23 rfl (lv_at hl 2 rfl) ?_
  refine lv_iconst (v := 0) hx hb dX0_findStarts_24 nc_iconst_0 ?_
  obtain ⟨μ17, h18, hf⟩ := o_bind hf
  refine pw_put hC fl_X0_34 hw h18 .int fd_X0_7 rfl rfl dX0_findStarts_25 (fun H locs hw => ?_)
  refine lv_iconst (v := 0) hx hb dX0_findStarts_28 nc_iconst_0 ?_
  refine lv_istore (lv' := [(4, .int 0), (3, .int (r16 + 4)), (2, .int ((r4 + r12) - 1)), (0, .ref a0), (1, .ref a1)]) hx hb dX0_findStarts_29 hl (by decide) rfl (fun ls hl => ?_)
  exact w_X0_findStarts_L31 hC hr hlocks FU _ _ _ _ _ _ _ _ ls (lv_sub hl [3, 4, 2, 1, 0] rfl) hw hf
theorem dX0_toRoot_0 : decode cX0_toRoot 0 = .ok (.aload_n 0, 1) := by decide +kernel
theorem dX0_toRoot_1 : decode cX0_toRoot 1 = .ok (.iconst 0, 1) := by decide +kernel
theorem dX0_toRoot_2 : decode cX0_toRoot 2 = .ok (.putfield 24, 3) := by decide +kernel
theorem dX0_toRoot_5 : decode cX0_toRoot 5 = .ok (.aload_n 0, 1) := by decide +kernel
theorem dX0_toRoot_6 : decode cX0_toRoot 6 = .ok (.getfield 9, 3) := by decide +kernel
theorem dX0_toRoot_9 : decode cX0_toRoot 9 = .ok (.iconst 0, 1) := by decide +kernel
theorem dX0_toRoot_10 : decode cX0_toRoot 10 = .ok (.iconst 0, 1) := by decide +kernel
theorem dX0_toRoot_11 : decode cX0_toRoot 11 = .ok (.iastore, 1) := by decide +kernel
theorem dX0_toRoot_12 : decode cX0_toRoot 12 = .ok (.aload_n 0, 1) := by decide +kernel
theorem dX0_toRoot_13 : decode cX0_toRoot 13 = .ok (.getfield 15, 3) := by decide +kernel
theorem dX0_toRoot_16 : decode cX0_toRoot 16 = .ok (.iconst 0, 1) := by decide +kernel
theorem dX0_toRoot_17 : decode cX0_toRoot 17 = .ok (.iconst 0, 1) := by decide +kernel
theorem dX0_toRoot_18 : decode cX0_toRoot 18 = .ok (.iastore, 1) := by decide +kernel
theorem dX0_toRoot_19 : decode cX0_toRoot 19 = .ok (.aload_n 0, 1) := by decide +kernel
theorem dX0_toRoot_20 : decode cX0_toRoot 20 = .ok (.aload_n 1, 1) := by decide +kernel
theorem dX0_toRoot_21 : decode cX0_toRoot 21 = .ok (.invokevirtual 37, 3) := by decide +kernel
theorem dX0_toRoot_24 : decode cX0_toRoot 24 = .ok (.aload_n 0, 1) := by decide +kernel
theorem dX0_toRoot_25 : decode cX0_toRoot 25 = .ok (.iconst 0, 1) := by decide +kernel
theorem dX0_toRoot_26 : decode cX0_toRoot 26 = .ok (.invokevirtual 41, 3) := by decide +kernel
theorem dX0_toRoot_29 : decode cX0_toRoot 29 = .ok (.return_, 1) := by decide +kernel
abbrev rm_X0_toRoot : Room := { frames := 4, cells := 0, slots := 0, locals := 91 }
def f_X0_toRoot (cy : Nat → ClassId) (a0 : Nat) (a1 : Nat) (μ : Mem) : Option Mem :=
  (wrF μ a0 0 4 (.int 0)).bind fun μ1 => (rdR μ1 a0 0 0).bind fun q3 => (wrA cy μ1 1 q3 0 0).bind fun μ5 => (rdR μ5 a0 0 1).bind fun q7 => (wrA cy μ5 1 q7 0 0).bind fun μ9 => if isO μ9 a0 0 = true then ((f_X0_findStarts cy a0 a1 μ9).bind fun μ13 => if isO μ13 a0 0 = true then ((f_X0_toNumberOrLast cy a0 0 μ13).bind fun μ16 => some μ16) else none) else none
set_option maxRecDepth 100000 in
set_option maxHeartbeats 4000000 in
theorem c_X0_toRoot {l : Launch} {g : Wg} {L : List Nat} {μ : Mem} {a0 : Nat} {a1 : Nat} {μ' : Mem} (hf : f_X0_toRoot g.2 a0 a1 μ = some μ') : MetV l yX0_toRoot cX0_toRoot 2 none rm_X0_toRoot g L μ [.ref a0, .ref a1] μ' := by
  refine pw_met (Qc := fun A => QV g L A μ') (by decide) (Nat.le_of_ble_eq_true rfl) ?_
  intro p e s m args below meth c A ls H locs hC hr hlocks hl hw
  have hx := hC.1
  have hb := hC.2.1
  have hl : lv_has ls 2 [(0, .ref a0), (1, .ref a1)] := hl
  unfold f_X0_toRoot at hf
  refine lv_aload_n hx hb dX0_toRoot_0 rfl (lv_at hl 0 rfl) ?_
  refine lv_iconst (v := 0) hx hb dX0_toRoot_1 nc_iconst_0 ?_
  obtain ⟨μ1, h2, hf⟩ := o_bind hf
  refine pw_put hC fl_X0_24 hw h2 .int fd_X0_4 rfl rfl dX0_toRoot_2 (fun H locs hw => ?_)
  refine lv_aload_n hx hb dX0_toRoot_5 rfl (lv_at hl 0 rfl) ?_
  obtain ⟨q3, h4, hf⟩ := o_bind hf
  refine pw_get hC fl_X0_9 hw (rdR_F h4) dX0_toRoot_6 ?_
  refine lv_iconst (v := 0) hx hb dX0_toRoot_9 nc_iconst_0 ?_
  refine lv_iconst (v := 0) hx hb dX0_toRoot_10 nc_iconst_0 ?_
  obtain ⟨μ5, h6, hf⟩ := o_bind hf
  refine pw_iast hC hw h6 dX0_toRoot_11 (fun H locs hw => ?_)
  refine lv_aload_n hx hb dX0_toRoot_12 rfl (lv_at hl 0 rfl) ?_
  obtain ⟨q7, h8, hf⟩ := o_bind hf
  refine pw_get hC fl_X0_15 hw (rdR_F h8) dX0_toRoot_13 ?_
  refine lv_iconst (v := 0) hx hb dX0_toRoot_16 nc_iconst_0 ?_
  refine lv_iconst (v := 0) hx hb dX0_toRoot_17 nc_iconst_0 ?_
  obtain ⟨μ9, h10, hf⟩ := o_bind hf
  refine pw_iast hC hw h10 dX0_toRoot_18 (fun H locs hw => ?_)
  refine lv_aload_n hx hb dX0_toRoot_19 rfl (lv_at hl 0 rfl) ?_
  refine lv_aload_n hx hb dX0_toRoot_20 rfl (lv_at hl 1 rfl) ?_
  obtain ⟨h12, hf⟩ := o_ite hf
  obtain ⟨μ13, h11, hf⟩ := o_bind hf
  refine pw_goV hw (pw_runV (As := [.ref a1]) (rest := []) hC mm_X0_findStarts tw_246 (c_X0_findStarts h11 _) ⟨rfl, rfl, by decide, by decide⟩ hw h12 rfl hl.1 (Nat.le_of_ble_eq_true rfl) ⟨Nat.zero_le _, Nat.zero_le _⟩ rfl dX0_toRoot_21) (fun H locs hw => ?_)
  refine lv_aload_n hx hb dX0_toRoot_24 rfl (lv_at hl 0 rfl) ?_
  refine lv_iconst (v := 0) hx hb dX0_toRoot_25 nc_iconst_0 ?_
  obtain ⟨h15, hf⟩ := o_ite hf
  obtain ⟨μ16, h14, hf⟩ := o_bind hf
  refine pw_goV hw (pw_runV (As := [.int 0]) (rest := []) hC mm_X0_toNumberOrLast tw_279 (c_X0_toNumberOrLast h14 _) ⟨rfl, rfl, by decide, by decide⟩ hw h15 rfl hl.1 (Nat.le_of_ble_eq_true rfl) ⟨Nat.zero_le _, Nat.zero_le _⟩ rfl dX0_toRoot_26) (fun H locs hw => ?_)
  obtain rfl := o_retv hf
  exact pw_vret hC hr hlocks hw dX0_toRoot_29
theorem dX0_become_0 : decode cX0_become 0 = .ok (.aload_n 1, 1) := by decide +kernel
theorem dX0_become_1 : decode cX0_become 1 = .ok (.getfield 9, 3) := by decide +kernel
theorem dX0_become_4 : decode cX0_become 4 = .ok (.iconst 0, 1) := by decide +kernel
theorem dX0_become_5 : decode cX0_become 5 = .ok (.aload_n 0, 1) := by decide +kernel
theorem dX0_become_6 : decode cX0_become 6 = .ok (.getfield 9, 3) := by decide +kernel
theorem dX0_become_9 : decode cX0_become 9 = .ok (.iconst 0, 1) := by decide +kernel
theorem dX0_become_10 : decode cX0_become 10 = .ok (.bipush 24, 2) := by decide +kernel
theorem dX0_become_12 : decode cX0_become 12 = .ok (.invokestatic 45, 3) := by decide +kernel
theorem dX0_become_15 : decode cX0_become 15 = .ok (.aload_n 1, 1) := by decide +kernel
theorem dX0_become_16 : decode cX0_become 16 = .ok (.getfield 15, 3) := by decide +kernel
theorem dX0_become_19 : decode cX0_become 19 = .ok (.iconst 0, 1) := by decide +kernel
theorem dX0_become_20 : decode cX0_become 20 = .ok (.aload_n 0, 1) := by decide +kernel
theorem dX0_become_21 : decode cX0_become 21 = .ok (.getfield 15, 3) := by decide +kernel
theorem dX0_become_24 : decode cX0_become 24 = .ok (.iconst 0, 1) := by decide +kernel
theorem dX0_become_25 : decode cX0_become 25 = .ok (.bipush 24, 2) := by decide +kernel
theorem dX0_become_27 : decode cX0_become 27 = .ok (.invokestatic 45, 3) := by decide +kernel
theorem dX0_become_30 : decode cX0_become 30 = .ok (.aload_n 1, 1) := by decide +kernel
theorem dX0_become_31 : decode cX0_become 31 = .ok (.getfield 18, 3) := by decide +kernel
theorem dX0_become_34 : decode cX0_become 34 = .ok (.iconst 0, 1) := by decide +kernel
theorem dX0_become_35 : decode cX0_become 35 = .ok (.aload_n 0, 1) := by decide +kernel
theorem dX0_become_36 : decode cX0_become 36 = .ok (.getfield 18, 3) := by decide +kernel
theorem dX0_become_39 : decode cX0_become 39 = .ok (.iconst 0, 1) := by decide +kernel
theorem dX0_become_40 : decode cX0_become 40 = .ok (.bipush 24, 2) := by decide +kernel
theorem dX0_become_42 : decode cX0_become 42 = .ok (.invokestatic 45, 3) := by decide +kernel
theorem dX0_become_45 : decode cX0_become 45 = .ok (.aload_n 1, 1) := by decide +kernel
theorem dX0_become_46 : decode cX0_become 46 = .ok (.getfield 21, 3) := by decide +kernel
theorem dX0_become_49 : decode cX0_become 49 = .ok (.iconst 0, 1) := by decide +kernel
theorem dX0_become_50 : decode cX0_become 50 = .ok (.aload_n 0, 1) := by decide +kernel
theorem dX0_become_51 : decode cX0_become 51 = .ok (.getfield 21, 3) := by decide +kernel
theorem dX0_become_54 : decode cX0_become 54 = .ok (.iconst 0, 1) := by decide +kernel
theorem dX0_become_55 : decode cX0_become 55 = .ok (.bipush 24, 2) := by decide +kernel
theorem dX0_become_57 : decode cX0_become 57 = .ok (.invokestatic 45, 3) := by decide +kernel
theorem dX0_become_60 : decode cX0_become 60 = .ok (.aload_n 0, 1) := by decide +kernel
theorem dX0_become_61 : decode cX0_become 61 = .ok (.aload_n 1, 1) := by decide +kernel
theorem dX0_become_62 : decode cX0_become 62 = .ok (.getfield 24, 3) := by decide +kernel
theorem dX0_become_65 : decode cX0_become 65 = .ok (.putfield 24, 3) := by decide +kernel
theorem dX0_become_68 : decode cX0_become 68 = .ok (.aload_n 0, 1) := by decide +kernel
theorem dX0_become_69 : decode cX0_become 69 = .ok (.aload_n 1, 1) := by decide +kernel
theorem dX0_become_70 : decode cX0_become 70 = .ok (.getfield 28, 3) := by decide +kernel
theorem dX0_become_73 : decode cX0_become 73 = .ok (.putfield 28, 3) := by decide +kernel
theorem dX0_become_76 : decode cX0_become 76 = .ok (.aload_n 0, 1) := by decide +kernel
theorem dX0_become_77 : decode cX0_become 77 = .ok (.aload_n 2, 1) := by decide +kernel
theorem dX0_become_78 : decode cX0_become 78 = .ok (.invokevirtual 37, 3) := by decide +kernel
theorem dX0_become_81 : decode cX0_become 81 = .ok (.return_, 1) := by decide +kernel
abbrev rm_X0_become : Room := { frames := 4, cells := 0, slots := 0, locals := 91 }
def f_X0_become (cy : Nat → ClassId) (a0 : Nat) (a1 : Nat) (a2 : Nat) (μ : Mem) : Option Mem :=
  (rdR μ a1 0 0).bind fun q1 => (rdR μ a0 0 0).bind fun q3 => (cpA cy μ q1 0 q3 0 24).bind fun μ5 => (rdR μ5 a1 0 1).bind fun q7 => (rdR μ5 a0 0 1).bind fun q9 => (cpA cy μ5 q7 0 q9 0 24).bind fun μ11 => (rdR μ11 a1 0 2).bind fun q13 => (rdR μ11 a0 0 2).bind fun q15 => (cpA cy μ11 q13 0 q15 0 24).bind fun μ17 => (rdR μ17 a1 0 3).bind fun q19 => (rdR μ17 a0 0 3).bind fun q21 => (cpA cy μ17 q19 0 q21 0 24).bind fun μ23 => (rdI μ23 a1 0 4).bind fun v25 => (wrF μ23 a0 0 4 (.int v25)).bind fun μ27 => (rdI μ27 a1 0 5).bind fun v29 => (wrF μ27 a0 0 5 (.int v29)).bind fun μ31 => if isO μ31 a0 0 = true then ((f_X0_findStarts cy a0 a2 μ31).bind fun μ35 => some μ35) else none
set_option maxRecDepth 100000 in
set_option maxHeartbeats 4000000 in
theorem c_X0_become {l : Launch} {g : Wg} {L : List Nat} {μ : Mem} {a0 : Nat} {a1 : Nat} {a2 : Nat} {μ' : Mem} (hf : f_X0_become g.2 a0 a1 a2 μ = some μ') : MetV l yX0_become cX0_become 3 none rm_X0_become g L μ [.ref a0, .ref a1, .ref a2] μ' := by
  refine pw_met (Qc := fun A => QV g L A μ') (by decide) (Nat.le_of_ble_eq_true rfl) ?_
  intro p e s m args below meth c A ls H locs hC hr hlocks hl hw
  have hx := hC.1
  have hb := hC.2.1
  have hl : lv_has ls 3 [(0, .ref a0), (1, .ref a1), (2, .ref a2)] := hl
  unfold f_X0_become at hf
  refine lv_aload_n hx hb dX0_become_0 rfl (lv_at hl 1 rfl) ?_
  obtain ⟨q1, h2, hf⟩ := o_bind hf
  refine pw_get hC fl_X0_9 hw (rdR_F h2) dX0_become_1 ?_
  refine lv_iconst (v := 0) hx hb dX0_become_4 nc_iconst_0 ?_
  refine lv_aload_n hx hb dX0_become_5 rfl (lv_at hl 0 rfl) ?_
  obtain ⟨q3, h4, hf⟩ := o_bind hf
  refine pw_get hC fl_X0_9 hw (rdR_F h4) dX0_become_6 ?_
  refine lv_iconst (v := 0) hx hb dX0_become_9 nc_iconst_0 ?_
  refine lv_bipush (v := 24) hx hb dX0_become_10 nc_bipush_24 ?_
  obtain ⟨μ5, h6, hf⟩ := o_bind hf
  refine pw_copy hC hw ⟨tw_620, tw_241, tw_240, tw_8⟩ hl.1 h6 (by decide) (Nat.le_of_ble_eq_true rfl) dX0_become_12 (fun H locs hw => ?_)
  refine lv_aload_n hx hb dX0_become_15 rfl (lv_at hl 1 rfl) ?_
  obtain ⟨q7, h8, hf⟩ := o_bind hf
  refine pw_get hC fl_X0_15 hw (rdR_F h8) dX0_become_16 ?_
  refine lv_iconst (v := 0) hx hb dX0_become_19 nc_iconst_0 ?_
  refine lv_aload_n hx hb dX0_become_20 rfl (lv_at hl 0 rfl) ?_
  obtain ⟨q9, h10, hf⟩ := o_bind hf
  refine pw_get hC fl_X0_15 hw (rdR_F h10) dX0_become_21 ?_
  refine lv_iconst (v := 0) hx hb dX0_become_24 nc_iconst_0 ?_
  refine lv_bipush (v := 24) hx hb dX0_become_25 nc_bipush_24 ?_
  obtain ⟨μ11, h12, hf⟩ := o_bind hf
  refine pw_copy hC hw ⟨tw_620, tw_241, tw_240, tw_8⟩ hl.1 h12 (by decide) (Nat.le_of_ble_eq_true rfl) dX0_become_27 (fun H locs hw => ?_)
  refine lv_aload_n hx hb dX0_become_30 rfl (lv_at hl 1 rfl) ?_
  obtain ⟨q13, h14, hf⟩ := o_bind hf
  refine pw_get hC fl_X0_18 hw (rdR_F h14) dX0_become_31 ?_
  refine lv_iconst (v := 0) hx hb dX0_become_34 nc_iconst_0 ?_
  refine lv_aload_n hx hb dX0_become_35 rfl (lv_at hl 0 rfl) ?_
  obtain ⟨q15, h16, hf⟩ := o_bind hf
  refine pw_get hC fl_X0_18 hw (rdR_F h16) dX0_become_36 ?_
  refine lv_iconst (v := 0) hx hb dX0_become_39 nc_iconst_0 ?_
  refine lv_bipush (v := 24) hx hb dX0_become_40 nc_bipush_24 ?_
  obtain ⟨μ17, h18, hf⟩ := o_bind hf
  refine pw_copy hC hw ⟨tw_620, tw_241, tw_240, tw_8⟩ hl.1 h18 (by decide) (Nat.le_of_ble_eq_true rfl) dX0_become_42 (fun H locs hw => ?_)
  refine lv_aload_n hx hb dX0_become_45 rfl (lv_at hl 1 rfl) ?_
  obtain ⟨q19, h20, hf⟩ := o_bind hf
  refine pw_get hC fl_X0_21 hw (rdR_F h20) dX0_become_46 ?_
  refine lv_iconst (v := 0) hx hb dX0_become_49 nc_iconst_0 ?_
  refine lv_aload_n hx hb dX0_become_50 rfl (lv_at hl 0 rfl) ?_
  obtain ⟨q21, h22, hf⟩ := o_bind hf
  refine pw_get hC fl_X0_21 hw (rdR_F h22) dX0_become_51 ?_
  refine lv_iconst (v := 0) hx hb dX0_become_54 nc_iconst_0 ?_
  refine lv_bipush (v := 24) hx hb dX0_become_55 nc_bipush_24 ?_
  obtain ⟨μ23, h24, hf⟩ := o_bind hf
  refine pw_copy hC hw ⟨tw_620, tw_241, tw_240, tw_8⟩ hl.1 h24 (by decide) (Nat.le_of_ble_eq_true rfl) dX0_become_57 (fun H locs hw => ?_)
  refine lv_aload_n hx hb dX0_become_60 rfl (lv_at hl 0 rfl) ?_
  refine lv_aload_n hx hb dX0_become_61 rfl (lv_at hl 1 rfl) ?_
  obtain ⟨v25, h26, hf⟩ := o_bind hf
  refine pw_get hC fl_X0_24 hw (rdI_F h26) dX0_become_62 ?_
  obtain ⟨μ27, h28, hf⟩ := o_bind hf
  refine pw_put hC fl_X0_24 hw h28 .int fd_X0_4 rfl rfl dX0_become_65 (fun H locs hw => ?_)
  refine lv_aload_n hx hb dX0_become_68 rfl (lv_at hl 0 rfl) ?_
  refine lv_aload_n hx hb dX0_become_69 rfl (lv_at hl 1 rfl) ?_
  obtain ⟨v29, h30, hf⟩ := o_bind hf
  refine pw_get hC fl_X0_28 hw (rdI_F h30) dX0_become_70 ?_
  obtain ⟨μ31, h32, hf⟩ := o_bind hf
  refine pw_put hC fl_X0_28 hw h32 .int fd_X0_5 rfl rfl dX0_become_73 (fun H locs hw => ?_)
  refine lv_aload_n hx hb dX0_become_76 rfl (lv_at hl 0 rfl) ?_
  refine lv_aload_n hx hb dX0_become_77 rfl (lv_at hl 2 rfl) ?_
  obtain ⟨h34, hf⟩ := o_ite hf
  obtain ⟨μ35, h33, hf⟩ := o_bind hf
  refine pw_goV hw (pw_runV (As := [.ref a2]) (rest := []) hC mm_X0_findStarts tw_246 (c_X0_findStarts h33 _) ⟨rfl, rfl, by decide, by decide⟩ hw h34 rfl hl.1 (Nat.le_of_ble_eq_true rfl) ⟨Nat.zero_le _, Nat.zero_le _⟩ rfl dX0_become_78) (fun H locs hw => ?_)
  obtain rfl := o_retv hf
  exact pw_vret hC hr hlocks hw dX0_become_81
theorem dX0_stepIn_0 : decode cX0_stepIn 0 = .ok (.aload_n 0, 1) := by decide +kernel
theorem dX0_stepIn_1 : decode cX0_stepIn 1 = .ok (.aload_n 0, 1) := by decide +kernel
theorem dX0_stepIn_2 : decode cX0_stepIn 2 = .ok (.getfield 28, 3) := by decide +kernel
theorem dX0_stepIn_5 : decode cX0_stepIn 5 = .ok (.invokevirtual 51, 3) := by decide +kernel
theorem dX0_stepIn_8 : decode cX0_stepIn 8 = .ok (.istore_n 2, 1) := by decide +kernel
theorem dX0_stepIn_9 : decode cX0_stepIn 9 = .ok (.aload_n 1, 1) := by decide +kernel
theorem dX0_stepIn_10 : decode cX0_stepIn 10 = .ok (.iload_n 2, 1) := by decide +kernel
theorem dX0_stepIn_11 : decode cX0_stepIn 11 = .ok (.invokevirtual 55, 3) := by decide +kernel
theorem dX0_stepIn_14 : decode cX0_stepIn 14 = .ok (.istore_n 3, 1) := by decide +kernel
theorem dX0_stepIn_15 : decode cX0_stepIn 15 = .ok (.aload_n 0, 1) := by decide +kernel
theorem dX0_stepIn_16 : decode cX0_stepIn 16 = .ok (.invokevirtual 60, 3) := by decide +kernel
theorem dX0_stepIn_19 : decode cX0_stepIn 19 = .ok (.ifCond .eq 21, 3) := by decide +kernel
theorem dX0_stepIn_22 : decode cX0_stepIn 22 = .ok (.iload_n 3, 1) := by decide +kernel
theorem dX0_stepIn_23 : decode cX0_stepIn 23 = .ok (.invokestatic 64, 3) := by decide +kernel
theorem dX0_stepIn_26 : decode cX0_stepIn 26 = .ok (.ifCond .eq 14, 3) := by decide +kernel
theorem dX0_stepIn_29 : decode cX0_stepIn 29 = .ok (.aload_n 0, 1) := by decide +kernel
theorem dX0_stepIn_30 : decode cX0_stepIn 30 = .ok (.getfield 24, 3) := by decide +kernel
theorem dX0_stepIn_33 : decode cX0_stepIn 33 = .ok (.iconst 1, 1) := by decide +kernel
theorem dX0_stepIn_34 : decode cX0_stepIn 34 = .ok (.iadd, 1) := by decide +kernel
theorem dX0_stepIn_35 : decode cX0_stepIn 35 = .ok (.bipush 24, 2) := by decide +kernel
theorem dX0_stepIn_37 : decode cX0_stepIn 37 = .ok (.if_icmp .lt 5, 3) := by decide +kernel
theorem dX0_stepIn_40 : decode cX0_stepIn 40 = .ok (.iconst 0, 1) := by decide +kernel
theorem dX0_stepIn_41 : decode cX0_stepIn 41 = .ok (.ireturn, 1) := by decide +kernel
theorem dX0_stepIn_42 : decode cX0_stepIn 42 = .ok (.aload_n 0, 1) := by decide +kernel
theorem dX0_stepIn_43 : decode cX0_stepIn 43 = .ok (.getfield 18, 3) := by decide +kernel
theorem dX0_stepIn_46 : decode cX0_stepIn 46 = .ok (.aload_n 0, 1) := by decide +kernel
theorem dX0_stepIn_47 : decode cX0_stepIn 47 = .ok (.getfield 24, 3) := by decide +kernel
theorem dX0_stepIn_50 : decode cX0_stepIn 50 = .ok (.iload_n 2, 1) := by decide +kernel
theorem dX0_stepIn_51 : decode cX0_stepIn 51 = .ok (.iastore, 1) := by decide +kernel
theorem dX0_stepIn_52 : decode cX0_stepIn 52 = .ok (.aload_n 0, 1) := by decide +kernel
theorem dX0_stepIn_53 : decode cX0_stepIn 53 = .ok (.getfield 21, 3) := by decide +kernel
theorem dX0_stepIn_56 : decode cX0_stepIn 56 = .ok (.aload_n 0, 1) := by decide +kernel
theorem dX0_stepIn_57 : decode cX0_stepIn 57 = .ok (.getfield 24, 3) := by decide +kernel
theorem dX0_stepIn_60 : decode cX0_stepIn 60 = .ok (.aload_n 0, 1) := by decide +kernel
theorem dX0_stepIn_61 : decode cX0_stepIn 61 = .ok (.getfield 28, 3) := by decide +kernel
theorem dX0_stepIn_64 : decode cX0_stepIn 64 = .ok (.iastore, 1) := by decide +kernel
theorem dX0_stepIn_65 : decode cX0_stepIn 65 = .ok (.aload_n 0, 1) := by decide +kernel
theorem dX0_stepIn_66 : decode cX0_stepIn 66 = .ok (.dup, 1) := by decide +kernel
theorem dX0_stepIn_67 : decode cX0_stepIn 67 = .ok (.getfield 24, 3) := by decide +kernel
theorem dX0_stepIn_70 : decode cX0_stepIn 70 = .ok (.iconst 1, 1) := by decide +kernel
theorem dX0_stepIn_71 : decode cX0_stepIn 71 = .ok (.iadd, 1) := by decide +kernel
theorem dX0_stepIn_72 : decode cX0_stepIn 72 = .ok (.putfield 24, 3) := by decide +kernel
theorem dX0_stepIn_75 : decode cX0_stepIn 75 = .ok (.aload_n 0, 1) := by decide +kernel
theorem dX0_stepIn_76 : decode cX0_stepIn 76 = .ok (.getfield 9, 3) := by decide +kernel
theorem dX0_stepIn_79 : decode cX0_stepIn 79 = .ok (.aload_n 0, 1) := by decide +kernel
theorem dX0_stepIn_80 : decode cX0_stepIn 80 = .ok (.getfield 24, 3) := by decide +kernel
theorem dX0_stepIn_83 : decode cX0_stepIn 83 = .ok (.aload_n 1, 1) := by decide +kernel
theorem dX0_stepIn_84 : decode cX0_stepIn 84 = .ok (.iload_n 3, 1) := by decide +kernel
theorem dX0_stepIn_85 : decode cX0_stepIn 85 = .ok (.aload_n 1, 1) := by decide +kernel
theorem dX0_stepIn_86 : decode cX0_stepIn 86 = .ok (.iload_n 2, 1) := by decide +kernel
theorem dX0_stepIn_87 : decode cX0_stepIn 87 = .ok (.iconst 1, 1) := by decide +kernel
theorem dX0_stepIn_88 : decode cX0_stepIn 88 = .ok (.iadd, 1) := by decide +kernel
theorem dX0_stepIn_89 : decode cX0_stepIn 89 = .ok (.invokevirtual 70, 3) := by decide +kernel
theorem dX0_stepIn_92 : decode cX0_stepIn 92 = .ok (.invokestatic 73, 3) := by decide +kernel
theorem dX0_stepIn_95 : decode cX0_stepIn 95 = .ok (.iastore, 1) := by decide +kernel
theorem dX0_stepIn_96 : decode cX0_stepIn 96 = .ok (.aload_n 0, 1) := by decide +kernel
theorem dX0_stepIn_97 : decode cX0_stepIn 97 = .ok (.getfield 15, 3) := by decide +kernel
theorem dX0_stepIn_100 : decode cX0_stepIn 100 = .ok (.aload_n 0, 1) := by decide +kernel
theorem dX0_stepIn_101 : decode cX0_stepIn 101 = .ok (.getfield 24, 3) := by decide +kernel
theorem dX0_stepIn_104 : decode cX0_stepIn 104 = .ok (.iload_n 3, 1) := by decide +kernel
theorem dX0_stepIn_105 : decode cX0_stepIn 105 = .ok (.iastore, 1) := by decide +kernel
theorem dX0_stepIn_106 : decode cX0_stepIn 106 = .ok (.aload_n 0, 1) := by decide +kernel
theorem dX0_stepIn_107 : decode cX0_stepIn 107 = .ok (.aload_n 1, 1) := by decide +kernel
theorem dX0_stepIn_108 : decode cX0_stepIn 108 = .ok (.invokevirtual 37, 3) := by decide +kernel
theorem dX0_stepIn_111 : decode cX0_stepIn 111 = .ok (.aload_n 0, 1) := by decide +kernel
theorem dX0_stepIn_112 : decode cX0_stepIn 112 = .ok (.iconst 0, 1) := by decide +kernel
theorem dX0_stepIn_113 : decode cX0_stepIn 113 = .ok (.invokevirtual 41, 3) := by decide +kernel
theorem dX0_stepIn_116 : decode cX0_stepIn 116 = .ok (.iconst 1, 1) := by decide +kernel
theorem dX0_stepIn_117 : decode cX0_stepIn 117 = .ok (.ireturn, 1) := by decide +kernel
abbrev rm_X0_stepIn : Room := { frames := 4, cells := 0, slots := 0, locals := 91 }
def f_X0_stepIn_L40 (cy : Nat → ClassId)  (μ : Mem) : Option (Int32 × Mem) :=
  some (0, μ)
set_option maxRecDepth 100000 in
set_option maxHeartbeats 4000000 in
theorem w_X0_stepIn_L40 {p : Program} {l : Launch} {e : Env} {s : State} {m : MethodId} {args : Array Value} {below : List Frame} {meth : Method} {c : Code} {A : Nat → Prop} {g : Wg} {L : List Nat} {r : Int32} {μ' : Mem} (hC : CX p m c cX0_stepIn 4 s args RX0) (hr : meth.sig.returnType = (some .boolean)) (hlocks : meth.locks = false) : ∀  (μ : Mem) (H : Heap) (locs : List Loc) (ls : Array Slot), lv_has ls 4 [] → PW g L μ A s H locs → f_X0_stepIn_L40 g.2  μ = some (r, μ') → W p l e rm_X0_stepIn s m args below meth c H locs 0 0 (MQ below (QI g L A r μ') args s 0 0 A) (F0 m 40 ls []) := by
  have hx := hC.1
  have hb := hC.2.1
  intro  μ H locs ls hl hw hf
  unfold f_X0_stepIn_L40 at hf
  refine lv_iconst (v := 0) hx hb dX0_stepIn_40 nc_iconst_0 ?_
  obtain ⟨rfl, rfl⟩ := o_ret hf
  exact pw_zret hC hr hlocks (Or.inl rfl) hw dX0_stepIn_41
def f_X0_stepIn (cy : Nat → ClassId) (a0 : Nat) (a1 : Nat) (μ : Mem) : Option (Int32 × Mem) :=
  (rdI μ a0 0 5).bind fun v1 => if isO μ a0 0 = true then (ob2 (f_X0_startOf cy a0 v1 μ) fun r6 μ5 => if isO μ5 a1 4 = true then (ob2 (f_X5_at cy a1 r6 μ5) fun r10 μ9 => if isO μ9 a0 0 = true then (ob2 (f_X0_isAtElement cy a0 μ9) fun r14 μ13 => if r14 = 0 then (f_X0_stepIn_L40 cy  μ13) else ob2 (f_X1_hasDocument cy r10 μ13) fun r18 μ17 => if r18 = 0 then (f_X0_stepIn_L40 cy  μ17) else (rdI μ17 a0 0 4).bind fun v20 => if (v20 + 1) < 24 then ((rdR μ17 a0 0 2).bind fun q23 => (rdI μ17 a0 0 4).bind fun v25 => (wrA cy μ17 1 q23 v25 r6).bind fun μ27 => (rdR μ27 a0 0 3).bind fun q29 => (rdI μ27 a0 0 4).bind fun v31 => (rdI μ27 a0 0 5).bind fun v33 => (wrA cy μ27 1 q29 v31 v33).bind fun μ35 => (rdI μ35 a0 0 4).bind fun v37 => (wrF μ35 a0 0 4 (.int (v37 + 1))).bind fun μ39 => (rdR μ39 a0 0 0).bind fun q41 => (rdI μ39 a0 0 4).bind fun v43 => if isO μ39 a1 4 = true then (ob2 (f_X5_behindName cy a1 (r6 + 1) μ39) fun r48 μ47 => ob2 (f_X1_documentIn cy a1 r10 r48 μ47) fun r51 μ50 => (wrA cy μ50 1 q41 v43 r51).bind fun μ52 => (rdR μ52 a0 0 1).bind fun q54 => (rdI μ52 a0 0 4).bind fun v56 => (wrA cy μ52 1 q54 v56 r10).bind fun μ58 => if isO μ58 a0 0 = true then ((f_X0_findStarts cy a0 a1 μ58).bind fun μ62 => if isO μ62 a0 0 = true then ((f_X0_toNumberOrLast cy a0 0 μ62).bind fun μ65 => some (1, μ65)) else none) else none) else none) else f_X0_stepIn_L40 cy  μ17) else none) else none) else none
set_option maxRecDepth 100000 in
set_option maxHeartbeats 4000000 in
theorem c_X0_stepIn {l : Launch} {g : Wg} {L : List Nat} {μ : Mem} {a0 : Nat} {a1 : Nat} {r : Int32} {μ' : Mem} (hf : f_X0_stepIn g.2 a0 a1 μ = some (r, μ')) : MetI l yX0_stepIn cX0_stepIn 4 (some .boolean) rm_X0_stepIn g L μ [.ref a0, .ref a1] r μ' := by
  refine pw_met (Qc := fun A => QI g L A r μ') (by decide) (Nat.le_of_ble_eq_true rfl) ?_
  intro p e s m args below meth c A ls H locs hC hr hlocks hl hw
  have hx := hC.1
  have hb := hC.2.1
  have hl : lv_has ls 4 [(0, .ref a0), (1, .ref a1)] := hl
  unfold f_X0_stepIn at hf
  refine lv_aload_n hx hb dX0_stepIn_0 rfl (lv_at hl 0 rfl) ?_
  refine lv_aload_n hx hb dX0_stepIn_1 rfl (lv_at hl 0 rfl) ?_
  obtain ⟨v1, h2, hf⟩ := o_bind hf
  refine pw_get hC fl_X0_28 hw (rdI_F h2) dX0_stepIn_2 ?_
  obtain ⟨h4, hf⟩ := o_ite hf
  obtain ⟨r6, μ5, h3, hf⟩ := o_bind2 hf
  refine pw_goI hw (pw_runV (As := [.int v1]) (rest := []) hC mm_X0_startOf tw_599 (c_X0_startOf h3 _) ⟨rfl, rfl, by decide, by decide⟩ hw h4 rfl hl.1 (Nat.le_of_ble_eq_true rfl) ⟨Nat.zero_le _, Nat.zero_le _⟩ rfl dX0_stepIn_5) (fun H locs hw => ?_)
  refine lv_istore_n (lv' := [(2, .int r6), (0, .ref a0), (1, .ref a1)]) hx hb dX0_stepIn_8 rfl hl (by decide) rfl (fun ls hl => ?_)
  refine lv_aload_n hx hb dX0_stepIn_9 rfl (lv_at hl 2 rfl) ?_
  refine lv_iload_n hx hb dX0_stepIn_10 rfl (lv_at hl 0 rfl) ?_
  obtain ⟨h8, hf⟩ := o_ite hf
  obtain ⟨r10, μ9, h7, hf⟩ := o_bind2 hf
  refine pw_goI hw (pw_runV (As := [.int r6]) (rest := []) hC mm_X5_at tw_262 (c_X5_at h7 _) ⟨rfl, rfl, by decide, by decide⟩ hw h8 rfl hl.1 (Nat.le_of_ble_eq_true rfl) ⟨Nat.zero_le _, Nat.zero_le _⟩ rfl dX0_stepIn_11) (fun H locs hw => ?_)
  refine lv_istore_n (lv' := [(3, .int r10), (2, .int r6), (0, .ref a0), (1, .ref a1)]) hx hb dX0_stepIn_14 rfl hl (by decide) rfl (fun ls hl => ?_)
  refine lv_aload_n hx hb dX0_stepIn_15 rfl (lv_at hl 2 rfl) ?_
  obtain ⟨h12, hf⟩ := o_ite hf
  obtain ⟨r14, μ13, h11, hf⟩ := o_bind2 hf
  refine pw_goI hw (pw_runV (As := []) (rest := []) hC mm_X0_isAtElement tw_625 (c_X0_isAtElement h11 _) ⟨rfl, rfl, by decide, by decide⟩ hw h12 rfl hl.1 (Nat.le_of_ble_eq_true rfl) ⟨Nat.zero_le _, Nat.zero_le _⟩ rfl dX0_stepIn_16) (fun H locs hw => ?_)
  refine lv_if_eq (tgt := 40) hx hb dX0_stepIn_19 (by decide) (fun c15 => ?_) (fun c15 => ?_)
  · have hf := o_pos c15 hf
    exact w_X0_stepIn_L40 hC hr hlocks  _ _ _ ls (lv_sub hl [] rfl) hw hf
  · have hf := o_neg c15 hf
    refine lv_iload_n hx hb dX0_stepIn_22 rfl (lv_at hl 0 rfl) ?_
    obtain ⟨r18, μ17, h16, hf⟩ := o_bind2 hf
    refine pw_goI hw (pw_runS (As := [.int r10]) (rest := []) hC mm_X1_hasDocument tw_629 (c_X1_hasDocument h16 _) ⟨rfl, rfl, by decide, by decide⟩ hw rfl hl.1 (Nat.le_of_ble_eq_true rfl) ⟨Nat.zero_le _, Nat.zero_le _⟩ rfl dX0_stepIn_23) (fun H locs hw => ?_)
    refine lv_if_eq (tgt := 40) hx hb dX0_stepIn_26 (by decide) (fun c19 => ?_) (fun c19 => ?_)
    · have hf := o_pos c19 hf
      exact w_X0_stepIn_L40 hC hr hlocks  _ _ _ ls (lv_sub hl [] rfl) hw hf
    · have hf := o_neg c19 hf
      refine lv_aload_n hx hb dX0_stepIn_29 rfl (lv_at hl 2 rfl) ?_
      obtain ⟨v20, h21, hf⟩ := o_bind hf
      refine pw_get hC fl_X0_24 hw (rdI_F h21) dX0_stepIn_30 ?_
      refine lv_iconst (v := 1) hx hb dX0_stepIn_33 nc_iconst_1 ?_
      refine lv_iadd hx hb dX0_stepIn_34 ?_
      refine lv_bipush (v := 24) hx hb dX0_stepIn_35 nc_bipush_24 ?_
      refine lv_icmp_lt (tgt := 42) hx hb dX0_stepIn_37 (by decide) (fun c22 => ?_) (fun c22 => ?_)
      · have hf := o_pos c22 hf
        refine lv_aload_n hx hb dX0_stepIn_42 rfl (lv_at hl 2 rfl) ?_
        obtain ⟨q23, h24, hf⟩ := o_bind hf
        refine pw_get hC fl_X0_18 hw (rdR_F h24) dX0_stepIn_43 ?_
        refine lv_aload_n hx hb dX0_stepIn_46 rfl (lv_at hl 2 rfl) ?_
        obtain ⟨v25, h26, hf⟩ := o_bind hf
        refine pw_get hC fl_X0_24 hw (rdI_F h26) dX0_stepIn_47 ?_
        refine lv_iload_n hx hb dX0_stepIn_50 rfl (lv_at hl 1 rfl) ?_
        obtain ⟨μ27, h28, hf⟩ := o_bind hf
        refine pw_iast hC hw h28 dX0_stepIn_51 (fun H locs hw => ?_)
        refine lv_aload_n hx hb dX0_stepIn_52 rfl (lv_at hl 2 rfl) ?_
        obtain ⟨q29, h30, hf⟩ := o_bind hf
        refine pw_get hC fl_X0_21 hw (rdR_F h30) dX0_stepIn_53 ?_
        refine lv_aload_n hx hb dX0_stepIn_56 rfl (lv_at hl 2 rfl) ?_
        obtain ⟨v31, h32, hf⟩ := o_bind hf
        refine pw_get hC fl_X0_24 hw (rdI_F h32) dX0_stepIn_57 ?_
        refine lv_aload_n hx hb dX0_stepIn_60 rfl (lv_at hl 2 rfl) ?_
        obtain ⟨v33, h34, hf⟩ := o_bind hf
        refine pw_get hC fl_X0_28 hw (rdI_F h34) dX0_stepIn_61 ?_
        obtain ⟨μ35, h36, hf⟩ := o_bind hf
        refine pw_iast hC hw h36 dX0_stepIn_64 (fun H locs hw => ?_)
        refine lv_aload_n hx hb dX0_stepIn_65 rfl (lv_at hl 2 rfl) ?_
        refine lv_dup hx hb dX0_stepIn_66 rfl ?_
        obtain ⟨v37, h38, hf⟩ := o_bind hf
        refine pw_get hC fl_X0_24 hw (rdI_F h38) dX0_stepIn_67 ?_
        refine lv_iconst (v := 1) hx hb dX0_stepIn_70 nc_iconst_1 ?_
        refine lv_iadd hx hb dX0_stepIn_71 ?_
        obtain ⟨μ39, h40, hf⟩ := o_bind hf
        refine pw_put hC fl_X0_24 hw h40 .int fd_X0_4 rfl rfl dX0_stepIn_72 (fun H locs hw => ?_)
        refine lv_aload_n hx hb dX0_stepIn_75 rfl (lv_at hl 2 rfl) ?_
        obtain ⟨q41, h42, hf⟩ := o_bind hf
        refine pw_get hC fl_X0_9 hw (rdR_F h42) dX0_stepIn_76 ?_
        refine lv_aload_n hx hb dX0_stepIn_79 rfl (lv_at hl 2 rfl) ?_
        obtain ⟨v43, h44, hf⟩ := o_bind hf
        refine pw_get hC fl_X0_24 hw (rdI_F h44) dX0_stepIn_80 ?_
        refine lv_aload_n hx hb dX0_stepIn_83 rfl (lv_at hl 3 rfl) ?_
        refine lv_iload_n hx hb dX0_stepIn_84 rfl (lv_at hl 0 rfl) ?_
        refine lv_aload_n hx hb dX0_stepIn_85 rfl (lv_at hl 3 rfl) ?_
        refine lv_iload_n hx hb dX0_stepIn_86 rfl (lv_at hl 1 rfl) ?_
        refine lv_iconst (v := 1) hx hb dX0_stepIn_87 nc_iconst_1 ?_
        refine lv_iadd hx hb dX0_stepIn_88 ?_
        obtain ⟨h46, hf⟩ := o_ite hf
        obtain ⟨r48, μ47, h45, hf⟩ := o_bind2 hf
        refine pw_goI hw (pw_runV (As := [.int (r6 + 1)]) (rest := [.int r10, .ref a1, .int v43, .ref q41]) hC mm_X5_behindName tw_263 (c_X5_behindName h45 _) ⟨rfl, rfl, by decide, by decide⟩ hw h46 rfl hl.1 (Nat.le_of_ble_eq_true rfl) ⟨Nat.zero_le _, Nat.zero_le _⟩ rfl dX0_stepIn_89) (fun H locs hw => ?_)
        obtain ⟨r51, μ50, h49, hf⟩ := o_bind2 hf
        refine pw_goI hw (pw_runS (As := [.ref a1, .int r10, .int r48]) (rest := [.int v43, .ref q41]) hC mm_X1_documentIn tw_632 (c_X1_documentIn h49 _) ⟨rfl, rfl, by decide, by decide⟩ hw rfl hl.1 (Nat.le_of_ble_eq_true rfl) ⟨Nat.zero_le _, Nat.zero_le _⟩ rfl dX0_stepIn_92) (fun H locs hw => ?_)
        obtain ⟨μ52, h53, hf⟩ := o_bind hf
        refine pw_iast hC hw h53 dX0_stepIn_95 (fun H locs hw => ?_)
        refine lv_aload_n hx hb dX0_stepIn_96 rfl (lv_at hl 2 rfl) ?_
        obtain ⟨q54, h55, hf⟩ := o_bind hf
        refine pw_get hC fl_X0_15 hw (rdR_F h55) dX0_stepIn_97 ?_
        refine lv_aload_n hx hb dX0_stepIn_100 rfl (lv_at hl 2 rfl) ?_
        obtain ⟨v56, h57, hf⟩ := o_bind hf
        refine pw_get hC fl_X0_24 hw (rdI_F h57) dX0_stepIn_101 ?_
        refine lv_iload_n hx hb dX0_stepIn_104 rfl (lv_at hl 0 rfl) ?_
        obtain ⟨μ58, h59, hf⟩ := o_bind hf
        refine pw_iast hC hw h59 dX0_stepIn_105 (fun H locs hw => ?_)
        refine lv_aload_n hx hb dX0_stepIn_106 rfl (lv_at hl 2 rfl) ?_
        refine lv_aload_n hx hb dX0_stepIn_107 rfl (lv_at hl 3 rfl) ?_
        obtain ⟨h61, hf⟩ := o_ite hf
        obtain ⟨μ62, h60, hf⟩ := o_bind hf
        refine pw_goV hw (pw_runV (As := [.ref a1]) (rest := []) hC mm_X0_findStarts tw_246 (c_X0_findStarts h60 _) ⟨rfl, rfl, by decide, by decide⟩ hw h61 rfl hl.1 (Nat.le_of_ble_eq_true rfl) ⟨Nat.zero_le _, Nat.zero_le _⟩ rfl dX0_stepIn_108) (fun H locs hw => ?_)
        refine lv_aload_n hx hb dX0_stepIn_111 rfl (lv_at hl 2 rfl) ?_
        refine lv_iconst (v := 0) hx hb dX0_stepIn_112 nc_iconst_0 ?_
        obtain ⟨h64, hf⟩ := o_ite hf
        obtain ⟨μ65, h63, hf⟩ := o_bind hf
        refine pw_goV hw (pw_runV (As := [.int 0]) (rest := []) hC mm_X0_toNumberOrLast tw_279 (c_X0_toNumberOrLast h63 _) ⟨rfl, rfl, by decide, by decide⟩ hw h64 rfl hl.1 (Nat.le_of_ble_eq_true rfl) ⟨Nat.zero_le _, Nat.zero_le _⟩ rfl dX0_stepIn_113) (fun H locs hw => ?_)
        refine lv_iconst (v := 1) hx hb dX0_stepIn_116 nc_iconst_1 ?_
        obtain ⟨rfl, rfl⟩ := o_ret hf
        exact pw_zret hC hr hlocks (Or.inr rfl) hw dX0_stepIn_117
      · have hf := o_neg c22 hf
        exact w_X0_stepIn_L40 hC hr hlocks  _ _ _ ls (lv_sub hl [] rfl) hw hf
theorem dX0_stepOut_0 : decode cX0_stepOut 0 = .ok (.aload_n 0, 1) := by decide +kernel
theorem dX0_stepOut_1 : decode cX0_stepOut 1 = .ok (.getfield 24, 3) := by decide +kernel
theorem dX0_stepOut_4 : decode cX0_stepOut 4 = .ok (.iconst 1, 1) := by decide +kernel
theorem dX0_stepOut_5 : decode cX0_stepOut 5 = .ok (.if_icmp .ge 5, 3) := by decide +kernel
theorem dX0_stepOut_8 : decode cX0_stepOut 8 = .ok (.iconst 0, 1) := by decide +kernel
theorem dX0_stepOut_9 : decode cX0_stepOut 9 = .ok (.ireturn, 1) := by decide +kernel
theorem dX0_stepOut_10 : decode cX0_stepOut 10 = .ok (.aload_n 0, 1) := by decide +kernel
theorem dX0_stepOut_11 : decode cX0_stepOut 11 = .ok (.dup, 1) := by decide +kernel
theorem dX0_stepOut_12 : decode cX0_stepOut 12 = .ok (.getfield 24, 3) := by decide +kernel
theorem dX0_stepOut_15 : decode cX0_stepOut 15 = .ok (.iconst 1, 1) := by decide +kernel
theorem dX0_stepOut_16 : decode cX0_stepOut 16 = .ok (.isub, 1) := by decide +kernel
theorem dX0_stepOut_17 : decode cX0_stepOut 17 = .ok (.putfield 24, 3) := by decide +kernel
theorem dX0_stepOut_20 : decode cX0_stepOut 20 = .ok (.aload_n 0, 1) := by decide +kernel
theorem dX0_stepOut_21 : decode cX0_stepOut 21 = .ok (.aload_n 0, 1) := by decide +kernel
theorem dX0_stepOut_22 : decode cX0_stepOut 22 = .ok (.getfield 21, 3) := by decide +kernel
theorem dX0_stepOut_25 : decode cX0_stepOut 25 = .ok (.aload_n 0, 1) := by decide +kernel
theorem dX0_stepOut_26 : decode cX0_stepOut 26 = .ok (.getfield 24, 3) := by decide +kernel
theorem dX0_stepOut_29 : decode cX0_stepOut 29 = .ok (.iaload, 1) := by decide +kernel
theorem dX0_stepOut_30 : decode cX0_stepOut 30 = .ok (.putfield 28, 3) := by decide +kernel
theorem dX0_stepOut_33 : decode cX0_stepOut 33 = .ok (.aload_n 0, 1) := by decide +kernel
theorem dX0_stepOut_34 : decode cX0_stepOut 34 = .ok (.aload_n 1, 1) := by decide +kernel
theorem dX0_stepOut_35 : decode cX0_stepOut 35 = .ok (.invokevirtual 37, 3) := by decide +kernel
theorem dX0_stepOut_38 : decode cX0_stepOut 38 = .ok (.iconst 1, 1) := by decide +kernel
theorem dX0_stepOut_39 : decode cX0_stepOut 39 = .ok (.ireturn, 1) := by decide +kernel
abbrev rm_X0_stepOut : Room := { frames := 4, cells := 0, slots := 0, locals := 91 }
def f_X0_stepOut (cy : Nat → ClassId) (a0 : Nat) (a1 : Nat) (μ : Mem) : Option (Int32 × Mem) :=
  (rdI μ a0 0 4).bind fun v1 => if 1 ≤ v1 then ((rdI μ a0 0 4).bind fun v4 => (wrF μ a0 0 4 (.int (v4 - 1))).bind fun μ6 => (rdR μ6 a0 0 3).bind fun q8 => (rdI μ6 a0 0 4).bind fun v10 => (rdA cy μ6 1 q8 v10).bind fun v12 => (wrF μ6 a0 0 5 (.int v12)).bind fun μ14 => if isO μ14 a0 0 = true then ((f_X0_findStarts cy a0 a1 μ14).bind fun μ18 => some (1, μ18)) else none) else some (0, μ)
set_option maxRecDepth 100000 in
set_option maxHeartbeats 4000000 in
theorem c_X0_stepOut {l : Launch} {g : Wg} {L : List Nat} {μ : Mem} {a0 : Nat} {a1 : Nat} {r : Int32} {μ' : Mem} (hf : f_X0_stepOut g.2 a0 a1 μ = some (r, μ')) : MetI l yX0_stepOut cX0_stepOut 2 (some .boolean) rm_X0_stepOut g L μ [.ref a0, .ref a1] r μ' := by
  refine pw_met (Qc := fun A => QI g L A r μ') (by decide) (Nat.le_of_ble_eq_true rfl) ?_
  intro p e s m args below meth c A ls H locs hC hr hlocks hl hw
  have hx := hC.1
  have hb := hC.2.1
  have hl : lv_has ls 2 [(0, .ref a0), (1, .ref a1)] := hl
  unfold f_X0_stepOut at hf
  refine lv_aload_n hx hb dX0_stepOut_0 rfl (lv_at hl 0 rfl) ?_
  obtain ⟨v1, h2, hf⟩ := o_bind hf
  refine pw_get hC fl_X0_24 hw (rdI_F h2) dX0_stepOut_1 ?_
  refine lv_iconst (v := 1) hx hb dX0_stepOut_4 nc_iconst_1 ?_
  refine lv_icmp_ge (tgt := 10) hx hb dX0_stepOut_5 (by decide) (fun c3 => ?_) (fun c3 => ?_)
  · have hf := o_pos c3 hf
    refine lv_aload_n hx hb dX0_stepOut_10 rfl (lv_at hl 0 rfl) ?_
    refine lv_dup hx hb dX0_stepOut_11 rfl ?_
    obtain ⟨v4, h5, hf⟩ := o_bind hf
    refine pw_get hC fl_X0_24 hw (rdI_F h5) dX0_stepOut_12 ?_
    refine lv_iconst (v := 1) hx hb dX0_stepOut_15 nc_iconst_1 ?_
    refine lv_isub hx hb dX0_stepOut_16 ?_
    obtain ⟨μ6, h7, hf⟩ := o_bind hf
    refine pw_put hC fl_X0_24 hw h7 .int fd_X0_4 rfl rfl dX0_stepOut_17 (fun H locs hw => ?_)
    refine lv_aload_n hx hb dX0_stepOut_20 rfl (lv_at hl 0 rfl) ?_
    refine lv_aload_n hx hb dX0_stepOut_21 rfl (lv_at hl 0 rfl) ?_
    obtain ⟨q8, h9, hf⟩ := o_bind hf
    refine pw_get hC fl_X0_21 hw (rdR_F h9) dX0_stepOut_22 ?_
    refine lv_aload_n hx hb dX0_stepOut_25 rfl (lv_at hl 0 rfl) ?_
    obtain ⟨v10, h11, hf⟩ := o_bind hf
    refine pw_get hC fl_X0_24 hw (rdI_F h11) dX0_stepOut_26 ?_
    obtain ⟨v12, h13, hf⟩ := o_bind hf
    refine pw_iald hC hw h13 dX0_stepOut_29 ?_
    obtain ⟨μ14, h15, hf⟩ := o_bind hf
    refine pw_put hC fl_X0_28 hw h15 .int fd_X0_5 rfl rfl dX0_stepOut_30 (fun H locs hw => ?_)
    refine lv_aload_n hx hb dX0_stepOut_33 rfl (lv_at hl 0 rfl) ?_
    refine lv_aload_n hx hb dX0_stepOut_34 rfl (lv_at hl 1 rfl) ?_
    obtain ⟨h17, hf⟩ := o_ite hf
    obtain ⟨μ18, h16, hf⟩ := o_bind hf
    refine pw_goV hw (pw_runV (As := [.ref a1]) (rest := []) hC mm_X0_findStarts tw_246 (c_X0_findStarts h16 _) ⟨rfl, rfl, by decide, by decide⟩ hw h17 rfl hl.1 (Nat.le_of_ble_eq_true rfl) ⟨Nat.zero_le _, Nat.zero_le _⟩ rfl dX0_stepOut_35) (fun H locs hw => ?_)
    refine lv_iconst (v := 1) hx hb dX0_stepOut_38 nc_iconst_1 ?_
    obtain ⟨rfl, rfl⟩ := o_ret hf
    exact pw_zret hC hr hlocks (Or.inr rfl) hw dX0_stepOut_39
  · have hf := o_neg c3 hf
    refine lv_iconst (v := 0) hx hb dX0_stepOut_8 nc_iconst_0 ?_
    obtain ⟨rfl, rfl⟩ := o_ret hf
    exact pw_zret hC hr hlocks (Or.inl rfl) hw dX0_stepOut_9
theorem dX0_numberOfName_0 : decode cX0_numberOfName 0 = .ok (.iconst 0, 1) := by decide +kernel
theorem dX0_numberOfName_1 : decode cX0_numberOfName 1 = .ok (.istore 5, 2) := by decide +kernel
theorem dX0_numberOfName_3 : decode cX0_numberOfName 3 = .ok (.iload 5, 2) := by decide +kernel
theorem dX0_numberOfName_5 : decode cX0_numberOfName 5 = .ok (.aload_n 0, 1) := by decide +kernel
theorem dX0_numberOfName_6 : decode cX0_numberOfName 6 = .ok (.getfield 34, 3) := by decide +kernel
theorem dX0_numberOfName_9 : decode cX0_numberOfName 9 = .ok (.if_icmp .ge 57, 3) := by decide +kernel
theorem dX0_numberOfName_12 : decode cX0_numberOfName 12 = .ok (.aload_n 0, 1) := by decide +kernel
theorem dX0_numberOfName_13 : decode cX0_numberOfName 13 = .ok (.iload 5, 2) := by decide +kernel
theorem dX0_numberOfName_15 : decode cX0_numberOfName 15 = .ok (.invokevirtual 51, 3) := by decide +kernel
theorem dX0_numberOfName_18 : decode cX0_numberOfName 18 = .ok (.iconst 1, 1) := by decide +kernel
theorem dX0_numberOfName_19 : decode cX0_numberOfName 19 = .ok (.iadd, 1) := by decide +kernel
theorem dX0_numberOfName_20 : decode cX0_numberOfName 20 = .ok (.istore 6, 2) := by decide +kernel
theorem dX0_numberOfName_22 : decode cX0_numberOfName 22 = .ok (.aload_n 1, 1) := by decide +kernel
theorem dX0_numberOfName_23 : decode cX0_numberOfName 23 = .ok (.iload 6, 2) := by decide +kernel
theorem dX0_numberOfName_25 : decode cX0_numberOfName 25 = .ok (.invokevirtual 70, 3) := by decide +kernel
theorem dX0_numberOfName_28 : decode cX0_numberOfName 28 = .ok (.iconst 1, 1) := by decide +kernel
theorem dX0_numberOfName_29 : decode cX0_numberOfName 29 = .ok (.isub, 1) := by decide +kernel
theorem dX0_numberOfName_30 : decode cX0_numberOfName 30 = .ok (.iload 6, 2) := by decide +kernel
theorem dX0_numberOfName_32 : decode cX0_numberOfName 32 = .ok (.isub, 1) := by decide +kernel
theorem dX0_numberOfName_33 : decode cX0_numberOfName 33 = .ok (.istore 7, 2) := by decide +kernel
theorem dX0_numberOfName_35 : decode cX0_numberOfName 35 = .ok (.iload 7, 2) := by decide +kernel
theorem dX0_numberOfName_37 : decode cX0_numberOfName 37 = .ok (.iload 4, 2) := by decide +kernel
theorem dX0_numberOfName_39 : decode cX0_numberOfName 39 = .ok (.iload_n 3, 1) := by decide +kernel
theorem dX0_numberOfName_40 : decode cX0_numberOfName 40 = .ok (.isub, 1) := by decide +kernel
theorem dX0_numberOfName_41 : decode cX0_numberOfName 41 = .ok (.if_icmp .ne 19, 3) := by decide +kernel
theorem dX0_numberOfName_44 : decode cX0_numberOfName 44 = .ok (.aload_n 1, 1) := by decide +kernel
theorem dX0_numberOfName_45 : decode cX0_numberOfName 45 = .ok (.iload 6, 2) := by decide +kernel
theorem dX0_numberOfName_47 : decode cX0_numberOfName 47 = .ok (.aload_n 2, 1) := by decide +kernel
theorem dX0_numberOfName_48 : decode cX0_numberOfName 48 = .ok (.iload_n 3, 1) := by decide +kernel
theorem dX0_numberOfName_49 : decode cX0_numberOfName 49 = .ok (.iload 7, 2) := by decide +kernel
theorem dX0_numberOfName_51 : decode cX0_numberOfName 51 = .ok (.invokevirtual 96, 3) := by decide +kernel
theorem dX0_numberOfName_54 : decode cX0_numberOfName 54 = .ok (.ifCond .eq 6, 3) := by decide +kernel
theorem dX0_numberOfName_57 : decode cX0_numberOfName 57 = .ok (.iload 5, 2) := by decide +kernel
theorem dX0_numberOfName_59 : decode cX0_numberOfName 59 = .ok (.ireturn, 1) := by decide +kernel
theorem dX0_numberOfName_60 : decode cX0_numberOfName 60 = .ok (.iinc 5 1, 3) := by decide +kernel
theorem dX0_numberOfName_63 : decode cX0_numberOfName 63 = .ok (.goto (-60), 3) := by decide +kernel
theorem dX0_numberOfName_66 : decode cX0_numberOfName 66 = .ok (.iconst (-1), 1) := by decide +kernel
theorem dX0_numberOfName_67 : decode cX0_numberOfName 67 = .ok (.ireturn, 1) := by decide +kernel
abbrev rm_X0_numberOfName : Room := { frames := 2, cells := 0, slots := 0, locals := 46 }
def f_X0_numberOfName_L60 (cy : Nat → ClassId) (k3 : Nat → Nat → Nat → Int32 → Int32 → Int32 → Mem → Option (Int32 × Mem)) (a0 : Nat) (a1 : Nat) (a2 : Nat) (a3 : Int32) (a4 : Int32) (a5 : Int32) (μ : Mem) : Option (Int32 × Mem) :=
  k3 a0 a1 a2 a3 a4 (a5 + 1) μ
set_option maxRecDepth 100000 in
set_option maxHeartbeats 4000000 in
theorem w_X0_numberOfName_L60 {p : Program} {l : Launch} {e : Env} {s : State} {m : MethodId} {args : Array Value} {below : List Frame} {meth : Method} {c : Code} {A : Nat → Prop} {g : Wg} {L : List Nat} {r : Int32} {μ' : Mem} (hC : CX p m c cX0_numberOfName 8 s args RX0) (hr : meth.sig.returnType = (some .int)) (hlocks : meth.locks = false) {k3 : Nat → Nat → Nat → Int32 → Int32 → Int32 → Mem → Option (Int32 × Mem)} (hk3 : ∀ (a0 : Nat) (a1 : Nat) (a2 : Nat) (a3 : Int32) (a4 : Int32) (a5 : Int32) (μ : Mem) (H : Heap) (locs : List Loc) (ls : Array Slot), lv_has ls 8 [(0, .ref a0), (1, .ref a1), (2, .ref a2), (3, .int a3), (4, .int a4), (5, .int a5)] → PW g L μ A s H locs → k3 a0 a1 a2 a3 a4 a5 μ = some (r, μ') → W p l e rm_X0_numberOfName s m args below meth c H locs 0 0 (MQ below (QI g L A r μ') args s 0 0 A) (F0 m 3 ls [])) : ∀ (a0 : Nat) (a1 : Nat) (a2 : Nat) (a3 : Int32) (a4 : Int32) (a5 : Int32) (μ : Mem) (H : Heap) (locs : List Loc) (ls : Array Slot), lv_has ls 8 [(0, .ref a0), (1, .ref a1), (2, .ref a2), (3, .int a3), (4, .int a4), (5, .int a5)] → PW g L μ A s H locs → f_X0_numberOfName_L60 g.2 k3 a0 a1 a2 a3 a4 a5 μ = some (r, μ') → W p l e rm_X0_numberOfName s m args below meth c H locs 0 0 (MQ below (QI g L A r μ') args s 0 0 A) (F0 m 60 ls []) := by
  have hx := hC.1
  have hb := hC.2.1
  intro a0 a1 a2 a3 a4 a5 μ H locs ls hl hw hf
  unfold f_X0_numberOfName_L60 at hf
  refine lv_iinc (v := (a5 + 1)) (lv' := [(5, .int (a5 + 1)), (0, .ref a0), (1, .ref a1), (2, .ref a2), (3, .int a3), (4, .int a4)]) hx hb dX0_numberOfName_60 hl (k := 5) rfl (by first | rfl | decide +kernel) (by decide) rfl (fun ls hl => ?_)
  refine lv_goto (tgt := 3) hx hb dX0_numberOfName_63 (by decide) ?_
  exact hk3 _ _ _ _ _ _ _ _ _ ls (lv_sub hl [1, 2, 3, 4, 5, 0] rfl) hw hf
def f_X0_numberOfName_L3 (cy : Nat → ClassId) : Nat → Nat → Nat → Nat → Int32 → Int32 → Int32 → Mem → Option (Int32 × Mem)
  | 0, _, _, _, _, _, _, _ => none
  | n + 1, a0, a1, a2, a3, a4, a5, μ => (rdI μ a0 0 7).bind fun v101 => if v101 ≤ a5 then (some ((-1), μ)) else if isO μ a0 0 = true then (ob2 (f_X0_startOf cy a0 a5 μ) fun r107 μ106 => if isO μ106 a1 4 = true then (ob2 (f_X5_behindName cy a1 (r107 + 1) μ106) fun r111 μ110 => if ((r111 - 1) - (r107 + 1)) = (a4 - a3) then (if isO μ110 a1 4 = true then (ob2 (f_X5_hasSame cy a1 (r107 + 1) a2 a3 ((r111 - 1) - (r107 + 1)) μ110) fun r116 μ115 => if r116 = 0 then (f_X0_numberOfName_L60 cy (f_X0_numberOfName_L3 cy n) a0 a1 a2 a3 a4 a5 μ115) else some (a5, μ115)) else none) else f_X0_numberOfName_L60 cy (f_X0_numberOfName_L3 cy n) a0 a1 a2 a3 a4 a5 μ110) else none) else none
set_option maxRecDepth 100000 in
set_option maxHeartbeats 4000000 in
theorem w_X0_numberOfName_L3 {p : Program} {l : Launch} {e : Env} {s : State} {m : MethodId} {args : Array Value} {below : List Frame} {meth : Method} {c : Code} {A : Nat → Prop} {g : Wg} {L : List Nat} {r : Int32} {μ' : Mem} (hC : CX p m c cX0_numberOfName 8 s args RX0) (hr : meth.sig.returnType = (some .int)) (hlocks : meth.locks = false) : ∀ (n : Nat), ∀ (a0 : Nat) (a1 : Nat) (a2 : Nat) (a3 : Int32) (a4 : Int32) (a5 : Int32) (μ : Mem) (H : Heap) (locs : List Loc) (ls : Array Slot), lv_has ls 8 [(0, .ref a0), (1, .ref a1), (2, .ref a2), (3, .int a3), (4, .int a4), (5, .int a5)] → PW g L μ A s H locs → f_X0_numberOfName_L3 g.2 n a0 a1 a2 a3 a4 a5 μ = some (r, μ') → W p l e rm_X0_numberOfName s m args below meth c H locs 0 0 (MQ below (QI g L A r μ') args s 0 0 A) (F0 m 3 ls []) := by
  have hx := hC.1
  have hb := hC.2.1
  intro n
  induction n with
  | zero => intro a0 a1 a2 a3 a4 a5 μ H locs ls hl hw hf; cases hf
  | succ n ih =>
    intro a0 a1 a2 a3 a4 a5 μ H locs ls hl hw hf
    rw [f_X0_numberOfName_L3] at hf
    refine lv_iload hx hb dX0_numberOfName_3 (lv_at hl 5 rfl) ?_
    refine lv_aload_n hx hb dX0_numberOfName_5 rfl (lv_at hl 0 rfl) ?_
    obtain ⟨v101, h102, hf⟩ := o_bind hf
    refine pw_get hC fl_X0_34 hw (rdI_F h102) dX0_numberOfName_6 ?_
    refine lv_icmp_ge (tgt := 66) hx hb dX0_numberOfName_9 (by decide) (fun c103 => ?_) (fun c103 => ?_)
    · have hf := o_pos c103 hf
      refine lv_iconst (v := (-1)) hx hb dX0_numberOfName_66 nc_iconst_m1 ?_
      obtain ⟨rfl, rfl⟩ := o_ret hf
      exact pw_iret hC hr hlocks hw dX0_numberOfName_67
    · have hf := o_neg c103 hf
      refine lv_aload_n hx hb dX0_numberOfName_12 rfl (lv_at hl 0 rfl) ?_
      refine lv_iload hx hb dX0_numberOfName_13 (lv_at hl 5 rfl) ?_
      obtain ⟨h105, hf⟩ := o_ite hf
      obtain ⟨r107, μ106, h104, hf⟩ := o_bind2 hf
      refine pw_goI hw (pw_runV (As := [.int a5]) (rest := []) hC mm_X0_startOf tw_599 (c_X0_startOf h104 _) ⟨rfl, rfl, by decide, by decide⟩ hw h105 rfl hl.1 (Nat.le_of_ble_eq_true rfl) ⟨Nat.zero_le _, Nat.zero_le _⟩ rfl dX0_numberOfName_15) (fun H locs hw => ?_)
      refine lv_iconst (v := 1) hx hb dX0_numberOfName_18 nc_iconst_1 ?_
      refine lv_iadd hx hb dX0_numberOfName_19 ?_
      refine lv_istore (lv' := [(6, .int (r107 + 1)), (0, .ref a0), (1, .ref a1), (2, .ref a2), (3, .int a3), (4, .int a4), (5, .int a5)]) hx hb dX0_numberOfName_20 hl (by decide) rfl (fun ls hl => ?_)
      refine lv_aload_n hx hb dX0_numberOfName_22 rfl (lv_at hl 2 rfl) ?_
      refine lv_iload hx hb dX0_numberOfName_23 (lv_at hl 0 rfl) ?_
      obtain ⟨h109, hf⟩ := o_ite hf
      obtain ⟨r111, μ110, h108, hf⟩ := o_bind2 hf
      refine pw_goI hw (pw_runV (As := [.int (r107 + 1)]) (rest := []) hC mm_X5_behindName tw_263 (c_X5_behindName h108 _) ⟨rfl, rfl, by decide, by decide⟩ hw h109 rfl hl.1 (Nat.le_of_ble_eq_true rfl) ⟨Nat.zero_le _, Nat.zero_le _⟩ rfl dX0_numberOfName_25) (fun H locs hw => ?_)
      refine lv_iconst (v := 1) hx hb dX0_numberOfName_28 nc_iconst_1 ?_
      refine lv_isub hx hb dX0_numberOfName_29 ?_
      refine lv_iload hx hb dX0_numberOfName_30 (lv_at hl 0 rfl) ?_
      refine lv_isub hx hb dX0_numberOfName_32 ?_
      refine lv_istore (lv' := [(7, .int ((r111 - 1) - (r107 + 1))), (6, .int (r107 + 1)), (0, .ref a0), (1, .ref a1), (2, .ref a2), (3, .int a3), (4, .int a4), (5, .int a5)]) hx hb dX0_numberOfName_33 hl (by decide) rfl (fun ls hl => ?_)
      refine lv_iload hx hb dX0_numberOfName_35 (lv_at hl 0 rfl) ?_
      refine lv_iload hx hb dX0_numberOfName_37 (lv_at hl 6 rfl) ?_
      refine lv_iload_n hx hb dX0_numberOfName_39 rfl (lv_at hl 5 rfl) ?_
      refine lv_isub hx hb dX0_numberOfName_40 ?_
      refine lv_icmp_ne (tgt := 60) hx hb dX0_numberOfName_41 (by decide) (fun c112 => ?_) (fun c112 => ?_)
      · have hf := o_neg c112 hf
        exact w_X0_numberOfName_L60 hC hr hlocks ih _ _ _ _ _ _ _ _ _ ls (lv_sub hl [2, 3, 4, 5, 6, 7] rfl) hw hf
      · have hf := o_pos c112 hf
        refine lv_aload_n hx hb dX0_numberOfName_44 rfl (lv_at hl 3 rfl) ?_
        refine lv_iload hx hb dX0_numberOfName_45 (lv_at hl 1 rfl) ?_
        refine lv_aload_n hx hb dX0_numberOfName_47 rfl (lv_at hl 4 rfl) ?_
        refine lv_iload_n hx hb dX0_numberOfName_48 rfl (lv_at hl 5 rfl) ?_
        refine lv_iload hx hb dX0_numberOfName_49 (lv_at hl 0 rfl) ?_
        obtain ⟨h114, hf⟩ := o_ite hf
        obtain ⟨r116, μ115, h113, hf⟩ := o_bind2 hf
        refine pw_goI hw (pw_runV (As := [.int (r107 + 1), .ref a2, .int a3, .int ((r111 - 1) - (r107 + 1))]) (rest := []) hC mm_X5_hasSame tw_603 (c_X5_hasSame h113 _) ⟨rfl, rfl, by decide, by decide⟩ hw h114 rfl hl.1 (Nat.le_of_ble_eq_true rfl) ⟨Nat.zero_le _, Nat.zero_le _⟩ rfl dX0_numberOfName_51) (fun H locs hw => ?_)
        refine lv_if_eq (tgt := 60) hx hb dX0_numberOfName_54 (by decide) (fun c117 => ?_) (fun c117 => ?_)
        · have hf := o_pos c117 hf
          exact w_X0_numberOfName_L60 hC hr hlocks ih _ _ _ _ _ _ _ _ _ ls (lv_sub hl [2, 3, 4, 5, 6, 7] rfl) hw hf
        · have hf := o_neg c117 hf
          refine lv_iload hx hb dX0_numberOfName_57 (lv_at hl 7 rfl) ?_
          obtain ⟨rfl, rfl⟩ := o_ret hf
          exact pw_iret hC hr hlocks hw dX0_numberOfName_59
def f_X0_numberOfName (cy : Nat → ClassId) (a0 : Nat) (a1 : Nat) (a2 : Nat) (a3 : Int32) (a4 : Int32) (μ : Mem) : Option (Int32 × Mem) :=
  f_X0_numberOfName_L3 cy FU a0 a1 a2 a3 a4 0 μ
set_option maxRecDepth 100000 in
set_option maxHeartbeats 4000000 in
theorem c_X0_numberOfName {l : Launch} {g : Wg} {L : List Nat} {μ : Mem} {a0 : Nat} {a1 : Nat} {a2 : Nat} {a3 : Int32} {a4 : Int32} {r : Int32} {μ' : Mem} (hf : f_X0_numberOfName g.2 a0 a1 a2 a3 a4 μ = some (r, μ')) : MetI l yX0_numberOfName cX0_numberOfName 8 (some .int) rm_X0_numberOfName g L μ [.ref a0, .ref a1, .ref a2, .int a3, .int a4] r μ' := by
  refine pw_met (Qc := fun A => QI g L A r μ') (by decide) (Nat.le_of_ble_eq_true rfl) ?_
  intro p e s m args below meth c A ls H locs hC hr hlocks hl hw
  have hx := hC.1
  have hb := hC.2.1
  have hl : lv_has ls 8 [(0, .ref a0), (1, .ref a1), (2, .ref a2), (3, .int a3), (4, .int a4)] := hl
  unfold f_X0_numberOfName at hf
  refine lv_iconst (v := 0) hx hb dX0_numberOfName_0 nc_iconst_0 ?_
  refine lv_istore (lv' := [(5, .int 0), (0, .ref a0), (1, .ref a1), (2, .ref a2), (3, .int a3), (4, .int a4)]) hx hb dX0_numberOfName_1 hl (by decide) rfl (fun ls hl => ?_)
  exact w_X0_numberOfName_L3 hC hr hlocks FU _ _ _ _ _ _ _ _ _ ls (lv_sub hl [1, 2, 3, 4, 5, 0] rfl) hw hf
theorem dX0_lengthen_0 : decode cX0_lengthen 0 = .ok (.iconst 0, 1) := by decide +kernel
theorem dX0_lengthen_1 : decode cX0_lengthen 1 = .ok (.istore_n 3, 1) := by decide +kernel
theorem dX0_lengthen_2 : decode cX0_lengthen 2 = .ok (.iconst 0, 1) := by decide +kernel
theorem dX0_lengthen_3 : decode cX0_lengthen 3 = .ok (.istore 4, 2) := by decide +kernel
theorem dX0_lengthen_5 : decode cX0_lengthen 5 = .ok (.iload 4, 2) := by decide +kernel
theorem dX0_lengthen_7 : decode cX0_lengthen 7 = .ok (.aload_n 0, 1) := by decide +kernel
theorem dX0_lengthen_8 : decode cX0_lengthen 8 = .ok (.getfield 24, 3) := by decide +kernel
theorem dX0_lengthen_11 : decode cX0_lengthen 11 = .ok (.if_icmp .gt 86, 3) := by decide +kernel
theorem dX0_lengthen_14 : decode cX0_lengthen 14 = .ok (.aload_n 0, 1) := by decide +kernel
theorem dX0_lengthen_15 : decode cX0_lengthen 15 = .ok (.getfield 9, 3) := by decide +kernel
theorem dX0_lengthen_18 : decode cX0_lengthen 18 = .ok (.iload 4, 2) := by decide +kernel
theorem dX0_lengthen_20 : decode cX0_lengthen 20 = .ok (.iaload, 1) := by decide +kernel
theorem dX0_lengthen_21 : decode cX0_lengthen 21 = .ok (.istore 5, 2) := by decide +kernel
theorem dX0_lengthen_23 : decode cX0_lengthen 23 = .ok (.aload_n 1, 1) := by decide +kernel
theorem dX0_lengthen_24 : decode cX0_lengthen 24 = .ok (.iload 5, 2) := by decide +kernel
theorem dX0_lengthen_26 : decode cX0_lengthen 26 = .ok (.aload_n 1, 1) := by decide +kernel
theorem dX0_lengthen_27 : decode cX0_lengthen 27 = .ok (.iload 5, 2) := by decide +kernel
theorem dX0_lengthen_29 : decode cX0_lengthen 29 = .ok (.invokevirtual 81, 3) := by decide +kernel
theorem dX0_lengthen_32 : decode cX0_lengthen 32 = .ok (.iload_n 2, 1) := by decide +kernel
theorem dX0_lengthen_33 : decode cX0_lengthen 33 = .ok (.iadd, 1) := by decide +kernel
theorem dX0_lengthen_34 : decode cX0_lengthen 34 = .ok (.invokevirtual 100, 3) := by decide +kernel
theorem dX0_lengthen_37 : decode cX0_lengthen 37 = .ok (.iinc 3 1, 3) := by decide +kernel
theorem dX0_lengthen_40 : decode cX0_lengthen 40 = .ok (.iload 4, 2) := by decide +kernel
theorem dX0_lengthen_42 : decode cX0_lengthen 42 = .ok (.ifCond .le 49, 3) := by decide +kernel
theorem dX0_lengthen_45 : decode cX0_lengthen 45 = .ok (.aload_n 0, 1) := by decide +kernel
theorem dX0_lengthen_46 : decode cX0_lengthen 46 = .ok (.getfield 15, 3) := by decide +kernel
theorem dX0_lengthen_49 : decode cX0_lengthen 49 = .ok (.iload 4, 2) := by decide +kernel
theorem dX0_lengthen_51 : decode cX0_lengthen 51 = .ok (.iaload, 1) := by decide +kernel
theorem dX0_lengthen_52 : decode cX0_lengthen 52 = .ok (.bipush 15, 2) := by decide +kernel
theorem dX0_lengthen_54 : decode cX0_lengthen 54 = .ok (.if_icmp .ne 37, 3) := by decide +kernel
theorem dX0_lengthen_57 : decode cX0_lengthen 57 = .ok (.aload_n 1, 1) := by decide +kernel
theorem dX0_lengthen_58 : decode cX0_lengthen 58 = .ok (.aload_n 0, 1) := by decide +kernel
theorem dX0_lengthen_59 : decode cX0_lengthen 59 = .ok (.getfield 18, 3) := by decide +kernel
theorem dX0_lengthen_62 : decode cX0_lengthen 62 = .ok (.iload 4, 2) := by decide +kernel
theorem dX0_lengthen_64 : decode cX0_lengthen 64 = .ok (.iconst 1, 1) := by decide +kernel
theorem dX0_lengthen_65 : decode cX0_lengthen 65 = .ok (.isub, 1) := by decide +kernel
theorem dX0_lengthen_66 : decode cX0_lengthen 66 = .ok (.iaload, 1) := by decide +kernel
theorem dX0_lengthen_67 : decode cX0_lengthen 67 = .ok (.iconst 1, 1) := by decide +kernel
theorem dX0_lengthen_68 : decode cX0_lengthen 68 = .ok (.iadd, 1) := by decide +kernel
theorem dX0_lengthen_69 : decode cX0_lengthen 69 = .ok (.invokevirtual 70, 3) := by decide +kernel
theorem dX0_lengthen_72 : decode cX0_lengthen 72 = .ok (.istore 5, 2) := by decide +kernel
theorem dX0_lengthen_74 : decode cX0_lengthen 74 = .ok (.aload_n 1, 1) := by decide +kernel
theorem dX0_lengthen_75 : decode cX0_lengthen 75 = .ok (.iload 5, 2) := by decide +kernel
theorem dX0_lengthen_77 : decode cX0_lengthen 77 = .ok (.aload_n 1, 1) := by decide +kernel
theorem dX0_lengthen_78 : decode cX0_lengthen 78 = .ok (.iload 5, 2) := by decide +kernel
theorem dX0_lengthen_80 : decode cX0_lengthen 80 = .ok (.invokevirtual 81, 3) := by decide +kernel
theorem dX0_lengthen_83 : decode cX0_lengthen 83 = .ok (.iload_n 2, 1) := by decide +kernel
theorem dX0_lengthen_84 : decode cX0_lengthen 84 = .ok (.iadd, 1) := by decide +kernel
theorem dX0_lengthen_85 : decode cX0_lengthen 85 = .ok (.invokevirtual 100, 3) := by decide +kernel
theorem dX0_lengthen_88 : decode cX0_lengthen 88 = .ok (.iinc 3 1, 3) := by decide +kernel
theorem dX0_lengthen_91 : decode cX0_lengthen 91 = .ok (.iinc 4 1, 3) := by decide +kernel
theorem dX0_lengthen_94 : decode cX0_lengthen 94 = .ok (.goto (-89), 3) := by decide +kernel
theorem dX0_lengthen_97 : decode cX0_lengthen 97 = .ok (.iload_n 3, 1) := by decide +kernel
theorem dX0_lengthen_98 : decode cX0_lengthen 98 = .ok (.ireturn, 1) := by decide +kernel
abbrev rm_X0_lengthen : Room := { frames := 2, cells := 0, slots := 0, locals := 45 }
def f_X0_lengthen_L91 (cy : Nat → ClassId) (k5 : Nat → Nat → Int32 → Int32 → Int32 → Mem → Option (Int32 × Mem)) (a0 : Nat) (a1 : Nat) (a2 : Int32) (a3 : Int32) (a4 : Int32) (μ : Mem) : Option (Int32 × Mem) :=
  k5 a0 a1 a2 a3 (a4 + 1) μ
set_option maxRecDepth 100000 in
set_option maxHeartbeats 4000000 in
theorem w_X0_lengthen_L91 {p : Program} {l : Launch} {e : Env} {s : State} {m : MethodId} {args : Array Value} {below : List Frame} {meth : Method} {c : Code} {A : Nat → Prop} {g : Wg} {L : List Nat} {r : Int32} {μ' : Mem} (hC : CX p m c cX0_lengthen 6 s args RX0) (hr : meth.sig.returnType = (some .int)) (hlocks : meth.locks = false) {k5 : Nat → Nat → Int32 → Int32 → Int32 → Mem → Option (Int32 × Mem)} (hk5 : ∀ (a0 : Nat) (a1 : Nat) (a2 : Int32) (a3 : Int32) (a4 : Int32) (μ : Mem) (H : Heap) (locs : List Loc) (ls : Array Slot), lv_has ls 6 [(0, .ref a0), (1, .ref a1), (2, .int a2), (3, .int a3), (4, .int a4)] → PW g L μ A s H locs → k5 a0 a1 a2 a3 a4 μ = some (r, μ') → W p l e rm_X0_lengthen s m args below meth c H locs 0 0 (MQ below (QI g L A r μ') args s 0 0 A) (F0 m 5 ls [])) : ∀ (a0 : Nat) (a1 : Nat) (a2 : Int32) (a3 : Int32) (a4 : Int32) (μ : Mem) (H : Heap) (locs : List Loc) (ls : Array Slot), lv_has ls 6 [(0, .ref a0), (1, .ref a1), (2, .int a2), (3, .int a3), (4, .int a4)] → PW g L μ A s H locs → f_X0_lengthen_L91 g.2 k5 a0 a1 a2 a3 a4 μ = some (r, μ') → W p l e rm_X0_lengthen s m args below meth c H locs 0 0 (MQ below (QI g L A r μ') args s 0 0 A) (F0 m 91 ls []) := by
  have hx := hC.1
  have hb := hC.2.1
  intro a0 a1 a2 a3 a4 μ H locs ls hl hw hf
  unfold f_X0_lengthen_L91 at hf
  refine lv_iinc (v := (a4 + 1)) (lv' := [(4, .int (a4 + 1)), (0, .ref a0), (1, .ref a1), (2, .int a2), (3, .int a3)]) hx hb dX0_lengthen_91 hl (k := 4) rfl (by first | rfl | decide +kernel) (by decide) rfl (fun ls hl => ?_)
  refine lv_goto (tgt := 5) hx hb dX0_lengthen_94 (by decide) ?_
  exact hk5 _ _ _ _ _ _ _ _ ls (lv_sub hl [1, 2, 3, 4, 0] rfl) hw hf
def f_X0_lengthen_L5 (cy : Nat → ClassId) : Nat → Nat → Nat → Int32 → Int32 → Int32 → Mem → Option (Int32 × Mem)
  | 0, _, _, _, _, _, _ => none
  | n + 1, a0, a1, a2, a3, a4, μ => (rdI μ a0 0 4).bind fun v101 => if v101 < a4 then (some (a3, μ)) else (rdR μ a0 0 0).bind fun q104 => (rdA cy μ 1 q104 a4).bind fun v106 => if isO μ a1 4 = true then (ob2 (f_X5_intAt cy a1 v106 μ) fun r111 μ110 => if isO μ110 a1 4 = true then ((f_X5_putInt cy a1 v106 (r111 + a2) μ110).bind fun μ114 => if a4 ≤ 0 then (f_X0_lengthen_L91 cy (f_X0_lengthen_L5 cy n) a0 a1 a2 (a3 + 1) a4 μ114) else (rdR μ114 a0 0 1).bind fun q116 => (rdA cy μ114 1 q116 a4).bind fun v118 => if v118 = 15 then ((rdR μ114 a0 0 2).bind fun q121 => (rdA cy μ114 1 q121 (a4 - 1)).bind fun v123 => if isO μ114 a1 4 = true then (ob2 (f_X5_behindName cy a1 (v123 + 1) μ114) fun r128 μ127 => if isO μ127 a1 4 = true then (ob2 (f_X5_intAt cy a1 r128 μ127) fun r132 μ131 => if isO μ131 a1 4 = true then ((f_X5_putInt cy a1 r128 (r132 + a2) μ131).bind fun μ135 => f_X0_lengthen_L91 cy (f_X0_lengthen_L5 cy n) a0 a1 a2 ((a3 + 1) + 1) a4 μ135) else none) else none) else none) else f_X0_lengthen_L91 cy (f_X0_lengthen_L5 cy n) a0 a1 a2 (a3 + 1) a4 μ114) else none) else none
set_option maxRecDepth 100000 in
set_option maxHeartbeats 4000000 in
theorem w_X0_lengthen_L5 {p : Program} {l : Launch} {e : Env} {s : State} {m : MethodId} {args : Array Value} {below : List Frame} {meth : Method} {c : Code} {A : Nat → Prop} {g : Wg} {L : List Nat} {r : Int32} {μ' : Mem} (hC : CX p m c cX0_lengthen 6 s args RX0) (hr : meth.sig.returnType = (some .int)) (hlocks : meth.locks = false) : ∀ (n : Nat), ∀ (a0 : Nat) (a1 : Nat) (a2 : Int32) (a3 : Int32) (a4 : Int32) (μ : Mem) (H : Heap) (locs : List Loc) (ls : Array Slot), lv_has ls 6 [(0, .ref a0), (1, .ref a1), (2, .int a2), (3, .int a3), (4, .int a4)] → PW g L μ A s H locs → f_X0_lengthen_L5 g.2 n a0 a1 a2 a3 a4 μ = some (r, μ') → W p l e rm_X0_lengthen s m args below meth c H locs 0 0 (MQ below (QI g L A r μ') args s 0 0 A) (F0 m 5 ls []) := by
  have hx := hC.1
  have hb := hC.2.1
  intro n
  induction n with
  | zero => intro a0 a1 a2 a3 a4 μ H locs ls hl hw hf; cases hf
  | succ n ih =>
    intro a0 a1 a2 a3 a4 μ H locs ls hl hw hf
    rw [f_X0_lengthen_L5] at hf
    refine lv_iload hx hb dX0_lengthen_5 (lv_at hl 4 rfl) ?_
    refine lv_aload_n hx hb dX0_lengthen_7 rfl (lv_at hl 0 rfl) ?_
    obtain ⟨v101, h102, hf⟩ := o_bind hf
    refine pw_get hC fl_X0_24 hw (rdI_F h102) dX0_lengthen_8 ?_
    refine lv_icmp_gt (tgt := 97) hx hb dX0_lengthen_11 (by decide) (fun c103 => ?_) (fun c103 => ?_)
    · have hf := o_pos c103 hf
      refine lv_iload_n hx hb dX0_lengthen_97 rfl (lv_at hl 3 rfl) ?_
      obtain ⟨rfl, rfl⟩ := o_ret hf
      exact pw_iret hC hr hlocks hw dX0_lengthen_98
    · have hf := o_neg c103 hf
      refine lv_aload_n hx hb dX0_lengthen_14 rfl (lv_at hl 0 rfl) ?_
      obtain ⟨q104, h105, hf⟩ := o_bind hf
      refine pw_get hC fl_X0_9 hw (rdR_F h105) dX0_lengthen_15 ?_
      refine lv_iload hx hb dX0_lengthen_18 (lv_at hl 4 rfl) ?_
      obtain ⟨v106, h107, hf⟩ := o_bind hf
      refine pw_iald hC hw h107 dX0_lengthen_20 ?_
      refine lv_istore (lv' := [(5, .int v106), (0, .ref a0), (1, .ref a1), (2, .int a2), (3, .int a3), (4, .int a4)]) hx hb dX0_lengthen_21 hl (by decide) rfl (fun ls hl => ?_)
      refine lv_aload_n hx hb dX0_lengthen_23 rfl (lv_at hl 2 rfl) ?_
      refine lv_iload hx hb dX0_lengthen_24 (lv_at hl 0 rfl) ?_
      refine lv_aload_n hx hb dX0_lengthen_26 rfl (lv_at hl 2 rfl) ?_
      refine lv_iload hx hb dX0_lengthen_27 (lv_at hl 0 rfl) ?_
      obtain ⟨h109, hf⟩ := o_ite hf
      obtain ⟨r111, μ110, h108, hf⟩ := o_bind2 hf
      refine pw_goI hw (pw_runV (As := [.int v106]) (rest := [.int v106, .ref a1]) hC mm_X5_intAt tw_254 (c_X5_intAt h108 _) ⟨rfl, rfl, by decide, by decide⟩ hw h109 rfl hl.1 (Nat.le_of_ble_eq_true rfl) ⟨Nat.zero_le _, Nat.zero_le _⟩ rfl dX0_lengthen_29) (fun H locs hw => ?_)
      refine lv_iload_n hx hb dX0_lengthen_32 rfl (lv_at hl 3 rfl) ?_
      refine lv_iadd hx hb dX0_lengthen_33 ?_
      obtain ⟨h113, hf⟩ := o_ite hf
      obtain ⟨μ114, h112, hf⟩ := o_bind hf
      refine pw_goV hw (pw_runV (As := [.int v106, .int (r111 + a2)]) (rest := []) hC mm_X5_putInt tw_834 (c_X5_putInt h112 _) ⟨rfl, rfl, by decide, by decide⟩ hw h113 rfl hl.1 (Nat.le_of_ble_eq_true rfl) ⟨Nat.zero_le _, Nat.zero_le _⟩ rfl dX0_lengthen_34) (fun H locs hw => ?_)
      refine lv_iinc (v := (a3 + 1)) (lv' := [(3, .int (a3 + 1)), (5, .int v106), (0, .ref a0), (1, .ref a1), (2, .int a2), (4, .int a4)]) hx hb dX0_lengthen_37 hl (k := 4) rfl (by first | rfl | decide +kernel) (by decide) rfl (fun ls hl => ?_)
      refine lv_iload hx hb dX0_lengthen_40 (lv_at hl 5 rfl) ?_
      refine lv_if_le (tgt := 91) hx hb dX0_lengthen_42 (by decide) (fun c115 => ?_) (fun c115 => ?_)
      · have hf := o_pos c115 hf
        exact w_X0_lengthen_L91 hC hr hlocks ih _ _ _ _ _ _ _ _ ls (lv_sub hl [2, 3, 4, 0, 5] rfl) hw hf
      · have hf := o_neg c115 hf
        refine lv_aload_n hx hb dX0_lengthen_45 rfl (lv_at hl 2 rfl) ?_
        obtain ⟨q116, h117, hf⟩ := o_bind hf
        refine pw_get hC fl_X0_15 hw (rdR_F h117) dX0_lengthen_46 ?_
        refine lv_iload hx hb dX0_lengthen_49 (lv_at hl 5 rfl) ?_
        obtain ⟨v118, h119, hf⟩ := o_bind hf
        refine pw_iald hC hw h119 dX0_lengthen_51 ?_
        refine lv_bipush (v := 15) hx hb dX0_lengthen_52 nc_bipush_15 ?_
        refine lv_icmp_ne (tgt := 91) hx hb dX0_lengthen_54 (by decide) (fun c120 => ?_) (fun c120 => ?_)
        · have hf := o_neg c120 hf
          exact w_X0_lengthen_L91 hC hr hlocks ih _ _ _ _ _ _ _ _ ls (lv_sub hl [2, 3, 4, 0, 5] rfl) hw hf
        · have hf := o_pos c120 hf
          refine lv_aload_n hx hb dX0_lengthen_57 rfl (lv_at hl 3 rfl) ?_
          refine lv_aload_n hx hb dX0_lengthen_58 rfl (lv_at hl 2 rfl) ?_
          obtain ⟨q121, h122, hf⟩ := o_bind hf
          refine pw_get hC fl_X0_18 hw (rdR_F h122) dX0_lengthen_59 ?_
          refine lv_iload hx hb dX0_lengthen_62 (lv_at hl 5 rfl) ?_
          refine lv_iconst (v := 1) hx hb dX0_lengthen_64 nc_iconst_1 ?_
          refine lv_isub hx hb dX0_lengthen_65 ?_
          obtain ⟨v123, h124, hf⟩ := o_bind hf
          refine pw_iald hC hw h124 dX0_lengthen_66 ?_
          refine lv_iconst (v := 1) hx hb dX0_lengthen_67 nc_iconst_1 ?_
          refine lv_iadd hx hb dX0_lengthen_68 ?_
          obtain ⟨h126, hf⟩ := o_ite hf
          obtain ⟨r128, μ127, h125, hf⟩ := o_bind2 hf
          refine pw_goI hw (pw_runV (As := [.int (v123 + 1)]) (rest := []) hC mm_X5_behindName tw_263 (c_X5_behindName h125 _) ⟨rfl, rfl, by decide, by decide⟩ hw h126 rfl hl.1 (Nat.le_of_ble_eq_true rfl) ⟨Nat.zero_le _, Nat.zero_le _⟩ rfl dX0_lengthen_69) (fun H locs hw => ?_)
          refine lv_istore (lv' := [(5, .int r128), (3, .int (a3 + 1)), (0, .ref a0), (1, .ref a1), (2, .int a2), (4, .int a4)]) hx hb dX0_lengthen_72 hl (by decide) rfl (fun ls hl => ?_)
          refine lv_aload_n hx hb dX0_lengthen_74 rfl (lv_at hl 3 rfl) ?_
          refine lv_iload hx hb dX0_lengthen_75 (lv_at hl 0 rfl) ?_
          refine lv_aload_n hx hb dX0_lengthen_77 rfl (lv_at hl 3 rfl) ?_
          refine lv_iload hx hb dX0_lengthen_78 (lv_at hl 0 rfl) ?_
          obtain ⟨h130, hf⟩ := o_ite hf
          obtain ⟨r132, μ131, h129, hf⟩ := o_bind2 hf
          refine pw_goI hw (pw_runV (As := [.int r128]) (rest := [.int r128, .ref a1]) hC mm_X5_intAt tw_254 (c_X5_intAt h129 _) ⟨rfl, rfl, by decide, by decide⟩ hw h130 rfl hl.1 (Nat.le_of_ble_eq_true rfl) ⟨Nat.zero_le _, Nat.zero_le _⟩ rfl dX0_lengthen_80) (fun H locs hw => ?_)
          refine lv_iload_n hx hb dX0_lengthen_83 rfl (lv_at hl 4 rfl) ?_
          refine lv_iadd hx hb dX0_lengthen_84 ?_
          obtain ⟨h134, hf⟩ := o_ite hf
          obtain ⟨μ135, h133, hf⟩ := o_bind hf
          refine pw_goV hw (pw_runV (As := [.int r128, .int (r132 + a2)]) (rest := []) hC mm_X5_putInt tw_834 (c_X5_putInt h133 _) ⟨rfl, rfl, by decide, by decide⟩ hw h134 rfl hl.1 (Nat.le_of_ble_eq_true rfl) ⟨Nat.zero_le _, Nat.zero_le _⟩ rfl dX0_lengthen_85) (fun H locs hw => ?_)
          refine lv_iinc (v := ((a3 + 1) + 1)) (lv' := [(3, .int ((a3 + 1) + 1)), (5, .int r128), (0, .ref a0), (1, .ref a1), (2, .int a2), (4, .int a4)]) hx hb dX0_lengthen_88 hl (k := 1) rfl (by first | rfl | decide +kernel) (by decide) rfl (fun ls hl => ?_)
          exact w_X0_lengthen_L91 hC hr hlocks ih _ _ _ _ _ _ _ _ ls (lv_sub hl [2, 3, 4, 0, 5] rfl) hw hf
def f_X0_lengthen (cy : Nat → ClassId) (a0 : Nat) (a1 : Nat) (a2 : Int32) (μ : Mem) : Option (Int32 × Mem) :=
  f_X0_lengthen_L5 cy FU a0 a1 a2 0 0 μ
set_option maxRecDepth 100000 in
set_option maxHeartbeats 4000000 in
theorem c_X0_lengthen {l : Launch} {g : Wg} {L : List Nat} {μ : Mem} {a0 : Nat} {a1 : Nat} {a2 : Int32} {r : Int32} {μ' : Mem} (hf : f_X0_lengthen g.2 a0 a1 a2 μ = some (r, μ')) : MetI l yX0_lengthen cX0_lengthen 6 (some .int) rm_X0_lengthen g L μ [.ref a0, .ref a1, .int a2] r μ' := by
  refine pw_met (Qc := fun A => QI g L A r μ') (by decide) (Nat.le_of_ble_eq_true rfl) ?_
  intro p e s m args below meth c A ls H locs hC hr hlocks hl hw
  have hx := hC.1
  have hb := hC.2.1
  have hl : lv_has ls 6 [(0, .ref a0), (1, .ref a1), (2, .int a2)] := hl
  unfold f_X0_lengthen at hf
  refine lv_iconst (v := 0) hx hb dX0_lengthen_0 nc_iconst_0 ?_
  refine lv_istore_n (lv' := [(3, .int 0), (0, .ref a0), (1, .ref a1), (2, .int a2)]) hx hb dX0_lengthen_1 rfl hl (by decide) rfl (fun ls hl => ?_)
  refine lv_iconst (v := 0) hx hb dX0_lengthen_2 nc_iconst_0 ?_
  refine lv_istore (lv' := [(4, .int 0), (3, .int 0), (0, .ref a0), (1, .ref a1), (2, .int a2)]) hx hb dX0_lengthen_3 hl (by decide) rfl (fun ls hl => ?_)
  exact w_X0_lengthen_L5 hC hr hlocks FU _ _ _ _ _ _ _ _ ls (lv_sub hl [2, 3, 4, 1, 0] rfl) hw hf
