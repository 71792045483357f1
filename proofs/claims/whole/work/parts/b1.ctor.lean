/-! CONSTRUCTORS, written by wip/whole/gen2.py -/
theorem mnw0 : "[" ++ (FieldType.array .byte).toString = "[[B" := by decide +kernel
theorem mnw1 : "[" ++ (FieldType.array .int).toString = "[[I" := by decide +kernel
theorem mx0 (a1 : Int32) : ¬ (if a1 < 0 then (0 : Int32) else a1) < 0 := by
  split
  · decide
  · assumption
theorem nc_bipush_25 : (Int8.ofInt 25).toInt32 = 25 := by decide +kernel
theorem nc_sipush_1201 : (Int16.ofInt 1201).toInt32 = 1201 := by decide +kernel
theorem nc_sipush_1301 : (Int16.ofInt 1301).toInt32 = 1301 := by decide +kernel
theorem nc_sipush_2002 : (Int16.ofInt 2002).toInt32 = 2002 := by decide +kernel
theorem nc_sipush_2416 : (Int16.ofInt 2416).toInt32 = 2416 := by decide +kernel
theorem nc_sipush_12000 : (Int16.ofInt 12000).toInt32 = 12000 := by decide +kernel
theorem tw_25 : (Jvm.Cond.methodLink "SpanShelves" (1 : Nat) ({ cls := "java/lang/Object", name := "<init>", desc := "()V" } : Jvm.MethodName)) ∈ tw := tw_t 25 (by decide +kernel) (by decide +kernel)
theorem tw_26 : (Jvm.Cond.instanceMethod ({ cls := "java/lang/Object", name := "<init>", desc := "()V" } : Jvm.MethodName)) ∈ tw := tw_t 26 (by decide +kernel) (by decide +kernel)
theorem tw_27 : (Jvm.Cond.code ({ cls := "java/lang/Object", name := "<init>", desc := "()V" } : Jvm.MethodName) object_method_1_code (1 : Nat) (Option.none : Option Jvm.ClassFile.FieldType)) ∈ tw := tw_t 27 (by decide +kernel) (by decide +kernel)
theorem tw_28 : (Jvm.Cond.classLink "SpanShelves" (7 : Nat) "SpanShelves$Span") ∈ tw := tw_t 28 (by decide +kernel) (by decide +kernel)
theorem tw_29 : (Jvm.Cond.instantiable "SpanShelves$Span" (3 : Nat)) ∈ tw := tw_t 29 (by decide +kernel) (by decide +kernel)
theorem tw_30 : (Jvm.Cond.methodLink "SpanShelves" (11 : Nat) ({ cls := "SpanShelves$Span", name := "<init>", desc := "(I)V" } : Jvm.MethodName)) ∈ tw := tw_t 30 (by decide +kernel) (by decide +kernel)
theorem tw_31 : (Jvm.Cond.instanceMethod ({ cls := "SpanShelves$Span", name := "<init>", desc := "(I)V" } : Jvm.MethodName)) ∈ tw := tw_t 31 (by decide +kernel) (by decide +kernel)
theorem tw_32 : (Jvm.Cond.code ({ cls := "SpanShelves$Span", name := "<init>", desc := "(I)V" } : Jvm.MethodName) prog_7_method_1_code (2 : Nat) (Option.none : Option Jvm.ClassFile.FieldType)) ∈ tw := tw_t 32 (by decide +kernel) (by decide +kernel)
theorem tw_33 : (Jvm.Cond.methodLink "SpanShelves$Span" (3 : Nat) ({ cls := "java/lang/Object", name := "<init>", desc := "()V" } : Jvm.MethodName)) ∈ tw := tw_t 33 (by decide +kernel) (by decide +kernel)
theorem tw_34 : (Jvm.Cond.methodLink "SpanShelves$Span" (19 : Nat) ({ cls := "java/lang/Math", name := "max", desc := "(II)I" } : Jvm.MethodName)) ∈ tw := tw_t 34 (by decide +kernel) (by decide +kernel)
theorem tw_53 : (Jvm.Cond.classLink "SpanShelves" (24 : Nat) "SpanShelves$Reader") ∈ tw := tw_t 53 (by decide +kernel) (by decide +kernel)
theorem tw_54 : (Jvm.Cond.instantiable "SpanShelves$Reader" (12 : Nat)) ∈ tw := tw_t 54 (by decide +kernel) (by decide +kernel)
theorem tw_55 : (Jvm.Cond.methodLinkNest "SpanShelves" (26 : Nat) ({ cls := "SpanShelves$Reader", name := "<init>", desc := "()V" } : Jvm.MethodName) "SpanShelves") ∈ tw := tw_t 55 (by decide +kernel) (by decide +kernel)
theorem tw_56 : (Jvm.Cond.instanceMethod ({ cls := "SpanShelves$Reader", name := "<init>", desc := "()V" } : Jvm.MethodName)) ∈ tw := tw_t 56 (by decide +kernel) (by decide +kernel)
theorem tw_57 : (Jvm.Cond.code ({ cls := "SpanShelves$Reader", name := "<init>", desc := "()V" } : Jvm.MethodName) prog_4_method_1_code (1 : Nat) (Option.none : Option Jvm.ClassFile.FieldType)) ∈ tw := tw_t 57 (by decide +kernel) (by decide +kernel)
theorem tw_58 : (Jvm.Cond.methodLink "SpanShelves$Reader" (3 : Nat) ({ cls := "java/lang/Object", name := "<init>", desc := "()V" } : Jvm.MethodName)) ∈ tw := tw_t 58 (by decide +kernel) (by decide +kernel)
theorem tw_59 : (Jvm.Cond.classLink "SpanShelves$Reader" (9 : Nat) "SpanShelves$Span") ∈ tw := tw_t 59 (by decide +kernel) (by decide +kernel)
theorem tw_60 : (Jvm.Cond.methodLink "SpanShelves$Reader" (11 : Nat) ({ cls := "SpanShelves$Span", name := "<init>", desc := "(I)V" } : Jvm.MethodName)) ∈ tw := tw_t 60 (by decide +kernel) (by decide +kernel)
theorem tw_108 : (Jvm.Cond.classLink "SpanShelves" (31 : Nat) "SpanShelves$Shelf") ∈ tw := tw_t 108 (by decide +kernel) (by decide +kernel)
theorem tw_110 : (Jvm.Cond.classLink "SpanShelves" (37 : Nat) "SpanShelves$Cursor") ∈ tw := tw_t 110 (by decide +kernel) (by decide +kernel)
theorem tw_111 : (Jvm.Cond.instantiable "SpanShelves$Cursor" (8 : Nat)) ∈ tw := tw_t 111 (by decide +kernel) (by decide +kernel)
theorem tw_112 : (Jvm.Cond.methodLinkNest "SpanShelves" (39 : Nat) ({ cls := "SpanShelves$Cursor", name := "<init>", desc := "()V" } : Jvm.MethodName) "SpanShelves") ∈ tw := tw_t 112 (by decide +kernel) (by decide +kernel)
theorem tw_113 : (Jvm.Cond.instanceMethod ({ cls := "SpanShelves$Cursor", name := "<init>", desc := "()V" } : Jvm.MethodName)) ∈ tw := tw_t 113 (by decide +kernel) (by decide +kernel)
theorem tw_114 : (Jvm.Cond.code ({ cls := "SpanShelves$Cursor", name := "<init>", desc := "()V" } : Jvm.MethodName) prog_2_method_1_code (1 : Nat) (Option.none : Option Jvm.ClassFile.FieldType)) ∈ tw := tw_t 114 (by decide +kernel) (by decide +kernel)
theorem tw_115 : (Jvm.Cond.methodLink "SpanShelves$Cursor" (3 : Nat) ({ cls := "java/lang/Object", name := "<init>", desc := "()V" } : Jvm.MethodName)) ∈ tw := tw_t 115 (by decide +kernel) (by decide +kernel)
theorem tw_145 : (Jvm.Cond.classLink "SpanShelves" (44 : Nat) "SpanShelves$Sheet") ∈ tw := tw_t 145 (by decide +kernel) (by decide +kernel)
theorem tw_146 : (Jvm.Cond.instantiable "SpanShelves$Sheet" (7 : Nat)) ∈ tw := tw_t 146 (by decide +kernel) (by decide +kernel)
theorem tw_147 : (Jvm.Cond.methodLinkNest "SpanShelves" (46 : Nat) ({ cls := "SpanShelves$Sheet", name := "<init>", desc := "()V" } : Jvm.MethodName) "SpanShelves") ∈ tw := tw_t 147 (by decide +kernel) (by decide +kernel)
theorem tw_148 : (Jvm.Cond.instanceMethod ({ cls := "SpanShelves$Sheet", name := "<init>", desc := "()V" } : Jvm.MethodName)) ∈ tw := tw_t 148 (by decide +kernel) (by decide +kernel)
theorem tw_149 : (Jvm.Cond.code ({ cls := "SpanShelves$Sheet", name := "<init>", desc := "()V" } : Jvm.MethodName) prog_5_method_1_code (1 : Nat) (Option.none : Option Jvm.ClassFile.FieldType)) ∈ tw := tw_t 149 (by decide +kernel) (by decide +kernel)
theorem tw_150 : (Jvm.Cond.methodLink "SpanShelves$Sheet" (3 : Nat) ({ cls := "java/lang/Object", name := "<init>", desc := "()V" } : Jvm.MethodName)) ∈ tw := tw_t 150 (by decide +kernel) (by decide +kernel)
theorem tw_151 : (Jvm.Cond.classLink "SpanShelves$Sheet" (9 : Nat) "SpanShelves$Span") ∈ tw := tw_t 151 (by decide +kernel) (by decide +kernel)
theorem tw_152 : (Jvm.Cond.methodLink "SpanShelves$Sheet" (11 : Nat) ({ cls := "SpanShelves$Span", name := "<init>", desc := "(I)V" } : Jvm.MethodName)) ∈ tw := tw_t 152 (by decide +kernel) (by decide +kernel)
theorem tw_178 : (Jvm.Cond.constantLong "SpanShelves" (61 : Nat) (5 : Int64)) ∈ tw := tw_t 178 (by decide +kernel) (by decide +kernel)
theorem tw_187 : (Jvm.Cond.instantiable "SpanShelves$Shelf" (7 : Nat)) ∈ tw := tw_t 187 (by decide +kernel) (by decide +kernel)
theorem tw_188 : (Jvm.Cond.methodLink "SpanShelves" (67 : Nat) ({ cls := "SpanShelves$Shelf", name := "<init>", desc := "(LSpanShelves$Span;)V" } : Jvm.MethodName)) ∈ tw := tw_t 188 (by decide +kernel) (by decide +kernel)
theorem tw_189 : (Jvm.Cond.instanceMethod ({ cls := "SpanShelves$Shelf", name := "<init>", desc := "(LSpanShelves$Span;)V" } : Jvm.MethodName)) ∈ tw := tw_t 189 (by decide +kernel) (by decide +kernel)
theorem tw_190 : (Jvm.Cond.code ({ cls := "SpanShelves$Shelf", name := "<init>", desc := "(LSpanShelves$Span;)V" } : Jvm.MethodName) prog_6_method_1_code (2 : Nat) (Option.none : Option Jvm.ClassFile.FieldType)) ∈ tw := tw_t 190 (by decide +kernel) (by decide +kernel)
theorem tw_191 : (Jvm.Cond.methodLink "SpanShelves$Shelf" (3 : Nat) ({ cls := "java/lang/Object", name := "<init>", desc := "()V" } : Jvm.MethodName)) ∈ tw := tw_t 191 (by decide +kernel) (by decide +kernel)
theorem tw_192 : (Jvm.Cond.classLink "SpanShelves$Shelf" (9 : Nat) "SpanShelves$Span") ∈ tw := tw_t 192 (by decide +kernel) (by decide +kernel)
theorem tw_193 : (Jvm.Cond.methodLink "SpanShelves$Shelf" (11 : Nat) ({ cls := "SpanShelves$Span", name := "<init>", desc := "(I)V" } : Jvm.MethodName)) ∈ tw := tw_t 193 (by decide +kernel) (by decide +kernel)
theorem tw_194 : (Jvm.Cond.classLink "SpanShelves$Shelf" (20 : Nat) "SpanShelves$Cursor") ∈ tw := tw_t 194 (by decide +kernel) (by decide +kernel)
theorem tw_195 : (Jvm.Cond.methodLinkNest "SpanShelves$Shelf" (22 : Nat) ({ cls := "SpanShelves$Cursor", name := "<init>", desc := "()V" } : Jvm.MethodName) "SpanShelves") ∈ tw := tw_t 195 (by decide +kernel) (by decide +kernel)
theorem tw_1003 : (Jvm.Cond.methodLink "SpanShelvesModel" (7 : Nat) ({ cls := "java/lang/Object", name := "<init>", desc := "()V" } : Jvm.MethodName)) ∈ tw := tw_t 1003 (by decide +kernel) (by decide +kernel)
theorem tw_1004 : (Jvm.Cond.classLink "SpanShelvesModel" (20 : Nat) "[[B") ∈ tw := tw_t 1004 (by decide +kernel) (by decide +kernel)
theorem tw_1006 : (Jvm.Cond.classLink "SpanShelvesModel" (29 : Nat) "[[I") ∈ tw := tw_t 1006 (by decide +kernel) (by decide +kernel)
theorem tw_1008 : (Jvm.Cond.classLink "SpanShelvesModel" (64 : Nat) "SpanShelvesModel$Tree") ∈ tw := tw_t 1008 (by decide +kernel) (by decide +kernel)
theorem tw_1009 : (Jvm.Cond.instantiable "SpanShelvesModel$Tree" (13 : Nat)) ∈ tw := tw_t 1009 (by decide +kernel) (by decide +kernel)
theorem tw_1010 : (Jvm.Cond.methodLinkNest "SpanShelvesModel" (66 : Nat) ({ cls := "SpanShelvesModel$Tree", name := "<init>", desc := "()V" } : Jvm.MethodName) "SpanShelvesModel") ∈ tw := tw_t 1010 (by decide +kernel) (by decide +kernel)
theorem tw_1011 : (Jvm.Cond.instanceMethod ({ cls := "SpanShelvesModel$Tree", name := "<init>", desc := "()V" } : Jvm.MethodName)) ∈ tw := tw_t 1011 (by decide +kernel) (by decide +kernel)
theorem tw_1012 : (Jvm.Cond.code ({ cls := "SpanShelvesModel$Tree", name := "<init>", desc := "()V" } : Jvm.MethodName) prog_10_method_1_code (1 : Nat) (Option.none : Option Jvm.ClassFile.FieldType)) ∈ tw := tw_t 1012 (by decide +kernel) (by decide +kernel)
theorem tw_1013 : (Jvm.Cond.methodLink "SpanShelvesModel$Tree" (3 : Nat) ({ cls := "java/lang/Object", name := "<init>", desc := "()V" } : Jvm.MethodName)) ∈ tw := tw_t 1013 (by decide +kernel) (by decide +kernel)
theorem tw_1067 : (Jvm.Cond.methodLink "SpanShelvesModel" (90 : Nat) ({ cls := "SpanShelvesModel", name := "empty", desc := "(I)V" } : Jvm.MethodName)) ∈ tw := tw_t 1067 (by decide +kernel) (by decide +kernel)
theorem tw_1069 : (Jvm.Cond.instanceMethod ({ cls := "SpanShelvesModel", name := "empty", desc := "(I)V" } : Jvm.MethodName)) ∈ tw := tw_t 1069 (by decide +kernel) (by decide +kernel)
theorem tw_1070 : (Jvm.Cond.code ({ cls := "SpanShelvesModel", name := "empty", desc := "(I)V" } : Jvm.MethodName) prog_9_method_3_code (3 : Nat) (Option.none : Option Jvm.ClassFile.FieldType)) ∈ tw := tw_t 1070 (by decide +kernel) (by decide +kernel)
theorem twp_25 : (Jvm.Cond.selects "SpanShelvesModel" ({ cls := "SpanShelvesModel", name := "empty", desc := "(I)V" } : Jvm.MethodName) ({ cls := "SpanShelvesModel", name := "empty", desc := "(I)V" } : Jvm.MethodName)) ∈ tw := tw_p 25 (q := (({ cls := "SpanShelvesModel", name := "empty", desc := "(I)V" } : Jvm.MethodName), 44)) (by decide +kernel) (by decide +kernel)
theorem mm_X8_empty : MM 7 yX8_empty cX8_empty 3 none 1 := ⟨by decide, RX8, TX8, 44, rfl, tw_1069, twp_25, tw_1070, tw_10, by decide +kernel, by decide +kernel, by decide +kernel⟩
theorem fdF_X0_0 : ∀ (C : String) (T : u_T) (N : Nat), vwCl[0]? = some (C, T, N) → (T 0).2.2.2 = true ∧ parseFieldDescriptor (T 0).2.2.1 = some (.array .int) ∧ C = RX0 := by intro C T N h; cases h; exact ⟨rfl, by decide +kernel, rfl⟩
theorem fdF_X0_1 : ∀ (C : String) (T : u_T) (N : Nat), vwCl[0]? = some (C, T, N) → (T 1).2.2.2 = true ∧ parseFieldDescriptor (T 1).2.2.1 = some (.array .int) ∧ C = RX0 := by intro C T N h; cases h; exact ⟨rfl, by decide +kernel, rfl⟩
theorem fdF_X0_2 : ∀ (C : String) (T : u_T) (N : Nat), vwCl[0]? = some (C, T, N) → (T 2).2.2.2 = true ∧ parseFieldDescriptor (T 2).2.2.1 = some (.array .int) ∧ C = RX0 := by intro C T N h; cases h; exact ⟨rfl, by decide +kernel, rfl⟩
theorem fdF_X0_3 : ∀ (C : String) (T : u_T) (N : Nat), vwCl[0]? = some (C, T, N) → (T 3).2.2.2 = true ∧ parseFieldDescriptor (T 3).2.2.1 = some (.array .int) ∧ C = RX0 := by intro C T N h; cases h; exact ⟨rfl, by decide +kernel, rfl⟩
theorem fdF_X0_6 : ∀ (C : String) (T : u_T) (N : Nat), vwCl[0]? = some (C, T, N) → (T 6).2.2.2 = true ∧ parseFieldDescriptor (T 6).2.2.1 = some (.array .int) ∧ C = RX0 := by intro C T N h; cases h; exact ⟨rfl, by decide +kernel, rfl⟩
theorem fdF_X3_0 : ∀ (C : String) (T : u_T) (N : Nat), vwCl[2]? = some (C, T, N) → (T 0).2.2.2 = true ∧ parseFieldDescriptor (T 0).2.2.1 = some (.object "SpanShelves$Span") ∧ C = RX3 := by intro C T N h; cases h; exact ⟨rfl, by decide +kernel, rfl⟩
theorem fdF_X3_1 : ∀ (C : String) (T : u_T) (N : Nat), vwCl[2]? = some (C, T, N) → (T 1).2.2.2 = true ∧ parseFieldDescriptor (T 1).2.2.1 = some (.array .int) ∧ C = RX3 := by intro C T N h; cases h; exact ⟨rfl, by decide +kernel, rfl⟩
theorem fdF_X3_2 : ∀ (C : String) (T : u_T) (N : Nat), vwCl[2]? = some (C, T, N) → (T 2).2.2.2 = true ∧ parseFieldDescriptor (T 2).2.2.1 = some (.array .int) ∧ C = RX3 := by intro C T N h; cases h; exact ⟨rfl, by decide +kernel, rfl⟩
theorem fdF_X3_3 : ∀ (C : String) (T : u_T) (N : Nat), vwCl[2]? = some (C, T, N) → (T 3).2.2.2 = true ∧ parseFieldDescriptor (T 3).2.2.1 = some (.array .int) ∧ C = RX3 := by intro C T N h; cases h; exact ⟨rfl, by decide +kernel, rfl⟩
theorem fdF_X3_4 : ∀ (C : String) (T : u_T) (N : Nat), vwCl[2]? = some (C, T, N) → (T 4).2.2.2 = true ∧ parseFieldDescriptor (T 4).2.2.1 = some (.array .int) ∧ C = RX3 := by intro C T N h; cases h; exact ⟨rfl, by decide +kernel, rfl⟩
theorem fdF_X4_0 : ∀ (C : String) (T : u_T) (N : Nat), vwCl[3]? = some (C, T, N) → (T 0).2.2.2 = true ∧ parseFieldDescriptor (T 0).2.2.1 = some (.object "SpanShelves$Span") ∧ C = RX4 := by intro C T N h; cases h; exact ⟨rfl, by decide +kernel, rfl⟩
theorem fdF_X4_1 : ∀ (C : String) (T : u_T) (N : Nat), vwCl[3]? = some (C, T, N) → (T 1).2.2.2 = true ∧ parseFieldDescriptor (T 1).2.2.1 = some (.object "SpanShelves$Cursor") ∧ C = RX4 := by intro C T N h; cases h; exact ⟨rfl, by decide +kernel, rfl⟩
theorem fdF_X4_2 : ∀ (C : String) (T : u_T) (N : Nat), vwCl[3]? = some (C, T, N) → (T 2).2.2.2 = true ∧ parseFieldDescriptor (T 2).2.2.1 = some (.object "SpanShelves$Span") ∧ C = RX4 := by intro C T N h; cases h; exact ⟨rfl, by decide +kernel, rfl⟩
theorem fdF_X5_0 : ∀ (C : String) (T : u_T) (N : Nat), vwCl[4]? = some (C, T, N) → (T 0).2.2.2 = true ∧ parseFieldDescriptor (T 0).2.2.1 = some (.array .int) ∧ C = RX5 := by intro C T N h; cases h; exact ⟨rfl, by decide +kernel, rfl⟩
theorem fdF_X6_0 : ∀ (C : String) (T : u_T) (N : Nat), vwCl[5]? = some (C, T, N) → (T 0).2.2.2 = true ∧ parseFieldDescriptor (T 0).2.2.1 = some (.object "SpanShelves$Span") ∧ C = RX6 := by intro C T N h; cases h; exact ⟨rfl, by decide +kernel, rfl⟩
theorem fdF_X6_1 : ∀ (C : String) (T : u_T) (N : Nat), vwCl[5]? = some (C, T, N) → (T 1).2.2.2 = true ∧ parseFieldDescriptor (T 1).2.2.1 = some (.object "SpanShelves$Span") ∧ C = RX6 := by intro C T N h; cases h; exact ⟨rfl, by decide +kernel, rfl⟩
theorem fdF_X6_2 : ∀ (C : String) (T : u_T) (N : Nat), vwCl[5]? = some (C, T, N) → (T 2).2.2.2 = true ∧ parseFieldDescriptor (T 2).2.2.1 = some (.object "SpanShelves$Span") ∧ C = RX6 := by intro C T N h; cases h; exact ⟨rfl, by decide +kernel, rfl⟩
theorem fdF_X6_3 : ∀ (C : String) (T : u_T) (N : Nat), vwCl[5]? = some (C, T, N) → (T 3).2.2.2 = true ∧ parseFieldDescriptor (T 3).2.2.1 = some (.object "SpanShelves$Reader") ∧ C = RX6 := by intro C T N h; cases h; exact ⟨rfl, by decide +kernel, rfl⟩
theorem fdF_X6_4 : ∀ (C : String) (T : u_T) (N : Nat), vwCl[5]? = some (C, T, N) → (T 4).2.2.2 = true ∧ parseFieldDescriptor (T 4).2.2.1 = some (.array (.object "SpanShelves$Shelf")) ∧ C = RX6 := by intro C T N h; cases h; exact ⟨rfl, by decide +kernel, rfl⟩
theorem fdF_X6_5 : ∀ (C : String) (T : u_T) (N : Nat), vwCl[5]? = some (C, T, N) → (T 5).2.2.2 = true ∧ parseFieldDescriptor (T 5).2.2.1 = some (.object "SpanShelves$Cursor") ∧ C = RX6 := by intro C T N h; cases h; exact ⟨rfl, by decide +kernel, rfl⟩
theorem fdF_X6_6 : ∀ (C : String) (T : u_T) (N : Nat), vwCl[5]? = some (C, T, N) → (T 6).2.2.2 = true ∧ parseFieldDescriptor (T 6).2.2.1 = some (.object "SpanShelves$Sheet") ∧ C = RX6 := by intro C T N h; cases h; exact ⟨rfl, by decide +kernel, rfl⟩
theorem fdF_X7_2 : ∀ (C : String) (T : u_T) (N : Nat), vwCl[6]? = some (C, T, N) → (T 2).2.2.2 = true ∧ parseFieldDescriptor (T 2).2.2.1 = some (.array .int) ∧ C = RX7 := by intro C T N h; cases h; exact ⟨rfl, by decide +kernel, rfl⟩
theorem fdF_X7_3 : ∀ (C : String) (T : u_T) (N : Nat), vwCl[6]? = some (C, T, N) → (T 3).2.2.2 = true ∧ parseFieldDescriptor (T 3).2.2.1 = some (.array .int) ∧ C = RX7 := by intro C T N h; cases h; exact ⟨rfl, by decide +kernel, rfl⟩
theorem fdF_X7_4 : ∀ (C : String) (T : u_T) (N : Nat), vwCl[6]? = some (C, T, N) → (T 4).2.2.2 = true ∧ parseFieldDescriptor (T 4).2.2.1 = some (.array .int) ∧ C = RX7 := by intro C T N h; cases h; exact ⟨rfl, by decide +kernel, rfl⟩
theorem fdF_X7_5 : ∀ (C : String) (T : u_T) (N : Nat), vwCl[6]? = some (C, T, N) → (T 5).2.2.2 = true ∧ parseFieldDescriptor (T 5).2.2.1 = some (.array .int) ∧ C = RX7 := by intro C T N h; cases h; exact ⟨rfl, by decide +kernel, rfl⟩
theorem fdF_X7_6 : ∀ (C : String) (T : u_T) (N : Nat), vwCl[6]? = some (C, T, N) → (T 6).2.2.2 = true ∧ parseFieldDescriptor (T 6).2.2.1 = some (.array .int) ∧ C = RX7 := by intro C T N h; cases h; exact ⟨rfl, by decide +kernel, rfl⟩
theorem fdF_X7_7 : ∀ (C : String) (T : u_T) (N : Nat), vwCl[6]? = some (C, T, N) → (T 7).2.2.2 = true ∧ parseFieldDescriptor (T 7).2.2.1 = some (.array .int) ∧ C = RX7 := by intro C T N h; cases h; exact ⟨rfl, by decide +kernel, rfl⟩
theorem fdF_X7_8 : ∀ (C : String) (T : u_T) (N : Nat), vwCl[6]? = some (C, T, N) → (T 8).2.2.2 = true ∧ parseFieldDescriptor (T 8).2.2.1 = some (.array .int) ∧ C = RX7 := by intro C T N h; cases h; exact ⟨rfl, by decide +kernel, rfl⟩
theorem fdF_X7_9 : ∀ (C : String) (T : u_T) (N : Nat), vwCl[6]? = some (C, T, N) → (T 9).2.2.2 = true ∧ parseFieldDescriptor (T 9).2.2.1 = some (.array .int) ∧ C = RX7 := by intro C T N h; cases h; exact ⟨rfl, by decide +kernel, rfl⟩
theorem fdF_X7_10 : ∀ (C : String) (T : u_T) (N : Nat), vwCl[6]? = some (C, T, N) → (T 10).2.2.2 = true ∧ parseFieldDescriptor (T 10).2.2.1 = some (.array .int) ∧ C = RX7 := by intro C T N h; cases h; exact ⟨rfl, by decide +kernel, rfl⟩
theorem fdF_X7_11 : ∀ (C : String) (T : u_T) (N : Nat), vwCl[6]? = some (C, T, N) → (T 11).2.2.2 = true ∧ parseFieldDescriptor (T 11).2.2.1 = some (.array .int) ∧ C = RX7 := by intro C T N h; cases h; exact ⟨rfl, by decide +kernel, rfl⟩
theorem fdF_X7_12 : ∀ (C : String) (T : u_T) (N : Nat), vwCl[6]? = some (C, T, N) → (T 12).2.2.2 = true ∧ parseFieldDescriptor (T 12).2.2.1 = some (.array .int) ∧ C = RX7 := by intro C T N h; cases h; exact ⟨rfl, by decide +kernel, rfl⟩
theorem fdF_X8_1 : ∀ (C : String) (T : u_T) (N : Nat), vwCl[7]? = some (C, T, N) → (T 1).2.2.2 = true ∧ parseFieldDescriptor (T 1).2.2.1 = some (.array .byte) ∧ C = RX8 := by intro C T N h; cases h; exact ⟨rfl, by decide +kernel, rfl⟩
theorem fdF_X8_5 : ∀ (C : String) (T : u_T) (N : Nat), vwCl[7]? = some (C, T, N) → (T 5).2.2.2 = true ∧ parseFieldDescriptor (T 5).2.2.1 = some (.array (.array .byte)) ∧ C = RX8 := by intro C T N h; cases h; exact ⟨rfl, by decide +kernel, rfl⟩
theorem fdF_X8_6 : ∀ (C : String) (T : u_T) (N : Nat), vwCl[7]? = some (C, T, N) → (T 6).2.2.2 = true ∧ parseFieldDescriptor (T 6).2.2.1 = some (.array .int) ∧ C = RX8 := by intro C T N h; cases h; exact ⟨rfl, by decide +kernel, rfl⟩
theorem fdF_X8_7 : ∀ (C : String) (T : u_T) (N : Nat), vwCl[7]? = some (C, T, N) → (T 7).2.2.2 = true ∧ parseFieldDescriptor (T 7).2.2.1 = some (.array (.array .int)) ∧ C = RX8 := by intro C T N h; cases h; exact ⟨rfl, by decide +kernel, rfl⟩
theorem fdF_X8_8 : ∀ (C : String) (T : u_T) (N : Nat), vwCl[7]? = some (C, T, N) → (T 8).2.2.2 = true ∧ parseFieldDescriptor (T 8).2.2.1 = some (.array .int) ∧ C = RX8 := by intro C T N h; cases h; exact ⟨rfl, by decide +kernel, rfl⟩
theorem fdF_X8_9 : ∀ (C : String) (T : u_T) (N : Nat), vwCl[7]? = some (C, T, N) → (T 9).2.2.2 = true ∧ parseFieldDescriptor (T 9).2.2.1 = some (.array .int) ∧ C = RX8 := by intro C T N h; cases h; exact ⟨rfl, by decide +kernel, rfl⟩
theorem fdF_X8_10 : ∀ (C : String) (T : u_T) (N : Nat), vwCl[7]? = some (C, T, N) → (T 10).2.2.2 = true ∧ parseFieldDescriptor (T 10).2.2.1 = some (.array .byte) ∧ C = RX8 := by intro C T N h; cases h; exact ⟨rfl, by decide +kernel, rfl⟩
theorem fdF_X8_14 : ∀ (C : String) (T : u_T) (N : Nat), vwCl[7]? = some (C, T, N) → (T 14).2.2.2 = true ∧ parseFieldDescriptor (T 14).2.2.1 = some (.array .int) ∧ C = RX8 := by intro C T N h; cases h; exact ⟨rfl, by decide +kernel, rfl⟩
theorem fdF_X8_15 : ∀ (C : String) (T : u_T) (N : Nat), vwCl[7]? = some (C, T, N) → (T 15).2.2.2 = true ∧ parseFieldDescriptor (T 15).2.2.1 = some (.array .int) ∧ C = RX8 := by intro C T N h; cases h; exact ⟨rfl, by decide +kernel, rfl⟩
theorem fdF_X8_16 : ∀ (C : String) (T : u_T) (N : Nat), vwCl[7]? = some (C, T, N) → (T 16).2.2.2 = true ∧ parseFieldDescriptor (T 16).2.2.1 = some (.array .int) ∧ C = RX8 := by intro C T N h; cases h; exact ⟨rfl, by decide +kernel, rfl⟩
theorem fdF_X8_17 : ∀ (C : String) (T : u_T) (N : Nat), vwCl[7]? = some (C, T, N) → (T 17).2.2.2 = true ∧ parseFieldDescriptor (T 17).2.2.1 = some (.array .int) ∧ C = RX8 := by intro C T N h; cases h; exact ⟨rfl, by decide +kernel, rfl⟩
theorem fdF_X8_18 : ∀ (C : String) (T : u_T) (N : Nat), vwCl[7]? = some (C, T, N) → (T 18).2.2.2 = true ∧ parseFieldDescriptor (T 18).2.2.1 = some (.array .int) ∧ C = RX8 := by intro C T N h; cases h; exact ⟨rfl, by decide +kernel, rfl⟩
theorem fdF_X8_19 : ∀ (C : String) (T : u_T) (N : Nat), vwCl[7]? = some (C, T, N) → (T 19).2.2.2 = true ∧ parseFieldDescriptor (T 19).2.2.1 = some (.array .int) ∧ C = RX8 := by intro C T N h; cases h; exact ⟨rfl, by decide +kernel, rfl⟩
theorem fdF_X8_20 : ∀ (C : String) (T : u_T) (N : Nat), vwCl[7]? = some (C, T, N) → (T 20).2.2.2 = true ∧ parseFieldDescriptor (T 20).2.2.1 = some (.array .byte) ∧ C = RX8 := by intro C T N h; cases h; exact ⟨rfl, by decide +kernel, rfl⟩
theorem fdF_X8_21 : ∀ (C : String) (T : u_T) (N : Nat), vwCl[7]? = some (C, T, N) → (T 21).2.2.2 = true ∧ parseFieldDescriptor (T 21).2.2.1 = some (.object "SpanShelvesModel$Tree") ∧ C = RX8 := by intro C T N h; cases h; exact ⟨rfl, by decide +kernel, rfl⟩
theorem fdF_X8_22 : ∀ (C : String) (T : u_T) (N : Nat), vwCl[7]? = some (C, T, N) → (T 22).2.2.2 = true ∧ parseFieldDescriptor (T 22).2.2.1 = some (.object "SpanShelvesModel$Tree") ∧ C = RX8 := by intro C T N h; cases h; exact ⟨rfl, by decide +kernel, rfl⟩
theorem fdF_X8_23 : ∀ (C : String) (T : u_T) (N : Nat), vwCl[7]? = some (C, T, N) → (T 23).2.2.2 = true ∧ parseFieldDescriptor (T 23).2.2.1 = some (.array .int) ∧ C = RX8 := by intro C T N h; cases h; exact ⟨rfl, by decide +kernel, rfl⟩
theorem fdF_X8_26 : ∀ (C : String) (T : u_T) (N : Nat), vwCl[7]? = some (C, T, N) → (T 26).2.2.2 = true ∧ parseFieldDescriptor (T 26).2.2.1 = some (.array .byte) ∧ C = RX8 := by intro C T N h; cases h; exact ⟨rfl, by decide +kernel, rfl⟩
theorem fdF_X8_30 : ∀ (C : String) (T : u_T) (N : Nat), vwCl[7]? = some (C, T, N) → (T 30).2.2.2 = true ∧ parseFieldDescriptor (T 30).2.2.1 = some (.array .int) ∧ C = RX8 := by intro C T N h; cases h; exact ⟨rfl, by decide +kernel, rfl⟩
theorem fdF_X8_41 : ∀ (C : String) (T : u_T) (N : Nat), vwCl[7]? = some (C, T, N) → (T 41).2.2.2 = true ∧ parseFieldDescriptor (T 41).2.2.1 = some (.array .boolean) ∧ C = RX8 := by intro C T N h; cases h; exact ⟨rfl, by decide +kernel, rfl⟩
theorem fdF_X8_43 : ∀ (C : String) (T : u_T) (N : Nat), vwCl[7]? = some (C, T, N) → (T 43).2.2.2 = true ∧ parseFieldDescriptor (T 43).2.2.1 = some (.array .byte) ∧ C = RX8 := by intro C T N h; cases h; exact ⟨rfl, by decide +kernel, rfl⟩
theorem cn_X6_7 : CNW RX6 7 4 [.null, .int 0, .int 0] := ⟨RX5, TX5, 3, tyX5, rfl, iw_X5, tyX5_ok, tw_28, tw_29, tw_2, rfl, by decide +kernel⟩
theorem cn_X6_24 : CNW RX6 24 1 [.null, .int 0, .int 0, .int 0, .int 0, .int 0, .int 0, .int 0, .int 0, .int 0, .int 0, .int 0] := ⟨RX2, TX2, 12, tyX2, rfl, iw_X2, tyX2_ok, tw_53, tw_54, tw_4, rfl, by decide +kernel⟩
theorem cn_X6_31 : CNW RX6 31 3 [.null, .null, .null, .int 0, .int 0, .int 0, .int 0] := ⟨RX4, TX4, 7, tyX4, rfl, iw_X4, tyX4_ok, tw_108, tw_187, tw_7, rfl, by decide +kernel⟩
theorem cn_X6_37 : CNW RX6 37 0 [.null, .null, .null, .null, .int 0, .int 0, .null, .int 0] := ⟨RX0, TX0, 8, tyX0, rfl, iw_X0, tyX0_ok, tw_110, tw_111, tw_5, rfl, by decide +kernel⟩
theorem cn_X6_44 : CNW RX6 44 2 [.null, .null, .null, .null, .null, .int 0, .int 0] := ⟨RX3, TX3, 7, tyX3, rfl, iw_X3, tyX3_ok, tw_145, tw_146, tw_6, rfl, by decide +kernel⟩
theorem cn_X2_9 : CNW RX2 9 4 [.null, .int 0, .int 0] := ⟨RX5, TX5, 3, tyX5, rfl, iw_X5, tyX5_ok, tw_59, tw_29, tw_2, rfl, by decide +kernel⟩
theorem cn_X3_9 : CNW RX3 9 4 [.null, .int 0, .int 0] := ⟨RX5, TX5, 3, tyX5, rfl, iw_X5, tyX5_ok, tw_151, tw_29, tw_2, rfl, by decide +kernel⟩
theorem cn_X4_9 : CNW RX4 9 4 [.null, .int 0, .int 0] := ⟨RX5, TX5, 3, tyX5, rfl, iw_X5, tyX5_ok, tw_192, tw_29, tw_2, rfl, by decide +kernel⟩
theorem cn_X4_20 : CNW RX4 20 0 [.null, .null, .null, .null, .int 0, .int 0, .null, .int 0] := ⟨RX0, TX0, 8, tyX0, rfl, iw_X0, tyX0_ok, tw_194, tw_111, tw_5, rfl, by decide +kernel⟩
theorem cn_X8_64 : CNW RX8 64 6 [.null, .int 0, .null, .null, .null, .null, .null, .null, .null, .null, .null, .null, .null] := ⟨RX7, TX7, 13, tyX7, rfl, iw_X7, tyX7_ok, tw_1008, tw_1009, tw_11, rfl, by decide +kernel⟩
theorem mi_X0_init : MIN yX0_init cX0_init 1 0 := ⟨tw_113, tw_114, tw_5, by decide +kernel, by decide +kernel, by decide +kernel, rfl⟩
theorem mi_X2_init : MIN yX2_init cX2_init 1 0 := ⟨tw_56, tw_57, tw_4, by decide +kernel, by decide +kernel, by decide +kernel, rfl⟩
theorem mi_X3_init : MIN yX3_init cX3_init 1 0 := ⟨tw_148, tw_149, tw_6, by decide +kernel, by decide +kernel, by decide +kernel, rfl⟩
theorem mi_X4_init : MIN yX4_init cX4_init 2 1 := ⟨tw_189, tw_190, tw_7, by decide +kernel, by decide +kernel, by decide +kernel, rfl⟩
theorem mi_X5_init : MIN yX5_init cX5_init 2 1 := ⟨tw_31, tw_32, tw_2, by decide +kernel, by decide +kernel, by decide +kernel, rfl⟩
theorem mi_X7_init : MIN yX7_init cX7_init 1 0 := ⟨tw_1011, tw_1012, tw_11, by decide +kernel, by decide +kernel, by decide +kernel, rfl⟩
theorem dX5_init_0 : decode cX5_init 0 = .ok (.aload_n 0, 1) := by decide +kernel
theorem dX5_init_1 : decode cX5_init 1 = .ok (.invokespecial 3, 3) := by decide +kernel
theorem dX5_init_4 : decode cX5_init 4 = .ok (.aload_n 0, 1) := by decide +kernel
theorem dX5_init_5 : decode cX5_init 5 = .ok (.iconst 0, 1) := by decide +kernel
theorem dX5_init_6 : decode cX5_init 6 = .ok (.putfield 9, 3) := by decide +kernel
theorem dX5_init_9 : decode cX5_init 9 = .ok (.aload_n 0, 1) := by decide +kernel
theorem dX5_init_10 : decode cX5_init 10 = .ok (.iconst 0, 1) := by decide +kernel
theorem dX5_init_11 : decode cX5_init 11 = .ok (.putfield 15, 3) := by decide +kernel
theorem dX5_init_14 : decode cX5_init 14 = .ok (.aload_n 0, 1) := by decide +kernel
theorem dX5_init_15 : decode cX5_init 15 = .ok (.iload_n 1, 1) := by decide +kernel
theorem dX5_init_16 : decode cX5_init 16 = .ok (.iconst 0, 1) := by decide +kernel
theorem dX5_init_17 : decode cX5_init 17 = .ok (.invokestatic 19, 3) := by decide +kernel
theorem dX5_init_20 : decode cX5_init 20 = .ok (.newarray .int, 2) := by decide +kernel
theorem dX5_init_22 : decode cX5_init 22 = .ok (.putfield 25, 3) := by decide +kernel
theorem dX5_init_25 : decode cX5_init 25 = .ok (.return_, 1) := by decide +kernel
abbrev rm_X5_init (n : Nat) : Room := { frames := 1, cells := 1, slots := 0 + n, locals := 40 }
def f_X5_init (cy : Nat → ClassId) (z : Nat) (a0 : Nat) (a1 : Int32) (μ : Mem) : Option Mem :=
  (wrF μ a0 4 1 (.int 0)).bind fun μ1 => (wrF μ1 a0 4 2 (.int 0)).bind fun μ3 => (wrF (va_up μ3 (z + 0) (.inl (cy 1, zA 1 (((if a1 < 0 then 0 else a1)).toNatClampNeg)))) a0 4 0 (.ref (z + 0))).bind fun μ5 => some μ5
set_option maxRecDepth 100000 in
set_option maxHeartbeats 4000000 in
theorem c_X5_init {l : Launch} {g : Wg} {L : List Nat} {z : Nat} {μ : Mem} {a0 : Nat} {a1 : Int32} {μ' : Mem} {n : Nat} (hn : (if a1 < 0 then 0 else a1 : Int32).toNatClampNeg = n) (hbig : n ≤ 60000000) (hf : f_X5_init g.2 z a0 a1 μ = some μ') : MetG l yX5_init cX5_init 2 (rm_X5_init n) g L z μ [.ref a0, .int a1] μ' := by
  refine pz_met (by decide) (Nat.le_of_ble_eq_true rfl) rfl ?_
  intro p e s m args below meth c A ls H locs hC hAW hin hz hr hlocks hl hw
  have hx := hC.1
  have hb := hC.2.1
  have hl : lv_has ls 2 [(0, .ref a0), (1, .int a1)] := hl
  unfold f_X5_init at hf
  refine lv_aload_n hx hb dX5_init_0 rfl (lv_at hl 0 rfl) ?_
  refine W.objInit hx hb hC.2.2.2.1 (hC.2.2.2.2 _ tw_33) (hC.2.2.2.2 _ tw_26) (hC.2.2.2.2 _ tw_27) rfl (hl.1.trans hC.2.2.1.symm) rfl dX5_init_1 (Nat.le_of_ble_eq_true rfl) (Nat.le_of_ble_eq_true rfl) ?_
  refine W.eq (g2 := F0 m 4 ls []) rfl ?_
  refine lv_aload_n hx hb dX5_init_4 rfl (lv_at hl 0 rfl) ?_
  refine lv_iconst (v := 0) hx hb dX5_init_5 nc_iconst_0 ?_
  obtain ⟨μ1, h2, hf⟩ := o_bind hf
  refine pw_put hC fl_X5_9 hw h2 .int fd_X5_1 rfl rfl dX5_init_6 (fun H locs hw => ?_)
  refine lv_aload_n hx hb dX5_init_9 rfl (lv_at hl 0 rfl) ?_
  refine lv_iconst (v := 0) hx hb dX5_init_10 nc_iconst_0 ?_
  obtain ⟨μ3, h4, hf⟩ := o_bind hf
  refine pw_put hC fl_X5_15 hw h4 .boolean fd_X5_2 (by decide +kernel) rfl dX5_init_11 (fun H locs hw => ?_)
  refine lv_aload_n hx hb dX5_init_14 rfl (lv_at hl 0 rfl) ?_
  refine lv_iload_n hx hb dX5_init_15 rfl (lv_at hl 1 rfl) ?_
  refine lv_iconst (v := 0) hx hb dX5_init_16 nc_iconst_0 ?_
  refine va_mmax hx hb (hC.2.2.1.trans hl.1.symm) hC.2.2.2.1 (hC.2.2.2.2 _ tw_34) (hC.2.2.2.2 _ tw_35) (hC.2.2.2.2 _ tw_3) (hC.2.2.2.2 _ tw_36) (Nat.le_refl _) (Nat.le_of_ble_eq_true rfl) (by first | exact Nat.zero_le _ | decide) (by first | exact Nat.zero_le _ | decide) dX5_init_17 ?_
  refine pz_newa (k := 0) (k' := 1) (slots' := 0 + n) (N := n) (atype := .int) hC hAW 1 trivial hz hw (mx0 a1) hn hbig rfl rfl (Nat.le_refl _) (Nat.le_refl _) dX5_init_20 (fun H hw => ?_)
  rw [← hn] at hw
  obtain ⟨μ5, h6, hf⟩ := o_bind hf
  refine pz_putF hC fl_X5_25 hin hw h6 (.array .int) fdF_X5_0 (show _ from tw_37) rfl rfl dX5_init_22 (fun H locs hw => ?_)
  obtain rfl := o_retv hf
  exact pz_vret hC hr hlocks hw dX5_init_25
theorem dX0_init_0 : decode cX0_init 0 = .ok (.aload_n 0, 1) := by decide +kernel
theorem dX0_init_1 : decode cX0_init 1 = .ok (.invokespecial 3, 3) := by decide +kernel
theorem dX0_init_4 : decode cX0_init 4 = .ok (.aload_n 0, 1) := by decide +kernel
theorem dX0_init_5 : decode cX0_init 5 = .ok (.bipush 24, 2) := by decide +kernel
theorem dX0_init_7 : decode cX0_init 7 = .ok (.newarray .int, 2) := by decide +kernel
theorem dX0_init_9 : decode cX0_init 9 = .ok (.putfield 9, 3) := by decide +kernel
theorem dX0_init_12 : decode cX0_init 12 = .ok (.aload_n 0, 1) := by decide +kernel
theorem dX0_init_13 : decode cX0_init 13 = .ok (.bipush 24, 2) := by decide +kernel
theorem dX0_init_15 : decode cX0_init 15 = .ok (.newarray .int, 2) := by decide +kernel
theorem dX0_init_17 : decode cX0_init 17 = .ok (.putfield 15, 3) := by decide +kernel
theorem dX0_init_20 : decode cX0_init 20 = .ok (.aload_n 0, 1) := by decide +kernel
theorem dX0_init_21 : decode cX0_init 21 = .ok (.bipush 24, 2) := by decide +kernel
theorem dX0_init_23 : decode cX0_init 23 = .ok (.newarray .int, 2) := by decide +kernel
theorem dX0_init_25 : decode cX0_init 25 = .ok (.putfield 18, 3) := by decide +kernel
theorem dX0_init_28 : decode cX0_init 28 = .ok (.aload_n 0, 1) := by decide +kernel
theorem dX0_init_29 : decode cX0_init 29 = .ok (.bipush 24, 2) := by decide +kernel
theorem dX0_init_31 : decode cX0_init 31 = .ok (.newarray .int, 2) := by decide +kernel
theorem dX0_init_33 : decode cX0_init 33 = .ok (.putfield 21, 3) := by decide +kernel
theorem dX0_init_36 : decode cX0_init 36 = .ok (.aload_n 0, 1) := by decide +kernel
theorem dX0_init_37 : decode cX0_init 37 = .ok (.iconst 0, 1) := by decide +kernel
theorem dX0_init_38 : decode cX0_init 38 = .ok (.putfield 24, 3) := by decide +kernel
theorem dX0_init_41 : decode cX0_init 41 = .ok (.aload_n 0, 1) := by decide +kernel
theorem dX0_init_42 : decode cX0_init 42 = .ok (.iconst (-1), 1) := by decide +kernel
theorem dX0_init_43 : decode cX0_init 43 = .ok (.putfield 28, 3) := by decide +kernel
theorem dX0_init_46 : decode cX0_init 46 = .ok (.aload_n 0, 1) := by decide +kernel
theorem dX0_init_47 : decode cX0_init 47 = .ok (.sipush 1201, 3) := by decide +kernel
theorem dX0_init_50 : decode cX0_init 50 = .ok (.newarray .int, 2) := by decide +kernel
theorem dX0_init_52 : decode cX0_init 52 = .ok (.putfield 31, 3) := by decide +kernel
theorem dX0_init_55 : decode cX0_init 55 = .ok (.aload_n 0, 1) := by decide +kernel
theorem dX0_init_56 : decode cX0_init 56 = .ok (.iconst 0, 1) := by decide +kernel
theorem dX0_init_57 : decode cX0_init 57 = .ok (.putfield 34, 3) := by decide +kernel
theorem dX0_init_60 : decode cX0_init 60 = .ok (.return_, 1) := by decide +kernel
abbrev rm_X0_init : Room := { frames := 1, cells := 5, slots := 1297, locals := 40 }
def f_X0_init (cy : Nat → ClassId) (z : Nat) (a0 : Nat) (μ : Mem) : Option Mem :=
  (wrF (va_up μ (z + 0) (.inl (cy 1, zA 1 24))) a0 0 0 (.ref (z + 0))).bind fun μ1 => (wrF (va_up μ1 (z + 1) (.inl (cy 1, zA 1 24))) a0 0 1 (.ref (z + 1))).bind fun μ3 => (wrF (va_up μ3 (z + 2) (.inl (cy 1, zA 1 24))) a0 0 2 (.ref (z + 2))).bind fun μ5 => (wrF (va_up μ5 (z + 3) (.inl (cy 1, zA 1 24))) a0 0 3 (.ref (z + 3))).bind fun μ7 => (wrF μ7 a0 0 4 (.int 0)).bind fun μ9 => (wrF μ9 a0 0 5 (.int (-1))).bind fun μ11 => (wrF (va_up μ11 (z + 4) (.inl (cy 1, zA 1 1201))) a0 0 6 (.ref (z + 4))).bind fun μ13 => (wrF μ13 a0 0 7 (.int 0)).bind fun μ15 => some μ15
set_option maxRecDepth 100000 in
set_option maxHeartbeats 4000000 in
theorem c_X0_init {l : Launch} {g : Wg} {L : List Nat} {z : Nat} {μ : Mem} {a0 : Nat} {μ' : Mem} (hf : f_X0_init g.2 z a0 μ = some μ') : MetG l yX0_init cX0_init 1 rm_X0_init g L z μ [.ref a0] μ' := by
  refine pz_met (by decide) (Nat.le_of_ble_eq_true rfl) rfl ?_
  intro p e s m args below meth c A ls H locs hC hAW hin hz hr hlocks hl hw
  have hx := hC.1
  have hb := hC.2.1
  have hl : lv_has ls 1 [(0, .ref a0)] := hl
  unfold f_X0_init at hf
  refine lv_aload_n hx hb dX0_init_0 rfl (lv_at hl 0 rfl) ?_
  refine W.objInit hx hb hC.2.2.2.1 (hC.2.2.2.2 _ tw_115) (hC.2.2.2.2 _ tw_26) (hC.2.2.2.2 _ tw_27) rfl (hl.1.trans hC.2.2.1.symm) rfl dX0_init_1 (Nat.le_of_ble_eq_true rfl) (Nat.le_of_ble_eq_true rfl) ?_
  refine W.eq (g2 := F0 m 4 ls []) rfl ?_
  refine lv_aload_n hx hb dX0_init_4 rfl (lv_at hl 0 rfl) ?_
  refine lv_bipush (v := 24) hx hb dX0_init_5 nc_bipush_24 ?_
  refine pz_newa (k := 0) (k' := 1) (slots' := 24) (N := 24) (atype := .int) hC hAW 1 trivial hz hw (by decide +kernel) (by decide +kernel) (by decide) rfl rfl (by decide) (by decide) dX0_init_7 (fun H hw => ?_)
  obtain ⟨μ1, h2, hf⟩ := o_bind hf
  refine pz_putF hC fl_X0_9 hin hw h2 (.array .int) fdF_X0_0 (show _ from tw_116) rfl rfl dX0_init_9 (fun H locs hw => ?_)
  refine lv_aload_n hx hb dX0_init_12 rfl (lv_at hl 0 rfl) ?_
  refine lv_bipush (v := 24) hx hb dX0_init_13 nc_bipush_24 ?_
  refine pz_newa (k := 1) (k' := 2) (slots' := 48) (N := 24) (atype := .int) hC hAW 1 trivial hz hw (by decide +kernel) (by decide +kernel) (by decide) rfl rfl (by decide) (by decide) dX0_init_15 (fun H hw => ?_)
  obtain ⟨μ3, h4, hf⟩ := o_bind hf
  refine pz_putF hC fl_X0_15 hin hw h4 (.array .int) fdF_X0_1 (show _ from tw_117) rfl rfl dX0_init_17 (fun H locs hw => ?_)
  refine lv_aload_n hx hb dX0_init_20 rfl (lv_at hl 0 rfl) ?_
  refine lv_bipush (v := 24) hx hb dX0_init_21 nc_bipush_24 ?_
  refine pz_newa (k := 2) (k' := 3) (slots' := 72) (N := 24) (atype := .int) hC hAW 1 trivial hz hw (by decide +kernel) (by decide +kernel) (by decide) rfl rfl (by decide) (by decide) dX0_init_23 (fun H hw => ?_)
  obtain ⟨μ5, h6, hf⟩ := o_bind hf
  refine pz_putF hC fl_X0_18 hin hw h6 (.array .int) fdF_X0_2 (show _ from tw_118) rfl rfl dX0_init_25 (fun H locs hw => ?_)
  refine lv_aload_n hx hb dX0_init_28 rfl (lv_at hl 0 rfl) ?_
  refine lv_bipush (v := 24) hx hb dX0_init_29 nc_bipush_24 ?_
  refine pz_newa (k := 3) (k' := 4) (slots' := 96) (N := 24) (atype := .int) hC hAW 1 trivial hz hw (by decide +kernel) (by decide +kernel) (by decide) rfl rfl (by decide) (by decide) dX0_init_31 (fun H hw => ?_)
  obtain ⟨μ7, h8, hf⟩ := o_bind hf
  refine pz_putF hC fl_X0_21 hin hw h8 (.array .int) fdF_X0_3 (show _ from tw_119) rfl rfl dX0_init_33 (fun H locs hw => ?_)
  refine lv_aload_n hx hb dX0_init_36 rfl (lv_at hl 0 rfl) ?_
  refine lv_iconst (v := 0) hx hb dX0_init_37 nc_iconst_0 ?_
  obtain ⟨μ9, h10, hf⟩ := o_bind hf
  refine pw_put hC fl_X0_24 hw h10 .int fd_X0_4 rfl rfl dX0_init_38 (fun H locs hw => ?_)
  refine lv_aload_n hx hb dX0_init_41 rfl (lv_at hl 0 rfl) ?_
  refine lv_iconst (v := (-1)) hx hb dX0_init_42 nc_iconst_m1 ?_
  obtain ⟨μ11, h12, hf⟩ := o_bind hf
  refine pw_put hC fl_X0_28 hw h12 .int fd_X0_5 rfl rfl dX0_init_43 (fun H locs hw => ?_)
  refine lv_aload_n hx hb dX0_init_46 rfl (lv_at hl 0 rfl) ?_
  refine lv_sipush (v := 1201) hx hb dX0_init_47 nc_sipush_1201 ?_
  refine pz_newa (k := 4) (k' := 5) (slots' := 1297) (N := 1201) (atype := .int) hC hAW 1 trivial hz hw (by decide +kernel) (by decide +kernel) (by decide) rfl rfl (by decide) (by decide) dX0_init_50 (fun H hw => ?_)
  obtain ⟨μ13, h14, hf⟩ := o_bind hf
  refine pz_putF hC fl_X0_31 hin hw h14 (.array .int) fdF_X0_6 (show _ from tw_124) rfl rfl dX0_init_52 (fun H locs hw => ?_)
  refine lv_aload_n hx hb dX0_init_55 rfl (lv_at hl 0 rfl) ?_
  refine lv_iconst (v := 0) hx hb dX0_init_56 nc_iconst_0 ?_
  obtain ⟨μ15, h16, hf⟩ := o_bind hf
  refine pw_put hC fl_X0_34 hw h16 .int fd_X0_7 rfl rfl dX0_init_57 (fun H locs hw => ?_)
  obtain rfl := o_retv hf
  exact pz_vret hC hr hlocks hw dX0_init_60
theorem dX2_init_0 : decode cX2_init 0 = .ok (.aload_n 0, 1) := by decide +kernel
theorem dX2_init_1 : decode cX2_init 1 = .ok (.invokespecial 3, 3) := by decide +kernel
theorem dX2_init_4 : decode cX2_init 4 = .ok (.aload_n 0, 1) := by decide +kernel
theorem dX2_init_5 : decode cX2_init 5 = .ok (.new 9, 3) := by decide +kernel
theorem dX2_init_8 : decode cX2_init 8 = .ok (.dup, 1) := by decide +kernel
theorem dX2_init_9 : decode cX2_init 9 = .ok (.iconst 0, 1) := by decide +kernel
theorem dX2_init_10 : decode cX2_init 10 = .ok (.invokespecial 11, 3) := by decide +kernel
theorem dX2_init_13 : decode cX2_init 13 = .ok (.putfield 14, 3) := by decide +kernel
theorem dX2_init_16 : decode cX2_init 16 = .ok (.aload_n 0, 1) := by decide +kernel
theorem dX2_init_17 : decode cX2_init 17 = .ok (.iconst 0, 1) := by decide +kernel
theorem dX2_init_18 : decode cX2_init 18 = .ok (.putfield 20, 3) := by decide +kernel
theorem dX2_init_21 : decode cX2_init 21 = .ok (.aload_n 0, 1) := by decide +kernel
theorem dX2_init_22 : decode cX2_init 22 = .ok (.iconst (-1), 1) := by decide +kernel
theorem dX2_init_23 : decode cX2_init 23 = .ok (.putfield 24, 3) := by decide +kernel
theorem dX2_init_26 : decode cX2_init 26 = .ok (.aload_n 0, 1) := by decide +kernel
theorem dX2_init_27 : decode cX2_init 27 = .ok (.iconst 0, 1) := by decide +kernel
theorem dX2_init_28 : decode cX2_init 28 = .ok (.putfield 27, 3) := by decide +kernel
theorem dX2_init_31 : decode cX2_init 31 = .ok (.aload_n 0, 1) := by decide +kernel
theorem dX2_init_32 : decode cX2_init 32 = .ok (.iconst 0, 1) := by decide +kernel
theorem dX2_init_33 : decode cX2_init 33 = .ok (.putfield 30, 3) := by decide +kernel
theorem dX2_init_36 : decode cX2_init 36 = .ok (.aload_n 0, 1) := by decide +kernel
theorem dX2_init_37 : decode cX2_init 37 = .ok (.iconst 0, 1) := by decide +kernel
theorem dX2_init_38 : decode cX2_init 38 = .ok (.putfield 33, 3) := by decide +kernel
theorem dX2_init_41 : decode cX2_init 41 = .ok (.aload_n 0, 1) := by decide +kernel
theorem dX2_init_42 : decode cX2_init 42 = .ok (.iconst 0, 1) := by decide +kernel
theorem dX2_init_43 : decode cX2_init 43 = .ok (.putfield 36, 3) := by decide +kernel
theorem dX2_init_46 : decode cX2_init 46 = .ok (.aload_n 0, 1) := by decide +kernel
theorem dX2_init_47 : decode cX2_init 47 = .ok (.iconst 0, 1) := by decide +kernel
theorem dX2_init_48 : decode cX2_init 48 = .ok (.putfield 39, 3) := by decide +kernel
theorem dX2_init_51 : decode cX2_init 51 = .ok (.aload_n 0, 1) := by decide +kernel
theorem dX2_init_52 : decode cX2_init 52 = .ok (.iconst 0, 1) := by decide +kernel
theorem dX2_init_53 : decode cX2_init 53 = .ok (.putfield 42, 3) := by decide +kernel
theorem dX2_init_56 : decode cX2_init 56 = .ok (.aload_n 0, 1) := by decide +kernel
theorem dX2_init_57 : decode cX2_init 57 = .ok (.iconst 0, 1) := by decide +kernel
theorem dX2_init_58 : decode cX2_init 58 = .ok (.putfield 45, 3) := by decide +kernel
theorem dX2_init_61 : decode cX2_init 61 = .ok (.aload_n 0, 1) := by decide +kernel
theorem dX2_init_62 : decode cX2_init 62 = .ok (.iconst (-1), 1) := by decide +kernel
theorem dX2_init_63 : decode cX2_init 63 = .ok (.putfield 48, 3) := by decide +kernel
theorem dX2_init_66 : decode cX2_init 66 = .ok (.aload_n 0, 1) := by decide +kernel
theorem dX2_init_67 : decode cX2_init 67 = .ok (.iconst 0, 1) := by decide +kernel
theorem dX2_init_68 : decode cX2_init 68 = .ok (.putfield 51, 3) := by decide +kernel
theorem dX2_init_71 : decode cX2_init 71 = .ok (.return_, 1) := by decide +kernel
abbrev rm_X2_init : Room := { frames := 2, cells := 2, slots := 3, locals := 61 }
def f_X2_init (cy : Nat → ClassId) (z : Nat) (a0 : Nat) (μ : Mem) : Option Mem :=
  (f_X5_init cy (z + 1) (z + 0) 0 (va_up μ (z + 0) (.inr (4, [.null, .int 0, .int 0])))).bind fun μ2 => (wrF μ2 a0 1 0 (.ref (z + 0))).bind fun μ3 => (wrF μ3 a0 1 1 (.int 0)).bind fun μ5 => (wrF μ5 a0 1 2 (.int (-1))).bind fun μ7 => (wrF μ7 a0 1 3 (.int 0)).bind fun μ9 => (wrF μ9 a0 1 4 (.int 0)).bind fun μ11 => (wrF μ11 a0 1 5 (.int 0)).bind fun μ13 => (wrF μ13 a0 1 6 (.int 0)).bind fun μ15 => (wrF μ15 a0 1 7 (.int 0)).bind fun μ17 => (wrF μ17 a0 1 8 (.int 0)).bind fun μ19 => (wrF μ19 a0 1 9 (.int 0)).bind fun μ21 => (wrF μ21 a0 1 10 (.int (-1))).bind fun μ23 => (wrF μ23 a0 1 11 (.int 0)).bind fun μ25 => some μ25
set_option maxRecDepth 100000 in
set_option maxHeartbeats 4000000 in
theorem c_X2_init {l : Launch} {g : Wg} {L : List Nat} {z : Nat} {μ : Mem} {a0 : Nat} {μ' : Mem} (hf : f_X2_init g.2 z a0 μ = some μ') : MetG l yX2_init cX2_init 1 rm_X2_init g L z μ [.ref a0] μ' := by
  refine pz_met (by decide) (Nat.le_of_ble_eq_true rfl) rfl ?_
  intro p e s m args below meth c A ls H locs hC hAW hin hz hr hlocks hl hw
  have hx := hC.1
  have hb := hC.2.1
  have hl : lv_has ls 1 [(0, .ref a0)] := hl
  unfold f_X2_init at hf
  refine lv_aload_n hx hb dX2_init_0 rfl (lv_at hl 0 rfl) ?_
  refine W.objInit hx hb hC.2.2.2.1 (hC.2.2.2.2 _ tw_58) (hC.2.2.2.2 _ tw_26) (hC.2.2.2.2 _ tw_27) rfl (hl.1.trans hC.2.2.1.symm) rfl dX2_init_1 (Nat.le_of_ble_eq_true rfl) (Nat.le_of_ble_eq_true rfl) ?_
  refine W.eq (g2 := F0 m 4 ls []) rfl ?_
  refine lv_aload_n hx hb dX2_init_4 rfl (lv_at hl 0 rfl) ?_
  refine pz_new (k := 0) (k' := 1) (slots' := 3) hC cn_X2_9 hz hw rfl rfl (by decide) (by decide) dX2_init_5 (fun H hw => ?_)
  refine lv_dup hx hb dX2_init_8 rfl ?_
  refine lv_iconst (v := 0) hx hb dX2_init_9 nc_iconst_0 ?_
  obtain ⟨μ2, h1, hf⟩ := o_bind hf
  refine pz_runI (k := 1) (k' := 2) (slots' := 3) (As := [.int 0]) (rest := [.ref (z + 0), .ref a0]) hC hAW mi_X5_init (Or.inl tw_60) hz hw (c_X5_init (n := 0) (by decide +kernel) (by decide) h1) ⟨by decide, by decide⟩ rfl hl.1 (Nat.le_of_ble_eq_true rfl) rfl rfl ⟨by decide, by decide⟩ rfl dX2_init_10 (fun H locs hw => ?_)
  obtain ⟨μ3, h4, hf⟩ := o_bind hf
  refine pw_put hC fl_X2_14 hw h4 (.object "SpanShelves$Span") fd_X2_0 rfl rfl dX2_init_13 (fun H locs hw => ?_)
  refine lv_aload_n hx hb dX2_init_16 rfl (lv_at hl 0 rfl) ?_
  refine lv_iconst (v := 0) hx hb dX2_init_17 nc_iconst_0 ?_
  obtain ⟨μ5, h6, hf⟩ := o_bind hf
  refine pw_put hC fl_X2_20 hw h6 .int fd_X2_1 rfl rfl dX2_init_18 (fun H locs hw => ?_)
  refine lv_aload_n hx hb dX2_init_21 rfl (lv_at hl 0 rfl) ?_
  refine lv_iconst (v := (-1)) hx hb dX2_init_22 nc_iconst_m1 ?_
  obtain ⟨μ7, h8, hf⟩ := o_bind hf
  refine pw_put hC fl_X2_24 hw h8 .int fd_X2_2 rfl rfl dX2_init_23 (fun H locs hw => ?_)
  refine lv_aload_n hx hb dX2_init_26 rfl (lv_at hl 0 rfl) ?_
  refine lv_iconst (v := 0) hx hb dX2_init_27 nc_iconst_0 ?_
  obtain ⟨μ9, h10, hf⟩ := o_bind hf
  refine pw_put hC fl_X2_27 hw h10 .int fd_X2_3 rfl rfl dX2_init_28 (fun H locs hw => ?_)
  refine lv_aload_n hx hb dX2_init_31 rfl (lv_at hl 0 rfl) ?_
  refine lv_iconst (v := 0) hx hb dX2_init_32 nc_iconst_0 ?_
  obtain ⟨μ11, h12, hf⟩ := o_bind hf
  refine pw_put hC fl_X2_30 hw h12 .int fd_X2_4 rfl rfl dX2_init_33 (fun H locs hw => ?_)
  refine lv_aload_n hx hb dX2_init_36 rfl (lv_at hl 0 rfl) ?_
  refine lv_iconst (v := 0) hx hb dX2_init_37 nc_iconst_0 ?_
  obtain ⟨μ13, h14, hf⟩ := o_bind hf
  refine pw_put hC fl_X2_33 hw h14 .int fd_X2_5 rfl rfl dX2_init_38 (fun H locs hw => ?_)
  refine lv_aload_n hx hb dX2_init_41 rfl (lv_at hl 0 rfl) ?_
  refine lv_iconst (v := 0) hx hb dX2_init_42 nc_iconst_0 ?_
  obtain ⟨μ15, h16, hf⟩ := o_bind hf
  refine pw_put hC fl_X2_36 hw h16 .int fd_X2_6 rfl rfl dX2_init_43 (fun H locs hw => ?_)
  refine lv_aload_n hx hb dX2_init_46 rfl (lv_at hl 0 rfl) ?_
  refine lv_iconst (v := 0) hx hb dX2_init_47 nc_iconst_0 ?_
  obtain ⟨μ17, h18, hf⟩ := o_bind hf
  refine pw_put hC fl_X2_39 hw h18 .int fd_X2_7 rfl rfl dX2_init_48 (fun H locs hw => ?_)
  refine lv_aload_n hx hb dX2_init_51 rfl (lv_at hl 0 rfl) ?_
  refine lv_iconst (v := 0) hx hb dX2_init_52 nc_iconst_0 ?_
  obtain ⟨μ19, h20, hf⟩ := o_bind hf
  refine pw_put hC fl_X2_42 hw h20 .int fd_X2_8 rfl rfl dX2_init_53 (fun H locs hw => ?_)
  refine lv_aload_n hx hb dX2_init_56 rfl (lv_at hl 0 rfl) ?_
  refine lv_iconst (v := 0) hx hb dX2_init_57 nc_iconst_0 ?_
  obtain ⟨μ21, h22, hf⟩ := o_bind hf
  refine pw_put hC fl_X2_45 hw h22 .int fd_X2_9 rfl rfl dX2_init_58 (fun H locs hw => ?_)
  refine lv_aload_n hx hb dX2_init_61 rfl (lv_at hl 0 rfl) ?_
  refine lv_iconst (v := (-1)) hx hb dX2_init_62 nc_iconst_m1 ?_
  obtain ⟨μ23, h24, hf⟩ := o_bind hf
  refine pw_put hC fl_X2_48 hw h24 .int fd_X2_10 rfl rfl dX2_init_63 (fun H locs hw => ?_)
  refine lv_aload_n hx hb dX2_init_66 rfl (lv_at hl 0 rfl) ?_
  refine lv_iconst (v := 0) hx hb dX2_init_67 nc_iconst_0 ?_
  obtain ⟨μ25, h26, hf⟩ := o_bind hf
  refine pw_put hC fl_X2_51 hw h26 .int fd_X2_11 rfl rfl dX2_init_68 (fun H locs hw => ?_)
  obtain rfl := o_retv hf
  exact pz_vret hC hr hlocks hw dX2_init_71
theorem dX3_init_0 : decode cX3_init 0 = .ok (.aload_n 0, 1) := by decide +kernel
theorem dX3_init_1 : decode cX3_init 1 = .ok (.invokespecial 3, 3) := by decide +kernel
theorem dX3_init_4 : decode cX3_init 4 = .ok (.aload_n 0, 1) := by decide +kernel
theorem dX3_init_5 : decode cX3_init 5 = .ok (.new 9, 3) := by decide +kernel
theorem dX3_init_8 : decode cX3_init 8 = .ok (.dup, 1) := by decide +kernel
theorem dX3_init_9 : decode cX3_init 9 = .ok (.sipush 2400, 3) := by decide +kernel
theorem dX3_init_12 : decode cX3_init 12 = .ok (.invokespecial 11, 3) := by decide +kernel
theorem dX3_init_15 : decode cX3_init 15 = .ok (.putfield 14, 3) := by decide +kernel
theorem dX3_init_18 : decode cX3_init 18 = .ok (.aload_n 0, 1) := by decide +kernel
theorem dX3_init_19 : decode cX3_init 19 = .ok (.bipush 24, 2) := by decide +kernel
theorem dX3_init_21 : decode cX3_init 21 = .ok (.newarray .int, 2) := by decide +kernel
theorem dX3_init_23 : decode cX3_init 23 = .ok (.putfield 20, 3) := by decide +kernel
theorem dX3_init_26 : decode cX3_init 26 = .ok (.aload_n 0, 1) := by decide +kernel
theorem dX3_init_27 : decode cX3_init 27 = .ok (.bipush 24, 2) := by decide +kernel
theorem dX3_init_29 : decode cX3_init 29 = .ok (.newarray .int, 2) := by decide +kernel
theorem dX3_init_31 : decode cX3_init 31 = .ok (.putfield 24, 3) := by decide +kernel
theorem dX3_init_34 : decode cX3_init 34 = .ok (.aload_n 0, 1) := by decide +kernel
theorem dX3_init_35 : decode cX3_init 35 = .ok (.bipush 24, 2) := by decide +kernel
theorem dX3_init_37 : decode cX3_init 37 = .ok (.newarray .int, 2) := by decide +kernel
theorem dX3_init_39 : decode cX3_init 39 = .ok (.putfield 27, 3) := by decide +kernel
theorem dX3_init_42 : decode cX3_init 42 = .ok (.aload_n 0, 1) := by decide +kernel
theorem dX3_init_43 : decode cX3_init 43 = .ok (.bipush 24, 2) := by decide +kernel
theorem dX3_init_45 : decode cX3_init 45 = .ok (.newarray .int, 2) := by decide +kernel
theorem dX3_init_47 : decode cX3_init 47 = .ok (.putfield 30, 3) := by decide +kernel
theorem dX3_init_50 : decode cX3_init 50 = .ok (.aload_n 0, 1) := by decide +kernel
theorem dX3_init_51 : decode cX3_init 51 = .ok (.iconst 0, 1) := by decide +kernel
theorem dX3_init_52 : decode cX3_init 52 = .ok (.putfield 33, 3) := by decide +kernel
theorem dX3_init_55 : decode cX3_init 55 = .ok (.aload_n 0, 1) := by decide +kernel
theorem dX3_init_56 : decode cX3_init 56 = .ok (.iconst 0, 1) := by decide +kernel
theorem dX3_init_57 : decode cX3_init 57 = .ok (.putfield 37, 3) := by decide +kernel
theorem dX3_init_60 : decode cX3_init 60 = .ok (.return_, 1) := by decide +kernel
abbrev rm_X3_init : Room := { frames := 2, cells := 6, slots := 2499, locals := 61 }
def f_X3_init (cy : Nat → ClassId) (z : Nat) (a0 : Nat) (μ : Mem) : Option Mem :=
  (f_X5_init cy (z + 1) (z + 0) 2400 (va_up μ (z + 0) (.inr (4, [.null, .int 0, .int 0])))).bind fun μ2 => (wrF μ2 a0 2 0 (.ref (z + 0))).bind fun μ3 => (wrF (va_up μ3 (z + 2) (.inl (cy 1, zA 1 24))) a0 2 1 (.ref (z + 2))).bind fun μ5 => (wrF (va_up μ5 (z + 3) (.inl (cy 1, zA 1 24))) a0 2 2 (.ref (z + 3))).bind fun μ7 => (wrF (va_up μ7 (z + 4) (.inl (cy 1, zA 1 24))) a0 2 3 (.ref (z + 4))).bind fun μ9 => (wrF (va_up μ9 (z + 5) (.inl (cy 1, zA 1 24))) a0 2 4 (.ref (z + 5))).bind fun μ11 => (wrF μ11 a0 2 5 (.int 0)).bind fun μ13 => (wrF μ13 a0 2 6 (.int 0)).bind fun μ15 => some μ15
set_option maxRecDepth 100000 in
set_option maxHeartbeats 4000000 in
theorem c_X3_init {l : Launch} {g : Wg} {L : List Nat} {z : Nat} {μ : Mem} {a0 : Nat} {μ' : Mem} (hf : f_X3_init g.2 z a0 μ = some μ') : MetG l yX3_init cX3_init 1 rm_X3_init g L z μ [.ref a0] μ' := by
  refine pz_met (by decide) (Nat.le_of_ble_eq_true rfl) rfl ?_
  intro p e s m args below meth c A ls H locs hC hAW hin hz hr hlocks hl hw
  have hx := hC.1
  have hb := hC.2.1
  have hl : lv_has ls 1 [(0, .ref a0)] := hl
  unfold f_X3_init at hf
  refine lv_aload_n hx hb dX3_init_0 rfl (lv_at hl 0 rfl) ?_
  refine W.objInit hx hb hC.2.2.2.1 (hC.2.2.2.2 _ tw_150) (hC.2.2.2.2 _ tw_26) (hC.2.2.2.2 _ tw_27) rfl (hl.1.trans hC.2.2.1.symm) rfl dX3_init_1 (Nat.le_of_ble_eq_true rfl) (Nat.le_of_ble_eq_true rfl) ?_
  refine W.eq (g2 := F0 m 4 ls []) rfl ?_
  refine lv_aload_n hx hb dX3_init_4 rfl (lv_at hl 0 rfl) ?_
  refine pz_new (k := 0) (k' := 1) (slots' := 3) hC cn_X3_9 hz hw rfl rfl (by decide) (by decide) dX3_init_5 (fun H hw => ?_)
  refine lv_dup hx hb dX3_init_8 rfl ?_
  refine lv_sipush (v := 2400) hx hb dX3_init_9 nc_sipush_2400 ?_
  obtain ⟨μ2, h1, hf⟩ := o_bind hf
  refine pz_runI (k := 1) (k' := 2) (slots' := 2403) (As := [.int 2400]) (rest := [.ref (z + 0), .ref a0]) hC hAW mi_X5_init (Or.inl tw_152) hz hw (c_X5_init (n := 2400) (by decide +kernel) (by decide) h1) ⟨by decide, by decide⟩ rfl hl.1 (Nat.le_of_ble_eq_true rfl) rfl rfl ⟨by decide, by decide⟩ rfl dX3_init_12 (fun H locs hw => ?_)
  obtain ⟨μ3, h4, hf⟩ := o_bind hf
  refine pz_putF hC fl_X3_14 hin hw h4 (.object "SpanShelves$Span") fdF_X3_0 (show _ from tw_153) rfl rfl dX3_init_15 (fun H locs hw => ?_)
  refine lv_aload_n hx hb dX3_init_18 rfl (lv_at hl 0 rfl) ?_
  refine lv_bipush (v := 24) hx hb dX3_init_19 nc_bipush_24 ?_
  refine pz_newa (k := 2) (k' := 3) (slots' := 2427) (N := 24) (atype := .int) hC hAW 1 trivial hz hw (by decide +kernel) (by decide +kernel) (by decide) rfl rfl (by decide) (by decide) dX3_init_21 (fun H hw => ?_)
  obtain ⟨μ5, h6, hf⟩ := o_bind hf
  refine pz_putF hC fl_X3_20 hin hw h6 (.array .int) fdF_X3_1 (show _ from tw_155) rfl rfl dX3_init_23 (fun H locs hw => ?_)
  refine lv_aload_n hx hb dX3_init_26 rfl (lv_at hl 0 rfl) ?_
  refine lv_bipush (v := 24) hx hb dX3_init_27 nc_bipush_24 ?_
  refine pz_newa (k := 3) (k' := 4) (slots' := 2451) (N := 24) (atype := .int) hC hAW 1 trivial hz hw (by decide +kernel) (by decide +kernel) (by decide) rfl rfl (by decide) (by decide) dX3_init_29 (fun H hw => ?_)
  obtain ⟨μ7, h8, hf⟩ := o_bind hf
  refine pz_putF hC fl_X3_24 hin hw h8 (.array .int) fdF_X3_2 (show _ from tw_156) rfl rfl dX3_init_31 (fun H locs hw => ?_)
  refine lv_aload_n hx hb dX3_init_34 rfl (lv_at hl 0 rfl) ?_
  refine lv_bipush (v := 24) hx hb dX3_init_35 nc_bipush_24 ?_
  refine pz_newa (k := 4) (k' := 5) (slots' := 2475) (N := 24) (atype := .int) hC hAW 1 trivial hz hw (by decide +kernel) (by decide +kernel) (by decide) rfl rfl (by decide) (by decide) dX3_init_37 (fun H hw => ?_)
  obtain ⟨μ9, h10, hf⟩ := o_bind hf
  refine pz_putF hC fl_X3_27 hin hw h10 (.array .int) fdF_X3_3 (show _ from tw_157) rfl rfl dX3_init_39 (fun H locs hw => ?_)
  refine lv_aload_n hx hb dX3_init_42 rfl (lv_at hl 0 rfl) ?_
  refine lv_bipush (v := 24) hx hb dX3_init_43 nc_bipush_24 ?_
  refine pz_newa (k := 5) (k' := 6) (slots' := 2499) (N := 24) (atype := .int) hC hAW 1 trivial hz hw (by decide +kernel) (by decide +kernel) (by decide) rfl rfl (by decide) (by decide) dX3_init_45 (fun H hw => ?_)
  obtain ⟨μ11, h12, hf⟩ := o_bind hf
  refine pz_putF hC fl_X3_30 hin hw h12 (.array .int) fdF_X3_4 (show _ from tw_158) rfl rfl dX3_init_47 (fun H locs hw => ?_)
  refine lv_aload_n hx hb dX3_init_50 rfl (lv_at hl 0 rfl) ?_
  refine lv_iconst (v := 0) hx hb dX3_init_51 nc_iconst_0 ?_
  obtain ⟨μ13, h14, hf⟩ := o_bind hf
  refine pw_put hC fl_X3_33 hw h14 .int fd_X3_5 rfl rfl dX3_init_52 (fun H locs hw => ?_)
  refine lv_aload_n hx hb dX3_init_55 rfl (lv_at hl 0 rfl) ?_
  refine lv_iconst (v := 0) hx hb dX3_init_56 nc_iconst_0 ?_
  obtain ⟨μ15, h16, hf⟩ := o_bind hf
  refine pw_put hC fl_X3_37 hw h16 .boolean fd_X3_6 (by decide +kernel) rfl dX3_init_57 (fun H locs hw => ?_)
  obtain rfl := o_retv hf
  exact pz_vret hC hr hlocks hw dX3_init_60
theorem dX4_init_0 : decode cX4_init 0 = .ok (.aload_n 0, 1) := by decide +kernel
theorem dX4_init_1 : decode cX4_init 1 = .ok (.invokespecial 3, 3) := by decide +kernel
theorem dX4_init_4 : decode cX4_init 4 = .ok (.aload_n 0, 1) := by decide +kernel
theorem dX4_init_5 : decode cX4_init 5 = .ok (.new 9, 3) := by decide +kernel
theorem dX4_init_8 : decode cX4_init 8 = .ok (.dup, 1) := by decide +kernel
theorem dX4_init_9 : decode cX4_init 9 = .ok (.sipush 2400, 3) := by decide +kernel
theorem dX4_init_12 : decode cX4_init 12 = .ok (.invokespecial 11, 3) := by decide +kernel
theorem dX4_init_15 : decode cX4_init 15 = .ok (.putfield 14, 3) := by decide +kernel
theorem dX4_init_18 : decode cX4_init 18 = .ok (.aload_n 0, 1) := by decide +kernel
theorem dX4_init_19 : decode cX4_init 19 = .ok (.new 20, 3) := by decide +kernel
theorem dX4_init_22 : decode cX4_init 22 = .ok (.dup, 1) := by decide +kernel
theorem dX4_init_23 : decode cX4_init 23 = .ok (.invokespecial 22, 3) := by decide +kernel
theorem dX4_init_26 : decode cX4_init 26 = .ok (.putfield 23, 3) := by decide +kernel
theorem dX4_init_29 : decode cX4_init 29 = .ok (.aload_n 0, 1) := by decide +kernel
theorem dX4_init_30 : decode cX4_init 30 = .ok (.iconst 0, 1) := by decide +kernel
theorem dX4_init_31 : decode cX4_init 31 = .ok (.putfield 27, 3) := by decide +kernel
theorem dX4_init_34 : decode cX4_init 34 = .ok (.aload_n 0, 1) := by decide +kernel
theorem dX4_init_35 : decode cX4_init 35 = .ok (.iconst (-1), 1) := by decide +kernel
theorem dX4_init_36 : decode cX4_init 36 = .ok (.putfield 31, 3) := by decide +kernel
theorem dX4_init_39 : decode cX4_init 39 = .ok (.aload_n 0, 1) := by decide +kernel
theorem dX4_init_40 : decode cX4_init 40 = .ok (.iconst 0, 1) := by decide +kernel
theorem dX4_init_41 : decode cX4_init 41 = .ok (.putfield 34, 3) := by decide +kernel
theorem dX4_init_44 : decode cX4_init 44 = .ok (.aload_n 0, 1) := by decide +kernel
theorem dX4_init_45 : decode cX4_init 45 = .ok (.iconst 0, 1) := by decide +kernel
theorem dX4_init_46 : decode cX4_init 46 = .ok (.putfield 37, 3) := by decide +kernel
theorem dX4_init_49 : decode cX4_init 49 = .ok (.aload_n 0, 1) := by decide +kernel
theorem dX4_init_50 : decode cX4_init 50 = .ok (.aload_n 1, 1) := by decide +kernel
theorem dX4_init_51 : decode cX4_init 51 = .ok (.putfield 40, 3) := by decide +kernel
theorem dX4_init_54 : decode cX4_init 54 = .ok (.return_, 1) := by decide +kernel
abbrev rm_X4_init : Room := { frames := 2, cells := 8, slots := 3708, locals := 61 }
def f_X4_init (cy : Nat → ClassId) (z : Nat) (a0 : Nat) (a1 : Nat) (μ : Mem) : Option Mem :=
  (f_X5_init cy (z + 1) (z + 0) 2400 (va_up μ (z + 0) (.inr (4, [.null, .int 0, .int 0])))).bind fun μ2 => (wrF μ2 a0 3 0 (.ref (z + 0))).bind fun μ3 => (f_X0_init cy (z + 3) (z + 2) (va_up μ3 (z + 2) (.inr (0, [.null, .null, .null, .null, .int 0, .int 0, .null, .int 0])))).bind fun μ6 => (wrF μ6 a0 3 1 (.ref (z + 2))).bind fun μ7 => (wrF μ7 a0 3 3 (.int 0)).bind fun μ9 => (wrF μ9 a0 3 4 (.int (-1))).bind fun μ11 => (wrF μ11 a0 3 5 (.int 0)).bind fun μ13 => (wrF μ13 a0 3 6 (.int 0)).bind fun μ15 => (wrF μ15 a0 3 2 (.ref a1)).bind fun μ17 => some μ17
set_option maxRecDepth 100000 in
set_option maxHeartbeats 4000000 in
theorem c_X4_init {l : Launch} {g : Wg} {L : List Nat} {z : Nat} {μ : Mem} {a0 : Nat} {a1 : Nat} {μ' : Mem} (hf : f_X4_init g.2 z a0 a1 μ = some μ') : MetG l yX4_init cX4_init 2 rm_X4_init g L z μ [.ref a0, .ref a1] μ' := by
  refine pz_met (by decide) (Nat.le_of_ble_eq_true rfl) rfl ?_
  intro p e s m args below meth c A ls H locs hC hAW hin hz hr hlocks hl hw
  have hx := hC.1
  have hb := hC.2.1
  have hl : lv_has ls 2 [(0, .ref a0), (1, .ref a1)] := hl
  unfold f_X4_init at hf
  refine lv_aload_n hx hb dX4_init_0 rfl (lv_at hl 0 rfl) ?_
  refine W.objInit hx hb hC.2.2.2.1 (hC.2.2.2.2 _ tw_191) (hC.2.2.2.2 _ tw_26) (hC.2.2.2.2 _ tw_27) rfl (hl.1.trans hC.2.2.1.symm) rfl dX4_init_1 (Nat.le_of_ble_eq_true rfl) (Nat.le_of_ble_eq_true rfl) ?_
  refine W.eq (g2 := F0 m 4 ls []) rfl ?_
  refine lv_aload_n hx hb dX4_init_4 rfl (lv_at hl 0 rfl) ?_
  refine pz_new (k := 0) (k' := 1) (slots' := 3) hC cn_X4_9 hz hw rfl rfl (by decide) (by decide) dX4_init_5 (fun H hw => ?_)
  refine lv_dup hx hb dX4_init_8 rfl ?_
  refine lv_sipush (v := 2400) hx hb dX4_init_9 nc_sipush_2400 ?_
  obtain ⟨μ2, h1, hf⟩ := o_bind hf
  refine pz_runI (k := 1) (k' := 2) (slots' := 2403) (As := [.int 2400]) (rest := [.ref (z + 0), .ref a0]) hC hAW mi_X5_init (Or.inl tw_193) hz hw (c_X5_init (n := 2400) (by decide +kernel) (by decide) h1) ⟨by decide, by decide⟩ rfl hl.1 (Nat.le_of_ble_eq_true rfl) rfl rfl ⟨by decide, by decide⟩ rfl dX4_init_12 (fun H locs hw => ?_)
  obtain ⟨μ3, h4, hf⟩ := o_bind hf
  refine pz_putF hC fl_X4_14 hin hw h4 (.object "SpanShelves$Span") fdF_X4_0 (show _ from tw_196) rfl rfl dX4_init_15 (fun H locs hw => ?_)
  refine lv_aload_n hx hb dX4_init_18 rfl (lv_at hl 0 rfl) ?_
  refine pz_new (k := 2) (k' := 3) (slots' := 2411) hC cn_X4_20 hz hw rfl rfl (by decide) (by decide) dX4_init_19 (fun H hw => ?_)
  refine lv_dup hx hb dX4_init_22 rfl ?_
  obtain ⟨μ6, h5, hf⟩ := o_bind hf
  refine pz_runI (k := 3) (k' := 8) (slots' := 3708) (As := []) (rest := [.ref (z + 2), .ref a0]) hC hAW mi_X0_init (Or.inr ⟨_, tw_195⟩) hz hw (c_X0_init h5) ⟨by decide, by decide⟩ rfl hl.1 (Nat.le_of_ble_eq_true rfl) rfl rfl ⟨by decide, by decide⟩ rfl dX4_init_23 (fun H locs hw => ?_)
  obtain ⟨μ7, h8, hf⟩ := o_bind hf
  refine pz_putF hC fl_X4_23 hin hw h8 (.object "SpanShelves$Cursor") fdF_X4_1 (show _ from tw_198) rfl rfl dX4_init_26 (fun H locs hw => ?_)
  refine lv_aload_n hx hb dX4_init_29 rfl (lv_at hl 0 rfl) ?_
  refine lv_iconst (v := 0) hx hb dX4_init_30 nc_iconst_0 ?_
  obtain ⟨μ9, h10, hf⟩ := o_bind hf
  refine pw_put hC fl_X4_27 hw h10 .int fd_X4_3 rfl rfl dX4_init_31 (fun H locs hw => ?_)
  refine lv_aload_n hx hb dX4_init_34 rfl (lv_at hl 0 rfl) ?_
  refine lv_iconst (v := (-1)) hx hb dX4_init_35 nc_iconst_m1 ?_
  obtain ⟨μ11, h12, hf⟩ := o_bind hf
  refine pw_put hC fl_X4_31 hw h12 .int fd_X4_4 rfl rfl dX4_init_36 (fun H locs hw => ?_)
  refine lv_aload_n hx hb dX4_init_39 rfl (lv_at hl 0 rfl) ?_
  refine lv_iconst (v := 0) hx hb dX4_init_40 nc_iconst_0 ?_
  obtain ⟨μ13, h14, hf⟩ := o_bind hf
  refine pw_put hC fl_X4_34 hw h14 .int fd_X4_5 rfl rfl dX4_init_41 (fun H locs hw => ?_)
  refine lv_aload_n hx hb dX4_init_44 rfl (lv_at hl 0 rfl) ?_
  refine lv_iconst (v := 0) hx hb dX4_init_45 nc_iconst_0 ?_
  obtain ⟨μ15, h16, hf⟩ := o_bind hf
  refine pw_put hC fl_X4_37 hw h16 .int fd_X4_6 rfl rfl dX4_init_46 (fun H locs hw => ?_)
  refine lv_aload_n hx hb dX4_init_49 rfl (lv_at hl 0 rfl) ?_
  refine lv_aload_n hx hb dX4_init_50 rfl (lv_at hl 1 rfl) ?_
  obtain ⟨μ17, h18, hf⟩ := o_bind hf
  refine pz_putF hC fl_X4_40 hin hw h18 (.object "SpanShelves$Span") fdF_X4_2 (show _ from tw_200) rfl rfl dX4_init_51 (fun H locs hw => ?_)
  obtain rfl := o_retv hf
  exact pz_vret hC hr hlocks hw dX4_init_54
theorem dX6_init_0 : decode cX6_init 0 = .ok (.aload_n 0, 1) := by decide +kernel
theorem dX6_init_1 : decode cX6_init 1 = .ok (.invokespecial 1, 3) := by decide +kernel
theorem dX6_init_4 : decode cX6_init 4 = .ok (.aload_n 0, 1) := by decide +kernel
theorem dX6_init_5 : decode cX6_init 5 = .ok (.new 7, 3) := by decide +kernel
theorem dX6_init_8 : decode cX6_init 8 = .ok (.dup, 1) := by decide +kernel
theorem dX6_init_9 : decode cX6_init 9 = .ok (.sipush 2000, 3) := by decide +kernel
theorem dX6_init_12 : decode cX6_init 12 = .ok (.invokespecial 11, 3) := by decide +kernel
theorem dX6_init_15 : decode cX6_init 15 = .ok (.putfield 14, 3) := by decide +kernel
theorem dX6_init_18 : decode cX6_init 18 = .ok (.aload_n 0, 1) := by decide +kernel
theorem dX6_init_19 : decode cX6_init 19 = .ok (.new 7, 3) := by decide +kernel
theorem dX6_init_22 : decode cX6_init 22 = .ok (.dup, 1) := by decide +kernel
theorem dX6_init_23 : decode cX6_init 23 = .ok (.sipush 2000, 3) := by decide +kernel
theorem dX6_init_26 : decode cX6_init 26 = .ok (.invokespecial 11, 3) := by decide +kernel
theorem dX6_init_29 : decode cX6_init 29 = .ok (.putfield 18, 3) := by decide +kernel
theorem dX6_init_32 : decode cX6_init 32 = .ok (.aload_n 0, 1) := by decide +kernel
theorem dX6_init_33 : decode cX6_init 33 = .ok (.new 7, 3) := by decide +kernel
theorem dX6_init_36 : decode cX6_init 36 = .ok (.dup, 1) := by decide +kernel
theorem dX6_init_37 : decode cX6_init 37 = .ok (.bipush 8, 2) := by decide +kernel
theorem dX6_init_39 : decode cX6_init 39 = .ok (.invokespecial 11, 3) := by decide +kernel
theorem dX6_init_42 : decode cX6_init 42 = .ok (.putfield 21, 3) := by decide +kernel
theorem dX6_init_45 : decode cX6_init 45 = .ok (.aload_n 0, 1) := by decide +kernel
theorem dX6_init_46 : decode cX6_init 46 = .ok (.new 24, 3) := by decide +kernel
theorem dX6_init_49 : decode cX6_init 49 = .ok (.dup, 1) := by decide +kernel
theorem dX6_init_50 : decode cX6_init 50 = .ok (.invokespecial 26, 3) := by decide +kernel
theorem dX6_init_53 : decode cX6_init 53 = .ok (.putfield 27, 3) := by decide +kernel
theorem dX6_init_56 : decode cX6_init 56 = .ok (.aload_n 0, 1) := by decide +kernel
theorem dX6_init_57 : decode cX6_init 57 = .ok (.iconst 4, 1) := by decide +kernel
theorem dX6_init_58 : decode cX6_init 58 = .ok (.anewarray 31, 3) := by decide +kernel
theorem dX6_init_61 : decode cX6_init 61 = .ok (.putfield 33, 3) := by decide +kernel
theorem dX6_init_64 : decode cX6_init 64 = .ok (.aload_n 0, 1) := by decide +kernel
theorem dX6_init_65 : decode cX6_init 65 = .ok (.new 37, 3) := by decide +kernel
theorem dX6_init_68 : decode cX6_init 68 = .ok (.dup, 1) := by decide +kernel
theorem dX6_init_69 : decode cX6_init 69 = .ok (.invokespecial 39, 3) := by decide +kernel
theorem dX6_init_72 : decode cX6_init 72 = .ok (.putfield 40, 3) := by decide +kernel
theorem dX6_init_75 : decode cX6_init 75 = .ok (.aload_n 0, 1) := by decide +kernel
theorem dX6_init_76 : decode cX6_init 76 = .ok (.new 44, 3) := by decide +kernel
theorem dX6_init_79 : decode cX6_init 79 = .ok (.dup, 1) := by decide +kernel
theorem dX6_init_80 : decode cX6_init 80 = .ok (.invokespecial 46, 3) := by decide +kernel
theorem dX6_init_83 : decode cX6_init 83 = .ok (.putfield 47, 3) := by decide +kernel
theorem dX6_init_86 : decode cX6_init 86 = .ok (.aload_n 0, 1) := by decide +kernel
theorem dX6_init_87 : decode cX6_init 87 = .ok (.iconst 0, 1) := by decide +kernel
theorem dX6_init_88 : decode cX6_init 88 = .ok (.putfield 51, 3) := by decide +kernel
theorem dX6_init_91 : decode cX6_init 91 = .ok (.aload_n 0, 1) := by decide +kernel
theorem dX6_init_92 : decode cX6_init 92 = .ok (.iconst (-1), 1) := by decide +kernel
theorem dX6_init_93 : decode cX6_init 93 = .ok (.putfield 55, 3) := by decide +kernel
theorem dX6_init_96 : decode cX6_init 96 = .ok (.aload_n 0, 1) := by decide +kernel
theorem dX6_init_97 : decode cX6_init 97 = .ok (.iconst (-1), 1) := by decide +kernel
theorem dX6_init_98 : decode cX6_init 98 = .ok (.putfield 58, 3) := by decide +kernel
theorem dX6_init_101 : decode cX6_init 101 = .ok (.new 7, 3) := by decide +kernel
theorem dX6_init_104 : decode cX6_init 104 = .ok (.dup, 1) := by decide +kernel
theorem dX6_init_105 : decode cX6_init 105 = .ok (.iconst 5, 1) := by decide +kernel
theorem dX6_init_106 : decode cX6_init 106 = .ok (.invokespecial 11, 3) := by decide +kernel
theorem dX6_init_109 : decode cX6_init 109 = .ok (.astore_n 1, 1) := by decide +kernel
theorem dX6_init_110 : decode cX6_init 110 = .ok (.aload_n 1, 1) := by decide +kernel
theorem dX6_init_111 : decode cX6_init 111 = .ok (.ldc2_w 61, 3) := by decide +kernel
theorem dX6_init_114 : decode cX6_init 114 = .ok (.iconst 5, 1) := by decide +kernel
theorem dX6_init_115 : decode cX6_init 115 = .ok (.invokevirtual 63, 3) := by decide +kernel
theorem dX6_init_118 : decode cX6_init 118 = .ok (.new 7, 3) := by decide +kernel
theorem dX6_init_121 : decode cX6_init 121 = .ok (.dup, 1) := by decide +kernel
theorem dX6_init_122 : decode cX6_init 122 = .ok (.sipush 2400, 3) := by decide +kernel
theorem dX6_init_125 : decode cX6_init 125 = .ok (.invokespecial 11, 3) := by decide +kernel
theorem dX6_init_128 : decode cX6_init 128 = .ok (.astore_n 2, 1) := by decide +kernel
theorem dX6_init_129 : decode cX6_init 129 = .ok (.iconst 0, 1) := by decide +kernel
theorem dX6_init_130 : decode cX6_init 130 = .ok (.istore_n 3, 1) := by decide +kernel
theorem dX6_init_131 : decode cX6_init 131 = .ok (.iload_n 3, 1) := by decide +kernel
theorem dX6_init_132 : decode cX6_init 132 = .ok (.iconst 4, 1) := by decide +kernel
theorem dX6_init_133 : decode cX6_init 133 = .ok (.if_icmp .ge 33, 3) := by decide +kernel
theorem dX6_init_136 : decode cX6_init 136 = .ok (.new 31, 3) := by decide +kernel
theorem dX6_init_139 : decode cX6_init 139 = .ok (.dup, 1) := by decide +kernel
theorem dX6_init_140 : decode cX6_init 140 = .ok (.aload_n 2, 1) := by decide +kernel
theorem dX6_init_141 : decode cX6_init 141 = .ok (.invokespecial 67, 3) := by decide +kernel
theorem dX6_init_144 : decode cX6_init 144 = .ok (.astore 4, 2) := by decide +kernel
theorem dX6_init_146 : decode cX6_init 146 = .ok (.aload 4, 2) := by decide +kernel
theorem dX6_init_148 : decode cX6_init 148 = .ok (.aload_n 1, 1) := by decide +kernel
theorem dX6_init_149 : decode cX6_init 149 = .ok (.invokevirtual 70, 3) := by decide +kernel
theorem dX6_init_152 : decode cX6_init 152 = .ok (.aload_n 0, 1) := by decide +kernel
theorem dX6_init_153 : decode cX6_init 153 = .ok (.getfield 33, 3) := by decide +kernel
theorem dX6_init_156 : decode cX6_init 156 = .ok (.iload_n 3, 1) := by decide +kernel
theorem dX6_init_157 : decode cX6_init 157 = .ok (.aload 4, 2) := by decide +kernel
theorem dX6_init_159 : decode cX6_init 159 = .ok (.aastore, 1) := by decide +kernel
theorem dX6_init_160 : decode cX6_init 160 = .ok (.iinc 3 1, 3) := by decide +kernel
theorem dX6_init_163 : decode cX6_init 163 = .ok (.goto (-32), 3) := by decide +kernel
theorem dX6_init_166 : decode cX6_init 166 = .ok (.return_, 1) := by decide +kernel
abbrev rm_X6_init : Room := { frames := 6, cells := 63, slots := 25118, locals := 133 }
def f_X6_init (cy : Nat → ClassId) (z : Nat) (a0 : Nat) (μ : Mem) : Option Mem :=
  (f_X5_init cy (z + 1) (z + 0) 2000 (va_up μ (z + 0) (.inr (4, [.null, .int 0, .int 0])))).bind fun μ2 => (wrF μ2 a0 5 0 (.ref (z + 0))).bind fun μ3 => (f_X5_init cy (z + 3) (z + 2) 2000 (va_up μ3 (z + 2) (.inr (4, [.null, .int 0, .int 0])))).bind fun μ6 => (wrF μ6 a0 5 1 (.ref (z + 2))).bind fun μ7 => (f_X5_init cy (z + 5) (z + 4) 8 (va_up μ7 (z + 4) (.inr (4, [.null, .int 0, .int 0])))).bind fun μ10 => (wrF μ10 a0 5 2 (.ref (z + 4))).bind fun μ11 => (f_X2_init cy (z + 7) (z + 6) (va_up μ11 (z + 6) (.inr (1, [.null, .int 0, .int 0, .int 0, .int 0, .int 0, .int 0, .int 0, .int 0, .int 0, .int 0, .int 0])))).bind fun μ14 => (wrF μ14 a0 5 3 (.ref (z + 6))).bind fun μ15 => (wrF (va_up μ15 (z + 9) (.inl (cy 4, 4, .inr (.inr (.inr (.inr (fun _ => none))))))) a0 5 4 (.ref (z + 9))).bind fun μ17 => (f_X0_init cy (z + 11) (z + 10) (va_up μ17 (z + 10) (.inr (0, [.null, .null, .null, .null, .int 0, .int 0, .null, .int 0])))).bind fun μ20 => (wrF μ20 a0 5 5 (.ref (z + 10))).bind fun μ21 => (f_X3_init cy (z + 17) (z + 16) (va_up μ21 (z + 16) (.inr (2, [.null, .null, .null, .null, .null, .int 0, .int 0])))).bind fun μ24 => (wrF μ24 a0 5 6 (.ref (z + 16))).bind fun μ25 => (wrF μ25 a0 5 7 (.int 0)).bind fun μ27 => (wrF μ27 a0 5 8 (.int (-1))).bind fun μ29 => (wrF μ29 a0 5 9 (.int (-1))).bind fun μ31 => (f_X5_init cy (z + 24) (z + 23) 5 (va_up μ31 (z + 23) (.inr (4, [.null, .int 0, .int 0])))).bind fun μ34 => if isO μ34 (z + 23) 4 = true then ((f_X5_appendLowestFirst cy (z + 23) (5 : Int64) 5 μ34).bind fun μ37 => (f_X5_init cy (z + 26) (z + 25) 2400 (va_up μ37 (z + 25) (.inr (4, [.null, .int 0, .int 0])))).bind fun μ39 => (f_X4_init cy (z + 28) (z + 27) (z + 25) (va_up μ39 (z + 27) (.inr (3, [.null, .null, .null, .int 0, .int 0, .int 0, .int 0])))).bind fun μ42 => if isO μ42 (z + 27) 3 = true then ((f_X4_become cy (z + 27) (z + 23) μ42).bind fun μ45 => (rdR μ45 a0 5 4).bind fun q46 => (wrQ cy μ45 q46 0 (z + 27)).bind fun μ48 => (f_X4_init cy (z + 37) (z + 36) (z + 25) (va_up μ48 (z + 36) (.inr (3, [.null, .null, .null, .int 0, .int 0, .int 0, .int 0])))).bind fun μ52 => if isO μ52 (z + 36) 3 = true then ((f_X4_become cy (z + 36) (z + 23) μ52).bind fun μ55 => (rdR μ55 a0 5 4).bind fun q56 => (wrQ cy μ55 q56 1 (z + 36)).bind fun μ58 => (f_X4_init cy (z + 46) (z + 45) (z + 25) (va_up μ58 (z + 45) (.inr (3, [.null, .null, .null, .int 0, .int 0, .int 0, .int 0])))).bind fun μ62 => if isO μ62 (z + 45) 3 = true then ((f_X4_become cy (z + 45) (z + 23) μ62).bind fun μ65 => (rdR μ65 a0 5 4).bind fun q66 => (wrQ cy μ65 q66 2 (z + 45)).bind fun μ68 => (f_X4_init cy (z + 55) (z + 54) (z + 25) (va_up μ68 (z + 54) (.inr (3, [.null, .null, .null, .int 0, .int 0, .int 0, .int 0])))).bind fun μ72 => if isO μ72 (z + 54) 3 = true then ((f_X4_become cy (z + 54) (z + 23) μ72).bind fun μ75 => (rdR μ75 a0 5 4).bind fun q76 => (wrQ cy μ75 q76 3 (z + 54)).bind fun μ78 => some μ78) else none) else none) else none) else none) else none
set_option maxRecDepth 100000 in
set_option maxHeartbeats 4000000 in
theorem c_X6_init {l : Launch} {g : Wg} {L : List Nat} {z : Nat} {μ : Mem} {a0 : Nat} {μ' : Mem} (hf : f_X6_init g.2 z a0 μ = some μ') : MetG l yX6_init cX6_init 5 rm_X6_init g L z μ [.ref a0] μ' := by
  refine pz_met (by decide) (Nat.le_of_ble_eq_true rfl) rfl ?_
  intro p e s m args below meth c A ls H locs hC hAW hin hz hr hlocks hl hw
  have hx := hC.1
  have hb := hC.2.1
  have hl : lv_has ls 5 [(0, .ref a0)] := hl
  unfold f_X6_init at hf
  refine lv_aload_n hx hb dX6_init_0 rfl (lv_at hl 0 rfl) ?_
  refine W.objInit hx hb hC.2.2.2.1 (hC.2.2.2.2 _ tw_25) (hC.2.2.2.2 _ tw_26) (hC.2.2.2.2 _ tw_27) rfl (hl.1.trans hC.2.2.1.symm) rfl dX6_init_1 (Nat.le_of_ble_eq_true rfl) (Nat.le_of_ble_eq_true rfl) ?_
  refine W.eq (g2 := F0 m 4 ls []) rfl ?_
  refine lv_aload_n hx hb dX6_init_4 rfl (lv_at hl 0 rfl) ?_
  refine pz_new (k := 0) (k' := 1) (slots' := 3) hC cn_X6_7 hz hw rfl rfl (by decide) (by decide) dX6_init_5 (fun H hw => ?_)
  refine lv_dup hx hb dX6_init_8 rfl ?_
  refine lv_sipush (v := 2000) hx hb dX6_init_9 nc_sipush_2000 ?_
  obtain ⟨μ2, h1, hf⟩ := o_bind hf
  refine pz_runI (k := 1) (k' := 2) (slots' := 2003) (As := [.int 2000]) (rest := [.ref (z + 0), .ref a0]) hC hAW mi_X5_init (Or.inl tw_30) hz hw (c_X5_init (n := 2000) (by decide +kernel) (by decide) h1) ⟨by decide, by decide⟩ rfl hl.1 (Nat.le_of_ble_eq_true rfl) rfl rfl ⟨by decide, by decide⟩ rfl dX6_init_12 (fun H locs hw => ?_)
  obtain ⟨μ3, h4, hf⟩ := o_bind hf
  refine pz_putF hC fl_X6_14 hin hw h4 (.object "SpanShelves$Span") fdF_X6_0 (show _ from tw_286) rfl rfl dX6_init_15 (fun H locs hw => ?_)
  refine lv_aload_n hx hb dX6_init_18 rfl (lv_at hl 0 rfl) ?_
  refine pz_new (k := 2) (k' := 3) (slots' := 2006) hC cn_X6_7 hz hw rfl rfl (by decide) (by decide) dX6_init_19 (fun H hw => ?_)
  refine lv_dup hx hb dX6_init_22 rfl ?_
  refine lv_sipush (v := 2000) hx hb dX6_init_23 nc_sipush_2000 ?_
  obtain ⟨μ6, h5, hf⟩ := o_bind hf
  refine pz_runI (k := 3) (k' := 4) (slots' := 4006) (As := [.int 2000]) (rest := [.ref (z + 2), .ref a0]) hC hAW mi_X5_init (Or.inl tw_30) hz hw (c_X5_init (n := 2000) (by decide +kernel) (by decide) h5) ⟨by decide, by decide⟩ rfl hl.1 (Nat.le_of_ble_eq_true rfl) rfl rfl ⟨by decide, by decide⟩ rfl dX6_init_26 (fun H locs hw => ?_)
  obtain ⟨μ7, h8, hf⟩ := o_bind hf
  refine pz_putF hC fl_X6_18 hin hw h8 (.object "SpanShelves$Span") fdF_X6_1 (show _ from tw_287) rfl rfl dX6_init_29 (fun H locs hw => ?_)
  refine lv_aload_n hx hb dX6_init_32 rfl (lv_at hl 0 rfl) ?_
  refine pz_new (k := 4) (k' := 5) (slots' := 4009) hC cn_X6_7 hz hw rfl rfl (by decide) (by decide) dX6_init_33 (fun H hw => ?_)
  refine lv_dup hx hb dX6_init_36 rfl ?_
  refine lv_bipush (v := 8) hx hb dX6_init_37 nc_bipush_8 ?_
  obtain ⟨μ10, h9, hf⟩ := o_bind hf
  refine pz_runI (k := 5) (k' := 6) (slots' := 4017) (As := [.int 8]) (rest := [.ref (z + 4), .ref a0]) hC hAW mi_X5_init (Or.inl tw_30) hz hw (c_X5_init (n := 8) (by decide +kernel) (by decide) h9) ⟨by decide, by decide⟩ rfl hl.1 (Nat.le_of_ble_eq_true rfl) rfl rfl ⟨by decide, by decide⟩ rfl dX6_init_39 (fun H locs hw => ?_)
  obtain ⟨μ11, h12, hf⟩ := o_bind hf
  refine pz_putF hC fl_X6_21 hin hw h12 (.object "SpanShelves$Span") fdF_X6_2 (show _ from tw_288) rfl rfl dX6_init_42 (fun H locs hw => ?_)
  refine lv_aload_n hx hb dX6_init_45 rfl (lv_at hl 0 rfl) ?_
  refine pz_new (k := 6) (k' := 7) (slots' := 4029) hC cn_X6_24 hz hw rfl rfl (by decide) (by decide) dX6_init_46 (fun H hw => ?_)
  refine lv_dup hx hb dX6_init_49 rfl ?_
  obtain ⟨μ14, h13, hf⟩ := o_bind hf
  refine pz_runI (k := 7) (k' := 9) (slots' := 4032) (As := []) (rest := [.ref (z + 6), .ref a0]) hC hAW mi_X2_init (Or.inr ⟨_, tw_55⟩) hz hw (c_X2_init h13) ⟨by decide, by decide⟩ rfl hl.1 (Nat.le_of_ble_eq_true rfl) rfl rfl ⟨by decide, by decide⟩ rfl dX6_init_50 (fun H locs hw => ?_)
  obtain ⟨μ15, h16, hf⟩ := o_bind hf
  refine pz_putF hC fl_X6_27 hin hw h16 (.object "SpanShelves$Reader") fdF_X6_3 (show _ from tw_289) rfl rfl dX6_init_53 (fun H locs hw => ?_)
  refine lv_aload_n hx hb dX6_init_56 rfl (lv_at hl 0 rfl) ?_
  refine lv_iconst (v := 4) hx hb dX6_init_57 nc_iconst_4 ?_
  refine pz_newq (k := 9) (k' := 10) (slots' := 4036) hC hAW tw_108 hz hw rfl rfl (by decide) (by decide) dX6_init_58 (fun H hw => ?_)
  obtain ⟨μ17, h18, hf⟩ := o_bind hf
  refine pz_putF hC fl_X6_33 hin hw h18 (.array (.object "SpanShelves$Shelf")) fdF_X6_4 (show _ from tw_290) rfl rfl dX6_init_61 (fun H locs hw => ?_)
  refine lv_aload_n hx hb dX6_init_64 rfl (lv_at hl 0 rfl) ?_
  refine pz_new (k := 10) (k' := 11) (slots' := 4044) hC cn_X6_37 hz hw rfl rfl (by decide) (by decide) dX6_init_65 (fun H hw => ?_)
  refine lv_dup hx hb dX6_init_68 rfl ?_
  obtain ⟨μ20, h19, hf⟩ := o_bind hf
  refine pz_runI (k := 11) (k' := 16) (slots' := 5341) (As := []) (rest := [.ref (z + 10), .ref a0]) hC hAW mi_X0_init (Or.inr ⟨_, tw_112⟩) hz hw (c_X0_init h19) ⟨by decide, by decide⟩ rfl hl.1 (Nat.le_of_ble_eq_true rfl) rfl rfl ⟨by decide, by decide⟩ rfl dX6_init_69 (fun H locs hw => ?_)
  obtain ⟨μ21, h22, hf⟩ := o_bind hf
  refine pz_putF hC fl_X6_40 hin hw h22 (.object "SpanShelves$Cursor") fdF_X6_5 (show _ from tw_291) rfl rfl dX6_init_72 (fun H locs hw => ?_)
  refine lv_aload_n hx hb dX6_init_75 rfl (lv_at hl 0 rfl) ?_
  refine pz_new (k := 16) (k' := 17) (slots' := 5348) hC cn_X6_44 hz hw rfl rfl (by decide) (by decide) dX6_init_76 (fun H hw => ?_)
  refine lv_dup hx hb dX6_init_79 rfl ?_
  obtain ⟨μ24, h23, hf⟩ := o_bind hf
  refine pz_runI (k := 17) (k' := 23) (slots' := 7847) (As := []) (rest := [.ref (z + 16), .ref a0]) hC hAW mi_X3_init (Or.inr ⟨_, tw_147⟩) hz hw (c_X3_init h23) ⟨by decide, by decide⟩ rfl hl.1 (Nat.le_of_ble_eq_true rfl) rfl rfl ⟨by decide, by decide⟩ rfl dX6_init_80 (fun H locs hw => ?_)
  obtain ⟨μ25, h26, hf⟩ := o_bind hf
  refine pz_putF hC fl_X6_47 hin hw h26 (.object "SpanShelves$Sheet") fdF_X6_6 (show _ from tw_292) rfl rfl dX6_init_83 (fun H locs hw => ?_)
  refine lv_aload_n hx hb dX6_init_86 rfl (lv_at hl 0 rfl) ?_
  refine lv_iconst (v := 0) hx hb dX6_init_87 nc_iconst_0 ?_
  obtain ⟨μ27, h28, hf⟩ := o_bind hf
  refine pw_put hC fl_X6_51 hw h28 .int fd_X6_7 rfl rfl dX6_init_88 (fun H locs hw => ?_)
  refine lv_aload_n hx hb dX6_init_91 rfl (lv_at hl 0 rfl) ?_
  refine lv_iconst (v := (-1)) hx hb dX6_init_92 nc_iconst_m1 ?_
  obtain ⟨μ29, h30, hf⟩ := o_bind hf
  refine pw_put hC fl_X6_55 hw h30 .int fd_X6_8 rfl rfl dX6_init_93 (fun H locs hw => ?_)
  refine lv_aload_n hx hb dX6_init_96 rfl (lv_at hl 0 rfl) ?_
  refine lv_iconst (v := (-1)) hx hb dX6_init_97 nc_iconst_m1 ?_
  obtain ⟨μ31, h32, hf⟩ := o_bind hf
  refine pw_put hC fl_X6_58 hw h32 .int fd_X6_9 rfl rfl dX6_init_98 (fun H locs hw => ?_)
  refine pz_new (k := 23) (k' := 24) (slots' := 7850) hC cn_X6_7 hz hw rfl rfl (by decide) (by decide) dX6_init_101 (fun H hw => ?_)
  refine lv_dup hx hb dX6_init_104 rfl ?_
  refine lv_iconst (v := 5) hx hb dX6_init_105 nc_iconst_5 ?_
  obtain ⟨μ34, h33, hf⟩ := o_bind hf
  refine pz_runI (k := 24) (k' := 25) (slots' := 7855) (As := [.int 5]) (rest := [.ref (z + 23)]) hC hAW mi_X5_init (Or.inl tw_30) hz hw (c_X5_init (n := 5) (by decide +kernel) (by decide) h33) ⟨by decide, by decide⟩ rfl hl.1 (Nat.le_of_ble_eq_true rfl) rfl rfl ⟨by decide, by decide⟩ rfl dX6_init_106 (fun H locs hw => ?_)
  refine lv_astore_n (lv' := [(1, .ref (z + 23)), (0, .ref a0)]) hx hb dX6_init_109 rfl hl (by decide) rfl (fun ls hl => ?_)
  refine lv_aload_n hx hb dX6_init_110 rfl (lv_at hl 0 rfl) ?_
  refine lv_ldc2 (v := 5) hx hb hC.2.2.2.1 (hC.2.2.2.2 _ tw_178) dX6_init_111 ?_
  refine lv_iconst (v := 5) hx hb dX6_init_114 nc_iconst_5 ?_
  obtain ⟨h35, hf⟩ := o_ite hf
  obtain ⟨μ37, h36, hf⟩ := o_bind hf
  refine pw_goV hw (pw_runV (As := [.long (5 : Int64), .int 5]) (rest := []) hC mm_X5_appendLowestFirst tw_179 (c_X5_appendLowestFirst h36 _) ⟨rfl, rfl, by decide, by decide⟩ hw h35 rfl hl.1 (Nat.le_of_ble_eq_true rfl) ⟨by decide, by decide⟩ rfl dX6_init_115) (fun H locs hw => ?_)
  refine pz_new (k := 25) (k' := 26) (slots' := 7858) hC cn_X6_7 hz hw rfl rfl (by decide) (by decide) dX6_init_118 (fun H hw => ?_)
  refine lv_dup hx hb dX6_init_121 rfl ?_
  refine lv_sipush (v := 2400) hx hb dX6_init_122 nc_sipush_2400 ?_
  obtain ⟨μ39, h38, hf⟩ := o_bind hf
  refine pz_runI (k := 26) (k' := 27) (slots' := 10258) (As := [.int 2400]) (rest := [.ref (z + 25)]) hC hAW mi_X5_init (Or.inl tw_30) hz hw (c_X5_init (n := 2400) (by decide +kernel) (by decide) h38) ⟨by decide, by decide⟩ rfl hl.1 (Nat.le_of_ble_eq_true rfl) rfl rfl ⟨by decide, by decide⟩ rfl dX6_init_125 (fun H locs hw => ?_)
  refine lv_astore_n (lv' := [(2, .ref (z + 25)), (1, .ref (z + 23)), (0, .ref a0)]) hx hb dX6_init_128 rfl hl (by decide) rfl (fun ls hl => ?_)
  refine lv_iconst (v := 0) hx hb dX6_init_129 nc_iconst_0 ?_
  refine lv_istore_n (lv' := [(3, .int 0), (2, .ref (z + 25)), (1, .ref (z + 23)), (0, .ref a0)]) hx hb dX6_init_130 rfl hl (by decide) rfl (fun ls hl => ?_)
  refine lv_iload_n hx hb dX6_init_131 rfl (lv_at hl 0 rfl) ?_
  refine lv_iconst (v := 4) hx hb dX6_init_132 nc_iconst_4 ?_
  refine lv_icmp_ge (tgt := 166) hx hb dX6_init_133 (by decide) (fun c40 => absurd c40 (by decide)) (fun c40 => ?_)
  refine pz_new (k := 27) (k' := 28) (slots' := 10265) hC cn_X6_31 hz hw rfl rfl (by decide) (by decide) dX6_init_136 (fun H hw => ?_)
  refine lv_dup hx hb dX6_init_139 rfl ?_
  refine lv_aload_n hx hb dX6_init_140 rfl (lv_at hl 1 rfl) ?_
  obtain ⟨μ42, h41, hf⟩ := o_bind hf
  refine pz_runI (k := 28) (k' := 36) (slots' := 13973) (As := [.ref (z + 25)]) (rest := [.ref (z + 27)]) hC hAW mi_X4_init (Or.inl tw_188) hz hw (c_X4_init h41) ⟨by decide, by decide⟩ rfl hl.1 (Nat.le_of_ble_eq_true rfl) rfl rfl ⟨by decide, by decide⟩ rfl dX6_init_141 (fun H locs hw => ?_)
  refine lv_astore (lv' := [(4, .ref (z + 27)), (3, .int 0), (2, .ref (z + 25)), (1, .ref (z + 23)), (0, .ref a0)]) hx hb dX6_init_144 hl (by decide) rfl (fun ls hl => ?_)
  refine lv_aload hx hb dX6_init_146 (lv_at hl 0 rfl) ?_
  refine lv_aload_n hx hb dX6_init_148 rfl (lv_at hl 3 rfl) ?_
  obtain ⟨h43, hf⟩ := o_ite hf
  obtain ⟨μ45, h44, hf⟩ := o_bind hf
  refine pw_goV hw (pw_runV (As := [.ref (z + 23)]) (rest := []) hC mm_X4_become tw_223 (c_X4_become h44 _) ⟨rfl, rfl, by decide, by decide⟩ hw h43 rfl hl.1 (Nat.le_of_ble_eq_true rfl) ⟨by decide, by decide⟩ rfl dX6_init_149) (fun H locs hw => ?_)
  refine lv_aload_n hx hb dX6_init_152 rfl (lv_at hl 4 rfl) ?_
  obtain ⟨q46, h47, hf⟩ := o_bind hf
  refine pw_get hC fl_X6_33 hw (rdR_F h47) dX6_init_153 ?_
  refine lv_iload_n hx hb dX6_init_156 rfl (lv_at hl 1 rfl) ?_
  refine lv_aload hx hb dX6_init_157 (lv_at hl 0 rfl) ?_
  obtain ⟨μ48, h49, hf⟩ := o_bind hf
  refine pz_aast hC hw h49 dX6_init_159 (fun H locs hw => ?_)
  refine lv_iinc (v := 1) (lv' := [(3, .int 1), (4, .ref (z + 27)), (2, .ref (z + 25)), (1, .ref (z + 23)), (0, .ref a0)]) hx hb dX6_init_160 hl (k := 1) rfl (by first | rfl | decide +kernel) (by decide) rfl (fun ls hl => ?_)
  refine lv_goto (tgt := 131) hx hb dX6_init_163 (by decide) ?_
  refine lv_iload_n hx hb dX6_init_131 rfl (lv_at hl 0 rfl) ?_
  refine lv_iconst (v := 4) hx hb dX6_init_132 nc_iconst_4 ?_
  refine lv_icmp_ge (tgt := 166) hx hb dX6_init_133 (by decide) (fun c50 => absurd c50 (by decide)) (fun c50 => ?_)
  refine pz_new (k := 36) (k' := 37) (slots' := 13980) hC cn_X6_31 hz hw rfl rfl (by decide) (by decide) dX6_init_136 (fun H hw => ?_)
  refine lv_dup hx hb dX6_init_139 rfl ?_
  refine lv_aload_n hx hb dX6_init_140 rfl (lv_at hl 2 rfl) ?_
  obtain ⟨μ52, h51, hf⟩ := o_bind hf
  refine pz_runI (k := 37) (k' := 45) (slots' := 17688) (As := [.ref (z + 25)]) (rest := [.ref (z + 36)]) hC hAW mi_X4_init (Or.inl tw_188) hz hw (c_X4_init h51) ⟨by decide, by decide⟩ rfl hl.1 (Nat.le_of_ble_eq_true rfl) rfl rfl ⟨by decide, by decide⟩ rfl dX6_init_141 (fun H locs hw => ?_)
  refine lv_astore (lv' := [(4, .ref (z + 36)), (3, .int 1), (2, .ref (z + 25)), (1, .ref (z + 23)), (0, .ref a0)]) hx hb dX6_init_144 hl (by decide) rfl (fun ls hl => ?_)
  refine lv_aload hx hb dX6_init_146 (lv_at hl 0 rfl) ?_
  refine lv_aload_n hx hb dX6_init_148 rfl (lv_at hl 3 rfl) ?_
  obtain ⟨h53, hf⟩ := o_ite hf
  obtain ⟨μ55, h54, hf⟩ := o_bind hf
  refine pw_goV hw (pw_runV (As := [.ref (z + 23)]) (rest := []) hC mm_X4_become tw_223 (c_X4_become h54 _) ⟨rfl, rfl, by decide, by decide⟩ hw h53 rfl hl.1 (Nat.le_of_ble_eq_true rfl) ⟨by decide, by decide⟩ rfl dX6_init_149) (fun H locs hw => ?_)
  refine lv_aload_n hx hb dX6_init_152 rfl (lv_at hl 4 rfl) ?_
  obtain ⟨q56, h57, hf⟩ := o_bind hf
  refine pw_get hC fl_X6_33 hw (rdR_F h57) dX6_init_153 ?_
  refine lv_iload_n hx hb dX6_init_156 rfl (lv_at hl 1 rfl) ?_
  refine lv_aload hx hb dX6_init_157 (lv_at hl 0 rfl) ?_
  obtain ⟨μ58, h59, hf⟩ := o_bind hf
  refine pz_aast hC hw h59 dX6_init_159 (fun H locs hw => ?_)
  refine lv_iinc (v := 2) (lv' := [(3, .int 2), (4, .ref (z + 36)), (2, .ref (z + 25)), (1, .ref (z + 23)), (0, .ref a0)]) hx hb dX6_init_160 hl (k := 1) rfl (by first | rfl | decide +kernel) (by decide) rfl (fun ls hl => ?_)
  refine lv_goto (tgt := 131) hx hb dX6_init_163 (by decide) ?_
  refine lv_iload_n hx hb dX6_init_131 rfl (lv_at hl 0 rfl) ?_
  refine lv_iconst (v := 4) hx hb dX6_init_132 nc_iconst_4 ?_
  refine lv_icmp_ge (tgt := 166) hx hb dX6_init_133 (by decide) (fun c60 => absurd c60 (by decide)) (fun c60 => ?_)
  refine pz_new (k := 45) (k' := 46) (slots' := 17695) hC cn_X6_31 hz hw rfl rfl (by decide) (by decide) dX6_init_136 (fun H hw => ?_)
  refine lv_dup hx hb dX6_init_139 rfl ?_
  refine lv_aload_n hx hb dX6_init_140 rfl (lv_at hl 2 rfl) ?_
  obtain ⟨μ62, h61, hf⟩ := o_bind hf
  refine pz_runI (k := 46) (k' := 54) (slots' := 21403) (As := [.ref (z + 25)]) (rest := [.ref (z + 45)]) hC hAW mi_X4_init (Or.inl tw_188) hz hw (c_X4_init h61) ⟨by decide, by decide⟩ rfl hl.1 (Nat.le_of_ble_eq_true rfl) rfl rfl ⟨by decide, by decide⟩ rfl dX6_init_141 (fun H locs hw => ?_)
  refine lv_astore (lv' := [(4, .ref (z + 45)), (3, .int 2), (2, .ref (z + 25)), (1, .ref (z + 23)), (0, .ref a0)]) hx hb dX6_init_144 hl (by decide) rfl (fun ls hl => ?_)
  refine lv_aload hx hb dX6_init_146 (lv_at hl 0 rfl) ?_
  refine lv_aload_n hx hb dX6_init_148 rfl (lv_at hl 3 rfl) ?_
  obtain ⟨h63, hf⟩ := o_ite hf
  obtain ⟨μ65, h64, hf⟩ := o_bind hf
  refine pw_goV hw (pw_runV (As := [.ref (z + 23)]) (rest := []) hC mm_X4_become tw_223 (c_X4_become h64 _) ⟨rfl, rfl, by decide, by decide⟩ hw h63 rfl hl.1 (Nat.le_of_ble_eq_true rfl) ⟨by decide, by decide⟩ rfl dX6_init_149) (fun H locs hw => ?_)
  refine lv_aload_n hx hb dX6_init_152 rfl (lv_at hl 4 rfl) ?_
  obtain ⟨q66, h67, hf⟩ := o_bind hf
  refine pw_get hC fl_X6_33 hw (rdR_F h67) dX6_init_153 ?_
  refine lv_iload_n hx hb dX6_init_156 rfl (lv_at hl 1 rfl) ?_
  refine lv_aload hx hb dX6_init_157 (lv_at hl 0 rfl) ?_
  obtain ⟨μ68, h69, hf⟩ := o_bind hf
  refine pz_aast hC hw h69 dX6_init_159 (fun H locs hw => ?_)
  refine lv_iinc (v := 3) (lv' := [(3, .int 3), (4, .ref (z + 45)), (2, .ref (z + 25)), (1, .ref (z + 23)), (0, .ref a0)]) hx hb dX6_init_160 hl (k := 1) rfl (by first | rfl | decide +kernel) (by decide) rfl (fun ls hl => ?_)
  refine lv_goto (tgt := 131) hx hb dX6_init_163 (by decide) ?_
  refine lv_iload_n hx hb dX6_init_131 rfl (lv_at hl 0 rfl) ?_
  refine lv_iconst (v := 4) hx hb dX6_init_132 nc_iconst_4 ?_
  refine lv_icmp_ge (tgt := 166) hx hb dX6_init_133 (by decide) (fun c70 => absurd c70 (by decide)) (fun c70 => ?_)
  refine pz_new (k := 54) (k' := 55) (slots' := 21410) hC cn_X6_31 hz hw rfl rfl (by decide) (by decide) dX6_init_136 (fun H hw => ?_)
  refine lv_dup hx hb dX6_init_139 rfl ?_
  refine lv_aload_n hx hb dX6_init_140 rfl (lv_at hl 2 rfl) ?_
  obtain ⟨μ72, h71, hf⟩ := o_bind hf
  refine pz_runI (k := 55) (k' := 63) (slots' := 25118) (As := [.ref (z + 25)]) (rest := [.ref (z + 54)]) hC hAW mi_X4_init (Or.inl tw_188) hz hw (c_X4_init h71) ⟨by decide, by decide⟩ rfl hl.1 (Nat.le_of_ble_eq_true rfl) rfl rfl ⟨by decide, by decide⟩ rfl dX6_init_141 (fun H locs hw => ?_)
  refine lv_astore (lv' := [(4, .ref (z + 54)), (3, .int 3), (2, .ref (z + 25)), (1, .ref (z + 23)), (0, .ref a0)]) hx hb dX6_init_144 hl (by decide) rfl (fun ls hl => ?_)
  refine lv_aload hx hb dX6_init_146 (lv_at hl 0 rfl) ?_
  refine lv_aload_n hx hb dX6_init_148 rfl (lv_at hl 3 rfl) ?_
  obtain ⟨h73, hf⟩ := o_ite hf
  obtain ⟨μ75, h74, hf⟩ := o_bind hf
  refine pw_goV hw (pw_runV (As := [.ref (z + 23)]) (rest := []) hC mm_X4_become tw_223 (c_X4_become h74 _) ⟨rfl, rfl, by decide, by decide⟩ hw h73 rfl hl.1 (Nat.le_of_ble_eq_true rfl) ⟨by decide, by decide⟩ rfl dX6_init_149) (fun H locs hw => ?_)
  refine lv_aload_n hx hb dX6_init_152 rfl (lv_at hl 4 rfl) ?_
  obtain ⟨q76, h77, hf⟩ := o_bind hf
  refine pw_get hC fl_X6_33 hw (rdR_F h77) dX6_init_153 ?_
  refine lv_iload_n hx hb dX6_init_156 rfl (lv_at hl 1 rfl) ?_
  refine lv_aload hx hb dX6_init_157 (lv_at hl 0 rfl) ?_
  obtain ⟨μ78, h79, hf⟩ := o_bind hf
  refine pz_aast hC hw h79 dX6_init_159 (fun H locs hw => ?_)
  refine lv_iinc (v := 4) (lv' := [(3, .int 4), (4, .ref (z + 54)), (2, .ref (z + 25)), (1, .ref (z + 23)), (0, .ref a0)]) hx hb dX6_init_160 hl (k := 1) rfl (by first | rfl | decide +kernel) (by decide) rfl (fun ls hl => ?_)
  refine lv_goto (tgt := 131) hx hb dX6_init_163 (by decide) ?_
  refine lv_iload_n hx hb dX6_init_131 rfl (lv_at hl 0 rfl) ?_
  refine lv_iconst (v := 4) hx hb dX6_init_132 nc_iconst_4 ?_
  refine lv_icmp_ge (tgt := 166) hx hb dX6_init_133 (by decide) (fun c80 => ?_) (fun c80 => absurd (by decide) c80)
  obtain rfl := o_retv hf
  exact pz_vret hC hr hlocks hw dX6_init_166
theorem dX7_init_0 : decode cX7_init 0 = .ok (.aload_n 0, 1) := by decide +kernel
theorem dX7_init_1 : decode cX7_init 1 = .ok (.invokespecial 3, 3) := by decide +kernel
theorem dX7_init_4 : decode cX7_init 4 = .ok (.aload_n 0, 1) := by decide +kernel
theorem dX7_init_5 : decode cX7_init 5 = .ok (.sipush 1300, 3) := by decide +kernel
theorem dX7_init_8 : decode cX7_init 8 = .ok (.newarray .int, 2) := by decide +kernel
theorem dX7_init_10 : decode cX7_init 10 = .ok (.putfield 9, 3) := by decide +kernel
theorem dX7_init_13 : decode cX7_init 13 = .ok (.aload_n 0, 1) := by decide +kernel
theorem dX7_init_14 : decode cX7_init 14 = .ok (.sipush 1300, 3) := by decide +kernel
theorem dX7_init_17 : decode cX7_init 17 = .ok (.newarray .int, 2) := by decide +kernel
theorem dX7_init_19 : decode cX7_init 19 = .ok (.putfield 15, 3) := by decide +kernel
theorem dX7_init_22 : decode cX7_init 22 = .ok (.aload_n 0, 1) := by decide +kernel
theorem dX7_init_23 : decode cX7_init 23 = .ok (.sipush 1300, 3) := by decide +kernel
theorem dX7_init_26 : decode cX7_init 26 = .ok (.newarray .int, 2) := by decide +kernel
theorem dX7_init_28 : decode cX7_init 28 = .ok (.putfield 18, 3) := by decide +kernel
theorem dX7_init_31 : decode cX7_init 31 = .ok (.aload_n 0, 1) := by decide +kernel
theorem dX7_init_32 : decode cX7_init 32 = .ok (.sipush 1300, 3) := by decide +kernel
theorem dX7_init_35 : decode cX7_init 35 = .ok (.newarray .int, 2) := by decide +kernel
theorem dX7_init_37 : decode cX7_init 37 = .ok (.putfield 21, 3) := by decide +kernel
theorem dX7_init_40 : decode cX7_init 40 = .ok (.aload_n 0, 1) := by decide +kernel
theorem dX7_init_41 : decode cX7_init 41 = .ok (.sipush 1300, 3) := by decide +kernel
theorem dX7_init_44 : decode cX7_init 44 = .ok (.newarray .int, 2) := by decide +kernel
theorem dX7_init_46 : decode cX7_init 46 = .ok (.putfield 24, 3) := by decide +kernel
theorem dX7_init_49 : decode cX7_init 49 = .ok (.aload_n 0, 1) := by decide +kernel
theorem dX7_init_50 : decode cX7_init 50 = .ok (.sipush 1300, 3) := by decide +kernel
theorem dX7_init_53 : decode cX7_init 53 = .ok (.newarray .int, 2) := by decide +kernel
theorem dX7_init_55 : decode cX7_init 55 = .ok (.putfield 27, 3) := by decide +kernel
theorem dX7_init_58 : decode cX7_init 58 = .ok (.aload_n 0, 1) := by decide +kernel
theorem dX7_init_59 : decode cX7_init 59 = .ok (.sipush 1300, 3) := by decide +kernel
theorem dX7_init_62 : decode cX7_init 62 = .ok (.newarray .int, 2) := by decide +kernel
theorem dX7_init_64 : decode cX7_init 64 = .ok (.putfield 30, 3) := by decide +kernel
theorem dX7_init_67 : decode cX7_init 67 = .ok (.aload_n 0, 1) := by decide +kernel
theorem dX7_init_68 : decode cX7_init 68 = .ok (.sipush 1300, 3) := by decide +kernel
theorem dX7_init_71 : decode cX7_init 71 = .ok (.newarray .int, 2) := by decide +kernel
theorem dX7_init_73 : decode cX7_init 73 = .ok (.putfield 33, 3) := by decide +kernel
theorem dX7_init_76 : decode cX7_init 76 = .ok (.aload_n 0, 1) := by decide +kernel
theorem dX7_init_77 : decode cX7_init 77 = .ok (.sipush 1300, 3) := by decide +kernel
theorem dX7_init_80 : decode cX7_init 80 = .ok (.newarray .int, 2) := by decide +kernel
theorem dX7_init_82 : decode cX7_init 82 = .ok (.putfield 36, 3) := by decide +kernel
theorem dX7_init_85 : decode cX7_init 85 = .ok (.aload_n 0, 1) := by decide +kernel
theorem dX7_init_86 : decode cX7_init 86 = .ok (.sipush 1300, 3) := by decide +kernel
theorem dX7_init_89 : decode cX7_init 89 = .ok (.newarray .int, 2) := by decide +kernel
theorem dX7_init_91 : decode cX7_init 91 = .ok (.putfield 39, 3) := by decide +kernel
theorem dX7_init_94 : decode cX7_init 94 = .ok (.aload_n 0, 1) := by decide +kernel
theorem dX7_init_95 : decode cX7_init 95 = .ok (.sipush 1300, 3) := by decide +kernel
theorem dX7_init_98 : decode cX7_init 98 = .ok (.newarray .int, 2) := by decide +kernel
theorem dX7_init_100 : decode cX7_init 100 = .ok (.putfield 42, 3) := by decide +kernel
theorem dX7_init_103 : decode cX7_init 103 = .ok (.return_, 1) := by decide +kernel
abbrev rm_X7_init : Room := { frames := 1, cells := 11, slots := 14300, locals := 40 }
def f_X7_init (cy : Nat → ClassId) (z : Nat) (a0 : Nat) (μ : Mem) : Option Mem :=
  (wrF (va_up μ (z + 0) (.inl (cy 1, zA 1 1300))) a0 6 2 (.ref (z + 0))).bind fun μ1 => (wrF (va_up μ1 (z + 1) (.inl (cy 1, zA 1 1300))) a0 6 3 (.ref (z + 1))).bind fun μ3 => (wrF (va_up μ3 (z + 2) (.inl (cy 1, zA 1 1300))) a0 6 4 (.ref (z + 2))).bind fun μ5 => (wrF (va_up μ5 (z + 3) (.inl (cy 1, zA 1 1300))) a0 6 5 (.ref (z + 3))).bind fun μ7 => (wrF (va_up μ7 (z + 4) (.inl (cy 1, zA 1 1300))) a0 6 6 (.ref (z + 4))).bind fun μ9 => (wrF (va_up μ9 (z + 5) (.inl (cy 1, zA 1 1300))) a0 6 7 (.ref (z + 5))).bind fun μ11 => (wrF (va_up μ11 (z + 6) (.inl (cy 1, zA 1 1300))) a0 6 8 (.ref (z + 6))).bind fun μ13 => (wrF (va_up μ13 (z + 7) (.inl (cy 1, zA 1 1300))) a0 6 9 (.ref (z + 7))).bind fun μ15 => (wrF (va_up μ15 (z + 8) (.inl (cy 1, zA 1 1300))) a0 6 10 (.ref (z + 8))).bind fun μ17 => (wrF (va_up μ17 (z + 9) (.inl (cy 1, zA 1 1300))) a0 6 11 (.ref (z + 9))).bind fun μ19 => (wrF (va_up μ19 (z + 10) (.inl (cy 1, zA 1 1300))) a0 6 12 (.ref (z + 10))).bind fun μ21 => some μ21
set_option maxRecDepth 100000 in
set_option maxHeartbeats 4000000 in
theorem c_X7_init {l : Launch} {g : Wg} {L : List Nat} {z : Nat} {μ : Mem} {a0 : Nat} {μ' : Mem} (hf : f_X7_init g.2 z a0 μ = some μ') : MetG l yX7_init cX7_init 1 rm_X7_init g L z μ [.ref a0] μ' := by
  refine pz_met (by decide) (Nat.le_of_ble_eq_true rfl) rfl ?_
  intro p e s m args below meth c A ls H locs hC hAW hin hz hr hlocks hl hw
  have hx := hC.1
  have hb := hC.2.1
  have hl : lv_has ls 1 [(0, .ref a0)] := hl
  unfold f_X7_init at hf
  refine lv_aload_n hx hb dX7_init_0 rfl (lv_at hl 0 rfl) ?_
  refine W.objInit hx hb hC.2.2.2.1 (hC.2.2.2.2 _ tw_1013) (hC.2.2.2.2 _ tw_26) (hC.2.2.2.2 _ tw_27) rfl (hl.1.trans hC.2.2.1.symm) rfl dX7_init_1 (Nat.le_of_ble_eq_true rfl) (Nat.le_of_ble_eq_true rfl) ?_
  refine W.eq (g2 := F0 m 4 ls []) rfl ?_
  refine lv_aload_n hx hb dX7_init_4 rfl (lv_at hl 0 rfl) ?_
  refine lv_sipush (v := 1300) hx hb dX7_init_5 nc_sipush_1300 ?_
  refine pz_newa (k := 0) (k' := 1) (slots' := 1300) (N := 1300) (atype := .int) hC hAW 1 trivial hz hw (by decide +kernel) (by decide +kernel) (by decide) rfl rfl (by decide) (by decide) dX7_init_8 (fun H hw => ?_)
  obtain ⟨μ1, h2, hf⟩ := o_bind hf
  refine pz_putF hC fl_X7_9 hin hw h2 (.array .int) fdF_X7_2 (show _ from tw_1018) rfl rfl dX7_init_10 (fun H locs hw => ?_)
  refine lv_aload_n hx hb dX7_init_13 rfl (lv_at hl 0 rfl) ?_
  refine lv_sipush (v := 1300) hx hb dX7_init_14 nc_sipush_1300 ?_
  refine pz_newa (k := 1) (k' := 2) (slots' := 2600) (N := 1300) (atype := .int) hC hAW 1 trivial hz hw (by decide +kernel) (by decide +kernel) (by decide) rfl rfl (by decide) (by decide) dX7_init_17 (fun H hw => ?_)
  obtain ⟨μ3, h4, hf⟩ := o_bind hf
  refine pz_putF hC fl_X7_15 hin hw h4 (.array .int) fdF_X7_3 (show _ from tw_1020) rfl rfl dX7_init_19 (fun H locs hw => ?_)
  refine lv_aload_n hx hb dX7_init_22 rfl (lv_at hl 0 rfl) ?_
  refine lv_sipush (v := 1300) hx hb dX7_init_23 nc_sipush_1300 ?_
  refine pz_newa (k := 2) (k' := 3) (slots' := 3900) (N := 1300) (atype := .int) hC hAW 1 trivial hz hw (by decide +kernel) (by decide +kernel) (by decide) rfl rfl (by decide) (by decide) dX7_init_26 (fun H hw => ?_)
  obtain ⟨μ5, h6, hf⟩ := o_bind hf
  refine pz_putF hC fl_X7_18 hin hw h6 (.array .int) fdF_X7_4 (show _ from tw_1022) rfl rfl dX7_init_28 (fun H locs hw => ?_)
  refine lv_aload_n hx hb dX7_init_31 rfl (lv_at hl 0 rfl) ?_
  refine lv_sipush (v := 1300) hx hb dX7_init_32 nc_sipush_1300 ?_
  refine pz_newa (k := 3) (k' := 4) (slots' := 5200) (N := 1300) (atype := .int) hC hAW 1 trivial hz hw (by decide +kernel) (by decide +kernel) (by decide) rfl rfl (by decide) (by decide) dX7_init_35 (fun H hw => ?_)
  obtain ⟨μ7, h8, hf⟩ := o_bind hf
  refine pz_putF hC fl_X7_21 hin hw h8 (.array .int) fdF_X7_5 (show _ from tw_1024) rfl rfl dX7_init_37 (fun H locs hw => ?_)
  refine lv_aload_n hx hb dX7_init_40 rfl (lv_at hl 0 rfl) ?_
  refine lv_sipush (v := 1300) hx hb dX7_init_41 nc_sipush_1300 ?_
  refine pz_newa (k := 4) (k' := 5) (slots' := 6500) (N := 1300) (atype := .int) hC hAW 1 trivial hz hw (by decide +kernel) (by decide +kernel) (by decide) rfl rfl (by decide) (by decide) dX7_init_44 (fun H hw => ?_)
  obtain ⟨μ9, h10, hf⟩ := o_bind hf
  refine pz_putF hC fl_X7_24 hin hw h10 (.array .int) fdF_X7_6 (show _ from tw_1026) rfl rfl dX7_init_46 (fun H locs hw => ?_)
  refine lv_aload_n hx hb dX7_init_49 rfl (lv_at hl 0 rfl) ?_
  refine lv_sipush (v := 1300) hx hb dX7_init_50 nc_sipush_1300 ?_
  refine pz_newa (k := 5) (k' := 6) (slots' := 7800) (N := 1300) (atype := .int) hC hAW 1 trivial hz hw (by decide +kernel) (by decide +kernel) (by decide) rfl rfl (by decide) (by decide) dX7_init_53 (fun H hw => ?_)
  obtain ⟨μ11, h12, hf⟩ := o_bind hf
  refine pz_putF hC fl_X7_27 hin hw h12 (.array .int) fdF_X7_7 (show _ from tw_1028) rfl rfl dX7_init_55 (fun H locs hw => ?_)
  refine lv_aload_n hx hb dX7_init_58 rfl (lv_at hl 0 rfl) ?_
  refine lv_sipush (v := 1300) hx hb dX7_init_59 nc_sipush_1300 ?_
  refine pz_newa (k := 6) (k' := 7) (slots' := 9100) (N := 1300) (atype := .int) hC hAW 1 trivial hz hw (by decide +kernel) (by decide +kernel) (by decide) rfl rfl (by decide) (by decide) dX7_init_62 (fun H hw => ?_)
  obtain ⟨μ13, h14, hf⟩ := o_bind hf
  refine pz_putF hC fl_X7_30 hin hw h14 (.array .int) fdF_X7_8 (show _ from tw_1030) rfl rfl dX7_init_64 (fun H locs hw => ?_)
  refine lv_aload_n hx hb dX7_init_67 rfl (lv_at hl 0 rfl) ?_
  refine lv_sipush (v := 1300) hx hb dX7_init_68 nc_sipush_1300 ?_
  refine pz_newa (k := 7) (k' := 8) (slots' := 10400) (N := 1300) (atype := .int) hC hAW 1 trivial hz hw (by decide +kernel) (by decide +kernel) (by decide) rfl rfl (by decide) (by decide) dX7_init_71 (fun H hw => ?_)
  obtain ⟨μ15, h16, hf⟩ := o_bind hf
  refine pz_putF hC fl_X7_33 hin hw h16 (.array .int) fdF_X7_9 (show _ from tw_1032) rfl rfl dX7_init_73 (fun H locs hw => ?_)
  refine lv_aload_n hx hb dX7_init_76 rfl (lv_at hl 0 rfl) ?_
  refine lv_sipush (v := 1300) hx hb dX7_init_77 nc_sipush_1300 ?_
  refine pz_newa (k := 8) (k' := 9) (slots' := 11700) (N := 1300) (atype := .int) hC hAW 1 trivial hz hw (by decide +kernel) (by decide +kernel) (by decide) rfl rfl (by decide) (by decide) dX7_init_80 (fun H hw => ?_)
  obtain ⟨μ17, h18, hf⟩ := o_bind hf
  refine pz_putF hC fl_X7_36 hin hw h18 (.array .int) fdF_X7_10 (show _ from tw_1034) rfl rfl dX7_init_82 (fun H locs hw => ?_)
  refine lv_aload_n hx hb dX7_init_85 rfl (lv_at hl 0 rfl) ?_
  refine lv_sipush (v := 1300) hx hb dX7_init_86 nc_sipush_1300 ?_
  refine pz_newa (k := 9) (k' := 10) (slots' := 13000) (N := 1300) (atype := .int) hC hAW 1 trivial hz hw (by decide +kernel) (by decide +kernel) (by decide) rfl rfl (by decide) (by decide) dX7_init_89 (fun H hw => ?_)
  obtain ⟨μ19, h20, hf⟩ := o_bind hf
  refine pz_putF hC fl_X7_39 hin hw h20 (.array .int) fdF_X7_11 (show _ from tw_1036) rfl rfl dX7_init_91 (fun H locs hw => ?_)
  refine lv_aload_n hx hb dX7_init_94 rfl (lv_at hl 0 rfl) ?_
  refine lv_sipush (v := 1300) hx hb dX7_init_95 nc_sipush_1300 ?_
  refine pz_newa (k := 10) (k' := 11) (slots' := 14300) (N := 1300) (atype := .int) hC hAW 1 trivial hz hw (by decide +kernel) (by decide +kernel) (by decide) rfl rfl (by decide) (by decide) dX7_init_98 (fun H hw => ?_)
  obtain ⟨μ21, h22, hf⟩ := o_bind hf
  refine pz_putF hC fl_X7_42 hin hw h22 (.array .int) fdF_X7_12 (show _ from tw_1038) rfl rfl dX7_init_100 (fun H locs hw => ?_)
  obtain rfl := o_retv hf
  exact pz_vret hC hr hlocks hw dX7_init_103
theorem dX8_init_0 : decode cX8_init 0 = .ok (.aload_n 0, 1) := by decide +kernel
theorem dX8_init_1 : decode cX8_init 1 = .ok (.invokespecial 7, 3) := by decide +kernel
theorem dX8_init_4 : decode cX8_init 4 = .ok (.aload_n 0, 1) := by decide +kernel
theorem dX8_init_5 : decode cX8_init 5 = .ok (.sipush 2000, 3) := by decide +kernel
theorem dX8_init_8 : decode cX8_init 8 = .ok (.newarray .byte, 2) := by decide +kernel
theorem dX8_init_10 : decode cX8_init 10 = .ok (.putfield 13, 3) := by decide +kernel
theorem dX8_init_13 : decode cX8_init 13 = .ok (.aload_n 0, 1) := by decide +kernel
theorem dX8_init_14 : decode cX8_init 14 = .ok (.iconst (-1), 1) := by decide +kernel
theorem dX8_init_15 : decode cX8_init 15 = .ok (.putfield 17, 3) := by decide +kernel
theorem dX8_init_18 : decode cX8_init 18 = .ok (.aload_n 0, 1) := by decide +kernel
theorem dX8_init_19 : decode cX8_init 19 = .ok (.iconst 4, 1) := by decide +kernel
theorem dX8_init_20 : decode cX8_init 20 = .ok (.sipush 2400, 3) := by decide +kernel
theorem dX8_init_23 : decode cX8_init 23 = .ok (.multianewarray 20 2, 4) := by decide +kernel
theorem dX8_init_27 : decode cX8_init 27 = .ok (.putfield 22, 3) := by decide +kernel
theorem dX8_init_30 : decode cX8_init 30 = .ok (.aload_n 0, 1) := by decide +kernel
theorem dX8_init_31 : decode cX8_init 31 = .ok (.iconst 4, 1) := by decide +kernel
theorem dX8_init_32 : decode cX8_init 32 = .ok (.newarray .int, 2) := by decide +kernel
theorem dX8_init_34 : decode cX8_init 34 = .ok (.putfield 25, 3) := by decide +kernel
theorem dX8_init_37 : decode cX8_init 37 = .ok (.aload_n 0, 1) := by decide +kernel
theorem dX8_init_38 : decode cX8_init 38 = .ok (.iconst 4, 1) := by decide +kernel
theorem dX8_init_39 : decode cX8_init 39 = .ok (.bipush 25, 2) := by decide +kernel
theorem dX8_init_41 : decode cX8_init 41 = .ok (.multianewarray 29 2, 4) := by decide +kernel
theorem dX8_init_45 : decode cX8_init 45 = .ok (.putfield 31, 3) := by decide +kernel
theorem dX8_init_48 : decode cX8_init 48 = .ok (.aload_n 0, 1) := by decide +kernel
theorem dX8_init_49 : decode cX8_init 49 = .ok (.iconst 4, 1) := by decide +kernel
theorem dX8_init_50 : decode cX8_init 50 = .ok (.newarray .int, 2) := by decide +kernel
theorem dX8_init_52 : decode cX8_init 52 = .ok (.putfield 34, 3) := by decide +kernel
theorem dX8_init_55 : decode cX8_init 55 = .ok (.aload_n 0, 1) := by decide +kernel
theorem dX8_init_56 : decode cX8_init 56 = .ok (.iconst 4, 1) := by decide +kernel
theorem dX8_init_57 : decode cX8_init 57 = .ok (.newarray .int, 2) := by decide +kernel
theorem dX8_init_59 : decode cX8_init 59 = .ok (.putfield 37, 3) := by decide +kernel
theorem dX8_init_62 : decode cX8_init 62 = .ok (.aload_n 0, 1) := by decide +kernel
theorem dX8_init_63 : decode cX8_init 63 = .ok (.sipush 2416, 3) := by decide +kernel
theorem dX8_init_66 : decode cX8_init 66 = .ok (.newarray .byte, 2) := by decide +kernel
theorem dX8_init_68 : decode cX8_init 68 = .ok (.putfield 40, 3) := by decide +kernel
theorem dX8_init_71 : decode cX8_init 71 = .ok (.aload_n 0, 1) := by decide +kernel
theorem dX8_init_72 : decode cX8_init 72 = .ok (.bipush 25, 2) := by decide +kernel
theorem dX8_init_74 : decode cX8_init 74 = .ok (.newarray .int, 2) := by decide +kernel
theorem dX8_init_76 : decode cX8_init 76 = .ok (.putfield 43, 3) := by decide +kernel
theorem dX8_init_79 : decode cX8_init 79 = .ok (.aload_n 0, 1) := by decide +kernel
theorem dX8_init_80 : decode cX8_init 80 = .ok (.bipush 25, 2) := by decide +kernel
theorem dX8_init_82 : decode cX8_init 82 = .ok (.newarray .int, 2) := by decide +kernel
theorem dX8_init_84 : decode cX8_init 84 = .ok (.putfield 46, 3) := by decide +kernel
theorem dX8_init_87 : decode cX8_init 87 = .ok (.aload_n 0, 1) := by decide +kernel
theorem dX8_init_88 : decode cX8_init 88 = .ok (.bipush 25, 2) := by decide +kernel
theorem dX8_init_90 : decode cX8_init 90 = .ok (.newarray .int, 2) := by decide +kernel
theorem dX8_init_92 : decode cX8_init 92 = .ok (.putfield 49, 3) := by decide +kernel
theorem dX8_init_95 : decode cX8_init 95 = .ok (.aload_n 0, 1) := by decide +kernel
theorem dX8_init_96 : decode cX8_init 96 = .ok (.bipush 25, 2) := by decide +kernel
theorem dX8_init_98 : decode cX8_init 98 = .ok (.newarray .int, 2) := by decide +kernel
theorem dX8_init_100 : decode cX8_init 100 = .ok (.putfield 52, 3) := by decide +kernel
theorem dX8_init_103 : decode cX8_init 103 = .ok (.aload_n 0, 1) := by decide +kernel
theorem dX8_init_104 : decode cX8_init 104 = .ok (.iconst 4, 1) := by decide +kernel
theorem dX8_init_105 : decode cX8_init 105 = .ok (.newarray .int, 2) := by decide +kernel
theorem dX8_init_107 : decode cX8_init 107 = .ok (.dup, 1) := by decide +kernel
theorem dX8_init_108 : decode cX8_init 108 = .ok (.iconst 0, 1) := by decide +kernel
theorem dX8_init_109 : decode cX8_init 109 = .ok (.iconst (-1), 1) := by decide +kernel
theorem dX8_init_110 : decode cX8_init 110 = .ok (.iastore, 1) := by decide +kernel
theorem dX8_init_111 : decode cX8_init 111 = .ok (.dup, 1) := by decide +kernel
theorem dX8_init_112 : decode cX8_init 112 = .ok (.iconst 1, 1) := by decide +kernel
theorem dX8_init_113 : decode cX8_init 113 = .ok (.iconst (-1), 1) := by decide +kernel
theorem dX8_init_114 : decode cX8_init 114 = .ok (.iastore, 1) := by decide +kernel
theorem dX8_init_115 : decode cX8_init 115 = .ok (.dup, 1) := by decide +kernel
theorem dX8_init_116 : decode cX8_init 116 = .ok (.iconst 2, 1) := by decide +kernel
theorem dX8_init_117 : decode cX8_init 117 = .ok (.iconst (-1), 1) := by decide +kernel
theorem dX8_init_118 : decode cX8_init 118 = .ok (.iastore, 1) := by decide +kernel
theorem dX8_init_119 : decode cX8_init 119 = .ok (.dup, 1) := by decide +kernel
theorem dX8_init_120 : decode cX8_init 120 = .ok (.iconst 3, 1) := by decide +kernel
theorem dX8_init_121 : decode cX8_init 121 = .ok (.iconst (-1), 1) := by decide +kernel
theorem dX8_init_122 : decode cX8_init 122 = .ok (.iastore, 1) := by decide +kernel
theorem dX8_init_123 : decode cX8_init 123 = .ok (.putfield 55, 3) := by decide +kernel
theorem dX8_init_126 : decode cX8_init 126 = .ok (.aload_n 0, 1) := by decide +kernel
theorem dX8_init_127 : decode cX8_init 127 = .ok (.iconst 5, 1) := by decide +kernel
theorem dX8_init_128 : decode cX8_init 128 = .ok (.newarray .int, 2) := by decide +kernel
theorem dX8_init_130 : decode cX8_init 130 = .ok (.putfield 58, 3) := by decide +kernel
theorem dX8_init_133 : decode cX8_init 133 = .ok (.aload_n 0, 1) := by decide +kernel
theorem dX8_init_134 : decode cX8_init 134 = .ok (.bipush 12, 2) := by decide +kernel
theorem dX8_init_136 : decode cX8_init 136 = .ok (.newarray .byte, 2) := by decide +kernel
theorem dX8_init_138 : decode cX8_init 138 = .ok (.putfield 61, 3) := by decide +kernel
theorem dX8_init_141 : decode cX8_init 141 = .ok (.aload_n 0, 1) := by decide +kernel
theorem dX8_init_142 : decode cX8_init 142 = .ok (.new 64, 3) := by decide +kernel
theorem dX8_init_145 : decode cX8_init 145 = .ok (.dup, 1) := by decide +kernel
theorem dX8_init_146 : decode cX8_init 146 = .ok (.invokespecial 66, 3) := by decide +kernel
theorem dX8_init_149 : decode cX8_init 149 = .ok (.putfield 67, 3) := by decide +kernel
theorem dX8_init_152 : decode cX8_init 152 = .ok (.aload_n 0, 1) := by decide +kernel
theorem dX8_init_153 : decode cX8_init 153 = .ok (.new 64, 3) := by decide +kernel
theorem dX8_init_156 : decode cX8_init 156 = .ok (.dup, 1) := by decide +kernel
theorem dX8_init_157 : decode cX8_init 157 = .ok (.invokespecial 66, 3) := by decide +kernel
theorem dX8_init_160 : decode cX8_init 160 = .ok (.putfield 71, 3) := by decide +kernel
theorem dX8_init_163 : decode cX8_init 163 = .ok (.aload_n 0, 1) := by decide +kernel
theorem dX8_init_164 : decode cX8_init 164 = .ok (.sipush 2002, 3) := by decide +kernel
theorem dX8_init_167 : decode cX8_init 167 = .ok (.newarray .int, 2) := by decide +kernel
theorem dX8_init_169 : decode cX8_init 169 = .ok (.putfield 74, 3) := by decide +kernel
theorem dX8_init_172 : decode cX8_init 172 = .ok (.aload_n 0, 1) := by decide +kernel
theorem dX8_init_173 : decode cX8_init 173 = .ok (.sipush 12000, 3) := by decide +kernel
theorem dX8_init_176 : decode cX8_init 176 = .ok (.newarray .byte, 2) := by decide +kernel
theorem dX8_init_178 : decode cX8_init 178 = .ok (.putfield 77, 3) := by decide +kernel
theorem dX8_init_181 : decode cX8_init 181 = .ok (.aload_n 0, 1) := by decide +kernel
theorem dX8_init_182 : decode cX8_init 182 = .ok (.sipush 1301, 3) := by decide +kernel
theorem dX8_init_185 : decode cX8_init 185 = .ok (.newarray .int, 2) := by decide +kernel
theorem dX8_init_187 : decode cX8_init 187 = .ok (.putfield 80, 3) := by decide +kernel
theorem dX8_init_190 : decode cX8_init 190 = .ok (.aload_n 0, 1) := by decide +kernel
theorem dX8_init_191 : decode cX8_init 191 = .ok (.sipush 2416, 3) := by decide +kernel
theorem dX8_init_194 : decode cX8_init 194 = .ok (.newarray .boolean, 2) := by decide +kernel
theorem dX8_init_196 : decode cX8_init 196 = .ok (.putfield 83, 3) := by decide +kernel
theorem dX8_init_199 : decode cX8_init 199 = .ok (.aload_n 0, 1) := by decide +kernel
theorem dX8_init_200 : decode cX8_init 200 = .ok (.bipush 8, 2) := by decide +kernel
theorem dX8_init_202 : decode cX8_init 202 = .ok (.newarray .byte, 2) := by decide +kernel
theorem dX8_init_204 : decode cX8_init 204 = .ok (.putfield 87, 3) := by decide +kernel
theorem dX8_init_207 : decode cX8_init 207 = .ok (.iconst 0, 1) := by decide +kernel
theorem dX8_init_208 : decode cX8_init 208 = .ok (.istore_n 1, 1) := by decide +kernel
theorem dX8_init_209 : decode cX8_init 209 = .ok (.iload_n 1, 1) := by decide +kernel
theorem dX8_init_210 : decode cX8_init 210 = .ok (.iconst 4, 1) := by decide +kernel
theorem dX8_init_211 : decode cX8_init 211 = .ok (.if_icmp .ge 14, 3) := by decide +kernel
theorem dX8_init_214 : decode cX8_init 214 = .ok (.aload_n 0, 1) := by decide +kernel
theorem dX8_init_215 : decode cX8_init 215 = .ok (.iload_n 1, 1) := by decide +kernel
theorem dX8_init_216 : decode cX8_init 216 = .ok (.invokevirtual 90, 3) := by decide +kernel
theorem dX8_init_219 : decode cX8_init 219 = .ok (.iinc 1 1, 3) := by decide +kernel
theorem dX8_init_222 : decode cX8_init 222 = .ok (.goto (-13), 3) := by decide +kernel
theorem dX8_init_225 : decode cX8_init 225 = .ok (.return_, 1) := by decide +kernel
abbrev rm_X8_init : Room := { frames := 2, cells := 51, slots := 60610, locals := 60 }
def f_X8_init (cy : Nat → ClassId) (z : Nat) (a0 : Nat) (μ : Mem) : Option Mem :=
  (wrF (va_up μ (z + 0) (.inl (cy 0, zA 0 2000))) a0 7 1 (.ref (z + 0))).bind fun μ1 => (wrF μ1 a0 7 4 (.int (-1))).bind fun μ3 => (wrF (mnM cy 0 2400 (z + 1) μ3) a0 7 5 (.ref (z + 1))).bind fun μ5 => (wrF (va_up μ5 (z + 6) (.inl (cy 1, zA 1 4))) a0 7 6 (.ref (z + 6))).bind fun μ7 => (wrF (mnM cy 1 25 (z + 7) μ7) a0 7 7 (.ref (z + 7))).bind fun μ9 => (wrF (va_up μ9 (z + 12) (.inl (cy 1, zA 1 4))) a0 7 8 (.ref (z + 12))).bind fun μ11 => (wrF (va_up μ11 (z + 13) (.inl (cy 1, zA 1 4))) a0 7 9 (.ref (z + 13))).bind fun μ13 => (wrF (va_up μ13 (z + 14) (.inl (cy 0, zA 0 2416))) a0 7 10 (.ref (z + 14))).bind fun μ15 => (wrF (va_up μ15 (z + 15) (.inl (cy 1, zA 1 25))) a0 7 14 (.ref (z + 15))).bind fun μ17 => (wrF (va_up μ17 (z + 16) (.inl (cy 1, zA 1 25))) a0 7 15 (.ref (z + 16))).bind fun μ19 => (wrF (va_up μ19 (z + 17) (.inl (cy 1, zA 1 25))) a0 7 16 (.ref (z + 17))).bind fun μ21 => (wrF (va_up μ21 (z + 18) (.inl (cy 1, zA 1 25))) a0 7 17 (.ref (z + 18))).bind fun μ23 => (wrA cy (va_up μ23 (z + 19) (.inl (cy 1, zA 1 4))) 1 (z + 19) 0 (-1)).bind fun μ25 => (wrA cy μ25 1 (z + 19) 1 (-1)).bind fun μ27 => (wrA cy μ27 1 (z + 19) 2 (-1)).bind fun μ29 => (wrA cy μ29 1 (z + 19) 3 (-1)).bind fun μ31 => (wrF μ31 a0 7 18 (.ref (z + 19))).bind fun μ33 => (wrF (va_up μ33 (z + 20) (.inl (cy 1, zA 1 5))) a0 7 19 (.ref (z + 20))).bind fun μ35 => (wrF (va_up μ35 (z + 21) (.inl (cy 0, zA 0 12))) a0 7 20 (.ref (z + 21))).bind fun μ37 => (f_X7_init cy (z + 23) (z + 22) (va_up μ37 (z + 22) (.inr (6, [.null, .int 0, .null, .null, .null, .null, .null, .null, .null, .null, .null, .null, .null])))).bind fun μ40 => (wrF μ40 a0 7 21 (.ref (z + 22))).bind fun μ41 => (f_X7_init cy (z + 35) (z + 34) (va_up μ41 (z + 34) (.inr (6, [.null, .int 0, .null, .null, .null, .null, .null, .null, .null, .null, .null, .null, .null])))).bind fun μ44 => (wrF μ44 a0 7 22 (.ref (z + 34))).bind fun μ45 => (wrF (va_up μ45 (z + 46) (.inl (cy 1, zA 1 2002))) a0 7 23 (.ref (z + 46))).bind fun μ47 => (wrF (va_up μ47 (z + 47) (.inl (cy 0, zA 0 12000))) a0 7 26 (.ref (z + 47))).bind fun μ49 => (wrF (va_up μ49 (z + 48) (.inl (cy 1, zA 1 1301))) a0 7 30 (.ref (z + 48))).bind fun μ51 => (wrF (va_up μ51 (z + 49) (.inl (cy 2, zA 2 2416))) a0 7 41 (.ref (z + 49))).bind fun μ53 => (wrF (va_up μ53 (z + 50) (.inl (cy 0, zA 0 8))) a0 7 43 (.ref (z + 50))).bind fun μ55 => if isO μ55 a0 7 = true then ((f_X8_empty cy a0 0 μ55).bind fun μ60 => if isO μ60 a0 7 = true then ((f_X8_empty cy a0 1 μ60).bind fun μ64 => if isO μ64 a0 7 = true then ((f_X8_empty cy a0 2 μ64).bind fun μ68 => if isO μ68 a0 7 = true then ((f_X8_empty cy a0 3 μ68).bind fun μ72 => some μ72) else none) else none) else none) else none
set_option maxRecDepth 100000 in
set_option maxHeartbeats 4000000 in
theorem c_X8_init {l : Launch} {g : Wg} {L : List Nat} {z : Nat} {μ : Mem} {a0 : Nat} {μ' : Mem} (hf : f_X8_init g.2 z a0 μ = some μ') : MetG l yX8_init cX8_init 2 rm_X8_init g L z μ [.ref a0] μ' := by
  refine pz_met (by decide) (Nat.le_of_ble_eq_true rfl) rfl ?_
  intro p e s m args below meth c A ls H locs hC hAW hin hz hr hlocks hl hw
  have hx := hC.1
  have hb := hC.2.1
  have hl : lv_has ls 2 [(0, .ref a0)] := hl
  unfold f_X8_init at hf
  refine lv_aload_n hx hb dX8_init_0 rfl (lv_at hl 0 rfl) ?_
  refine W.objInit hx hb hC.2.2.2.1 (hC.2.2.2.2 _ tw_1003) (hC.2.2.2.2 _ tw_26) (hC.2.2.2.2 _ tw_27) rfl (hl.1.trans hC.2.2.1.symm) rfl dX8_init_1 (Nat.le_of_ble_eq_true rfl) (Nat.le_of_ble_eq_true rfl) ?_
  refine W.eq (g2 := F0 m 4 ls []) rfl ?_
  refine lv_aload_n hx hb dX8_init_4 rfl (lv_at hl 0 rfl) ?_
  refine lv_sipush (v := 2000) hx hb dX8_init_5 nc_sipush_2000 ?_
  refine pz_newa (k := 0) (k' := 1) (slots' := 2000) (N := 2000) (atype := .byte) hC hAW 0 trivial hz hw (by decide +kernel) (by decide +kernel) (by decide) rfl rfl (by decide) (by decide) dX8_init_8 (fun H hw => ?_)
  obtain ⟨μ1, h2, hf⟩ := o_bind hf
  refine pz_putF hC fl_X8_13 hin hw h2 (.array .byte) fdF_X8_1 (show _ from tw_1076) rfl rfl dX8_init_10 (fun H locs hw => ?_)
  refine lv_aload_n hx hb dX8_init_13 rfl (lv_at hl 0 rfl) ?_
  refine lv_iconst (v := (-1)) hx hb dX8_init_14 nc_iconst_m1 ?_
  obtain ⟨μ3, h4, hf⟩ := o_bind hf
  refine pw_put hC fl_X8_17 hw h4 .int fd_X8_4 rfl rfl dX8_init_15 (fun H locs hw => ?_)
  refine lv_aload_n hx hb dX8_init_18 rfl (lv_at hl 0 rfl) ?_
  refine lv_iconst (v := 4) hx hb dX8_init_19 nc_iconst_4 ?_
  refine lv_sipush (v := 2400) hx hb dX8_init_20 nc_sipush_2400 ?_
  refine pz_mna (k := 1) (k' := 6) (slots' := 11604) (K := 2400) (ty := .byte) hC hAW 0 (Or.inl ⟨rfl, rfl⟩) (by rw [mnw0]; exact tw_1004) hz hw (by decide +kernel) (by decide +kernel) (by decide) rfl rfl (by decide) (by decide) dX8_init_23 (fun H hw => ?_)
  obtain ⟨μ5, h6, hf⟩ := o_bind hf
  refine pz_putF hC fl_X8_22 hin hw h6 (.array (.array .byte)) fdF_X8_5 (show _ from tw_1080) rfl rfl dX8_init_27 (fun H locs hw => ?_)
  refine lv_aload_n hx hb dX8_init_30 rfl (lv_at hl 0 rfl) ?_
  refine lv_iconst (v := 4) hx hb dX8_init_31 nc_iconst_4 ?_
  refine pz_newa (k := 6) (k' := 7) (slots' := 11608) (N := 4) (atype := .int) hC hAW 1 trivial hz hw (by decide +kernel) (by decide +kernel) (by decide) rfl rfl (by decide) (by decide) dX8_init_32 (fun H hw => ?_)
  obtain ⟨μ7, h8, hf⟩ := o_bind hf
  refine pz_putF hC fl_X8_25 hin hw h8 (.array .int) fdF_X8_6 (show _ from tw_1081) rfl rfl dX8_init_34 (fun H locs hw => ?_)
  refine lv_aload_n hx hb dX8_init_37 rfl (lv_at hl 0 rfl) ?_
  refine lv_iconst (v := 4) hx hb dX8_init_38 nc_iconst_4 ?_
  refine lv_bipush (v := 25) hx hb dX8_init_39 nc_bipush_25 ?_
  refine pz_mna (k := 7) (k' := 12) (slots' := 11712) (K := 25) (ty := .int) hC hAW 1 (Or.inr ⟨rfl, rfl⟩) (by rw [mnw1]; exact tw_1006) hz hw (by decide +kernel) (by decide +kernel) (by decide) rfl rfl (by decide) (by decide) dX8_init_41 (fun H hw => ?_)
  obtain ⟨μ9, h10, hf⟩ := o_bind hf
  refine pz_putF hC fl_X8_31 hin hw h10 (.array (.array .int)) fdF_X8_7 (show _ from tw_1082) rfl rfl dX8_init_45 (fun H locs hw => ?_)
  refine lv_aload_n hx hb dX8_init_48 rfl (lv_at hl 0 rfl) ?_
  refine lv_iconst (v := 4) hx hb dX8_init_49 nc_iconst_4 ?_
  refine pz_newa (k := 12) (k' := 13) (slots' := 11716) (N := 4) (atype := .int) hC hAW 1 trivial hz hw (by decide +kernel) (by decide +kernel) (by decide) rfl rfl (by decide) (by decide) dX8_init_50 (fun H hw => ?_)
  obtain ⟨μ11, h12, hf⟩ := o_bind hf
  refine pz_putF hC fl_X8_34 hin hw h12 (.array .int) fdF_X8_8 (show _ from tw_1083) rfl rfl dX8_init_52 (fun H locs hw => ?_)
  refine lv_aload_n hx hb dX8_init_55 rfl (lv_at hl 0 rfl) ?_
  refine lv_iconst (v := 4) hx hb dX8_init_56 nc_iconst_4 ?_
  refine pz_newa (k := 13) (k' := 14) (slots' := 11720) (N := 4) (atype := .int) hC hAW 1 trivial hz hw (by decide +kernel) (by decide +kernel) (by decide) rfl rfl (by decide) (by decide) dX8_init_57 (fun H hw => ?_)
  obtain ⟨μ13, h14, hf⟩ := o_bind hf
  refine pz_putF hC fl_X8_37 hin hw h14 (.array .int) fdF_X8_9 (show _ from tw_1084) rfl rfl dX8_init_59 (fun H locs hw => ?_)
  refine lv_aload_n hx hb dX8_init_62 rfl (lv_at hl 0 rfl) ?_
  refine lv_sipush (v := 2416) hx hb dX8_init_63 nc_sipush_2416 ?_
  refine pz_newa (k := 14) (k' := 15) (slots' := 14136) (N := 2416) (atype := .byte) hC hAW 0 trivial hz hw (by decide +kernel) (by decide +kernel) (by decide) rfl rfl (by decide) (by decide) dX8_init_66 (fun H hw => ?_)
  obtain ⟨μ15, h16, hf⟩ := o_bind hf
  refine pz_putF hC fl_X8_40 hin hw h16 (.array .byte) fdF_X8_10 (show _ from tw_1085) rfl rfl dX8_init_68 (fun H locs hw => ?_)
  refine lv_aload_n hx hb dX8_init_71 rfl (lv_at hl 0 rfl) ?_
  refine lv_bipush (v := 25) hx hb dX8_init_72 nc_bipush_25 ?_
  refine pz_newa (k := 15) (k' := 16) (slots' := 14161) (N := 25) (atype := .int) hC hAW 1 trivial hz hw (by decide +kernel) (by decide +kernel) (by decide) rfl rfl (by decide) (by decide) dX8_init_74 (fun H hw => ?_)
  obtain ⟨μ17, h18, hf⟩ := o_bind hf
  refine pz_putF hC fl_X8_43 hin hw h18 (.array .int) fdF_X8_14 (show _ from tw_1089) rfl rfl dX8_init_76 (fun H locs hw => ?_)
  refine lv_aload_n hx hb dX8_init_79 rfl (lv_at hl 0 rfl) ?_
  refine lv_bipush (v := 25) hx hb dX8_init_80 nc_bipush_25 ?_
  refine pz_newa (k := 16) (k' := 17) (slots' := 14186) (N := 25) (atype := .int) hC hAW 1 trivial hz hw (by decide +kernel) (by decide +kernel) (by decide) rfl rfl (by decide) (by decide) dX8_init_82 (fun H hw => ?_)
  obtain ⟨μ19, h20, hf⟩ := o_bind hf
  refine pz_putF hC fl_X8_46 hin hw h20 (.array .int) fdF_X8_15 (show _ from tw_1090) rfl rfl dX8_init_84 (fun H locs hw => ?_)
  refine lv_aload_n hx hb dX8_init_87 rfl (lv_at hl 0 rfl) ?_
  refine lv_bipush (v := 25) hx hb dX8_init_88 nc_bipush_25 ?_
  refine pz_newa (k := 17) (k' := 18) (slots' := 14211) (N := 25) (atype := .int) hC hAW 1 trivial hz hw (by decide +kernel) (by decide +kernel) (by decide) rfl rfl (by decide) (by decide) dX8_init_90 (fun H hw => ?_)
  obtain ⟨μ21, h22, hf⟩ := o_bind hf
  refine pz_putF hC fl_X8_49 hin hw h22 (.array .int) fdF_X8_16 (show _ from tw_1091) rfl rfl dX8_init_92 (fun H locs hw => ?_)
  refine lv_aload_n hx hb dX8_init_95 rfl (lv_at hl 0 rfl) ?_
  refine lv_bipush (v := 25) hx hb dX8_init_96 nc_bipush_25 ?_
  refine pz_newa (k := 18) (k' := 19) (slots' := 14236) (N := 25) (atype := .int) hC hAW 1 trivial hz hw (by decide +kernel) (by decide +kernel) (by decide) rfl rfl (by decide) (by decide) dX8_init_98 (fun H hw => ?_)
  obtain ⟨μ23, h24, hf⟩ := o_bind hf
  refine pz_putF hC fl_X8_52 hin hw h24 (.array .int) fdF_X8_17 (show _ from tw_1092) rfl rfl dX8_init_100 (fun H locs hw => ?_)
  refine lv_aload_n hx hb dX8_init_103 rfl (lv_at hl 0 rfl) ?_
  refine lv_iconst (v := 4) hx hb dX8_init_104 nc_iconst_4 ?_
  refine pz_newa (k := 19) (k' := 20) (slots' := 14240) (N := 4) (atype := .int) hC hAW 1 trivial hz hw (by decide +kernel) (by decide +kernel) (by decide) rfl rfl (by decide) (by decide) dX8_init_105 (fun H hw => ?_)
  refine lv_dup hx hb dX8_init_107 rfl ?_
  refine lv_iconst (v := 0) hx hb dX8_init_108 nc_iconst_0 ?_
  refine lv_iconst (v := (-1)) hx hb dX8_init_109 nc_iconst_m1 ?_
  obtain ⟨μ25, h26, hf⟩ := o_bind hf
  refine pw_iast hC hw h26 dX8_init_110 (fun H locs hw => ?_)
  refine lv_dup hx hb dX8_init_111 rfl ?_
  refine lv_iconst (v := 1) hx hb dX8_init_112 nc_iconst_1 ?_
  refine lv_iconst (v := (-1)) hx hb dX8_init_113 nc_iconst_m1 ?_
  obtain ⟨μ27, h28, hf⟩ := o_bind hf
  refine pw_iast hC hw h28 dX8_init_114 (fun H locs hw => ?_)
  refine lv_dup hx hb dX8_init_115 rfl ?_
  refine lv_iconst (v := 2) hx hb dX8_init_116 nc_iconst_2 ?_
  refine lv_iconst (v := (-1)) hx hb dX8_init_117 nc_iconst_m1 ?_
  obtain ⟨μ29, h30, hf⟩ := o_bind hf
  refine pw_iast hC hw h30 dX8_init_118 (fun H locs hw => ?_)
  refine lv_dup hx hb dX8_init_119 rfl ?_
  refine lv_iconst (v := 3) hx hb dX8_init_120 nc_iconst_3 ?_
  refine lv_iconst (v := (-1)) hx hb dX8_init_121 nc_iconst_m1 ?_
  obtain ⟨μ31, h32, hf⟩ := o_bind hf
  refine pw_iast hC hw h32 dX8_init_122 (fun H locs hw => ?_)
  obtain ⟨μ33, h34, hf⟩ := o_bind hf
  refine pz_putF hC fl_X8_55 hin hw h34 (.array .int) fdF_X8_18 (show _ from tw_1093) rfl rfl dX8_init_123 (fun H locs hw => ?_)
  refine lv_aload_n hx hb dX8_init_126 rfl (lv_at hl 0 rfl) ?_
  refine lv_iconst (v := 5) hx hb dX8_init_127 nc_iconst_5 ?_
  refine pz_newa (k := 20) (k' := 21) (slots' := 14245) (N := 5) (atype := .int) hC hAW 1 trivial hz hw (by decide +kernel) (by decide +kernel) (by decide) rfl rfl (by decide) (by decide) dX8_init_128 (fun H hw => ?_)
  obtain ⟨μ35, h36, hf⟩ := o_bind hf
  refine pz_putF hC fl_X8_58 hin hw h36 (.array .int) fdF_X8_19 (show _ from tw_1094) rfl rfl dX8_init_130 (fun H locs hw => ?_)
  refine lv_aload_n hx hb dX8_init_133 rfl (lv_at hl 0 rfl) ?_
  refine lv_bipush (v := 12) hx hb dX8_init_134 nc_bipush_12 ?_
  refine pz_newa (k := 21) (k' := 22) (slots' := 14257) (N := 12) (atype := .byte) hC hAW 0 trivial hz hw (by decide +kernel) (by decide +kernel) (by decide) rfl rfl (by decide) (by decide) dX8_init_136 (fun H hw => ?_)
  obtain ⟨μ37, h38, hf⟩ := o_bind hf
  refine pz_putF hC fl_X8_61 hin hw h38 (.array .byte) fdF_X8_20 (show _ from tw_1095) rfl rfl dX8_init_138 (fun H locs hw => ?_)
  refine lv_aload_n hx hb dX8_init_141 rfl (lv_at hl 0 rfl) ?_
  refine pz_new (k := 22) (k' := 23) (slots' := 14270) hC cn_X8_64 hz hw rfl rfl (by decide) (by decide) dX8_init_142 (fun H hw => ?_)
  refine lv_dup hx hb dX8_init_145 rfl ?_
  obtain ⟨μ40, h39, hf⟩ := o_bind hf
  refine pz_runI (k := 23) (k' := 34) (slots' := 28570) (As := []) (rest := [.ref (z + 22), .ref a0]) hC hAW mi_X7_init (Or.inr ⟨_, tw_1010⟩) hz hw (c_X7_init h39) ⟨by decide, by decide⟩ rfl hl.1 (Nat.le_of_ble_eq_true rfl) rfl rfl ⟨by decide, by decide⟩ rfl dX8_init_146 (fun H locs hw => ?_)
  obtain ⟨μ41, h42, hf⟩ := o_bind hf
  refine pz_putF hC fl_X8_67 hin hw h42 (.object "SpanShelvesModel$Tree") fdF_X8_21 (show _ from tw_1096) rfl rfl dX8_init_149 (fun H locs hw => ?_)
  refine lv_aload_n hx hb dX8_init_152 rfl (lv_at hl 0 rfl) ?_
  refine pz_new (k := 34) (k' := 35) (slots' := 28583) hC cn_X8_64 hz hw rfl rfl (by decide) (by decide) dX8_init_153 (fun H hw => ?_)
  refine lv_dup hx hb dX8_init_156 rfl ?_
  obtain ⟨μ44, h43, hf⟩ := o_bind hf
  refine pz_runI (k := 35) (k' := 46) (slots' := 42883) (As := []) (rest := [.ref (z + 34), .ref a0]) hC hAW mi_X7_init (Or.inr ⟨_, tw_1010⟩) hz hw (c_X7_init h43) ⟨by decide, by decide⟩ rfl hl.1 (Nat.le_of_ble_eq_true rfl) rfl rfl ⟨by decide, by decide⟩ rfl dX8_init_157 (fun H locs hw => ?_)
  obtain ⟨μ45, h46, hf⟩ := o_bind hf
  refine pz_putF hC fl_X8_71 hin hw h46 (.object "SpanShelvesModel$Tree") fdF_X8_22 (show _ from tw_1097) rfl rfl dX8_init_160 (fun H locs hw => ?_)
  refine lv_aload_n hx hb dX8_init_163 rfl (lv_at hl 0 rfl) ?_
  refine lv_sipush (v := 2002) hx hb dX8_init_164 nc_sipush_2002 ?_
  refine pz_newa (k := 46) (k' := 47) (slots' := 44885) (N := 2002) (atype := .int) hC hAW 1 trivial hz hw (by decide +kernel) (by decide +kernel) (by decide) rfl rfl (by decide) (by decide) dX8_init_167 (fun H hw => ?_)
  obtain ⟨μ47, h48, hf⟩ := o_bind hf
  refine pz_putF hC fl_X8_74 hin hw h48 (.array .int) fdF_X8_23 (show _ from tw_1098) rfl rfl dX8_init_169 (fun H locs hw => ?_)
  refine lv_aload_n hx hb dX8_init_172 rfl (lv_at hl 0 rfl) ?_
  refine lv_sipush (v := 12000) hx hb dX8_init_173 nc_sipush_12000 ?_
  refine pz_newa (k := 47) (k' := 48) (slots' := 56885) (N := 12000) (atype := .byte) hC hAW 0 trivial hz hw (by decide +kernel) (by decide +kernel) (by decide) rfl rfl (by decide) (by decide) dX8_init_176 (fun H hw => ?_)
  obtain ⟨μ49, h50, hf⟩ := o_bind hf
  refine pz_putF hC fl_X8_77 hin hw h50 (.array .byte) fdF_X8_26 (show _ from tw_1101) rfl rfl dX8_init_178 (fun H locs hw => ?_)
  refine lv_aload_n hx hb dX8_init_181 rfl (lv_at hl 0 rfl) ?_
  refine lv_sipush (v := 1301) hx hb dX8_init_182 nc_sipush_1301 ?_
  refine pz_newa (k := 48) (k' := 49) (slots' := 58186) (N := 1301) (atype := .int) hC hAW 1 trivial hz hw (by decide +kernel) (by decide +kernel) (by decide) rfl rfl (by decide) (by decide) dX8_init_185 (fun H hw => ?_)
  obtain ⟨μ51, h52, hf⟩ := o_bind hf
  refine pz_putF hC fl_X8_80 hin hw h52 (.array .int) fdF_X8_30 (show _ from tw_1105) rfl rfl dX8_init_187 (fun H locs hw => ?_)
  refine lv_aload_n hx hb dX8_init_190 rfl (lv_at hl 0 rfl) ?_
  refine lv_sipush (v := 2416) hx hb dX8_init_191 nc_sipush_2416 ?_
  refine pz_newa (k := 49) (k' := 50) (slots' := 60602) (N := 2416) (atype := .boolean) hC hAW 2 trivial hz hw (by decide +kernel) (by decide +kernel) (by decide) rfl rfl (by decide) (by decide) dX8_init_194 (fun H hw => ?_)
  obtain ⟨μ53, h54, hf⟩ := o_bind hf
  refine pz_putF hC fl_X8_83 hin hw h54 (.array .boolean) fdF_X8_41 (show _ from tw_1116) rfl rfl dX8_init_196 (fun H locs hw => ?_)
  refine lv_aload_n hx hb dX8_init_199 rfl (lv_at hl 0 rfl) ?_
  refine lv_bipush (v := 8) hx hb dX8_init_200 nc_bipush_8 ?_
  refine pz_newa (k := 50) (k' := 51) (slots' := 60610) (N := 8) (atype := .byte) hC hAW 0 trivial hz hw (by decide +kernel) (by decide +kernel) (by decide) rfl rfl (by decide) (by decide) dX8_init_202 (fun H hw => ?_)
  obtain ⟨μ55, h56, hf⟩ := o_bind hf
  refine pz_putF hC fl_X8_87 hin hw h56 (.array .byte) fdF_X8_43 (show _ from tw_1118) rfl rfl dX8_init_204 (fun H locs hw => ?_)
  refine lv_iconst (v := 0) hx hb dX8_init_207 nc_iconst_0 ?_
  refine lv_istore_n (lv' := [(1, .int 0), (0, .ref a0)]) hx hb dX8_init_208 rfl hl (by decide) rfl (fun ls hl => ?_)
  refine lv_iload_n hx hb dX8_init_209 rfl (lv_at hl 0 rfl) ?_
  refine lv_iconst (v := 4) hx hb dX8_init_210 nc_iconst_4 ?_
  refine lv_icmp_ge (tgt := 225) hx hb dX8_init_211 (by decide) (fun c57 => absurd c57 (by decide)) (fun c57 => ?_)
  refine lv_aload_n hx hb dX8_init_214 rfl (lv_at hl 1 rfl) ?_
  refine lv_iload_n hx hb dX8_init_215 rfl (lv_at hl 0 rfl) ?_
  obtain ⟨h58, hf⟩ := o_ite hf
  obtain ⟨μ60, h59, hf⟩ := o_bind hf
  refine pw_goV hw (pw_runV (As := [.int 0]) (rest := []) hC mm_X8_empty tw_1067 (c_X8_empty h59 _) ⟨rfl, rfl, by decide, by decide⟩ hw h58 rfl hl.1 (Nat.le_of_ble_eq_true rfl) ⟨by decide, by decide⟩ rfl dX8_init_216) (fun H locs hw => ?_)
  refine lv_iinc (v := 1) (lv' := [(1, .int 1), (0, .ref a0)]) hx hb dX8_init_219 hl (k := 0) rfl (by first | rfl | decide +kernel) (by decide) rfl (fun ls hl => ?_)
  refine lv_goto (tgt := 209) hx hb dX8_init_222 (by decide) ?_
  refine lv_iload_n hx hb dX8_init_209 rfl (lv_at hl 0 rfl) ?_
  refine lv_iconst (v := 4) hx hb dX8_init_210 nc_iconst_4 ?_
  refine lv_icmp_ge (tgt := 225) hx hb dX8_init_211 (by decide) (fun c61 => absurd c61 (by decide)) (fun c61 => ?_)
  refine lv_aload_n hx hb dX8_init_214 rfl (lv_at hl 1 rfl) ?_
  refine lv_iload_n hx hb dX8_init_215 rfl (lv_at hl 0 rfl) ?_
  obtain ⟨h62, hf⟩ := o_ite hf
  obtain ⟨μ64, h63, hf⟩ := o_bind hf
  refine pw_goV hw (pw_runV (As := [.int 1]) (rest := []) hC mm_X8_empty tw_1067 (c_X8_empty h63 _) ⟨rfl, rfl, by decide, by decide⟩ hw h62 rfl hl.1 (Nat.le_of_ble_eq_true rfl) ⟨by decide, by decide⟩ rfl dX8_init_216) (fun H locs hw => ?_)
  refine lv_iinc (v := 2) (lv' := [(1, .int 2), (0, .ref a0)]) hx hb dX8_init_219 hl (k := 0) rfl (by first | rfl | decide +kernel) (by decide) rfl (fun ls hl => ?_)
  refine lv_goto (tgt := 209) hx hb dX8_init_222 (by decide) ?_
  refine lv_iload_n hx hb dX8_init_209 rfl (lv_at hl 0 rfl) ?_
  refine lv_iconst (v := 4) hx hb dX8_init_210 nc_iconst_4 ?_
  refine lv_icmp_ge (tgt := 225) hx hb dX8_init_211 (by decide) (fun c65 => absurd c65 (by decide)) (fun c65 => ?_)
  refine lv_aload_n hx hb dX8_init_214 rfl (lv_at hl 1 rfl) ?_
  refine lv_iload_n hx hb dX8_init_215 rfl (lv_at hl 0 rfl) ?_
  obtain ⟨h66, hf⟩ := o_ite hf
  obtain ⟨μ68, h67, hf⟩ := o_bind hf
  refine pw_goV hw (pw_runV (As := [.int 2]) (rest := []) hC mm_X8_empty tw_1067 (c_X8_empty h67 _) ⟨rfl, rfl, by decide, by decide⟩ hw h66 rfl hl.1 (Nat.le_of_ble_eq_true rfl) ⟨by decide, by decide⟩ rfl dX8_init_216) (fun H locs hw => ?_)
  refine lv_iinc (v := 3) (lv' := [(1, .int 3), (0, .ref a0)]) hx hb dX8_init_219 hl (k := 0) rfl (by first | rfl | decide +kernel) (by decide) rfl (fun ls hl => ?_)
  refine lv_goto (tgt := 209) hx hb dX8_init_222 (by decide) ?_
  refine lv_iload_n hx hb dX8_init_209 rfl (lv_at hl 0 rfl) ?_
  refine lv_iconst (v := 4) hx hb dX8_init_210 nc_iconst_4 ?_
  refine lv_icmp_ge (tgt := 225) hx hb dX8_init_211 (by decide) (fun c69 => absurd c69 (by decide)) (fun c69 => ?_)
  refine lv_aload_n hx hb dX8_init_214 rfl (lv_at hl 1 rfl) ?_
  refine lv_iload_n hx hb dX8_init_215 rfl (lv_at hl 0 rfl) ?_
  obtain ⟨h70, hf⟩ := o_ite hf
  obtain ⟨μ72, h71, hf⟩ := o_bind hf
  refine pw_goV hw (pw_runV (As := [.int 3]) (rest := []) hC mm_X8_empty tw_1067 (c_X8_empty h71 _) ⟨rfl, rfl, by decide, by decide⟩ hw h70 rfl hl.1 (Nat.le_of_ble_eq_true rfl) ⟨by decide, by decide⟩ rfl dX8_init_216) (fun H locs hw => ?_)
  refine lv_iinc (v := 4) (lv' := [(1, .int 4), (0, .ref a0)]) hx hb dX8_init_219 hl (k := 0) rfl (by first | rfl | decide +kernel) (by decide) rfl (fun ls hl => ?_)
  refine lv_goto (tgt := 209) hx hb dX8_init_222 (by decide) ?_
  refine lv_iload_n hx hb dX8_init_209 rfl (lv_at hl 0 rfl) ?_
  refine lv_iconst (v := 4) hx hb dX8_init_210 nc_iconst_4 ?_
  refine lv_icmp_ge (tgt := 225) hx hb dX8_init_211 (by decide) (fun c73 => ?_) (fun c73 => absurd (by decide) c73)
  obtain rfl := o_retv hf
  exact pz_vret hC hr hlocks hw dX8_init_225
