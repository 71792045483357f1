theorem nc_sipush_2400 : (Int16.ofInt 2400).toInt32 = 2400 := by decide +kernel
theorem tw_6 : (Jvm.Cond.initialized "SpanShelves$Sheet") ∈ tw := tw_t 6 (by decide +kernel) (by decide +kernel)
theorem tw_41 : (Jvm.Cond.fieldLinkNest "SpanShelves$Sheet" (51 : Nat) "SpanShelves$Span" "size" "I" "SpanShelves") ∈ tw := tw_t 41 (by decide +kernel) (by decide +kernel)
theorem tw_153 : (Jvm.Cond.fieldLink "SpanShelves$Sheet" (14 : Nat) "SpanShelves$Sheet" "bytes" "LSpanShelves$Span;") ∈ tw := tw_t 153 (by decide +kernel) (by decide +kernel)
theorem tw_155 : (Jvm.Cond.fieldLink "SpanShelves$Sheet" (20 : Nat) "SpanShelves$Sheet" "documentPlaces" "[I") ∈ tw := tw_t 155 (by decide +kernel) (by decide +kernel)
theorem tw_156 : (Jvm.Cond.fieldLink "SpanShelves$Sheet" (24 : Nat) "SpanShelves$Sheet" "documentTypes" "[I") ∈ tw := tw_t 156 (by decide +kernel) (by decide +kernel)
theorem tw_157 : (Jvm.Cond.fieldLink "SpanShelves$Sheet" (27 : Nat) "SpanShelves$Sheet" "valuePlaces" "[I") ∈ tw := tw_t 157 (by decide +kernel) (by decide +kernel)
theorem tw_158 : (Jvm.Cond.fieldLink "SpanShelves$Sheet" (30 : Nat) "SpanShelves$Sheet" "counts" "[I") ∈ tw := tw_t 158 (by decide +kernel) (by decide +kernel)
theorem tw_159 : (Jvm.Cond.fieldLink "SpanShelves$Sheet" (33 : Nat) "SpanShelves$Sheet" "open" "I") ∈ tw := tw_t 159 (by decide +kernel) (by decide +kernel)
theorem tw_161 : (Jvm.Cond.fieldLink "SpanShelves$Sheet" (37 : Nat) "SpanShelves$Sheet" "isThere" "Z") ∈ tw := tw_t 161 (by decide +kernel) (by decide +kernel)
theorem tw_180 : (Jvm.Cond.instanceMethod ({ cls := "SpanShelves$Span", name := "appendLowestFirst", desc := "(JI)V" } : Jvm.MethodName)) ∈ tw := tw_t 180 (by decide +kernel) (by decide +kernel)
theorem tw_181 : (Jvm.Cond.selects "SpanShelves$Span" ({ cls := "SpanShelves$Span", name := "appendLowestFirst", desc := "(JI)V" } : Jvm.MethodName) ({ cls := "SpanShelves$Span", name := "appendLowestFirst", desc := "(JI)V" } : Jvm.MethodName)) ∈ tw := tw_t 181 (by decide +kernel) (by decide +kernel)
theorem tw_182 : (Jvm.Cond.code ({ cls := "SpanShelves$Span", name := "appendLowestFirst", desc := "(JI)V" } : Jvm.MethodName) prog_7_method_10_code (5 : Nat) (Option.none : Option Jvm.ClassFile.FieldType)) ∈ tw := tw_t 182 (by decide +kernel) (by decide +kernel)
theorem tw_511 : (Jvm.Cond.methodLink "SpanShelves$Sheet" (41 : Nat) ({ cls := "SpanShelves$Sheet", name := "takeAway", desc := "()V" } : Jvm.MethodName)) ∈ tw := tw_t 511 (by decide +kernel) (by decide +kernel)
theorem tw_512 : (Jvm.Cond.instanceMethod ({ cls := "SpanShelves$Sheet", name := "takeAway", desc := "()V" } : Jvm.MethodName)) ∈ tw := tw_t 512 (by decide +kernel) (by decide +kernel)
theorem tw_513 : (Jvm.Cond.selects "SpanShelves$Sheet" ({ cls := "SpanShelves$Sheet", name := "takeAway", desc := "()V" } : Jvm.MethodName) ({ cls := "SpanShelves$Sheet", name := "takeAway", desc := "()V" } : Jvm.MethodName)) ∈ tw := tw_t 513 (by decide +kernel) (by decide +kernel)
theorem tw_514 : (Jvm.Cond.code ({ cls := "SpanShelves$Sheet", name := "takeAway", desc := "()V" } : Jvm.MethodName) prog_5_method_3_code (1 : Nat) (Option.none : Option Jvm.ClassFile.FieldType)) ∈ tw := tw_t 514 (by decide +kernel) (by decide +kernel)
theorem tw_515 : (Jvm.Cond.methodLink "SpanShelves$Sheet" (48 : Nat) ({ cls := "SpanShelves$Span", name := "clear", desc := "()V" } : Jvm.MethodName)) ∈ tw := tw_t 515 (by decide +kernel) (by decide +kernel)
theorem tw_516 : (Jvm.Cond.methodLink "SpanShelves$Sheet" (44 : Nat) ({ cls := "SpanShelves$Sheet", name := "openDocument", desc := "(II)V" } : Jvm.MethodName)) ∈ tw := tw_t 516 (by decide +kernel) (by decide +kernel)
theorem tw_518 : (Jvm.Cond.instanceMethod ({ cls := "SpanShelves$Sheet", name := "openDocument", desc := "(II)V" } : Jvm.MethodName)) ∈ tw := tw_t 518 (by decide +kernel) (by decide +kernel)
theorem tw_519 : (Jvm.Cond.code ({ cls := "SpanShelves$Sheet", name := "openDocument", desc := "(II)V" } : Jvm.MethodName) prog_5_method_12_code (3 : Nat) (Option.none : Option Jvm.ClassFile.FieldType)) ∈ tw := tw_t 519 (by decide +kernel) (by decide +kernel)
theorem tw_520 : (Jvm.Cond.methodLink "SpanShelves$Sheet" (88 : Nat) ({ cls := "SpanShelves$Span", name := "appendLowestFirst", desc := "(JI)V" } : Jvm.MethodName)) ∈ tw := tw_t 520 (by decide +kernel) (by decide +kernel)
theorem tw_530 : (Jvm.Cond.instanceMethod ({ cls := "SpanShelves$Sheet", name := "innermostCount", desc := "()I" } : Jvm.MethodName)) ∈ tw := tw_t 530 (by decide +kernel) (by decide +kernel)
theorem tw_531 : (Jvm.Cond.selects "SpanShelves$Sheet" ({ cls := "SpanShelves$Sheet", name := "innermostCount", desc := "()I" } : Jvm.MethodName) ({ cls := "SpanShelves$Sheet", name := "innermostCount", desc := "()I" } : Jvm.MethodName)) ∈ tw := tw_t 531 (by decide +kernel) (by decide +kernel)
theorem tw_532 : (Jvm.Cond.code ({ cls := "SpanShelves$Sheet", name := "innermostCount", desc := "()I" } : Jvm.MethodName) prog_5_method_6_code (1 : Nat) (Option.some Jvm.ClassFile.FieldType.int)) ∈ tw := tw_t 532 (by decide +kernel) (by decide +kernel)
theorem tw_931 : (Jvm.Cond.instanceMethod ({ cls := "SpanShelves$Sheet", name := "isInRow", desc := "()Z" } : Jvm.MethodName)) ∈ tw := tw_t 931 (by decide +kernel) (by decide +kernel)
theorem tw_932 : (Jvm.Cond.selects "SpanShelves$Sheet" ({ cls := "SpanShelves$Sheet", name := "isInRow", desc := "()Z" } : Jvm.MethodName) ({ cls := "SpanShelves$Sheet", name := "isInRow", desc := "()Z" } : Jvm.MethodName)) ∈ tw := tw_t 932 (by decide +kernel) (by decide +kernel)
theorem tw_933 : (Jvm.Cond.code ({ cls := "SpanShelves$Sheet", name := "isInRow", desc := "()Z" } : Jvm.MethodName) prog_5_method_5_code (1 : Nat) (Option.some Jvm.ClassFile.FieldType.boolean)) ∈ tw := tw_t 933 (by decide +kernel) (by decide +kernel)
theorem tw_938 : (Jvm.Cond.methodLink "SpanShelves$Sheet" (78 : Nat) ({ cls := "SpanShelves$Sheet", name := "bytesAheadOfGiven", desc := "()I" } : Jvm.MethodName)) ∈ tw := tw_t 938 (by decide +kernel) (by decide +kernel)
theorem tw_940 : (Jvm.Cond.instanceMethod ({ cls := "SpanShelves$Sheet", name := "bytesAheadOfGiven", desc := "()I" } : Jvm.MethodName)) ∈ tw := tw_t 940 (by decide +kernel) (by decide +kernel)
theorem tw_941 : (Jvm.Cond.code ({ cls := "SpanShelves$Sheet", name := "bytesAheadOfGiven", desc := "()I" } : Jvm.MethodName) prog_5_method_8_code (1 : Nat) (Option.some Jvm.ClassFile.FieldType.int)) ∈ tw := tw_t 941 (by decide +kernel) (by decide +kernel)
theorem tw_942 : (Jvm.Cond.methodLink "SpanShelves$Sheet" (54 : Nat) ({ cls := "SpanShelves$Sheet", name := "isInRow", desc := "()Z" } : Jvm.MethodName)) ∈ tw := tw_t 942 (by decide +kernel) (by decide +kernel)
theorem tw_943 : (Jvm.Cond.methodLink "SpanShelves$Sheet" (58 : Nat) ({ cls := "SpanShelves$Sheet", name := "innermostCount", desc := "()I" } : Jvm.MethodName)) ∈ tw := tw_t 943 (by decide +kernel) (by decide +kernel)
theorem tw_944 : (Jvm.Cond.methodLink "SpanShelves$Sheet" (62 : Nat) ({ cls := "SpanShelves$Form", name := "digitsOf", desc := "(I)I" } : Jvm.MethodName)) ∈ tw := tw_t 944 (by decide +kernel) (by decide +kernel)
theorem tw_945 : (Jvm.Cond.methodLink "SpanShelves$Sheet" (81 : Nat) ({ cls := "SpanShelves$Sheet", name := "room", desc := "()I" } : Jvm.MethodName)) ∈ tw := tw_t 945 (by decide +kernel) (by decide +kernel)
theorem tw_947 : (Jvm.Cond.instanceMethod ({ cls := "SpanShelves$Sheet", name := "room", desc := "()I" } : Jvm.MethodName)) ∈ tw := tw_t 947 (by decide +kernel) (by decide +kernel)
theorem tw_948 : (Jvm.Cond.code ({ cls := "SpanShelves$Sheet", name := "room", desc := "()I" } : Jvm.MethodName) prog_5_method_7_code (1 : Nat) (Option.some Jvm.ClassFile.FieldType.int)) ∈ tw := tw_t 948 (by decide +kernel) (by decide +kernel)
theorem tw_949 : (Jvm.Cond.methodLink "SpanShelves$Sheet" (84 : Nat) ({ cls := "SpanShelves$Sheet", name := "startElement", desc := "(ILSpanShelves$Span;I)V" } : Jvm.MethodName)) ∈ tw := tw_t 949 (by decide +kernel) (by decide +kernel)
theorem tw_951 : (Jvm.Cond.instanceMethod ({ cls := "SpanShelves$Sheet", name := "startElement", desc := "(ILSpanShelves$Span;I)V" } : Jvm.MethodName)) ∈ tw := tw_t 951 (by decide +kernel) (by decide +kernel)
theorem tw_952 : (Jvm.Cond.code ({ cls := "SpanShelves$Sheet", name := "startElement", desc := "(ILSpanShelves$Span;I)V" } : Jvm.MethodName) prog_5_method_9_code (4 : Nat) (Option.none : Option Jvm.ClassFile.FieldType)) ∈ tw := tw_t 952 (by decide +kernel) (by decide +kernel)
theorem tw_953 : (Jvm.Cond.methodLink "SpanShelves$Sheet" (68 : Nat) ({ cls := "SpanShelves$Span", name := "append", desc := "(I)V" } : Jvm.MethodName)) ∈ tw := tw_t 953 (by decide +kernel) (by decide +kernel)
theorem tw_954 : (Jvm.Cond.methodLink "SpanShelves$Sheet" (71 : Nat) ({ cls := "SpanShelves$Span", name := "appendRowName", desc := "(I)V" } : Jvm.MethodName)) ∈ tw := tw_t 954 (by decide +kernel) (by decide +kernel)
theorem tw_955 : (Jvm.Cond.methodLink "SpanShelves$Sheet" (74 : Nat) ({ cls := "SpanShelves$Span", name := "appendPart", desc := "(LSpanShelves$Span;II)V" } : Jvm.MethodName)) ∈ tw := tw_t 955 (by decide +kernel) (by decide +kernel)
theorem tw_984 : (Jvm.Cond.methodLink "SpanShelves$Sheet" (92 : Nat) ({ cls := "SpanShelves$Span", name := "putInt", desc := "(II)V" } : Jvm.MethodName)) ∈ tw := tw_t 984 (by decide +kernel) (by decide +kernel)
theorem twp_17 : (Jvm.Cond.selects "SpanShelves$Sheet" ({ cls := "SpanShelves$Sheet", name := "openDocument", desc := "(II)V" } : Jvm.MethodName) ({ cls := "SpanShelves$Sheet", name := "openDocument", desc := "(II)V" } : Jvm.MethodName)) ∈ tw := tw_p 17 (q := (({ cls := "SpanShelves$Sheet", name := "openDocument", desc := "(II)V" } : Jvm.MethodName), 7)) (by decide +kernel) (by decide +kernel)
theorem twp_22 : (Jvm.Cond.selects "SpanShelves$Sheet" ({ cls := "SpanShelves$Sheet", name := "bytesAheadOfGiven", desc := "()I" } : Jvm.MethodName) ({ cls := "SpanShelves$Sheet", name := "bytesAheadOfGiven", desc := "()I" } : Jvm.MethodName)) ∈ tw := tw_p 22 (q := (({ cls := "SpanShelves$Sheet", name := "bytesAheadOfGiven", desc := "()I" } : Jvm.MethodName), 7)) (by decide +kernel) (by decide +kernel)
theorem twp_23 : (Jvm.Cond.selects "SpanShelves$Sheet" ({ cls := "SpanShelves$Sheet", name := "room", desc := "()I" } : Jvm.MethodName) ({ cls := "SpanShelves$Sheet", name := "room", desc := "()I" } : Jvm.MethodName)) ∈ tw := tw_p 23 (q := (({ cls := "SpanShelves$Sheet", name := "room", desc := "()I" } : Jvm.MethodName), 7)) (by decide +kernel) (by decide +kernel)
theorem twp_24 : (Jvm.Cond.selects "SpanShelves$Sheet" ({ cls := "SpanShelves$Sheet", name := "startElement", desc := "(ILSpanShelves$Span;I)V" } : Jvm.MethodName) ({ cls := "SpanShelves$Sheet", name := "startElement", desc := "(ILSpanShelves$Span;I)V" } : Jvm.MethodName)) ∈ tw := tw_p 24 (q := (({ cls := "SpanShelves$Sheet", name := "startElement", desc := "(ILSpanShelves$Span;I)V" } : Jvm.MethodName), 7)) (by decide +kernel) (by decide +kernel)
theorem iw_X3 : ∀ w ∈ u_ws RX3 TX3 7, w ∈ tw := fun w h => List.mem_filter.mpr ⟨(show ∀ w ∈ u_ws RX3 TX3 7, w ∈ lw_tbl by decide +kernel) w h, (show ∀ w ∈ u_ws RX3 TX3 7, tw_ok w = true by decide +kernel) w h⟩
theorem fl_X3_14 : FL RX3 14 2 0 := ⟨by decide, RX3, TX3, 7, tyX3, rfl, by decide, rfl, iw_X3, tyX3_ok, nmX3, Or.inl tw_153⟩
theorem fl_X3_20 : FL RX3 20 2 1 := ⟨by decide, RX3, TX3, 7, tyX3, rfl, by decide, rfl, iw_X3, tyX3_ok, nmX3, Or.inl tw_155⟩
theorem fl_X3_24 : FL RX3 24 2 2 := ⟨by decide, RX3, TX3, 7, tyX3, rfl, by decide, rfl, iw_X3, tyX3_ok, nmX3, Or.inl tw_156⟩
theorem fl_X3_27 : FL RX3 27 2 3 := ⟨by decide, RX3, TX3, 7, tyX3, rfl, by decide, rfl, iw_X3, tyX3_ok, nmX3, Or.inl tw_157⟩
theorem fl_X3_30 : FL RX3 30 2 4 := ⟨by decide, RX3, TX3, 7, tyX3, rfl, by decide, rfl, iw_X3, tyX3_ok, nmX3, Or.inl tw_158⟩
theorem fl_X3_33 : FL RX3 33 2 5 := ⟨by decide, RX3, TX3, 7, tyX3, rfl, by decide, rfl, iw_X3, tyX3_ok, nmX3, Or.inl tw_159⟩
theorem fl_X3_37 : FL RX3 37 2 6 := ⟨by decide, RX3, TX3, 7, tyX3, rfl, by decide, rfl, iw_X3, tyX3_ok, nmX3, Or.inl tw_161⟩
theorem fl_X3_51 : FL RX3 51 4 1 := ⟨by decide, RX5, TX5, 3, tyX5, rfl, by decide, rfl, iw_X5, tyX5_ok, nmX5, Or.inr ⟨_, tw_41⟩⟩
theorem fd_X3_5 : ∀ (C : String) (T : u_T) (N : Nat), vwCl[2]? = some (C, T, N) → (T 5).2.2.2 = false ∧ parseFieldDescriptor (T 5).2.2.1 = some .int := by intro C T N h; cases h; exact ⟨rfl, by decide +kernel⟩
theorem fd_X3_6 : ∀ (C : String) (T : u_T) (N : Nat), vwCl[2]? = some (C, T, N) → (T 6).2.2.2 = false ∧ parseFieldDescriptor (T 6).2.2.1 = some .boolean := by intro C T N h; cases h; exact ⟨rfl, by decide +kernel⟩
theorem mm_X3_bytesAheadOfGiven : MM 2 yX3_bytesAheadOfGiven cX3_bytesAheadOfGiven 1 (some .int) 0 := ⟨by decide, RX3, TX3, 7, rfl, tw_940, twp_22, tw_941, tw_6, by decide +kernel, by decide +kernel, by decide +kernel⟩
theorem mm_X3_innermostCount : MM 2 yX3_innermostCount cX3_innermostCount 1 (some .int) 0 := ⟨by decide, RX3, TX3, 7, rfl, tw_530, tw_531, tw_532, tw_6, by decide +kernel, by decide +kernel, by decide +kernel⟩
theorem mm_X3_isInRow : MM 2 yX3_isInRow cX3_isInRow 1 (some .boolean) 0 := ⟨by decide, RX3, TX3, 7, rfl, tw_931, tw_932, tw_933, tw_6, by decide +kernel, by decide +kernel, by decide +kernel⟩
theorem mm_X3_openDocument : MM 2 yX3_openDocument cX3_openDocument 3 none 2 := ⟨by decide, RX3, TX3, 7, rfl, tw_518, twp_17, tw_519, tw_6, by decide +kernel, by decide +kernel, by decide +kernel⟩
theorem mm_X3_room : MM 2 yX3_room cX3_room 1 (some .int) 0 := ⟨by decide, RX3, TX3, 7, rfl, tw_947, twp_23, tw_948, tw_6, by decide +kernel, by decide +kernel, by decide +kernel⟩
theorem mm_X3_startElement : MM 2 yX3_startElement cX3_startElement 4 none 3 := ⟨by decide, RX3, TX3, 7, rfl, tw_951, twp_24, tw_952, tw_6, by decide +kernel, by decide +kernel, by decide +kernel⟩
theorem mm_X3_takeAway : MM 2 yX3_takeAway cX3_takeAway 1 none 0 := ⟨by decide, RX3, TX3, 7, rfl, tw_512, tw_513, tw_514, tw_6, by decide +kernel, by decide +kernel, by decide +kernel⟩
theorem mm_X5_appendLowestFirst : MM 4 yX5_appendLowestFirst cX5_appendLowestFirst 5 none 2 := ⟨by decide, RX5, TX5, 3, rfl, tw_180, tw_181, tw_182, tw_2, by decide +kernel, by decide +kernel, by decide +kernel⟩
theorem dX3_takeAway_0 : decode cX3_takeAway 0 = .ok (.aload_n 0, 1) := by decide +kernel
theorem dX3_takeAway_1 : decode cX3_takeAway 1 = .ok (.getfield 14, 3) := by decide +kernel
theorem dX3_takeAway_4 : decode cX3_takeAway 4 = .ok (.invokevirtual 48, 3) := by decide +kernel
theorem dX3_takeAway_7 : decode cX3_takeAway 7 = .ok (.aload_n 0, 1) := by decide +kernel
theorem dX3_takeAway_8 : decode cX3_takeAway 8 = .ok (.iconst 0, 1) := by decide +kernel
theorem dX3_takeAway_9 : decode cX3_takeAway 9 = .ok (.putfield 33, 3) := by decide +kernel
theorem dX3_takeAway_12 : decode cX3_takeAway 12 = .ok (.aload_n 0, 1) := by decide +kernel
theorem dX3_takeAway_13 : decode cX3_takeAway 13 = .ok (.iconst 0, 1) := by decide +kernel
theorem dX3_takeAway_14 : decode cX3_takeAway 14 = .ok (.putfield 37, 3) := by decide +kernel
theorem dX3_takeAway_17 : decode cX3_takeAway 17 = .ok (.return_, 1) := by decide +kernel
abbrev rm_X3_takeAway : Room := { frames := 1, cells := 0, slots := 0, locals := 20 }
def f_X3_takeAway (cy : Nat → ClassId) (a0 : Nat) (μ : Mem) : Option Mem :=
  (rdR μ a0 2 0).bind fun q1 => if isO μ q1 4 = true then ((f_X5_clear cy q1 μ).bind fun μ5 => (wrF μ5 a0 2 5 (.int 0)).bind fun μ6 => (wrF μ6 a0 2 6 (.int 0)).bind fun μ8 => some μ8) else none
set_option maxRecDepth 100000 in
set_option maxHeartbeats 4000000 in
theorem c_X3_takeAway {l : Launch} {g : Wg} {L : List Nat} {μ : Mem} {a0 : Nat} {μ' : Mem} (hf : f_X3_takeAway g.2 a0 μ = some μ') : MetV l yX3_takeAway cX3_takeAway 1 none rm_X3_takeAway g L μ [.ref a0] μ' := by
  refine pw_met (Qc := fun A => QV g L A μ') (by decide) (Nat.le_of_ble_eq_true rfl) ?_
  intro p e s m args below meth c A ls H locs hC hr hlocks hl hw
  have hx := hC.1
  have hb := hC.2.1
  have hl : lv_has ls 1 [(0, .ref a0)] := hl
  unfold f_X3_takeAway at hf
  refine lv_aload_n hx hb dX3_takeAway_0 rfl (lv_at hl 0 rfl) ?_
  obtain ⟨q1, h2, hf⟩ := o_bind hf
  refine pw_get hC fl_X3_14 hw (rdR_F h2) dX3_takeAway_1 ?_
  obtain ⟨h4, hf⟩ := o_ite hf
  obtain ⟨μ5, h3, hf⟩ := o_bind hf
  refine pw_goV hw (pw_runV (As := []) (rest := []) hC mm_X5_clear tw_515 (c_X5_clear h3 _) ⟨rfl, rfl, by decide, by decide⟩ hw h4 rfl hl.1 (Nat.le_of_ble_eq_true rfl) ⟨Nat.zero_le _, Nat.zero_le _⟩ rfl dX3_takeAway_4) (fun H locs hw => ?_)
  refine lv_aload_n hx hb dX3_takeAway_7 rfl (lv_at hl 0 rfl) ?_
  refine lv_iconst (v := 0) hx hb dX3_takeAway_8 nc_iconst_0 ?_
  obtain ⟨μ6, h7, hf⟩ := o_bind hf
  refine pw_put hC fl_X3_33 hw h7 .int fd_X3_5 rfl rfl dX3_takeAway_9 (fun H locs hw => ?_)
  refine lv_aload_n hx hb dX3_takeAway_12 rfl (lv_at hl 0 rfl) ?_
  refine lv_iconst (v := 0) hx hb dX3_takeAway_13 nc_iconst_0 ?_
  obtain ⟨μ8, h9, hf⟩ := o_bind hf
  refine pw_put hC fl_X3_37 hw h9 .boolean fd_X3_6 (by decide +kernel) rfl dX3_takeAway_14 (fun H locs hw => ?_)
  obtain rfl := o_retv hf
  exact pw_vret hC hr hlocks hw dX3_takeAway_17
theorem dX3_openDocument_0 : decode cX3_openDocument 0 = .ok (.aload_n 0, 1) := by decide +kernel
theorem dX3_openDocument_1 : decode cX3_openDocument 1 = .ok (.getfield 33, 3) := by decide +kernel
theorem dX3_openDocument_4 : decode cX3_openDocument 4 = .ok (.bipush 24, 2) := by decide +kernel
theorem dX3_openDocument_6 : decode cX3_openDocument 6 = .ok (.if_icmp .lt 4, 3) := by decide +kernel
theorem dX3_openDocument_9 : decode cX3_openDocument 9 = .ok (.return_, 1) := by decide +kernel
theorem dX3_openDocument_10 : decode cX3_openDocument 10 = .ok (.aload_n 0, 1) := by decide +kernel
theorem dX3_openDocument_11 : decode cX3_openDocument 11 = .ok (.getfield 20, 3) := by decide +kernel
theorem dX3_openDocument_14 : decode cX3_openDocument 14 = .ok (.aload_n 0, 1) := by decide +kernel
theorem dX3_openDocument_15 : decode cX3_openDocument 15 = .ok (.getfield 33, 3) := by decide +kernel
theorem dX3_openDocument_18 : decode cX3_openDocument 18 = .ok (.aload_n 0, 1) := by decide +kernel
theorem dX3_openDocument_19 : decode cX3_openDocument 19 = .ok (.getfield 14, 3) := by decide +kernel
theorem dX3_openDocument_22 : decode cX3_openDocument 22 = .ok (.getfield 51, 3) := by decide +kernel
theorem dX3_openDocument_25 : decode cX3_openDocument 25 = .ok (.iastore, 1) := by decide +kernel
theorem dX3_openDocument_26 : decode cX3_openDocument 26 = .ok (.aload_n 0, 1) := by decide +kernel
theorem dX3_openDocument_27 : decode cX3_openDocument 27 = .ok (.getfield 24, 3) := by decide +kernel
theorem dX3_openDocument_30 : decode cX3_openDocument 30 = .ok (.aload_n 0, 1) := by decide +kernel
theorem dX3_openDocument_31 : decode cX3_openDocument 31 = .ok (.getfield 33, 3) := by decide +kernel
theorem dX3_openDocument_34 : decode cX3_openDocument 34 = .ok (.iload_n 1, 1) := by decide +kernel
theorem dX3_openDocument_35 : decode cX3_openDocument 35 = .ok (.iastore, 1) := by decide +kernel
theorem dX3_openDocument_36 : decode cX3_openDocument 36 = .ok (.aload_n 0, 1) := by decide +kernel
theorem dX3_openDocument_37 : decode cX3_openDocument 37 = .ok (.getfield 27, 3) := by decide +kernel
theorem dX3_openDocument_40 : decode cX3_openDocument 40 = .ok (.aload_n 0, 1) := by decide +kernel
theorem dX3_openDocument_41 : decode cX3_openDocument 41 = .ok (.getfield 33, 3) := by decide +kernel
theorem dX3_openDocument_44 : decode cX3_openDocument 44 = .ok (.iload_n 2, 1) := by decide +kernel
theorem dX3_openDocument_45 : decode cX3_openDocument 45 = .ok (.iastore, 1) := by decide +kernel
theorem dX3_openDocument_46 : decode cX3_openDocument 46 = .ok (.aload_n 0, 1) := by decide +kernel
theorem dX3_openDocument_47 : decode cX3_openDocument 47 = .ok (.getfield 30, 3) := by decide +kernel
theorem dX3_openDocument_50 : decode cX3_openDocument 50 = .ok (.aload_n 0, 1) := by decide +kernel
theorem dX3_openDocument_51 : decode cX3_openDocument 51 = .ok (.getfield 33, 3) := by decide +kernel
theorem dX3_openDocument_54 : decode cX3_openDocument 54 = .ok (.iconst 0, 1) := by decide +kernel
theorem dX3_openDocument_55 : decode cX3_openDocument 55 = .ok (.iastore, 1) := by decide +kernel
theorem dX3_openDocument_56 : decode cX3_openDocument 56 = .ok (.aload_n 0, 1) := by decide +kernel
theorem dX3_openDocument_57 : decode cX3_openDocument 57 = .ok (.dup, 1) := by decide +kernel
theorem dX3_openDocument_58 : decode cX3_openDocument 58 = .ok (.getfield 33, 3) := by decide +kernel
theorem dX3_openDocument_61 : decode cX3_openDocument 61 = .ok (.iconst 1, 1) := by decide +kernel
theorem dX3_openDocument_62 : decode cX3_openDocument 62 = .ok (.iadd, 1) := by decide +kernel
theorem dX3_openDocument_63 : decode cX3_openDocument 63 = .ok (.putfield 33, 3) := by decide +kernel
theorem dX3_openDocument_66 : decode cX3_openDocument 66 = .ok (.aload_n 0, 1) := by decide +kernel
theorem dX3_openDocument_67 : decode cX3_openDocument 67 = .ok (.getfield 14, 3) := by decide +kernel
theorem dX3_openDocument_70 : decode cX3_openDocument 70 = .ok (.lconst 0, 1) := by decide +kernel
theorem dX3_openDocument_71 : decode cX3_openDocument 71 = .ok (.iconst 4, 1) := by decide +kernel
theorem dX3_openDocument_72 : decode cX3_openDocument 72 = .ok (.invokevirtual 88, 3) := by decide +kernel
theorem dX3_openDocument_75 : decode cX3_openDocument 75 = .ok (.return_, 1) := by decide +kernel
abbrev rm_X3_openDocument : Room := { frames := 2, cells := 0, slots := 0, locals := 45 }
def f_X3_openDocument (cy : Nat → ClassId) (a0 : Nat) (a1 : Int32) (a2 : Int32) (μ : Mem) : Option Mem :=
  (rdI μ a0 2 5).bind fun v1 => if v1 < 24 then ((rdR μ a0 2 1).bind fun q4 => (rdI μ a0 2 5).bind fun v6 => (rdR μ a0 2 0).bind fun q8 => (rdI μ q8 4 1).bind fun v10 => (wrA cy μ 1 q4 v6 v10).bind fun μ12 => (rdR μ12 a0 2 2).bind fun q14 => (rdI μ12 a0 2 5).bind fun v16 => (wrA cy μ12 1 q14 v16 a1).bind fun μ18 => (rdR μ18 a0 2 3).bind fun q20 => (rdI μ18 a0 2 5).bind fun v22 => (wrA cy μ18 1 q20 v22 a2).bind fun μ24 => (rdR μ24 a0 2 4).bind fun q26 => (rdI μ24 a0 2 5).bind fun v28 => (wrA cy μ24 1 q26 v28 0).bind fun μ30 => (rdI μ30 a0 2 5).bind fun v32 => (wrF μ30 a0 2 5 (.int (v32 + 1))).bind fun μ34 => (rdR μ34 a0 2 0).bind fun q36 => if isO μ34 q36 4 = true then ((f_X5_appendLowestFirst cy q36 (0 : Int64) 4 μ34).bind fun μ40 => some μ40) else none) else some μ
set_option maxRecDepth 100000 in
set_option maxHeartbeats 4000000 in
theorem c_X3_openDocument {l : Launch} {g : Wg} {L : List Nat} {μ : Mem} {a0 : Nat} {a1 : Int32} {a2 : Int32} {μ' : Mem} (hf : f_X3_openDocument g.2 a0 a1 a2 μ = some μ') : MetV l yX3_openDocument cX3_openDocument 3 none rm_X3_openDocument g L μ [.ref a0, .int a1, .int a2] μ' := by
  refine pw_met (Qc := fun A => QV g L A μ') (by decide) (Nat.le_of_ble_eq_true rfl) ?_
  intro p e s m args below meth c A ls H locs hC hr hlocks hl hw
  have hx := hC.1
  have hb := hC.2.1
  have hl : lv_has ls 3 [(0, .ref a0), (1, .int a1), (2, .int a2)] := hl
  unfold f_X3_openDocument at hf
  refine lv_aload_n hx hb dX3_openDocument_0 rfl (lv_at hl 0 rfl) ?_
  obtain ⟨v1, h2, hf⟩ := o_bind hf
  refine pw_get hC fl_X3_33 hw (rdI_F h2) dX3_openDocument_1 ?_
  refine lv_bipush (v := 24) hx hb dX3_openDocument_4 nc_bipush_24 ?_
  refine lv_icmp_lt (tgt := 10) hx hb dX3_openDocument_6 (by decide) (fun c3 => ?_) (fun c3 => ?_)
  · have hf := o_pos c3 hf
    refine lv_aload_n hx hb dX3_openDocument_10 rfl (lv_at hl 0 rfl) ?_
    obtain ⟨q4, h5, hf⟩ := o_bind hf
    refine pw_get hC fl_X3_20 hw (rdR_F h5) dX3_openDocument_11 ?_
    refine lv_aload_n hx hb dX3_openDocument_14 rfl (lv_at hl 0 rfl) ?_
    obtain ⟨v6, h7, hf⟩ := o_bind hf
    refine pw_get hC fl_X3_33 hw (rdI_F h7) dX3_openDocument_15 ?_
    refine lv_aload_n hx hb dX3_openDocument_18 rfl (lv_at hl 0 rfl) ?_
    obtain ⟨q8, h9, hf⟩ := o_bind hf
    refine pw_get hC fl_X3_14 hw (rdR_F h9) dX3_openDocument_19 ?_
    obtain ⟨v10, h11, hf⟩ := o_bind hf
    refine pw_get hC fl_X3_51 hw (rdI_F h11) dX3_openDocument_22 ?_
    obtain ⟨μ12, h13, hf⟩ := o_bind hf
    refine pw_iast hC hw h13 dX3_openDocument_25 (fun H locs hw => ?_)
    refine lv_aload_n hx hb dX3_openDocument_26 rfl (lv_at hl 0 rfl) ?_
    obtain ⟨q14, h15, hf⟩ := o_bind hf
    refine pw_get hC fl_X3_24 hw (rdR_F h15) dX3_openDocument_27 ?_
    refine lv_aload_n hx hb dX3_openDocument_30 rfl (lv_at hl 0 rfl) ?_
    obtain ⟨v16, h17, hf⟩ := o_bind hf
    refine pw_get hC fl_X3_33 hw (rdI_F h17) dX3_openDocument_31 ?_
    refine lv_iload_n hx hb dX3_openDocument_34 rfl (lv_at hl 1 rfl) ?_
    obtain ⟨μ18, h19, hf⟩ := o_bind hf
    refine pw_iast hC hw h19 dX3_openDocument_35 (fun H locs hw => ?_)
    refine lv_aload_n hx hb dX3_openDocument_36 rfl (lv_at hl 0 rfl) ?_
    obtain ⟨q20, h21, hf⟩ := o_bind hf
    refine pw_get hC fl_X3_27 hw (rdR_F h21) dX3_openDocument_37 ?_
    refine lv_aload_n hx hb dX3_openDocument_40 rfl (lv_at hl 0 rfl) ?_
    obtain ⟨v22, h23, hf⟩ := o_bind hf
    refine pw_get hC fl_X3_33 hw (rdI_F h23) dX3_openDocument_41 ?_
    refine lv_iload_n hx hb dX3_openDocument_44 rfl (lv_at hl 2 rfl) ?_
    obtain ⟨μ24, h25, hf⟩ := o_bind hf
    refine pw_iast hC hw h25 dX3_openDocument_45 (fun H locs hw => ?_)
    refine lv_aload_n hx hb dX3_openDocument_46 rfl (lv_at hl 0 rfl) ?_
    obtain ⟨q26, h27, hf⟩ := o_bind hf
    refine pw_get hC fl_X3_30 hw (rdR_F h27) dX3_openDocument_47 ?_
    refine lv_aload_n hx hb dX3_openDocument_50 rfl (lv_at hl 0 rfl) ?_
    obtain ⟨v28, h29, hf⟩ := o_bind hf
    refine pw_get hC fl_X3_33 hw (rdI_F h29) dX3_openDocument_51 ?_
    refine lv_iconst (v := 0) hx hb dX3_openDocument_54 nc_iconst_0 ?_
    obtain ⟨μ30, h31, hf⟩ := o_bind hf
    refine pw_iast hC hw h31 dX3_openDocument_55 (fun H locs hw => ?_)
    refine lv_aload_n hx hb dX3_openDocument_56 rfl (lv_at hl 0 rfl) ?_
    refine lv_dup hx hb dX3_openDocument_57 rfl ?_
    obtain ⟨v32, h33, hf⟩ := o_bind hf
    refine pw_get hC fl_X3_33 hw (rdI_F h33) dX3_openDocument_58 ?_
    refine lv_iconst (v := 1) hx hb dX3_openDocument_61 nc_iconst_1 ?_
    refine lv_iadd hx hb dX3_openDocument_62 ?_
    obtain ⟨μ34, h35, hf⟩ := o_bind hf
    refine pw_put hC fl_X3_33 hw h35 .int fd_X3_5 rfl rfl dX3_openDocument_63 (fun H locs hw => ?_)
    refine lv_aload_n hx hb dX3_openDocument_66 rfl (lv_at hl 0 rfl) ?_
    obtain ⟨q36, h37, hf⟩ := o_bind hf
    refine pw_get hC fl_X3_14 hw (rdR_F h37) dX3_openDocument_67 ?_
    refine lv_lconst (v := 0) hx hb dX3_openDocument_70 (by decide +kernel) ?_
    refine lv_iconst (v := 4) hx hb dX3_openDocument_71 nc_iconst_4 ?_
    obtain ⟨h39, hf⟩ := o_ite hf
    obtain ⟨μ40, h38, hf⟩ := o_bind hf
    refine pw_goV hw (pw_runV (As := [.long (0 : Int64), .int 4]) (rest := []) hC mm_X5_appendLowestFirst tw_520 (c_X5_appendLowestFirst h38 _) ⟨rfl, rfl, by decide, by decide⟩ hw h39 rfl hl.1 (Nat.le_of_ble_eq_true rfl) ⟨Nat.zero_le _, Nat.zero_le _⟩ rfl dX3_openDocument_72) (fun H locs hw => ?_)
    obtain rfl := o_retv hf
    exact pw_vret hC hr hlocks hw dX3_openDocument_75
  · have hf := o_neg c3 hf
    obtain rfl := o_retv hf
    exact pw_vret hC hr hlocks hw dX3_openDocument_9
theorem dX3_state_0 : decode cX3_state 0 = .ok (.aload_n 0, 1) := by decide +kernel
theorem dX3_state_1 : decode cX3_state 1 = .ok (.getfield 37, 3) := by decide +kernel
theorem dX3_state_4 : decode cX3_state 4 = .ok (.ifCond .ne 7, 3) := by decide +kernel
theorem dX3_state_7 : decode cX3_state 7 = .ok (.iconst 0, 1) := by decide +kernel
theorem dX3_state_8 : decode cX3_state 8 = .ok (.goto 15, 3) := by decide +kernel
theorem dX3_state_11 : decode cX3_state 11 = .ok (.aload_n 0, 1) := by decide +kernel
theorem dX3_state_12 : decode cX3_state 12 = .ok (.getfield 33, 3) := by decide +kernel
theorem dX3_state_15 : decode cX3_state 15 = .ok (.ifCond .le 7, 3) := by decide +kernel
theorem dX3_state_18 : decode cX3_state 18 = .ok (.iconst 1, 1) := by decide +kernel
theorem dX3_state_19 : decode cX3_state 19 = .ok (.goto 4, 3) := by decide +kernel
theorem dX3_state_22 : decode cX3_state 22 = .ok (.iconst 2, 1) := by decide +kernel
theorem dX3_state_23 : decode cX3_state 23 = .ok (.ireturn, 1) := by decide +kernel
abbrev rm_X3_state : Room := { frames := 0, cells := 0, slots := 0, locals := 0 }
def f_X3_state (cy : Nat → ClassId) (a0 : Nat) (μ : Mem) : Option (Int32 × Mem) :=
  (rdI μ a0 2 6).bind fun v1 => if v1 = 0 then (some (0, μ)) else (rdI μ a0 2 5).bind fun v4 => if v4 ≤ 0 then (some (2, μ)) else some (1, μ)
set_option maxRecDepth 100000 in
set_option maxHeartbeats 4000000 in
theorem c_X3_state {l : Launch} {g : Wg} {L : List Nat} {μ : Mem} {a0 : Nat} {r : Int32} {μ' : Mem} (hf : f_X3_state g.2 a0 μ = some (r, μ')) : MetI l yX3_state cX3_state 1 (some .int) rm_X3_state g L μ [.ref a0] r μ' := by
  refine pw_met (Qc := fun A => QI g L A r μ') (by decide) (Nat.le_of_ble_eq_true rfl) ?_
  intro p e s m args below meth c A ls H locs hC hr hlocks hl hw
  have hx := hC.1
  have hb := hC.2.1
  have hl : lv_has ls 1 [(0, .ref a0)] := hl
  unfold f_X3_state at hf
  refine lv_aload_n hx hb dX3_state_0 rfl (lv_at hl 0 rfl) ?_
  obtain ⟨v1, h2, hf⟩ := o_bind hf
  refine pw_get hC fl_X3_37 hw (rdI_F h2) dX3_state_1 ?_
  refine lv_if_ne (tgt := 11) hx hb dX3_state_4 (by decide) (fun c3 => ?_) (fun c3 => ?_)
  · have hf := o_neg c3 hf
    refine lv_aload_n hx hb dX3_state_11 rfl (lv_at hl 0 rfl) ?_
    obtain ⟨v4, h5, hf⟩ := o_bind hf
    refine pw_get hC fl_X3_33 hw (rdI_F h5) dX3_state_12 ?_
    refine lv_if_le (tgt := 22) hx hb dX3_state_15 (by decide) (fun c6 => ?_) (fun c6 => ?_)
    · have hf := o_pos c6 hf
      refine lv_iconst (v := 2) hx hb dX3_state_22 nc_iconst_2 ?_
      obtain ⟨rfl, rfl⟩ := o_ret hf
      exact pw_iret hC hr hlocks hw dX3_state_23
    · have hf := o_neg c6 hf
      refine lv_iconst (v := 1) hx hb dX3_state_18 nc_iconst_1 ?_
      refine lv_goto (tgt := 23) hx hb dX3_state_19 (by decide) ?_
      obtain ⟨rfl, rfl⟩ := o_ret hf
      exact pw_iret hC hr hlocks hw dX3_state_23
  · have hf := o_pos c3 hf
    refine lv_iconst (v := 0) hx hb dX3_state_7 nc_iconst_0 ?_
    refine lv_goto (tgt := 23) hx hb dX3_state_8 (by decide) ?_
    obtain ⟨rfl, rfl⟩ := o_ret hf
    exact pw_iret hC hr hlocks hw dX3_state_23
theorem dX3_isInRow_0 : decode cX3_isInRow 0 = .ok (.aload_n 0, 1) := by decide +kernel
theorem dX3_isInRow_1 : decode cX3_isInRow 1 = .ok (.getfield 33, 3) := by decide +kernel
theorem dX3_isInRow_4 : decode cX3_isInRow 4 = .ok (.ifCond .le 22, 3) := by decide +kernel
theorem dX3_isInRow_7 : decode cX3_isInRow 7 = .ok (.aload_n 0, 1) := by decide +kernel
theorem dX3_isInRow_8 : decode cX3_isInRow 8 = .ok (.getfield 24, 3) := by decide +kernel
theorem dX3_isInRow_11 : decode cX3_isInRow 11 = .ok (.aload_n 0, 1) := by decide +kernel
theorem dX3_isInRow_12 : decode cX3_isInRow 12 = .ok (.getfield 33, 3) := by decide +kernel
theorem dX3_isInRow_15 : decode cX3_isInRow 15 = .ok (.iconst 1, 1) := by decide +kernel
theorem dX3_isInRow_16 : decode cX3_isInRow 16 = .ok (.isub, 1) := by decide +kernel
theorem dX3_isInRow_17 : decode cX3_isInRow 17 = .ok (.iaload, 1) := by decide +kernel
theorem dX3_isInRow_18 : decode cX3_isInRow 18 = .ok (.iconst 4, 1) := by decide +kernel
theorem dX3_isInRow_19 : decode cX3_isInRow 19 = .ok (.if_icmp .ne 7, 3) := by decide +kernel
theorem dX3_isInRow_22 : decode cX3_isInRow 22 = .ok (.iconst 1, 1) := by decide +kernel
theorem dX3_isInRow_23 : decode cX3_isInRow 23 = .ok (.goto 4, 3) := by decide +kernel
theorem dX3_isInRow_26 : decode cX3_isInRow 26 = .ok (.iconst 0, 1) := by decide +kernel
theorem dX3_isInRow_27 : decode cX3_isInRow 27 = .ok (.ireturn, 1) := by decide +kernel
abbrev rm_X3_isInRow : Room := { frames := 0, cells := 0, slots := 0, locals := 0 }
def f_X3_isInRow_L26 (cy : Nat → ClassId)  (μ : Mem) : Option (Int32 × Mem) :=
  some (0, μ)
set_option maxRecDepth 100000 in
set_option maxHeartbeats 4000000 in
theorem w_X3_isInRow_L26 {p : Program} {l : Launch} {e : Env} {s : State} {m : MethodId} {args : Array Value} {below : List Frame} {meth : Method} {c : Code} {A : Nat → Prop} {g : Wg} {L : List Nat} {r : Int32} {μ' : Mem} (hC : CX p m c cX3_isInRow 1 s args RX3) (hr : meth.sig.returnType = (some .boolean)) (hlocks : meth.locks = false) : ∀  (μ : Mem) (H : Heap) (locs : List Loc) (ls : Array Slot), lv_has ls 1 [] → PW g L μ A s H locs → f_X3_isInRow_L26 g.2  μ = some (r, μ') → W p l e rm_X3_isInRow s m args below meth c H locs 0 0 (MQ below (QI g L A r μ') args s 0 0 A) (F0 m 26 ls []) := by
  have hx := hC.1
  have hb := hC.2.1
  intro  μ H locs ls hl hw hf
  unfold f_X3_isInRow_L26 at hf
  refine lv_iconst (v := 0) hx hb dX3_isInRow_26 nc_iconst_0 ?_
  obtain ⟨rfl, rfl⟩ := o_ret hf
  exact pw_zret hC hr hlocks (Or.inl rfl) hw dX3_isInRow_27
def f_X3_isInRow (cy : Nat → ClassId) (a0 : Nat) (μ : Mem) : Option (Int32 × Mem) :=
  (rdI μ a0 2 5).bind fun v1 => if v1 ≤ 0 then (f_X3_isInRow_L26 cy  μ) else (rdR μ a0 2 2).bind fun q4 => (rdI μ a0 2 5).bind fun v6 => (rdA cy μ 1 q4 (v6 - 1)).bind fun v8 => if v8 = 4 then (some (1, μ)) else f_X3_isInRow_L26 cy  μ
set_option maxRecDepth 100000 in
set_option maxHeartbeats 4000000 in
theorem c_X3_isInRow {l : Launch} {g : Wg} {L : List Nat} {μ : Mem} {a0 : Nat} {r : Int32} {μ' : Mem} (hf : f_X3_isInRow g.2 a0 μ = some (r, μ')) : MetI l yX3_isInRow cX3_isInRow 1 (some .boolean) rm_X3_isInRow g L μ [.ref a0] r μ' := by
  refine pw_met (Qc := fun A => QI g L A r μ') (by decide) (Nat.le_of_ble_eq_true rfl) ?_
  intro p e s m args below meth c A ls H locs hC hr hlocks hl hw
  have hx := hC.1
  have hb := hC.2.1
  have hl : lv_has ls 1 [(0, .ref a0)] := hl
  unfold f_X3_isInRow at hf
  refine lv_aload_n hx hb dX3_isInRow_0 rfl (lv_at hl 0 rfl) ?_
  obtain ⟨v1, h2, hf⟩ := o_bind hf
  refine pw_get hC fl_X3_33 hw (rdI_F h2) dX3_isInRow_1 ?_
  refine lv_if_le (tgt := 26) hx hb dX3_isInRow_4 (by decide) (fun c3 => ?_) (fun c3 => ?_)
  · have hf := o_pos c3 hf
    exact w_X3_isInRow_L26 hC hr hlocks  _ _ _ ls (lv_sub hl [] rfl) hw hf
  · have hf := o_neg c3 hf
    refine lv_aload_n hx hb dX3_isInRow_7 rfl (lv_at hl 0 rfl) ?_
    obtain ⟨q4, h5, hf⟩ := o_bind hf
    refine pw_get hC fl_X3_24 hw (rdR_F h5) dX3_isInRow_8 ?_
    refine lv_aload_n hx hb dX3_isInRow_11 rfl (lv_at hl 0 rfl) ?_
    obtain ⟨v6, h7, hf⟩ := o_bind hf
    refine pw_get hC fl_X3_33 hw (rdI_F h7) dX3_isInRow_12 ?_
    refine lv_iconst (v := 1) hx hb dX3_isInRow_15 nc_iconst_1 ?_
    refine lv_isub hx hb dX3_isInRow_16 ?_
    obtain ⟨v8, h9, hf⟩ := o_bind hf
    refine pw_iald hC hw h9 dX3_isInRow_17 ?_
    refine lv_iconst (v := 4) hx hb dX3_isInRow_18 nc_iconst_4 ?_
    refine lv_icmp_ne (tgt := 26) hx hb dX3_isInRow_19 (by decide) (fun c10 => ?_) (fun c10 => ?_)
    · have hf := o_neg c10 hf
      exact w_X3_isInRow_L26 hC hr hlocks  _ _ _ ls (lv_sub hl [] rfl) hw hf
    · have hf := o_pos c10 hf
      refine lv_iconst (v := 1) hx hb dX3_isInRow_22 nc_iconst_1 ?_
      refine lv_goto (tgt := 27) hx hb dX3_isInRow_23 (by decide) ?_
      obtain ⟨rfl, rfl⟩ := o_ret hf
      exact pw_zret hC hr hlocks (Or.inr rfl) hw dX3_isInRow_27
theorem dX3_innermostCount_0 : decode cX3_innermostCount 0 = .ok (.aload_n 0, 1) := by decide +kernel
theorem dX3_innermostCount_1 : decode cX3_innermostCount 1 = .ok (.getfield 33, 3) := by decide +kernel
theorem dX3_innermostCount_4 : decode cX3_innermostCount 4 = .ok (.ifCond .le 17, 3) := by decide +kernel
theorem dX3_innermostCount_7 : decode cX3_innermostCount 7 = .ok (.aload_n 0, 1) := by decide +kernel
theorem dX3_innermostCount_8 : decode cX3_innermostCount 8 = .ok (.getfield 30, 3) := by decide +kernel
theorem dX3_innermostCount_11 : decode cX3_innermostCount 11 = .ok (.aload_n 0, 1) := by decide +kernel
theorem dX3_innermostCount_12 : decode cX3_innermostCount 12 = .ok (.getfield 33, 3) := by decide +kernel
theorem dX3_innermostCount_15 : decode cX3_innermostCount 15 = .ok (.iconst 1, 1) := by decide +kernel
theorem dX3_innermostCount_16 : decode cX3_innermostCount 16 = .ok (.isub, 1) := by decide +kernel
theorem dX3_innermostCount_17 : decode cX3_innermostCount 17 = .ok (.iaload, 1) := by decide +kernel
theorem dX3_innermostCount_18 : decode cX3_innermostCount 18 = .ok (.goto 4, 3) := by decide +kernel
theorem dX3_innermostCount_21 : decode cX3_innermostCount 21 = .ok (.iconst 0, 1) := by decide +kernel
theorem dX3_innermostCount_22 : decode cX3_innermostCount 22 = .ok (.ireturn, 1) := by decide +kernel
abbrev rm_X3_innermostCount : Room := { frames := 0, cells := 0, slots := 0, locals := 0 }
def f_X3_innermostCount (cy : Nat → ClassId) (a0 : Nat) (μ : Mem) : Option (Int32 × Mem) :=
  (rdI μ a0 2 5).bind fun v1 => if v1 ≤ 0 then (some (0, μ)) else (rdR μ a0 2 4).bind fun q4 => (rdI μ a0 2 5).bind fun v6 => (rdA cy μ 1 q4 (v6 - 1)).bind fun v8 => some (v8, μ)
set_option maxRecDepth 100000 in
set_option maxHeartbeats 4000000 in
theorem c_X3_innermostCount {l : Launch} {g : Wg} {L : List Nat} {μ : Mem} {a0 : Nat} {r : Int32} {μ' : Mem} (hf : f_X3_innermostCount g.2 a0 μ = some (r, μ')) : MetI l yX3_innermostCount cX3_innermostCount 1 (some .int) rm_X3_innermostCount g L μ [.ref a0] r μ' := by
  refine pw_met (Qc := fun A => QI g L A r μ') (by decide) (Nat.le_of_ble_eq_true rfl) ?_
  intro p e s m args below meth c A ls H locs hC hr hlocks hl hw
  have hx := hC.1
  have hb := hC.2.1
  have hl : lv_has ls 1 [(0, .ref a0)] := hl
  unfold f_X3_innermostCount at hf
  refine lv_aload_n hx hb dX3_innermostCount_0 rfl (lv_at hl 0 rfl) ?_
  obtain ⟨v1, h2, hf⟩ := o_bind hf
  refine pw_get hC fl_X3_33 hw (rdI_F h2) dX3_innermostCount_1 ?_
  refine lv_if_le (tgt := 21) hx hb dX3_innermostCount_4 (by decide) (fun c3 => ?_) (fun c3 => ?_)
  · have hf := o_pos c3 hf
    refine lv_iconst (v := 0) hx hb dX3_innermostCount_21 nc_iconst_0 ?_
    obtain ⟨rfl, rfl⟩ := o_ret hf
    exact pw_iret hC hr hlocks hw dX3_innermostCount_22
  · have hf := o_neg c3 hf
    refine lv_aload_n hx hb dX3_innermostCount_7 rfl (lv_at hl 0 rfl) ?_
    obtain ⟨q4, h5, hf⟩ := o_bind hf
    refine pw_get hC fl_X3_30 hw (rdR_F h5) dX3_innermostCount_8 ?_
    refine lv_aload_n hx hb dX3_innermostCount_11 rfl (lv_at hl 0 rfl) ?_
    obtain ⟨v6, h7, hf⟩ := o_bind hf
    refine pw_get hC fl_X3_33 hw (rdI_F h7) dX3_innermostCount_12 ?_
    refine lv_iconst (v := 1) hx hb dX3_innermostCount_15 nc_iconst_1 ?_
    refine lv_isub hx hb dX3_innermostCount_16 ?_
    obtain ⟨v8, h9, hf⟩ := o_bind hf
    refine pw_iald hC hw h9 dX3_innermostCount_17 ?_
    refine lv_goto (tgt := 22) hx hb dX3_innermostCount_18 (by decide) ?_
    obtain ⟨rfl, rfl⟩ := o_ret hf
    exact pw_iret hC hr hlocks hw dX3_innermostCount_22
theorem dX3_room_0 : decode cX3_room 0 = .ok (.sipush 2400, 3) := by decide +kernel
theorem dX3_room_3 : decode cX3_room 3 = .ok (.aload_n 0, 1) := by decide +kernel
theorem dX3_room_4 : decode cX3_room 4 = .ok (.getfield 14, 3) := by decide +kernel
theorem dX3_room_7 : decode cX3_room 7 = .ok (.getfield 51, 3) := by decide +kernel
theorem dX3_room_10 : decode cX3_room 10 = .ok (.isub, 1) := by decide +kernel
theorem dX3_room_11 : decode cX3_room 11 = .ok (.aload_n 0, 1) := by decide +kernel
theorem dX3_room_12 : decode cX3_room 12 = .ok (.getfield 33, 3) := by decide +kernel
theorem dX3_room_15 : decode cX3_room 15 = .ok (.isub, 1) := by decide +kernel
theorem dX3_room_16 : decode cX3_room 16 = .ok (.ireturn, 1) := by decide +kernel
abbrev rm_X3_room : Room := { frames := 0, cells := 0, slots := 0, locals := 0 }
def f_X3_room (cy : Nat → ClassId) (a0 : Nat) (μ : Mem) : Option (Int32 × Mem) :=
  (rdR μ a0 2 0).bind fun q1 => (rdI μ q1 4 1).bind fun v3 => (rdI μ a0 2 5).bind fun v5 => some (((2400 - v3) - v5), μ)
set_option maxRecDepth 100000 in
set_option maxHeartbeats 4000000 in
theorem c_X3_room {l : Launch} {g : Wg} {L : List Nat} {μ : Mem} {a0 : Nat} {r : Int32} {μ' : Mem} (hf : f_X3_room g.2 a0 μ = some (r, μ')) : MetI l yX3_room cX3_room 1 (some .int) rm_X3_room g L μ [.ref a0] r μ' := by
  refine pw_met (Qc := fun A => QI g L A r μ') (by decide) (Nat.le_of_ble_eq_true rfl) ?_
  intro p e s m args below meth c A ls H locs hC hr hlocks hl hw
  have hx := hC.1
  have hb := hC.2.1
  have hl : lv_has ls 1 [(0, .ref a0)] := hl
  unfold f_X3_room at hf
  refine lv_sipush (v := 2400) hx hb dX3_room_0 nc_sipush_2400 ?_
  refine lv_aload_n hx hb dX3_room_3 rfl (lv_at hl 0 rfl) ?_
  obtain ⟨q1, h2, hf⟩ := o_bind hf
  refine pw_get hC fl_X3_14 hw (rdR_F h2) dX3_room_4 ?_
  obtain ⟨v3, h4, hf⟩ := o_bind hf
  refine pw_get hC fl_X3_51 hw (rdI_F h4) dX3_room_7 ?_
  refine lv_isub hx hb dX3_room_10 ?_
  refine lv_aload_n hx hb dX3_room_11 rfl (lv_at hl 0 rfl) ?_
  obtain ⟨v5, h6, hf⟩ := o_bind hf
  refine pw_get hC fl_X3_33 hw (rdI_F h6) dX3_room_12 ?_
  refine lv_isub hx hb dX3_room_15 ?_
  obtain ⟨rfl, rfl⟩ := o_ret hf
  exact pw_iret hC hr hlocks hw dX3_room_16
theorem dX3_closeInnermost_0 : decode cX3_closeInnermost 0 = .ok (.aload_n 0, 1) := by decide +kernel
theorem dX3_closeInnermost_1 : decode cX3_closeInnermost 1 = .ok (.getfield 33, 3) := by decide +kernel
theorem dX3_closeInnermost_4 : decode cX3_closeInnermost 4 = .ok (.iconst 1, 1) := by decide +kernel
theorem dX3_closeInnermost_5 : decode cX3_closeInnermost 5 = .ok (.if_icmp .ge 4, 3) := by decide +kernel
theorem dX3_closeInnermost_8 : decode cX3_closeInnermost 8 = .ok (.return_, 1) := by decide +kernel
theorem dX3_closeInnermost_9 : decode cX3_closeInnermost 9 = .ok (.aload_n 0, 1) := by decide +kernel
theorem dX3_closeInnermost_10 : decode cX3_closeInnermost 10 = .ok (.dup, 1) := by decide +kernel
theorem dX3_closeInnermost_11 : decode cX3_closeInnermost 11 = .ok (.getfield 33, 3) := by decide +kernel
theorem dX3_closeInnermost_14 : decode cX3_closeInnermost 14 = .ok (.iconst 1, 1) := by decide +kernel
theorem dX3_closeInnermost_15 : decode cX3_closeInnermost 15 = .ok (.isub, 1) := by decide +kernel
theorem dX3_closeInnermost_16 : decode cX3_closeInnermost 16 = .ok (.putfield 33, 3) := by decide +kernel
theorem dX3_closeInnermost_19 : decode cX3_closeInnermost 19 = .ok (.aload_n 0, 1) := by decide +kernel
theorem dX3_closeInnermost_20 : decode cX3_closeInnermost 20 = .ok (.getfield 14, 3) := by decide +kernel
theorem dX3_closeInnermost_23 : decode cX3_closeInnermost 23 = .ok (.iconst 0, 1) := by decide +kernel
theorem dX3_closeInnermost_24 : decode cX3_closeInnermost 24 = .ok (.invokevirtual 68, 3) := by decide +kernel
theorem dX3_closeInnermost_27 : decode cX3_closeInnermost 27 = .ok (.aload_n 0, 1) := by decide +kernel
theorem dX3_closeInnermost_28 : decode cX3_closeInnermost 28 = .ok (.getfield 14, 3) := by decide +kernel
theorem dX3_closeInnermost_31 : decode cX3_closeInnermost 31 = .ok (.aload_n 0, 1) := by decide +kernel
theorem dX3_closeInnermost_32 : decode cX3_closeInnermost 32 = .ok (.getfield 20, 3) := by decide +kernel
theorem dX3_closeInnermost_35 : decode cX3_closeInnermost 35 = .ok (.aload_n 0, 1) := by decide +kernel
theorem dX3_closeInnermost_36 : decode cX3_closeInnermost 36 = .ok (.getfield 33, 3) := by decide +kernel
theorem dX3_closeInnermost_39 : decode cX3_closeInnermost 39 = .ok (.iaload, 1) := by decide +kernel
theorem dX3_closeInnermost_40 : decode cX3_closeInnermost 40 = .ok (.aload_n 0, 1) := by decide +kernel
theorem dX3_closeInnermost_41 : decode cX3_closeInnermost 41 = .ok (.getfield 14, 3) := by decide +kernel
theorem dX3_closeInnermost_44 : decode cX3_closeInnermost 44 = .ok (.getfield 51, 3) := by decide +kernel
theorem dX3_closeInnermost_47 : decode cX3_closeInnermost 47 = .ok (.aload_n 0, 1) := by decide +kernel
theorem dX3_closeInnermost_48 : decode cX3_closeInnermost 48 = .ok (.getfield 20, 3) := by decide +kernel
theorem dX3_closeInnermost_51 : decode cX3_closeInnermost 51 = .ok (.aload_n 0, 1) := by decide +kernel
theorem dX3_closeInnermost_52 : decode cX3_closeInnermost 52 = .ok (.getfield 33, 3) := by decide +kernel
theorem dX3_closeInnermost_55 : decode cX3_closeInnermost 55 = .ok (.iaload, 1) := by decide +kernel
theorem dX3_closeInnermost_56 : decode cX3_closeInnermost 56 = .ok (.isub, 1) := by decide +kernel
theorem dX3_closeInnermost_57 : decode cX3_closeInnermost 57 = .ok (.invokevirtual 92, 3) := by decide +kernel
theorem dX3_closeInnermost_60 : decode cX3_closeInnermost 60 = .ok (.aload_n 0, 1) := by decide +kernel
theorem dX3_closeInnermost_61 : decode cX3_closeInnermost 61 = .ok (.getfield 24, 3) := by decide +kernel
theorem dX3_closeInnermost_64 : decode cX3_closeInnermost 64 = .ok (.aload_n 0, 1) := by decide +kernel
theorem dX3_closeInnermost_65 : decode cX3_closeInnermost 65 = .ok (.getfield 33, 3) := by decide +kernel
theorem dX3_closeInnermost_68 : decode cX3_closeInnermost 68 = .ok (.iaload, 1) := by decide +kernel
theorem dX3_closeInnermost_69 : decode cX3_closeInnermost 69 = .ok (.bipush 15, 2) := by decide +kernel
theorem dX3_closeInnermost_71 : decode cX3_closeInnermost 71 = .ok (.if_icmp .ne 36, 3) := by decide +kernel
theorem dX3_closeInnermost_74 : decode cX3_closeInnermost 74 = .ok (.aload_n 0, 1) := by decide +kernel
theorem dX3_closeInnermost_75 : decode cX3_closeInnermost 75 = .ok (.getfield 14, 3) := by decide +kernel
theorem dX3_closeInnermost_78 : decode cX3_closeInnermost 78 = .ok (.aload_n 0, 1) := by decide +kernel
theorem dX3_closeInnermost_79 : decode cX3_closeInnermost 79 = .ok (.getfield 27, 3) := by decide +kernel
theorem dX3_closeInnermost_82 : decode cX3_closeInnermost 82 = .ok (.aload_n 0, 1) := by decide +kernel
theorem dX3_closeInnermost_83 : decode cX3_closeInnermost 83 = .ok (.getfield 33, 3) := by decide +kernel
theorem dX3_closeInnermost_86 : decode cX3_closeInnermost 86 = .ok (.iaload, 1) := by decide +kernel
theorem dX3_closeInnermost_87 : decode cX3_closeInnermost 87 = .ok (.aload_n 0, 1) := by decide +kernel
theorem dX3_closeInnermost_88 : decode cX3_closeInnermost 88 = .ok (.getfield 14, 3) := by decide +kernel
theorem dX3_closeInnermost_91 : decode cX3_closeInnermost 91 = .ok (.getfield 51, 3) := by decide +kernel
theorem dX3_closeInnermost_94 : decode cX3_closeInnermost 94 = .ok (.aload_n 0, 1) := by decide +kernel
theorem dX3_closeInnermost_95 : decode cX3_closeInnermost 95 = .ok (.getfield 27, 3) := by decide +kernel
theorem dX3_closeInnermost_98 : decode cX3_closeInnermost 98 = .ok (.aload_n 0, 1) := by decide +kernel
theorem dX3_closeInnermost_99 : decode cX3_closeInnermost 99 = .ok (.getfield 33, 3) := by decide +kernel
theorem dX3_closeInnermost_102 : decode cX3_closeInnermost 102 = .ok (.iaload, 1) := by decide +kernel
theorem dX3_closeInnermost_103 : decode cX3_closeInnermost 103 = .ok (.isub, 1) := by decide +kernel
theorem dX3_closeInnermost_104 : decode cX3_closeInnermost 104 = .ok (.invokevirtual 92, 3) := by decide +kernel
theorem dX3_closeInnermost_107 : decode cX3_closeInnermost 107 = .ok (.return_, 1) := by decide +kernel
abbrev rm_X3_closeInnermost : Room := { frames := 1, cells := 0, slots := 0, locals := 23 }
def f_X3_closeInnermost (cy : Nat → ClassId) (a0 : Nat) (μ : Mem) : Option Mem :=
  (rdI μ a0 2 5).bind fun v1 => if 1 ≤ v1 then ((rdI μ a0 2 5).bind fun v4 => (wrF μ a0 2 5 (.int (v4 - 1))).bind fun μ6 => (rdR μ6 a0 2 0).bind fun q8 => if isO μ6 q8 4 = true then ((f_X5_append cy q8 0 μ6).bind fun μ12 => (rdR μ12 a0 2 0).bind fun q13 => (rdR μ12 a0 2 1).bind fun q15 => (rdI μ12 a0 2 5).bind fun v17 => (rdA cy μ12 1 q15 v17).bind fun v19 => (rdR μ12 a0 2 0).bind fun q21 => (rdI μ12 q21 4 1).bind fun v23 => (rdR μ12 a0 2 1).bind fun q25 => (rdI μ12 a0 2 5).bind fun v27 => (rdA cy μ12 1 q25 v27).bind fun v29 => if isO μ12 q13 4 = true then ((f_X5_putInt cy q13 v19 (v23 - v29) μ12).bind fun μ33 => (rdR μ33 a0 2 2).bind fun q34 => (rdI μ33 a0 2 5).bind fun v36 => (rdA cy μ33 1 q34 v36).bind fun v38 => if v38 = 15 then ((rdR μ33 a0 2 0).bind fun q41 => (rdR μ33 a0 2 3).bind fun q43 => (rdI μ33 a0 2 5).bind fun v45 => (rdA cy μ33 1 q43 v45).bind fun v47 => (rdR μ33 a0 2 0).bind fun q49 => (rdI μ33 q49 4 1).bind fun v51 => (rdR μ33 a0 2 3).bind fun q53 => (rdI μ33 a0 2 5).bind fun v55 => (rdA cy μ33 1 q53 v55).bind fun v57 => if isO μ33 q41 4 = true then ((f_X5_putInt cy q41 v47 (v51 - v57) μ33).bind fun μ61 => some μ61) else none) else some μ33) else none) else none) else some μ
set_option maxRecDepth 100000 in
set_option maxHeartbeats 4000000 in
theorem c_X3_closeInnermost {l : Launch} {g : Wg} {L : List Nat} {μ : Mem} {a0 : Nat} {μ' : Mem} (hf : f_X3_closeInnermost g.2 a0 μ = some μ') : MetV l yX3_closeInnermost cX3_closeInnermost 1 none rm_X3_closeInnermost g L μ [.ref a0] μ' := by
  refine pw_met (Qc := fun A => QV g L A μ') (by decide) (Nat.le_of_ble_eq_true rfl) ?_
  intro p e s m args below meth c A ls H locs hC hr hlocks hl hw
  have hx := hC.1
  have hb := hC.2.1
  have hl : lv_has ls 1 [(0, .ref a0)] := hl
  unfold f_X3_closeInnermost at hf
  refine lv_aload_n hx hb dX3_closeInnermost_0 rfl (lv_at hl 0 rfl) ?_
  obtain ⟨v1, h2, hf⟩ := o_bind hf
  refine pw_get hC fl_X3_33 hw (rdI_F h2) dX3_closeInnermost_1 ?_
  refine lv_iconst (v := 1) hx hb dX3_closeInnermost_4 nc_iconst_1 ?_
  refine lv_icmp_ge (tgt := 9) hx hb dX3_closeInnermost_5 (by decide) (fun c3 => ?_) (fun c3 => ?_)
  · have hf := o_pos c3 hf
    refine lv_aload_n hx hb dX3_closeInnermost_9 rfl (lv_at hl 0 rfl) ?_
    refine lv_dup hx hb dX3_closeInnermost_10 rfl ?_
    obtain ⟨v4, h5, hf⟩ := o_bind hf
    refine pw_get hC fl_X3_33 hw (rdI_F h5) dX3_closeInnermost_11 ?_
    refine lv_iconst (v := 1) hx hb dX3_closeInnermost_14 nc_iconst_1 ?_
    refine lv_isub hx hb dX3_closeInnermost_15 ?_
    obtain ⟨μ6, h7, hf⟩ := o_bind hf
    refine pw_put hC fl_X3_33 hw h7 .int fd_X3_5 rfl rfl dX3_closeInnermost_16 (fun H locs hw => ?_)
    refine lv_aload_n hx hb dX3_closeInnermost_19 rfl (lv_at hl 0 rfl) ?_
    obtain ⟨q8, h9, hf⟩ := o_bind hf
    refine pw_get hC fl_X3_14 hw (rdR_F h9) dX3_closeInnermost_20 ?_
    refine lv_iconst (v := 0) hx hb dX3_closeInnermost_23 nc_iconst_0 ?_
    obtain ⟨h11, hf⟩ := o_ite hf
    obtain ⟨μ12, h10, hf⟩ := o_bind hf
    refine pw_goV hw (pw_runV (As := [.int 0]) (rest := []) hC mm_X5_append tw_953 (c_X5_append h10 _) ⟨rfl, rfl, by decide, by decide⟩ hw h11 rfl hl.1 (Nat.le_of_ble_eq_true rfl) ⟨Nat.zero_le _, Nat.zero_le _⟩ rfl dX3_closeInnermost_24) (fun H locs hw => ?_)
    refine lv_aload_n hx hb dX3_closeInnermost_27 rfl (lv_at hl 0 rfl) ?_
    obtain ⟨q13, h14, hf⟩ := o_bind hf
    refine pw_get hC fl_X3_14 hw (rdR_F h14) dX3_closeInnermost_28 ?_
    refine lv_aload_n hx hb dX3_closeInnermost_31 rfl (lv_at hl 0 rfl) ?_
    obtain ⟨q15, h16, hf⟩ := o_bind hf
    refine pw_get hC fl_X3_20 hw (rdR_F h16) dX3_closeInnermost_32 ?_
    refine lv_aload_n hx hb dX3_closeInnermost_35 rfl (lv_at hl 0 rfl) ?_
    obtain ⟨v17, h18, hf⟩ := o_bind hf
    refine pw_get hC fl_X3_33 hw (rdI_F h18) dX3_closeInnermost_36 ?_
    obtain ⟨v19, h20, hf⟩ := o_bind hf
    refine pw_iald hC hw h20 dX3_closeInnermost_39 ?_
    refine lv_aload_n hx hb dX3_closeInnermost_40 rfl (lv_at hl 0 rfl) ?_
    obtain ⟨q21, h22, hf⟩ := o_bind hf
    refine pw_get hC fl_X3_14 hw (rdR_F h22) dX3_closeInnermost_41 ?_
    obtain ⟨v23, h24, hf⟩ := o_bind hf
    refine pw_get hC fl_X3_51 hw (rdI_F h24) dX3_closeInnermost_44 ?_
    refine lv_aload_n hx hb dX3_closeInnermost_47 rfl (lv_at hl 0 rfl) ?_
    obtain ⟨q25, h26, hf⟩ := o_bind hf
    refine pw_get hC fl_X3_20 hw (rdR_F h26) dX3_closeInnermost_48 ?_
    refine lv_aload_n hx hb dX3_closeInnermost_51 rfl (lv_at hl 0 rfl) ?_
    obtain ⟨v27, h28, hf⟩ := o_bind hf
    refine pw_get hC fl_X3_33 hw (rdI_F h28) dX3_closeInnermost_52 ?_
    obtain ⟨v29, h30, hf⟩ := o_bind hf
    refine pw_iald hC hw h30 dX3_closeInnermost_55 ?_
    refine lv_isub hx hb dX3_closeInnermost_56 ?_
    obtain ⟨h32, hf⟩ := o_ite hf
    obtain ⟨μ33, h31, hf⟩ := o_bind hf
    refine pw_goV hw (pw_runV (As := [.int v19, .int (v23 - v29)]) (rest := []) hC mm_X5_putInt tw_984 (c_X5_putInt h31 _) ⟨rfl, rfl, by decide, by decide⟩ hw h32 rfl hl.1 (Nat.le_of_ble_eq_true rfl) ⟨Nat.zero_le _, Nat.zero_le _⟩ rfl dX3_closeInnermost_57) (fun H locs hw => ?_)
    refine lv_aload_n hx hb dX3_closeInnermost_60 rfl (lv_at hl 0 rfl) ?_
    obtain ⟨q34, h35, hf⟩ := o_bind hf
    refine pw_get hC fl_X3_24 hw (rdR_F h35) dX3_closeInnermost_61 ?_
    refine lv_aload_n hx hb dX3_closeInnermost_64 rfl (lv_at hl 0 rfl) ?_
    obtain ⟨v36, h37, hf⟩ := o_bind hf
    refine pw_get hC fl_X3_33 hw (rdI_F h37) dX3_closeInnermost_65 ?_
    obtain ⟨v38, h39, hf⟩ := o_bind hf
    refine pw_iald hC hw h39 dX3_closeInnermost_68 ?_
    refine lv_bipush (v := 15) hx hb dX3_closeInnermost_69 nc_bipush_15 ?_
    refine lv_icmp_ne (tgt := 107) hx hb dX3_closeInnermost_71 (by decide) (fun c40 => ?_) (fun c40 => ?_)
    · have hf := o_neg c40 hf
      obtain rfl := o_retv hf
      exact pw_vret hC hr hlocks hw dX3_closeInnermost_107
    · have hf := o_pos c40 hf
      refine lv_aload_n hx hb dX3_closeInnermost_74 rfl (lv_at hl 0 rfl) ?_
      obtain ⟨q41, h42, hf⟩ := o_bind hf
      refine pw_get hC fl_X3_14 hw (rdR_F h42) dX3_closeInnermost_75 ?_
      refine lv_aload_n hx hb dX3_closeInnermost_78 rfl (lv_at hl 0 rfl) ?_
      obtain ⟨q43, h44, hf⟩ := o_bind hf
      refine pw_get hC fl_X3_27 hw (rdR_F h44) dX3_closeInnermost_79 ?_
      refine lv_aload_n hx hb dX3_closeInnermost_82 rfl (lv_at hl 0 rfl) ?_
      obtain ⟨v45, h46, hf⟩ := o_bind hf
      refine pw_get hC fl_X3_33 hw (rdI_F h46) dX3_closeInnermost_83 ?_
      obtain ⟨v47, h48, hf⟩ := o_bind hf
      refine pw_iald hC hw h48 dX3_closeInnermost_86 ?_
      refine lv_aload_n hx hb dX3_closeInnermost_87 rfl (lv_at hl 0 rfl) ?_
      obtain ⟨q49, h50, hf⟩ := o_bind hf
      refine pw_get hC fl_X3_14 hw (rdR_F h50) dX3_closeInnermost_88 ?_
      obtain ⟨v51, h52, hf⟩ := o_bind hf
      refine pw_get hC fl_X3_51 hw (rdI_F h52) dX3_closeInnermost_91 ?_
      refine lv_aload_n hx hb dX3_closeInnermost_94 rfl (lv_at hl 0 rfl) ?_
      obtain ⟨q53, h54, hf⟩ := o_bind hf
      refine pw_get hC fl_X3_27 hw (rdR_F h54) dX3_closeInnermost_95 ?_
      refine lv_aload_n hx hb dX3_closeInnermost_98 rfl (lv_at hl 0 rfl) ?_
      obtain ⟨v55, h56, hf⟩ := o_bind hf
      refine pw_get hC fl_X3_33 hw (rdI_F h56) dX3_closeInnermost_99 ?_
      obtain ⟨v57, h58, hf⟩ := o_bind hf
      refine pw_iald hC hw h58 dX3_closeInnermost_102 ?_
      refine lv_isub hx hb dX3_closeInnermost_103 ?_
      obtain ⟨h60, hf⟩ := o_ite hf
      obtain ⟨μ61, h59, hf⟩ := o_bind hf
      refine pw_goV hw (pw_runV (As := [.int v47, .int (v51 - v57)]) (rest := []) hC mm_X5_putInt tw_984 (c_X5_putInt h59 _) ⟨rfl, rfl, by decide, by decide⟩ hw h60 rfl hl.1 (Nat.le_of_ble_eq_true rfl) ⟨Nat.zero_le _, Nat.zero_le _⟩ rfl dX3_closeInnermost_104) (fun H locs hw => ?_)
      obtain rfl := o_retv hf
      exact pw_vret hC hr hlocks hw dX3_closeInnermost_107
  · have hf := o_neg c3 hf
    obtain rfl := o_retv hf
    exact pw_vret hC hr hlocks hw dX3_closeInnermost_8
theorem dX3_restart_0 : decode cX3_restart 0 = .ok (.aload_n 0, 1) := by decide +kernel
theorem dX3_restart_1 : decode cX3_restart 1 = .ok (.invokevirtual 41, 3) := by decide +kernel
theorem dX3_restart_4 : decode cX3_restart 4 = .ok (.aload_n 0, 1) := by decide +kernel
theorem dX3_restart_5 : decode cX3_restart 5 = .ok (.iconst 1, 1) := by decide +kernel
theorem dX3_restart_6 : decode cX3_restart 6 = .ok (.putfield 37, 3) := by decide +kernel
theorem dX3_restart_9 : decode cX3_restart 9 = .ok (.aload_n 0, 1) := by decide +kernel
theorem dX3_restart_10 : decode cX3_restart 10 = .ok (.iconst 0, 1) := by decide +kernel
theorem dX3_restart_11 : decode cX3_restart 11 = .ok (.iconst 0, 1) := by decide +kernel
theorem dX3_restart_12 : decode cX3_restart 12 = .ok (.invokevirtual 44, 3) := by decide +kernel
theorem dX3_restart_15 : decode cX3_restart 15 = .ok (.return_, 1) := by decide +kernel
abbrev rm_X3_restart : Room := { frames := 3, cells := 0, slots := 0, locals := 67 }
def f_X3_restart (cy : Nat → ClassId) (a0 : Nat) (μ : Mem) : Option Mem :=
  if isO μ a0 2 = true then ((f_X3_takeAway cy a0 μ).bind fun μ3 => (wrF μ3 a0 2 6 (.int 1)).bind fun μ4 => if isO μ4 a0 2 = true then ((f_X3_openDocument cy a0 0 0 μ4).bind fun μ8 => some μ8) else none) else none
set_option maxRecDepth 100000 in
set_option maxHeartbeats 4000000 in
theorem c_X3_restart {l : Launch} {g : Wg} {L : List Nat} {μ : Mem} {a0 : Nat} {μ' : Mem} (hf : f_X3_restart g.2 a0 μ = some μ') : MetV l yX3_restart cX3_restart 1 none rm_X3_restart g L μ [.ref a0] μ' := by
  refine pw_met (Qc := fun A => QV g L A μ') (by decide) (Nat.le_of_ble_eq_true rfl) ?_
  intro p e s m args below meth c A ls H locs hC hr hlocks hl hw
  have hx := hC.1
  have hb := hC.2.1
  have hl : lv_has ls 1 [(0, .ref a0)] := hl
  unfold f_X3_restart at hf
  refine lv_aload_n hx hb dX3_restart_0 rfl (lv_at hl 0 rfl) ?_
  obtain ⟨h2, hf⟩ := o_ite hf
  obtain ⟨μ3, h1, hf⟩ := o_bind hf
  refine pw_goV hw (pw_runV (As := []) (rest := []) hC mm_X3_takeAway tw_511 (c_X3_takeAway h1 _) ⟨rfl, rfl, by decide, by decide⟩ hw h2 rfl hl.1 (Nat.le_of_ble_eq_true rfl) ⟨Nat.zero_le _, Nat.zero_le _⟩ rfl dX3_restart_1) (fun H locs hw => ?_)
  refine lv_aload_n hx hb dX3_restart_4 rfl (lv_at hl 0 rfl) ?_
  refine lv_iconst (v := 1) hx hb dX3_restart_5 nc_iconst_1 ?_
  obtain ⟨μ4, h5, hf⟩ := o_bind hf
  refine pw_put hC fl_X3_37 hw h5 .boolean fd_X3_6 (by decide +kernel) rfl dX3_restart_6 (fun H locs hw => ?_)
  refine lv_aload_n hx hb dX3_restart_9 rfl (lv_at hl 0 rfl) ?_
  refine lv_iconst (v := 0) hx hb dX3_restart_10 nc_iconst_0 ?_
  refine lv_iconst (v := 0) hx hb dX3_restart_11 nc_iconst_0 ?_
  obtain ⟨h7, hf⟩ := o_ite hf
  obtain ⟨μ8, h6, hf⟩ := o_bind hf
  refine pw_goV hw (pw_runV (As := [.int 0, .int 0]) (rest := []) hC mm_X3_openDocument tw_516 (c_X3_openDocument h6 _) ⟨rfl, rfl, by decide, by decide⟩ hw h7 rfl hl.1 (Nat.le_of_ble_eq_true rfl) ⟨Nat.zero_le _, Nat.zero_le _⟩ rfl dX3_restart_12) (fun H locs hw => ?_)
  obtain rfl := o_retv hf
  exact pw_vret hC hr hlocks hw dX3_restart_15
theorem dX3_bytesAheadOfGiven_0 : decode cX3_bytesAheadOfGiven 0 = .ok (.aload_n 0, 1) := by decide +kernel
theorem dX3_bytesAheadOfGiven_1 : decode cX3_bytesAheadOfGiven 1 = .ok (.invokevirtual 54, 3) := by decide +kernel
theorem dX3_bytesAheadOfGiven_4 : decode cX3_bytesAheadOfGiven 4 = .ok (.ifCond .eq 15, 3) := by decide +kernel
theorem dX3_bytesAheadOfGiven_7 : decode cX3_bytesAheadOfGiven 7 = .ok (.iconst 2, 1) := by decide +kernel
theorem dX3_bytesAheadOfGiven_8 : decode cX3_bytesAheadOfGiven 8 = .ok (.aload_n 0, 1) := by decide +kernel
theorem dX3_bytesAheadOfGiven_9 : decode cX3_bytesAheadOfGiven 9 = .ok (.invokevirtual 58, 3) := by decide +kernel
theorem dX3_bytesAheadOfGiven_12 : decode cX3_bytesAheadOfGiven 12 = .ok (.invokestatic 62, 3) := by decide +kernel
theorem dX3_bytesAheadOfGiven_15 : decode cX3_bytesAheadOfGiven 15 = .ok (.iadd, 1) := by decide +kernel
theorem dX3_bytesAheadOfGiven_16 : decode cX3_bytesAheadOfGiven 16 = .ok (.goto 4, 3) := by decide +kernel
theorem dX3_bytesAheadOfGiven_19 : decode cX3_bytesAheadOfGiven 19 = .ok (.iconst 1, 1) := by decide +kernel
theorem dX3_bytesAheadOfGiven_20 : decode cX3_bytesAheadOfGiven 20 = .ok (.ireturn, 1) := by decide +kernel
abbrev rm_X3_bytesAheadOfGiven : Room := { frames := 1, cells := 0, slots := 0, locals := 23 }
def f_X3_bytesAheadOfGiven (cy : Nat → ClassId) (a0 : Nat) (μ : Mem) : Option (Int32 × Mem) :=
  if isO μ a0 2 = true then (ob2 (f_X3_isInRow cy a0 μ) fun r4 μ3 => if r4 = 0 then (some (1, μ3)) else if isO μ3 a0 2 = true then (ob2 (f_X3_innermostCount cy a0 μ3) fun r9 μ8 => ob2 (f_X1_digitsOf cy r9 μ8) fun r12 μ11 => some ((2 + r12), μ11)) else none) else none
set_option maxRecDepth 100000 in
set_option maxHeartbeats 4000000 in
theorem c_X3_bytesAheadOfGiven {l : Launch} {g : Wg} {L : List Nat} {μ : Mem} {a0 : Nat} {r : Int32} {μ' : Mem} (hf : f_X3_bytesAheadOfGiven g.2 a0 μ = some (r, μ')) : MetI l yX3_bytesAheadOfGiven cX3_bytesAheadOfGiven 1 (some .int) rm_X3_bytesAheadOfGiven g L μ [.ref a0] r μ' := by
  refine pw_met (Qc := fun A => QI g L A r μ') (by decide) (Nat.le_of_ble_eq_true rfl) ?_
  intro p e s m args below meth c A ls H locs hC hr hlocks hl hw
  have hx := hC.1
  have hb := hC.2.1
  have hl : lv_has ls 1 [(0, .ref a0)] := hl
  unfold f_X3_bytesAheadOfGiven at hf
  refine lv_aload_n hx hb dX3_bytesAheadOfGiven_0 rfl (lv_at hl 0 rfl) ?_
  obtain ⟨h2, hf⟩ := o_ite hf
  obtain ⟨r4, μ3, h1, hf⟩ := o_bind2 hf
  refine pw_goI hw (pw_runV (As := []) (rest := []) hC mm_X3_isInRow tw_942 (c_X3_isInRow h1 _) ⟨rfl, rfl, by decide, by decide⟩ hw h2 rfl hl.1 (Nat.le_of_ble_eq_true rfl) ⟨Nat.zero_le _, Nat.zero_le _⟩ rfl dX3_bytesAheadOfGiven_1) (fun H locs hw => ?_)
  refine lv_if_eq (tgt := 19) hx hb dX3_bytesAheadOfGiven_4 (by decide) (fun c5 => ?_) (fun c5 => ?_)
  · have hf := o_pos c5 hf
    refine lv_iconst (v := 1) hx hb dX3_bytesAheadOfGiven_19 nc_iconst_1 ?_
    obtain ⟨rfl, rfl⟩ := o_ret hf
    exact pw_iret hC hr hlocks hw dX3_bytesAheadOfGiven_20
  · have hf := o_neg c5 hf
    refine lv_iconst (v := 2) hx hb dX3_bytesAheadOfGiven_7 nc_iconst_2 ?_
    refine lv_aload_n hx hb dX3_bytesAheadOfGiven_8 rfl (lv_at hl 0 rfl) ?_
    obtain ⟨h7, hf⟩ := o_ite hf
    obtain ⟨r9, μ8, h6, hf⟩ := o_bind2 hf
    refine pw_goI hw (pw_runV (As := []) (rest := [.int 2]) hC mm_X3_innermostCount tw_943 (c_X3_innermostCount h6 _) ⟨rfl, rfl, by decide, by decide⟩ hw h7 rfl hl.1 (Nat.le_of_ble_eq_true rfl) ⟨Nat.zero_le _, Nat.zero_le _⟩ rfl dX3_bytesAheadOfGiven_9) (fun H locs hw => ?_)
    obtain ⟨r12, μ11, h10, hf⟩ := o_bind2 hf
    refine pw_goI hw (pw_runS (As := [.int r9]) (rest := [.int 2]) hC mm_X1_digitsOf tw_944 (c_X1_digitsOf h10 _) ⟨rfl, rfl, by decide, by decide⟩ hw rfl hl.1 (Nat.le_of_ble_eq_true rfl) ⟨Nat.zero_le _, Nat.zero_le _⟩ rfl dX3_bytesAheadOfGiven_12) (fun H locs hw => ?_)
    refine lv_iadd hx hb dX3_bytesAheadOfGiven_15 ?_
    refine lv_goto (tgt := 20) hx hb dX3_bytesAheadOfGiven_16 (by decide) ?_
    obtain ⟨rfl, rfl⟩ := o_ret hf
    exact pw_iret hC hr hlocks hw dX3_bytesAheadOfGiven_20
theorem dX3_startElement_0 : decode cX3_startElement 0 = .ok (.aload_n 0, 1) := by decide +kernel
theorem dX3_startElement_1 : decode cX3_startElement 1 = .ok (.getfield 14, 3) := by decide +kernel
theorem dX3_startElement_4 : decode cX3_startElement 4 = .ok (.iload_n 1, 1) := by decide +kernel
theorem dX3_startElement_5 : decode cX3_startElement 5 = .ok (.invokevirtual 68, 3) := by decide +kernel
theorem dX3_startElement_8 : decode cX3_startElement 8 = .ok (.aload_n 0, 1) := by decide +kernel
theorem dX3_startElement_9 : decode cX3_startElement 9 = .ok (.invokevirtual 54, 3) := by decide +kernel
theorem dX3_startElement_12 : decode cX3_startElement 12 = .ok (.ifCond .eq 17, 3) := by decide +kernel
theorem dX3_startElement_15 : decode cX3_startElement 15 = .ok (.aload_n 0, 1) := by decide +kernel
theorem dX3_startElement_16 : decode cX3_startElement 16 = .ok (.getfield 14, 3) := by decide +kernel
theorem dX3_startElement_19 : decode cX3_startElement 19 = .ok (.aload_n 0, 1) := by decide +kernel
theorem dX3_startElement_20 : decode cX3_startElement 20 = .ok (.invokevirtual 58, 3) := by decide +kernel
theorem dX3_startElement_23 : decode cX3_startElement 23 = .ok (.invokevirtual 71, 3) := by decide +kernel
theorem dX3_startElement_26 : decode cX3_startElement 26 = .ok (.goto 13, 3) := by decide +kernel
theorem dX3_startElement_29 : decode cX3_startElement 29 = .ok (.aload_n 0, 1) := by decide +kernel
theorem dX3_startElement_30 : decode cX3_startElement 30 = .ok (.getfield 14, 3) := by decide +kernel
theorem dX3_startElement_33 : decode cX3_startElement 33 = .ok (.aload_n 2, 1) := by decide +kernel
theorem dX3_startElement_34 : decode cX3_startElement 34 = .ok (.iconst 0, 1) := by decide +kernel
theorem dX3_startElement_35 : decode cX3_startElement 35 = .ok (.iload_n 3, 1) := by decide +kernel
theorem dX3_startElement_36 : decode cX3_startElement 36 = .ok (.invokevirtual 74, 3) := by decide +kernel
theorem dX3_startElement_39 : decode cX3_startElement 39 = .ok (.aload_n 0, 1) := by decide +kernel
theorem dX3_startElement_40 : decode cX3_startElement 40 = .ok (.getfield 33, 3) := by decide +kernel
theorem dX3_startElement_43 : decode cX3_startElement 43 = .ok (.ifCond .le 18, 3) := by decide +kernel
theorem dX3_startElement_46 : decode cX3_startElement 46 = .ok (.aload_n 0, 1) := by decide +kernel
theorem dX3_startElement_47 : decode cX3_startElement 47 = .ok (.getfield 30, 3) := by decide +kernel
theorem dX3_startElement_50 : decode cX3_startElement 50 = .ok (.aload_n 0, 1) := by decide +kernel
theorem dX3_startElement_51 : decode cX3_startElement 51 = .ok (.getfield 33, 3) := by decide +kernel
theorem dX3_startElement_54 : decode cX3_startElement 54 = .ok (.iconst 1, 1) := by decide +kernel
theorem dX3_startElement_55 : decode cX3_startElement 55 = .ok (.isub, 1) := by decide +kernel
theorem dX3_startElement_56 : decode cX3_startElement 56 = .ok (.dup2, 1) := by decide +kernel
theorem dX3_startElement_57 : decode cX3_startElement 57 = .ok (.iaload, 1) := by decide +kernel
theorem dX3_startElement_58 : decode cX3_startElement 58 = .ok (.iconst 1, 1) := by decide +kernel
theorem dX3_startElement_59 : decode cX3_startElement 59 = .ok (.iadd, 1) := by decide +kernel
theorem dX3_startElement_60 : decode cX3_startElement 60 = .ok (.iastore, 1) := by decide +kernel
theorem dX3_startElement_61 : decode cX3_startElement 61 = .ok (.return_, 1) := by decide +kernel
abbrev rm_X3_startElement : Room := { frames := 2, cells := 0, slots := 0, locals := 83 }
def f_X3_startElement_L39 (cy : Nat → ClassId) (a0 : Nat) (μ : Mem) : Option Mem :=
  (rdI μ a0 2 5).bind fun v101 => if v101 ≤ 0 then (some μ) else (rdR μ a0 2 4).bind fun q104 => (rdI μ a0 2 5).bind fun v106 => (rdA cy μ 1 q104 (v106 - 1)).bind fun v108 => (wrA cy μ 1 q104 (v106 - 1) (v108 + 1)).bind fun μ110 => some μ110
set_option maxRecDepth 100000 in
set_option maxHeartbeats 4000000 in
theorem w_X3_startElement_L39 {p : Program} {l : Launch} {e : Env} {s : State} {m : MethodId} {args : Array Value} {below : List Frame} {meth : Method} {c : Code} {A : Nat → Prop} {g : Wg} {L : List Nat} {μ' : Mem} (hC : CX p m c cX3_startElement 4 s args RX3) (hr : meth.sig.returnType = none) (hlocks : meth.locks = false) : ∀ (a0 : Nat) (μ : Mem) (H : Heap) (locs : List Loc) (ls : Array Slot), lv_has ls 4 [(0, .ref a0)] → PW g L μ A s H locs → f_X3_startElement_L39 g.2 a0 μ = some μ' → W p l e rm_X3_startElement s m args below meth c H locs 0 0 (MQ below (QV g L A μ') args s 0 0 A) (F0 m 39 ls []) := by
  have hx := hC.1
  have hb := hC.2.1
  intro a0 μ H locs ls hl hw hf
  unfold f_X3_startElement_L39 at hf
  refine lv_aload_n hx hb dX3_startElement_39 rfl (lv_at hl 0 rfl) ?_
  obtain ⟨v101, h102, hf⟩ := o_bind hf
  refine pw_get hC fl_X3_33 hw (rdI_F h102) dX3_startElement_40 ?_
  refine lv_if_le (tgt := 61) hx hb dX3_startElement_43 (by decide) (fun c103 => ?_) (fun c103 => ?_)
  · have hf := o_pos c103 hf
    obtain rfl := o_retv hf
    exact pw_vret hC hr hlocks hw dX3_startElement_61
  · have hf := o_neg c103 hf
    refine lv_aload_n hx hb dX3_startElement_46 rfl (lv_at hl 0 rfl) ?_
    obtain ⟨q104, h105, hf⟩ := o_bind hf
    refine pw_get hC fl_X3_30 hw (rdR_F h105) dX3_startElement_47 ?_
    refine lv_aload_n hx hb dX3_startElement_50 rfl (lv_at hl 0 rfl) ?_
    obtain ⟨v106, h107, hf⟩ := o_bind hf
    refine pw_get hC fl_X3_33 hw (rdI_F h107) dX3_startElement_51 ?_
    refine lv_iconst (v := 1) hx hb dX3_startElement_54 nc_iconst_1 ?_
    refine lv_isub hx hb dX3_startElement_55 ?_
    refine lv_dup2_11 hx hb dX3_startElement_56 rfl rfl ?_
    obtain ⟨v108, h109, hf⟩ := o_bind hf
    refine pw_iald hC hw h109 dX3_startElement_57 ?_
    refine lv_iconst (v := 1) hx hb dX3_startElement_58 nc_iconst_1 ?_
    refine lv_iadd hx hb dX3_startElement_59 ?_
    obtain ⟨μ110, h111, hf⟩ := o_bind hf
    refine pw_iast hC hw h111 dX3_startElement_60 (fun H locs hw => ?_)
    obtain rfl := o_retv hf
    exact pw_vret hC hr hlocks hw dX3_startElement_61
def f_X3_startElement (cy : Nat → ClassId) (a0 : Nat) (a1 : Int32) (a2 : Nat) (a3 : Int32) (μ : Mem) : Option Mem :=
  (rdR μ a0 2 0).bind fun q1 => if isO μ q1 4 = true then ((f_X5_append cy q1 a1 μ).bind fun μ5 => if isO μ5 a0 2 = true then (ob2 (f_X3_isInRow cy a0 μ5) fun r9 μ8 => if r9 = 0 then ((rdR μ8 a0 2 0).bind fun q11 => if isO μ8 q11 4 = true then ((f_X5_appendPart cy q11 a2 0 a3 μ8).bind fun μ15 => f_X3_startElement_L39 cy a0 μ15) else none) else (rdR μ8 a0 2 0).bind fun q16 => if isO μ8 a0 2 = true then (ob2 (f_X3_innermostCount cy a0 μ8) fun r21 μ20 => if isO μ20 q16 4 = true then ((f_X5_appendRowName cy q16 r21 μ20).bind fun μ24 => f_X3_startElement_L39 cy a0 μ24) else none) else none) else none) else none
set_option maxRecDepth 100000 in
set_option maxHeartbeats 4000000 in
theorem c_X3_startElement {l : Launch} {g : Wg} {L : List Nat} {μ : Mem} {a0 : Nat} {a1 : Int32} {a2 : Nat} {a3 : Int32} {μ' : Mem} (hf : f_X3_startElement g.2 a0 a1 a2 a3 μ = some μ') : MetV l yX3_startElement cX3_startElement 4 none rm_X3_startElement g L μ [.ref a0, .int a1, .ref a2, .int a3] μ' := by
  refine pw_met (Qc := fun A => QV g L A μ') (by decide) (Nat.le_of_ble_eq_true rfl) ?_
  intro p e s m args below meth c A ls H locs hC hr hlocks hl hw
  have hx := hC.1
  have hb := hC.2.1
  have hl : lv_has ls 4 [(0, .ref a0), (1, .int a1), (2, .ref a2), (3, .int a3)] := hl
  unfold f_X3_startElement at hf
  refine lv_aload_n hx hb dX3_startElement_0 rfl (lv_at hl 0 rfl) ?_
  obtain ⟨q1, h2, hf⟩ := o_bind hf
  refine pw_get hC fl_X3_14 hw (rdR_F h2) dX3_startElement_1 ?_
  refine lv_iload_n hx hb dX3_startElement_4 rfl (lv_at hl 1 rfl) ?_
  obtain ⟨h4, hf⟩ := o_ite hf
  obtain ⟨μ5, h3, hf⟩ := o_bind hf
  refine pw_goV hw (pw_runV (As := [.int a1]) (rest := []) hC mm_X5_append tw_953 (c_X5_append h3 _) ⟨rfl, rfl, by decide, by decide⟩ hw h4 rfl hl.1 (Nat.le_of_ble_eq_true rfl) ⟨Nat.zero_le _, Nat.zero_le _⟩ rfl dX3_startElement_5) (fun H locs hw => ?_)
  refine lv_aload_n hx hb dX3_startElement_8 rfl (lv_at hl 0 rfl) ?_
  obtain ⟨h7, hf⟩ := o_ite hf
  obtain ⟨r9, μ8, h6, hf⟩ := o_bind2 hf
  refine pw_goI hw (pw_runV (As := []) (rest := []) hC mm_X3_isInRow tw_942 (c_X3_isInRow h6 _) ⟨rfl, rfl, by decide, by decide⟩ hw h7 rfl hl.1 (Nat.le_of_ble_eq_true rfl) ⟨Nat.zero_le _, Nat.zero_le _⟩ rfl dX3_startElement_9) (fun H locs hw => ?_)
  refine lv_if_eq (tgt := 29) hx hb dX3_startElement_12 (by decide) (fun c10 => ?_) (fun c10 => ?_)
  · have hf := o_pos c10 hf
    refine lv_aload_n hx hb dX3_startElement_29 rfl (lv_at hl 0 rfl) ?_
    obtain ⟨q11, h12, hf⟩ := o_bind hf
    refine pw_get hC fl_X3_14 hw (rdR_F h12) dX3_startElement_30 ?_
    refine lv_aload_n hx hb dX3_startElement_33 rfl (lv_at hl 2 rfl) ?_
    refine lv_iconst (v := 0) hx hb dX3_startElement_34 nc_iconst_0 ?_
    refine lv_iload_n hx hb dX3_startElement_35 rfl (lv_at hl 3 rfl) ?_
    obtain ⟨h14, hf⟩ := o_ite hf
    obtain ⟨μ15, h13, hf⟩ := o_bind hf
    refine pw_goV hw (pw_runV (As := [.ref a2, .int 0, .int a3]) (rest := []) hC mm_X5_appendPart tw_955 (c_X5_appendPart h13 _) ⟨rfl, rfl, by decide, by decide⟩ hw h14 rfl hl.1 (Nat.le_of_ble_eq_true rfl) ⟨Nat.zero_le _, Nat.zero_le _⟩ rfl dX3_startElement_36) (fun H locs hw => ?_)
    exact w_X3_startElement_L39 hC hr hlocks _ _ _ _ ls (lv_sub hl [0] rfl) hw hf
  · have hf := o_neg c10 hf
    refine lv_aload_n hx hb dX3_startElement_15 rfl (lv_at hl 0 rfl) ?_
    obtain ⟨q16, h17, hf⟩ := o_bind hf
    refine pw_get hC fl_X3_14 hw (rdR_F h17) dX3_startElement_16 ?_
    refine lv_aload_n hx hb dX3_startElement_19 rfl (lv_at hl 0 rfl) ?_
    obtain ⟨h19, hf⟩ := o_ite hf
    obtain ⟨r21, μ20, h18, hf⟩ := o_bind2 hf
    refine pw_goI hw (pw_runV (As := []) (rest := [.ref q16]) hC mm_X3_innermostCount tw_943 (c_X3_innermostCount h18 _) ⟨rfl, rfl, by decide, by decide⟩ hw h19 rfl hl.1 (Nat.le_of_ble_eq_true rfl) ⟨Nat.zero_le _, Nat.zero_le _⟩ rfl dX3_startElement_20) (fun H locs hw => ?_)
    obtain ⟨h23, hf⟩ := o_ite hf
    obtain ⟨μ24, h22, hf⟩ := o_bind hf
    refine pw_goV hw (pw_runV (As := [.int r21]) (rest := []) hC mm_X5_appendRowName tw_954 (c_X5_appendRowName h22 _) ⟨rfl, rfl, by decide, by decide⟩ hw h23 rfl hl.1 (Nat.le_of_ble_eq_true rfl) ⟨Nat.zero_le _, Nat.zero_le _⟩ rfl dX3_startElement_23) (fun H locs hw => ?_)
    refine lv_goto (tgt := 39) hx hb dX3_startElement_26 (by decide) ?_
    exact w_X3_startElement_L39 hC hr hlocks _ _ _ _ ls (lv_sub hl [0] rfl) hw hf
theorem dX3_addElement_0 : decode cX3_addElement 0 = .ok (.aload_n 0, 1) := by decide +kernel
theorem dX3_addElement_1 : decode cX3_addElement 1 = .ok (.invokevirtual 78, 3) := by decide +kernel
theorem dX3_addElement_4 : decode cX3_addElement 4 = .ok (.aload_n 2, 1) := by decide +kernel
theorem dX3_addElement_5 : decode cX3_addElement 5 = .ok (.getfield 51, 3) := by decide +kernel
theorem dX3_addElement_8 : decode cX3_addElement 8 = .ok (.iadd, 1) := by decide +kernel
theorem dX3_addElement_9 : decode cX3_addElement 9 = .ok (.aload_n 0, 1) := by decide +kernel
theorem dX3_addElement_10 : decode cX3_addElement 10 = .ok (.invokevirtual 81, 3) := by decide +kernel
theorem dX3_addElement_13 : decode cX3_addElement 13 = .ok (.if_icmp .le 5, 3) := by decide +kernel
theorem dX3_addElement_16 : decode cX3_addElement 16 = .ok (.iconst 0, 1) := by decide +kernel
theorem dX3_addElement_17 : decode cX3_addElement 17 = .ok (.ireturn, 1) := by decide +kernel
theorem dX3_addElement_18 : decode cX3_addElement 18 = .ok (.aload_n 0, 1) := by decide +kernel
theorem dX3_addElement_19 : decode cX3_addElement 19 = .ok (.iload_n 1, 1) := by decide +kernel
theorem dX3_addElement_20 : decode cX3_addElement 20 = .ok (.aload_n 2, 1) := by decide +kernel
theorem dX3_addElement_21 : decode cX3_addElement 21 = .ok (.iload_n 3, 1) := by decide +kernel
theorem dX3_addElement_22 : decode cX3_addElement 22 = .ok (.invokevirtual 84, 3) := by decide +kernel
theorem dX3_addElement_25 : decode cX3_addElement 25 = .ok (.aload_n 0, 1) := by decide +kernel
theorem dX3_addElement_26 : decode cX3_addElement 26 = .ok (.getfield 14, 3) := by decide +kernel
theorem dX3_addElement_29 : decode cX3_addElement 29 = .ok (.aload_n 2, 1) := by decide +kernel
theorem dX3_addElement_30 : decode cX3_addElement 30 = .ok (.iload_n 3, 1) := by decide +kernel
theorem dX3_addElement_31 : decode cX3_addElement 31 = .ok (.aload_n 2, 1) := by decide +kernel
theorem dX3_addElement_32 : decode cX3_addElement 32 = .ok (.getfield 51, 3) := by decide +kernel
theorem dX3_addElement_35 : decode cX3_addElement 35 = .ok (.invokevirtual 74, 3) := by decide +kernel
theorem dX3_addElement_38 : decode cX3_addElement 38 = .ok (.iconst 1, 1) := by decide +kernel
theorem dX3_addElement_39 : decode cX3_addElement 39 = .ok (.ireturn, 1) := by decide +kernel
abbrev rm_X3_addElement : Room := { frames := 3, cells := 0, slots := 0, locals := 106 }
def f_X3_addElement (cy : Nat → ClassId) (a0 : Nat) (a1 : Int32) (a2 : Nat) (a3 : Int32) (μ : Mem) : Option (Int32 × Mem) :=
  if isO μ a0 2 = true then (ob2 (f_X3_bytesAheadOfGiven cy a0 μ) fun r4 μ3 => (rdI μ3 a2 4 1).bind fun v5 => if isO μ3 a0 2 = true then (ob2 (f_X3_room cy a0 μ3) fun r10 μ9 => if (r4 + v5) ≤ r10 then (if isO μ9 a0 2 = true then ((f_X3_startElement cy a0 a1 a2 a3 μ9).bind fun μ14 => (rdR μ14 a0 2 0).bind fun q15 => (rdI μ14 a2 4 1).bind fun v17 => if isO μ14 q15 4 = true then ((f_X5_appendPart cy q15 a2 a3 v17 μ14).bind fun μ21 => some (1, μ21)) else none) else none) else some (0, μ9)) else none) else none
set_option maxRecDepth 100000 in
set_option maxHeartbeats 4000000 in
theorem c_X3_addElement {l : Launch} {g : Wg} {L : List Nat} {μ : Mem} {a0 : Nat} {a1 : Int32} {a2 : Nat} {a3 : Int32} {r : Int32} {μ' : Mem} (hf : f_X3_addElement g.2 a0 a1 a2 a3 μ = some (r, μ')) : MetI l yX3_addElement cX3_addElement 4 (some .boolean) rm_X3_addElement g L μ [.ref a0, .int a1, .ref a2, .int a3] r μ' := by
  refine pw_met (Qc := fun A => QI g L A r μ') (by decide) (Nat.le_of_ble_eq_true rfl) ?_
  intro p e s m args below meth c A ls H locs hC hr hlocks hl hw
  have hx := hC.1
  have hb := hC.2.1
  have hl : lv_has ls 4 [(0, .ref a0), (1, .int a1), (2, .ref a2), (3, .int a3)] := hl
  unfold f_X3_addElement at hf
  refine lv_aload_n hx hb dX3_addElement_0 rfl (lv_at hl 0 rfl) ?_
  obtain ⟨h2, hf⟩ := o_ite hf
  obtain ⟨r4, μ3, h1, hf⟩ := o_bind2 hf
  refine pw_goI hw (pw_runV (As := []) (rest := []) hC mm_X3_bytesAheadOfGiven tw_938 (c_X3_bytesAheadOfGiven h1 _) ⟨rfl, rfl, by decide, by decide⟩ hw h2 rfl hl.1 (Nat.le_of_ble_eq_true rfl) ⟨Nat.zero_le _, Nat.zero_le _⟩ rfl dX3_addElement_1) (fun H locs hw => ?_)
  refine lv_aload_n hx hb dX3_addElement_4 rfl (lv_at hl 2 rfl) ?_
  obtain ⟨v5, h6, hf⟩ := o_bind hf
  refine pw_get hC fl_X3_51 hw (rdI_F h6) dX3_addElement_5 ?_
  refine lv_iadd hx hb dX3_addElement_8 ?_
  refine lv_aload_n hx hb dX3_addElement_9 rfl (lv_at hl 0 rfl) ?_
  obtain ⟨h8, hf⟩ := o_ite hf
  obtain ⟨r10, μ9, h7, hf⟩ := o_bind2 hf
  refine pw_goI hw (pw_runV (As := []) (rest := [.int (r4 + v5)]) hC mm_X3_room tw_945 (c_X3_room h7 _) ⟨rfl, rfl, by decide, by decide⟩ hw h8 rfl hl.1 (Nat.le_of_ble_eq_true rfl) ⟨Nat.zero_le _, Nat.zero_le _⟩ rfl dX3_addElement_10) (fun H locs hw => ?_)
  refine lv_icmp_le (tgt := 18) hx hb dX3_addElement_13 (by decide) (fun c11 => ?_) (fun c11 => ?_)
  · have hf := o_pos c11 hf
    refine lv_aload_n hx hb dX3_addElement_18 rfl (lv_at hl 0 rfl) ?_
    refine lv_iload_n hx hb dX3_addElement_19 rfl (lv_at hl 1 rfl) ?_
    refine lv_aload_n hx hb dX3_addElement_20 rfl (lv_at hl 2 rfl) ?_
    refine lv_iload_n hx hb dX3_addElement_21 rfl (lv_at hl 3 rfl) ?_
    obtain ⟨h13, hf⟩ := o_ite hf
    obtain ⟨μ14, h12, hf⟩ := o_bind hf
    refine pw_goV hw (pw_runV (As := [.int a1, .ref a2, .int a3]) (rest := []) hC mm_X3_startElement tw_949 (c_X3_startElement h12 _) ⟨rfl, rfl, by decide, by decide⟩ hw h13 rfl hl.1 (Nat.le_of_ble_eq_true rfl) ⟨Nat.zero_le _, Nat.zero_le _⟩ rfl dX3_addElement_22) (fun H locs hw => ?_)
    refine lv_aload_n hx hb dX3_addElement_25 rfl (lv_at hl 0 rfl) ?_
    obtain ⟨q15, h16, hf⟩ := o_bind hf
    refine pw_get hC fl_X3_14 hw (rdR_F h16) dX3_addElement_26 ?_
    refine lv_aload_n hx hb dX3_addElement_29 rfl (lv_at hl 2 rfl) ?_
    refine lv_iload_n hx hb dX3_addElement_30 rfl (lv_at hl 3 rfl) ?_
    refine lv_aload_n hx hb dX3_addElement_31 rfl (lv_at hl 2 rfl) ?_
    obtain ⟨v17, h18, hf⟩ := o_bind hf
    refine pw_get hC fl_X3_51 hw (rdI_F h18) dX3_addElement_32 ?_
    obtain ⟨h20, hf⟩ := o_ite hf
    obtain ⟨μ21, h19, hf⟩ := o_bind hf
    refine pw_goV hw (pw_runV (As := [.ref a2, .int a3, .int v17]) (rest := []) hC mm_X5_appendPart tw_955 (c_X5_appendPart h19 _) ⟨rfl, rfl, by decide, by decide⟩ hw h20 rfl hl.1 (Nat.le_of_ble_eq_true rfl) ⟨Nat.zero_le _, Nat.zero_le _⟩ rfl dX3_addElement_35) (fun H locs hw => ?_)
    refine lv_iconst (v := 1) hx hb dX3_addElement_38 nc_iconst_1 ?_
    obtain ⟨rfl, rfl⟩ := o_ret hf
    exact pw_zret hC hr hlocks (Or.inr rfl) hw dX3_addElement_39
  · have hf := o_neg c11 hf
    refine lv_iconst (v := 0) hx hb dX3_addElement_16 nc_iconst_0 ?_
    obtain ⟨rfl, rfl⟩ := o_ret hf
    exact pw_zret hC hr hlocks (Or.inl rfl) hw dX3_addElement_17
theorem dX3_openElement_0 : decode cX3_openElement 0 = .ok (.iload_n 1, 1) := by decide +kernel
theorem dX3_openElement_1 : decode cX3_openElement 1 = .ok (.bipush 15, 2) := by decide +kernel
theorem dX3_openElement_3 : decode cX3_openElement 3 = .ok (.if_icmp .ne 7, 3) := by decide +kernel
theorem dX3_openElement_6 : decode cX3_openElement 6 = .ok (.iconst 1, 1) := by decide +kernel
theorem dX3_openElement_7 : decode cX3_openElement 7 = .ok (.goto 4, 3) := by decide +kernel
theorem dX3_openElement_10 : decode cX3_openElement 10 = .ok (.iconst 0, 1) := by decide +kernel
theorem dX3_openElement_11 : decode cX3_openElement 11 = .ok (.istore 4, 2) := by decide +kernel
theorem dX3_openElement_13 : decode cX3_openElement 13 = .ok (.iload 4, 2) := by decide +kernel
theorem dX3_openElement_15 : decode cX3_openElement 15 = .ok (.ifCond .eq 8, 3) := by decide +kernel
theorem dX3_openElement_18 : decode cX3_openElement 18 = .ok (.bipush 9, 2) := by decide +kernel
theorem dX3_openElement_20 : decode cX3_openElement 20 = .ok (.goto 4, 3) := by decide +kernel
theorem dX3_openElement_23 : decode cX3_openElement 23 = .ok (.iconst 5, 1) := by decide +kernel
theorem dX3_openElement_24 : decode cX3_openElement 24 = .ok (.istore 5, 2) := by decide +kernel
theorem dX3_openElement_26 : decode cX3_openElement 26 = .ok (.aload_n 0, 1) := by decide +kernel
theorem dX3_openElement_27 : decode cX3_openElement 27 = .ok (.invokevirtual 78, 3) := by decide +kernel
theorem dX3_openElement_30 : decode cX3_openElement 30 = .ok (.aload_n 2, 1) := by decide +kernel
theorem dX3_openElement_31 : decode cX3_openElement 31 = .ok (.getfield 51, 3) := by decide +kernel
theorem dX3_openElement_34 : decode cX3_openElement 34 = .ok (.iadd, 1) := by decide +kernel
theorem dX3_openElement_35 : decode cX3_openElement 35 = .ok (.iload 5, 2) := by decide +kernel
theorem dX3_openElement_37 : decode cX3_openElement 37 = .ok (.iadd, 1) := by decide +kernel
theorem dX3_openElement_38 : decode cX3_openElement 38 = .ok (.aload_n 0, 1) := by decide +kernel
theorem dX3_openElement_39 : decode cX3_openElement 39 = .ok (.invokevirtual 81, 3) := by decide +kernel
theorem dX3_openElement_42 : decode cX3_openElement 42 = .ok (.if_icmp .le 5, 3) := by decide +kernel
theorem dX3_openElement_45 : decode cX3_openElement 45 = .ok (.iconst 0, 1) := by decide +kernel
theorem dX3_openElement_46 : decode cX3_openElement 46 = .ok (.ireturn, 1) := by decide +kernel
theorem dX3_openElement_47 : decode cX3_openElement 47 = .ok (.aload_n 0, 1) := by decide +kernel
theorem dX3_openElement_48 : decode cX3_openElement 48 = .ok (.iload_n 1, 1) := by decide +kernel
theorem dX3_openElement_49 : decode cX3_openElement 49 = .ok (.aload_n 2, 1) := by decide +kernel
theorem dX3_openElement_50 : decode cX3_openElement 50 = .ok (.iload_n 3, 1) := by decide +kernel
theorem dX3_openElement_51 : decode cX3_openElement 51 = .ok (.invokevirtual 84, 3) := by decide +kernel
theorem dX3_openElement_54 : decode cX3_openElement 54 = .ok (.aload_n 0, 1) := by decide +kernel
theorem dX3_openElement_55 : decode cX3_openElement 55 = .ok (.getfield 14, 3) := by decide +kernel
theorem dX3_openElement_58 : decode cX3_openElement 58 = .ok (.getfield 51, 3) := by decide +kernel
theorem dX3_openElement_61 : decode cX3_openElement 61 = .ok (.istore 6, 2) := by decide +kernel
theorem dX3_openElement_63 : decode cX3_openElement 63 = .ok (.iload 4, 2) := by decide +kernel
theorem dX3_openElement_65 : decode cX3_openElement 65 = .ok (.ifCond .eq 12, 3) := by decide +kernel
theorem dX3_openElement_68 : decode cX3_openElement 68 = .ok (.aload_n 0, 1) := by decide +kernel
theorem dX3_openElement_69 : decode cX3_openElement 69 = .ok (.getfield 14, 3) := by decide +kernel
theorem dX3_openElement_72 : decode cX3_openElement 72 = .ok (.lconst 0, 1) := by decide +kernel
theorem dX3_openElement_73 : decode cX3_openElement 73 = .ok (.iconst 4, 1) := by decide +kernel
theorem dX3_openElement_74 : decode cX3_openElement 74 = .ok (.invokevirtual 88, 3) := by decide +kernel
theorem dX3_openElement_77 : decode cX3_openElement 77 = .ok (.aload_n 0, 1) := by decide +kernel
theorem dX3_openElement_78 : decode cX3_openElement 78 = .ok (.getfield 14, 3) := by decide +kernel
theorem dX3_openElement_81 : decode cX3_openElement 81 = .ok (.aload_n 2, 1) := by decide +kernel
theorem dX3_openElement_82 : decode cX3_openElement 82 = .ok (.iload_n 3, 1) := by decide +kernel
theorem dX3_openElement_83 : decode cX3_openElement 83 = .ok (.aload_n 2, 1) := by decide +kernel
theorem dX3_openElement_84 : decode cX3_openElement 84 = .ok (.getfield 51, 3) := by decide +kernel
theorem dX3_openElement_87 : decode cX3_openElement 87 = .ok (.invokevirtual 74, 3) := by decide +kernel
theorem dX3_openElement_90 : decode cX3_openElement 90 = .ok (.aload_n 0, 1) := by decide +kernel
theorem dX3_openElement_91 : decode cX3_openElement 91 = .ok (.iload_n 1, 1) := by decide +kernel
theorem dX3_openElement_92 : decode cX3_openElement 92 = .ok (.iload 6, 2) := by decide +kernel
theorem dX3_openElement_94 : decode cX3_openElement 94 = .ok (.invokevirtual 44, 3) := by decide +kernel
theorem dX3_openElement_97 : decode cX3_openElement 97 = .ok (.iconst 1, 1) := by decide +kernel
theorem dX3_openElement_98 : decode cX3_openElement 98 = .ok (.ireturn, 1) := by decide +kernel
abbrev rm_X3_openElement : Room := { frames := 3, cells := 0, slots := 0, locals := 106 }
def f_X3_openElement_L77 (cy : Nat → ClassId) (a0 : Nat) (a1 : Int32) (a2 : Nat) (a3 : Int32) (a6 : Int32) (μ : Mem) : Option (Int32 × Mem) :=
  (rdR μ a0 2 0).bind fun q101 => (rdI μ a2 4 1).bind fun v103 => if isO μ q101 4 = true then ((f_X5_appendPart cy q101 a2 a3 v103 μ).bind fun μ107 => if isO μ107 a0 2 = true then ((f_X3_openDocument cy a0 a1 a6 μ107).bind fun μ110 => some (1, μ110)) else none) else none
set_option maxRecDepth 100000 in
set_option maxHeartbeats 4000000 in
theorem w_X3_openElement_L77 {p : Program} {l : Launch} {e : Env} {s : State} {m : MethodId} {args : Array Value} {below : List Frame} {meth : Method} {c : Code} {A : Nat → Prop} {g : Wg} {L : List Nat} {r : Int32} {μ' : Mem} (hC : CX p m c cX3_openElement 7 s args RX3) (hr : meth.sig.returnType = (some .boolean)) (hlocks : meth.locks = false) : ∀ (a0 : Nat) (a1 : Int32) (a2 : Nat) (a3 : Int32) (a6 : Int32) (μ : Mem) (H : Heap) (locs : List Loc) (ls : Array Slot), lv_has ls 7 [(0, .ref a0), (1, .int a1), (2, .ref a2), (3, .int a3), (6, .int a6)] → PW g L μ A s H locs → f_X3_openElement_L77 g.2 a0 a1 a2 a3 a6 μ = some (r, μ') → W p l e rm_X3_openElement s m args below meth c H locs 0 0 (MQ below (QI g L A r μ') args s 0 0 A) (F0 m 77 ls []) := by
  have hx := hC.1
  have hb := hC.2.1
  intro a0 a1 a2 a3 a6 μ H locs ls hl hw hf
  unfold f_X3_openElement_L77 at hf
  refine lv_aload_n hx hb dX3_openElement_77 rfl (lv_at hl 0 rfl) ?_
  obtain ⟨q101, h102, hf⟩ := o_bind hf
  refine pw_get hC fl_X3_14 hw (rdR_F h102) dX3_openElement_78 ?_
  refine lv_aload_n hx hb dX3_openElement_81 rfl (lv_at hl 2 rfl) ?_
  refine lv_iload_n hx hb dX3_openElement_82 rfl (lv_at hl 3 rfl) ?_
  refine lv_aload_n hx hb dX3_openElement_83 rfl (lv_at hl 2 rfl) ?_
  obtain ⟨v103, h104, hf⟩ := o_bind hf
  refine pw_get hC fl_X3_51 hw (rdI_F h104) dX3_openElement_84 ?_
  obtain ⟨h106, hf⟩ := o_ite hf
  obtain ⟨μ107, h105, hf⟩ := o_bind hf
  refine pw_goV hw (pw_runV (As := [.ref a2, .int a3, .int v103]) (rest := []) hC mm_X5_appendPart tw_955 (c_X5_appendPart h105 _) ⟨rfl, rfl, by decide, by decide⟩ hw h106 rfl hl.1 (Nat.le_of_ble_eq_true rfl) ⟨Nat.zero_le _, Nat.zero_le _⟩ rfl dX3_openElement_87) (fun H locs hw => ?_)
  refine lv_aload_n hx hb dX3_openElement_90 rfl (lv_at hl 0 rfl) ?_
  refine lv_iload_n hx hb dX3_openElement_91 rfl (lv_at hl 1 rfl) ?_
  refine lv_iload hx hb dX3_openElement_92 (lv_at hl 4 rfl) ?_
  obtain ⟨h109, hf⟩ := o_ite hf
  obtain ⟨μ110, h108, hf⟩ := o_bind hf
  refine pw_goV hw (pw_runV (As := [.int a1, .int a6]) (rest := []) hC mm_X3_openDocument tw_516 (c_X3_openDocument h108 _) ⟨rfl, rfl, by decide, by decide⟩ hw h109 rfl hl.1 (Nat.le_of_ble_eq_true rfl) ⟨Nat.zero_le _, Nat.zero_le _⟩ rfl dX3_openElement_94) (fun H locs hw => ?_)
  refine lv_iconst (v := 1) hx hb dX3_openElement_97 nc_iconst_1 ?_
  obtain ⟨rfl, rfl⟩ := o_ret hf
  exact pw_zret hC hr hlocks (Or.inr rfl) hw dX3_openElement_98
def f_X3_openElement_L24 (cy : Nat → ClassId) (a0 : Nat) (a1 : Int32) (a2 : Nat) (a3 : Int32) (a4 : Int32) (t0 : Int32) (μ : Mem) : Option (Int32 × Mem) :=
  if isO μ a0 2 = true then (ob2 (f_X3_bytesAheadOfGiven cy a0 μ) fun r104 μ103 => (rdI μ103 a2 4 1).bind fun v105 => if isO μ103 a0 2 = true then (ob2 (f_X3_room cy a0 μ103) fun r110 μ109 => if ((r104 + v105) + t0) ≤ r110 then (if isO μ109 a0 2 = true then ((f_X3_startElement cy a0 a1 a2 a3 μ109).bind fun μ114 => (rdR μ114 a0 2 0).bind fun q115 => (rdI μ114 q115 4 1).bind fun v117 => if a4 = 0 then (f_X3_openElement_L77 cy a0 a1 a2 a3 v117 μ114) else (rdR μ114 a0 2 0).bind fun q120 => if isO μ114 q120 4 = true then ((f_X5_appendLowestFirst cy q120 (0 : Int64) 4 μ114).bind fun μ124 => f_X3_openElement_L77 cy a0 a1 a2 a3 v117 μ124) else none) else none) else some (0, μ109)) else none) else none
set_option maxRecDepth 100000 in
set_option maxHeartbeats 4000000 in
theorem w_X3_openElement_L24 {p : Program} {l : Launch} {e : Env} {s : State} {m : MethodId} {args : Array Value} {below : List Frame} {meth : Method} {c : Code} {A : Nat → Prop} {g : Wg} {L : List Nat} {r : Int32} {μ' : Mem} (hC : CX p m c cX3_openElement 7 s args RX3) (hr : meth.sig.returnType = (some .boolean)) (hlocks : meth.locks = false) : ∀ (a0 : Nat) (a1 : Int32) (a2 : Nat) (a3 : Int32) (a4 : Int32) (t0 : Int32) (μ : Mem) (H : Heap) (locs : List Loc) (ls : Array Slot), lv_has ls 7 [(0, .ref a0), (1, .int a1), (2, .ref a2), (3, .int a3), (4, .int a4)] → PW g L μ A s H locs → f_X3_openElement_L24 g.2 a0 a1 a2 a3 a4 t0 μ = some (r, μ') → W p l e rm_X3_openElement s m args below meth c H locs 0 0 (MQ below (QI g L A r μ') args s 0 0 A) (F0 m 24 ls [.int t0]) := by
  have hx := hC.1
  have hb := hC.2.1
  intro a0 a1 a2 a3 a4 t0 μ H locs ls hl hw hf
  unfold f_X3_openElement_L24 at hf
  refine lv_istore (lv' := [(5, .int t0), (0, .ref a0), (1, .int a1), (2, .ref a2), (3, .int a3), (4, .int a4)]) hx hb dX3_openElement_24 hl (by decide) rfl (fun ls hl => ?_)
  refine lv_aload_n hx hb dX3_openElement_26 rfl (lv_at hl 1 rfl) ?_
  obtain ⟨h102, hf⟩ := o_ite hf
  obtain ⟨r104, μ103, h101, hf⟩ := o_bind2 hf
  refine pw_goI hw (pw_runV (As := []) (rest := []) hC mm_X3_bytesAheadOfGiven tw_938 (c_X3_bytesAheadOfGiven h101 _) ⟨rfl, rfl, by decide, by decide⟩ hw h102 rfl hl.1 (Nat.le_of_ble_eq_true rfl) ⟨Nat.zero_le _, Nat.zero_le _⟩ rfl dX3_openElement_27) (fun H locs hw => ?_)
  refine lv_aload_n hx hb dX3_openElement_30 rfl (lv_at hl 3 rfl) ?_
  obtain ⟨v105, h106, hf⟩ := o_bind hf
  refine pw_get hC fl_X3_51 hw (rdI_F h106) dX3_openElement_31 ?_
  refine lv_iadd hx hb dX3_openElement_34 ?_
  refine lv_iload hx hb dX3_openElement_35 (lv_at hl 0 rfl) ?_
  refine lv_iadd hx hb dX3_openElement_37 ?_
  refine lv_aload_n hx hb dX3_openElement_38 rfl (lv_at hl 1 rfl) ?_
  obtain ⟨h108, hf⟩ := o_ite hf
  obtain ⟨r110, μ109, h107, hf⟩ := o_bind2 hf
  refine pw_goI hw (pw_runV (As := []) (rest := [.int ((r104 + v105) + t0)]) hC mm_X3_room tw_945 (c_X3_room h107 _) ⟨rfl, rfl, by decide, by decide⟩ hw h108 rfl hl.1 (Nat.le_of_ble_eq_true rfl) ⟨Nat.zero_le _, Nat.zero_le _⟩ rfl dX3_openElement_39) (fun H locs hw => ?_)
  refine lv_icmp_le (tgt := 47) hx hb dX3_openElement_42 (by decide) (fun c111 => ?_) (fun c111 => ?_)
  · have hf := o_pos c111 hf
    refine lv_aload_n hx hb dX3_openElement_47 rfl (lv_at hl 1 rfl) ?_
    refine lv_iload_n hx hb dX3_openElement_48 rfl (lv_at hl 2 rfl) ?_
    refine lv_aload_n hx hb dX3_openElement_49 rfl (lv_at hl 3 rfl) ?_
    refine lv_iload_n hx hb dX3_openElement_50 rfl (lv_at hl 4 rfl) ?_
    obtain ⟨h113, hf⟩ := o_ite hf
    obtain ⟨μ114, h112, hf⟩ := o_bind hf
    refine pw_goV hw (pw_runV (As := [.int a1, .ref a2, .int a3]) (rest := []) hC mm_X3_startElement tw_949 (c_X3_startElement h112 _) ⟨rfl, rfl, by decide, by decide⟩ hw h113 rfl hl.1 (Nat.le_of_ble_eq_true rfl) ⟨Nat.zero_le _, Nat.zero_le _⟩ rfl dX3_openElement_51) (fun H locs hw => ?_)
    refine lv_aload_n hx hb dX3_openElement_54 rfl (lv_at hl 1 rfl) ?_
    obtain ⟨q115, h116, hf⟩ := o_bind hf
    refine pw_get hC fl_X3_14 hw (rdR_F h116) dX3_openElement_55 ?_
    obtain ⟨v117, h118, hf⟩ := o_bind hf
    refine pw_get hC fl_X3_51 hw (rdI_F h118) dX3_openElement_58 ?_
    refine lv_istore (lv' := [(6, .int v117), (5, .int t0), (0, .ref a0), (1, .int a1), (2, .ref a2), (3, .int a3), (4, .int a4)]) hx hb dX3_openElement_61 hl (by decide) rfl (fun ls hl => ?_)
    refine lv_iload hx hb dX3_openElement_63 (lv_at hl 6 rfl) ?_
    refine lv_if_eq (tgt := 77) hx hb dX3_openElement_65 (by decide) (fun c119 => ?_) (fun c119 => ?_)
    · have hf := o_pos c119 hf
      exact w_X3_openElement_L77 hC hr hlocks _ _ _ _ _ _ _ _ ls (lv_sub hl [2, 3, 4, 5, 0] rfl) hw hf
    · have hf := o_neg c119 hf
      refine lv_aload_n hx hb dX3_openElement_68 rfl (lv_at hl 2 rfl) ?_
      obtain ⟨q120, h121, hf⟩ := o_bind hf
      refine pw_get hC fl_X3_14 hw (rdR_F h121) dX3_openElement_69 ?_
      refine lv_lconst (v := 0) hx hb dX3_openElement_72 (by decide +kernel) ?_
      refine lv_iconst (v := 4) hx hb dX3_openElement_73 nc_iconst_4 ?_
      obtain ⟨h123, hf⟩ := o_ite hf
      obtain ⟨μ124, h122, hf⟩ := o_bind hf
      refine pw_goV hw (pw_runV (As := [.long (0 : Int64), .int 4]) (rest := []) hC mm_X5_appendLowestFirst tw_520 (c_X5_appendLowestFirst h122 _) ⟨rfl, rfl, by decide, by decide⟩ hw h123 rfl hl.1 (Nat.le_of_ble_eq_true rfl) ⟨Nat.zero_le _, Nat.zero_le _⟩ rfl dX3_openElement_74) (fun H locs hw => ?_)
      exact w_X3_openElement_L77 hC hr hlocks _ _ _ _ _ _ _ _ ls (lv_sub hl [2, 3, 4, 5, 0] rfl) hw hf
  · have hf := o_neg c111 hf
    refine lv_iconst (v := 0) hx hb dX3_openElement_45 nc_iconst_0 ?_
    obtain ⟨rfl, rfl⟩ := o_ret hf
    exact pw_zret hC hr hlocks (Or.inl rfl) hw dX3_openElement_46
def f_X3_openElement_L11 (cy : Nat → ClassId) (a0 : Nat) (a1 : Int32) (a2 : Nat) (a3 : Int32) (t0 : Int32) (μ : Mem) : Option (Int32 × Mem) :=
  if t0 = 0 then (f_X3_openElement_L24 cy a0 a1 a2 a3 t0 5 μ) else f_X3_openElement_L24 cy a0 a1 a2 a3 t0 9 μ
set_option maxRecDepth 100000 in
set_option maxHeartbeats 4000000 in
theorem w_X3_openElement_L11 {p : Program} {l : Launch} {e : Env} {s : State} {m : MethodId} {args : Array Value} {below : List Frame} {meth : Method} {c : Code} {A : Nat → Prop} {g : Wg} {L : List Nat} {r : Int32} {μ' : Mem} (hC : CX p m c cX3_openElement 7 s args RX3) (hr : meth.sig.returnType = (some .boolean)) (hlocks : meth.locks = false) : ∀ (a0 : Nat) (a1 : Int32) (a2 : Nat) (a3 : Int32) (t0 : Int32) (μ : Mem) (H : Heap) (locs : List Loc) (ls : Array Slot), lv_has ls 7 [(0, .ref a0), (1, .int a1), (2, .ref a2), (3, .int a3)] → PW g L μ A s H locs → f_X3_openElement_L11 g.2 a0 a1 a2 a3 t0 μ = some (r, μ') → W p l e rm_X3_openElement s m args below meth c H locs 0 0 (MQ below (QI g L A r μ') args s 0 0 A) (F0 m 11 ls [.int t0]) := by
  have hx := hC.1
  have hb := hC.2.1
  intro a0 a1 a2 a3 t0 μ H locs ls hl hw hf
  unfold f_X3_openElement_L11 at hf
  refine lv_istore (lv' := [(4, .int t0), (0, .ref a0), (1, .int a1), (2, .ref a2), (3, .int a3)]) hx hb dX3_openElement_11 hl (by decide) rfl (fun ls hl => ?_)
  refine lv_iload hx hb dX3_openElement_13 (lv_at hl 0 rfl) ?_
  refine lv_if_eq (tgt := 23) hx hb dX3_openElement_15 (by decide) (fun c101 => ?_) (fun c101 => ?_)
  · have hf := o_pos c101 hf
    refine lv_iconst (v := 5) hx hb dX3_openElement_23 nc_iconst_5 ?_
    exact w_X3_openElement_L24 hC hr hlocks _ _ _ _ _ _ _ _ _ ls (lv_sub hl [1, 2, 3, 4, 0] rfl) hw hf
  · have hf := o_neg c101 hf
    refine lv_bipush (v := 9) hx hb dX3_openElement_18 nc_bipush_9 ?_
    refine lv_goto (tgt := 24) hx hb dX3_openElement_20 (by decide) ?_
    exact w_X3_openElement_L24 hC hr hlocks _ _ _ _ _ _ _ _ _ ls (lv_sub hl [1, 2, 3, 4, 0] rfl) hw hf
def f_X3_openElement (cy : Nat → ClassId) (a0 : Nat) (a1 : Int32) (a2 : Nat) (a3 : Int32) (μ : Mem) : Option (Int32 × Mem) :=
  if a1 = 15 then (f_X3_openElement_L11 cy a0 a1 a2 a3 1 μ) else f_X3_openElement_L11 cy a0 a1 a2 a3 0 μ
set_option maxRecDepth 100000 in
set_option maxHeartbeats 4000000 in
theorem c_X3_openElement {l : Launch} {g : Wg} {L : List Nat} {μ : Mem} {a0 : Nat} {a1 : Int32} {a2 : Nat} {a3 : Int32} {r : Int32} {μ' : Mem} (hf : f_X3_openElement g.2 a0 a1 a2 a3 μ = some (r, μ')) : MetI l yX3_openElement cX3_openElement 7 (some .boolean) rm_X3_openElement g L μ [.ref a0, .int a1, .ref a2, .int a3] r μ' := by
  refine pw_met (Qc := fun A => QI g L A r μ') (by decide) (Nat.le_of_ble_eq_true rfl) ?_
  intro p e s m args below meth c A ls H locs hC hr hlocks hl hw
  have hx := hC.1
  have hb := hC.2.1
  have hl : lv_has ls 7 [(0, .ref a0), (1, .int a1), (2, .ref a2), (3, .int a3)] := hl
  unfold f_X3_openElement at hf
  refine lv_iload_n hx hb dX3_openElement_0 rfl (lv_at hl 1 rfl) ?_
  refine lv_bipush (v := 15) hx hb dX3_openElement_1 nc_bipush_15 ?_
  refine lv_icmp_ne (tgt := 10) hx hb dX3_openElement_3 (by decide) (fun c1 => ?_) (fun c1 => ?_)
  · have hf := o_neg c1 hf
    refine lv_iconst (v := 0) hx hb dX3_openElement_10 nc_iconst_0 ?_
    exact w_X3_openElement_L11 hC hr hlocks _ _ _ _ _ _ _ _ ls (lv_sub hl [0, 1, 2, 3] rfl) hw hf
  · have hf := o_pos c1 hf
    refine lv_iconst (v := 1) hx hb dX3_openElement_6 nc_iconst_1 ?_
    refine lv_goto (tgt := 11) hx hb dX3_openElement_7 (by decide) ?_
    exact w_X3_openElement_L11 hC hr hlocks _ _ _ _ _ _ _ _ ls (lv_sub hl [0, 1, 2, 3] rfl) hw hf
