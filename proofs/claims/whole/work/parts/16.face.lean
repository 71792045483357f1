theorem nc_sipush_1980 : (Int16.ofInt 1980).toInt32 = 1980 := by decide +kernel
theorem tw_1 : (Jvm.Cond.initialized "SpanShelves") ∈ tw := tw_t 1 (by decide +kernel) (by decide +kernel)
theorem tw_39 : (Jvm.Cond.fieldLinkNest "SpanShelves" (73 : Nat) "SpanShelves$Span" "size" "I" "SpanShelves") ∈ tw := tw_t 39 (by decide +kernel) (by decide +kernel)
theorem tw_63 : (Jvm.Cond.fieldLinkNest "SpanShelves" (82 : Nat) "SpanShelves$Reader" "fault" "I" "SpanShelves") ∈ tw := tw_t 63 (by decide +kernel) (by decide +kernel)
theorem tw_65 : (Jvm.Cond.fieldLinkNest "SpanShelves" (85 : Nat) "SpanShelves$Reader" "place" "I" "SpanShelves") ∈ tw := tw_t 65 (by decide +kernel) (by decide +kernel)
theorem tw_123 : (Jvm.Cond.fieldLinkNest "SpanShelves" (112 : Nat) "SpanShelves$Cursor" "number" "I" "SpanShelves") ∈ tw := tw_t 123 (by decide +kernel) (by decide +kernel)
theorem tw_154 : (Jvm.Cond.fieldLinkNest "SpanShelves" (308 : Nat) "SpanShelves$Sheet" "bytes" "LSpanShelves$Span;" "SpanShelves") ∈ tw := tw_t 154 (by decide +kernel) (by decide +kernel)
theorem tw_160 : (Jvm.Cond.fieldLinkNest "SpanShelves" (297 : Nat) "SpanShelves$Sheet" "open" "I" "SpanShelves") ∈ tw := tw_t 160 (by decide +kernel) (by decide +kernel)
theorem tw_197 : (Jvm.Cond.fieldLinkNest "SpanShelves" (102 : Nat) "SpanShelves$Shelf" "bytes" "LSpanShelves$Span;" "SpanShelves") ∈ tw := tw_t 197 (by decide +kernel) (by decide +kernel)
theorem tw_199 : (Jvm.Cond.fieldLinkNest "SpanShelves" (105 : Nat) "SpanShelves$Shelf" "cursor" "LSpanShelves$Cursor;" "SpanShelves") ∈ tw := tw_t 199 (by decide +kernel) (by decide +kernel)
theorem tw_286 : (Jvm.Cond.fieldLink "SpanShelves" (14 : Nat) "SpanShelves" "tape" "LSpanShelves$Span;") ∈ tw := tw_t 286 (by decide +kernel) (by decide +kernel)
theorem tw_287 : (Jvm.Cond.fieldLink "SpanShelves" (18 : Nat) "SpanShelves" "given" "LSpanShelves$Span;") ∈ tw := tw_t 287 (by decide +kernel) (by decide +kernel)
theorem tw_289 : (Jvm.Cond.fieldLink "SpanShelves" (27 : Nat) "SpanShelves" "reader" "LSpanShelves$Reader;") ∈ tw := tw_t 289 (by decide +kernel) (by decide +kernel)
theorem tw_292 : (Jvm.Cond.fieldLink "SpanShelves" (47 : Nat) "SpanShelves" "sheet" "LSpanShelves$Sheet;") ∈ tw := tw_t 292 (by decide +kernel) (by decide +kernel)
theorem tw_293 : (Jvm.Cond.fieldLink "SpanShelves" (51 : Nat) "SpanShelves" "faultNumber" "I") ∈ tw := tw_t 293 (by decide +kernel) (by decide +kernel)
theorem tw_294 : (Jvm.Cond.fieldLink "SpanShelves" (55 : Nat) "SpanShelves" "faultPlace" "I") ∈ tw := tw_t 294 (by decide +kernel) (by decide +kernel)
theorem tw_321 : (Jvm.Cond.methodLink "SpanShelves" (76 : Nat) ({ cls := "SpanShelves$Span", name := "appendHighestFirst", desc := "(I)V" } : Jvm.MethodName)) ∈ tw := tw_t 321 (by decide +kernel) (by decide +kernel)
theorem tw_322 : (Jvm.Cond.instanceMethod ({ cls := "SpanShelves$Span", name := "appendHighestFirst", desc := "(I)V" } : Jvm.MethodName)) ∈ tw := tw_t 322 (by decide +kernel) (by decide +kernel)
theorem tw_323 : (Jvm.Cond.selects "SpanShelves$Span" ({ cls := "SpanShelves$Span", name := "appendHighestFirst", desc := "(I)V" } : Jvm.MethodName) ({ cls := "SpanShelves$Span", name := "appendHighestFirst", desc := "(I)V" } : Jvm.MethodName)) ∈ tw := tw_t 323 (by decide +kernel) (by decide +kernel)
theorem tw_324 : (Jvm.Cond.code ({ cls := "SpanShelves$Span", name := "appendHighestFirst", desc := "(I)V" } : Jvm.MethodName) prog_7_method_9_code (3 : Nat) (Option.none : Option Jvm.ClassFile.FieldType)) ∈ tw := tw_t 324 (by decide +kernel) (by decide +kernel)
theorem tw_333 : (Jvm.Cond.methodLink "SpanShelves" (79 : Nat) ({ cls := "SpanShelves$Reader", name := "judgeRoot", desc := "(LSpanShelves$Span;)V" } : Jvm.MethodName)) ∈ tw := tw_t 333 (by decide +kernel) (by decide +kernel)
theorem tw_334 : (Jvm.Cond.instanceMethod ({ cls := "SpanShelves$Reader", name := "judgeRoot", desc := "(LSpanShelves$Span;)V" } : Jvm.MethodName)) ∈ tw := tw_t 334 (by decide +kernel) (by decide +kernel)
theorem tw_335 : (Jvm.Cond.selects "SpanShelves$Reader" ({ cls := "SpanShelves$Reader", name := "judgeRoot", desc := "(LSpanShelves$Span;)V" } : Jvm.MethodName) ({ cls := "SpanShelves$Reader", name := "judgeRoot", desc := "(LSpanShelves$Span;)V" } : Jvm.MethodName)) ∈ tw := tw_t 335 (by decide +kernel) (by decide +kernel)
theorem tw_336 : (Jvm.Cond.code ({ cls := "SpanShelves$Reader", name := "judgeRoot", desc := "(LSpanShelves$Span;)V" } : Jvm.MethodName) prog_4_method_2_code (2 : Nat) (Option.none : Option Jvm.ClassFile.FieldType)) ∈ tw := tw_t 336 (by decide +kernel) (by decide +kernel)
theorem tw_417 : (Jvm.Cond.methodLink "SpanShelves" (88 : Nat) ({ cls := "SpanShelves", name := "keepFault", desc := "(II)V" } : Jvm.MethodName)) ∈ tw := tw_t 417 (by decide +kernel) (by decide +kernel)
theorem tw_419 : (Jvm.Cond.instanceMethod ({ cls := "SpanShelves", name := "keepFault", desc := "(II)V" } : Jvm.MethodName)) ∈ tw := tw_t 419 (by decide +kernel) (by decide +kernel)
theorem tw_420 : (Jvm.Cond.code ({ cls := "SpanShelves", name := "keepFault", desc := "(II)V" } : Jvm.MethodName) prog_1_method_38_code (3 : Nat) (Option.none : Option Jvm.ClassFile.FieldType)) ∈ tw := tw_t 420 (by decide +kernel) (by decide +kernel)
theorem tw_507 : (Jvm.Cond.methodLink "SpanShelves" (290 : Nat) ({ cls := "SpanShelves$Sheet", name := "restart", desc := "()V" } : Jvm.MethodName)) ∈ tw := tw_t 507 (by decide +kernel) (by decide +kernel)
theorem tw_508 : (Jvm.Cond.instanceMethod ({ cls := "SpanShelves$Sheet", name := "restart", desc := "()V" } : Jvm.MethodName)) ∈ tw := tw_t 508 (by decide +kernel) (by decide +kernel)
theorem tw_509 : (Jvm.Cond.selects "SpanShelves$Sheet" ({ cls := "SpanShelves$Sheet", name := "restart", desc := "()V" } : Jvm.MethodName) ({ cls := "SpanShelves$Sheet", name := "restart", desc := "()V" } : Jvm.MethodName)) ∈ tw := tw_t 509 (by decide +kernel) (by decide +kernel)
theorem tw_510 : (Jvm.Cond.code ({ cls := "SpanShelves$Sheet", name := "restart", desc := "()V" } : Jvm.MethodName) prog_5_method_2_code (1 : Nat) (Option.none : Option Jvm.ClassFile.FieldType)) ∈ tw := tw_t 510 (by decide +kernel) (by decide +kernel)
theorem tw_525 : (Jvm.Cond.methodLink "SpanShelves" (327 : Nat) ({ cls := "SpanShelves$Sheet", name := "state", desc := "()I" } : Jvm.MethodName)) ∈ tw := tw_t 525 (by decide +kernel) (by decide +kernel)
theorem tw_526 : (Jvm.Cond.instanceMethod ({ cls := "SpanShelves$Sheet", name := "state", desc := "()I" } : Jvm.MethodName)) ∈ tw := tw_t 526 (by decide +kernel) (by decide +kernel)
theorem tw_527 : (Jvm.Cond.selects "SpanShelves$Sheet" ({ cls := "SpanShelves$Sheet", name := "state", desc := "()I" } : Jvm.MethodName) ({ cls := "SpanShelves$Sheet", name := "state", desc := "()I" } : Jvm.MethodName)) ∈ tw := tw_t 527 (by decide +kernel) (by decide +kernel)
theorem tw_528 : (Jvm.Cond.code ({ cls := "SpanShelves$Sheet", name := "state", desc := "()I" } : Jvm.MethodName) prog_5_method_4_code (1 : Nat) (Option.some Jvm.ClassFile.FieldType.int)) ∈ tw := tw_t 528 (by decide +kernel) (by decide +kernel)
theorem tw_529 : (Jvm.Cond.methodLink "SpanShelves" (330 : Nat) ({ cls := "SpanShelves$Sheet", name := "innermostCount", desc := "()I" } : Jvm.MethodName)) ∈ tw := tw_t 529 (by decide +kernel) (by decide +kernel)
theorem tw_537 : (Jvm.Cond.methodLink "SpanShelves" (160 : Nat) ({ cls := "SpanShelves$Span", name := "at", desc := "(I)I" } : Jvm.MethodName)) ∈ tw := tw_t 537 (by decide +kernel) (by decide +kernel)
theorem tw_555 : (Jvm.Cond.methodLink "SpanShelves" (333 : Nat) ({ cls := "SpanShelves$Span", name := "become", desc := "(LSpanShelves$Span;)V" } : Jvm.MethodName)) ∈ tw := tw_t 555 (by decide +kernel) (by decide +kernel)
theorem tw_556 : (Jvm.Cond.methodLink "SpanShelves" (278 : Nat) ({ cls := "SpanShelves$Span", name := "clear", desc := "()V" } : Jvm.MethodName)) ∈ tw := tw_t 556 (by decide +kernel) (by decide +kernel)
theorem tw_673 : (Jvm.Cond.methodLink "SpanShelves" (157 : Nat) ({ cls := "SpanShelves$Shelf", name := "elementPlace", desc := "()I" } : Jvm.MethodName)) ∈ tw := tw_t 673 (by decide +kernel) (by decide +kernel)
theorem tw_678 : (Jvm.Cond.methodLink "SpanShelves" (164 : Nat) ({ cls := "SpanShelves$Span", name := "behindName", desc := "(I)I" } : Jvm.MethodName)) ∈ tw := tw_t 678 (by decide +kernel) (by decide +kernel)
theorem tw_679 : (Jvm.Cond.methodLink "SpanShelves" (167 : Nat) ({ cls := "SpanShelves$Form", name := "behindValue", desc := "(LSpanShelves$Span;II)I" } : Jvm.MethodName)) ∈ tw := tw_t 679 (by decide +kernel) (by decide +kernel)
theorem twp_14 : (Jvm.Cond.selects "SpanShelves" ({ cls := "SpanShelves", name := "keepFault", desc := "(II)V" } : Jvm.MethodName) ({ cls := "SpanShelves", name := "keepFault", desc := "(II)V" } : Jvm.MethodName)) ∈ tw := tw_p 14 (q := (({ cls := "SpanShelves", name := "keepFault", desc := "(II)V" } : Jvm.MethodName), 10)) (by decide +kernel) (by decide +kernel)
theorem iw_X6 : ∀ w ∈ u_ws RX6 TX6 10, w ∈ tw := fun w h => List.mem_filter.mpr ⟨(show ∀ w ∈ u_ws RX6 TX6 10, w ∈ lw_tbl by decide +kernel) w h, (show ∀ w ∈ u_ws RX6 TX6 10, tw_ok w = true by decide +kernel) w h⟩
theorem fl_X6_14 : FL RX6 14 5 0 := ⟨by decide, RX6, TX6, 10, tyX6, rfl, by decide, rfl, iw_X6, tyX6_ok, nmX6, Or.inl tw_286⟩
theorem fl_X6_18 : FL RX6 18 5 1 := ⟨by decide, RX6, TX6, 10, tyX6, rfl, by decide, rfl, iw_X6, tyX6_ok, nmX6, Or.inl tw_287⟩
theorem fl_X6_27 : FL RX6 27 5 3 := ⟨by decide, RX6, TX6, 10, tyX6, rfl, by decide, rfl, iw_X6, tyX6_ok, nmX6, Or.inl tw_289⟩
theorem fl_X6_47 : FL RX6 47 5 6 := ⟨by decide, RX6, TX6, 10, tyX6, rfl, by decide, rfl, iw_X6, tyX6_ok, nmX6, Or.inl tw_292⟩
theorem fl_X6_51 : FL RX6 51 5 7 := ⟨by decide, RX6, TX6, 10, tyX6, rfl, by decide, rfl, iw_X6, tyX6_ok, nmX6, Or.inl tw_293⟩
theorem fl_X6_55 : FL RX6 55 5 8 := ⟨by decide, RX6, TX6, 10, tyX6, rfl, by decide, rfl, iw_X6, tyX6_ok, nmX6, Or.inl tw_294⟩
theorem fl_X6_73 : FL RX6 73 4 1 := ⟨by decide, RX5, TX5, 3, tyX5, rfl, by decide, rfl, iw_X5, tyX5_ok, nmX5, Or.inr ⟨_, tw_39⟩⟩
theorem fl_X6_82 : FL RX6 82 1 1 := ⟨by decide, RX2, TX2, 12, tyX2, rfl, by decide, rfl, iw_X2, tyX2_ok, nmX2, Or.inr ⟨_, tw_63⟩⟩
theorem fl_X6_85 : FL RX6 85 1 2 := ⟨by decide, RX2, TX2, 12, tyX2, rfl, by decide, rfl, iw_X2, tyX2_ok, nmX2, Or.inr ⟨_, tw_65⟩⟩
theorem fl_X6_102 : FL RX6 102 3 0 := ⟨by decide, RX4, TX4, 7, tyX4, rfl, by decide, rfl, iw_X4, tyX4_ok, nmX4, Or.inr ⟨_, tw_197⟩⟩
theorem fl_X6_105 : FL RX6 105 3 1 := ⟨by decide, RX4, TX4, 7, tyX4, rfl, by decide, rfl, iw_X4, tyX4_ok, nmX4, Or.inr ⟨_, tw_199⟩⟩
theorem fl_X6_112 : FL RX6 112 0 5 := ⟨by decide, RX0, TX0, 8, tyX0, rfl, by decide, rfl, iw_X0, tyX0_ok, nmX0, Or.inr ⟨_, tw_123⟩⟩
theorem fl_X6_297 : FL RX6 297 2 5 := ⟨by decide, RX3, TX3, 7, tyX3, rfl, by decide, rfl, iw_X3, tyX3_ok, nmX3, Or.inr ⟨_, tw_160⟩⟩
theorem fl_X6_308 : FL RX6 308 2 0 := ⟨by decide, RX3, TX3, 7, tyX3, rfl, by decide, rfl, iw_X3, tyX3_ok, nmX3, Or.inr ⟨_, tw_154⟩⟩
theorem fd_X6_7 : ∀ (C : String) (T : u_T) (N : Nat), vwCl[5]? = some (C, T, N) → (T 7).2.2.2 = false ∧ parseFieldDescriptor (T 7).2.2.1 = some .int := by intro C T N h; cases h; exact ⟨rfl, by decide +kernel⟩
theorem fd_X6_8 : ∀ (C : String) (T : u_T) (N : Nat), vwCl[5]? = some (C, T, N) → (T 8).2.2.2 = false ∧ parseFieldDescriptor (T 8).2.2.1 = some .int := by intro C T N h; cases h; exact ⟨rfl, by decide +kernel⟩
theorem mm_X2_judgeRoot : MM 1 yX2_judgeRoot cX2_judgeRoot 2 none 1 := ⟨by decide, RX2, TX2, 12, rfl, tw_334, tw_335, tw_336, tw_4, by decide +kernel, by decide +kernel, by decide +kernel⟩
theorem mm_X3_restart : MM 2 yX3_restart cX3_restart 1 none 0 := ⟨by decide, RX3, TX3, 7, rfl, tw_508, tw_509, tw_510, tw_6, by decide +kernel, by decide +kernel, by decide +kernel⟩
theorem mm_X3_state : MM 2 yX3_state cX3_state 1 (some .int) 0 := ⟨by decide, RX3, TX3, 7, rfl, tw_526, tw_527, tw_528, tw_6, by decide +kernel, by decide +kernel, by decide +kernel⟩
theorem mm_X5_appendHighestFirst : MM 4 yX5_appendHighestFirst cX5_appendHighestFirst 3 none 1 := ⟨by decide, RX5, TX5, 3, rfl, tw_322, tw_323, tw_324, tw_2, by decide +kernel, by decide +kernel, by decide +kernel⟩
theorem mm_X6_keepFault : MM 5 yX6_keepFault cX6_keepFault 3 none 2 := ⟨by decide, RX6, TX6, 10, rfl, tw_419, twp_14, tw_420, tw_1, by decide +kernel, by decide +kernel, by decide +kernel⟩
theorem dX6_keepFault_0 : decode cX6_keepFault 0 = .ok (.aload_n 0, 1) := by decide +kernel
theorem dX6_keepFault_1 : decode cX6_keepFault 1 = .ok (.iload_n 1, 1) := by decide +kernel
theorem dX6_keepFault_2 : decode cX6_keepFault 2 = .ok (.putfield 51, 3) := by decide +kernel
theorem dX6_keepFault_5 : decode cX6_keepFault 5 = .ok (.aload_n 0, 1) := by decide +kernel
theorem dX6_keepFault_6 : decode cX6_keepFault 6 = .ok (.iload_n 2, 1) := by decide +kernel
theorem dX6_keepFault_7 : decode cX6_keepFault 7 = .ok (.putfield 55, 3) := by decide +kernel
theorem dX6_keepFault_10 : decode cX6_keepFault 10 = .ok (.return_, 1) := by decide +kernel
abbrev rm_X6_keepFault : Room := { frames := 0, cells := 0, slots := 0, locals := 0 }
def f_X6_keepFault (cy : Nat → ClassId) (a0 : Nat) (a1 : Int32) (a2 : Int32) (μ : Mem) : Option Mem :=
  (wrF μ a0 5 7 (.int a1)).bind fun μ1 => (wrF μ1 a0 5 8 (.int a2)).bind fun μ3 => some μ3
set_option maxRecDepth 100000 in
set_option maxHeartbeats 4000000 in
theorem c_X6_keepFault {l : Launch} {g : Wg} {L : List Nat} {μ : Mem} {a0 : Nat} {a1 : Int32} {a2 : Int32} {μ' : Mem} (hf : f_X6_keepFault g.2 a0 a1 a2 μ = some μ') : MetV l yX6_keepFault cX6_keepFault 3 none rm_X6_keepFault g L μ [.ref a0, .int a1, .int a2] μ' := by
  refine pw_met (Qc := fun A => QV g L A μ') (by decide) (Nat.le_of_ble_eq_true rfl) ?_
  intro p e s m args below meth c A ls H locs hC hr hlocks hl hw
  have hx := hC.1
  have hb := hC.2.1
  have hl : lv_has ls 3 [(0, .ref a0), (1, .int a1), (2, .int a2)] := hl
  unfold f_X6_keepFault at hf
  refine lv_aload_n hx hb dX6_keepFault_0 rfl (lv_at hl 0 rfl) ?_
  refine lv_iload_n hx hb dX6_keepFault_1 rfl (lv_at hl 1 rfl) ?_
  obtain ⟨μ1, h2, hf⟩ := o_bind hf
  refine pw_put hC fl_X6_51 hw h2 .int fd_X6_7 rfl rfl dX6_keepFault_2 (fun H locs hw => ?_)
  refine lv_aload_n hx hb dX6_keepFault_5 rfl (lv_at hl 0 rfl) ?_
  refine lv_iload_n hx hb dX6_keepFault_6 rfl (lv_at hl 2 rfl) ?_
  obtain ⟨μ3, h4, hf⟩ := o_bind hf
  refine pw_put hC fl_X6_55 hw h4 .int fd_X6_8 rfl rfl dX6_keepFault_7 (fun H locs hw => ?_)
  obtain rfl := o_retv hf
  exact pw_vret hC hr hlocks hw dX6_keepFault_10
theorem dX6_useTapeUp_0 : decode cX6_useTapeUp 0 = .ok (.aload_n 0, 1) := by decide +kernel
theorem dX6_useTapeUp_1 : decode cX6_useTapeUp 1 = .ok (.getfield 18, 3) := by decide +kernel
theorem dX6_useTapeUp_4 : decode cX6_useTapeUp 4 = .ok (.aload_n 0, 1) := by decide +kernel
theorem dX6_useTapeUp_5 : decode cX6_useTapeUp 5 = .ok (.getfield 14, 3) := by decide +kernel
theorem dX6_useTapeUp_8 : decode cX6_useTapeUp 8 = .ok (.invokevirtual 333, 3) := by decide +kernel
theorem dX6_useTapeUp_11 : decode cX6_useTapeUp 11 = .ok (.aload_n 0, 1) := by decide +kernel
theorem dX6_useTapeUp_12 : decode cX6_useTapeUp 12 = .ok (.getfield 14, 3) := by decide +kernel
theorem dX6_useTapeUp_15 : decode cX6_useTapeUp 15 = .ok (.invokevirtual 278, 3) := by decide +kernel
theorem dX6_useTapeUp_18 : decode cX6_useTapeUp 18 = .ok (.return_, 1) := by decide +kernel
abbrev rm_X6_useTapeUp : Room := { frames := 3, cells := 0, slots := 0, locals := 104 }
def f_X6_useTapeUp (cy : Nat → ClassId) (a0 : Nat) (μ : Mem) : Option Mem :=
  (rdR μ a0 5 1).bind fun q1 => (rdR μ a0 5 0).bind fun q3 => if isO μ q1 4 = true then ((f_X5_become cy q1 q3 μ).bind fun μ7 => (rdR μ7 a0 5 0).bind fun q8 => if isO μ7 q8 4 = true then ((f_X5_clear cy q8 μ7).bind fun μ12 => some μ12) else none) else none
set_option maxRecDepth 100000 in
set_option maxHeartbeats 4000000 in
theorem c_X6_useTapeUp {l : Launch} {g : Wg} {L : List Nat} {μ : Mem} {a0 : Nat} {μ' : Mem} (hf : f_X6_useTapeUp g.2 a0 μ = some μ') : MetV l yX6_useTapeUp cX6_useTapeUp 1 none rm_X6_useTapeUp g L μ [.ref a0] μ' := by
  refine pw_met (Qc := fun A => QV g L A μ') (by decide) (Nat.le_of_ble_eq_true rfl) ?_
  intro p e s m args below meth c A ls H locs hC hr hlocks hl hw
  have hx := hC.1
  have hb := hC.2.1
  have hl : lv_has ls 1 [(0, .ref a0)] := hl
  unfold f_X6_useTapeUp at hf
  refine lv_aload_n hx hb dX6_useTapeUp_0 rfl (lv_at hl 0 rfl) ?_
  obtain ⟨q1, h2, hf⟩ := o_bind hf
  refine pw_get hC fl_X6_18 hw (rdR_F h2) dX6_useTapeUp_1 ?_
  refine lv_aload_n hx hb dX6_useTapeUp_4 rfl (lv_at hl 0 rfl) ?_
  obtain ⟨q3, h4, hf⟩ := o_bind hf
  refine pw_get hC fl_X6_14 hw (rdR_F h4) dX6_useTapeUp_5 ?_
  obtain ⟨h6, hf⟩ := o_ite hf
  obtain ⟨μ7, h5, hf⟩ := o_bind hf
  refine pw_goV hw (pw_runV (As := [.ref q3]) (rest := []) hC mm_X5_become tw_555 (c_X5_become h5 _) ⟨rfl, rfl, by decide, by decide⟩ hw h6 rfl hl.1 (Nat.le_of_ble_eq_true rfl) ⟨Nat.zero_le _, Nat.zero_le _⟩ rfl dX6_useTapeUp_8) (fun H locs hw => ?_)
  refine lv_aload_n hx hb dX6_useTapeUp_11 rfl (lv_at hl 0 rfl) ?_
  obtain ⟨q8, h9, hf⟩ := o_bind hf
  refine pw_get hC fl_X6_14 hw (rdR_F h9) dX6_useTapeUp_12 ?_
  obtain ⟨h11, hf⟩ := o_ite hf
  obtain ⟨μ12, h10, hf⟩ := o_bind hf
  refine pw_goV hw (pw_runV (As := []) (rest := []) hC mm_X5_clear tw_556 (c_X5_clear h10 _) ⟨rfl, rfl, by decide, by decide⟩ hw h11 rfl hl.1 (Nat.le_of_ble_eq_true rfl) ⟨Nat.zero_le _, Nat.zero_le _⟩ rfl dX6_useTapeUp_15) (fun H locs hw => ?_)
  obtain rfl := o_retv hf
  exact pw_vret hC hr hlocks hw dX6_useTapeUp_18
theorem dX6_feed_0 : decode cX6_feed 0 = .ok (.aload_n 0, 1) := by decide +kernel
theorem dX6_feed_1 : decode cX6_feed 1 = .ok (.getfield 14, 3) := by decide +kernel
theorem dX6_feed_4 : decode cX6_feed 4 = .ok (.getfield 73, 3) := by decide +kernel
theorem dX6_feed_7 : decode cX6_feed 7 = .ok (.sipush 1980, 3) := by decide +kernel
theorem dX6_feed_10 : decode cX6_feed 10 = .ok (.if_icmp .le 5, 3) := by decide +kernel
theorem dX6_feed_13 : decode cX6_feed 13 = .ok (.iconst (-1), 1) := by decide +kernel
theorem dX6_feed_14 : decode cX6_feed 14 = .ok (.ireturn, 1) := by decide +kernel
theorem dX6_feed_15 : decode cX6_feed 15 = .ok (.aload_n 0, 1) := by decide +kernel
theorem dX6_feed_16 : decode cX6_feed 16 = .ok (.getfield 14, 3) := by decide +kernel
theorem dX6_feed_19 : decode cX6_feed 19 = .ok (.iload_n 1, 1) := by decide +kernel
theorem dX6_feed_20 : decode cX6_feed 20 = .ok (.invokevirtual 76, 3) := by decide +kernel
theorem dX6_feed_23 : decode cX6_feed 23 = .ok (.aload_n 0, 1) := by decide +kernel
theorem dX6_feed_24 : decode cX6_feed 24 = .ok (.getfield 14, 3) := by decide +kernel
theorem dX6_feed_27 : decode cX6_feed 27 = .ok (.iload_n 2, 1) := by decide +kernel
theorem dX6_feed_28 : decode cX6_feed 28 = .ok (.invokevirtual 76, 3) := by decide +kernel
theorem dX6_feed_31 : decode cX6_feed 31 = .ok (.aload_n 0, 1) := by decide +kernel
theorem dX6_feed_32 : decode cX6_feed 32 = .ok (.getfield 14, 3) := by decide +kernel
theorem dX6_feed_35 : decode cX6_feed 35 = .ok (.iload_n 3, 1) := by decide +kernel
theorem dX6_feed_36 : decode cX6_feed 36 = .ok (.invokevirtual 76, 3) := by decide +kernel
theorem dX6_feed_39 : decode cX6_feed 39 = .ok (.aload_n 0, 1) := by decide +kernel
theorem dX6_feed_40 : decode cX6_feed 40 = .ok (.getfield 14, 3) := by decide +kernel
theorem dX6_feed_43 : decode cX6_feed 43 = .ok (.iload 4, 2) := by decide +kernel
theorem dX6_feed_45 : decode cX6_feed 45 = .ok (.invokevirtual 76, 3) := by decide +kernel
theorem dX6_feed_48 : decode cX6_feed 48 = .ok (.aload_n 0, 1) := by decide +kernel
theorem dX6_feed_49 : decode cX6_feed 49 = .ok (.getfield 14, 3) := by decide +kernel
theorem dX6_feed_52 : decode cX6_feed 52 = .ok (.iload 5, 2) := by decide +kernel
theorem dX6_feed_54 : decode cX6_feed 54 = .ok (.invokevirtual 76, 3) := by decide +kernel
theorem dX6_feed_57 : decode cX6_feed 57 = .ok (.aload_n 0, 1) := by decide +kernel
theorem dX6_feed_58 : decode cX6_feed 58 = .ok (.getfield 14, 3) := by decide +kernel
theorem dX6_feed_61 : decode cX6_feed 61 = .ok (.getfield 73, 3) := by decide +kernel
theorem dX6_feed_64 : decode cX6_feed 64 = .ok (.ireturn, 1) := by decide +kernel
abbrev rm_X6_feed : Room := { frames := 2, cells := 0, slots := 0, locals := 43 }
def f_X6_feed (cy : Nat → ClassId) (a0 : Nat) (a1 : Int32) (a2 : Int32) (a3 : Int32) (a4 : Int32) (a5 : Int32) (μ : Mem) : Option (Int32 × Mem) :=
  (rdR μ a0 5 0).bind fun q1 => (rdI μ q1 4 1).bind fun v3 => if v3 ≤ 1980 then ((rdR μ a0 5 0).bind fun q6 => if isO μ q6 4 = true then ((f_X5_appendHighestFirst cy q6 a1 μ).bind fun μ10 => (rdR μ10 a0 5 0).bind fun q11 => if isO μ10 q11 4 = true then ((f_X5_appendHighestFirst cy q11 a2 μ10).bind fun μ15 => (rdR μ15 a0 5 0).bind fun q16 => if isO μ15 q16 4 = true then ((f_X5_appendHighestFirst cy q16 a3 μ15).bind fun μ20 => (rdR μ20 a0 5 0).bind fun q21 => if isO μ20 q21 4 = true then ((f_X5_appendHighestFirst cy q21 a4 μ20).bind fun μ25 => (rdR μ25 a0 5 0).bind fun q26 => if isO μ25 q26 4 = true then ((f_X5_appendHighestFirst cy q26 a5 μ25).bind fun μ30 => (rdR μ30 a0 5 0).bind fun q31 => (rdI μ30 q31 4 1).bind fun v33 => some (v33, μ30)) else none) else none) else none) else none) else none) else some ((-1), μ)
set_option maxRecDepth 100000 in
set_option maxHeartbeats 4000000 in
theorem c_X6_feed {l : Launch} {g : Wg} {L : List Nat} {μ : Mem} {a0 : Nat} {a1 : Int32} {a2 : Int32} {a3 : Int32} {a4 : Int32} {a5 : Int32} {r : Int32} {μ' : Mem} (hf : f_X6_feed g.2 a0 a1 a2 a3 a4 a5 μ = some (r, μ')) : MetI l yX6_feed cX6_feed 6 (some .int) rm_X6_feed g L μ [.ref a0, .int a1, .int a2, .int a3, .int a4, .int a5] r μ' := by
  refine pw_met (Qc := fun A => QI g L A r μ') (by decide) (Nat.le_of_ble_eq_true rfl) ?_
  intro p e s m args below meth c A ls H locs hC hr hlocks hl hw
  have hx := hC.1
  have hb := hC.2.1
  have hl : lv_has ls 6 [(0, .ref a0), (1, .int a1), (2, .int a2), (3, .int a3), (4, .int a4), (5, .int a5)] := hl
  unfold f_X6_feed at hf
  refine lv_aload_n hx hb dX6_feed_0 rfl (lv_at hl 0 rfl) ?_
  obtain ⟨q1, h2, hf⟩ := o_bind hf
  refine pw_get hC fl_X6_14 hw (rdR_F h2) dX6_feed_1 ?_
  obtain ⟨v3, h4, hf⟩ := o_bind hf
  refine pw_get hC fl_X6_73 hw (rdI_F h4) dX6_feed_4 ?_
  refine lv_sipush (v := 1980) hx hb dX6_feed_7 nc_sipush_1980 ?_
  refine lv_icmp_le (tgt := 15) hx hb dX6_feed_10 (by decide) (fun c5 => ?_) (fun c5 => ?_)
  · have hf := o_pos c5 hf
    refine lv_aload_n hx hb dX6_feed_15 rfl (lv_at hl 0 rfl) ?_
    obtain ⟨q6, h7, hf⟩ := o_bind hf
    refine pw_get hC fl_X6_14 hw (rdR_F h7) dX6_feed_16 ?_
    refine lv_iload_n hx hb dX6_feed_19 rfl (lv_at hl 1 rfl) ?_
    obtain ⟨h9, hf⟩ := o_ite hf
    obtain ⟨μ10, h8, hf⟩ := o_bind hf
    refine pw_goV hw (pw_runV (As := [.int a1]) (rest := []) hC mm_X5_appendHighestFirst tw_321 (c_X5_appendHighestFirst h8 _) ⟨rfl, rfl, by decide, by decide⟩ hw h9 rfl hl.1 (Nat.le_of_ble_eq_true rfl) ⟨Nat.zero_le _, Nat.zero_le _⟩ rfl dX6_feed_20) (fun H locs hw => ?_)
    refine lv_aload_n hx hb dX6_feed_23 rfl (lv_at hl 0 rfl) ?_
    obtain ⟨q11, h12, hf⟩ := o_bind hf
    refine pw_get hC fl_X6_14 hw (rdR_F h12) dX6_feed_24 ?_
    refine lv_iload_n hx hb dX6_feed_27 rfl (lv_at hl 2 rfl) ?_
    obtain ⟨h14, hf⟩ := o_ite hf
    obtain ⟨μ15, h13, hf⟩ := o_bind hf
    refine pw_goV hw (pw_runV (As := [.int a2]) (rest := []) hC mm_X5_appendHighestFirst tw_321 (c_X5_appendHighestFirst h13 _) ⟨rfl, rfl, by decide, by decide⟩ hw h14 rfl hl.1 (Nat.le_of_ble_eq_true rfl) ⟨Nat.zero_le _, Nat.zero_le _⟩ rfl dX6_feed_28) (fun H locs hw => ?_)
    refine lv_aload_n hx hb dX6_feed_31 rfl (lv_at hl 0 rfl) ?_
    obtain ⟨q16, h17, hf⟩ := o_bind hf
    refine pw_get hC fl_X6_14 hw (rdR_F h17) dX6_feed_32 ?_
    refine lv_iload_n hx hb dX6_feed_35 rfl (lv_at hl 3 rfl) ?_
    obtain ⟨h19, hf⟩ := o_ite hf
    obtain ⟨μ20, h18, hf⟩ := o_bind hf
    refine pw_goV hw (pw_runV (As := [.int a3]) (rest := []) hC mm_X5_appendHighestFirst tw_321 (c_X5_appendHighestFirst h18 _) ⟨rfl, rfl, by decide, by decide⟩ hw h19 rfl hl.1 (Nat.le_of_ble_eq_true rfl) ⟨Nat.zero_le _, Nat.zero_le _⟩ rfl dX6_feed_36) (fun H locs hw => ?_)
    refine lv_aload_n hx hb dX6_feed_39 rfl (lv_at hl 0 rfl) ?_
    obtain ⟨q21, h22, hf⟩ := o_bind hf
    refine pw_get hC fl_X6_14 hw (rdR_F h22) dX6_feed_40 ?_
    refine lv_iload hx hb dX6_feed_43 (lv_at hl 4 rfl) ?_
    obtain ⟨h24, hf⟩ := o_ite hf
    obtain ⟨μ25, h23, hf⟩ := o_bind hf
    refine pw_goV hw (pw_runV (As := [.int a4]) (rest := []) hC mm_X5_appendHighestFirst tw_321 (c_X5_appendHighestFirst h23 _) ⟨rfl, rfl, by decide, by decide⟩ hw h24 rfl hl.1 (Nat.le_of_ble_eq_true rfl) ⟨Nat.zero_le _, Nat.zero_le _⟩ rfl dX6_feed_45) (fun H locs hw => ?_)
    refine lv_aload_n hx hb dX6_feed_48 rfl (lv_at hl 0 rfl) ?_
    obtain ⟨q26, h27, hf⟩ := o_bind hf
    refine pw_get hC fl_X6_14 hw (rdR_F h27) dX6_feed_49 ?_
    refine lv_iload hx hb dX6_feed_52 (lv_at hl 5 rfl) ?_
    obtain ⟨h29, hf⟩ := o_ite hf
    obtain ⟨μ30, h28, hf⟩ := o_bind hf
    refine pw_goV hw (pw_runV (As := [.int a5]) (rest := []) hC mm_X5_appendHighestFirst tw_321 (c_X5_appendHighestFirst h28 _) ⟨rfl, rfl, by decide, by decide⟩ hw h29 rfl hl.1 (Nat.le_of_ble_eq_true rfl) ⟨Nat.zero_le _, Nat.zero_le _⟩ rfl dX6_feed_54) (fun H locs hw => ?_)
    refine lv_aload_n hx hb dX6_feed_57 rfl (lv_at hl 0 rfl) ?_
    obtain ⟨q31, h32, hf⟩ := o_bind hf
    refine pw_get hC fl_X6_14 hw (rdR_F h32) dX6_feed_58 ?_
    obtain ⟨v33, h34, hf⟩ := o_bind hf
    refine pw_get hC fl_X6_73 hw (rdI_F h34) dX6_feed_61 ?_
    obtain ⟨rfl, rfl⟩ := o_ret hf
    exact pw_iret hC hr hlocks hw dX6_feed_64
  · have hf := o_neg c5 hf
    refine lv_iconst (v := (-1)) hx hb dX6_feed_13 nc_iconst_m1 ?_
    obtain ⟨rfl, rfl⟩ := o_ret hf
    exact pw_iret hC hr hlocks hw dX6_feed_14
theorem dX6_end_0 : decode cX6_end 0 = .ok (.iload_n 1, 1) := by decide +kernel
theorem dX6_end_1 : decode cX6_end 1 = .ok (.ifCond .lt 14, 3) := by decide +kernel
theorem dX6_end_4 : decode cX6_end 4 = .ok (.iload_n 1, 1) := by decide +kernel
theorem dX6_end_5 : decode cX6_end 5 = .ok (.aload_n 0, 1) := by decide +kernel
theorem dX6_end_6 : decode cX6_end 6 = .ok (.getfield 14, 3) := by decide +kernel
theorem dX6_end_9 : decode cX6_end 9 = .ok (.getfield 73, 3) := by decide +kernel
theorem dX6_end_12 : decode cX6_end 12 = .ok (.if_icmp .le 5, 3) := by decide +kernel
theorem dX6_end_15 : decode cX6_end 15 = .ok (.iconst 0, 1) := by decide +kernel
theorem dX6_end_16 : decode cX6_end 16 = .ok (.ireturn, 1) := by decide +kernel
theorem dX6_end_17 : decode cX6_end 17 = .ok (.aload_n 0, 1) := by decide +kernel
theorem dX6_end_18 : decode cX6_end 18 = .ok (.getfield 14, 3) := by decide +kernel
theorem dX6_end_21 : decode cX6_end 21 = .ok (.iload_n 1, 1) := by decide +kernel
theorem dX6_end_22 : decode cX6_end 22 = .ok (.putfield 73, 3) := by decide +kernel
theorem dX6_end_25 : decode cX6_end 25 = .ok (.iconst 1, 1) := by decide +kernel
theorem dX6_end_26 : decode cX6_end 26 = .ok (.ireturn, 1) := by decide +kernel
abbrev rm_X6_end : Room := { frames := 0, cells := 0, slots := 0, locals := 0 }
def f_X6_end_L15 (cy : Nat → ClassId)  (μ : Mem) : Option (Int32 × Mem) :=
  some (0, μ)
set_option maxRecDepth 100000 in
set_option maxHeartbeats 4000000 in
theorem w_X6_end_L15 {p : Program} {l : Launch} {e : Env} {s : State} {m : MethodId} {args : Array Value} {below : List Frame} {meth : Method} {c : Code} {A : Nat → Prop} {g : Wg} {L : List Nat} {r : Int32} {μ' : Mem} (hC : CX p m c cX6_end 2 s args RX6) (hr : meth.sig.returnType = (some .boolean)) (hlocks : meth.locks = false) : ∀  (μ : Mem) (H : Heap) (locs : List Loc) (ls : Array Slot), lv_has ls 2 [] → PW g L μ A s H locs → f_X6_end_L15 g.2  μ = some (r, μ') → W p l e rm_X6_end s m args below meth c H locs 0 0 (MQ below (QI g L A r μ') args s 0 0 A) (F0 m 15 ls []) := by
  have hx := hC.1
  have hb := hC.2.1
  intro  μ H locs ls hl hw hf
  unfold f_X6_end_L15 at hf
  refine lv_iconst (v := 0) hx hb dX6_end_15 nc_iconst_0 ?_
  obtain ⟨rfl, rfl⟩ := o_ret hf
  exact pw_zret hC hr hlocks (Or.inl rfl) hw dX6_end_16
def f_X6_end (cy : Nat → ClassId) (a0 : Nat) (a1 : Int32) (μ : Mem) : Option (Int32 × Mem) :=
  if a1 < 0 then (f_X6_end_L15 cy  μ) else (rdR μ a0 5 0).bind fun q2 => (rdI μ q2 4 1).bind fun v4 => if a1 ≤ v4 then ((rdR μ a0 5 0).bind fun q7 => (wrF μ q7 4 1 (.int a1)).bind fun μ9 => some (1, μ9)) else f_X6_end_L15 cy  μ
set_option maxRecDepth 100000 in
set_option maxHeartbeats 4000000 in
theorem c_X6_end {l : Launch} {g : Wg} {L : List Nat} {μ : Mem} {a0 : Nat} {a1 : Int32} {r : Int32} {μ' : Mem} (hf : f_X6_end g.2 a0 a1 μ = some (r, μ')) : MetI l yX6_end cX6_end 2 (some .boolean) rm_X6_end g L μ [.ref a0, .int a1] r μ' := by
  refine pw_met (Qc := fun A => QI g L A r μ') (by decide) (Nat.le_of_ble_eq_true rfl) ?_
  intro p e s m args below meth c A ls H locs hC hr hlocks hl hw
  have hx := hC.1
  have hb := hC.2.1
  have hl : lv_has ls 2 [(0, .ref a0), (1, .int a1)] := hl
  unfold f_X6_end at hf
  refine lv_iload_n hx hb dX6_end_0 rfl (lv_at hl 1 rfl) ?_
  refine lv_if_lt (tgt := 15) hx hb dX6_end_1 (by decide) (fun c1 => ?_) (fun c1 => ?_)
  · have hf := o_pos c1 hf
    exact w_X6_end_L15 hC hr hlocks  _ _ _ ls (lv_sub hl [] rfl) hw hf
  · have hf := o_neg c1 hf
    refine lv_iload_n hx hb dX6_end_4 rfl (lv_at hl 1 rfl) ?_
    refine lv_aload_n hx hb dX6_end_5 rfl (lv_at hl 0 rfl) ?_
    obtain ⟨q2, h3, hf⟩ := o_bind hf
    refine pw_get hC fl_X6_14 hw (rdR_F h3) dX6_end_6 ?_
    obtain ⟨v4, h5, hf⟩ := o_bind hf
    refine pw_get hC fl_X6_73 hw (rdI_F h5) dX6_end_9 ?_
    refine lv_icmp_le (tgt := 17) hx hb dX6_end_12 (by decide) (fun c6 => ?_) (fun c6 => ?_)
    · have hf := o_pos c6 hf
      refine lv_aload_n hx hb dX6_end_17 rfl (lv_at hl 0 rfl) ?_
      obtain ⟨q7, h8, hf⟩ := o_bind hf
      refine pw_get hC fl_X6_14 hw (rdR_F h8) dX6_end_18 ?_
      refine lv_iload_n hx hb dX6_end_21 rfl (lv_at hl 1 rfl) ?_
      obtain ⟨μ9, h10, hf⟩ := o_bind hf
      refine pw_put hC fl_X6_73 hw h10 .int fd_X5_1 rfl rfl dX6_end_22 (fun H locs hw => ?_)
      refine lv_iconst (v := 1) hx hb dX6_end_25 nc_iconst_1 ?_
      obtain ⟨rfl, rfl⟩ := o_ret hf
      exact pw_zret hC hr hlocks (Or.inr rfl) hw dX6_end_26
    · have hf := o_neg c6 hf
      exact w_X6_end_L15 hC hr hlocks  _ _ _ ls (lv_sub hl [] rfl) hw hf
theorem dX6_fault_0 : decode cX6_fault 0 = .ok (.iload_n 1, 1) := by decide +kernel
theorem dX6_fault_1 : decode cX6_fault 1 = .ok (.lookupswitch 37 #[(0, 27), (1, 32)], 27) := by decide +kernel
theorem dX6_fault_28 : decode cX6_fault 28 = .ok (.aload_n 0, 1) := by decide +kernel
theorem dX6_fault_29 : decode cX6_fault 29 = .ok (.getfield 51, 3) := by decide +kernel
theorem dX6_fault_32 : decode cX6_fault 32 = .ok (.ireturn, 1) := by decide +kernel
theorem dX6_fault_33 : decode cX6_fault 33 = .ok (.aload_n 0, 1) := by decide +kernel
theorem dX6_fault_34 : decode cX6_fault 34 = .ok (.getfield 55, 3) := by decide +kernel
theorem dX6_fault_37 : decode cX6_fault 37 = .ok (.ireturn, 1) := by decide +kernel
theorem dX6_fault_38 : decode cX6_fault 38 = .ok (.iconst (-1), 1) := by decide +kernel
theorem dX6_fault_39 : decode cX6_fault 39 = .ok (.ireturn, 1) := by decide +kernel
abbrev rm_X6_fault : Room := { frames := 0, cells := 0, slots := 0, locals := 0 }
def f_X6_fault (cy : Nat → ClassId) (a0 : Nat) (a1 : Int32) (μ : Mem) : Option (Int32 × Mem) :=
  if a1 = 0 then ((rdI μ a0 5 7).bind fun v2 => some (v2, μ)) else if a1 = 1 then ((rdI μ a0 5 8).bind fun v5 => some (v5, μ)) else if Op.lookupswitch.offset [((0 : Int), (27 : Int)), ((1 : Int), (32 : Int))] 37 (Int32.toInt a1) = 37 then (some ((-1), μ)) else none
set_option maxRecDepth 100000 in
set_option maxHeartbeats 4000000 in
theorem c_X6_fault {l : Launch} {g : Wg} {L : List Nat} {μ : Mem} {a0 : Nat} {a1 : Int32} {r : Int32} {μ' : Mem} (hf : f_X6_fault g.2 a0 a1 μ = some (r, μ')) : MetI l yX6_fault cX6_fault 2 (some .int) rm_X6_fault g L μ [.ref a0, .int a1] r μ' := by
  refine pw_met (Qc := fun A => QI g L A r μ') (by decide) (Nat.le_of_ble_eq_true rfl) ?_
  intro p e s m args below meth c A ls H locs hC hr hlocks hl hw
  have hx := hC.1
  have hb := hC.2.1
  have hl : lv_has ls 2 [(0, .ref a0), (1, .int a1)] := hl
  unfold f_X6_fault at hf
  refine lv_iload_n hx hb dX6_fault_0 rfl (lv_at hl 1 rfl) ?_
  rcases o_if hf with ⟨c1, hf⟩ | ⟨-, hf⟩
  · refine lv_lookup (off := 27) (tgt := 28) hx hb dX6_fault_1 (by decide) (by rw [c1]; decide) (by decide) ?_
    refine lv_aload_n hx hb dX6_fault_28 rfl (lv_at hl 0 rfl) ?_
    obtain ⟨v2, h3, hf⟩ := o_bind hf
    refine pw_get hC fl_X6_51 hw (rdI_F h3) dX6_fault_29 ?_
    obtain ⟨rfl, rfl⟩ := o_ret hf
    exact pw_iret hC hr hlocks hw dX6_fault_32
  · rcases o_if hf with ⟨c4, hf⟩ | ⟨-, hf⟩
    · refine lv_lookup (off := 32) (tgt := 33) hx hb dX6_fault_1 (by decide) (by rw [c4]; decide) (by decide) ?_
      refine lv_aload_n hx hb dX6_fault_33 rfl (lv_at hl 0 rfl) ?_
      obtain ⟨v5, h6, hf⟩ := o_bind hf
      refine pw_get hC fl_X6_55 hw (rdI_F h6) dX6_fault_34 ?_
      obtain ⟨rfl, rfl⟩ := o_ret hf
      exact pw_iret hC hr hlocks hw dX6_fault_37
    · obtain ⟨c7, hf⟩ := o_ite hf
      refine lv_lookup (off := 37) (tgt := 38) hx hb dX6_fault_1 (by decide) c7 (by decide) ?_
      refine lv_iconst (v := (-1)) hx hb dX6_fault_38 nc_iconst_m1 ?_
      obtain ⟨rfl, rfl⟩ := o_ret hf
      exact pw_iret hC hr hlocks hw dX6_fault_39
theorem dX6_lookAtElement_0 : decode cX6_lookAtElement 0 = .ok (.aload_n 0, 1) := by decide +kernel
theorem dX6_lookAtElement_1 : decode cX6_lookAtElement 1 = .ok (.invokevirtual 157, 3) := by decide +kernel
theorem dX6_lookAtElement_4 : decode cX6_lookAtElement 4 = .ok (.istore_n 2, 1) := by decide +kernel
theorem dX6_lookAtElement_5 : decode cX6_lookAtElement 5 = .ok (.aload_n 0, 1) := by decide +kernel
theorem dX6_lookAtElement_6 : decode cX6_lookAtElement 6 = .ok (.getfield 102, 3) := by decide +kernel
theorem dX6_lookAtElement_9 : decode cX6_lookAtElement 9 = .ok (.iload_n 2, 1) := by decide +kernel
theorem dX6_lookAtElement_10 : decode cX6_lookAtElement 10 = .ok (.invokevirtual 160, 3) := by decide +kernel
theorem dX6_lookAtElement_13 : decode cX6_lookAtElement 13 = .ok (.istore_n 3, 1) := by decide +kernel
theorem dX6_lookAtElement_14 : decode cX6_lookAtElement 14 = .ok (.aload_n 0, 1) := by decide +kernel
theorem dX6_lookAtElement_15 : decode cX6_lookAtElement 15 = .ok (.getfield 102, 3) := by decide +kernel
theorem dX6_lookAtElement_18 : decode cX6_lookAtElement 18 = .ok (.iload_n 2, 1) := by decide +kernel
theorem dX6_lookAtElement_19 : decode cX6_lookAtElement 19 = .ok (.iconst 1, 1) := by decide +kernel
theorem dX6_lookAtElement_20 : decode cX6_lookAtElement 20 = .ok (.iadd, 1) := by decide +kernel
theorem dX6_lookAtElement_21 : decode cX6_lookAtElement 21 = .ok (.invokevirtual 164, 3) := by decide +kernel
theorem dX6_lookAtElement_24 : decode cX6_lookAtElement 24 = .ok (.istore 4, 2) := by decide +kernel
theorem dX6_lookAtElement_26 : decode cX6_lookAtElement 26 = .ok (.iload_n 1, 1) := by decide +kernel
theorem dX6_lookAtElement_27 : decode cX6_lookAtElement 27 = .ok (.tableswitch 73 5 10 #[37, 45, 47, 49, 56, 59], 37) := by decide +kernel
theorem dX6_lookAtElement_64 : decode cX6_lookAtElement 64 = .ok (.aload_n 0, 1) := by decide +kernel
theorem dX6_lookAtElement_65 : decode cX6_lookAtElement 65 = .ok (.getfield 105, 3) := by decide +kernel
theorem dX6_lookAtElement_68 : decode cX6_lookAtElement 68 = .ok (.getfield 112, 3) := by decide +kernel
theorem dX6_lookAtElement_71 : decode cX6_lookAtElement 71 = .ok (.ireturn, 1) := by decide +kernel
theorem dX6_lookAtElement_72 : decode cX6_lookAtElement 72 = .ok (.iload_n 2, 1) := by decide +kernel
theorem dX6_lookAtElement_73 : decode cX6_lookAtElement 73 = .ok (.ireturn, 1) := by decide +kernel
theorem dX6_lookAtElement_74 : decode cX6_lookAtElement 74 = .ok (.iload_n 3, 1) := by decide +kernel
theorem dX6_lookAtElement_75 : decode cX6_lookAtElement 75 = .ok (.ireturn, 1) := by decide +kernel
theorem dX6_lookAtElement_76 : decode cX6_lookAtElement 76 = .ok (.iload 4, 2) := by decide +kernel
theorem dX6_lookAtElement_78 : decode cX6_lookAtElement 78 = .ok (.iload_n 2, 1) := by decide +kernel
theorem dX6_lookAtElement_79 : decode cX6_lookAtElement 79 = .ok (.isub, 1) := by decide +kernel
theorem dX6_lookAtElement_80 : decode cX6_lookAtElement 80 = .ok (.iconst 2, 1) := by decide +kernel
theorem dX6_lookAtElement_81 : decode cX6_lookAtElement 81 = .ok (.isub, 1) := by decide +kernel
theorem dX6_lookAtElement_82 : decode cX6_lookAtElement 82 = .ok (.ireturn, 1) := by decide +kernel
theorem dX6_lookAtElement_83 : decode cX6_lookAtElement 83 = .ok (.iload 4, 2) := by decide +kernel
theorem dX6_lookAtElement_85 : decode cX6_lookAtElement 85 = .ok (.ireturn, 1) := by decide +kernel
theorem dX6_lookAtElement_86 : decode cX6_lookAtElement 86 = .ok (.aload_n 0, 1) := by decide +kernel
theorem dX6_lookAtElement_87 : decode cX6_lookAtElement 87 = .ok (.getfield 102, 3) := by decide +kernel
theorem dX6_lookAtElement_90 : decode cX6_lookAtElement 90 = .ok (.iload_n 3, 1) := by decide +kernel
theorem dX6_lookAtElement_91 : decode cX6_lookAtElement 91 = .ok (.iload 4, 2) := by decide +kernel
theorem dX6_lookAtElement_93 : decode cX6_lookAtElement 93 = .ok (.invokestatic 167, 3) := by decide +kernel
theorem dX6_lookAtElement_96 : decode cX6_lookAtElement 96 = .ok (.iload 4, 2) := by decide +kernel
theorem dX6_lookAtElement_98 : decode cX6_lookAtElement 98 = .ok (.isub, 1) := by decide +kernel
theorem dX6_lookAtElement_99 : decode cX6_lookAtElement 99 = .ok (.ireturn, 1) := by decide +kernel
theorem dX6_lookAtElement_100 : decode cX6_lookAtElement 100 = .ok (.iconst (-1), 1) := by decide +kernel
theorem dX6_lookAtElement_101 : decode cX6_lookAtElement 101 = .ok (.ireturn, 1) := by decide +kernel
abbrev rm_X6_lookAtElement : Room := { frames := 3, cells := 0, slots := 0, locals := 67 }
def f_X6_lookAtElement (cy : Nat → ClassId) (a0 : Nat) (a1 : Int32) (μ : Mem) : Option (Int32 × Mem) :=
  if isO μ a0 3 = true then (ob2 (f_X4_elementPlace cy a0 μ) fun r4 μ3 => (rdR μ3 a0 3 0).bind fun q5 => if isO μ3 q5 4 = true then (ob2 (f_X5_at cy q5 r4 μ3) fun r10 μ9 => (rdR μ9 a0 3 0).bind fun q11 => if isO μ9 q11 4 = true then (ob2 (f_X5_behindName cy q11 (r4 + 1) μ9) fun r16 μ15 => if Int32.toInt a1 < 5 ∨ 10 < Int32.toInt a1 then (some ((-1), μ15)) else if a1 = 5 then ((rdR μ15 a0 3 1).bind fun q19 => (rdI μ15 q19 0 5).bind fun v21 => some (v21, μ15)) else if a1 = 6 then (some (r4, μ15)) else if a1 = 7 then (some (r10, μ15)) else if a1 = 8 then (some (((r16 - r4) - 2), μ15)) else if a1 = 9 then (some (r16, μ15)) else if a1 = 10 then ((rdR μ15 a0 3 0).bind fun q28 => ob2 (f_X1_behindValue cy q28 r10 r16 μ15) fun r32 μ31 => some ((r32 - r16), μ31)) else none) else none) else none) else none
set_option maxRecDepth 100000 in
set_option maxHeartbeats 4000000 in
theorem c_X6_lookAtElement {l : Launch} {g : Wg} {L : List Nat} {μ : Mem} {a0 : Nat} {a1 : Int32} {r : Int32} {μ' : Mem} (hf : f_X6_lookAtElement g.2 a0 a1 μ = some (r, μ')) : MetI l yX6_lookAtElement cX6_lookAtElement 5 (some .int) rm_X6_lookAtElement g L μ [.ref a0, .int a1] r μ' := by
  refine pw_met (Qc := fun A => QI g L A r μ') (by decide) (Nat.le_of_ble_eq_true rfl) ?_
  intro p e s m args below meth c A ls H locs hC hr hlocks hl hw
  have hx := hC.1
  have hb := hC.2.1
  have hl : lv_has ls 5 [(0, .ref a0), (1, .int a1)] := hl
  unfold f_X6_lookAtElement at hf
  refine lv_aload_n hx hb dX6_lookAtElement_0 rfl (lv_at hl 0 rfl) ?_
  obtain ⟨h2, hf⟩ := o_ite hf
  obtain ⟨r4, μ3, h1, hf⟩ := o_bind2 hf
  refine pw_goI hw (pw_runV (As := []) (rest := []) hC mm_X4_elementPlace tw_673 (c_X4_elementPlace h1 _) ⟨rfl, rfl, by decide, by decide⟩ hw h2 rfl hl.1 (Nat.le_of_ble_eq_true rfl) ⟨Nat.zero_le _, Nat.zero_le _⟩ rfl dX6_lookAtElement_1) (fun H locs hw => ?_)
  refine lv_istore_n (lv' := [(2, .int r4), (0, .ref a0), (1, .int a1)]) hx hb dX6_lookAtElement_4 rfl hl (by decide) rfl (fun ls hl => ?_)
  refine lv_aload_n hx hb dX6_lookAtElement_5 rfl (lv_at hl 1 rfl) ?_
  obtain ⟨q5, h6, hf⟩ := o_bind hf
  refine pw_get hC fl_X6_102 hw (rdR_F h6) dX6_lookAtElement_6 ?_
  refine lv_iload_n hx hb dX6_lookAtElement_9 rfl (lv_at hl 0 rfl) ?_
  obtain ⟨h8, hf⟩ := o_ite hf
  obtain ⟨r10, μ9, h7, hf⟩ := o_bind2 hf
  refine pw_goI hw (pw_runV (As := [.int r4]) (rest := []) hC mm_X5_at tw_537 (c_X5_at h7 _) ⟨rfl, rfl, by decide, by decide⟩ hw h8 rfl hl.1 (Nat.le_of_ble_eq_true rfl) ⟨Nat.zero_le _, Nat.zero_le _⟩ rfl dX6_lookAtElement_10) (fun H locs hw => ?_)
  refine lv_istore_n (lv' := [(3, .int r10), (2, .int r4), (0, .ref a0), (1, .int a1)]) hx hb dX6_lookAtElement_13 rfl hl (by decide) rfl (fun ls hl => ?_)
  refine lv_aload_n hx hb dX6_lookAtElement_14 rfl (lv_at hl 2 rfl) ?_
  obtain ⟨q11, h12, hf⟩ := o_bind hf
  refine pw_get hC fl_X6_102 hw (rdR_F h12) dX6_lookAtElement_15 ?_
  refine lv_iload_n hx hb dX6_lookAtElement_18 rfl (lv_at hl 1 rfl) ?_
  refine lv_iconst (v := 1) hx hb dX6_lookAtElement_19 nc_iconst_1 ?_
  refine lv_iadd hx hb dX6_lookAtElement_20 ?_
  obtain ⟨h14, hf⟩ := o_ite hf
  obtain ⟨r16, μ15, h13, hf⟩ := o_bind2 hf
  refine pw_goI hw (pw_runV (As := [.int (r4 + 1)]) (rest := []) hC mm_X5_behindName tw_678 (c_X5_behindName h13 _) ⟨rfl, rfl, by decide, by decide⟩ hw h14 rfl hl.1 (Nat.le_of_ble_eq_true rfl) ⟨Nat.zero_le _, Nat.zero_le _⟩ rfl dX6_lookAtElement_21) (fun H locs hw => ?_)
  refine lv_istore (lv' := [(4, .int r16), (3, .int r10), (2, .int r4), (0, .ref a0), (1, .int a1)]) hx hb dX6_lookAtElement_24 hl (by decide) rfl (fun ls hl => ?_)
  refine lv_iload_n hx hb dX6_lookAtElement_26 rfl (lv_at hl 4 rfl) ?_
  rcases o_if hf with ⟨c17, hf⟩ | ⟨c17, hf⟩
  · refine lv_tableOut (tgt := 100) hx hb dX6_lookAtElement_27 c17 (by decide) ?_
    refine lv_iconst (v := (-1)) hx hb dX6_lookAtElement_100 nc_iconst_m1 ?_
    obtain ⟨rfl, rfl⟩ := o_ret hf
    exact pw_iret hC hr hlocks hw dX6_lookAtElement_101
  · rcases o_if hf with ⟨c18, hf⟩ | ⟨-, hf⟩
    · refine lv_tableIn (tgt := 64) hx hb dX6_lookAtElement_27 (by rw [c18]; decide) (by rw [c18]; decide) (by rw [c18]; rfl) (by decide) ?_
      refine lv_aload_n hx hb dX6_lookAtElement_64 rfl (lv_at hl 3 rfl) ?_
      obtain ⟨q19, h20, hf⟩ := o_bind hf
      refine pw_get hC fl_X6_105 hw (rdR_F h20) dX6_lookAtElement_65 ?_
      obtain ⟨v21, h22, hf⟩ := o_bind hf
      refine pw_get hC fl_X6_112 hw (rdI_F h22) dX6_lookAtElement_68 ?_
      obtain ⟨rfl, rfl⟩ := o_ret hf
      exact pw_iret hC hr hlocks hw dX6_lookAtElement_71
    · rcases o_if hf with ⟨c23, hf⟩ | ⟨-, hf⟩
      · refine lv_tableIn (tgt := 72) hx hb dX6_lookAtElement_27 (by rw [c23]; decide) (by rw [c23]; decide) (by rw [c23]; rfl) (by decide) ?_
        refine lv_iload_n hx hb dX6_lookAtElement_72 rfl (lv_at hl 2 rfl) ?_
        obtain ⟨rfl, rfl⟩ := o_ret hf
        exact pw_iret hC hr hlocks hw dX6_lookAtElement_73
      · rcases o_if hf with ⟨c24, hf⟩ | ⟨-, hf⟩
        · refine lv_tableIn (tgt := 74) hx hb dX6_lookAtElement_27 (by rw [c24]; decide) (by rw [c24]; decide) (by rw [c24]; rfl) (by decide) ?_
          refine lv_iload_n hx hb dX6_lookAtElement_74 rfl (lv_at hl 1 rfl) ?_
          obtain ⟨rfl, rfl⟩ := o_ret hf
          exact pw_iret hC hr hlocks hw dX6_lookAtElement_75
        · rcases o_if hf with ⟨c25, hf⟩ | ⟨-, hf⟩
          · refine lv_tableIn (tgt := 76) hx hb dX6_lookAtElement_27 (by rw [c25]; decide) (by rw [c25]; decide) (by rw [c25]; rfl) (by decide) ?_
            refine lv_iload hx hb dX6_lookAtElement_76 (lv_at hl 0 rfl) ?_
            refine lv_iload_n hx hb dX6_lookAtElement_78 rfl (lv_at hl 2 rfl) ?_
            refine lv_isub hx hb dX6_lookAtElement_79 ?_
            refine lv_iconst (v := 2) hx hb dX6_lookAtElement_80 nc_iconst_2 ?_
            refine lv_isub hx hb dX6_lookAtElement_81 ?_
            obtain ⟨rfl, rfl⟩ := o_ret hf
            exact pw_iret hC hr hlocks hw dX6_lookAtElement_82
          · rcases o_if hf with ⟨c26, hf⟩ | ⟨-, hf⟩
            · refine lv_tableIn (tgt := 83) hx hb dX6_lookAtElement_27 (by rw [c26]; decide) (by rw [c26]; decide) (by rw [c26]; rfl) (by decide) ?_
              refine lv_iload hx hb dX6_lookAtElement_83 (lv_at hl 0 rfl) ?_
              obtain ⟨rfl, rfl⟩ := o_ret hf
              exact pw_iret hC hr hlocks hw dX6_lookAtElement_85
            · rcases o_if hf with ⟨c27, hf⟩ | ⟨-, hf⟩
              · refine lv_tableIn (tgt := 86) hx hb dX6_lookAtElement_27 (by rw [c27]; decide) (by rw [c27]; decide) (by rw [c27]; rfl) (by decide) ?_
                refine lv_aload_n hx hb dX6_lookAtElement_86 rfl (lv_at hl 3 rfl) ?_
                obtain ⟨q28, h29, hf⟩ := o_bind hf
                refine pw_get hC fl_X6_102 hw (rdR_F h29) dX6_lookAtElement_87 ?_
                refine lv_iload_n hx hb dX6_lookAtElement_90 rfl (lv_at hl 1 rfl) ?_
                refine lv_iload hx hb dX6_lookAtElement_91 (lv_at hl 0 rfl) ?_
                obtain ⟨r32, μ31, h30, hf⟩ := o_bind2 hf
                refine pw_goI hw (pw_runS (As := [.ref q28, .int r10, .int r16]) (rest := []) hC mm_X1_behindValue tw_679 (c_X1_behindValue h30 _) ⟨rfl, rfl, by decide, by decide⟩ hw rfl hl.1 (Nat.le_of_ble_eq_true rfl) ⟨Nat.zero_le _, Nat.zero_le _⟩ rfl dX6_lookAtElement_93) (fun H locs hw => ?_)
                refine lv_iload hx hb dX6_lookAtElement_96 (lv_at hl 0 rfl) ?_
                refine lv_isub hx hb dX6_lookAtElement_98 ?_
                obtain ⟨rfl, rfl⟩ := o_ret hf
                exact pw_iret hC hr hlocks hw dX6_lookAtElement_99
              · cases hf
theorem dX6_begin_0 : decode cX6_begin 0 = .ok (.aload_n 0, 1) := by decide +kernel
theorem dX6_begin_1 : decode cX6_begin 1 = .ok (.getfield 47, 3) := by decide +kernel
theorem dX6_begin_4 : decode cX6_begin 4 = .ok (.invokevirtual 290, 3) := by decide +kernel
theorem dX6_begin_7 : decode cX6_begin 7 = .ok (.return_, 1) := by decide +kernel
abbrev rm_X6_begin : Room := { frames := 4, cells := 0, slots := 0, locals := 87 }
def f_X6_begin (cy : Nat → ClassId) (a0 : Nat) (μ : Mem) : Option Mem :=
  (rdR μ a0 5 6).bind fun q1 => if isO μ q1 2 = true then ((f_X3_restart cy q1 μ).bind fun μ5 => some μ5) else none
set_option maxRecDepth 100000 in
set_option maxHeartbeats 4000000 in
theorem c_X6_begin {l : Launch} {g : Wg} {L : List Nat} {μ : Mem} {a0 : Nat} {μ' : Mem} (hf : f_X6_begin g.2 a0 μ = some μ') : MetV l yX6_begin cX6_begin 1 none rm_X6_begin g L μ [.ref a0] μ' := by
  refine pw_met (Qc := fun A => QV g L A μ') (by decide) (Nat.le_of_ble_eq_true rfl) ?_
  intro p e s m args below meth c A ls H locs hC hr hlocks hl hw
  have hx := hC.1
  have hb := hC.2.1
  have hl : lv_has ls 1 [(0, .ref a0)] := hl
  unfold f_X6_begin at hf
  refine lv_aload_n hx hb dX6_begin_0 rfl (lv_at hl 0 rfl) ?_
  obtain ⟨q1, h2, hf⟩ := o_bind hf
  refine pw_get hC fl_X6_47 hw (rdR_F h2) dX6_begin_1 ?_
  obtain ⟨h4, hf⟩ := o_ite hf
  obtain ⟨μ5, h3, hf⟩ := o_bind hf
  refine pw_goV hw (pw_runV (As := []) (rest := []) hC mm_X3_restart tw_507 (c_X3_restart h3 _) ⟨rfl, rfl, by decide, by decide⟩ hw h4 rfl hl.1 (Nat.le_of_ble_eq_true rfl) ⟨Nat.zero_le _, Nat.zero_le _⟩ rfl dX6_begin_4) (fun H locs hw => ?_)
  obtain rfl := o_retv hf
  exact pw_vret hC hr hlocks hw dX6_begin_7
theorem dX6_sheet_0 : decode cX6_sheet 0 = .ok (.iload_n 1, 1) := by decide +kernel
theorem dX6_sheet_1 : decode cX6_sheet 1 = .ok (.tableswitch 66 0 3 #[31, 39, 50, 58], 31) := by decide +kernel
theorem dX6_sheet_32 : decode cX6_sheet 32 = .ok (.aload_n 0, 1) := by decide +kernel
theorem dX6_sheet_33 : decode cX6_sheet 33 = .ok (.getfield 47, 3) := by decide +kernel
theorem dX6_sheet_36 : decode cX6_sheet 36 = .ok (.invokevirtual 327, 3) := by decide +kernel
theorem dX6_sheet_39 : decode cX6_sheet 39 = .ok (.ireturn, 1) := by decide +kernel
theorem dX6_sheet_40 : decode cX6_sheet 40 = .ok (.aload_n 0, 1) := by decide +kernel
theorem dX6_sheet_41 : decode cX6_sheet 41 = .ok (.getfield 47, 3) := by decide +kernel
theorem dX6_sheet_44 : decode cX6_sheet 44 = .ok (.getfield 308, 3) := by decide +kernel
theorem dX6_sheet_47 : decode cX6_sheet 47 = .ok (.getfield 73, 3) := by decide +kernel
theorem dX6_sheet_50 : decode cX6_sheet 50 = .ok (.ireturn, 1) := by decide +kernel
theorem dX6_sheet_51 : decode cX6_sheet 51 = .ok (.aload_n 0, 1) := by decide +kernel
theorem dX6_sheet_52 : decode cX6_sheet 52 = .ok (.getfield 47, 3) := by decide +kernel
theorem dX6_sheet_55 : decode cX6_sheet 55 = .ok (.getfield 297, 3) := by decide +kernel
theorem dX6_sheet_58 : decode cX6_sheet 58 = .ok (.ireturn, 1) := by decide +kernel
theorem dX6_sheet_59 : decode cX6_sheet 59 = .ok (.aload_n 0, 1) := by decide +kernel
theorem dX6_sheet_60 : decode cX6_sheet 60 = .ok (.getfield 47, 3) := by decide +kernel
theorem dX6_sheet_63 : decode cX6_sheet 63 = .ok (.invokevirtual 330, 3) := by decide +kernel
theorem dX6_sheet_66 : decode cX6_sheet 66 = .ok (.ireturn, 1) := by decide +kernel
theorem dX6_sheet_67 : decode cX6_sheet 67 = .ok (.iconst (-1), 1) := by decide +kernel
theorem dX6_sheet_68 : decode cX6_sheet 68 = .ok (.ireturn, 1) := by decide +kernel
abbrev rm_X6_sheet : Room := { frames := 1, cells := 0, slots := 0, locals := 20 }
def f_X6_sheet (cy : Nat → ClassId) (a0 : Nat) (a1 : Int32) (μ : Mem) : Option (Int32 × Mem) :=
  if Int32.toInt a1 < 0 ∨ 3 < Int32.toInt a1 then (some ((-1), μ)) else if a1 = 0 then ((rdR μ a0 5 6).bind fun q3 => if isO μ q3 2 = true then (ob2 (f_X3_state cy q3 μ) fun r8 μ7 => some (r8, μ7)) else none) else if a1 = 1 then ((rdR μ a0 5 6).bind fun q10 => (rdR μ q10 2 0).bind fun q12 => (rdI μ q12 4 1).bind fun v14 => some (v14, μ)) else if a1 = 2 then ((rdR μ a0 5 6).bind fun q17 => (rdI μ q17 2 5).bind fun v19 => some (v19, μ)) else if a1 = 3 then ((rdR μ a0 5 6).bind fun q22 => if isO μ q22 2 = true then (ob2 (f_X3_innermostCount cy q22 μ) fun r27 μ26 => some (r27, μ26)) else none) else none
set_option maxRecDepth 100000 in
set_option maxHeartbeats 4000000 in
theorem c_X6_sheet {l : Launch} {g : Wg} {L : List Nat} {μ : Mem} {a0 : Nat} {a1 : Int32} {r : Int32} {μ' : Mem} (hf : f_X6_sheet g.2 a0 a1 μ = some (r, μ')) : MetI l yX6_sheet cX6_sheet 2 (some .int) rm_X6_sheet g L μ [.ref a0, .int a1] r μ' := by
  refine pw_met (Qc := fun A => QI g L A r μ') (by decide) (Nat.le_of_ble_eq_true rfl) ?_
  intro p e s m args below meth c A ls H locs hC hr hlocks hl hw
  have hx := hC.1
  have hb := hC.2.1
  have hl : lv_has ls 2 [(0, .ref a0), (1, .int a1)] := hl
  unfold f_X6_sheet at hf
  refine lv_iload_n hx hb dX6_sheet_0 rfl (lv_at hl 1 rfl) ?_
  rcases o_if hf with ⟨c1, hf⟩ | ⟨c1, hf⟩
  · refine lv_tableOut (tgt := 67) hx hb dX6_sheet_1 c1 (by decide) ?_
    refine lv_iconst (v := (-1)) hx hb dX6_sheet_67 nc_iconst_m1 ?_
    obtain ⟨rfl, rfl⟩ := o_ret hf
    exact pw_iret hC hr hlocks hw dX6_sheet_68
  · rcases o_if hf with ⟨c2, hf⟩ | ⟨-, hf⟩
    · refine lv_tableIn (tgt := 32) hx hb dX6_sheet_1 (by rw [c2]; decide) (by rw [c2]; decide) (by rw [c2]; rfl) (by decide) ?_
      refine lv_aload_n hx hb dX6_sheet_32 rfl (lv_at hl 0 rfl) ?_
      obtain ⟨q3, h4, hf⟩ := o_bind hf
      refine pw_get hC fl_X6_47 hw (rdR_F h4) dX6_sheet_33 ?_
      obtain ⟨h6, hf⟩ := o_ite hf
      obtain ⟨r8, μ7, h5, hf⟩ := o_bind2 hf
      refine pw_goI hw (pw_runV (As := []) (rest := []) hC mm_X3_state tw_525 (c_X3_state h5 _) ⟨rfl, rfl, by decide, by decide⟩ hw h6 rfl hl.1 (Nat.le_of_ble_eq_true rfl) ⟨Nat.zero_le _, Nat.zero_le _⟩ rfl dX6_sheet_36) (fun H locs hw => ?_)
      obtain ⟨rfl, rfl⟩ := o_ret hf
      exact pw_iret hC hr hlocks hw dX6_sheet_39
    · rcases o_if hf with ⟨c9, hf⟩ | ⟨-, hf⟩
      · refine lv_tableIn (tgt := 40) hx hb dX6_sheet_1 (by rw [c9]; decide) (by rw [c9]; decide) (by rw [c9]; rfl) (by decide) ?_
        refine lv_aload_n hx hb dX6_sheet_40 rfl (lv_at hl 0 rfl) ?_
        obtain ⟨q10, h11, hf⟩ := o_bind hf
        refine pw_get hC fl_X6_47 hw (rdR_F h11) dX6_sheet_41 ?_
        obtain ⟨q12, h13, hf⟩ := o_bind hf
        refine pw_get hC fl_X6_308 hw (rdR_F h13) dX6_sheet_44 ?_
        obtain ⟨v14, h15, hf⟩ := o_bind hf
        refine pw_get hC fl_X6_73 hw (rdI_F h15) dX6_sheet_47 ?_
        obtain ⟨rfl, rfl⟩ := o_ret hf
        exact pw_iret hC hr hlocks hw dX6_sheet_50
      · rcases o_if hf with ⟨c16, hf⟩ | ⟨-, hf⟩
        · refine lv_tableIn (tgt := 51) hx hb dX6_sheet_1 (by rw [c16]; decide) (by rw [c16]; decide) (by rw [c16]; rfl) (by decide) ?_
          refine lv_aload_n hx hb dX6_sheet_51 rfl (lv_at hl 0 rfl) ?_
          obtain ⟨q17, h18, hf⟩ := o_bind hf
          refine pw_get hC fl_X6_47 hw (rdR_F h18) dX6_sheet_52 ?_
          obtain ⟨v19, h20, hf⟩ := o_bind hf
          refine pw_get hC fl_X6_297 hw (rdI_F h20) dX6_sheet_55 ?_
          obtain ⟨rfl, rfl⟩ := o_ret hf
          exact pw_iret hC hr hlocks hw dX6_sheet_58
        · rcases o_if hf with ⟨c21, hf⟩ | ⟨-, hf⟩
          · refine lv_tableIn (tgt := 59) hx hb dX6_sheet_1 (by rw [c21]; decide) (by rw [c21]; decide) (by rw [c21]; rfl) (by decide) ?_
            refine lv_aload_n hx hb dX6_sheet_59 rfl (lv_at hl 0 rfl) ?_
            obtain ⟨q22, h23, hf⟩ := o_bind hf
            refine pw_get hC fl_X6_47 hw (rdR_F h23) dX6_sheet_60 ?_
            obtain ⟨h25, hf⟩ := o_ite hf
            obtain ⟨r27, μ26, h24, hf⟩ := o_bind2 hf
            refine pw_goI hw (pw_runV (As := []) (rest := []) hC mm_X3_innermostCount tw_529 (c_X3_innermostCount h24 _) ⟨rfl, rfl, by decide, by decide⟩ hw h25 rfl hl.1 (Nat.le_of_ble_eq_true rfl) ⟨Nat.zero_le _, Nat.zero_le _⟩ rfl dX6_sheet_63) (fun H locs hw => ?_)
            obtain ⟨rfl, rfl⟩ := o_ret hf
            exact pw_iret hC hr hlocks hw dX6_sheet_66
          · cases hf
theorem dX6_sheetAt_0 : decode cX6_sheetAt 0 = .ok (.iload_n 1, 1) := by decide +kernel
theorem dX6_sheetAt_1 : decode cX6_sheetAt 1 = .ok (.ifCond .lt 17, 3) := by decide +kernel
theorem dX6_sheetAt_4 : decode cX6_sheetAt 4 = .ok (.iload_n 1, 1) := by decide +kernel
theorem dX6_sheetAt_5 : decode cX6_sheetAt 5 = .ok (.aload_n 0, 1) := by decide +kernel
theorem dX6_sheetAt_6 : decode cX6_sheetAt 6 = .ok (.getfield 47, 3) := by decide +kernel
theorem dX6_sheetAt_9 : decode cX6_sheetAt 9 = .ok (.getfield 308, 3) := by decide +kernel
theorem dX6_sheetAt_12 : decode cX6_sheetAt 12 = .ok (.getfield 73, 3) := by decide +kernel
theorem dX6_sheetAt_15 : decode cX6_sheetAt 15 = .ok (.if_icmp .lt 7, 3) := by decide +kernel
theorem dX6_sheetAt_18 : decode cX6_sheetAt 18 = .ok (.iconst (-1), 1) := by decide +kernel
theorem dX6_sheetAt_19 : decode cX6_sheetAt 19 = .ok (.goto 14, 3) := by decide +kernel
theorem dX6_sheetAt_22 : decode cX6_sheetAt 22 = .ok (.aload_n 0, 1) := by decide +kernel
theorem dX6_sheetAt_23 : decode cX6_sheetAt 23 = .ok (.getfield 47, 3) := by decide +kernel
theorem dX6_sheetAt_26 : decode cX6_sheetAt 26 = .ok (.getfield 308, 3) := by decide +kernel
theorem dX6_sheetAt_29 : decode cX6_sheetAt 29 = .ok (.iload_n 1, 1) := by decide +kernel
theorem dX6_sheetAt_30 : decode cX6_sheetAt 30 = .ok (.invokevirtual 160, 3) := by decide +kernel
theorem dX6_sheetAt_33 : decode cX6_sheetAt 33 = .ok (.ireturn, 1) := by decide +kernel
abbrev rm_X6_sheetAt : Room := { frames := 1, cells := 0, slots := 0, locals := 21 }
def f_X6_sheetAt_L18 (cy : Nat → ClassId)  (μ : Mem) : Option (Int32 × Mem) :=
  some ((-1), μ)
set_option maxRecDepth 100000 in
set_option maxHeartbeats 4000000 in
theorem w_X6_sheetAt_L18 {p : Program} {l : Launch} {e : Env} {s : State} {m : MethodId} {args : Array Value} {below : List Frame} {meth : Method} {c : Code} {A : Nat → Prop} {g : Wg} {L : List Nat} {r : Int32} {μ' : Mem} (hC : CX p m c cX6_sheetAt 2 s args RX6) (hr : meth.sig.returnType = (some .int)) (hlocks : meth.locks = false) : ∀  (μ : Mem) (H : Heap) (locs : List Loc) (ls : Array Slot), lv_has ls 2 [] → PW g L μ A s H locs → f_X6_sheetAt_L18 g.2  μ = some (r, μ') → W p l e rm_X6_sheetAt s m args below meth c H locs 0 0 (MQ below (QI g L A r μ') args s 0 0 A) (F0 m 18 ls []) := by
  have hx := hC.1
  have hb := hC.2.1
  intro  μ H locs ls hl hw hf
  unfold f_X6_sheetAt_L18 at hf
  refine lv_iconst (v := (-1)) hx hb dX6_sheetAt_18 nc_iconst_m1 ?_
  refine lv_goto (tgt := 33) hx hb dX6_sheetAt_19 (by decide) ?_
  obtain ⟨rfl, rfl⟩ := o_ret hf
  exact pw_iret hC hr hlocks hw dX6_sheetAt_33
def f_X6_sheetAt (cy : Nat → ClassId) (a0 : Nat) (a1 : Int32) (μ : Mem) : Option (Int32 × Mem) :=
  if a1 < 0 then (f_X6_sheetAt_L18 cy  μ) else (rdR μ a0 5 6).bind fun q2 => (rdR μ q2 2 0).bind fun q4 => (rdI μ q4 4 1).bind fun v6 => if a1 < v6 then ((rdR μ a0 5 6).bind fun q9 => (rdR μ q9 2 0).bind fun q11 => if isO μ q11 4 = true then (ob2 (f_X5_at cy q11 a1 μ) fun r16 μ15 => some (r16, μ15)) else none) else f_X6_sheetAt_L18 cy  μ
set_option maxRecDepth 100000 in
set_option maxHeartbeats 4000000 in
theorem c_X6_sheetAt {l : Launch} {g : Wg} {L : List Nat} {μ : Mem} {a0 : Nat} {a1 : Int32} {r : Int32} {μ' : Mem} (hf : f_X6_sheetAt g.2 a0 a1 μ = some (r, μ')) : MetI l yX6_sheetAt cX6_sheetAt 2 (some .int) rm_X6_sheetAt g L μ [.ref a0, .int a1] r μ' := by
  refine pw_met (Qc := fun A => QI g L A r μ') (by decide) (Nat.le_of_ble_eq_true rfl) ?_
  intro p e s m args below meth c A ls H locs hC hr hlocks hl hw
  have hx := hC.1
  have hb := hC.2.1
  have hl : lv_has ls 2 [(0, .ref a0), (1, .int a1)] := hl
  unfold f_X6_sheetAt at hf
  refine lv_iload_n hx hb dX6_sheetAt_0 rfl (lv_at hl 1 rfl) ?_
  refine lv_if_lt (tgt := 18) hx hb dX6_sheetAt_1 (by decide) (fun c1 => ?_) (fun c1 => ?_)
  · have hf := o_pos c1 hf
    exact w_X6_sheetAt_L18 hC hr hlocks  _ _ _ ls (lv_sub hl [] rfl) hw hf
  · have hf := o_neg c1 hf
    refine lv_iload_n hx hb dX6_sheetAt_4 rfl (lv_at hl 1 rfl) ?_
    refine lv_aload_n hx hb dX6_sheetAt_5 rfl (lv_at hl 0 rfl) ?_
    obtain ⟨q2, h3, hf⟩ := o_bind hf
    refine pw_get hC fl_X6_47 hw (rdR_F h3) dX6_sheetAt_6 ?_
    obtain ⟨q4, h5, hf⟩ := o_bind hf
    refine pw_get hC fl_X6_308 hw (rdR_F h5) dX6_sheetAt_9 ?_
    obtain ⟨v6, h7, hf⟩ := o_bind hf
    refine pw_get hC fl_X6_73 hw (rdI_F h7) dX6_sheetAt_12 ?_
    refine lv_icmp_lt (tgt := 22) hx hb dX6_sheetAt_15 (by decide) (fun c8 => ?_) (fun c8 => ?_)
    · have hf := o_pos c8 hf
      refine lv_aload_n hx hb dX6_sheetAt_22 rfl (lv_at hl 0 rfl) ?_
      obtain ⟨q9, h10, hf⟩ := o_bind hf
      refine pw_get hC fl_X6_47 hw (rdR_F h10) dX6_sheetAt_23 ?_
      obtain ⟨q11, h12, hf⟩ := o_bind hf
      refine pw_get hC fl_X6_308 hw (rdR_F h12) dX6_sheetAt_26 ?_
      refine lv_iload_n hx hb dX6_sheetAt_29 rfl (lv_at hl 1 rfl) ?_
      obtain ⟨h14, hf⟩ := o_ite hf
      obtain ⟨r16, μ15, h13, hf⟩ := o_bind2 hf
      refine pw_goI hw (pw_runV (As := [.int a1]) (rest := []) hC mm_X5_at tw_537 (c_X5_at h13 _) ⟨rfl, rfl, by decide, by decide⟩ hw h14 rfl hl.1 (Nat.le_of_ble_eq_true rfl) ⟨Nat.zero_le _, Nat.zero_le _⟩ rfl dX6_sheetAt_30) (fun H locs hw => ?_)
      obtain ⟨rfl, rfl⟩ := o_ret hf
      exact pw_iret hC hr hlocks hw dX6_sheetAt_33
    · have hf := o_neg c8 hf
      exact w_X6_sheetAt_L18 hC hr hlocks  _ _ _ ls (lv_sub hl [] rfl) hw hf
theorem dX6_taped_0 : decode cX6_taped 0 = .ok (.aload_n 0, 1) := by decide +kernel
theorem dX6_taped_1 : decode cX6_taped 1 = .ok (.getfield 14, 3) := by decide +kernel
theorem dX6_taped_4 : decode cX6_taped 4 = .ok (.getfield 73, 3) := by decide +kernel
theorem dX6_taped_7 : decode cX6_taped 7 = .ok (.ireturn, 1) := by decide +kernel
abbrev rm_X6_taped : Room := { frames := 0, cells := 0, slots := 0, locals := 0 }
def f_X6_taped (cy : Nat → ClassId) (a0 : Nat) (μ : Mem) : Option (Int32 × Mem) :=
  (rdR μ a0 5 0).bind fun q1 => (rdI μ q1 4 1).bind fun v3 => some (v3, μ)
set_option maxRecDepth 100000 in
set_option maxHeartbeats 4000000 in
theorem c_X6_taped {l : Launch} {g : Wg} {L : List Nat} {μ : Mem} {a0 : Nat} {r : Int32} {μ' : Mem} (hf : f_X6_taped g.2 a0 μ = some (r, μ')) : MetI l yX6_taped cX6_taped 1 (some .int) rm_X6_taped g L μ [.ref a0] r μ' := by
  refine pw_met (Qc := fun A => QI g L A r μ') (by decide) (Nat.le_of_ble_eq_true rfl) ?_
  intro p e s m args below meth c A ls H locs hC hr hlocks hl hw
  have hx := hC.1
  have hb := hC.2.1
  have hl : lv_has ls 1 [(0, .ref a0)] := hl
  unfold f_X6_taped at hf
  refine lv_aload_n hx hb dX6_taped_0 rfl (lv_at hl 0 rfl) ?_
  obtain ⟨q1, h2, hf⟩ := o_bind hf
  refine pw_get hC fl_X6_14 hw (rdR_F h2) dX6_taped_1 ?_
  obtain ⟨v3, h4, hf⟩ := o_bind hf
  refine pw_get hC fl_X6_73 hw (rdI_F h4) dX6_taped_4 ?_
  obtain ⟨rfl, rfl⟩ := o_ret hf
  exact pw_iret hC hr hlocks hw dX6_taped_7
theorem dX6_judge_0 : decode cX6_judge 0 = .ok (.aload_n 0, 1) := by decide +kernel
theorem dX6_judge_1 : decode cX6_judge 1 = .ok (.getfield 27, 3) := by decide +kernel
theorem dX6_judge_4 : decode cX6_judge 4 = .ok (.aload_n 0, 1) := by decide +kernel
theorem dX6_judge_5 : decode cX6_judge 5 = .ok (.getfield 14, 3) := by decide +kernel
theorem dX6_judge_8 : decode cX6_judge 8 = .ok (.invokevirtual 79, 3) := by decide +kernel
theorem dX6_judge_11 : decode cX6_judge 11 = .ok (.aload_n 0, 1) := by decide +kernel
theorem dX6_judge_12 : decode cX6_judge 12 = .ok (.aload_n 0, 1) := by decide +kernel
theorem dX6_judge_13 : decode cX6_judge 13 = .ok (.getfield 27, 3) := by decide +kernel
theorem dX6_judge_16 : decode cX6_judge 16 = .ok (.getfield 82, 3) := by decide +kernel
theorem dX6_judge_19 : decode cX6_judge 19 = .ok (.aload_n 0, 1) := by decide +kernel
theorem dX6_judge_20 : decode cX6_judge 20 = .ok (.getfield 27, 3) := by decide +kernel
theorem dX6_judge_23 : decode cX6_judge 23 = .ok (.getfield 85, 3) := by decide +kernel
theorem dX6_judge_26 : decode cX6_judge 26 = .ok (.invokevirtual 88, 3) := by decide +kernel
theorem dX6_judge_29 : decode cX6_judge 29 = .ok (.aload_n 0, 1) := by decide +kernel
theorem dX6_judge_30 : decode cX6_judge 30 = .ok (.getfield 51, 3) := by decide +kernel
theorem dX6_judge_33 : decode cX6_judge 33 = .ok (.ireturn, 1) := by decide +kernel
abbrev rm_X6_judge : Room := { frames := 126, cells := 0, slots := 0, locals := 3503 }
def f_X6_judge (cy : Nat → ClassId) (a0 : Nat) (μ : Mem) : Option (Int32 × Mem) :=
  (rdR μ a0 5 3).bind fun q1 => (rdR μ a0 5 0).bind fun q3 => if isO μ q1 1 = true then ((f_X2_judgeRoot cy q1 q3 μ).bind fun μ7 => (rdR μ7 a0 5 3).bind fun q8 => (rdI μ7 q8 1 1).bind fun v10 => (rdR μ7 a0 5 3).bind fun q12 => (rdI μ7 q12 1 2).bind fun v14 => if isO μ7 a0 5 = true then ((f_X6_keepFault cy a0 v10 v14 μ7).bind fun μ18 => (rdI μ18 a0 5 7).bind fun v19 => some (v19, μ18)) else none) else none
set_option maxRecDepth 100000 in
set_option maxHeartbeats 4000000 in
theorem c_X6_judge {l : Launch} {g : Wg} {L : List Nat} {μ : Mem} {a0 : Nat} {r : Int32} {μ' : Mem} (hf : f_X6_judge g.2 a0 μ = some (r, μ')) : MetI l yX6_judge cX6_judge 1 (some .int) rm_X6_judge g L μ [.ref a0] r μ' := by
  refine pw_met (Qc := fun A => QI g L A r μ') (by decide) (Nat.le_of_ble_eq_true rfl) ?_
  intro p e s m args below meth c A ls H locs hC hr hlocks hl hw
  have hx := hC.1
  have hb := hC.2.1
  have hl : lv_has ls 1 [(0, .ref a0)] := hl
  unfold f_X6_judge at hf
  refine lv_aload_n hx hb dX6_judge_0 rfl (lv_at hl 0 rfl) ?_
  obtain ⟨q1, h2, hf⟩ := o_bind hf
  refine pw_get hC fl_X6_27 hw (rdR_F h2) dX6_judge_1 ?_
  refine lv_aload_n hx hb dX6_judge_4 rfl (lv_at hl 0 rfl) ?_
  obtain ⟨q3, h4, hf⟩ := o_bind hf
  refine pw_get hC fl_X6_14 hw (rdR_F h4) dX6_judge_5 ?_
  obtain ⟨h6, hf⟩ := o_ite hf
  obtain ⟨μ7, h5, hf⟩ := o_bind hf
  refine pw_goV hw (pw_runV (As := [.ref q3]) (rest := []) hC mm_X2_judgeRoot tw_333 (c_X2_judgeRoot h5 _) ⟨rfl, rfl, by decide, by decide⟩ hw h6 rfl hl.1 (Nat.le_of_ble_eq_true rfl) ⟨Nat.zero_le _, Nat.zero_le _⟩ rfl dX6_judge_8) (fun H locs hw => ?_)
  refine lv_aload_n hx hb dX6_judge_11 rfl (lv_at hl 0 rfl) ?_
  refine lv_aload_n hx hb dX6_judge_12 rfl (lv_at hl 0 rfl) ?_
  obtain ⟨q8, h9, hf⟩ := o_bind hf
  refine pw_get hC fl_X6_27 hw (rdR_F h9) dX6_judge_13 ?_
  obtain ⟨v10, h11, hf⟩ := o_bind hf
  refine pw_get hC fl_X6_82 hw (rdI_F h11) dX6_judge_16 ?_
  refine lv_aload_n hx hb dX6_judge_19 rfl (lv_at hl 0 rfl) ?_
  obtain ⟨q12, h13, hf⟩ := o_bind hf
  refine pw_get hC fl_X6_27 hw (rdR_F h13) dX6_judge_20 ?_
  obtain ⟨v14, h15, hf⟩ := o_bind hf
  refine pw_get hC fl_X6_85 hw (rdI_F h15) dX6_judge_23 ?_
  obtain ⟨h17, hf⟩ := o_ite hf
  obtain ⟨μ18, h16, hf⟩ := o_bind hf
  refine pw_goV hw (pw_runV (As := [.int v10, .int v14]) (rest := []) hC mm_X6_keepFault tw_417 (c_X6_keepFault h16 _) ⟨rfl, rfl, by decide, by decide⟩ hw h17 rfl hl.1 (Nat.le_of_ble_eq_true rfl) ⟨Nat.zero_le _, Nat.zero_le _⟩ rfl dX6_judge_26) (fun H locs hw => ?_)
  refine lv_aload_n hx hb dX6_judge_29 rfl (lv_at hl 0 rfl) ?_
  obtain ⟨v19, h20, hf⟩ := o_bind hf
  refine pw_get hC fl_X6_51 hw (rdI_F h20) dX6_judge_30 ?_
  obtain ⟨rfl, rfl⟩ := o_ret hf
  exact pw_iret hC hr hlocks hw dX6_judge_33
