theorem tw_10 : (Jvm.Cond.initialized "SpanShelvesModel") ∈ tw := tw_t 10 (by decide +kernel) (by decide +kernel)
theorem tw_11 : (Jvm.Cond.initialized "SpanShelvesModel$Tree") ∈ tw := tw_t 11 (by decide +kernel) (by decide +kernel)
theorem tw_1014 : (Jvm.Cond.fieldLink "SpanShelvesModel$Tree" (45 : Nat) "SpanShelvesModel$Tree" "of" "[B") ∈ tw := tw_t 1014 (by decide +kernel) (by decide +kernel)
theorem tw_1016 : (Jvm.Cond.fieldLink "SpanShelvesModel$Tree" (49 : Nat) "SpanShelvesModel$Tree" "nodes" "I") ∈ tw := tw_t 1016 (by decide +kernel) (by decide +kernel)
theorem tw_1018 : (Jvm.Cond.fieldLink "SpanShelvesModel$Tree" (9 : Nat) "SpanShelvesModel$Tree" "type" "[I") ∈ tw := tw_t 1018 (by decide +kernel) (by decide +kernel)
theorem tw_1020 : (Jvm.Cond.fieldLink "SpanShelvesModel$Tree" (15 : Nat) "SpanShelvesModel$Tree" "parent" "[I") ∈ tw := tw_t 1020 (by decide +kernel) (by decide +kernel)
theorem tw_1022 : (Jvm.Cond.fieldLink "SpanShelvesModel$Tree" (18 : Nat) "SpanShelvesModel$Tree" "first" "[I") ∈ tw := tw_t 1022 (by decide +kernel) (by decide +kernel)
theorem tw_1024 : (Jvm.Cond.fieldLink "SpanShelvesModel$Tree" (21 : Nat) "SpanShelvesModel$Tree" "next" "[I") ∈ tw := tw_t 1024 (by decide +kernel) (by decide +kernel)
theorem tw_1026 : (Jvm.Cond.fieldLink "SpanShelvesModel$Tree" (24 : Nat) "SpanShelvesModel$Tree" "place" "[I") ∈ tw := tw_t 1026 (by decide +kernel) (by decide +kernel)
theorem tw_1028 : (Jvm.Cond.fieldLink "SpanShelvesModel$Tree" (27 : Nat) "SpanShelvesModel$Tree" "nameSize" "[I") ∈ tw := tw_t 1028 (by decide +kernel) (by decide +kernel)
theorem tw_1030 : (Jvm.Cond.fieldLink "SpanShelvesModel$Tree" (30 : Nat) "SpanShelvesModel$Tree" "valueAt" "[I") ∈ tw := tw_t 1030 (by decide +kernel) (by decide +kernel)
theorem tw_1032 : (Jvm.Cond.fieldLink "SpanShelvesModel$Tree" (33 : Nat) "SpanShelvesModel$Tree" "valueSize" "[I") ∈ tw := tw_t 1032 (by decide +kernel) (by decide +kernel)
theorem tw_1034 : (Jvm.Cond.fieldLink "SpanShelvesModel$Tree" (36 : Nat) "SpanShelvesModel$Tree" "docAt" "[I") ∈ tw := tw_t 1034 (by decide +kernel) (by decide +kernel)
theorem tw_1036 : (Jvm.Cond.fieldLink "SpanShelvesModel$Tree" (39 : Nat) "SpanShelvesModel$Tree" "many" "[I") ∈ tw := tw_t 1036 (by decide +kernel) (by decide +kernel)
theorem tw_1038 : (Jvm.Cond.fieldLink "SpanShelvesModel$Tree" (42 : Nat) "SpanShelvesModel$Tree" "depth" "[I") ∈ tw := tw_t 1038 (by decide +kernel) (by decide +kernel)
theorem tw_1246 : (Jvm.Cond.static ({ cls := "SpanShelvesModel", name := "intAt", desc := "([BI)I" } : Jvm.MethodName)) ∈ tw := tw_t 1246 (by decide +kernel) (by decide +kernel)
theorem tw_1247 : (Jvm.Cond.code ({ cls := "SpanShelvesModel", name := "intAt", desc := "([BI)I" } : Jvm.MethodName) prog_9_method_5_code (2 : Nat) (Option.some Jvm.ClassFile.FieldType.int)) ∈ tw := tw_t 1247 (by decide +kernel) (by decide +kernel)
theorem tw_1329 : (Jvm.Cond.methodLink "SpanShelvesModel$Tree" (53 : Nat) ({ cls := "SpanShelvesModel$Tree", name := "readDoc", desc := "(I)V" } : Jvm.MethodName)) ∈ tw := tw_t 1329 (by decide +kernel) (by decide +kernel)
theorem tw_1331 : (Jvm.Cond.instanceMethod ({ cls := "SpanShelvesModel$Tree", name := "readDoc", desc := "(I)V" } : Jvm.MethodName)) ∈ tw := tw_t 1331 (by decide +kernel) (by decide +kernel)
theorem tw_1332 : (Jvm.Cond.code ({ cls := "SpanShelvesModel$Tree", name := "readDoc", desc := "(I)V" } : Jvm.MethodName) prog_10_method_3_code (6 : Nat) (Option.none : Option Jvm.ClassFile.FieldType)) ∈ tw := tw_t 1332 (by decide +kernel) (by decide +kernel)
theorem tw_1333 : (Jvm.Cond.methodLinkNest "SpanShelvesModel$Tree" (57 : Nat) ({ cls := "SpanShelvesModel", name := "intAt", desc := "([BI)I" } : Jvm.MethodName) "SpanShelvesModel") ∈ tw := tw_t 1333 (by decide +kernel) (by decide +kernel)
theorem tw_1334 : (Jvm.Cond.methodLink "SpanShelvesModel$Tree" (61 : Nat) ({ cls := "SpanShelvesModel$Tree", name := "readElement", desc := "(II)I" } : Jvm.MethodName)) ∈ tw := tw_t 1334 (by decide +kernel) (by decide +kernel)
theorem tw_1336 : (Jvm.Cond.instanceMethod ({ cls := "SpanShelvesModel$Tree", name := "readElement", desc := "(II)I" } : Jvm.MethodName)) ∈ tw := tw_t 1336 (by decide +kernel) (by decide +kernel)
theorem tw_1337 : (Jvm.Cond.code ({ cls := "SpanShelvesModel$Tree", name := "readElement", desc := "(II)I" } : Jvm.MethodName) prog_10_method_4_code (4 : Nat) (Option.some Jvm.ClassFile.FieldType.int)) ∈ tw := tw_t 1337 (by decide +kernel) (by decide +kernel)
theorem tw_1338 : (Jvm.Cond.methodLink "SpanShelvesModel$Tree" (65 : Nat) ({ cls := "SpanShelvesModel$Tree", name := "size", desc := "(II)I" } : Jvm.MethodName)) ∈ tw := tw_t 1338 (by decide +kernel) (by decide +kernel)
theorem tw_1340 : (Jvm.Cond.instanceMethod ({ cls := "SpanShelvesModel$Tree", name := "size", desc := "(II)I" } : Jvm.MethodName)) ∈ tw := tw_t 1340 (by decide +kernel) (by decide +kernel)
theorem tw_1341 : (Jvm.Cond.code ({ cls := "SpanShelvesModel$Tree", name := "size", desc := "(II)I" } : Jvm.MethodName) prog_10_method_5_code (4 : Nat) (Option.some Jvm.ClassFile.FieldType.int)) ∈ tw := tw_t 1341 (by decide +kernel) (by decide +kernel)
theorem twp_46 : (Jvm.Cond.selects "SpanShelvesModel$Tree" ({ cls := "SpanShelvesModel$Tree", name := "readDoc", desc := "(I)V" } : Jvm.MethodName) ({ cls := "SpanShelvesModel$Tree", name := "readDoc", desc := "(I)V" } : Jvm.MethodName)) ∈ tw := tw_p 46 (q := (({ cls := "SpanShelvesModel$Tree", name := "readDoc", desc := "(I)V" } : Jvm.MethodName), 13)) (by decide +kernel) (by decide +kernel)
theorem twp_47 : (Jvm.Cond.selects "SpanShelvesModel$Tree" ({ cls := "SpanShelvesModel$Tree", name := "readElement", desc := "(II)I" } : Jvm.MethodName) ({ cls := "SpanShelvesModel$Tree", name := "readElement", desc := "(II)I" } : Jvm.MethodName)) ∈ tw := tw_p 47 (q := (({ cls := "SpanShelvesModel$Tree", name := "readElement", desc := "(II)I" } : Jvm.MethodName), 13)) (by decide +kernel) (by decide +kernel)
theorem twp_48 : (Jvm.Cond.selects "SpanShelvesModel$Tree" ({ cls := "SpanShelvesModel$Tree", name := "size", desc := "(II)I" } : Jvm.MethodName) ({ cls := "SpanShelvesModel$Tree", name := "size", desc := "(II)I" } : Jvm.MethodName)) ∈ tw := tw_p 48 (q := (({ cls := "SpanShelvesModel$Tree", name := "size", desc := "(II)I" } : Jvm.MethodName), 13)) (by decide +kernel) (by decide +kernel)
theorem iw_X7 : ∀ w ∈ u_ws RX7 TX7 13, w ∈ tw := fun w h => List.mem_filter.mpr ⟨(show ∀ w ∈ u_ws RX7 TX7 13, w ∈ lw_tbl by decide +kernel) w h, (show ∀ w ∈ u_ws RX7 TX7 13, tw_ok w = true by decide +kernel) w h⟩
theorem fl_X7_9 : FL RX7 9 6 2 := ⟨by decide, RX7, TX7, 13, tyX7, rfl, by decide, rfl, iw_X7, tyX7_ok, nmX7, Or.inl tw_1018⟩
theorem fl_X7_15 : FL RX7 15 6 3 := ⟨by decide, RX7, TX7, 13, tyX7, rfl, by decide, rfl, iw_X7, tyX7_ok, nmX7, Or.inl tw_1020⟩
theorem fl_X7_18 : FL RX7 18 6 4 := ⟨by decide, RX7, TX7, 13, tyX7, rfl, by decide, rfl, iw_X7, tyX7_ok, nmX7, Or.inl tw_1022⟩
theorem fl_X7_21 : FL RX7 21 6 5 := ⟨by decide, RX7, TX7, 13, tyX7, rfl, by decide, rfl, iw_X7, tyX7_ok, nmX7, Or.inl tw_1024⟩
theorem fl_X7_24 : FL RX7 24 6 6 := ⟨by decide, RX7, TX7, 13, tyX7, rfl, by decide, rfl, iw_X7, tyX7_ok, nmX7, Or.inl tw_1026⟩
theorem fl_X7_27 : FL RX7 27 6 7 := ⟨by decide, RX7, TX7, 13, tyX7, rfl, by decide, rfl, iw_X7, tyX7_ok, nmX7, Or.inl tw_1028⟩
theorem fl_X7_30 : FL RX7 30 6 8 := ⟨by decide, RX7, TX7, 13, tyX7, rfl, by decide, rfl, iw_X7, tyX7_ok, nmX7, Or.inl tw_1030⟩
theorem fl_X7_33 : FL RX7 33 6 9 := ⟨by decide, RX7, TX7, 13, tyX7, rfl, by decide, rfl, iw_X7, tyX7_ok, nmX7, Or.inl tw_1032⟩
theorem fl_X7_36 : FL RX7 36 6 10 := ⟨by decide, RX7, TX7, 13, tyX7, rfl, by decide, rfl, iw_X7, tyX7_ok, nmX7, Or.inl tw_1034⟩
theorem fl_X7_39 : FL RX7 39 6 11 := ⟨by decide, RX7, TX7, 13, tyX7, rfl, by decide, rfl, iw_X7, tyX7_ok, nmX7, Or.inl tw_1036⟩
theorem fl_X7_42 : FL RX7 42 6 12 := ⟨by decide, RX7, TX7, 13, tyX7, rfl, by decide, rfl, iw_X7, tyX7_ok, nmX7, Or.inl tw_1038⟩
theorem fl_X7_45 : FL RX7 45 6 0 := ⟨by decide, RX7, TX7, 13, tyX7, rfl, by decide, rfl, iw_X7, tyX7_ok, nmX7, Or.inl tw_1014⟩
theorem fl_X7_49 : FL RX7 49 6 1 := ⟨by decide, RX7, TX7, 13, tyX7, rfl, by decide, rfl, iw_X7, tyX7_ok, nmX7, Or.inl tw_1016⟩
theorem fd_X7_0 : ∀ (C : String) (T : u_T) (N : Nat), vwCl[6]? = some (C, T, N) → (T 0).2.2.2 = false ∧ parseFieldDescriptor (T 0).2.2.1 = some (.array .byte) := by intro C T N h; cases h; exact ⟨rfl, by decide +kernel⟩
theorem fd_X7_1 : ∀ (C : String) (T : u_T) (N : Nat), vwCl[6]? = some (C, T, N) → (T 1).2.2.2 = false ∧ parseFieldDescriptor (T 1).2.2.1 = some .int := by intro C T N h; cases h; exact ⟨rfl, by decide +kernel⟩
theorem mm_X7_readDoc : MM 6 yX7_readDoc cX7_readDoc 6 none 1 := ⟨by decide, RX7, TX7, 13, rfl, tw_1331, twp_46, tw_1332, tw_11, by decide +kernel, by decide +kernel, by decide +kernel⟩
theorem mm_X7_readElement : MM 6 yX7_readElement cX7_readElement 4 (some .int) 2 := ⟨by decide, RX7, TX7, 13, rfl, tw_1336, twp_47, tw_1337, tw_11, by decide +kernel, by decide +kernel, by decide +kernel⟩
theorem mm_X7_size : MM 6 yX7_size cX7_size 4 (some .int) 2 := ⟨by decide, RX7, TX7, 13, rfl, tw_1340, twp_48, tw_1341, tw_11, by decide +kernel, by decide +kernel, by decide +kernel⟩
theorem mm_X8_intAt : MS yX8_intAt cX8_intAt 2 (some .int) 2 := ⟨tw_1246, tw_1247, tw_10, by decide +kernel, by decide +kernel, by decide +kernel⟩
theorem dX8_intAt_0 : decode cX8_intAt 0 = .ok (.aload_n 0, 1) := by decide +kernel
theorem dX8_intAt_1 : decode cX8_intAt 1 = .ok (.iload_n 1, 1) := by decide +kernel
theorem dX8_intAt_2 : decode cX8_intAt 2 = .ok (.baload, 1) := by decide +kernel
theorem dX8_intAt_3 : decode cX8_intAt 3 = .ok (.sipush 255, 3) := by decide +kernel
theorem dX8_intAt_6 : decode cX8_intAt 6 = .ok (.iand, 1) := by decide +kernel
theorem dX8_intAt_7 : decode cX8_intAt 7 = .ok (.aload_n 0, 1) := by decide +kernel
theorem dX8_intAt_8 : decode cX8_intAt 8 = .ok (.iload_n 1, 1) := by decide +kernel
theorem dX8_intAt_9 : decode cX8_intAt 9 = .ok (.iconst 1, 1) := by decide +kernel
theorem dX8_intAt_10 : decode cX8_intAt 10 = .ok (.iadd, 1) := by decide +kernel
theorem dX8_intAt_11 : decode cX8_intAt 11 = .ok (.baload, 1) := by decide +kernel
theorem dX8_intAt_12 : decode cX8_intAt 12 = .ok (.sipush 255, 3) := by decide +kernel
theorem dX8_intAt_15 : decode cX8_intAt 15 = .ok (.iand, 1) := by decide +kernel
theorem dX8_intAt_16 : decode cX8_intAt 16 = .ok (.bipush 8, 2) := by decide +kernel
theorem dX8_intAt_18 : decode cX8_intAt 18 = .ok (.ishl, 1) := by decide +kernel
theorem dX8_intAt_19 : decode cX8_intAt 19 = .ok (.ior, 1) := by decide +kernel
theorem dX8_intAt_20 : decode cX8_intAt 20 = .ok (.aload_n 0, 1) := by decide +kernel
theorem dX8_intAt_21 : decode cX8_intAt 21 = .ok (.iload_n 1, 1) := by decide +kernel
theorem dX8_intAt_22 : decode cX8_intAt 22 = .ok (.iconst 2, 1) := by decide +kernel
theorem dX8_intAt_23 : decode cX8_intAt 23 = .ok (.iadd, 1) := by decide +kernel
theorem dX8_intAt_24 : decode cX8_intAt 24 = .ok (.baload, 1) := by decide +kernel
theorem dX8_intAt_25 : decode cX8_intAt 25 = .ok (.sipush 255, 3) := by decide +kernel
theorem dX8_intAt_28 : decode cX8_intAt 28 = .ok (.iand, 1) := by decide +kernel
theorem dX8_intAt_29 : decode cX8_intAt 29 = .ok (.bipush 16, 2) := by decide +kernel
theorem dX8_intAt_31 : decode cX8_intAt 31 = .ok (.ishl, 1) := by decide +kernel
theorem dX8_intAt_32 : decode cX8_intAt 32 = .ok (.ior, 1) := by decide +kernel
theorem dX8_intAt_33 : decode cX8_intAt 33 = .ok (.aload_n 0, 1) := by decide +kernel
theorem dX8_intAt_34 : decode cX8_intAt 34 = .ok (.iload_n 1, 1) := by decide +kernel
theorem dX8_intAt_35 : decode cX8_intAt 35 = .ok (.iconst 3, 1) := by decide +kernel
theorem dX8_intAt_36 : decode cX8_intAt 36 = .ok (.iadd, 1) := by decide +kernel
theorem dX8_intAt_37 : decode cX8_intAt 37 = .ok (.baload, 1) := by decide +kernel
theorem dX8_intAt_38 : decode cX8_intAt 38 = .ok (.bipush 24, 2) := by decide +kernel
theorem dX8_intAt_40 : decode cX8_intAt 40 = .ok (.ishl, 1) := by decide +kernel
theorem dX8_intAt_41 : decode cX8_intAt 41 = .ok (.ior, 1) := by decide +kernel
theorem dX8_intAt_42 : decode cX8_intAt 42 = .ok (.ireturn, 1) := by decide +kernel
abbrev rm_X8_intAt : Room := { frames := 0, cells := 0, slots := 0, locals := 0 }
def f_X8_intAt (cy : Nat → ClassId) (a0 : Nat) (a1 : Int32) (μ : Mem) : Option (Int32 × Mem) :=
  (rdA cy μ 0 a0 a1).bind fun v1 => (rdA cy μ 0 a0 (a1 + 1)).bind fun v3 => (rdA cy μ 0 a0 (a1 + 2)).bind fun v5 => (rdA cy μ 0 a0 (a1 + 3)).bind fun v7 => some (((((v1 &&& 255) ||| ((v3 &&& 255) <<< ((8 : Int32) &&& 31))) ||| ((v5 &&& 255) <<< ((16 : Int32) &&& 31))) ||| (v7 <<< ((24 : Int32) &&& 31))), μ)
set_option maxRecDepth 100000 in
set_option maxHeartbeats 4000000 in
theorem c_X8_intAt {l : Launch} {g : Wg} {L : List Nat} {μ : Mem} {a0 : Nat} {a1 : Int32} {r : Int32} {μ' : Mem} (hf : f_X8_intAt g.2 a0 a1 μ = some (r, μ')) : MetI l yX8_intAt cX8_intAt 2 (some .int) rm_X8_intAt g L μ [.ref a0, .int a1] r μ' := by
  refine pw_met (Qc := fun A => QI g L A r μ') (by decide) (Nat.le_of_ble_eq_true rfl) ?_
  intro p e s m args below meth c A ls H locs hC hr hlocks hl hw
  have hx := hC.1
  have hb := hC.2.1
  have hl : lv_has ls 2 [(0, .ref a0), (1, .int a1)] := hl
  unfold f_X8_intAt at hf
  refine lv_aload_n hx hb dX8_intAt_0 rfl (lv_at hl 0 rfl) ?_
  refine lv_iload_n hx hb dX8_intAt_1 rfl (lv_at hl 1 rfl) ?_
  obtain ⟨v1, h2, hf⟩ := o_bind hf
  refine pw_bald hC hw h2 dX8_intAt_2 ?_
  refine lv_sipush (v := 255) hx hb dX8_intAt_3 nc_sipush_255 ?_
  refine lv_iand hx hb dX8_intAt_6 ?_
  refine lv_aload_n hx hb dX8_intAt_7 rfl (lv_at hl 0 rfl) ?_
  refine lv_iload_n hx hb dX8_intAt_8 rfl (lv_at hl 1 rfl) ?_
  refine lv_iconst (v := 1) hx hb dX8_intAt_9 nc_iconst_1 ?_
  refine lv_iadd hx hb dX8_intAt_10 ?_
  obtain ⟨v3, h4, hf⟩ := o_bind hf
  refine pw_bald hC hw h4 dX8_intAt_11 ?_
  refine lv_sipush (v := 255) hx hb dX8_intAt_12 nc_sipush_255 ?_
  refine lv_iand hx hb dX8_intAt_15 ?_
  refine lv_bipush (v := 8) hx hb dX8_intAt_16 nc_bipush_8 ?_
  refine lv_ishl hx hb dX8_intAt_18 ?_
  refine lv_ior hx hb dX8_intAt_19 ?_
  refine lv_aload_n hx hb dX8_intAt_20 rfl (lv_at hl 0 rfl) ?_
  refine lv_iload_n hx hb dX8_intAt_21 rfl (lv_at hl 1 rfl) ?_
  refine lv_iconst (v := 2) hx hb dX8_intAt_22 nc_iconst_2 ?_
  refine lv_iadd hx hb dX8_intAt_23 ?_
  obtain ⟨v5, h6, hf⟩ := o_bind hf
  refine pw_bald hC hw h6 dX8_intAt_24 ?_
  refine lv_sipush (v := 255) hx hb dX8_intAt_25 nc_sipush_255 ?_
  refine lv_iand hx hb dX8_intAt_28 ?_
  refine lv_bipush (v := 16) hx hb dX8_intAt_29 nc_bipush_16 ?_
  refine lv_ishl hx hb dX8_intAt_31 ?_
  refine lv_ior hx hb dX8_intAt_32 ?_
  refine lv_aload_n hx hb dX8_intAt_33 rfl (lv_at hl 0 rfl) ?_
  refine lv_iload_n hx hb dX8_intAt_34 rfl (lv_at hl 1 rfl) ?_
  refine lv_iconst (v := 3) hx hb dX8_intAt_35 nc_iconst_3 ?_
  refine lv_iadd hx hb dX8_intAt_36 ?_
  obtain ⟨v7, h8, hf⟩ := o_bind hf
  refine pw_bald hC hw h8 dX8_intAt_37 ?_
  refine lv_bipush (v := 24) hx hb dX8_intAt_38 nc_bipush_24 ?_
  refine lv_ishl hx hb dX8_intAt_40 ?_
  refine lv_ior hx hb dX8_intAt_41 ?_
  obtain ⟨rfl, rfl⟩ := o_ret hf
  exact pw_iret hC hr hlocks hw dX8_intAt_42
theorem dX7_size_0 : decode cX7_size 0 = .ok (.iload_n 1, 1) := by decide +kernel
theorem dX7_size_1 : decode cX7_size 1 = .ok (.tableswitch 188 1 19 #[91, 94, 105, 105, 114, 188, 125, 128, 91, 188, 130, 171, 94, 94, 105, 183, 91, 91, 185], 91) := by decide +kernel
theorem dX7_size_92 : decode cX7_size 92 = .ok (.bipush 8, 2) := by decide +kernel
theorem dX7_size_94 : decode cX7_size 94 = .ok (.ireturn, 1) := by decide +kernel
theorem dX7_size_95 : decode cX7_size 95 = .ok (.iconst 4, 1) := by decide +kernel
theorem dX7_size_96 : decode cX7_size 96 = .ok (.aload_n 0, 1) := by decide +kernel
theorem dX7_size_97 : decode cX7_size 97 = .ok (.getfield 45, 3) := by decide +kernel
theorem dX7_size_100 : decode cX7_size 100 = .ok (.iload_n 2, 1) := by decide +kernel
theorem dX7_size_101 : decode cX7_size 101 = .ok (.invokestatic 57, 3) := by decide +kernel
theorem dX7_size_104 : decode cX7_size 104 = .ok (.iadd, 1) := by decide +kernel
theorem dX7_size_105 : decode cX7_size 105 = .ok (.ireturn, 1) := by decide +kernel
theorem dX7_size_106 : decode cX7_size 106 = .ok (.aload_n 0, 1) := by decide +kernel
theorem dX7_size_107 : decode cX7_size 107 = .ok (.getfield 45, 3) := by decide +kernel
theorem dX7_size_110 : decode cX7_size 110 = .ok (.iload_n 2, 1) := by decide +kernel
theorem dX7_size_111 : decode cX7_size 111 = .ok (.invokestatic 57, 3) := by decide +kernel
theorem dX7_size_114 : decode cX7_size 114 = .ok (.ireturn, 1) := by decide +kernel
theorem dX7_size_115 : decode cX7_size 115 = .ok (.iconst 5, 1) := by decide +kernel
theorem dX7_size_116 : decode cX7_size 116 = .ok (.aload_n 0, 1) := by decide +kernel
theorem dX7_size_117 : decode cX7_size 117 = .ok (.getfield 45, 3) := by decide +kernel
theorem dX7_size_120 : decode cX7_size 120 = .ok (.iload_n 2, 1) := by decide +kernel
theorem dX7_size_121 : decode cX7_size 121 = .ok (.invokestatic 57, 3) := by decide +kernel
theorem dX7_size_124 : decode cX7_size 124 = .ok (.iadd, 1) := by decide +kernel
theorem dX7_size_125 : decode cX7_size 125 = .ok (.ireturn, 1) := by decide +kernel
theorem dX7_size_126 : decode cX7_size 126 = .ok (.bipush 12, 2) := by decide +kernel
theorem dX7_size_128 : decode cX7_size 128 = .ok (.ireturn, 1) := by decide +kernel
theorem dX7_size_129 : decode cX7_size 129 = .ok (.iconst 1, 1) := by decide +kernel
theorem dX7_size_130 : decode cX7_size 130 = .ok (.ireturn, 1) := by decide +kernel
theorem dX7_size_131 : decode cX7_size 131 = .ok (.iload_n 2, 1) := by decide +kernel
theorem dX7_size_132 : decode cX7_size 132 = .ok (.istore_n 3, 1) := by decide +kernel
theorem dX7_size_133 : decode cX7_size 133 = .ok (.aload_n 0, 1) := by decide +kernel
theorem dX7_size_134 : decode cX7_size 134 = .ok (.getfield 45, 3) := by decide +kernel
theorem dX7_size_137 : decode cX7_size 137 = .ok (.iload_n 3, 1) := by decide +kernel
theorem dX7_size_138 : decode cX7_size 138 = .ok (.baload, 1) := by decide +kernel
theorem dX7_size_139 : decode cX7_size 139 = .ok (.ifCond .eq 9, 3) := by decide +kernel
theorem dX7_size_142 : decode cX7_size 142 = .ok (.iinc 3 1, 3) := by decide +kernel
theorem dX7_size_145 : decode cX7_size 145 = .ok (.goto (-12), 3) := by decide +kernel
theorem dX7_size_148 : decode cX7_size 148 = .ok (.iinc 3 1, 3) := by decide +kernel
theorem dX7_size_151 : decode cX7_size 151 = .ok (.aload_n 0, 1) := by decide +kernel
theorem dX7_size_152 : decode cX7_size 152 = .ok (.getfield 45, 3) := by decide +kernel
theorem dX7_size_155 : decode cX7_size 155 = .ok (.iload_n 3, 1) := by decide +kernel
theorem dX7_size_156 : decode cX7_size 156 = .ok (.baload, 1) := by decide +kernel
theorem dX7_size_157 : decode cX7_size 157 = .ok (.ifCond .eq 9, 3) := by decide +kernel
theorem dX7_size_160 : decode cX7_size 160 = .ok (.iinc 3 1, 3) := by decide +kernel
theorem dX7_size_163 : decode cX7_size 163 = .ok (.goto (-12), 3) := by decide +kernel
theorem dX7_size_166 : decode cX7_size 166 = .ok (.iload_n 3, 1) := by decide +kernel
theorem dX7_size_167 : decode cX7_size 167 = .ok (.iconst 1, 1) := by decide +kernel
theorem dX7_size_168 : decode cX7_size 168 = .ok (.iadd, 1) := by decide +kernel
theorem dX7_size_169 : decode cX7_size 169 = .ok (.iload_n 2, 1) := by decide +kernel
theorem dX7_size_170 : decode cX7_size 170 = .ok (.isub, 1) := by decide +kernel
theorem dX7_size_171 : decode cX7_size 171 = .ok (.ireturn, 1) := by decide +kernel
theorem dX7_size_172 : decode cX7_size 172 = .ok (.bipush 16, 2) := by decide +kernel
theorem dX7_size_174 : decode cX7_size 174 = .ok (.aload_n 0, 1) := by decide +kernel
theorem dX7_size_175 : decode cX7_size 175 = .ok (.getfield 45, 3) := by decide +kernel
theorem dX7_size_178 : decode cX7_size 178 = .ok (.iload_n 2, 1) := by decide +kernel
theorem dX7_size_179 : decode cX7_size 179 = .ok (.invokestatic 57, 3) := by decide +kernel
theorem dX7_size_182 : decode cX7_size 182 = .ok (.iadd, 1) := by decide +kernel
theorem dX7_size_183 : decode cX7_size 183 = .ok (.ireturn, 1) := by decide +kernel
theorem dX7_size_184 : decode cX7_size 184 = .ok (.iconst 4, 1) := by decide +kernel
theorem dX7_size_185 : decode cX7_size 185 = .ok (.ireturn, 1) := by decide +kernel
theorem dX7_size_186 : decode cX7_size 186 = .ok (.bipush 16, 2) := by decide +kernel
theorem dX7_size_188 : decode cX7_size 188 = .ok (.ireturn, 1) := by decide +kernel
theorem dX7_size_189 : decode cX7_size 189 = .ok (.iconst 0, 1) := by decide +kernel
theorem dX7_size_190 : decode cX7_size 190 = .ok (.ireturn, 1) := by decide +kernel
abbrev rm_X7_size : Room := { frames := 1, cells := 0, slots := 0, locals := 21 }
def f_X7_size_L151 (cy : Nat → ClassId) : Nat → Nat → Int32 → Int32 → Mem → Option (Int32 × Mem)
  | 0, _, _, _, _ => none
  | n + 1, a0, a2, a3, μ => (rdR μ a0 6 0).bind fun q101 => (rdA cy μ 0 q101 a3).bind fun v103 => if v103 = 0 then (some (((a3 + 1) - a2), μ)) else f_X7_size_L151 cy n a0 a2 (a3 + 1) μ
set_option maxRecDepth 100000 in
set_option maxHeartbeats 4000000 in
theorem w_X7_size_L151 {p : Program} {l : Launch} {e : Env} {s : State} {m : MethodId} {args : Array Value} {below : List Frame} {meth : Method} {c : Code} {A : Nat → Prop} {g : Wg} {L : List Nat} {r : Int32} {μ' : Mem} (hC : CX p m c cX7_size 4 s args RX7) (hr : meth.sig.returnType = (some .int)) (hlocks : meth.locks = false) : ∀ (n : Nat), ∀ (a0 : Nat) (a2 : Int32) (a3 : Int32) (μ : Mem) (H : Heap) (locs : List Loc) (ls : Array Slot), lv_has ls 4 [(0, .ref a0), (2, .int a2), (3, .int a3)] → PW g L μ A s H locs → f_X7_size_L151 g.2 n a0 a2 a3 μ = some (r, μ') → W p l e rm_X7_size s m args below meth c H locs 0 0 (MQ below (QI g L A r μ') args s 0 0 A) (F0 m 151 ls []) := by
  have hx := hC.1
  have hb := hC.2.1
  intro n
  induction n with
  | zero => intro a0 a2 a3 μ H locs ls hl hw hf; cases hf
  | succ n ih =>
    intro a0 a2 a3 μ H locs ls hl hw hf
    rw [f_X7_size_L151] at hf
    refine lv_aload_n hx hb dX7_size_151 rfl (lv_at hl 0 rfl) ?_
    obtain ⟨q101, h102, hf⟩ := o_bind hf
    refine pw_get hC fl_X7_45 hw (rdR_F h102) dX7_size_152 ?_
    refine lv_iload_n hx hb dX7_size_155 rfl (lv_at hl 2 rfl) ?_
    obtain ⟨v103, h104, hf⟩ := o_bind hf
    refine pw_bald hC hw h104 dX7_size_156 ?_
    refine lv_if_eq (tgt := 166) hx hb dX7_size_157 (by decide) (fun c105 => ?_) (fun c105 => ?_)
    · have hf := o_pos c105 hf
      refine lv_iload_n hx hb dX7_size_166 rfl (lv_at hl 2 rfl) ?_
      refine lv_iconst (v := 1) hx hb dX7_size_167 nc_iconst_1 ?_
      refine lv_iadd hx hb dX7_size_168 ?_
      refine lv_iload_n hx hb dX7_size_169 rfl (lv_at hl 1 rfl) ?_
      refine lv_isub hx hb dX7_size_170 ?_
      obtain ⟨rfl, rfl⟩ := o_ret hf
      exact pw_iret hC hr hlocks hw dX7_size_171
    · have hf := o_neg c105 hf
      refine lv_iinc (v := (a3 + 1)) (lv' := [(3, .int (a3 + 1)), (0, .ref a0), (2, .int a2)]) hx hb dX7_size_160 hl (k := 2) rfl (by first | rfl | decide +kernel) (by decide) rfl (fun ls hl => ?_)
      refine lv_goto (tgt := 151) hx hb dX7_size_163 (by decide) ?_
      exact ih _ _ _ _ _ _ ls (lv_sub hl [1, 2, 0] rfl) hw hf
def f_X7_size_L133 (cy : Nat → ClassId) : Nat → Nat → Int32 → Int32 → Mem → Option (Int32 × Mem)
  | 0, _, _, _, _ => none
  | n + 1, a0, a2, a3, μ => (rdR μ a0 6 0).bind fun q101 => (rdA cy μ 0 q101 a3).bind fun v103 => if v103 = 0 then (f_X7_size_L151 cy FU a0 a2 (a3 + 1) μ) else f_X7_size_L133 cy n a0 a2 (a3 + 1) μ
set_option maxRecDepth 100000 in
set_option maxHeartbeats 4000000 in
theorem w_X7_size_L133 {p : Program} {l : Launch} {e : Env} {s : State} {m : MethodId} {args : Array Value} {below : List Frame} {meth : Method} {c : Code} {A : Nat → Prop} {g : Wg} {L : List Nat} {r : Int32} {μ' : Mem} (hC : CX p m c cX7_size 4 s args RX7) (hr : meth.sig.returnType = (some .int)) (hlocks : meth.locks = false) : ∀ (n : Nat), ∀ (a0 : Nat) (a2 : Int32) (a3 : Int32) (μ : Mem) (H : Heap) (locs : List Loc) (ls : Array Slot), lv_has ls 4 [(0, .ref a0), (2, .int a2), (3, .int a3)] → PW g L μ A s H locs → f_X7_size_L133 g.2 n a0 a2 a3 μ = some (r, μ') → W p l e rm_X7_size s m args below meth c H locs 0 0 (MQ below (QI g L A r μ') args s 0 0 A) (F0 m 133 ls []) := by
  have hx := hC.1
  have hb := hC.2.1
  intro n
  induction n with
  | zero => intro a0 a2 a3 μ H locs ls hl hw hf; cases hf
  | succ n ih =>
    intro a0 a2 a3 μ H locs ls hl hw hf
    rw [f_X7_size_L133] at hf
    refine lv_aload_n hx hb dX7_size_133 rfl (lv_at hl 0 rfl) ?_
    obtain ⟨q101, h102, hf⟩ := o_bind hf
    refine pw_get hC fl_X7_45 hw (rdR_F h102) dX7_size_134 ?_
    refine lv_iload_n hx hb dX7_size_137 rfl (lv_at hl 2 rfl) ?_
    obtain ⟨v103, h104, hf⟩ := o_bind hf
    refine pw_bald hC hw h104 dX7_size_138 ?_
    refine lv_if_eq (tgt := 148) hx hb dX7_size_139 (by decide) (fun c105 => ?_) (fun c105 => ?_)
    · have hf := o_pos c105 hf
      refine lv_iinc (v := (a3 + 1)) (lv' := [(3, .int (a3 + 1)), (0, .ref a0), (2, .int a2)]) hx hb dX7_size_148 hl (k := 2) rfl (by first | rfl | decide +kernel) (by decide) rfl (fun ls hl => ?_)
      exact w_X7_size_L151 hC hr hlocks FU _ _ _ _ _ _ ls (lv_sub hl [1, 2, 0] rfl) hw hf
    · have hf := o_neg c105 hf
      refine lv_iinc (v := (a3 + 1)) (lv' := [(3, .int (a3 + 1)), (0, .ref a0), (2, .int a2)]) hx hb dX7_size_142 hl (k := 2) rfl (by first | rfl | decide +kernel) (by decide) rfl (fun ls hl => ?_)
      refine lv_goto (tgt := 133) hx hb dX7_size_145 (by decide) ?_
      exact ih _ _ _ _ _ _ ls (lv_sub hl [1, 2, 0] rfl) hw hf
def f_X7_size (cy : Nat → ClassId) (a0 : Nat) (a1 : Int32) (a2 : Int32) (μ : Mem) : Option (Int32 × Mem) :=
  if Int32.toInt a1 < 1 ∨ 19 < Int32.toInt a1 then (some (0, μ)) else if a1 = 1 ∨ a1 = 9 ∨ a1 = 17 ∨ a1 = 18 then (some (8, μ)) else if a1 = 2 ∨ a1 = 13 ∨ a1 = 14 then ((rdR μ a0 6 0).bind fun q4 => ob2 (f_X8_intAt cy q4 a2 μ) fun r8 μ7 => some ((4 + r8), μ7)) else if a1 = 3 ∨ a1 = 4 ∨ a1 = 15 then ((rdR μ a0 6 0).bind fun q10 => ob2 (f_X8_intAt cy q10 a2 μ) fun r14 μ13 => some (r14, μ13)) else if a1 = 5 then ((rdR μ a0 6 0).bind fun q16 => ob2 (f_X8_intAt cy q16 a2 μ) fun r20 μ19 => some ((5 + r20), μ19)) else if a1 = 6 ∨ a1 = 10 then (some (0, μ)) else if a1 = 7 then (some (12, μ)) else if a1 = 8 then (some (1, μ)) else if a1 = 11 then (f_X7_size_L133 cy FU a0 a2 a2 μ) else if a1 = 12 then ((rdR μ a0 6 0).bind fun q26 => ob2 (f_X8_intAt cy q26 a2 μ) fun r30 μ29 => some ((16 + r30), μ29)) else if a1 = 16 then (some (4, μ)) else if a1 = 19 then (some (16, μ)) else none
set_option maxRecDepth 100000 in
set_option maxHeartbeats 4000000 in
theorem c_X7_size {l : Launch} {g : Wg} {L : List Nat} {μ : Mem} {a0 : Nat} {a1 : Int32} {a2 : Int32} {r : Int32} {μ' : Mem} (hf : f_X7_size g.2 a0 a1 a2 μ = some (r, μ')) : MetI l yX7_size cX7_size 4 (some .int) rm_X7_size g L μ [.ref a0, .int a1, .int a2] r μ' := by
  refine pw_met (Qc := fun A => QI g L A r μ') (by decide) (Nat.le_of_ble_eq_true rfl) ?_
  intro p e s m args below meth c A ls H locs hC hr hlocks hl hw
  have hx := hC.1
  have hb := hC.2.1
  have hl : lv_has ls 4 [(0, .ref a0), (1, .int a1), (2, .int a2)] := hl
  unfold f_X7_size at hf
  refine lv_iload_n hx hb dX7_size_0 rfl (lv_at hl 1 rfl) ?_
  rcases o_if hf with ⟨c1, hf⟩ | ⟨c1, hf⟩
  · refine lv_tableOut (tgt := 189) hx hb dX7_size_1 c1 (by decide) ?_
    refine lv_iconst (v := 0) hx hb dX7_size_189 nc_iconst_0 ?_
    obtain ⟨rfl, rfl⟩ := o_ret hf
    exact pw_iret hC hr hlocks hw dX7_size_190
  · rcases o_if hf with ⟨c2, hf⟩ | ⟨-, hf⟩
    · have hj : W p l e rm_X7_size s m args below meth c H locs 0 0 (MQ below (QI g L A r μ') args s 0 0 A) (F0 m 92 ls []) := by
        refine lv_bipush (v := 8) hx hb dX7_size_92 nc_bipush_8 ?_
        obtain ⟨rfl, rfl⟩ := o_ret hf
        exact pw_iret hC hr hlocks hw dX7_size_94
      rcases c2 with c2 | c2 | c2 | c2
      · exact lv_tableIn (tgt := 92) hx hb dX7_size_1 (by rw [c2]; decide) (by rw [c2]; decide) (by rw [c2]; rfl) (by decide) hj
      · exact lv_tableIn (tgt := 92) hx hb dX7_size_1 (by rw [c2]; decide) (by rw [c2]; decide) (by rw [c2]; rfl) (by decide) hj
      · exact lv_tableIn (tgt := 92) hx hb dX7_size_1 (by rw [c2]; decide) (by rw [c2]; decide) (by rw [c2]; rfl) (by decide) hj
      · exact lv_tableIn (tgt := 92) hx hb dX7_size_1 (by rw [c2]; decide) (by rw [c2]; decide) (by rw [c2]; rfl) (by decide) hj
    · rcases o_if hf with ⟨c3, hf⟩ | ⟨-, hf⟩
      · have hj : W p l e rm_X7_size s m args below meth c H locs 0 0 (MQ below (QI g L A r μ') args s 0 0 A) (F0 m 95 ls []) := by
          refine lv_iconst (v := 4) hx hb dX7_size_95 nc_iconst_4 ?_
          refine lv_aload_n hx hb dX7_size_96 rfl (lv_at hl 0 rfl) ?_
          obtain ⟨q4, h5, hf⟩ := o_bind hf
          refine pw_get hC fl_X7_45 hw (rdR_F h5) dX7_size_97 ?_
          refine lv_iload_n hx hb dX7_size_100 rfl (lv_at hl 2 rfl) ?_
          obtain ⟨r8, μ7, h6, hf⟩ := o_bind2 hf
          refine pw_goI hw (pw_runSN (As := [.ref q4, .int a2]) (rest := [.int 4]) hC mm_X8_intAt tw_1333 (c_X8_intAt h6 _) ⟨rfl, rfl, by decide, by decide⟩ hw rfl hl.1 (Nat.le_of_ble_eq_true rfl) ⟨Nat.zero_le _, Nat.zero_le _⟩ rfl dX7_size_101) (fun H locs hw => ?_)
          refine lv_iadd hx hb dX7_size_104 ?_
          obtain ⟨rfl, rfl⟩ := o_ret hf
          exact pw_iret hC hr hlocks hw dX7_size_105
        rcases c3 with c3 | c3 | c3
        · exact lv_tableIn (tgt := 95) hx hb dX7_size_1 (by rw [c3]; decide) (by rw [c3]; decide) (by rw [c3]; rfl) (by decide) hj
        · exact lv_tableIn (tgt := 95) hx hb dX7_size_1 (by rw [c3]; decide) (by rw [c3]; decide) (by rw [c3]; rfl) (by decide) hj
        · exact lv_tableIn (tgt := 95) hx hb dX7_size_1 (by rw [c3]; decide) (by rw [c3]; decide) (by rw [c3]; rfl) (by decide) hj
      · rcases o_if hf with ⟨c9, hf⟩ | ⟨-, hf⟩
        · have hj : W p l e rm_X7_size s m args below meth c H locs 0 0 (MQ below (QI g L A r μ') args s 0 0 A) (F0 m 106 ls []) := by
            refine lv_aload_n hx hb dX7_size_106 rfl (lv_at hl 0 rfl) ?_
            obtain ⟨q10, h11, hf⟩ := o_bind hf
            refine pw_get hC fl_X7_45 hw (rdR_F h11) dX7_size_107 ?_
            refine lv_iload_n hx hb dX7_size_110 rfl (lv_at hl 2 rfl) ?_
            obtain ⟨r14, μ13, h12, hf⟩ := o_bind2 hf
            refine pw_goI hw (pw_runSN (As := [.ref q10, .int a2]) (rest := []) hC mm_X8_intAt tw_1333 (c_X8_intAt h12 _) ⟨rfl, rfl, by decide, by decide⟩ hw rfl hl.1 (Nat.le_of_ble_eq_true rfl) ⟨Nat.zero_le _, Nat.zero_le _⟩ rfl dX7_size_111) (fun H locs hw => ?_)
            obtain ⟨rfl, rfl⟩ := o_ret hf
            exact pw_iret hC hr hlocks hw dX7_size_114
          rcases c9 with c9 | c9 | c9
          · exact lv_tableIn (tgt := 106) hx hb dX7_size_1 (by rw [c9]; decide) (by rw [c9]; decide) (by rw [c9]; rfl) (by decide) hj
          · exact lv_tableIn (tgt := 106) hx hb dX7_size_1 (by rw [c9]; decide) (by rw [c9]; decide) (by rw [c9]; rfl) (by decide) hj
          · exact lv_tableIn (tgt := 106) hx hb dX7_size_1 (by rw [c9]; decide) (by rw [c9]; decide) (by rw [c9]; rfl) (by decide) hj
        · rcases o_if hf with ⟨c15, hf⟩ | ⟨-, hf⟩
          · refine lv_tableIn (tgt := 115) hx hb dX7_size_1 (by rw [c15]; decide) (by rw [c15]; decide) (by rw [c15]; rfl) (by decide) ?_
            refine lv_iconst (v := 5) hx hb dX7_size_115 nc_iconst_5 ?_
            refine lv_aload_n hx hb dX7_size_116 rfl (lv_at hl 0 rfl) ?_
            obtain ⟨q16, h17, hf⟩ := o_bind hf
            refine pw_get hC fl_X7_45 hw (rdR_F h17) dX7_size_117 ?_
            refine lv_iload_n hx hb dX7_size_120 rfl (lv_at hl 2 rfl) ?_
            obtain ⟨r20, μ19, h18, hf⟩ := o_bind2 hf
            refine pw_goI hw (pw_runSN (As := [.ref q16, .int a2]) (rest := [.int 5]) hC mm_X8_intAt tw_1333 (c_X8_intAt h18 _) ⟨rfl, rfl, by decide, by decide⟩ hw rfl hl.1 (Nat.le_of_ble_eq_true rfl) ⟨Nat.zero_le _, Nat.zero_le _⟩ rfl dX7_size_121) (fun H locs hw => ?_)
            refine lv_iadd hx hb dX7_size_124 ?_
            obtain ⟨rfl, rfl⟩ := o_ret hf
            exact pw_iret hC hr hlocks hw dX7_size_125
          · rcases o_if hf with ⟨c21, hf⟩ | ⟨-, hf⟩
            · have hj : W p l e rm_X7_size s m args below meth c H locs 0 0 (MQ below (QI g L A r μ') args s 0 0 A) (F0 m 189 ls []) := by
                refine lv_iconst (v := 0) hx hb dX7_size_189 nc_iconst_0 ?_
                obtain ⟨rfl, rfl⟩ := o_ret hf
                exact pw_iret hC hr hlocks hw dX7_size_190
              rcases c21 with c21 | c21
              · exact lv_tableIn (tgt := 189) hx hb dX7_size_1 (by rw [c21]; decide) (by rw [c21]; decide) (by rw [c21]; rfl) (by decide) hj
              · exact lv_tableIn (tgt := 189) hx hb dX7_size_1 (by rw [c21]; decide) (by rw [c21]; decide) (by rw [c21]; rfl) (by decide) hj
            · rcases o_if hf with ⟨c22, hf⟩ | ⟨-, hf⟩
              · refine lv_tableIn (tgt := 126) hx hb dX7_size_1 (by rw [c22]; decide) (by rw [c22]; decide) (by rw [c22]; rfl) (by decide) ?_
                refine lv_bipush (v := 12) hx hb dX7_size_126 nc_bipush_12 ?_
                obtain ⟨rfl, rfl⟩ := o_ret hf
                exact pw_iret hC hr hlocks hw dX7_size_128
              · rcases o_if hf with ⟨c23, hf⟩ | ⟨-, hf⟩
                · refine lv_tableIn (tgt := 129) hx hb dX7_size_1 (by rw [c23]; decide) (by rw [c23]; decide) (by rw [c23]; rfl) (by decide) ?_
                  refine lv_iconst (v := 1) hx hb dX7_size_129 nc_iconst_1 ?_
                  obtain ⟨rfl, rfl⟩ := o_ret hf
                  exact pw_iret hC hr hlocks hw dX7_size_130
                · rcases o_if hf with ⟨c24, hf⟩ | ⟨-, hf⟩
                  · refine lv_tableIn (tgt := 131) hx hb dX7_size_1 (by rw [c24]; decide) (by rw [c24]; decide) (by rw [c24]; rfl) (by decide) ?_
                    refine lv_iload_n hx hb dX7_size_131 rfl (lv_at hl 2 rfl) ?_
                    refine lv_istore_n (lv' := [(3, .int a2), (0, .ref a0), (1, .int a1), (2, .int a2)]) hx hb dX7_size_132 rfl hl (by decide) rfl (fun ls hl => ?_)
                    exact w_X7_size_L133 hC hr hlocks FU _ _ _ _ _ _ ls (lv_sub hl [1, 3, 0] rfl) hw hf
                  · rcases o_if hf with ⟨c25, hf⟩ | ⟨-, hf⟩
                    · refine lv_tableIn (tgt := 172) hx hb dX7_size_1 (by rw [c25]; decide) (by rw [c25]; decide) (by rw [c25]; rfl) (by decide) ?_
                      refine lv_bipush (v := 16) hx hb dX7_size_172 nc_bipush_16 ?_
                      refine lv_aload_n hx hb dX7_size_174 rfl (lv_at hl 0 rfl) ?_
                      obtain ⟨q26, h27, hf⟩ := o_bind hf
                      refine pw_get hC fl_X7_45 hw (rdR_F h27) dX7_size_175 ?_
                      refine lv_iload_n hx hb dX7_size_178 rfl (lv_at hl 2 rfl) ?_
                      obtain ⟨r30, μ29, h28, hf⟩ := o_bind2 hf
                      refine pw_goI hw (pw_runSN (As := [.ref q26, .int a2]) (rest := [.int 16]) hC mm_X8_intAt tw_1333 (c_X8_intAt h28 _) ⟨rfl, rfl, by decide, by decide⟩ hw rfl hl.1 (Nat.le_of_ble_eq_true rfl) ⟨Nat.zero_le _, Nat.zero_le _⟩ rfl dX7_size_179) (fun H locs hw => ?_)
                      refine lv_iadd hx hb dX7_size_182 ?_
                      obtain ⟨rfl, rfl⟩ := o_ret hf
                      exact pw_iret hC hr hlocks hw dX7_size_183
                    · rcases o_if hf with ⟨c31, hf⟩ | ⟨-, hf⟩
                      · refine lv_tableIn (tgt := 184) hx hb dX7_size_1 (by rw [c31]; decide) (by rw [c31]; decide) (by rw [c31]; rfl) (by decide) ?_
                        refine lv_iconst (v := 4) hx hb dX7_size_184 nc_iconst_4 ?_
                        obtain ⟨rfl, rfl⟩ := o_ret hf
                        exact pw_iret hC hr hlocks hw dX7_size_185
                      · rcases o_if hf with ⟨c32, hf⟩ | ⟨-, hf⟩
                        · refine lv_tableIn (tgt := 186) hx hb dX7_size_1 (by rw [c32]; decide) (by rw [c32]; decide) (by rw [c32]; rfl) (by decide) ?_
                          refine lv_bipush (v := 16) hx hb dX7_size_186 nc_bipush_16 ?_
                          obtain ⟨rfl, rfl⟩ := o_ret hf
                          exact pw_iret hC hr hlocks hw dX7_size_188
                        · cases hf
theorem dX7_child_0 : decode cX7_child 0 = .ok (.aload_n 0, 1) := by decide +kernel
theorem dX7_child_1 : decode cX7_child 1 = .ok (.getfield 18, 3) := by decide +kernel
theorem dX7_child_4 : decode cX7_child 4 = .ok (.iload_n 1, 1) := by decide +kernel
theorem dX7_child_5 : decode cX7_child 5 = .ok (.iaload, 1) := by decide +kernel
theorem dX7_child_6 : decode cX7_child 6 = .ok (.istore_n 3, 1) := by decide +kernel
theorem dX7_child_7 : decode cX7_child 7 = .ok (.iconst 0, 1) := by decide +kernel
theorem dX7_child_8 : decode cX7_child 8 = .ok (.istore 4, 2) := by decide +kernel
theorem dX7_child_10 : decode cX7_child 10 = .ok (.iload 4, 2) := by decide +kernel
theorem dX7_child_12 : decode cX7_child 12 = .ok (.iload_n 2, 1) := by decide +kernel
theorem dX7_child_13 : decode cX7_child 13 = .ok (.if_icmp .ge 16, 3) := by decide +kernel
theorem dX7_child_16 : decode cX7_child 16 = .ok (.aload_n 0, 1) := by decide +kernel
theorem dX7_child_17 : decode cX7_child 17 = .ok (.getfield 21, 3) := by decide +kernel
theorem dX7_child_20 : decode cX7_child 20 = .ok (.iload_n 3, 1) := by decide +kernel
theorem dX7_child_21 : decode cX7_child 21 = .ok (.iaload, 1) := by decide +kernel
theorem dX7_child_22 : decode cX7_child 22 = .ok (.istore_n 3, 1) := by decide +kernel
theorem dX7_child_23 : decode cX7_child 23 = .ok (.iinc 4 1, 3) := by decide +kernel
theorem dX7_child_26 : decode cX7_child 26 = .ok (.goto (-16), 3) := by decide +kernel
theorem dX7_child_29 : decode cX7_child 29 = .ok (.iload_n 3, 1) := by decide +kernel
theorem dX7_child_30 : decode cX7_child 30 = .ok (.ireturn, 1) := by decide +kernel
abbrev rm_X7_child : Room := { frames := 0, cells := 0, slots := 0, locals := 0 }
def f_X7_child_L10 (cy : Nat → ClassId) : Nat → Nat → Int32 → Int32 → Int32 → Mem → Option (Int32 × Mem)
  | 0, _, _, _, _, _ => none
  | n + 1, a0, a2, a3, a4, μ => if a2 ≤ a4 then (some (a3, μ)) else (rdR μ a0 6 5).bind fun q102 => (rdA cy μ 1 q102 a3).bind fun v104 => f_X7_child_L10 cy n a0 a2 v104 (a4 + 1) μ
set_option maxRecDepth 100000 in
set_option maxHeartbeats 4000000 in
theorem w_X7_child_L10 {p : Program} {l : Launch} {e : Env} {s : State} {m : MethodId} {args : Array Value} {below : List Frame} {meth : Method} {c : Code} {A : Nat → Prop} {g : Wg} {L : List Nat} {r : Int32} {μ' : Mem} (hC : CX p m c cX7_child 5 s args RX7) (hr : meth.sig.returnType = (some .int)) (hlocks : meth.locks = false) : ∀ (n : Nat), ∀ (a0 : Nat) (a2 : Int32) (a3 : Int32) (a4 : Int32) (μ : Mem) (H : Heap) (locs : List Loc) (ls : Array Slot), lv_has ls 5 [(0, .ref a0), (2, .int a2), (3, .int a3), (4, .int a4)] → PW g L μ A s H locs → f_X7_child_L10 g.2 n a0 a2 a3 a4 μ = some (r, μ') → W p l e rm_X7_child s m args below meth c H locs 0 0 (MQ below (QI g L A r μ') args s 0 0 A) (F0 m 10 ls []) := by
  have hx := hC.1
  have hb := hC.2.1
  intro n
  induction n with
  | zero => intro a0 a2 a3 a4 μ H locs ls hl hw hf; cases hf
  | succ n ih =>
    intro a0 a2 a3 a4 μ H locs ls hl hw hf
    rw [f_X7_child_L10] at hf
    refine lv_iload hx hb dX7_child_10 (lv_at hl 3 rfl) ?_
    refine lv_iload_n hx hb dX7_child_12 rfl (lv_at hl 1 rfl) ?_
    refine lv_icmp_ge (tgt := 29) hx hb dX7_child_13 (by decide) (fun c101 => ?_) (fun c101 => ?_)
    · have hf := o_pos c101 hf
      refine lv_iload_n hx hb dX7_child_29 rfl (lv_at hl 2 rfl) ?_
      obtain ⟨rfl, rfl⟩ := o_ret hf
      exact pw_iret hC hr hlocks hw dX7_child_30
    · have hf := o_neg c101 hf
      refine lv_aload_n hx hb dX7_child_16 rfl (lv_at hl 0 rfl) ?_
      obtain ⟨q102, h103, hf⟩ := o_bind hf
      refine pw_get hC fl_X7_21 hw (rdR_F h103) dX7_child_17 ?_
      refine lv_iload_n hx hb dX7_child_20 rfl (lv_at hl 2 rfl) ?_
      obtain ⟨v104, h105, hf⟩ := o_bind hf
      refine pw_iald hC hw h105 dX7_child_21 ?_
      refine lv_istore_n (lv' := [(3, .int v104), (0, .ref a0), (2, .int a2), (4, .int a4)]) hx hb dX7_child_22 rfl hl (by decide) rfl (fun ls hl => ?_)
      refine lv_iinc (v := (a4 + 1)) (lv' := [(4, .int (a4 + 1)), (3, .int v104), (0, .ref a0), (2, .int a2)]) hx hb dX7_child_23 hl (k := 3) rfl (by first | rfl | decide +kernel) (by decide) rfl (fun ls hl => ?_)
      refine lv_goto (tgt := 10) hx hb dX7_child_26 (by decide) ?_
      exact ih _ _ _ _ _ _ _ ls (lv_sub hl [2, 3, 1, 0] rfl) hw hf
def f_X7_child (cy : Nat → ClassId) (a0 : Nat) (a1 : Int32) (a2 : Int32) (μ : Mem) : Option (Int32 × Mem) :=
  (rdR μ a0 6 4).bind fun q1 => (rdA cy μ 1 q1 a1).bind fun v3 => f_X7_child_L10 cy FU a0 a2 v3 0 μ
set_option maxRecDepth 100000 in
set_option maxHeartbeats 4000000 in
theorem c_X7_child {l : Launch} {g : Wg} {L : List Nat} {μ : Mem} {a0 : Nat} {a1 : Int32} {a2 : Int32} {r : Int32} {μ' : Mem} (hf : f_X7_child g.2 a0 a1 a2 μ = some (r, μ')) : MetI l yX7_child cX7_child 5 (some .int) rm_X7_child g L μ [.ref a0, .int a1, .int a2] r μ' := by
  refine pw_met (Qc := fun A => QI g L A r μ') (by decide) (Nat.le_of_ble_eq_true rfl) ?_
  intro p e s m args below meth c A ls H locs hC hr hlocks hl hw
  have hx := hC.1
  have hb := hC.2.1
  have hl : lv_has ls 5 [(0, .ref a0), (1, .int a1), (2, .int a2)] := hl
  unfold f_X7_child at hf
  refine lv_aload_n hx hb dX7_child_0 rfl (lv_at hl 0 rfl) ?_
  obtain ⟨q1, h2, hf⟩ := o_bind hf
  refine pw_get hC fl_X7_18 hw (rdR_F h2) dX7_child_1 ?_
  refine lv_iload_n hx hb dX7_child_4 rfl (lv_at hl 1 rfl) ?_
  obtain ⟨v3, h4, hf⟩ := o_bind hf
  refine pw_iald hC hw h4 dX7_child_5 ?_
  refine lv_istore_n (lv' := [(3, .int v3), (0, .ref a0), (1, .int a1), (2, .int a2)]) hx hb dX7_child_6 rfl hl (by decide) rfl (fun ls hl => ?_)
  refine lv_iconst (v := 0) hx hb dX7_child_7 nc_iconst_0 ?_
  refine lv_istore (lv' := [(4, .int 0), (3, .int v3), (0, .ref a0), (1, .int a1), (2, .int a2)]) hx hb dX7_child_8 hl (by decide) rfl (fun ls hl => ?_)
  exact w_X7_child_L10 hC hr hlocks FU _ _ _ _ _ _ _ ls (lv_sub hl [2, 4, 1, 0] rfl) hw hf
abbrev rm_TR (d : Nat) : Room := { frames := 2 + d, cells := 0, slots := 0, locals := 44 + 25 * d }
theorem fit_TR (d : Nat) {nL : Nat} (h : nL ≤ 6) : fitR (rm_TR (d + 1)) (rm_TR d) nL := ⟨rfl, rfl, by show 2 + d + 1 ≤ 2 + (d + 1); omega, by show 8 + (nL + 11) + (44 + 25 * d) ≤ 44 + 25 * (d + 1); omega⟩
theorem fio_TR (d : Nat) {rm : Room} {nL : Nat} (h : rm.cells = 0 ∧ rm.slots = 0 ∧ rm.frames + 1 ≤ 2 ∧ 8 + (nL + 11) + rm.locals ≤ 44) : fitR (rm_TR (d + 1)) rm nL := ⟨h.1, h.2.1, by have := h.2.2.1; show rm.frames + 1 ≤ 2 + (d + 1); omega, by have := h.2.2.2; show 8 + (nL + 11) + rm.locals ≤ 44 + 25 * (d + 1); omega⟩
theorem fim_TR (d : Nat) : 1 ≤ (rm_TR (d + 1)).frames ∧ 40 ≤ (rm_TR (d + 1)).locals := ⟨by show 1 ≤ 2 + (d + 1); omega, by show 40 ≤ 44 + 25 * (d + 1); omega⟩
theorem dX7_readDoc_0 : decode cX7_readDoc 0 = .ok (.aload_n 0, 1) := by decide +kernel
theorem dX7_readDoc_1 : decode cX7_readDoc 1 = .ok (.getfield 36, 3) := by decide +kernel
theorem dX7_readDoc_4 : decode cX7_readDoc 4 = .ok (.iload_n 1, 1) := by decide +kernel
theorem dX7_readDoc_5 : decode cX7_readDoc 5 = .ok (.iaload, 1) := by decide +kernel
theorem dX7_readDoc_6 : decode cX7_readDoc 6 = .ok (.aload_n 0, 1) := by decide +kernel
theorem dX7_readDoc_7 : decode cX7_readDoc 7 = .ok (.getfield 45, 3) := by decide +kernel
theorem dX7_readDoc_10 : decode cX7_readDoc 10 = .ok (.aload_n 0, 1) := by decide +kernel
theorem dX7_readDoc_11 : decode cX7_readDoc 11 = .ok (.getfield 36, 3) := by decide +kernel
theorem dX7_readDoc_14 : decode cX7_readDoc 14 = .ok (.iload_n 1, 1) := by decide +kernel
theorem dX7_readDoc_15 : decode cX7_readDoc 15 = .ok (.iaload, 1) := by decide +kernel
theorem dX7_readDoc_16 : decode cX7_readDoc 16 = .ok (.invokestatic 57, 3) := by decide +kernel
theorem dX7_readDoc_19 : decode cX7_readDoc 19 = .ok (.iadd, 1) := by decide +kernel
theorem dX7_readDoc_20 : decode cX7_readDoc 20 = .ok (.iconst 1, 1) := by decide +kernel
theorem dX7_readDoc_21 : decode cX7_readDoc 21 = .ok (.isub, 1) := by decide +kernel
theorem dX7_readDoc_22 : decode cX7_readDoc 22 = .ok (.istore_n 2, 1) := by decide +kernel
theorem dX7_readDoc_23 : decode cX7_readDoc 23 = .ok (.aload_n 0, 1) := by decide +kernel
theorem dX7_readDoc_24 : decode cX7_readDoc 24 = .ok (.getfield 36, 3) := by decide +kernel
theorem dX7_readDoc_27 : decode cX7_readDoc 27 = .ok (.iload_n 1, 1) := by decide +kernel
theorem dX7_readDoc_28 : decode cX7_readDoc 28 = .ok (.iaload, 1) := by decide +kernel
theorem dX7_readDoc_29 : decode cX7_readDoc 29 = .ok (.iconst 4, 1) := by decide +kernel
theorem dX7_readDoc_30 : decode cX7_readDoc 30 = .ok (.iadd, 1) := by decide +kernel
theorem dX7_readDoc_31 : decode cX7_readDoc 31 = .ok (.istore_n 3, 1) := by decide +kernel
theorem dX7_readDoc_32 : decode cX7_readDoc 32 = .ok (.iconst (-1), 1) := by decide +kernel
theorem dX7_readDoc_33 : decode cX7_readDoc 33 = .ok (.istore 4, 2) := by decide +kernel
theorem dX7_readDoc_35 : decode cX7_readDoc 35 = .ok (.aload_n 0, 1) := by decide +kernel
theorem dX7_readDoc_36 : decode cX7_readDoc 36 = .ok (.getfield 39, 3) := by decide +kernel
theorem dX7_readDoc_39 : decode cX7_readDoc 39 = .ok (.iload_n 1, 1) := by decide +kernel
theorem dX7_readDoc_40 : decode cX7_readDoc 40 = .ok (.iconst 0, 1) := by decide +kernel
theorem dX7_readDoc_41 : decode cX7_readDoc 41 = .ok (.iastore, 1) := by decide +kernel
theorem dX7_readDoc_42 : decode cX7_readDoc 42 = .ok (.aload_n 0, 1) := by decide +kernel
theorem dX7_readDoc_43 : decode cX7_readDoc 43 = .ok (.getfield 18, 3) := by decide +kernel
theorem dX7_readDoc_46 : decode cX7_readDoc 46 = .ok (.iload_n 1, 1) := by decide +kernel
theorem dX7_readDoc_47 : decode cX7_readDoc 47 = .ok (.iconst (-1), 1) := by decide +kernel
theorem dX7_readDoc_48 : decode cX7_readDoc 48 = .ok (.iastore, 1) := by decide +kernel
theorem dX7_readDoc_49 : decode cX7_readDoc 49 = .ok (.iload_n 3, 1) := by decide +kernel
theorem dX7_readDoc_50 : decode cX7_readDoc 50 = .ok (.iload_n 2, 1) := by decide +kernel
theorem dX7_readDoc_51 : decode cX7_readDoc 51 = .ok (.if_icmp .ge 85, 3) := by decide +kernel
theorem dX7_readDoc_54 : decode cX7_readDoc 54 = .ok (.aload_n 0, 1) := by decide +kernel
theorem dX7_readDoc_55 : decode cX7_readDoc 55 = .ok (.getfield 49, 3) := by decide +kernel
theorem dX7_readDoc_58 : decode cX7_readDoc 58 = .ok (.istore 5, 2) := by decide +kernel
theorem dX7_readDoc_60 : decode cX7_readDoc 60 = .ok (.aload_n 0, 1) := by decide +kernel
theorem dX7_readDoc_61 : decode cX7_readDoc 61 = .ok (.dup, 1) := by decide +kernel
theorem dX7_readDoc_62 : decode cX7_readDoc 62 = .ok (.getfield 49, 3) := by decide +kernel
theorem dX7_readDoc_65 : decode cX7_readDoc 65 = .ok (.iconst 1, 1) := by decide +kernel
theorem dX7_readDoc_66 : decode cX7_readDoc 66 = .ok (.iadd, 1) := by decide +kernel
theorem dX7_readDoc_67 : decode cX7_readDoc 67 = .ok (.putfield 49, 3) := by decide +kernel
theorem dX7_readDoc_70 : decode cX7_readDoc 70 = .ok (.iload 4, 2) := by decide +kernel
theorem dX7_readDoc_72 : decode cX7_readDoc 72 = .ok (.ifCond .ge 14, 3) := by decide +kernel
theorem dX7_readDoc_75 : decode cX7_readDoc 75 = .ok (.aload_n 0, 1) := by decide +kernel
theorem dX7_readDoc_76 : decode cX7_readDoc 76 = .ok (.getfield 18, 3) := by decide +kernel
theorem dX7_readDoc_79 : decode cX7_readDoc 79 = .ok (.iload_n 1, 1) := by decide +kernel
theorem dX7_readDoc_80 : decode cX7_readDoc 80 = .ok (.iload 5, 2) := by decide +kernel
theorem dX7_readDoc_82 : decode cX7_readDoc 82 = .ok (.iastore, 1) := by decide +kernel
theorem dX7_readDoc_83 : decode cX7_readDoc 83 = .ok (.goto 12, 3) := by decide +kernel
theorem dX7_readDoc_86 : decode cX7_readDoc 86 = .ok (.aload_n 0, 1) := by decide +kernel
theorem dX7_readDoc_87 : decode cX7_readDoc 87 = .ok (.getfield 21, 3) := by decide +kernel
theorem dX7_readDoc_90 : decode cX7_readDoc 90 = .ok (.iload 4, 2) := by decide +kernel
theorem dX7_readDoc_92 : decode cX7_readDoc 92 = .ok (.iload 5, 2) := by decide +kernel
theorem dX7_readDoc_94 : decode cX7_readDoc 94 = .ok (.iastore, 1) := by decide +kernel
theorem dX7_readDoc_95 : decode cX7_readDoc 95 = .ok (.aload_n 0, 1) := by decide +kernel
theorem dX7_readDoc_96 : decode cX7_readDoc 96 = .ok (.getfield 21, 3) := by decide +kernel
theorem dX7_readDoc_99 : decode cX7_readDoc 99 = .ok (.iload 5, 2) := by decide +kernel
theorem dX7_readDoc_101 : decode cX7_readDoc 101 = .ok (.iconst (-1), 1) := by decide +kernel
theorem dX7_readDoc_102 : decode cX7_readDoc 102 = .ok (.iastore, 1) := by decide +kernel
theorem dX7_readDoc_103 : decode cX7_readDoc 103 = .ok (.iload 5, 2) := by decide +kernel
theorem dX7_readDoc_105 : decode cX7_readDoc 105 = .ok (.istore 4, 2) := by decide +kernel
theorem dX7_readDoc_107 : decode cX7_readDoc 107 = .ok (.aload_n 0, 1) := by decide +kernel
theorem dX7_readDoc_108 : decode cX7_readDoc 108 = .ok (.getfield 39, 3) := by decide +kernel
theorem dX7_readDoc_111 : decode cX7_readDoc 111 = .ok (.iload_n 1, 1) := by decide +kernel
theorem dX7_readDoc_112 : decode cX7_readDoc 112 = .ok (.dup2, 1) := by decide +kernel
theorem dX7_readDoc_113 : decode cX7_readDoc 113 = .ok (.iaload, 1) := by decide +kernel
theorem dX7_readDoc_114 : decode cX7_readDoc 114 = .ok (.iconst 1, 1) := by decide +kernel
theorem dX7_readDoc_115 : decode cX7_readDoc 115 = .ok (.iadd, 1) := by decide +kernel
theorem dX7_readDoc_116 : decode cX7_readDoc 116 = .ok (.iastore, 1) := by decide +kernel
theorem dX7_readDoc_117 : decode cX7_readDoc 117 = .ok (.aload_n 0, 1) := by decide +kernel
theorem dX7_readDoc_118 : decode cX7_readDoc 118 = .ok (.getfield 15, 3) := by decide +kernel
theorem dX7_readDoc_121 : decode cX7_readDoc 121 = .ok (.iload 5, 2) := by decide +kernel
theorem dX7_readDoc_123 : decode cX7_readDoc 123 = .ok (.iload_n 1, 1) := by decide +kernel
theorem dX7_readDoc_124 : decode cX7_readDoc 124 = .ok (.iastore, 1) := by decide +kernel
theorem dX7_readDoc_125 : decode cX7_readDoc 125 = .ok (.aload_n 0, 1) := by decide +kernel
theorem dX7_readDoc_126 : decode cX7_readDoc 126 = .ok (.iload 5, 2) := by decide +kernel
theorem dX7_readDoc_128 : decode cX7_readDoc 128 = .ok (.iload_n 3, 1) := by decide +kernel
theorem dX7_readDoc_129 : decode cX7_readDoc 129 = .ok (.invokevirtual 61, 3) := by decide +kernel
theorem dX7_readDoc_132 : decode cX7_readDoc 132 = .ok (.istore_n 3, 1) := by decide +kernel
theorem dX7_readDoc_133 : decode cX7_readDoc 133 = .ok (.goto (-84), 3) := by decide +kernel
theorem dX7_readDoc_136 : decode cX7_readDoc 136 = .ok (.return_, 1) := by decide +kernel
def f_X7_readDoc_L95 (cy : Nat → ClassId) (r_X7_readElement : Nat → Int32 → Int32 → Mem → Option (Int32 × Mem)) (k49 : Nat → Int32 → Int32 → Int32 → Int32 → Mem → Option Mem) (a0 : Nat) (a1 : Int32) (a2 : Int32) (a3 : Int32) (a5 : Int32) (μ : Mem) : Option Mem :=
  (rdR μ a0 6 5).bind fun q101 => (wrA cy μ 1 q101 a5 (-1)).bind fun μ103 => (rdR μ103 a0 6 11).bind fun q105 => (rdA cy μ103 1 q105 a1).bind fun v107 => (wrA cy μ103 1 q105 a1 (v107 + 1)).bind fun μ109 => (rdR μ109 a0 6 3).bind fun q111 => (wrA cy μ109 1 q111 a5 a1).bind fun μ113 => if isO μ113 a0 6 = true then (ob2 (r_X7_readElement a0 a5 a3 μ113) fun r118 μ117 => k49 a0 a1 a2 r118 a5 μ117) else none
set_option maxRecDepth 100000 in
set_option maxHeartbeats 4000000 in
theorem w_X7_readDoc_L95 {p : Program} {l : Launch} {e : Env} {s : State} {m : MethodId} {args : Array Value} {below : List Frame} {meth : Method} {c : Code} {A : Nat → Prop} {g : Wg} {L : List Nat} {μ' : Mem} (hC : CX p m c cX7_readDoc 6 s args RX7) (hr : meth.sig.returnType = none) (hlocks : meth.locks = false) {d : Nat} {r_X7_readElement : Nat → Int32 → Int32 → Mem → Option (Int32 × Mem)} (hr_X7_readElement : ∀ {a0 : Nat} {a1 : Int32} {a2 : Int32} {μ : Mem} {r9 : Int32} {μ9 : Mem}, r_X7_readElement a0 a1 a2 μ = some (r9, μ9) → MetI l yX7_readElement cX7_readElement 4 (some .int) (rm_TR d) g L μ [.ref a0, .int a1, .int a2] r9 μ9) {k49 : Nat → Int32 → Int32 → Int32 → Int32 → Mem → Option Mem} (hk49 : ∀ (a0 : Nat) (a1 : Int32) (a2 : Int32) (a3 : Int32) (a4 : Int32) (μ : Mem) (H : Heap) (locs : List Loc) (ls : Array Slot), lv_has ls 6 [(0, .ref a0), (1, .int a1), (2, .int a2), (3, .int a3), (4, .int a4)] → PW g L μ A s H locs → k49 a0 a1 a2 a3 a4 μ = some μ' → W p l e (rm_TR (d + 1)) s m args below meth c H locs 0 0 (MQ below (QV g L A μ') args s 0 0 A) (F0 m 49 ls [])) : ∀ (a0 : Nat) (a1 : Int32) (a2 : Int32) (a3 : Int32) (a5 : Int32) (μ : Mem) (H : Heap) (locs : List Loc) (ls : Array Slot), lv_has ls 6 [(0, .ref a0), (1, .int a1), (2, .int a2), (3, .int a3), (5, .int a5)] → PW g L μ A s H locs → f_X7_readDoc_L95 g.2 r_X7_readElement k49 a0 a1 a2 a3 a5 μ = some μ' → W p l e (rm_TR (d + 1)) s m args below meth c H locs 0 0 (MQ below (QV g L A μ') args s 0 0 A) (F0 m 95 ls []) := by
  have hx := hC.1
  have hb := hC.2.1
  intro a0 a1 a2 a3 a5 μ H locs ls hl hw hf
  unfold f_X7_readDoc_L95 at hf
  refine lv_aload_n hx hb dX7_readDoc_95 rfl (lv_at hl 0 rfl) ?_
  obtain ⟨q101, h102, hf⟩ := o_bind hf
  refine pw_get hC fl_X7_21 hw (rdR_F h102) dX7_readDoc_96 ?_
  refine lv_iload hx hb dX7_readDoc_99 (lv_at hl 4 rfl) ?_
  refine lv_iconst (v := (-1)) hx hb dX7_readDoc_101 nc_iconst_m1 ?_
  obtain ⟨μ103, h104, hf⟩ := o_bind hf
  refine pw_iast hC hw h104 dX7_readDoc_102 (fun H locs hw => ?_)
  refine lv_iload hx hb dX7_readDoc_103 (lv_at hl 4 rfl) ?_
  refine lv_istore (lv' := [(4, .int a5), (0, .ref a0), (1, .int a1), (2, .int a2), (3, .int a3), (5, .int a5)]) hx hb dX7_readDoc_105 hl (by decide) rfl (fun ls hl => ?_)
  refine lv_aload_n hx hb dX7_readDoc_107 rfl (lv_at hl 1 rfl) ?_
  obtain ⟨q105, h106, hf⟩ := o_bind hf
  refine pw_get hC fl_X7_39 hw (rdR_F h106) dX7_readDoc_108 ?_
  refine lv_iload_n hx hb dX7_readDoc_111 rfl (lv_at hl 2 rfl) ?_
  refine lv_dup2_11 hx hb dX7_readDoc_112 rfl rfl ?_
  obtain ⟨v107, h108, hf⟩ := o_bind hf
  refine pw_iald hC hw h108 dX7_readDoc_113 ?_
  refine lv_iconst (v := 1) hx hb dX7_readDoc_114 nc_iconst_1 ?_
  refine lv_iadd hx hb dX7_readDoc_115 ?_
  obtain ⟨μ109, h110, hf⟩ := o_bind hf
  refine pw_iast hC hw h110 dX7_readDoc_116 (fun H locs hw => ?_)
  refine lv_aload_n hx hb dX7_readDoc_117 rfl (lv_at hl 1 rfl) ?_
  obtain ⟨q111, h112, hf⟩ := o_bind hf
  refine pw_get hC fl_X7_15 hw (rdR_F h112) dX7_readDoc_118 ?_
  refine lv_iload hx hb dX7_readDoc_121 (lv_at hl 5 rfl) ?_
  refine lv_iload_n hx hb dX7_readDoc_123 rfl (lv_at hl 2 rfl) ?_
  obtain ⟨μ113, h114, hf⟩ := o_bind hf
  refine pw_iast hC hw h114 dX7_readDoc_124 (fun H locs hw => ?_)
  refine lv_aload_n hx hb dX7_readDoc_125 rfl (lv_at hl 1 rfl) ?_
  refine lv_iload hx hb dX7_readDoc_126 (lv_at hl 5 rfl) ?_
  refine lv_iload_n hx hb dX7_readDoc_128 rfl (lv_at hl 4 rfl) ?_
  obtain ⟨h116, hf⟩ := o_ite hf
  obtain ⟨r118, μ117, h115, hf⟩ := o_bind2 hf
  refine pw_goI hw (pw_runV (As := [.int a5, .int a3]) (rest := []) hC mm_X7_readElement tw_1334 (hr_X7_readElement h115 _) (fit_TR d (by decide)) hw h116 rfl hl.1 (Nat.le_of_ble_eq_true rfl) ⟨Nat.zero_le _, Nat.zero_le _⟩ rfl dX7_readDoc_129) (fun H locs hw => ?_)
  refine lv_istore_n (lv' := [(3, .int r118), (4, .int a5), (0, .ref a0), (1, .int a1), (2, .int a2), (5, .int a5)]) hx hb dX7_readDoc_132 rfl hl (by decide) rfl (fun ls hl => ?_)
  refine lv_goto (tgt := 49) hx hb dX7_readDoc_133 (by decide) ?_
  exact hk49 _ _ _ _ _ _ _ _ ls (lv_sub hl [2, 3, 4, 0, 1] rfl) hw hf
def f_X7_readDoc_L49 (cy : Nat → ClassId) (r_X7_readElement : Nat → Int32 → Int32 → Mem → Option (Int32 × Mem)) : Nat → Nat → Int32 → Int32 → Int32 → Int32 → Mem → Option Mem
  | 0, _, _, _, _, _, _ => none
  | n + 1, a0, a1, a2, a3, a4, μ => if a2 ≤ a3 then (some μ) else (rdI μ a0 6 1).bind fun v102 => (rdI μ a0 6 1).bind fun v104 => (wrF μ a0 6 1 (.int (v104 + 1))).bind fun μ106 => if 0 ≤ a4 then ((rdR μ106 a0 6 5).bind fun q109 => (wrA cy μ106 1 q109 a4 v102).bind fun μ111 => f_X7_readDoc_L95 cy r_X7_readElement (f_X7_readDoc_L49 cy r_X7_readElement n) a0 a1 a2 a3 v102 μ111) else (rdR μ106 a0 6 4).bind fun q113 => (wrA cy μ106 1 q113 a1 v102).bind fun μ115 => f_X7_readDoc_L95 cy r_X7_readElement (f_X7_readDoc_L49 cy r_X7_readElement n) a0 a1 a2 a3 v102 μ115
set_option maxRecDepth 100000 in
set_option maxHeartbeats 4000000 in
theorem w_X7_readDoc_L49 {p : Program} {l : Launch} {e : Env} {s : State} {m : MethodId} {args : Array Value} {below : List Frame} {meth : Method} {c : Code} {A : Nat → Prop} {g : Wg} {L : List Nat} {μ' : Mem} (hC : CX p m c cX7_readDoc 6 s args RX7) (hr : meth.sig.returnType = none) (hlocks : meth.locks = false) {d : Nat} {r_X7_readElement : Nat → Int32 → Int32 → Mem → Option (Int32 × Mem)} (hr_X7_readElement : ∀ {a0 : Nat} {a1 : Int32} {a2 : Int32} {μ : Mem} {r9 : Int32} {μ9 : Mem}, r_X7_readElement a0 a1 a2 μ = some (r9, μ9) → MetI l yX7_readElement cX7_readElement 4 (some .int) (rm_TR d) g L μ [.ref a0, .int a1, .int a2] r9 μ9) : ∀ (n : Nat), ∀ (a0 : Nat) (a1 : Int32) (a2 : Int32) (a3 : Int32) (a4 : Int32) (μ : Mem) (H : Heap) (locs : List Loc) (ls : Array Slot), lv_has ls 6 [(0, .ref a0), (1, .int a1), (2, .int a2), (3, .int a3), (4, .int a4)] → PW g L μ A s H locs → f_X7_readDoc_L49 g.2 r_X7_readElement n a0 a1 a2 a3 a4 μ = some μ' → W p l e (rm_TR (d + 1)) s m args below meth c H locs 0 0 (MQ below (QV g L A μ') args s 0 0 A) (F0 m 49 ls []) := by
  have hx := hC.1
  have hb := hC.2.1
  intro n
  induction n with
  | zero => intro a0 a1 a2 a3 a4 μ H locs ls hl hw hf; cases hf
  | succ n ih =>
    intro a0 a1 a2 a3 a4 μ H locs ls hl hw hf
    rw [f_X7_readDoc_L49] at hf
    refine lv_iload_n hx hb dX7_readDoc_49 rfl (lv_at hl 3 rfl) ?_
    refine lv_iload_n hx hb dX7_readDoc_50 rfl (lv_at hl 2 rfl) ?_
    refine lv_icmp_ge (tgt := 136) hx hb dX7_readDoc_51 (by decide) (fun c101 => ?_) (fun c101 => ?_)
    · have hf := o_pos c101 hf
      obtain rfl := o_retv hf
      exact pw_vret hC hr hlocks hw dX7_readDoc_136
    · have hf := o_neg c101 hf
      refine lv_aload_n hx hb dX7_readDoc_54 rfl (lv_at hl 0 rfl) ?_
      obtain ⟨v102, h103, hf⟩ := o_bind hf
      refine pw_get hC fl_X7_49 hw (rdI_F h103) dX7_readDoc_55 ?_
      refine lv_istore (lv' := [(5, .int v102), (0, .ref a0), (1, .int a1), (2, .int a2), (3, .int a3), (4, .int a4)]) hx hb dX7_readDoc_58 hl (by decide) rfl (fun ls hl => ?_)
      refine lv_aload_n hx hb dX7_readDoc_60 rfl (lv_at hl 1 rfl) ?_
      refine lv_dup hx hb dX7_readDoc_61 rfl ?_
      obtain ⟨v104, h105, hf⟩ := o_bind hf
      refine pw_get hC fl_X7_49 hw (rdI_F h105) dX7_readDoc_62 ?_
      refine lv_iconst (v := 1) hx hb dX7_readDoc_65 nc_iconst_1 ?_
      refine lv_iadd hx hb dX7_readDoc_66 ?_
      obtain ⟨μ106, h107, hf⟩ := o_bind hf
      refine pw_put hC fl_X7_49 hw h107 .int fd_X7_1 rfl rfl dX7_readDoc_67 (fun H locs hw => ?_)
      refine lv_iload hx hb dX7_readDoc_70 (lv_at hl 5 rfl) ?_
      refine lv_if_ge (tgt := 86) hx hb dX7_readDoc_72 (by decide) (fun c108 => ?_) (fun c108 => ?_)
      · have hf := o_pos c108 hf
        refine lv_aload_n hx hb dX7_readDoc_86 rfl (lv_at hl 1 rfl) ?_
        obtain ⟨q109, h110, hf⟩ := o_bind hf
        refine pw_get hC fl_X7_21 hw (rdR_F h110) dX7_readDoc_87 ?_
        refine lv_iload hx hb dX7_readDoc_90 (lv_at hl 5 rfl) ?_
        refine lv_iload hx hb dX7_readDoc_92 (lv_at hl 0 rfl) ?_
        obtain ⟨μ111, h112, hf⟩ := o_bind hf
        refine pw_iast hC hw h112 dX7_readDoc_94 (fun H locs hw => ?_)
        exact w_X7_readDoc_L95 hC hr hlocks hr_X7_readElement ih _ _ _ _ _ _ _ _ ls (lv_sub hl [1, 2, 3, 4, 0] rfl) hw hf
      · have hf := o_neg c108 hf
        refine lv_aload_n hx hb dX7_readDoc_75 rfl (lv_at hl 1 rfl) ?_
        obtain ⟨q113, h114, hf⟩ := o_bind hf
        refine pw_get hC fl_X7_18 hw (rdR_F h114) dX7_readDoc_76 ?_
        refine lv_iload_n hx hb dX7_readDoc_79 rfl (lv_at hl 2 rfl) ?_
        refine lv_iload hx hb dX7_readDoc_80 (lv_at hl 0 rfl) ?_
        obtain ⟨μ115, h116, hf⟩ := o_bind hf
        refine pw_iast hC hw h116 dX7_readDoc_82 (fun H locs hw => ?_)
        refine lv_goto (tgt := 95) hx hb dX7_readDoc_83 (by decide) ?_
        exact w_X7_readDoc_L95 hC hr hlocks hr_X7_readElement ih _ _ _ _ _ _ _ _ ls (lv_sub hl [1, 2, 3, 4, 0] rfl) hw hf
def fo_X7_readDoc (cy : Nat → ClassId) (r_X7_readElement : Nat → Int32 → Int32 → Mem → Option (Int32 × Mem)) (a0 : Nat) (a1 : Int32) (μ : Mem) : Option Mem :=
  (rdR μ a0 6 10).bind fun q1 => (rdA cy μ 1 q1 a1).bind fun v3 => (rdR μ a0 6 0).bind fun q5 => (rdR μ a0 6 10).bind fun q7 => (rdA cy μ 1 q7 a1).bind fun v9 => ob2 (f_X8_intAt cy q5 v9 μ) fun r13 μ12 => (rdR μ12 a0 6 10).bind fun q14 => (rdA cy μ12 1 q14 a1).bind fun v16 => (rdR μ12 a0 6 11).bind fun q18 => (wrA cy μ12 1 q18 a1 0).bind fun μ20 => (rdR μ20 a0 6 4).bind fun q22 => (wrA cy μ20 1 q22 a1 (-1)).bind fun μ24 => f_X7_readDoc_L49 cy r_X7_readElement FU a0 a1 ((v3 + r13) - 1) (v16 + 4) (-1) μ24
set_option maxRecDepth 100000 in
set_option maxHeartbeats 4000000 in
theorem co_X7_readDoc {l : Launch} {g : Wg} {L : List Nat} {d : Nat} {r_X7_readElement : Nat → Int32 → Int32 → Mem → Option (Int32 × Mem)} (hr_X7_readElement : ∀ {a0 : Nat} {a1 : Int32} {a2 : Int32} {μ : Mem} {r9 : Int32} {μ9 : Mem}, r_X7_readElement a0 a1 a2 μ = some (r9, μ9) → MetI l yX7_readElement cX7_readElement 4 (some .int) (rm_TR d) g L μ [.ref a0, .int a1, .int a2] r9 μ9) {μ : Mem} {a0 : Nat} {a1 : Int32} {μ' : Mem} (hf : fo_X7_readDoc g.2 r_X7_readElement a0 a1 μ = some μ') : MetV l yX7_readDoc cX7_readDoc 6 none (rm_TR (d + 1)) g L μ [.ref a0, .int a1] μ' := by
  refine pw_met (Qc := fun A => QV g L A μ') (by decide) (Nat.le_of_ble_eq_true rfl) ?_
  intro p e s m args below meth c A ls H locs hC hr hlocks hl hw
  have hx := hC.1
  have hb := hC.2.1
  have hl : lv_has ls 6 [(0, .ref a0), (1, .int a1)] := hl
  unfold fo_X7_readDoc at hf
  refine lv_aload_n hx hb dX7_readDoc_0 rfl (lv_at hl 0 rfl) ?_
  obtain ⟨q1, h2, hf⟩ := o_bind hf
  refine pw_get hC fl_X7_36 hw (rdR_F h2) dX7_readDoc_1 ?_
  refine lv_iload_n hx hb dX7_readDoc_4 rfl (lv_at hl 1 rfl) ?_
  obtain ⟨v3, h4, hf⟩ := o_bind hf
  refine pw_iald hC hw h4 dX7_readDoc_5 ?_
  refine lv_aload_n hx hb dX7_readDoc_6 rfl (lv_at hl 0 rfl) ?_
  obtain ⟨q5, h6, hf⟩ := o_bind hf
  refine pw_get hC fl_X7_45 hw (rdR_F h6) dX7_readDoc_7 ?_
  refine lv_aload_n hx hb dX7_readDoc_10 rfl (lv_at hl 0 rfl) ?_
  obtain ⟨q7, h8, hf⟩ := o_bind hf
  refine pw_get hC fl_X7_36 hw (rdR_F h8) dX7_readDoc_11 ?_
  refine lv_iload_n hx hb dX7_readDoc_14 rfl (lv_at hl 1 rfl) ?_
  obtain ⟨v9, h10, hf⟩ := o_bind hf
  refine pw_iald hC hw h10 dX7_readDoc_15 ?_
  obtain ⟨r13, μ12, h11, hf⟩ := o_bind2 hf
  refine pw_goI hw (pw_runSN (As := [.ref q5, .int v9]) (rest := [.int v3]) hC mm_X8_intAt tw_1333 (c_X8_intAt h11 _) (fio_TR d (by decide)) hw rfl hl.1 (Nat.le_of_ble_eq_true rfl) ⟨Nat.zero_le _, Nat.zero_le _⟩ rfl dX7_readDoc_16) (fun H locs hw => ?_)
  refine lv_iadd hx hb dX7_readDoc_19 ?_
  refine lv_iconst (v := 1) hx hb dX7_readDoc_20 nc_iconst_1 ?_
  refine lv_isub hx hb dX7_readDoc_21 ?_
  refine lv_istore_n (lv' := [(2, .int ((v3 + r13) - 1)), (0, .ref a0), (1, .int a1)]) hx hb dX7_readDoc_22 rfl hl (by decide) rfl (fun ls hl => ?_)
  refine lv_aload_n hx hb dX7_readDoc_23 rfl (lv_at hl 1 rfl) ?_
  obtain ⟨q14, h15, hf⟩ := o_bind hf
  refine pw_get hC fl_X7_36 hw (rdR_F h15) dX7_readDoc_24 ?_
  refine lv_iload_n hx hb dX7_readDoc_27 rfl (lv_at hl 2 rfl) ?_
  obtain ⟨v16, h17, hf⟩ := o_bind hf
  refine pw_iald hC hw h17 dX7_readDoc_28 ?_
  refine lv_iconst (v := 4) hx hb dX7_readDoc_29 nc_iconst_4 ?_
  refine lv_iadd hx hb dX7_readDoc_30 ?_
  refine lv_istore_n (lv' := [(3, .int (v16 + 4)), (2, .int ((v3 + r13) - 1)), (0, .ref a0), (1, .int a1)]) hx hb dX7_readDoc_31 rfl hl (by decide) rfl (fun ls hl => ?_)
  refine lv_iconst (v := (-1)) hx hb dX7_readDoc_32 nc_iconst_m1 ?_
  refine lv_istore (lv' := [(4, .int (-1)), (3, .int (v16 + 4)), (2, .int ((v3 + r13) - 1)), (0, .ref a0), (1, .int a1)]) hx hb dX7_readDoc_33 hl (by decide) rfl (fun ls hl => ?_)
  refine lv_aload_n hx hb dX7_readDoc_35 rfl (lv_at hl 3 rfl) ?_
  obtain ⟨q18, h19, hf⟩ := o_bind hf
  refine pw_get hC fl_X7_39 hw (rdR_F h19) dX7_readDoc_36 ?_
  refine lv_iload_n hx hb dX7_readDoc_39 rfl (lv_at hl 4 rfl) ?_
  refine lv_iconst (v := 0) hx hb dX7_readDoc_40 nc_iconst_0 ?_
  obtain ⟨μ20, h21, hf⟩ := o_bind hf
  refine pw_iast hC hw h21 dX7_readDoc_41 (fun H locs hw => ?_)
  refine lv_aload_n hx hb dX7_readDoc_42 rfl (lv_at hl 3 rfl) ?_
  obtain ⟨q22, h23, hf⟩ := o_bind hf
  refine pw_get hC fl_X7_18 hw (rdR_F h23) dX7_readDoc_43 ?_
  refine lv_iload_n hx hb dX7_readDoc_46 rfl (lv_at hl 4 rfl) ?_
  refine lv_iconst (v := (-1)) hx hb dX7_readDoc_47 nc_iconst_m1 ?_
  obtain ⟨μ24, h25, hf⟩ := o_bind hf
  refine pw_iast hC hw h25 dX7_readDoc_48 (fun H locs hw => ?_)
  exact w_X7_readDoc_L49 hC hr hlocks hr_X7_readElement FU _ _ _ _ _ _ _ _ ls (lv_sub hl [3, 4, 2, 1, 0] rfl) hw hf
theorem dX7_readElement_0 : decode cX7_readElement 0 = .ok (.aload_n 0, 1) := by decide +kernel
theorem dX7_readElement_1 : decode cX7_readElement 1 = .ok (.getfield 24, 3) := by decide +kernel
theorem dX7_readElement_4 : decode cX7_readElement 4 = .ok (.iload_n 1, 1) := by decide +kernel
theorem dX7_readElement_5 : decode cX7_readElement 5 = .ok (.iload_n 2, 1) := by decide +kernel
theorem dX7_readElement_6 : decode cX7_readElement 6 = .ok (.iastore, 1) := by decide +kernel
theorem dX7_readElement_7 : decode cX7_readElement 7 = .ok (.aload_n 0, 1) := by decide +kernel
theorem dX7_readElement_8 : decode cX7_readElement 8 = .ok (.getfield 9, 3) := by decide +kernel
theorem dX7_readElement_11 : decode cX7_readElement 11 = .ok (.iload_n 1, 1) := by decide +kernel
theorem dX7_readElement_12 : decode cX7_readElement 12 = .ok (.aload_n 0, 1) := by decide +kernel
theorem dX7_readElement_13 : decode cX7_readElement 13 = .ok (.getfield 45, 3) := by decide +kernel
theorem dX7_readElement_16 : decode cX7_readElement 16 = .ok (.iload_n 2, 1) := by decide +kernel
theorem dX7_readElement_17 : decode cX7_readElement 17 = .ok (.baload, 1) := by decide +kernel
theorem dX7_readElement_18 : decode cX7_readElement 18 = .ok (.sipush 255, 3) := by decide +kernel
theorem dX7_readElement_21 : decode cX7_readElement 21 = .ok (.iand, 1) := by decide +kernel
theorem dX7_readElement_22 : decode cX7_readElement 22 = .ok (.iastore, 1) := by decide +kernel
theorem dX7_readElement_23 : decode cX7_readElement 23 = .ok (.iload_n 2, 1) := by decide +kernel
theorem dX7_readElement_24 : decode cX7_readElement 24 = .ok (.iconst 1, 1) := by decide +kernel
theorem dX7_readElement_25 : decode cX7_readElement 25 = .ok (.iadd, 1) := by decide +kernel
theorem dX7_readElement_26 : decode cX7_readElement 26 = .ok (.istore_n 3, 1) := by decide +kernel
theorem dX7_readElement_27 : decode cX7_readElement 27 = .ok (.aload_n 0, 1) := by decide +kernel
theorem dX7_readElement_28 : decode cX7_readElement 28 = .ok (.getfield 45, 3) := by decide +kernel
theorem dX7_readElement_31 : decode cX7_readElement 31 = .ok (.iload_n 3, 1) := by decide +kernel
theorem dX7_readElement_32 : decode cX7_readElement 32 = .ok (.baload, 1) := by decide +kernel
theorem dX7_readElement_33 : decode cX7_readElement 33 = .ok (.ifCond .eq 9, 3) := by decide +kernel
theorem dX7_readElement_36 : decode cX7_readElement 36 = .ok (.iinc 3 1, 3) := by decide +kernel
theorem dX7_readElement_39 : decode cX7_readElement 39 = .ok (.goto (-12), 3) := by decide +kernel
theorem dX7_readElement_42 : decode cX7_readElement 42 = .ok (.aload_n 0, 1) := by decide +kernel
theorem dX7_readElement_43 : decode cX7_readElement 43 = .ok (.getfield 27, 3) := by decide +kernel
theorem dX7_readElement_46 : decode cX7_readElement 46 = .ok (.iload_n 1, 1) := by decide +kernel
theorem dX7_readElement_47 : decode cX7_readElement 47 = .ok (.iload_n 3, 1) := by decide +kernel
theorem dX7_readElement_48 : decode cX7_readElement 48 = .ok (.iload_n 2, 1) := by decide +kernel
theorem dX7_readElement_49 : decode cX7_readElement 49 = .ok (.isub, 1) := by decide +kernel
theorem dX7_readElement_50 : decode cX7_readElement 50 = .ok (.iconst 1, 1) := by decide +kernel
theorem dX7_readElement_51 : decode cX7_readElement 51 = .ok (.isub, 1) := by decide +kernel
theorem dX7_readElement_52 : decode cX7_readElement 52 = .ok (.iastore, 1) := by decide +kernel
theorem dX7_readElement_53 : decode cX7_readElement 53 = .ok (.aload_n 0, 1) := by decide +kernel
theorem dX7_readElement_54 : decode cX7_readElement 54 = .ok (.getfield 30, 3) := by decide +kernel
theorem dX7_readElement_57 : decode cX7_readElement 57 = .ok (.iload_n 1, 1) := by decide +kernel
theorem dX7_readElement_58 : decode cX7_readElement 58 = .ok (.iload_n 3, 1) := by decide +kernel
theorem dX7_readElement_59 : decode cX7_readElement 59 = .ok (.iconst 1, 1) := by decide +kernel
theorem dX7_readElement_60 : decode cX7_readElement 60 = .ok (.iadd, 1) := by decide +kernel
theorem dX7_readElement_61 : decode cX7_readElement 61 = .ok (.iastore, 1) := by decide +kernel
theorem dX7_readElement_62 : decode cX7_readElement 62 = .ok (.aload_n 0, 1) := by decide +kernel
theorem dX7_readElement_63 : decode cX7_readElement 63 = .ok (.getfield 33, 3) := by decide +kernel
theorem dX7_readElement_66 : decode cX7_readElement 66 = .ok (.iload_n 1, 1) := by decide +kernel
theorem dX7_readElement_67 : decode cX7_readElement 67 = .ok (.aload_n 0, 1) := by decide +kernel
theorem dX7_readElement_68 : decode cX7_readElement 68 = .ok (.aload_n 0, 1) := by decide +kernel
theorem dX7_readElement_69 : decode cX7_readElement 69 = .ok (.getfield 9, 3) := by decide +kernel
theorem dX7_readElement_72 : decode cX7_readElement 72 = .ok (.iload_n 1, 1) := by decide +kernel
theorem dX7_readElement_73 : decode cX7_readElement 73 = .ok (.iaload, 1) := by decide +kernel
theorem dX7_readElement_74 : decode cX7_readElement 74 = .ok (.iload_n 3, 1) := by decide +kernel
theorem dX7_readElement_75 : decode cX7_readElement 75 = .ok (.iconst 1, 1) := by decide +kernel
theorem dX7_readElement_76 : decode cX7_readElement 76 = .ok (.iadd, 1) := by decide +kernel
theorem dX7_readElement_77 : decode cX7_readElement 77 = .ok (.invokevirtual 65, 3) := by decide +kernel
theorem dX7_readElement_80 : decode cX7_readElement 80 = .ok (.iastore, 1) := by decide +kernel
theorem dX7_readElement_81 : decode cX7_readElement 81 = .ok (.aload_n 0, 1) := by decide +kernel
theorem dX7_readElement_82 : decode cX7_readElement 82 = .ok (.getfield 36, 3) := by decide +kernel
theorem dX7_readElement_85 : decode cX7_readElement 85 = .ok (.iload_n 1, 1) := by decide +kernel
theorem dX7_readElement_86 : decode cX7_readElement 86 = .ok (.aload_n 0, 1) := by decide +kernel
theorem dX7_readElement_87 : decode cX7_readElement 87 = .ok (.getfield 9, 3) := by decide +kernel
theorem dX7_readElement_90 : decode cX7_readElement 90 = .ok (.iload_n 1, 1) := by decide +kernel
theorem dX7_readElement_91 : decode cX7_readElement 91 = .ok (.iaload, 1) := by decide +kernel
theorem dX7_readElement_92 : decode cX7_readElement 92 = .ok (.iconst 3, 1) := by decide +kernel
theorem dX7_readElement_93 : decode cX7_readElement 93 = .ok (.if_icmp .eq 13, 3) := by decide +kernel
theorem dX7_readElement_96 : decode cX7_readElement 96 = .ok (.aload_n 0, 1) := by decide +kernel
theorem dX7_readElement_97 : decode cX7_readElement 97 = .ok (.getfield 9, 3) := by decide +kernel
theorem dX7_readElement_100 : decode cX7_readElement 100 = .ok (.iload_n 1, 1) := by decide +kernel
theorem dX7_readElement_101 : decode cX7_readElement 101 = .ok (.iaload, 1) := by decide +kernel
theorem dX7_readElement_102 : decode cX7_readElement 102 = .ok (.iconst 4, 1) := by decide +kernel
theorem dX7_readElement_103 : decode cX7_readElement 103 = .ok (.if_icmp .ne 9, 3) := by decide +kernel
theorem dX7_readElement_106 : decode cX7_readElement 106 = .ok (.iload_n 3, 1) := by decide +kernel
theorem dX7_readElement_107 : decode cX7_readElement 107 = .ok (.iconst 1, 1) := by decide +kernel
theorem dX7_readElement_108 : decode cX7_readElement 108 = .ok (.iadd, 1) := by decide +kernel
theorem dX7_readElement_109 : decode cX7_readElement 109 = .ok (.goto 33, 3) := by decide +kernel
theorem dX7_readElement_112 : decode cX7_readElement 112 = .ok (.aload_n 0, 1) := by decide +kernel
theorem dX7_readElement_113 : decode cX7_readElement 113 = .ok (.getfield 9, 3) := by decide +kernel
theorem dX7_readElement_116 : decode cX7_readElement 116 = .ok (.iload_n 1, 1) := by decide +kernel
theorem dX7_readElement_117 : decode cX7_readElement 117 = .ok (.iaload, 1) := by decide +kernel
theorem dX7_readElement_118 : decode cX7_readElement 118 = .ok (.bipush 15, 2) := by decide +kernel
theorem dX7_readElement_120 : decode cX7_readElement 120 = .ok (.if_icmp .ne 21, 3) := by decide +kernel
theorem dX7_readElement_123 : decode cX7_readElement 123 = .ok (.iload_n 3, 1) := by decide +kernel
theorem dX7_readElement_124 : decode cX7_readElement 124 = .ok (.bipush 9, 2) := by decide +kernel
theorem dX7_readElement_126 : decode cX7_readElement 126 = .ok (.iadd, 1) := by decide +kernel
theorem dX7_readElement_127 : decode cX7_readElement 127 = .ok (.aload_n 0, 1) := by decide +kernel
theorem dX7_readElement_128 : decode cX7_readElement 128 = .ok (.getfield 45, 3) := by decide +kernel
theorem dX7_readElement_131 : decode cX7_readElement 131 = .ok (.iload_n 3, 1) := by decide +kernel
theorem dX7_readElement_132 : decode cX7_readElement 132 = .ok (.iconst 5, 1) := by decide +kernel
theorem dX7_readElement_133 : decode cX7_readElement 133 = .ok (.iadd, 1) := by decide +kernel
theorem dX7_readElement_134 : decode cX7_readElement 134 = .ok (.invokestatic 57, 3) := by decide +kernel
theorem dX7_readElement_137 : decode cX7_readElement 137 = .ok (.iadd, 1) := by decide +kernel
theorem dX7_readElement_138 : decode cX7_readElement 138 = .ok (.goto 4, 3) := by decide +kernel
theorem dX7_readElement_141 : decode cX7_readElement 141 = .ok (.iconst (-1), 1) := by decide +kernel
theorem dX7_readElement_142 : decode cX7_readElement 142 = .ok (.iastore, 1) := by decide +kernel
theorem dX7_readElement_143 : decode cX7_readElement 143 = .ok (.aload_n 0, 1) := by decide +kernel
theorem dX7_readElement_144 : decode cX7_readElement 144 = .ok (.getfield 39, 3) := by decide +kernel
theorem dX7_readElement_147 : decode cX7_readElement 147 = .ok (.iload_n 1, 1) := by decide +kernel
theorem dX7_readElement_148 : decode cX7_readElement 148 = .ok (.iconst 0, 1) := by decide +kernel
theorem dX7_readElement_149 : decode cX7_readElement 149 = .ok (.iastore, 1) := by decide +kernel
theorem dX7_readElement_150 : decode cX7_readElement 150 = .ok (.aload_n 0, 1) := by decide +kernel
theorem dX7_readElement_151 : decode cX7_readElement 151 = .ok (.getfield 18, 3) := by decide +kernel
theorem dX7_readElement_154 : decode cX7_readElement 154 = .ok (.iload_n 1, 1) := by decide +kernel
theorem dX7_readElement_155 : decode cX7_readElement 155 = .ok (.iconst (-1), 1) := by decide +kernel
theorem dX7_readElement_156 : decode cX7_readElement 156 = .ok (.iastore, 1) := by decide +kernel
theorem dX7_readElement_157 : decode cX7_readElement 157 = .ok (.aload_n 0, 1) := by decide +kernel
theorem dX7_readElement_158 : decode cX7_readElement 158 = .ok (.getfield 42, 3) := by decide +kernel
theorem dX7_readElement_161 : decode cX7_readElement 161 = .ok (.iload_n 1, 1) := by decide +kernel
theorem dX7_readElement_162 : decode cX7_readElement 162 = .ok (.aload_n 0, 1) := by decide +kernel
theorem dX7_readElement_163 : decode cX7_readElement 163 = .ok (.getfield 42, 3) := by decide +kernel
theorem dX7_readElement_166 : decode cX7_readElement 166 = .ok (.aload_n 0, 1) := by decide +kernel
theorem dX7_readElement_167 : decode cX7_readElement 167 = .ok (.getfield 15, 3) := by decide +kernel
theorem dX7_readElement_170 : decode cX7_readElement 170 = .ok (.iload_n 1, 1) := by decide +kernel
theorem dX7_readElement_171 : decode cX7_readElement 171 = .ok (.iaload, 1) := by decide +kernel
theorem dX7_readElement_172 : decode cX7_readElement 172 = .ok (.iaload, 1) := by decide +kernel
theorem dX7_readElement_173 : decode cX7_readElement 173 = .ok (.iconst 1, 1) := by decide +kernel
theorem dX7_readElement_174 : decode cX7_readElement 174 = .ok (.iadd, 1) := by decide +kernel
theorem dX7_readElement_175 : decode cX7_readElement 175 = .ok (.iastore, 1) := by decide +kernel
theorem dX7_readElement_176 : decode cX7_readElement 176 = .ok (.aload_n 0, 1) := by decide +kernel
theorem dX7_readElement_177 : decode cX7_readElement 177 = .ok (.getfield 36, 3) := by decide +kernel
theorem dX7_readElement_180 : decode cX7_readElement 180 = .ok (.iload_n 1, 1) := by decide +kernel
theorem dX7_readElement_181 : decode cX7_readElement 181 = .ok (.iaload, 1) := by decide +kernel
theorem dX7_readElement_182 : decode cX7_readElement 182 = .ok (.ifCond .lt 8, 3) := by decide +kernel
theorem dX7_readElement_185 : decode cX7_readElement 185 = .ok (.aload_n 0, 1) := by decide +kernel
theorem dX7_readElement_186 : decode cX7_readElement 186 = .ok (.iload_n 1, 1) := by decide +kernel
theorem dX7_readElement_187 : decode cX7_readElement 187 = .ok (.invokevirtual 53, 3) := by decide +kernel
theorem dX7_readElement_190 : decode cX7_readElement 190 = .ok (.aload_n 0, 1) := by decide +kernel
theorem dX7_readElement_191 : decode cX7_readElement 191 = .ok (.getfield 30, 3) := by decide +kernel
theorem dX7_readElement_194 : decode cX7_readElement 194 = .ok (.iload_n 1, 1) := by decide +kernel
theorem dX7_readElement_195 : decode cX7_readElement 195 = .ok (.iaload, 1) := by decide +kernel
theorem dX7_readElement_196 : decode cX7_readElement 196 = .ok (.aload_n 0, 1) := by decide +kernel
theorem dX7_readElement_197 : decode cX7_readElement 197 = .ok (.getfield 33, 3) := by decide +kernel
theorem dX7_readElement_200 : decode cX7_readElement 200 = .ok (.iload_n 1, 1) := by decide +kernel
theorem dX7_readElement_201 : decode cX7_readElement 201 = .ok (.iaload, 1) := by decide +kernel
theorem dX7_readElement_202 : decode cX7_readElement 202 = .ok (.iadd, 1) := by decide +kernel
theorem dX7_readElement_203 : decode cX7_readElement 203 = .ok (.ireturn, 1) := by decide +kernel
def f_X7_readElement_L190 (cy : Nat → ClassId) (r_X7_readDoc : Nat → Int32 → Mem → Option Mem) (a0 : Nat) (a1 : Int32) (μ : Mem) : Option (Int32 × Mem) :=
  (rdR μ a0 6 8).bind fun q101 => (rdA cy μ 1 q101 a1).bind fun v103 => (rdR μ a0 6 9).bind fun q105 => (rdA cy μ 1 q105 a1).bind fun v107 => some ((v103 + v107), μ)
set_option maxRecDepth 100000 in
set_option maxHeartbeats 4000000 in
theorem w_X7_readElement_L190 {p : Program} {l : Launch} {e : Env} {s : State} {m : MethodId} {args : Array Value} {below : List Frame} {meth : Method} {c : Code} {A : Nat → Prop} {g : Wg} {L : List Nat} {r : Int32} {μ' : Mem} (hC : CX p m c cX7_readElement 4 s args RX7) (hr : meth.sig.returnType = (some .int)) (hlocks : meth.locks = false) {d : Nat} {r_X7_readDoc : Nat → Int32 → Mem → Option Mem} (hr_X7_readDoc : ∀ {a0 : Nat} {a1 : Int32} {μ : Mem} {μ9 : Mem}, r_X7_readDoc a0 a1 μ = some μ9 → MetV l yX7_readDoc cX7_readDoc 6 none (rm_TR d) g L μ [.ref a0, .int a1] μ9) : ∀ (a0 : Nat) (a1 : Int32) (μ : Mem) (H : Heap) (locs : List Loc) (ls : Array Slot), lv_has ls 4 [(0, .ref a0), (1, .int a1)] → PW g L μ A s H locs → f_X7_readElement_L190 g.2 r_X7_readDoc a0 a1 μ = some (r, μ') → W p l e (rm_TR (d + 1)) s m args below meth c H locs 0 0 (MQ below (QI g L A r μ') args s 0 0 A) (F0 m 190 ls []) := by
  have hx := hC.1
  have hb := hC.2.1
  intro a0 a1 μ H locs ls hl hw hf
  unfold f_X7_readElement_L190 at hf
  refine lv_aload_n hx hb dX7_readElement_190 rfl (lv_at hl 0 rfl) ?_
  obtain ⟨q101, h102, hf⟩ := o_bind hf
  refine pw_get hC fl_X7_30 hw (rdR_F h102) dX7_readElement_191 ?_
  refine lv_iload_n hx hb dX7_readElement_194 rfl (lv_at hl 1 rfl) ?_
  obtain ⟨v103, h104, hf⟩ := o_bind hf
  refine pw_iald hC hw h104 dX7_readElement_195 ?_
  refine lv_aload_n hx hb dX7_readElement_196 rfl (lv_at hl 0 rfl) ?_
  obtain ⟨q105, h106, hf⟩ := o_bind hf
  refine pw_get hC fl_X7_33 hw (rdR_F h106) dX7_readElement_197 ?_
  refine lv_iload_n hx hb dX7_readElement_200 rfl (lv_at hl 1 rfl) ?_
  obtain ⟨v107, h108, hf⟩ := o_bind hf
  refine pw_iald hC hw h108 dX7_readElement_201 ?_
  refine lv_iadd hx hb dX7_readElement_202 ?_
  obtain ⟨rfl, rfl⟩ := o_ret hf
  exact pw_iret hC hr hlocks hw dX7_readElement_203
def f_X7_readElement_L142 (cy : Nat → ClassId) (r_X7_readDoc : Nat → Int32 → Mem → Option Mem) (a0 : Nat) (a1 : Int32) (t0 : Nat) (t1 : Int32) (t2 : Int32) (μ : Mem) : Option (Int32 × Mem) :=
  (wrA cy μ 1 t0 t1 t2).bind fun μ101 => (rdR μ101 a0 6 11).bind fun q103 => (wrA cy μ101 1 q103 a1 0).bind fun μ105 => (rdR μ105 a0 6 4).bind fun q107 => (wrA cy μ105 1 q107 a1 (-1)).bind fun μ109 => (rdR μ109 a0 6 12).bind fun q111 => (rdR μ109 a0 6 12).bind fun q113 => (rdR μ109 a0 6 3).bind fun q115 => (rdA cy μ109 1 q115 a1).bind fun v117 => (rdA cy μ109 1 q113 v117).bind fun v119 => (wrA cy μ109 1 q111 a1 (v119 + 1)).bind fun μ121 => (rdR μ121 a0 6 10).bind fun q123 => (rdA cy μ121 1 q123 a1).bind fun v125 => if v125 < 0 then (f_X7_readElement_L190 cy r_X7_readDoc a0 a1 μ121) else if isO μ121 a0 6 = true then ((r_X7_readDoc a0 a1 μ121).bind fun μ130 => f_X7_readElement_L190 cy r_X7_readDoc a0 a1 μ130) else none
set_option maxRecDepth 100000 in
set_option maxHeartbeats 4000000 in
theorem w_X7_readElement_L142 {p : Program} {l : Launch} {e : Env} {s : State} {m : MethodId} {args : Array Value} {below : List Frame} {meth : Method} {c : Code} {A : Nat → Prop} {g : Wg} {L : List Nat} {r : Int32} {μ' : Mem} (hC : CX p m c cX7_readElement 4 s args RX7) (hr : meth.sig.returnType = (some .int)) (hlocks : meth.locks = false) {d : Nat} {r_X7_readDoc : Nat → Int32 → Mem → Option Mem} (hr_X7_readDoc : ∀ {a0 : Nat} {a1 : Int32} {μ : Mem} {μ9 : Mem}, r_X7_readDoc a0 a1 μ = some μ9 → MetV l yX7_readDoc cX7_readDoc 6 none (rm_TR d) g L μ [.ref a0, .int a1] μ9) : ∀ (a0 : Nat) (a1 : Int32) (t0 : Nat) (t1 : Int32) (t2 : Int32) (μ : Mem) (H : Heap) (locs : List Loc) (ls : Array Slot), lv_has ls 4 [(0, .ref a0), (1, .int a1)] → PW g L μ A s H locs → f_X7_readElement_L142 g.2 r_X7_readDoc a0 a1 t0 t1 t2 μ = some (r, μ') → W p l e (rm_TR (d + 1)) s m args below meth c H locs 0 0 (MQ below (QI g L A r μ') args s 0 0 A) (F0 m 142 ls [.int t2, .int t1, .ref t0]) := by
  have hx := hC.1
  have hb := hC.2.1
  intro a0 a1 t0 t1 t2 μ H locs ls hl hw hf
  unfold f_X7_readElement_L142 at hf
  obtain ⟨μ101, h102, hf⟩ := o_bind hf
  refine pw_iast hC hw h102 dX7_readElement_142 (fun H locs hw => ?_)
  refine lv_aload_n hx hb dX7_readElement_143 rfl (lv_at hl 0 rfl) ?_
  obtain ⟨q103, h104, hf⟩ := o_bind hf
  refine pw_get hC fl_X7_39 hw (rdR_F h104) dX7_readElement_144 ?_
  refine lv_iload_n hx hb dX7_readElement_147 rfl (lv_at hl 1 rfl) ?_
  refine lv_iconst (v := 0) hx hb dX7_readElement_148 nc_iconst_0 ?_
  obtain ⟨μ105, h106, hf⟩ := o_bind hf
  refine pw_iast hC hw h106 dX7_readElement_149 (fun H locs hw => ?_)
  refine lv_aload_n hx hb dX7_readElement_150 rfl (lv_at hl 0 rfl) ?_
  obtain ⟨q107, h108, hf⟩ := o_bind hf
  refine pw_get hC fl_X7_18 hw (rdR_F h108) dX7_readElement_151 ?_
  refine lv_iload_n hx hb dX7_readElement_154 rfl (lv_at hl 1 rfl) ?_
  refine lv_iconst (v := (-1)) hx hb dX7_readElement_155 nc_iconst_m1 ?_
  obtain ⟨μ109, h110, hf⟩ := o_bind hf
  refine pw_iast hC hw h110 dX7_readElement_156 (fun H locs hw => ?_)
  refine lv_aload_n hx hb dX7_readElement_157 rfl (lv_at hl 0 rfl) ?_
  obtain ⟨q111, h112, hf⟩ := o_bind hf
  refine pw_get hC fl_X7_42 hw (rdR_F h112) dX7_readElement_158 ?_
  refine lv_iload_n hx hb dX7_readElement_161 rfl (lv_at hl 1 rfl) ?_
  refine lv_aload_n hx hb dX7_readElement_162 rfl (lv_at hl 0 rfl) ?_
  obtain ⟨q113, h114, hf⟩ := o_bind hf
  refine pw_get hC fl_X7_42 hw (rdR_F h114) dX7_readElement_163 ?_
  refine lv_aload_n hx hb dX7_readElement_166 rfl (lv_at hl 0 rfl) ?_
  obtain ⟨q115, h116, hf⟩ := o_bind hf
  refine pw_get hC fl_X7_15 hw (rdR_F h116) dX7_readElement_167 ?_
  refine lv_iload_n hx hb dX7_readElement_170 rfl (lv_at hl 1 rfl) ?_
  obtain ⟨v117, h118, hf⟩ := o_bind hf
  refine pw_iald hC hw h118 dX7_readElement_171 ?_
  obtain ⟨v119, h120, hf⟩ := o_bind hf
  refine pw_iald hC hw h120 dX7_readElement_172 ?_
  refine lv_iconst (v := 1) hx hb dX7_readElement_173 nc_iconst_1 ?_
  refine lv_iadd hx hb dX7_readElement_174 ?_
  obtain ⟨μ121, h122, hf⟩ := o_bind hf
  refine pw_iast hC hw h122 dX7_readElement_175 (fun H locs hw => ?_)
  refine lv_aload_n hx hb dX7_readElement_176 rfl (lv_at hl 0 rfl) ?_
  obtain ⟨q123, h124, hf⟩ := o_bind hf
  refine pw_get hC fl_X7_36 hw (rdR_F h124) dX7_readElement_177 ?_
  refine lv_iload_n hx hb dX7_readElement_180 rfl (lv_at hl 1 rfl) ?_
  obtain ⟨v125, h126, hf⟩ := o_bind hf
  refine pw_iald hC hw h126 dX7_readElement_181 ?_
  refine lv_if_lt (tgt := 190) hx hb dX7_readElement_182 (by decide) (fun c127 => ?_) (fun c127 => ?_)
  · have hf := o_pos c127 hf
    exact w_X7_readElement_L190 hC hr hlocks hr_X7_readDoc _ _ _ _ _ ls (lv_sub hl [0, 1] rfl) hw hf
  · have hf := o_neg c127 hf
    refine lv_aload_n hx hb dX7_readElement_185 rfl (lv_at hl 0 rfl) ?_
    refine lv_iload_n hx hb dX7_readElement_186 rfl (lv_at hl 1 rfl) ?_
    obtain ⟨h129, hf⟩ := o_ite hf
    obtain ⟨μ130, h128, hf⟩ := o_bind hf
    refine pw_goV hw (pw_runV (As := [.int a1]) (rest := []) hC mm_X7_readDoc tw_1329 (hr_X7_readDoc h128 _) (fit_TR d (by decide)) hw h129 rfl hl.1 (Nat.le_of_ble_eq_true rfl) ⟨Nat.zero_le _, Nat.zero_le _⟩ rfl dX7_readElement_187) (fun H locs hw => ?_)
    exact w_X7_readElement_L190 hC hr hlocks hr_X7_readDoc _ _ _ _ _ ls (lv_sub hl [0, 1] rfl) hw hf
def f_X7_readElement_L106 (cy : Nat → ClassId) (r_X7_readDoc : Nat → Int32 → Mem → Option Mem) (a0 : Nat) (a1 : Int32) (a3 : Int32) (t0 : Nat) (t1 : Int32) (μ : Mem) : Option (Int32 × Mem) :=
  f_X7_readElement_L142 cy r_X7_readDoc a0 a1 t0 t1 (a3 + 1) μ
set_option maxRecDepth 100000 in
set_option maxHeartbeats 4000000 in
theorem w_X7_readElement_L106 {p : Program} {l : Launch} {e : Env} {s : State} {m : MethodId} {args : Array Value} {below : List Frame} {meth : Method} {c : Code} {A : Nat → Prop} {g : Wg} {L : List Nat} {r : Int32} {μ' : Mem} (hC : CX p m c cX7_readElement 4 s args RX7) (hr : meth.sig.returnType = (some .int)) (hlocks : meth.locks = false) {d : Nat} {r_X7_readDoc : Nat → Int32 → Mem → Option Mem} (hr_X7_readDoc : ∀ {a0 : Nat} {a1 : Int32} {μ : Mem} {μ9 : Mem}, r_X7_readDoc a0 a1 μ = some μ9 → MetV l yX7_readDoc cX7_readDoc 6 none (rm_TR d) g L μ [.ref a0, .int a1] μ9) : ∀ (a0 : Nat) (a1 : Int32) (a3 : Int32) (t0 : Nat) (t1 : Int32) (μ : Mem) (H : Heap) (locs : List Loc) (ls : Array Slot), lv_has ls 4 [(0, .ref a0), (1, .int a1), (3, .int a3)] → PW g L μ A s H locs → f_X7_readElement_L106 g.2 r_X7_readDoc a0 a1 a3 t0 t1 μ = some (r, μ') → W p l e (rm_TR (d + 1)) s m args below meth c H locs 0 0 (MQ below (QI g L A r μ') args s 0 0 A) (F0 m 106 ls [.int t1, .ref t0]) := by
  have hx := hC.1
  have hb := hC.2.1
  intro a0 a1 a3 t0 t1 μ H locs ls hl hw hf
  unfold f_X7_readElement_L106 at hf
  refine lv_iload_n hx hb dX7_readElement_106 rfl (lv_at hl 2 rfl) ?_
  refine lv_iconst (v := 1) hx hb dX7_readElement_107 nc_iconst_1 ?_
  refine lv_iadd hx hb dX7_readElement_108 ?_
  refine lv_goto (tgt := 142) hx hb dX7_readElement_109 (by decide) ?_
  exact w_X7_readElement_L142 hC hr hlocks hr_X7_readDoc _ _ _ _ _ _ _ _ ls (lv_sub hl [0, 1] rfl) hw hf
def f_X7_readElement_L27 (cy : Nat → ClassId) (r_X7_readDoc : Nat → Int32 → Mem → Option Mem) : Nat → Nat → Int32 → Int32 → Int32 → Mem → Option (Int32 × Mem)
  | 0, _, _, _, _, _ => none
  | n + 1, a0, a1, a2, a3, μ => (rdR μ a0 6 0).bind fun q101 => (rdA cy μ 0 q101 a3).bind fun v103 => if v103 = 0 then ((rdR μ a0 6 7).bind fun q106 => (wrA cy μ 1 q106 a1 ((a3 - a2) - 1)).bind fun μ108 => (rdR μ108 a0 6 8).bind fun q110 => (wrA cy μ108 1 q110 a1 (a3 + 1)).bind fun μ112 => (rdR μ112 a0 6 9).bind fun q114 => (rdR μ112 a0 6 2).bind fun q116 => (rdA cy μ112 1 q116 a1).bind fun v118 => if isO μ112 a0 6 = true then (ob2 (f_X7_size cy a0 v118 (a3 + 1) μ112) fun r123 μ122 => (wrA cy μ122 1 q114 a1 r123).bind fun μ124 => (rdR μ124 a0 6 10).bind fun q126 => (rdR μ124 a0 6 2).bind fun q128 => (rdA cy μ124 1 q128 a1).bind fun v130 => if v130 = 3 then (f_X7_readElement_L106 cy r_X7_readDoc a0 a1 a3 q126 a1 μ124) else (rdR μ124 a0 6 2).bind fun q133 => (rdA cy μ124 1 q133 a1).bind fun v135 => if v135 = 4 then (f_X7_readElement_L106 cy r_X7_readDoc a0 a1 a3 q126 a1 μ124) else (rdR μ124 a0 6 2).bind fun q138 => (rdA cy μ124 1 q138 a1).bind fun v140 => if v140 = 15 then ((rdR μ124 a0 6 0).bind fun q143 => ob2 (f_X8_intAt cy q143 (a3 + 5) μ124) fun r147 μ146 => f_X7_readElement_L142 cy r_X7_readDoc a0 a1 q126 a1 ((a3 + 9) + r147) μ146) else f_X7_readElement_L142 cy r_X7_readDoc a0 a1 q126 a1 (-1) μ124) else none) else f_X7_readElement_L27 cy r_X7_readDoc n a0 a1 a2 (a3 + 1) μ
set_option maxRecDepth 100000 in
set_option maxHeartbeats 4000000 in
theorem w_X7_readElement_L27 {p : Program} {l : Launch} {e : Env} {s : State} {m : MethodId} {args : Array Value} {below : List Frame} {meth : Method} {c : Code} {A : Nat → Prop} {g : Wg} {L : List Nat} {r : Int32} {μ' : Mem} (hC : CX p m c cX7_readElement 4 s args RX7) (hr : meth.sig.returnType = (some .int)) (hlocks : meth.locks = false) {d : Nat} {r_X7_readDoc : Nat → Int32 → Mem → Option Mem} (hr_X7_readDoc : ∀ {a0 : Nat} {a1 : Int32} {μ : Mem} {μ9 : Mem}, r_X7_readDoc a0 a1 μ = some μ9 → MetV l yX7_readDoc cX7_readDoc 6 none (rm_TR d) g L μ [.ref a0, .int a1] μ9) : ∀ (n : Nat), ∀ (a0 : Nat) (a1 : Int32) (a2 : Int32) (a3 : Int32) (μ : Mem) (H : Heap) (locs : List Loc) (ls : Array Slot), lv_has ls 4 [(0, .ref a0), (1, .int a1), (2, .int a2), (3, .int a3)] → PW g L μ A s H locs → f_X7_readElement_L27 g.2 r_X7_readDoc n a0 a1 a2 a3 μ = some (r, μ') → W p l e (rm_TR (d + 1)) s m args below meth c H locs 0 0 (MQ below (QI g L A r μ') args s 0 0 A) (F0 m 27 ls []) := by
  have hx := hC.1
  have hb := hC.2.1
  intro n
  induction n with
  | zero => intro a0 a1 a2 a3 μ H locs ls hl hw hf; cases hf
  | succ n ih =>
    intro a0 a1 a2 a3 μ H locs ls hl hw hf
    rw [f_X7_readElement_L27] at hf
    refine lv_aload_n hx hb dX7_readElement_27 rfl (lv_at hl 0 rfl) ?_
    obtain ⟨q101, h102, hf⟩ := o_bind hf
    refine pw_get hC fl_X7_45 hw (rdR_F h102) dX7_readElement_28 ?_
    refine lv_iload_n hx hb dX7_readElement_31 rfl (lv_at hl 3 rfl) ?_
    obtain ⟨v103, h104, hf⟩ := o_bind hf
    refine pw_bald hC hw h104 dX7_readElement_32 ?_
    refine lv_if_eq (tgt := 42) hx hb dX7_readElement_33 (by decide) (fun c105 => ?_) (fun c105 => ?_)
    · have hf := o_pos c105 hf
      refine lv_aload_n hx hb dX7_readElement_42 rfl (lv_at hl 0 rfl) ?_
      obtain ⟨q106, h107, hf⟩ := o_bind hf
      refine pw_get hC fl_X7_27 hw (rdR_F h107) dX7_readElement_43 ?_
      refine lv_iload_n hx hb dX7_readElement_46 rfl (lv_at hl 1 rfl) ?_
      refine lv_iload_n hx hb dX7_readElement_47 rfl (lv_at hl 3 rfl) ?_
      refine lv_iload_n hx hb dX7_readElement_48 rfl (lv_at hl 2 rfl) ?_
      refine lv_isub hx hb dX7_readElement_49 ?_
      refine lv_iconst (v := 1) hx hb dX7_readElement_50 nc_iconst_1 ?_
      refine lv_isub hx hb dX7_readElement_51 ?_
      obtain ⟨μ108, h109, hf⟩ := o_bind hf
      refine pw_iast hC hw h109 dX7_readElement_52 (fun H locs hw => ?_)
      refine lv_aload_n hx hb dX7_readElement_53 rfl (lv_at hl 0 rfl) ?_
      obtain ⟨q110, h111, hf⟩ := o_bind hf
      refine pw_get hC fl_X7_30 hw (rdR_F h111) dX7_readElement_54 ?_
      refine lv_iload_n hx hb dX7_readElement_57 rfl (lv_at hl 1 rfl) ?_
      refine lv_iload_n hx hb dX7_readElement_58 rfl (lv_at hl 3 rfl) ?_
      refine lv_iconst (v := 1) hx hb dX7_readElement_59 nc_iconst_1 ?_
      refine lv_iadd hx hb dX7_readElement_60 ?_
      obtain ⟨μ112, h113, hf⟩ := o_bind hf
      refine pw_iast hC hw h113 dX7_readElement_61 (fun H locs hw => ?_)
      refine lv_aload_n hx hb dX7_readElement_62 rfl (lv_at hl 0 rfl) ?_
      obtain ⟨q114, h115, hf⟩ := o_bind hf
      refine pw_get hC fl_X7_33 hw (rdR_F h115) dX7_readElement_63 ?_
      refine lv_iload_n hx hb dX7_readElement_66 rfl (lv_at hl 1 rfl) ?_
      refine lv_aload_n hx hb dX7_readElement_67 rfl (lv_at hl 0 rfl) ?_
      refine lv_aload_n hx hb dX7_readElement_68 rfl (lv_at hl 0 rfl) ?_
      obtain ⟨q116, h117, hf⟩ := o_bind hf
      refine pw_get hC fl_X7_9 hw (rdR_F h117) dX7_readElement_69 ?_
      refine lv_iload_n hx hb dX7_readElement_72 rfl (lv_at hl 1 rfl) ?_
      obtain ⟨v118, h119, hf⟩ := o_bind hf
      refine pw_iald hC hw h119 dX7_readElement_73 ?_
      refine lv_iload_n hx hb dX7_readElement_74 rfl (lv_at hl 3 rfl) ?_
      refine lv_iconst (v := 1) hx hb dX7_readElement_75 nc_iconst_1 ?_
      refine lv_iadd hx hb dX7_readElement_76 ?_
      obtain ⟨h121, hf⟩ := o_ite hf
      obtain ⟨r123, μ122, h120, hf⟩ := o_bind2 hf
      refine pw_goI hw (pw_runV (As := [.int v118, .int (a3 + 1)]) (rest := [.int a1, .ref q114]) hC mm_X7_size tw_1338 (c_X7_size h120 _) (fio_TR d (by decide)) hw h121 rfl hl.1 (Nat.le_of_ble_eq_true rfl) ⟨Nat.zero_le _, Nat.zero_le _⟩ rfl dX7_readElement_77) (fun H locs hw => ?_)
      obtain ⟨μ124, h125, hf⟩ := o_bind hf
      refine pw_iast hC hw h125 dX7_readElement_80 (fun H locs hw => ?_)
      refine lv_aload_n hx hb dX7_readElement_81 rfl (lv_at hl 0 rfl) ?_
      obtain ⟨q126, h127, hf⟩ := o_bind hf
      refine pw_get hC fl_X7_36 hw (rdR_F h127) dX7_readElement_82 ?_
      refine lv_iload_n hx hb dX7_readElement_85 rfl (lv_at hl 1 rfl) ?_
      refine lv_aload_n hx hb dX7_readElement_86 rfl (lv_at hl 0 rfl) ?_
      obtain ⟨q128, h129, hf⟩ := o_bind hf
      refine pw_get hC fl_X7_9 hw (rdR_F h129) dX7_readElement_87 ?_
      refine lv_iload_n hx hb dX7_readElement_90 rfl (lv_at hl 1 rfl) ?_
      obtain ⟨v130, h131, hf⟩ := o_bind hf
      refine pw_iald hC hw h131 dX7_readElement_91 ?_
      refine lv_iconst (v := 3) hx hb dX7_readElement_92 nc_iconst_3 ?_
      refine lv_icmp_eq (tgt := 106) hx hb dX7_readElement_93 (by decide) (fun c132 => ?_) (fun c132 => ?_)
      · have hf := o_pos c132 hf
        exact w_X7_readElement_L106 hC hr hlocks hr_X7_readDoc _ _ _ _ _ _ _ _ ls (lv_sub hl [0, 1, 3] rfl) hw hf
      · have hf := o_neg c132 hf
        refine lv_aload_n hx hb dX7_readElement_96 rfl (lv_at hl 0 rfl) ?_
        obtain ⟨q133, h134, hf⟩ := o_bind hf
        refine pw_get hC fl_X7_9 hw (rdR_F h134) dX7_readElement_97 ?_
        refine lv_iload_n hx hb dX7_readElement_100 rfl (lv_at hl 1 rfl) ?_
        obtain ⟨v135, h136, hf⟩ := o_bind hf
        refine pw_iald hC hw h136 dX7_readElement_101 ?_
        refine lv_iconst (v := 4) hx hb dX7_readElement_102 nc_iconst_4 ?_
        refine lv_icmp_ne (tgt := 112) hx hb dX7_readElement_103 (by decide) (fun c137 => ?_) (fun c137 => ?_)
        · have hf := o_neg c137 hf
          refine lv_aload_n hx hb dX7_readElement_112 rfl (lv_at hl 0 rfl) ?_
          obtain ⟨q138, h139, hf⟩ := o_bind hf
          refine pw_get hC fl_X7_9 hw (rdR_F h139) dX7_readElement_113 ?_
          refine lv_iload_n hx hb dX7_readElement_116 rfl (lv_at hl 1 rfl) ?_
          obtain ⟨v140, h141, hf⟩ := o_bind hf
          refine pw_iald hC hw h141 dX7_readElement_117 ?_
          refine lv_bipush (v := 15) hx hb dX7_readElement_118 nc_bipush_15 ?_
          refine lv_icmp_ne (tgt := 141) hx hb dX7_readElement_120 (by decide) (fun c142 => ?_) (fun c142 => ?_)
          · have hf := o_neg c142 hf
            refine lv_iconst (v := (-1)) hx hb dX7_readElement_141 nc_iconst_m1 ?_
            exact w_X7_readElement_L142 hC hr hlocks hr_X7_readDoc _ _ _ _ _ _ _ _ ls (lv_sub hl [0, 1] rfl) hw hf
          · have hf := o_pos c142 hf
            refine lv_iload_n hx hb dX7_readElement_123 rfl (lv_at hl 3 rfl) ?_
            refine lv_bipush (v := 9) hx hb dX7_readElement_124 nc_bipush_9 ?_
            refine lv_iadd hx hb dX7_readElement_126 ?_
            refine lv_aload_n hx hb dX7_readElement_127 rfl (lv_at hl 0 rfl) ?_
            obtain ⟨q143, h144, hf⟩ := o_bind hf
            refine pw_get hC fl_X7_45 hw (rdR_F h144) dX7_readElement_128 ?_
            refine lv_iload_n hx hb dX7_readElement_131 rfl (lv_at hl 3 rfl) ?_
            refine lv_iconst (v := 5) hx hb dX7_readElement_132 nc_iconst_5 ?_
            refine lv_iadd hx hb dX7_readElement_133 ?_
            obtain ⟨r147, μ146, h145, hf⟩ := o_bind2 hf
            refine pw_goI hw (pw_runSN (As := [.ref q143, .int (a3 + 5)]) (rest := [.int (a3 + 9), .int a1, .ref q126]) hC mm_X8_intAt tw_1333 (c_X8_intAt h145 _) (fio_TR d (by decide)) hw rfl hl.1 (Nat.le_of_ble_eq_true rfl) ⟨Nat.zero_le _, Nat.zero_le _⟩ rfl dX7_readElement_134) (fun H locs hw => ?_)
            refine lv_iadd hx hb dX7_readElement_137 ?_
            refine lv_goto (tgt := 142) hx hb dX7_readElement_138 (by decide) ?_
            exact w_X7_readElement_L142 hC hr hlocks hr_X7_readDoc _ _ _ _ _ _ _ _ ls (lv_sub hl [0, 1] rfl) hw hf
        · have hf := o_pos c137 hf
          exact w_X7_readElement_L106 hC hr hlocks hr_X7_readDoc _ _ _ _ _ _ _ _ ls (lv_sub hl [0, 1, 3] rfl) hw hf
    · have hf := o_neg c105 hf
      refine lv_iinc (v := (a3 + 1)) (lv' := [(3, .int (a3 + 1)), (0, .ref a0), (1, .int a1), (2, .int a2)]) hx hb dX7_readElement_36 hl (k := 3) rfl (by first | rfl | decide +kernel) (by decide) rfl (fun ls hl => ?_)
      refine lv_goto (tgt := 27) hx hb dX7_readElement_39 (by decide) ?_
      exact ih _ _ _ _ _ _ _ ls (lv_sub hl [1, 2, 3, 0] rfl) hw hf
def fo_X7_readElement (cy : Nat → ClassId) (r_X7_readDoc : Nat → Int32 → Mem → Option Mem) (a0 : Nat) (a1 : Int32) (a2 : Int32) (μ : Mem) : Option (Int32 × Mem) :=
  (rdR μ a0 6 6).bind fun q1 => (wrA cy μ 1 q1 a1 a2).bind fun μ3 => (rdR μ3 a0 6 2).bind fun q5 => (rdR μ3 a0 6 0).bind fun q7 => (rdA cy μ3 0 q7 a2).bind fun v9 => (wrA cy μ3 1 q5 a1 (v9 &&& 255)).bind fun μ11 => f_X7_readElement_L27 cy r_X7_readDoc FU a0 a1 a2 (a2 + 1) μ11
set_option maxRecDepth 100000 in
set_option maxHeartbeats 4000000 in
theorem co_X7_readElement {l : Launch} {g : Wg} {L : List Nat} {d : Nat} {r_X7_readDoc : Nat → Int32 → Mem → Option Mem} (hr_X7_readDoc : ∀ {a0 : Nat} {a1 : Int32} {μ : Mem} {μ9 : Mem}, r_X7_readDoc a0 a1 μ = some μ9 → MetV l yX7_readDoc cX7_readDoc 6 none (rm_TR d) g L μ [.ref a0, .int a1] μ9) {μ : Mem} {a0 : Nat} {a1 : Int32} {a2 : Int32} {r : Int32} {μ' : Mem} (hf : fo_X7_readElement g.2 r_X7_readDoc a0 a1 a2 μ = some (r, μ')) : MetI l yX7_readElement cX7_readElement 4 (some .int) (rm_TR (d + 1)) g L μ [.ref a0, .int a1, .int a2] r μ' := by
  refine pw_met (Qc := fun A => QI g L A r μ') (by decide) (Nat.le_of_ble_eq_true rfl) ?_
  intro p e s m args below meth c A ls H locs hC hr hlocks hl hw
  have hx := hC.1
  have hb := hC.2.1
  have hl : lv_has ls 4 [(0, .ref a0), (1, .int a1), (2, .int a2)] := hl
  unfold fo_X7_readElement at hf
  refine lv_aload_n hx hb dX7_readElement_0 rfl (lv_at hl 0 rfl) ?_
  obtain ⟨q1, h2, hf⟩ := o_bind hf
  refine pw_get hC fl_X7_24 hw (rdR_F h2) dX7_readElement_1 ?_
  refine lv_iload_n hx hb dX7_readElement_4 rfl (lv_at hl 1 rfl) ?_
  refine lv_iload_n hx hb dX7_readElement_5 rfl (lv_at hl 2 rfl) ?_
  obtain ⟨μ3, h4, hf⟩ := o_bind hf
  refine pw_iast hC hw h4 dX7_readElement_6 (fun H locs hw => ?_)
  refine lv_aload_n hx hb dX7_readElement_7 rfl (lv_at hl 0 rfl) ?_
  obtain ⟨q5, h6, hf⟩ := o_bind hf
  refine pw_get hC fl_X7_9 hw (rdR_F h6) dX7_readElement_8 ?_
  refine lv_iload_n hx hb dX7_readElement_11 rfl (lv_at hl 1 rfl) ?_
  refine lv_aload_n hx hb dX7_readElement_12 rfl (lv_at hl 0 rfl) ?_
  obtain ⟨q7, h8, hf⟩ := o_bind hf
  refine pw_get hC fl_X7_45 hw (rdR_F h8) dX7_readElement_13 ?_
  refine lv_iload_n hx hb dX7_readElement_16 rfl (lv_at hl 2 rfl) ?_
  obtain ⟨v9, h10, hf⟩ := o_bind hf
  refine pw_bald hC hw h10 dX7_readElement_17 ?_
  refine lv_sipush (v := 255) hx hb dX7_readElement_18 nc_sipush_255 ?_
  refine lv_iand hx hb dX7_readElement_21 ?_
  obtain ⟨μ11, h12, hf⟩ := o_bind hf
  refine pw_iast hC hw h12 dX7_readElement_22 (fun H locs hw => ?_)
  refine lv_iload_n hx hb dX7_readElement_23 rfl (lv_at hl 2 rfl) ?_
  refine lv_iconst (v := 1) hx hb dX7_readElement_24 nc_iconst_1 ?_
  refine lv_iadd hx hb dX7_readElement_25 ?_
  refine lv_istore_n (lv' := [(3, .int (a2 + 1)), (0, .ref a0), (1, .int a1), (2, .int a2)]) hx hb dX7_readElement_26 rfl hl (by decide) rfl (fun ls hl => ?_)
  exact w_X7_readElement_L27 hC hr hlocks hr_X7_readDoc FU _ _ _ _ _ _ _ ls (lv_sub hl [1, 2, 3, 0] rfl) hw hf
def g_TR (cy : Nat → ClassId) : Nat → (Nat → Int32 → Mem → Option Mem) × (Nat → Int32 → Int32 → Mem → Option (Int32 × Mem))
  | 0 => (fun _ _ _ => none, fun _ _ _ _ => none)
  | d + 1 => (fo_X7_readDoc cy (g_TR cy d).2, fo_X7_readElement cy (g_TR cy d).1)
def f_X7_readDoc (cy : Nat → ClassId) (d : Nat) : Nat → Int32 → Mem → Option Mem := (g_TR cy d).1
def f_X7_readElement (cy : Nat → ClassId) (d : Nat) : Nat → Int32 → Int32 → Mem → Option (Int32 × Mem) := (g_TR cy d).2
theorem f_X7_readDoc_s (cy : Nat → ClassId) (d : Nat) : f_X7_readDoc cy (d + 1) = fo_X7_readDoc cy (f_X7_readElement cy d) := rfl
theorem f_X7_readElement_s (cy : Nat → ClassId) (d : Nat) : f_X7_readElement cy (d + 1) = fo_X7_readElement cy (f_X7_readDoc cy d) := rfl
theorem ca_TR {l : Launch} {g : Wg} {L : List Nat} : ∀ (d : Nat), (∀ {a0 : Nat} {a1 : Int32} {μ : Mem} {μ9 : Mem}, f_X7_readDoc g.2 d a0 a1 μ = some μ9 → MetV l yX7_readDoc cX7_readDoc 6 none (rm_TR d) g L μ [.ref a0, .int a1] μ9) ∧ (∀ {a0 : Nat} {a1 : Int32} {a2 : Int32} {μ : Mem} {r9 : Int32} {μ9 : Mem}, f_X7_readElement g.2 d a0 a1 a2 μ = some (r9, μ9) → MetI l yX7_readElement cX7_readElement 4 (some .int) (rm_TR d) g L μ [.ref a0, .int a1, .int a2] r9 μ9) := by
  intro d
  induction d with
  | zero => exact ⟨(fun h => by cases h), (fun h => by cases h)⟩
  | succ d ih =>
    obtain ⟨h0, h1⟩ := ih
    exact ⟨(fun h => co_X7_readDoc h1 h), (fun h => co_X7_readElement h0 h)⟩
theorem c_X7_readDoc {l : Launch} {g : Wg} {L : List Nat} {d : Nat} {μ : Mem} {a0 : Nat} {a1 : Int32} {μ9 : Mem} (hf : f_X7_readDoc g.2 d a0 a1 μ = some μ9) : MetV l yX7_readDoc cX7_readDoc 6 none (rm_TR d) g L μ [.ref a0, .int a1] μ9 := (ca_TR d).1 hf
theorem c_X7_readElement {l : Launch} {g : Wg} {L : List Nat} {d : Nat} {μ : Mem} {a0 : Nat} {a1 : Int32} {a2 : Int32} {r9 : Int32} {μ9 : Mem} (hf : f_X7_readElement g.2 d a0 a1 a2 μ = some (r9, μ9)) : MetI l yX7_readElement cX7_readElement 4 (some .int) (rm_TR d) g L μ [.ref a0, .int a1, .int a2] r9 μ9 := (ca_TR d).2 hf
theorem dX7_read_0 : decode cX7_read 0 = .ok (.aload_n 0, 1) := by decide +kernel
theorem dX7_read_1 : decode cX7_read 1 = .ok (.aload_n 1, 1) := by decide +kernel
theorem dX7_read_2 : decode cX7_read 2 = .ok (.putfield 45, 3) := by decide +kernel
theorem dX7_read_5 : decode cX7_read 5 = .ok (.aload_n 0, 1) := by decide +kernel
theorem dX7_read_6 : decode cX7_read 6 = .ok (.iconst 1, 1) := by decide +kernel
theorem dX7_read_7 : decode cX7_read 7 = .ok (.putfield 49, 3) := by decide +kernel
theorem dX7_read_10 : decode cX7_read 10 = .ok (.aload_n 0, 1) := by decide +kernel
theorem dX7_read_11 : decode cX7_read 11 = .ok (.getfield 9, 3) := by decide +kernel
theorem dX7_read_14 : decode cX7_read 14 = .ok (.iconst 0, 1) := by decide +kernel
theorem dX7_read_15 : decode cX7_read 15 = .ok (.iconst 0, 1) := by decide +kernel
theorem dX7_read_16 : decode cX7_read 16 = .ok (.iastore, 1) := by decide +kernel
theorem dX7_read_17 : decode cX7_read 17 = .ok (.aload_n 0, 1) := by decide +kernel
theorem dX7_read_18 : decode cX7_read 18 = .ok (.getfield 15, 3) := by decide +kernel
theorem dX7_read_21 : decode cX7_read 21 = .ok (.iconst 0, 1) := by decide +kernel
theorem dX7_read_22 : decode cX7_read 22 = .ok (.iconst (-1), 1) := by decide +kernel
theorem dX7_read_23 : decode cX7_read 23 = .ok (.iastore, 1) := by decide +kernel
theorem dX7_read_24 : decode cX7_read 24 = .ok (.aload_n 0, 1) := by decide +kernel
theorem dX7_read_25 : decode cX7_read 25 = .ok (.getfield 24, 3) := by decide +kernel
theorem dX7_read_28 : decode cX7_read 28 = .ok (.iconst 0, 1) := by decide +kernel
theorem dX7_read_29 : decode cX7_read 29 = .ok (.iconst 0, 1) := by decide +kernel
theorem dX7_read_30 : decode cX7_read 30 = .ok (.iastore, 1) := by decide +kernel
theorem dX7_read_31 : decode cX7_read 31 = .ok (.aload_n 0, 1) := by decide +kernel
theorem dX7_read_32 : decode cX7_read 32 = .ok (.getfield 27, 3) := by decide +kernel
theorem dX7_read_35 : decode cX7_read 35 = .ok (.iconst 0, 1) := by decide +kernel
theorem dX7_read_36 : decode cX7_read 36 = .ok (.iconst 0, 1) := by decide +kernel
theorem dX7_read_37 : decode cX7_read 37 = .ok (.iastore, 1) := by decide +kernel
theorem dX7_read_38 : decode cX7_read 38 = .ok (.aload_n 0, 1) := by decide +kernel
theorem dX7_read_39 : decode cX7_read 39 = .ok (.getfield 30, 3) := by decide +kernel
theorem dX7_read_42 : decode cX7_read 42 = .ok (.iconst 0, 1) := by decide +kernel
theorem dX7_read_43 : decode cX7_read 43 = .ok (.iconst 0, 1) := by decide +kernel
theorem dX7_read_44 : decode cX7_read 44 = .ok (.iastore, 1) := by decide +kernel
theorem dX7_read_45 : decode cX7_read 45 = .ok (.aload_n 0, 1) := by decide +kernel
theorem dX7_read_46 : decode cX7_read 46 = .ok (.getfield 36, 3) := by decide +kernel
theorem dX7_read_49 : decode cX7_read 49 = .ok (.iconst 0, 1) := by decide +kernel
theorem dX7_read_50 : decode cX7_read 50 = .ok (.iconst 0, 1) := by decide +kernel
theorem dX7_read_51 : decode cX7_read 51 = .ok (.iastore, 1) := by decide +kernel
theorem dX7_read_52 : decode cX7_read 52 = .ok (.aload_n 0, 1) := by decide +kernel
theorem dX7_read_53 : decode cX7_read 53 = .ok (.getfield 42, 3) := by decide +kernel
theorem dX7_read_56 : decode cX7_read 56 = .ok (.iconst 0, 1) := by decide +kernel
theorem dX7_read_57 : decode cX7_read 57 = .ok (.iconst 1, 1) := by decide +kernel
theorem dX7_read_58 : decode cX7_read 58 = .ok (.iastore, 1) := by decide +kernel
theorem dX7_read_59 : decode cX7_read 59 = .ok (.aload_n 0, 1) := by decide +kernel
theorem dX7_read_60 : decode cX7_read 60 = .ok (.iconst 0, 1) := by decide +kernel
theorem dX7_read_61 : decode cX7_read 61 = .ok (.invokevirtual 53, 3) := by decide +kernel
theorem dX7_read_64 : decode cX7_read 64 = .ok (.aload_n 0, 1) := by decide +kernel
theorem dX7_read_65 : decode cX7_read 65 = .ok (.getfield 33, 3) := by decide +kernel
theorem dX7_read_68 : decode cX7_read 68 = .ok (.iconst 0, 1) := by decide +kernel
theorem dX7_read_69 : decode cX7_read 69 = .ok (.aload_n 0, 1) := by decide +kernel
theorem dX7_read_70 : decode cX7_read 70 = .ok (.getfield 45, 3) := by decide +kernel
theorem dX7_read_73 : decode cX7_read 73 = .ok (.iconst 0, 1) := by decide +kernel
theorem dX7_read_74 : decode cX7_read 74 = .ok (.invokestatic 57, 3) := by decide +kernel
theorem dX7_read_77 : decode cX7_read 77 = .ok (.iastore, 1) := by decide +kernel
theorem dX7_read_78 : decode cX7_read 78 = .ok (.return_, 1) := by decide +kernel
abbrev rm_X7_read : Room := { frames := 123, cells := 0, slots := 0, locals := 3069 }
def f_X7_read (cy : Nat → ClassId) (a0 : Nat) (a1 : Nat) (μ : Mem) : Option Mem :=
  (wrF μ a0 6 0 (.ref a1)).bind fun μ1 => (wrF μ1 a0 6 1 (.int 1)).bind fun μ3 => (rdR μ3 a0 6 2).bind fun q5 => (wrA cy μ3 1 q5 0 0).bind fun μ7 => (rdR μ7 a0 6 3).bind fun q9 => (wrA cy μ7 1 q9 0 (-1)).bind fun μ11 => (rdR μ11 a0 6 6).bind fun q13 => (wrA cy μ11 1 q13 0 0).bind fun μ15 => (rdR μ15 a0 6 7).bind fun q17 => (wrA cy μ15 1 q17 0 0).bind fun μ19 => (rdR μ19 a0 6 8).bind fun q21 => (wrA cy μ19 1 q21 0 0).bind fun μ23 => (rdR μ23 a0 6 10).bind fun q25 => (wrA cy μ23 1 q25 0 0).bind fun μ27 => (rdR μ27 a0 6 12).bind fun q29 => (wrA cy μ27 1 q29 0 1).bind fun μ31 => if isO μ31 a0 6 = true then ((f_X7_readDoc cy DP a0 0 μ31).bind fun μ35 => (rdR μ35 a0 6 9).bind fun q36 => (rdR μ35 a0 6 0).bind fun q38 => ob2 (f_X8_intAt cy q38 0 μ35) fun r42 μ41 => (wrA cy μ41 1 q36 0 r42).bind fun μ43 => some μ43) else none
set_option maxRecDepth 100000 in
set_option maxHeartbeats 4000000 in
theorem c_X7_read {l : Launch} {g : Wg} {L : List Nat} {μ : Mem} {a0 : Nat} {a1 : Nat} {μ' : Mem} (hf : f_X7_read g.2 a0 a1 μ = some μ') : MetV l yX7_read cX7_read 2 none rm_X7_read g L μ [.ref a0, .ref a1] μ' := by
  refine pw_met (Qc := fun A => QV g L A μ') (by decide) (Nat.le_of_ble_eq_true rfl) ?_
  intro p e s m args below meth c A ls H locs hC hr hlocks hl hw
  have hx := hC.1
  have hb := hC.2.1
  have hl : lv_has ls 2 [(0, .ref a0), (1, .ref a1)] := hl
  unfold f_X7_read at hf
  refine lv_aload_n hx hb dX7_read_0 rfl (lv_at hl 0 rfl) ?_
  refine lv_aload_n hx hb dX7_read_1 rfl (lv_at hl 1 rfl) ?_
  obtain ⟨μ1, h2, hf⟩ := o_bind hf
  refine pw_put hC fl_X7_45 hw h2 (.array .byte) fd_X7_0 rfl rfl dX7_read_2 (fun H locs hw => ?_)
  refine lv_aload_n hx hb dX7_read_5 rfl (lv_at hl 0 rfl) ?_
  refine lv_iconst (v := 1) hx hb dX7_read_6 nc_iconst_1 ?_
  obtain ⟨μ3, h4, hf⟩ := o_bind hf
  refine pw_put hC fl_X7_49 hw h4 .int fd_X7_1 rfl rfl dX7_read_7 (fun H locs hw => ?_)
  refine lv_aload_n hx hb dX7_read_10 rfl (lv_at hl 0 rfl) ?_
  obtain ⟨q5, h6, hf⟩ := o_bind hf
  refine pw_get hC fl_X7_9 hw (rdR_F h6) dX7_read_11 ?_
  refine lv_iconst (v := 0) hx hb dX7_read_14 nc_iconst_0 ?_
  refine lv_iconst (v := 0) hx hb dX7_read_15 nc_iconst_0 ?_
  obtain ⟨μ7, h8, hf⟩ := o_bind hf
  refine pw_iast hC hw h8 dX7_read_16 (fun H locs hw => ?_)
  refine lv_aload_n hx hb dX7_read_17 rfl (lv_at hl 0 rfl) ?_
  obtain ⟨q9, h10, hf⟩ := o_bind hf
  refine pw_get hC fl_X7_15 hw (rdR_F h10) dX7_read_18 ?_
  refine lv_iconst (v := 0) hx hb dX7_read_21 nc_iconst_0 ?_
  refine lv_iconst (v := (-1)) hx hb dX7_read_22 nc_iconst_m1 ?_
  obtain ⟨μ11, h12, hf⟩ := o_bind hf
  refine pw_iast hC hw h12 dX7_read_23 (fun H locs hw => ?_)
  refine lv_aload_n hx hb dX7_read_24 rfl (lv_at hl 0 rfl) ?_
  obtain ⟨q13, h14, hf⟩ := o_bind hf
  refine pw_get hC fl_X7_24 hw (rdR_F h14) dX7_read_25 ?_
  refine lv_iconst (v := 0) hx hb dX7_read_28 nc_iconst_0 ?_
  refine lv_iconst (v := 0) hx hb dX7_read_29 nc_iconst_0 ?_
  obtain ⟨μ15, h16, hf⟩ := o_bind hf
  refine pw_iast hC hw h16 dX7_read_30 (fun H locs hw => ?_)
  refine lv_aload_n hx hb dX7_read_31 rfl (lv_at hl 0 rfl) ?_
  obtain ⟨q17, h18, hf⟩ := o_bind hf
  refine pw_get hC fl_X7_27 hw (rdR_F h18) dX7_read_32 ?_
  refine lv_iconst (v := 0) hx hb dX7_read_35 nc_iconst_0 ?_
  refine lv_iconst (v := 0) hx hb dX7_read_36 nc_iconst_0 ?_
  obtain ⟨μ19, h20, hf⟩ := o_bind hf
  refine pw_iast hC hw h20 dX7_read_37 (fun H locs hw => ?_)
  refine lv_aload_n hx hb dX7_read_38 rfl (lv_at hl 0 rfl) ?_
  obtain ⟨q21, h22, hf⟩ := o_bind hf
  refine pw_get hC fl_X7_30 hw (rdR_F h22) dX7_read_39 ?_
  refine lv_iconst (v := 0) hx hb dX7_read_42 nc_iconst_0 ?_
  refine lv_iconst (v := 0) hx hb dX7_read_43 nc_iconst_0 ?_
  obtain ⟨μ23, h24, hf⟩ := o_bind hf
  refine pw_iast hC hw h24 dX7_read_44 (fun H locs hw => ?_)
  refine lv_aload_n hx hb dX7_read_45 rfl (lv_at hl 0 rfl) ?_
  obtain ⟨q25, h26, hf⟩ := o_bind hf
  refine pw_get hC fl_X7_36 hw (rdR_F h26) dX7_read_46 ?_
  refine lv_iconst (v := 0) hx hb dX7_read_49 nc_iconst_0 ?_
  refine lv_iconst (v := 0) hx hb dX7_read_50 nc_iconst_0 ?_
  obtain ⟨μ27, h28, hf⟩ := o_bind hf
  refine pw_iast hC hw h28 dX7_read_51 (fun H locs hw => ?_)
  refine lv_aload_n hx hb dX7_read_52 rfl (lv_at hl 0 rfl) ?_
  obtain ⟨q29, h30, hf⟩ := o_bind hf
  refine pw_get hC fl_X7_42 hw (rdR_F h30) dX7_read_53 ?_
  refine lv_iconst (v := 0) hx hb dX7_read_56 nc_iconst_0 ?_
  refine lv_iconst (v := 1) hx hb dX7_read_57 nc_iconst_1 ?_
  obtain ⟨μ31, h32, hf⟩ := o_bind hf
  refine pw_iast hC hw h32 dX7_read_58 (fun H locs hw => ?_)
  refine lv_aload_n hx hb dX7_read_59 rfl (lv_at hl 0 rfl) ?_
  refine lv_iconst (v := 0) hx hb dX7_read_60 nc_iconst_0 ?_
  obtain ⟨h34, hf⟩ := o_ite hf
  obtain ⟨μ35, h33, hf⟩ := o_bind hf
  refine pw_goV hw (pw_runV (As := [.int 0]) (rest := []) hC mm_X7_readDoc tw_1329 (c_X7_readDoc (d := DP) h33 _) ⟨rfl, rfl, by decide, by decide⟩ hw h34 rfl hl.1 (Nat.le_of_ble_eq_true rfl) ⟨Nat.zero_le _, Nat.zero_le _⟩ rfl dX7_read_61) (fun H locs hw => ?_)
  refine lv_aload_n hx hb dX7_read_64 rfl (lv_at hl 0 rfl) ?_
  obtain ⟨q36, h37, hf⟩ := o_bind hf
  refine pw_get hC fl_X7_33 hw (rdR_F h37) dX7_read_65 ?_
  refine lv_iconst (v := 0) hx hb dX7_read_68 nc_iconst_0 ?_
  refine lv_aload_n hx hb dX7_read_69 rfl (lv_at hl 0 rfl) ?_
  obtain ⟨q38, h39, hf⟩ := o_bind hf
  refine pw_get hC fl_X7_45 hw (rdR_F h39) dX7_read_70 ?_
  refine lv_iconst (v := 0) hx hb dX7_read_73 nc_iconst_0 ?_
  obtain ⟨r42, μ41, h40, hf⟩ := o_bind2 hf
  refine pw_goI hw (pw_runSN (As := [.ref q38, .int 0]) (rest := [.int 0, .ref q36]) hC mm_X8_intAt tw_1333 (c_X8_intAt h40 _) ⟨rfl, rfl, by decide, by decide⟩ hw rfl hl.1 (Nat.le_of_ble_eq_true rfl) ⟨Nat.zero_le _, Nat.zero_le _⟩ rfl dX7_read_74) (fun H locs hw => ?_)
  obtain ⟨μ43, h44, hf⟩ := o_bind hf
  refine pw_iast hC hw h44 dX7_read_77 (fun H locs hw => ?_)
  obtain rfl := o_retv hf
  exact pw_vret hC hr hlocks hw dX7_read_78
