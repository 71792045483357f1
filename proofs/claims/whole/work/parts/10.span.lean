theorem nc_bipush_8 : (Int8.ofInt 8).toInt32 = 8 := by decide +kernel
theorem nc_bipush_16 : (Int8.ofInt 16).toInt32 = 16 := by decide +kernel
theorem nc_bipush_24 : (Int8.ofInt 24).toInt32 = 24 := by decide +kernel
theorem nc_bipush_32 : (Int8.ofInt 32).toInt32 = 32 := by decide +kernel
theorem nc_iconst_m1 : Int32.ofInt (-1) = (-1) := by decide +kernel
theorem nc_iconst_0 : Int32.ofInt 0 = 0 := by decide +kernel
theorem nc_iconst_1 : Int32.ofInt 1 = 1 := by decide +kernel
theorem nc_iconst_2 : Int32.ofInt 2 = 2 := by decide +kernel
theorem nc_iconst_3 : Int32.ofInt 3 = 3 := by decide +kernel
theorem nc_iconst_4 : Int32.ofInt 4 = 4 := by decide +kernel
theorem nc_sipush_255 : (Int16.ofInt 255).toInt32 = 255 := by decide +kernel
theorem tw_2 : (Jvm.Cond.initialized "SpanShelves$Span") ∈ tw := tw_t 2 (by decide +kernel) (by decide +kernel)
theorem tw_3 : (Jvm.Cond.initialized "java/lang/Math") ∈ tw := tw_t 3 (by decide +kernel) (by decide +kernel)
theorem tw_8 : (Jvm.Cond.initialized "java/lang/System") ∈ tw := tw_t 8 (by decide +kernel) (by decide +kernel)
theorem tw_37 : (Jvm.Cond.fieldLink "SpanShelves$Span" (25 : Nat) "SpanShelves$Span" "cells" "[I") ∈ tw := tw_t 37 (by decide +kernel) (by decide +kernel)
theorem tw_38 : (Jvm.Cond.fieldLink "SpanShelves$Span" (9 : Nat) "SpanShelves$Span" "size" "I") ∈ tw := tw_t 38 (by decide +kernel) (by decide +kernel)
theorem tw_43 : (Jvm.Cond.fieldLink "SpanShelves$Span" (15 : Nat) "SpanShelves$Span" "isOver" "Z") ∈ tw := tw_t 43 (by decide +kernel) (by decide +kernel)
theorem tw_183 : (Jvm.Cond.methodLink "SpanShelves$Span" (45 : Nat) ({ cls := "SpanShelves$Span", name := "append", desc := "(I)V" } : Jvm.MethodName)) ∈ tw := tw_t 183 (by decide +kernel) (by decide +kernel)
theorem tw_184 : (Jvm.Cond.instanceMethod ({ cls := "SpanShelves$Span", name := "append", desc := "(I)V" } : Jvm.MethodName)) ∈ tw := tw_t 184 (by decide +kernel) (by decide +kernel)
theorem tw_185 : (Jvm.Cond.selects "SpanShelves$Span" ({ cls := "SpanShelves$Span", name := "append", desc := "(I)V" } : Jvm.MethodName) ({ cls := "SpanShelves$Span", name := "append", desc := "(I)V" } : Jvm.MethodName)) ∈ tw := tw_t 185 (by decide +kernel) (by decide +kernel)
theorem tw_186 : (Jvm.Cond.code ({ cls := "SpanShelves$Span", name := "append", desc := "(I)V" } : Jvm.MethodName) prog_7_method_8_code (2 : Nat) (Option.none : Option Jvm.ClassFile.FieldType)) ∈ tw := tw_t 186 (by decide +kernel) (by decide +kernel)
theorem tw_231 : (Jvm.Cond.methodLink "SpanShelves$Span" (29 : Nat) ({ cls := "SpanShelves$Span", name := "clear", desc := "()V" } : Jvm.MethodName)) ∈ tw := tw_t 231 (by decide +kernel) (by decide +kernel)
theorem tw_232 : (Jvm.Cond.instanceMethod ({ cls := "SpanShelves$Span", name := "clear", desc := "()V" } : Jvm.MethodName)) ∈ tw := tw_t 232 (by decide +kernel) (by decide +kernel)
theorem tw_233 : (Jvm.Cond.selects "SpanShelves$Span" ({ cls := "SpanShelves$Span", name := "clear", desc := "()V" } : Jvm.MethodName) ({ cls := "SpanShelves$Span", name := "clear", desc := "()V" } : Jvm.MethodName)) ∈ tw := tw_t 233 (by decide +kernel) (by decide +kernel)
theorem tw_234 : (Jvm.Cond.code ({ cls := "SpanShelves$Span", name := "clear", desc := "()V" } : Jvm.MethodName) prog_7_method_2_code (1 : Nat) (Option.none : Option Jvm.ClassFile.FieldType)) ∈ tw := tw_t 234 (by decide +kernel) (by decide +kernel)
theorem tw_235 : (Jvm.Cond.methodLink "SpanShelves$Span" (32 : Nat) ({ cls := "SpanShelves$Span", name := "appendPart", desc := "(LSpanShelves$Span;II)V" } : Jvm.MethodName)) ∈ tw := tw_t 235 (by decide +kernel) (by decide +kernel)
theorem tw_236 : (Jvm.Cond.instanceMethod ({ cls := "SpanShelves$Span", name := "appendPart", desc := "(LSpanShelves$Span;II)V" } : Jvm.MethodName)) ∈ tw := tw_t 236 (by decide +kernel) (by decide +kernel)
theorem tw_237 : (Jvm.Cond.selects "SpanShelves$Span" ({ cls := "SpanShelves$Span", name := "appendPart", desc := "(LSpanShelves$Span;II)V" } : Jvm.MethodName) ({ cls := "SpanShelves$Span", name := "appendPart", desc := "(LSpanShelves$Span;II)V" } : Jvm.MethodName)) ∈ tw := tw_t 237 (by decide +kernel) (by decide +kernel)
theorem tw_238 : (Jvm.Cond.code ({ cls := "SpanShelves$Span", name := "appendPart", desc := "(LSpanShelves$Span;II)V" } : Jvm.MethodName) prog_7_method_11_code (4 : Nat) (Option.none : Option Jvm.ClassFile.FieldType)) ∈ tw := tw_t 238 (by decide +kernel) (by decide +kernel)
theorem tw_239 : (Jvm.Cond.methodLink "SpanShelves$Span" (49 : Nat) ({ cls := "java/lang/System", name := "arraycopy", desc := "(Ljava/lang/Object;ILjava/lang/Object;II)V" } : Jvm.MethodName)) ∈ tw := tw_t 239 (by decide +kernel) (by decide +kernel)
theorem tw_240 : (Jvm.Cond.static ({ cls := "java/lang/System", name := "arraycopy", desc := "(Ljava/lang/Object;ILjava/lang/Object;II)V" } : Jvm.MethodName)) ∈ tw := tw_t 240 (by decide +kernel) (by decide +kernel)
theorem tw_241 : (Jvm.Cond.native ({ cls := "java/lang/System", name := "arraycopy", desc := "(Ljava/lang/Object;ILjava/lang/Object;II)V" } : Jvm.MethodName)) ∈ tw := tw_t 241 (by decide +kernel) (by decide +kernel)
theorem tw_255 : (Jvm.Cond.instanceMethod ({ cls := "SpanShelves$Span", name := "intAt", desc := "(I)I" } : Jvm.MethodName)) ∈ tw := tw_t 255 (by decide +kernel) (by decide +kernel)
theorem tw_256 : (Jvm.Cond.selects "SpanShelves$Span" ({ cls := "SpanShelves$Span", name := "intAt", desc := "(I)I" } : Jvm.MethodName) ({ cls := "SpanShelves$Span", name := "intAt", desc := "(I)I" } : Jvm.MethodName)) ∈ tw := tw_t 256 (by decide +kernel) (by decide +kernel)
theorem tw_257 : (Jvm.Cond.code ({ cls := "SpanShelves$Span", name := "intAt", desc := "(I)I" } : Jvm.MethodName) prog_7_method_5_code (2 : Nat) (Option.some Jvm.ClassFile.FieldType.int)) ∈ tw := tw_t 257 (by decide +kernel) (by decide +kernel)
theorem tw_258 : (Jvm.Cond.methodLink "SpanShelves$Span" (36 : Nat) ({ cls := "SpanShelves$Span", name := "at", desc := "(I)I" } : Jvm.MethodName)) ∈ tw := tw_t 258 (by decide +kernel) (by decide +kernel)
theorem tw_259 : (Jvm.Cond.instanceMethod ({ cls := "SpanShelves$Span", name := "at", desc := "(I)I" } : Jvm.MethodName)) ∈ tw := tw_t 259 (by decide +kernel) (by decide +kernel)
theorem tw_260 : (Jvm.Cond.selects "SpanShelves$Span" ({ cls := "SpanShelves$Span", name := "at", desc := "(I)I" } : Jvm.MethodName) ({ cls := "SpanShelves$Span", name := "at", desc := "(I)I" } : Jvm.MethodName)) ∈ tw := tw_t 260 (by decide +kernel) (by decide +kernel)
theorem tw_261 : (Jvm.Cond.code ({ cls := "SpanShelves$Span", name := "at", desc := "(I)I" } : Jvm.MethodName) prog_7_method_4_code (2 : Nat) (Option.some Jvm.ClassFile.FieldType.int)) ∈ tw := tw_t 261 (by decide +kernel) (by decide +kernel)
theorem tw_267 : (Jvm.Cond.methodLink "SpanShelves$Span" (60 : Nat) ({ cls := "SpanShelves$Span", name := "zeroFrom", desc := "(II)I" } : Jvm.MethodName)) ∈ tw := tw_t 267 (by decide +kernel) (by decide +kernel)
theorem tw_268 : (Jvm.Cond.instanceMethod ({ cls := "SpanShelves$Span", name := "zeroFrom", desc := "(II)I" } : Jvm.MethodName)) ∈ tw := tw_t 268 (by decide +kernel) (by decide +kernel)
theorem tw_269 : (Jvm.Cond.selects "SpanShelves$Span" ({ cls := "SpanShelves$Span", name := "zeroFrom", desc := "(II)I" } : Jvm.MethodName) ({ cls := "SpanShelves$Span", name := "zeroFrom", desc := "(II)I" } : Jvm.MethodName)) ∈ tw := tw_t 269 (by decide +kernel) (by decide +kernel)
theorem tw_270 : (Jvm.Cond.code ({ cls := "SpanShelves$Span", name := "zeroFrom", desc := "(II)I" } : Jvm.MethodName) prog_7_method_13_code (4 : Nat) (Option.some Jvm.ClassFile.FieldType.int)) ∈ tw := tw_t 270 (by decide +kernel) (by decide +kernel)
theorem tw_284 : (Jvm.Cond.static ({ cls := "java/lang/Math", name := "min", desc := "(II)I" } : Jvm.MethodName)) ∈ tw := tw_t 284 (by decide +kernel) (by decide +kernel)
theorem tw_285 : (Jvm.Cond.code ({ cls := "java/lang/Math", name := "min", desc := "(II)I" } : Jvm.MethodName) prog_15_method_69_code (2 : Nat) (Option.some Jvm.ClassFile.FieldType.int)) ∈ tw := tw_t 285 (by decide +kernel) (by decide +kernel)
theorem tw_751 : (Jvm.Cond.methodLink "SpanShelves$Span" (40 : Nat) ({ cls := "SpanShelves$Span", name := "intAt", desc := "(I)I" } : Jvm.MethodName)) ∈ tw := tw_t 751 (by decide +kernel) (by decide +kernel)
theorem tw_752 : (Jvm.Cond.constantLong "SpanShelves$Span" (43 : Nat) (4294967295 : Int64)) ∈ tw := tw_t 752 (by decide +kernel) (by decide +kernel)
theorem tw_829 : (Jvm.Cond.methodLink "SpanShelves$Span" (63 : Nat) ({ cls := "java/lang/Math", name := "min", desc := "(II)I" } : Jvm.MethodName)) ∈ tw := tw_t 829 (by decide +kernel) (by decide +kernel)
theorem iw_X5 : ∀ w ∈ u_ws RX5 TX5 3, w ∈ tw := fun w h => List.mem_filter.mpr ⟨(show ∀ w ∈ u_ws RX5 TX5 3, w ∈ lw_tbl by decide +kernel) w h, (show ∀ w ∈ u_ws RX5 TX5 3, tw_ok w = true by decide +kernel) w h⟩
theorem fl_X5_9 : FL RX5 9 4 1 := ⟨by decide, RX5, TX5, 3, tyX5, rfl, by decide, rfl, iw_X5, tyX5_ok, nmX5, Or.inl tw_38⟩
theorem fl_X5_15 : FL RX5 15 4 2 := ⟨by decide, RX5, TX5, 3, tyX5, rfl, by decide, rfl, iw_X5, tyX5_ok, nmX5, Or.inl tw_43⟩
theorem fl_X5_25 : FL RX5 25 4 0 := ⟨by decide, RX5, TX5, 3, tyX5, rfl, by decide, rfl, iw_X5, tyX5_ok, nmX5, Or.inl tw_37⟩
theorem fd_X5_1 : ∀ (C : String) (T : u_T) (N : Nat), vwCl[4]? = some (C, T, N) → (T 1).2.2.2 = false ∧ parseFieldDescriptor (T 1).2.2.1 = some .int := by intro C T N h; cases h; exact ⟨rfl, by decide +kernel⟩
theorem fd_X5_2 : ∀ (C : String) (T : u_T) (N : Nat), vwCl[4]? = some (C, T, N) → (T 2).2.2.2 = false ∧ parseFieldDescriptor (T 2).2.2.1 = some .boolean := by intro C T N h; cases h; exact ⟨rfl, by decide +kernel⟩
theorem mm_X5_append : MM 4 yX5_append cX5_append 2 none 1 := ⟨by decide, RX5, TX5, 3, rfl, tw_184, tw_185, tw_186, tw_2, by decide +kernel, by decide +kernel, by decide +kernel⟩
theorem mm_X5_appendPart : MM 4 yX5_appendPart cX5_appendPart 4 none 3 := ⟨by decide, RX5, TX5, 3, rfl, tw_236, tw_237, tw_238, tw_2, by decide +kernel, by decide +kernel, by decide +kernel⟩
theorem mm_X5_at : MM 4 yX5_at cX5_at 2 (some .int) 1 := ⟨by decide, RX5, TX5, 3, rfl, tw_259, tw_260, tw_261, tw_2, by decide +kernel, by decide +kernel, by decide +kernel⟩
theorem mm_X5_clear : MM 4 yX5_clear cX5_clear 1 none 0 := ⟨by decide, RX5, TX5, 3, rfl, tw_232, tw_233, tw_234, tw_2, by decide +kernel, by decide +kernel, by decide +kernel⟩
theorem mm_X5_intAt : MM 4 yX5_intAt cX5_intAt 2 (some .int) 1 := ⟨by decide, RX5, TX5, 3, rfl, tw_255, tw_256, tw_257, tw_2, by decide +kernel, by decide +kernel, by decide +kernel⟩
theorem mm_X5_zeroFrom : MM 4 yX5_zeroFrom cX5_zeroFrom 4 (some .int) 2 := ⟨by decide, RX5, TX5, 3, rfl, tw_268, tw_269, tw_270, tw_2, by decide +kernel, by decide +kernel, by decide +kernel⟩
theorem dX5_clear_0 : decode cX5_clear 0 = .ok (.aload_n 0, 1) := by decide +kernel
theorem dX5_clear_1 : decode cX5_clear 1 = .ok (.iconst 0, 1) := by decide +kernel
theorem dX5_clear_2 : decode cX5_clear 2 = .ok (.putfield 9, 3) := by decide +kernel
theorem dX5_clear_5 : decode cX5_clear 5 = .ok (.aload_n 0, 1) := by decide +kernel
theorem dX5_clear_6 : decode cX5_clear 6 = .ok (.iconst 0, 1) := by decide +kernel
theorem dX5_clear_7 : decode cX5_clear 7 = .ok (.putfield 15, 3) := by decide +kernel
theorem dX5_clear_10 : decode cX5_clear 10 = .ok (.return_, 1) := by decide +kernel
abbrev rm_X5_clear : Room := { frames := 0, cells := 0, slots := 0, locals := 0 }
def f_X5_clear (cy : Nat → ClassId) (a0 : Nat) (μ : Mem) : Option Mem :=
  (wrF μ a0 4 1 (.int 0)).bind fun μ1 => (wrF μ1 a0 4 2 (.int 0)).bind fun μ3 => some μ3
set_option maxRecDepth 100000 in
set_option maxHeartbeats 4000000 in
theorem c_X5_clear {l : Launch} {g : Wg} {L : List Nat} {μ : Mem} {a0 : Nat} {μ' : Mem} (hf : f_X5_clear g.2 a0 μ = some μ') : MetV l yX5_clear cX5_clear 1 none rm_X5_clear g L μ [.ref a0] μ' := by
  refine pw_met (Qc := fun A => QV g L A μ') (by decide) (Nat.le_of_ble_eq_true rfl) ?_
  intro p e s m args below meth c A ls H locs hC hr hlocks hl hw
  have hx := hC.1
  have hb := hC.2.1
  have hl : lv_has ls 1 [(0, .ref a0)] := hl
  unfold f_X5_clear at hf
  refine lv_aload_n hx hb dX5_clear_0 rfl (lv_at hl 0 rfl) ?_
  refine lv_iconst (v := 0) hx hb dX5_clear_1 nc_iconst_0 ?_
  obtain ⟨μ1, h2, hf⟩ := o_bind hf
  refine pw_put hC fl_X5_9 hw h2 .int fd_X5_1 rfl rfl dX5_clear_2 (fun H locs hw => ?_)
  refine lv_aload_n hx hb dX5_clear_5 rfl (lv_at hl 0 rfl) ?_
  refine lv_iconst (v := 0) hx hb dX5_clear_6 nc_iconst_0 ?_
  obtain ⟨μ3, h4, hf⟩ := o_bind hf
  refine pw_put hC fl_X5_15 hw h4 .boolean fd_X5_2 (by decide +kernel) rfl dX5_clear_7 (fun H locs hw => ?_)
  obtain rfl := o_retv hf
  exact pw_vret hC hr hlocks hw dX5_clear_10
theorem dX5_at_0 : decode cX5_at 0 = .ok (.iload_n 1, 1) := by decide +kernel
theorem dX5_at_1 : decode cX5_at 1 = .ok (.ifCond .lt 20, 3) := by decide +kernel
theorem dX5_at_4 : decode cX5_at 4 = .ok (.iload_n 1, 1) := by decide +kernel
theorem dX5_at_5 : decode cX5_at 5 = .ok (.aload_n 0, 1) := by decide +kernel
theorem dX5_at_6 : decode cX5_at 6 = .ok (.getfield 9, 3) := by decide +kernel
theorem dX5_at_9 : decode cX5_at 9 = .ok (.if_icmp .ge 12, 3) := by decide +kernel
theorem dX5_at_12 : decode cX5_at 12 = .ok (.aload_n 0, 1) := by decide +kernel
theorem dX5_at_13 : decode cX5_at 13 = .ok (.getfield 25, 3) := by decide +kernel
theorem dX5_at_16 : decode cX5_at 16 = .ok (.iload_n 1, 1) := by decide +kernel
theorem dX5_at_17 : decode cX5_at 17 = .ok (.iaload, 1) := by decide +kernel
theorem dX5_at_18 : decode cX5_at 18 = .ok (.goto 4, 3) := by decide +kernel
theorem dX5_at_21 : decode cX5_at 21 = .ok (.iconst 0, 1) := by decide +kernel
theorem dX5_at_22 : decode cX5_at 22 = .ok (.ireturn, 1) := by decide +kernel
abbrev rm_X5_at : Room := { frames := 0, cells := 0, slots := 0, locals := 0 }
def f_X5_at_L21 (cy : Nat → ClassId)  (μ : Mem) : Option (Int32 × Mem) :=
  some (0, μ)
set_option maxRecDepth 100000 in
set_option maxHeartbeats 4000000 in
theorem w_X5_at_L21 {p : Program} {l : Launch} {e : Env} {s : State} {m : MethodId} {args : Array Value} {below : List Frame} {meth : Method} {c : Code} {A : Nat → Prop} {g : Wg} {L : List Nat} {r : Int32} {μ' : Mem} (hC : CX p m c cX5_at 2 s args RX5) (hr : meth.sig.returnType = (some .int)) (hlocks : meth.locks = false) : ∀  (μ : Mem) (H : Heap) (locs : List Loc) (ls : Array Slot), lv_has ls 2 [] → PW g L μ A s H locs → f_X5_at_L21 g.2  μ = some (r, μ') → W p l e rm_X5_at s m args below meth c H locs 0 0 (MQ below (QI g L A r μ') args s 0 0 A) (F0 m 21 ls []) := by
  have hx := hC.1
  have hb := hC.2.1
  intro  μ H locs ls hl hw hf
  unfold f_X5_at_L21 at hf
  refine lv_iconst (v := 0) hx hb dX5_at_21 nc_iconst_0 ?_
  obtain ⟨rfl, rfl⟩ := o_ret hf
  exact pw_iret hC hr hlocks hw dX5_at_22
def f_X5_at (cy : Nat → ClassId) (a0 : Nat) (a1 : Int32) (μ : Mem) : Option (Int32 × Mem) :=
  if a1 < 0 then (f_X5_at_L21 cy  μ) else (rdI μ a0 4 1).bind fun v2 => if v2 ≤ a1 then (f_X5_at_L21 cy  μ) else (rdR μ a0 4 0).bind fun q5 => (rdA cy μ 1 q5 a1).bind fun v7 => some (v7, μ)
set_option maxRecDepth 100000 in
set_option maxHeartbeats 4000000 in
theorem c_X5_at {l : Launch} {g : Wg} {L : List Nat} {μ : Mem} {a0 : Nat} {a1 : Int32} {r : Int32} {μ' : Mem} (hf : f_X5_at g.2 a0 a1 μ = some (r, μ')) : MetI l yX5_at cX5_at 2 (some .int) rm_X5_at g L μ [.ref a0, .int a1] r μ' := by
  refine pw_met (Qc := fun A => QI g L A r μ') (by decide) (Nat.le_of_ble_eq_true rfl) ?_
  intro p e s m args below meth c A ls H locs hC hr hlocks hl hw
  have hx := hC.1
  have hb := hC.2.1
  have hl : lv_has ls 2 [(0, .ref a0), (1, .int a1)] := hl
  unfold f_X5_at at hf
  refine lv_iload_n hx hb dX5_at_0 rfl (lv_at hl 1 rfl) ?_
  refine lv_if_lt (tgt := 21) hx hb dX5_at_1 (by decide) (fun c1 => ?_) (fun c1 => ?_)
  · have hf := o_pos c1 hf
    exact w_X5_at_L21 hC hr hlocks  _ _ _ ls (lv_sub hl [] rfl) hw hf
  · have hf := o_neg c1 hf
    refine lv_iload_n hx hb dX5_at_4 rfl (lv_at hl 1 rfl) ?_
    refine lv_aload_n hx hb dX5_at_5 rfl (lv_at hl 0 rfl) ?_
    obtain ⟨v2, h3, hf⟩ := o_bind hf
    refine pw_get hC fl_X5_9 hw (rdI_F h3) dX5_at_6 ?_
    refine lv_icmp_ge (tgt := 21) hx hb dX5_at_9 (by decide) (fun c4 => ?_) (fun c4 => ?_)
    · have hf := o_pos c4 hf
      exact w_X5_at_L21 hC hr hlocks  _ _ _ ls (lv_sub hl [] rfl) hw hf
    · have hf := o_neg c4 hf
      refine lv_aload_n hx hb dX5_at_12 rfl (lv_at hl 0 rfl) ?_
      obtain ⟨q5, h6, hf⟩ := o_bind hf
      refine pw_get hC fl_X5_25 hw (rdR_F h6) dX5_at_13 ?_
      refine lv_iload_n hx hb dX5_at_16 rfl (lv_at hl 1 rfl) ?_
      obtain ⟨v7, h8, hf⟩ := o_bind hf
      refine pw_iald hC hw h8 dX5_at_17 ?_
      refine lv_goto (tgt := 22) hx hb dX5_at_18 (by decide) ?_
      obtain ⟨rfl, rfl⟩ := o_ret hf
      exact pw_iret hC hr hlocks hw dX5_at_22
theorem dX5_intAt_0 : decode cX5_intAt 0 = .ok (.aload_n 0, 1) := by decide +kernel
theorem dX5_intAt_1 : decode cX5_intAt 1 = .ok (.iload_n 1, 1) := by decide +kernel
theorem dX5_intAt_2 : decode cX5_intAt 2 = .ok (.invokevirtual 36, 3) := by decide +kernel
theorem dX5_intAt_5 : decode cX5_intAt 5 = .ok (.aload_n 0, 1) := by decide +kernel
theorem dX5_intAt_6 : decode cX5_intAt 6 = .ok (.iload_n 1, 1) := by decide +kernel
theorem dX5_intAt_7 : decode cX5_intAt 7 = .ok (.iconst 1, 1) := by decide +kernel
theorem dX5_intAt_8 : decode cX5_intAt 8 = .ok (.iadd, 1) := by decide +kernel
theorem dX5_intAt_9 : decode cX5_intAt 9 = .ok (.invokevirtual 36, 3) := by decide +kernel
theorem dX5_intAt_12 : decode cX5_intAt 12 = .ok (.bipush 8, 2) := by decide +kernel
theorem dX5_intAt_14 : decode cX5_intAt 14 = .ok (.ishl, 1) := by decide +kernel
theorem dX5_intAt_15 : decode cX5_intAt 15 = .ok (.ior, 1) := by decide +kernel
theorem dX5_intAt_16 : decode cX5_intAt 16 = .ok (.aload_n 0, 1) := by decide +kernel
theorem dX5_intAt_17 : decode cX5_intAt 17 = .ok (.iload_n 1, 1) := by decide +kernel
theorem dX5_intAt_18 : decode cX5_intAt 18 = .ok (.iconst 2, 1) := by decide +kernel
theorem dX5_intAt_19 : decode cX5_intAt 19 = .ok (.iadd, 1) := by decide +kernel
theorem dX5_intAt_20 : decode cX5_intAt 20 = .ok (.invokevirtual 36, 3) := by decide +kernel
theorem dX5_intAt_23 : decode cX5_intAt 23 = .ok (.bipush 16, 2) := by decide +kernel
theorem dX5_intAt_25 : decode cX5_intAt 25 = .ok (.ishl, 1) := by decide +kernel
theorem dX5_intAt_26 : decode cX5_intAt 26 = .ok (.ior, 1) := by decide +kernel
theorem dX5_intAt_27 : decode cX5_intAt 27 = .ok (.aload_n 0, 1) := by decide +kernel
theorem dX5_intAt_28 : decode cX5_intAt 28 = .ok (.iload_n 1, 1) := by decide +kernel
theorem dX5_intAt_29 : decode cX5_intAt 29 = .ok (.iconst 3, 1) := by decide +kernel
theorem dX5_intAt_30 : decode cX5_intAt 30 = .ok (.iadd, 1) := by decide +kernel
theorem dX5_intAt_31 : decode cX5_intAt 31 = .ok (.invokevirtual 36, 3) := by decide +kernel
theorem dX5_intAt_34 : decode cX5_intAt 34 = .ok (.bipush 24, 2) := by decide +kernel
theorem dX5_intAt_36 : decode cX5_intAt 36 = .ok (.ishl, 1) := by decide +kernel
theorem dX5_intAt_37 : decode cX5_intAt 37 = .ok (.ior, 1) := by decide +kernel
theorem dX5_intAt_38 : decode cX5_intAt 38 = .ok (.ireturn, 1) := by decide +kernel
abbrev rm_X5_intAt : Room := { frames := 1, cells := 0, slots := 0, locals := 21 }
def f_X5_intAt (cy : Nat → ClassId) (a0 : Nat) (a1 : Int32) (μ : Mem) : Option (Int32 × Mem) :=
  if isO μ a0 4 = true then (ob2 (f_X5_at cy a0 a1 μ) fun r4 μ3 => if isO μ3 a0 4 = true then (ob2 (f_X5_at cy a0 (a1 + 1) μ3) fun r8 μ7 => if isO μ7 a0 4 = true then (ob2 (f_X5_at cy a0 (a1 + 2) μ7) fun r12 μ11 => if isO μ11 a0 4 = true then (ob2 (f_X5_at cy a0 (a1 + 3) μ11) fun r16 μ15 => some ((((r4 ||| (r8 <<< ((8 : Int32) &&& 31))) ||| (r12 <<< ((16 : Int32) &&& 31))) ||| (r16 <<< ((24 : Int32) &&& 31))), μ15)) else none) else none) else none) else none
set_option maxRecDepth 100000 in
set_option maxHeartbeats 4000000 in
theorem c_X5_intAt {l : Launch} {g : Wg} {L : List Nat} {μ : Mem} {a0 : Nat} {a1 : Int32} {r : Int32} {μ' : Mem} (hf : f_X5_intAt g.2 a0 a1 μ = some (r, μ')) : MetI l yX5_intAt cX5_intAt 2 (some .int) rm_X5_intAt g L μ [.ref a0, .int a1] r μ' := by
  refine pw_met (Qc := fun A => QI g L A r μ') (by decide) (Nat.le_of_ble_eq_true rfl) ?_
  intro p e s m args below meth c A ls H locs hC hr hlocks hl hw
  have hx := hC.1
  have hb := hC.2.1
  have hl : lv_has ls 2 [(0, .ref a0), (1, .int a1)] := hl
  unfold f_X5_intAt at hf
  refine lv_aload_n hx hb dX5_intAt_0 rfl (lv_at hl 0 rfl) ?_
  refine lv_iload_n hx hb dX5_intAt_1 rfl (lv_at hl 1 rfl) ?_
  obtain ⟨h2, hf⟩ := o_ite hf
  obtain ⟨r4, μ3, h1, hf⟩ := o_bind2 hf
  refine pw_goI hw (pw_runV (As := [.int a1]) (rest := []) hC mm_X5_at tw_258 (c_X5_at h1 _) ⟨rfl, rfl, by decide, by decide⟩ hw h2 rfl hl.1 (Nat.le_of_ble_eq_true rfl) ⟨Nat.zero_le _, Nat.zero_le _⟩ rfl dX5_intAt_2) (fun H locs hw => ?_)
  refine lv_aload_n hx hb dX5_intAt_5 rfl (lv_at hl 0 rfl) ?_
  refine lv_iload_n hx hb dX5_intAt_6 rfl (lv_at hl 1 rfl) ?_
  refine lv_iconst (v := 1) hx hb dX5_intAt_7 nc_iconst_1 ?_
  refine lv_iadd hx hb dX5_intAt_8 ?_
  obtain ⟨h6, hf⟩ := o_ite hf
  obtain ⟨r8, μ7, h5, hf⟩ := o_bind2 hf
  refine pw_goI hw (pw_runV (As := [.int (a1 + 1)]) (rest := [.int r4]) hC mm_X5_at tw_258 (c_X5_at h5 _) ⟨rfl, rfl, by decide, by decide⟩ hw h6 rfl hl.1 (Nat.le_of_ble_eq_true rfl) ⟨Nat.zero_le _, Nat.zero_le _⟩ rfl dX5_intAt_9) (fun H locs hw => ?_)
  refine lv_bipush (v := 8) hx hb dX5_intAt_12 nc_bipush_8 ?_
  refine lv_ishl hx hb dX5_intAt_14 ?_
  refine lv_ior hx hb dX5_intAt_15 ?_
  refine lv_aload_n hx hb dX5_intAt_16 rfl (lv_at hl 0 rfl) ?_
  refine lv_iload_n hx hb dX5_intAt_17 rfl (lv_at hl 1 rfl) ?_
  refine lv_iconst (v := 2) hx hb dX5_intAt_18 nc_iconst_2 ?_
  refine lv_iadd hx hb dX5_intAt_19 ?_
  obtain ⟨h10, hf⟩ := o_ite hf
  obtain ⟨r12, μ11, h9, hf⟩ := o_bind2 hf
  refine pw_goI hw (pw_runV (As := [.int (a1 + 2)]) (rest := [.int (r4 ||| (r8 <<< ((8 : Int32) &&& 31)))]) hC mm_X5_at tw_258 (c_X5_at h9 _) ⟨rfl, rfl, by decide, by decide⟩ hw h10 rfl hl.1 (Nat.le_of_ble_eq_true rfl) ⟨Nat.zero_le _, Nat.zero_le _⟩ rfl dX5_intAt_20) (fun H locs hw => ?_)
  refine lv_bipush (v := 16) hx hb dX5_intAt_23 nc_bipush_16 ?_
  refine lv_ishl hx hb dX5_intAt_25 ?_
  refine lv_ior hx hb dX5_intAt_26 ?_
  refine lv_aload_n hx hb dX5_intAt_27 rfl (lv_at hl 0 rfl) ?_
  refine lv_iload_n hx hb dX5_intAt_28 rfl (lv_at hl 1 rfl) ?_
  refine lv_iconst (v := 3) hx hb dX5_intAt_29 nc_iconst_3 ?_
  refine lv_iadd hx hb dX5_intAt_30 ?_
  obtain ⟨h14, hf⟩ := o_ite hf
  obtain ⟨r16, μ15, h13, hf⟩ := o_bind2 hf
  refine pw_goI hw (pw_runV (As := [.int (a1 + 3)]) (rest := [.int ((r4 ||| (r8 <<< ((8 : Int32) &&& 31))) ||| (r12 <<< ((16 : Int32) &&& 31)))]) hC mm_X5_at tw_258 (c_X5_at h13 _) ⟨rfl, rfl, by decide, by decide⟩ hw h14 rfl hl.1 (Nat.le_of_ble_eq_true rfl) ⟨Nat.zero_le _, Nat.zero_le _⟩ rfl dX5_intAt_31) (fun H locs hw => ?_)
  refine lv_bipush (v := 24) hx hb dX5_intAt_34 nc_bipush_24 ?_
  refine lv_ishl hx hb dX5_intAt_36 ?_
  refine lv_ior hx hb dX5_intAt_37 ?_
  obtain ⟨rfl, rfl⟩ := o_ret hf
  exact pw_iret hC hr hlocks hw dX5_intAt_38
theorem dX5_longAt_0 : decode cX5_longAt 0 = .ok (.aload_n 0, 1) := by decide +kernel
theorem dX5_longAt_1 : decode cX5_longAt 1 = .ok (.iload_n 1, 1) := by decide +kernel
theorem dX5_longAt_2 : decode cX5_longAt 2 = .ok (.invokevirtual 40, 3) := by decide +kernel
theorem dX5_longAt_5 : decode cX5_longAt 5 = .ok (.i2l, 1) := by decide +kernel
theorem dX5_longAt_6 : decode cX5_longAt 6 = .ok (.ldc2_w 43, 3) := by decide +kernel
theorem dX5_longAt_9 : decode cX5_longAt 9 = .ok (.land, 1) := by decide +kernel
theorem dX5_longAt_10 : decode cX5_longAt 10 = .ok (.aload_n 0, 1) := by decide +kernel
theorem dX5_longAt_11 : decode cX5_longAt 11 = .ok (.iload_n 1, 1) := by decide +kernel
theorem dX5_longAt_12 : decode cX5_longAt 12 = .ok (.iconst 4, 1) := by decide +kernel
theorem dX5_longAt_13 : decode cX5_longAt 13 = .ok (.iadd, 1) := by decide +kernel
theorem dX5_longAt_14 : decode cX5_longAt 14 = .ok (.invokevirtual 40, 3) := by decide +kernel
theorem dX5_longAt_17 : decode cX5_longAt 17 = .ok (.i2l, 1) := by decide +kernel
theorem dX5_longAt_18 : decode cX5_longAt 18 = .ok (.bipush 32, 2) := by decide +kernel
theorem dX5_longAt_20 : decode cX5_longAt 20 = .ok (.lshl, 1) := by decide +kernel
theorem dX5_longAt_21 : decode cX5_longAt 21 = .ok (.lor, 1) := by decide +kernel
theorem dX5_longAt_22 : decode cX5_longAt 22 = .ok (.lreturn, 1) := by decide +kernel
abbrev rm_X5_longAt : Room := { frames := 2, cells := 0, slots := 0, locals := 42 }
def f_X5_longAt (cy : Nat → ClassId) (a0 : Nat) (a1 : Int32) (μ : Mem) : Option (Int64 × Mem) :=
  if isO μ a0 4 = true then (ob2 (f_X5_intAt cy a0 a1 μ) fun r4 μ3 => if isO μ3 a0 4 = true then (ob2 (f_X5_intAt cy a0 (a1 + 4) μ3) fun r8 μ7 => some ((((Int32.toInt64 r4) &&& (4294967295 : Int64)) ||| ((Int32.toInt64 r8) <<< (Int32.toInt64 32 &&& 63))), μ7)) else none) else none
set_option maxRecDepth 100000 in
set_option maxHeartbeats 4000000 in
theorem c_X5_longAt {l : Launch} {g : Wg} {L : List Nat} {μ : Mem} {a0 : Nat} {a1 : Int32} {r : Int64} {μ' : Mem} (hf : f_X5_longAt g.2 a0 a1 μ = some (r, μ')) : MetL l yX5_longAt cX5_longAt 2 (some .long) rm_X5_longAt g L μ [.ref a0, .int a1] r μ' := by
  refine pw_met (Qc := fun A => QL g L A r μ') (by decide) (Nat.le_of_ble_eq_true rfl) ?_
  intro p e s m args below meth c A ls H locs hC hr hlocks hl hw
  have hx := hC.1
  have hb := hC.2.1
  have hl : lv_has ls 2 [(0, .ref a0), (1, .int a1)] := hl
  unfold f_X5_longAt at hf
  refine lv_aload_n hx hb dX5_longAt_0 rfl (lv_at hl 0 rfl) ?_
  refine lv_iload_n hx hb dX5_longAt_1 rfl (lv_at hl 1 rfl) ?_
  obtain ⟨h2, hf⟩ := o_ite hf
  obtain ⟨r4, μ3, h1, hf⟩ := o_bind2 hf
  refine pw_goI hw (pw_runV (As := [.int a1]) (rest := []) hC mm_X5_intAt tw_751 (c_X5_intAt h1 _) ⟨rfl, rfl, by decide, by decide⟩ hw h2 rfl hl.1 (Nat.le_of_ble_eq_true rfl) ⟨Nat.zero_le _, Nat.zero_le _⟩ rfl dX5_longAt_2) (fun H locs hw => ?_)
  refine lv_i2l hx hb dX5_longAt_5 rfl ?_
  refine lv_ldc2 (v := 4294967295) hx hb hC.2.2.2.1 (hC.2.2.2.2 _ tw_752) dX5_longAt_6 ?_
  refine lv_land hx hb dX5_longAt_9 ?_
  refine lv_aload_n hx hb dX5_longAt_10 rfl (lv_at hl 0 rfl) ?_
  refine lv_iload_n hx hb dX5_longAt_11 rfl (lv_at hl 1 rfl) ?_
  refine lv_iconst (v := 4) hx hb dX5_longAt_12 nc_iconst_4 ?_
  refine lv_iadd hx hb dX5_longAt_13 ?_
  obtain ⟨h6, hf⟩ := o_ite hf
  obtain ⟨r8, μ7, h5, hf⟩ := o_bind2 hf
  refine pw_goI hw (pw_runV (As := [.int (a1 + 4)]) (rest := [.long ((Int32.toInt64 r4) &&& (4294967295 : Int64))]) hC mm_X5_intAt tw_751 (c_X5_intAt h5 _) ⟨rfl, rfl, by decide, by decide⟩ hw h6 rfl hl.1 (Nat.le_of_ble_eq_true rfl) ⟨Nat.zero_le _, Nat.zero_le _⟩ rfl dX5_longAt_14) (fun H locs hw => ?_)
  refine lv_i2l hx hb dX5_longAt_17 rfl ?_
  refine lv_bipush (v := 32) hx hb dX5_longAt_18 nc_bipush_32 ?_
  refine lv_lshl hx hb dX5_longAt_20 rfl ?_
  refine lv_lor hx hb dX5_longAt_21 ?_
  obtain ⟨rfl, rfl⟩ := o_ret hf
  exact pw_lret hC hr hlocks hw dX5_longAt_22
theorem dX5_putInt_0 : decode cX5_putInt 0 = .ok (.iload_n 1, 1) := by decide +kernel
theorem dX5_putInt_1 : decode cX5_putInt 1 = .ok (.ifCond .lt 13, 3) := by decide +kernel
theorem dX5_putInt_4 : decode cX5_putInt 4 = .ok (.iload_n 1, 1) := by decide +kernel
theorem dX5_putInt_5 : decode cX5_putInt 5 = .ok (.aload_n 0, 1) := by decide +kernel
theorem dX5_putInt_6 : decode cX5_putInt 6 = .ok (.getfield 9, 3) := by decide +kernel
theorem dX5_putInt_9 : decode cX5_putInt 9 = .ok (.iconst 4, 1) := by decide +kernel
theorem dX5_putInt_10 : decode cX5_putInt 10 = .ok (.isub, 1) := by decide +kernel
theorem dX5_putInt_11 : decode cX5_putInt 11 = .ok (.if_icmp .le 4, 3) := by decide +kernel
theorem dX5_putInt_14 : decode cX5_putInt 14 = .ok (.return_, 1) := by decide +kernel
theorem dX5_putInt_15 : decode cX5_putInt 15 = .ok (.iconst 0, 1) := by decide +kernel
theorem dX5_putInt_16 : decode cX5_putInt 16 = .ok (.istore_n 3, 1) := by decide +kernel
theorem dX5_putInt_17 : decode cX5_putInt 17 = .ok (.iload_n 3, 1) := by decide +kernel
theorem dX5_putInt_18 : decode cX5_putInt 18 = .ok (.iconst 4, 1) := by decide +kernel
theorem dX5_putInt_19 : decode cX5_putInt 19 = .ok (.if_icmp .ge 27, 3) := by decide +kernel
theorem dX5_putInt_22 : decode cX5_putInt 22 = .ok (.aload_n 0, 1) := by decide +kernel
theorem dX5_putInt_23 : decode cX5_putInt 23 = .ok (.getfield 25, 3) := by decide +kernel
theorem dX5_putInt_26 : decode cX5_putInt 26 = .ok (.iload_n 1, 1) := by decide +kernel
theorem dX5_putInt_27 : decode cX5_putInt 27 = .ok (.iload_n 3, 1) := by decide +kernel
theorem dX5_putInt_28 : decode cX5_putInt 28 = .ok (.iadd, 1) := by decide +kernel
theorem dX5_putInt_29 : decode cX5_putInt 29 = .ok (.iload_n 2, 1) := by decide +kernel
theorem dX5_putInt_30 : decode cX5_putInt 30 = .ok (.bipush 8, 2) := by decide +kernel
theorem dX5_putInt_32 : decode cX5_putInt 32 = .ok (.iload_n 3, 1) := by decide +kernel
theorem dX5_putInt_33 : decode cX5_putInt 33 = .ok (.imul, 1) := by decide +kernel
theorem dX5_putInt_34 : decode cX5_putInt 34 = .ok (.ishr, 1) := by decide +kernel
theorem dX5_putInt_35 : decode cX5_putInt 35 = .ok (.sipush 255, 3) := by decide +kernel
theorem dX5_putInt_38 : decode cX5_putInt 38 = .ok (.iand, 1) := by decide +kernel
theorem dX5_putInt_39 : decode cX5_putInt 39 = .ok (.iastore, 1) := by decide +kernel
theorem dX5_putInt_40 : decode cX5_putInt 40 = .ok (.iinc 3 1, 3) := by decide +kernel
theorem dX5_putInt_43 : decode cX5_putInt 43 = .ok (.goto (-26), 3) := by decide +kernel
theorem dX5_putInt_46 : decode cX5_putInt 46 = .ok (.return_, 1) := by decide +kernel
abbrev rm_X5_putInt : Room := { frames := 0, cells := 0, slots := 0, locals := 0 }
def f_X5_putInt_L17 (cy : Nat → ClassId) : Nat → Nat → Int32 → Int32 → Int32 → Mem → Option Mem
  | 0, _, _, _, _, _ => none
  | n + 1, a0, a1, a2, a3, μ => if 4 ≤ a3 then (some μ) else (rdR μ a0 4 0).bind fun q102 => (wrA cy μ 1 q102 (a1 + a3) ((a2 >>> ((8 * a3) &&& 31)) &&& 255)).bind fun μ104 => f_X5_putInt_L17 cy n a0 a1 a2 (a3 + 1) μ104
set_option maxRecDepth 100000 in
set_option maxHeartbeats 4000000 in
theorem w_X5_putInt_L17 {p : Program} {l : Launch} {e : Env} {s : State} {m : MethodId} {args : Array Value} {below : List Frame} {meth : Method} {c : Code} {A : Nat → Prop} {g : Wg} {L : List Nat} {μ' : Mem} (hC : CX p m c cX5_putInt 4 s args RX5) (hr : meth.sig.returnType = none) (hlocks : meth.locks = false) : ∀ (n : Nat), ∀ (a0 : Nat) (a1 : Int32) (a2 : Int32) (a3 : Int32) (μ : Mem) (H : Heap) (locs : List Loc) (ls : Array Slot), lv_has ls 4 [(0, .ref a0), (1, .int a1), (2, .int a2), (3, .int a3)] → PW g L μ A s H locs → f_X5_putInt_L17 g.2 n a0 a1 a2 a3 μ = some μ' → W p l e rm_X5_putInt s m args below meth c H locs 0 0 (MQ below (QV g L A μ') args s 0 0 A) (F0 m 17 ls []) := by
  have hx := hC.1
  have hb := hC.2.1
  intro n
  induction n with
  | zero => intro a0 a1 a2 a3 μ H locs ls hl hw hf; cases hf
  | succ n ih =>
    intro a0 a1 a2 a3 μ H locs ls hl hw hf
    rw [f_X5_putInt_L17] at hf
    refine lv_iload_n hx hb dX5_putInt_17 rfl (lv_at hl 3 rfl) ?_
    refine lv_iconst (v := 4) hx hb dX5_putInt_18 nc_iconst_4 ?_
    refine lv_icmp_ge (tgt := 46) hx hb dX5_putInt_19 (by decide) (fun c101 => ?_) (fun c101 => ?_)
    · have hf := o_pos c101 hf
      obtain rfl := o_retv hf
      exact pw_vret hC hr hlocks hw dX5_putInt_46
    · have hf := o_neg c101 hf
      refine lv_aload_n hx hb dX5_putInt_22 rfl (lv_at hl 0 rfl) ?_
      obtain ⟨q102, h103, hf⟩ := o_bind hf
      refine pw_get hC fl_X5_25 hw (rdR_F h103) dX5_putInt_23 ?_
      refine lv_iload_n hx hb dX5_putInt_26 rfl (lv_at hl 1 rfl) ?_
      refine lv_iload_n hx hb dX5_putInt_27 rfl (lv_at hl 3 rfl) ?_
      refine lv_iadd hx hb dX5_putInt_28 ?_
      refine lv_iload_n hx hb dX5_putInt_29 rfl (lv_at hl 2 rfl) ?_
      refine lv_bipush (v := 8) hx hb dX5_putInt_30 nc_bipush_8 ?_
      refine lv_iload_n hx hb dX5_putInt_32 rfl (lv_at hl 3 rfl) ?_
      refine lv_imul hx hb dX5_putInt_33 ?_
      refine lv_ishr hx hb dX5_putInt_34 ?_
      refine lv_sipush (v := 255) hx hb dX5_putInt_35 nc_sipush_255 ?_
      refine lv_iand hx hb dX5_putInt_38 ?_
      obtain ⟨μ104, h105, hf⟩ := o_bind hf
      refine pw_iast hC hw h105 dX5_putInt_39 (fun H locs hw => ?_)
      refine lv_iinc (v := (a3 + 1)) (lv' := [(3, .int (a3 + 1)), (0, .ref a0), (1, .int a1), (2, .int a2)]) hx hb dX5_putInt_40 hl (k := 3) rfl (by first | rfl | decide +kernel) (by decide) rfl (fun ls hl => ?_)
      refine lv_goto (tgt := 17) hx hb dX5_putInt_43 (by decide) ?_
      exact ih _ _ _ _ _ _ _ ls (lv_sub hl [1, 2, 3, 0] rfl) hw hf
def f_X5_putInt (cy : Nat → ClassId) (a0 : Nat) (a1 : Int32) (a2 : Int32) (μ : Mem) : Option Mem :=
  if a1 < 0 then (some μ) else (rdI μ a0 4 1).bind fun v2 => if a1 ≤ (v2 - 4) then (f_X5_putInt_L17 cy FU a0 a1 a2 0 μ) else some μ
set_option maxRecDepth 100000 in
set_option maxHeartbeats 4000000 in
theorem c_X5_putInt {l : Launch} {g : Wg} {L : List Nat} {μ : Mem} {a0 : Nat} {a1 : Int32} {a2 : Int32} {μ' : Mem} (hf : f_X5_putInt g.2 a0 a1 a2 μ = some μ') : MetV l yX5_putInt cX5_putInt 4 none rm_X5_putInt g L μ [.ref a0, .int a1, .int a2] μ' := by
  refine pw_met (Qc := fun A => QV g L A μ') (by decide) (Nat.le_of_ble_eq_true rfl) ?_
  intro p e s m args below meth c A ls H locs hC hr hlocks hl hw
  have hx := hC.1
  have hb := hC.2.1
  have hl : lv_has ls 4 [(0, .ref a0), (1, .int a1), (2, .int a2)] := hl
  unfold f_X5_putInt at hf
  refine lv_iload_n hx hb dX5_putInt_0 rfl (lv_at hl 1 rfl) ?_
  refine lv_if_lt (tgt := 14) hx hb dX5_putInt_1 (by decide) (fun c1 => ?_) (fun c1 => ?_)
  · have hf := o_pos c1 hf
    obtain rfl := o_retv hf
    exact pw_vret hC hr hlocks hw dX5_putInt_14
  · have hf := o_neg c1 hf
    refine lv_iload_n hx hb dX5_putInt_4 rfl (lv_at hl 1 rfl) ?_
    refine lv_aload_n hx hb dX5_putInt_5 rfl (lv_at hl 0 rfl) ?_
    obtain ⟨v2, h3, hf⟩ := o_bind hf
    refine pw_get hC fl_X5_9 hw (rdI_F h3) dX5_putInt_6 ?_
    refine lv_iconst (v := 4) hx hb dX5_putInt_9 nc_iconst_4 ?_
    refine lv_isub hx hb dX5_putInt_10 ?_
    refine lv_icmp_le (tgt := 15) hx hb dX5_putInt_11 (by decide) (fun c4 => ?_) (fun c4 => ?_)
    · have hf := o_pos c4 hf
      refine lv_iconst (v := 0) hx hb dX5_putInt_15 nc_iconst_0 ?_
      refine lv_istore_n (lv' := [(3, .int 0), (0, .ref a0), (1, .int a1), (2, .int a2)]) hx hb dX5_putInt_16 rfl hl (by decide) rfl (fun ls hl => ?_)
      exact w_X5_putInt_L17 hC hr hlocks FU _ _ _ _ _ _ _ ls (lv_sub hl [1, 2, 3, 0] rfl) hw hf
    · have hf := o_neg c4 hf
      obtain rfl := o_retv hf
      exact pw_vret hC hr hlocks hw dX5_putInt_14
theorem dX5_append_0 : decode cX5_append 0 = .ok (.aload_n 0, 1) := by decide +kernel
theorem dX5_append_1 : decode cX5_append 1 = .ok (.getfield 9, 3) := by decide +kernel
theorem dX5_append_4 : decode cX5_append 4 = .ok (.aload_n 0, 1) := by decide +kernel
theorem dX5_append_5 : decode cX5_append 5 = .ok (.getfield 25, 3) := by decide +kernel
theorem dX5_append_8 : decode cX5_append 8 = .ok (.arraylength, 1) := by decide +kernel
theorem dX5_append_9 : decode cX5_append 9 = .ok (.if_icmp .lt 9, 3) := by decide +kernel
theorem dX5_append_12 : decode cX5_append 12 = .ok (.aload_n 0, 1) := by decide +kernel
theorem dX5_append_13 : decode cX5_append 13 = .ok (.iconst 1, 1) := by decide +kernel
theorem dX5_append_14 : decode cX5_append 14 = .ok (.putfield 15, 3) := by decide +kernel
theorem dX5_append_17 : decode cX5_append 17 = .ok (.return_, 1) := by decide +kernel
theorem dX5_append_18 : decode cX5_append 18 = .ok (.aload_n 0, 1) := by decide +kernel
theorem dX5_append_19 : decode cX5_append 19 = .ok (.getfield 25, 3) := by decide +kernel
theorem dX5_append_22 : decode cX5_append 22 = .ok (.aload_n 0, 1) := by decide +kernel
theorem dX5_append_23 : decode cX5_append 23 = .ok (.getfield 9, 3) := by decide +kernel
theorem dX5_append_26 : decode cX5_append 26 = .ok (.iload_n 1, 1) := by decide +kernel
theorem dX5_append_27 : decode cX5_append 27 = .ok (.sipush 255, 3) := by decide +kernel
theorem dX5_append_30 : decode cX5_append 30 = .ok (.iand, 1) := by decide +kernel
theorem dX5_append_31 : decode cX5_append 31 = .ok (.iastore, 1) := by decide +kernel
theorem dX5_append_32 : decode cX5_append 32 = .ok (.aload_n 0, 1) := by decide +kernel
theorem dX5_append_33 : decode cX5_append 33 = .ok (.dup, 1) := by decide +kernel
theorem dX5_append_34 : decode cX5_append 34 = .ok (.getfield 9, 3) := by decide +kernel
theorem dX5_append_37 : decode cX5_append 37 = .ok (.iconst 1, 1) := by decide +kernel
theorem dX5_append_38 : decode cX5_append 38 = .ok (.iadd, 1) := by decide +kernel
theorem dX5_append_39 : decode cX5_append 39 = .ok (.putfield 9, 3) := by decide +kernel
theorem dX5_append_42 : decode cX5_append 42 = .ok (.return_, 1) := by decide +kernel
abbrev rm_X5_append : Room := { frames := 0, cells := 0, slots := 0, locals := 0 }
def f_X5_append (cy : Nat → ClassId) (a0 : Nat) (a1 : Int32) (μ : Mem) : Option Mem :=
  (rdI μ a0 4 1).bind fun v1 => (rdR μ a0 4 0).bind fun q3 => (lnA cy μ 1 q3).bind fun v5 => if v1 < v5 then ((rdR μ a0 4 0).bind fun q8 => (rdI μ a0 4 1).bind fun v10 => (wrA cy μ 1 q8 v10 (a1 &&& 255)).bind fun μ12 => (rdI μ12 a0 4 1).bind fun v14 => (wrF μ12 a0 4 1 (.int (v14 + 1))).bind fun μ16 => some μ16) else (wrF μ a0 4 2 (.int 1)).bind fun μ18 => some μ18
set_option maxRecDepth 100000 in
set_option maxHeartbeats 4000000 in
theorem c_X5_append {l : Launch} {g : Wg} {L : List Nat} {μ : Mem} {a0 : Nat} {a1 : Int32} {μ' : Mem} (hf : f_X5_append g.2 a0 a1 μ = some μ') : MetV l yX5_append cX5_append 2 none rm_X5_append g L μ [.ref a0, .int a1] μ' := by
  refine pw_met (Qc := fun A => QV g L A μ') (by decide) (Nat.le_of_ble_eq_true rfl) ?_
  intro p e s m args below meth c A ls H locs hC hr hlocks hl hw
  have hx := hC.1
  have hb := hC.2.1
  have hl : lv_has ls 2 [(0, .ref a0), (1, .int a1)] := hl
  unfold f_X5_append at hf
  refine lv_aload_n hx hb dX5_append_0 rfl (lv_at hl 0 rfl) ?_
  obtain ⟨v1, h2, hf⟩ := o_bind hf
  refine pw_get hC fl_X5_9 hw (rdI_F h2) dX5_append_1 ?_
  refine lv_aload_n hx hb dX5_append_4 rfl (lv_at hl 0 rfl) ?_
  obtain ⟨q3, h4, hf⟩ := o_bind hf
  refine pw_get hC fl_X5_25 hw (rdR_F h4) dX5_append_5 ?_
  obtain ⟨v5, h6, hf⟩ := o_bind hf
  refine pw_alen hC hw 1 (by decide) h6 dX5_append_8 ?_
  refine lv_icmp_lt (tgt := 18) hx hb dX5_append_9 (by decide) (fun c7 => ?_) (fun c7 => ?_)
  · have hf := o_pos c7 hf
    refine lv_aload_n hx hb dX5_append_18 rfl (lv_at hl 0 rfl) ?_
    obtain ⟨q8, h9, hf⟩ := o_bind hf
    refine pw_get hC fl_X5_25 hw (rdR_F h9) dX5_append_19 ?_
    refine lv_aload_n hx hb dX5_append_22 rfl (lv_at hl 0 rfl) ?_
    obtain ⟨v10, h11, hf⟩ := o_bind hf
    refine pw_get hC fl_X5_9 hw (rdI_F h11) dX5_append_23 ?_
    refine lv_iload_n hx hb dX5_append_26 rfl (lv_at hl 1 rfl) ?_
    refine lv_sipush (v := 255) hx hb dX5_append_27 nc_sipush_255 ?_
    refine lv_iand hx hb dX5_append_30 ?_
    obtain ⟨μ12, h13, hf⟩ := o_bind hf
    refine pw_iast hC hw h13 dX5_append_31 (fun H locs hw => ?_)
    refine lv_aload_n hx hb dX5_append_32 rfl (lv_at hl 0 rfl) ?_
    refine lv_dup hx hb dX5_append_33 rfl ?_
    obtain ⟨v14, h15, hf⟩ := o_bind hf
    refine pw_get hC fl_X5_9 hw (rdI_F h15) dX5_append_34 ?_
    refine lv_iconst (v := 1) hx hb dX5_append_37 nc_iconst_1 ?_
    refine lv_iadd hx hb dX5_append_38 ?_
    obtain ⟨μ16, h17, hf⟩ := o_bind hf
    refine pw_put hC fl_X5_9 hw h17 .int fd_X5_1 rfl rfl dX5_append_39 (fun H locs hw => ?_)
    obtain rfl := o_retv hf
    exact pw_vret hC hr hlocks hw dX5_append_42
  · have hf := o_neg c7 hf
    refine lv_aload_n hx hb dX5_append_12 rfl (lv_at hl 0 rfl) ?_
    refine lv_iconst (v := 1) hx hb dX5_append_13 nc_iconst_1 ?_
    obtain ⟨μ18, h19, hf⟩ := o_bind hf
    refine pw_put hC fl_X5_15 hw h19 .boolean fd_X5_2 (by decide +kernel) rfl dX5_append_14 (fun H locs hw => ?_)
    obtain rfl := o_retv hf
    exact pw_vret hC hr hlocks hw dX5_append_17
theorem dX5_appendHighestFirst_0 : decode cX5_appendHighestFirst 0 = .ok (.iconst 3, 1) := by decide +kernel
theorem dX5_appendHighestFirst_1 : decode cX5_appendHighestFirst 1 = .ok (.istore_n 2, 1) := by decide +kernel
theorem dX5_appendHighestFirst_2 : decode cX5_appendHighestFirst 2 = .ok (.iload_n 2, 1) := by decide +kernel
theorem dX5_appendHighestFirst_3 : decode cX5_appendHighestFirst 3 = .ok (.ifCond .lt 19, 3) := by decide +kernel
theorem dX5_appendHighestFirst_6 : decode cX5_appendHighestFirst 6 = .ok (.aload_n 0, 1) := by decide +kernel
theorem dX5_appendHighestFirst_7 : decode cX5_appendHighestFirst 7 = .ok (.iload_n 1, 1) := by decide +kernel
theorem dX5_appendHighestFirst_8 : decode cX5_appendHighestFirst 8 = .ok (.bipush 8, 2) := by decide +kernel
theorem dX5_appendHighestFirst_10 : decode cX5_appendHighestFirst 10 = .ok (.iload_n 2, 1) := by decide +kernel
theorem dX5_appendHighestFirst_11 : decode cX5_appendHighestFirst 11 = .ok (.imul, 1) := by decide +kernel
theorem dX5_appendHighestFirst_12 : decode cX5_appendHighestFirst 12 = .ok (.ishr, 1) := by decide +kernel
theorem dX5_appendHighestFirst_13 : decode cX5_appendHighestFirst 13 = .ok (.invokevirtual 45, 3) := by decide +kernel
theorem dX5_appendHighestFirst_16 : decode cX5_appendHighestFirst 16 = .ok (.iinc 2 (-1), 3) := by decide +kernel
theorem dX5_appendHighestFirst_19 : decode cX5_appendHighestFirst 19 = .ok (.goto (-17), 3) := by decide +kernel
theorem dX5_appendHighestFirst_22 : decode cX5_appendHighestFirst 22 = .ok (.return_, 1) := by decide +kernel
abbrev rm_X5_appendHighestFirst : Room := { frames := 1, cells := 0, slots := 0, locals := 21 }
def f_X5_appendHighestFirst_L2 (cy : Nat → ClassId) : Nat → Nat → Int32 → Int32 → Mem → Option Mem
  | 0, _, _, _, _ => none
  | n + 1, a0, a1, a2, μ => if a2 < 0 then (some μ) else if isO μ a0 4 = true then ((f_X5_append cy a0 (a1 >>> ((8 * a2) &&& 31)) μ).bind fun μ104 => f_X5_appendHighestFirst_L2 cy n a0 a1 (a2 + (-1)) μ104) else none
set_option maxRecDepth 100000 in
set_option maxHeartbeats 4000000 in
theorem w_X5_appendHighestFirst_L2 {p : Program} {l : Launch} {e : Env} {s : State} {m : MethodId} {args : Array Value} {below : List Frame} {meth : Method} {c : Code} {A : Nat → Prop} {g : Wg} {L : List Nat} {μ' : Mem} (hC : CX p m c cX5_appendHighestFirst 3 s args RX5) (hr : meth.sig.returnType = none) (hlocks : meth.locks = false) : ∀ (n : Nat), ∀ (a0 : Nat) (a1 : Int32) (a2 : Int32) (μ : Mem) (H : Heap) (locs : List Loc) (ls : Array Slot), lv_has ls 3 [(0, .ref a0), (1, .int a1), (2, .int a2)] → PW g L μ A s H locs → f_X5_appendHighestFirst_L2 g.2 n a0 a1 a2 μ = some μ' → W p l e rm_X5_appendHighestFirst s m args below meth c H locs 0 0 (MQ below (QV g L A μ') args s 0 0 A) (F0 m 2 ls []) := by
  have hx := hC.1
  have hb := hC.2.1
  intro n
  induction n with
  | zero => intro a0 a1 a2 μ H locs ls hl hw hf; cases hf
  | succ n ih =>
    intro a0 a1 a2 μ H locs ls hl hw hf
    rw [f_X5_appendHighestFirst_L2] at hf
    refine lv_iload_n hx hb dX5_appendHighestFirst_2 rfl (lv_at hl 2 rfl) ?_
    refine lv_if_lt (tgt := 22) hx hb dX5_appendHighestFirst_3 (by decide) (fun c101 => ?_) (fun c101 => ?_)
    · have hf := o_pos c101 hf
      obtain rfl := o_retv hf
      exact pw_vret hC hr hlocks hw dX5_appendHighestFirst_22
    · have hf := o_neg c101 hf
      refine lv_aload_n hx hb dX5_appendHighestFirst_6 rfl (lv_at hl 0 rfl) ?_
      refine lv_iload_n hx hb dX5_appendHighestFirst_7 rfl (lv_at hl 1 rfl) ?_
      refine lv_bipush (v := 8) hx hb dX5_appendHighestFirst_8 nc_bipush_8 ?_
      refine lv_iload_n hx hb dX5_appendHighestFirst_10 rfl (lv_at hl 2 rfl) ?_
      refine lv_imul hx hb dX5_appendHighestFirst_11 ?_
      refine lv_ishr hx hb dX5_appendHighestFirst_12 ?_
      obtain ⟨h103, hf⟩ := o_ite hf
      obtain ⟨μ104, h102, hf⟩ := o_bind hf
      refine pw_goV hw (pw_runV (As := [.int (a1 >>> ((8 * a2) &&& 31))]) (rest := []) hC mm_X5_append tw_183 (c_X5_append h102 _) ⟨rfl, rfl, by decide, by decide⟩ hw h103 rfl hl.1 (Nat.le_of_ble_eq_true rfl) ⟨Nat.zero_le _, Nat.zero_le _⟩ rfl dX5_appendHighestFirst_13) (fun H locs hw => ?_)
      refine lv_iinc (v := (a2 + (-1))) (lv' := [(2, .int (a2 + (-1))), (0, .ref a0), (1, .int a1)]) hx hb dX5_appendHighestFirst_16 hl (k := 2) rfl (by first | rfl | decide +kernel) (by decide) rfl (fun ls hl => ?_)
      refine lv_goto (tgt := 2) hx hb dX5_appendHighestFirst_19 (by decide) ?_
      exact ih _ _ _ _ _ _ ls (lv_sub hl [1, 2, 0] rfl) hw hf
def f_X5_appendHighestFirst (cy : Nat → ClassId) (a0 : Nat) (a1 : Int32) (μ : Mem) : Option Mem :=
  f_X5_appendHighestFirst_L2 cy FU a0 a1 3 μ
set_option maxRecDepth 100000 in
set_option maxHeartbeats 4000000 in
theorem c_X5_appendHighestFirst {l : Launch} {g : Wg} {L : List Nat} {μ : Mem} {a0 : Nat} {a1 : Int32} {μ' : Mem} (hf : f_X5_appendHighestFirst g.2 a0 a1 μ = some μ') : MetV l yX5_appendHighestFirst cX5_appendHighestFirst 3 none rm_X5_appendHighestFirst g L μ [.ref a0, .int a1] μ' := by
  refine pw_met (Qc := fun A => QV g L A μ') (by decide) (Nat.le_of_ble_eq_true rfl) ?_
  intro p e s m args below meth c A ls H locs hC hr hlocks hl hw
  have hx := hC.1
  have hb := hC.2.1
  have hl : lv_has ls 3 [(0, .ref a0), (1, .int a1)] := hl
  unfold f_X5_appendHighestFirst at hf
  refine lv_iconst (v := 3) hx hb dX5_appendHighestFirst_0 nc_iconst_3 ?_
  refine lv_istore_n (lv' := [(2, .int 3), (0, .ref a0), (1, .int a1)]) hx hb dX5_appendHighestFirst_1 rfl hl (by decide) rfl (fun ls hl => ?_)
  exact w_X5_appendHighestFirst_L2 hC hr hlocks FU _ _ _ _ _ _ ls (lv_sub hl [1, 2, 0] rfl) hw hf
theorem dX5_appendLowestFirst_0 : decode cX5_appendLowestFirst 0 = .ok (.iconst 0, 1) := by decide +kernel
theorem dX5_appendLowestFirst_1 : decode cX5_appendLowestFirst 1 = .ok (.istore 4, 2) := by decide +kernel
theorem dX5_appendLowestFirst_3 : decode cX5_appendLowestFirst 3 = .ok (.iload 4, 2) := by decide +kernel
theorem dX5_appendLowestFirst_5 : decode cX5_appendLowestFirst 5 = .ok (.iload_n 3, 1) := by decide +kernel
theorem dX5_appendLowestFirst_6 : decode cX5_appendLowestFirst 6 = .ok (.if_icmp .ge 28, 3) := by decide +kernel
theorem dX5_appendLowestFirst_9 : decode cX5_appendLowestFirst 9 = .ok (.iload 4, 2) := by decide +kernel
theorem dX5_appendLowestFirst_11 : decode cX5_appendLowestFirst 11 = .ok (.bipush 8, 2) := by decide +kernel
theorem dX5_appendLowestFirst_13 : decode cX5_appendLowestFirst 13 = .ok (.if_icmp .ge 21, 3) := by decide +kernel
theorem dX5_appendLowestFirst_16 : decode cX5_appendLowestFirst 16 = .ok (.aload_n 0, 1) := by decide +kernel
theorem dX5_appendLowestFirst_17 : decode cX5_appendLowestFirst 17 = .ok (.lload_n 1, 1) := by decide +kernel
theorem dX5_appendLowestFirst_18 : decode cX5_appendLowestFirst 18 = .ok (.bipush 8, 2) := by decide +kernel
theorem dX5_appendLowestFirst_20 : decode cX5_appendLowestFirst 20 = .ok (.iload 4, 2) := by decide +kernel
theorem dX5_appendLowestFirst_22 : decode cX5_appendLowestFirst 22 = .ok (.imul, 1) := by decide +kernel
theorem dX5_appendLowestFirst_23 : decode cX5_appendLowestFirst 23 = .ok (.lshr, 1) := by decide +kernel
theorem dX5_appendLowestFirst_24 : decode cX5_appendLowestFirst 24 = .ok (.l2i, 1) := by decide +kernel
theorem dX5_appendLowestFirst_25 : decode cX5_appendLowestFirst 25 = .ok (.invokevirtual 45, 3) := by decide +kernel
theorem dX5_appendLowestFirst_28 : decode cX5_appendLowestFirst 28 = .ok (.iinc 4 1, 3) := by decide +kernel
theorem dX5_appendLowestFirst_31 : decode cX5_appendLowestFirst 31 = .ok (.goto (-28), 3) := by decide +kernel
theorem dX5_appendLowestFirst_34 : decode cX5_appendLowestFirst 34 = .ok (.return_, 1) := by decide +kernel
abbrev rm_X5_appendLowestFirst : Room := { frames := 1, cells := 0, slots := 0, locals := 21 }
def f_X5_appendLowestFirst_L3 (cy : Nat → ClassId) : Nat → Nat → Int64 → Int32 → Int32 → Mem → Option Mem
  | 0, _, _, _, _, _ => none
  | n + 1, a0, a1, a3, a4, μ => if a3 ≤ a4 then (some μ) else if 8 ≤ a4 then (some μ) else if isO μ a0 4 = true then ((f_X5_append cy a0 (Int64.toInt32 (a1 >>> (Int32.toInt64 (8 * a4) &&& 63))) μ).bind fun μ105 => f_X5_appendLowestFirst_L3 cy n a0 a1 a3 (a4 + 1) μ105) else none
set_option maxRecDepth 100000 in
set_option maxHeartbeats 4000000 in
theorem w_X5_appendLowestFirst_L3 {p : Program} {l : Launch} {e : Env} {s : State} {m : MethodId} {args : Array Value} {below : List Frame} {meth : Method} {c : Code} {A : Nat → Prop} {g : Wg} {L : List Nat} {μ' : Mem} (hC : CX p m c cX5_appendLowestFirst 5 s args RX5) (hr : meth.sig.returnType = none) (hlocks : meth.locks = false) : ∀ (n : Nat), ∀ (a0 : Nat) (a1 : Int64) (a3 : Int32) (a4 : Int32) (μ : Mem) (H : Heap) (locs : List Loc) (ls : Array Slot), lv_has ls 5 [(0, .ref a0), (1, .long a1), (3, .int a3), (4, .int a4)] → PW g L μ A s H locs → f_X5_appendLowestFirst_L3 g.2 n a0 a1 a3 a4 μ = some μ' → W p l e rm_X5_appendLowestFirst s m args below meth c H locs 0 0 (MQ below (QV g L A μ') args s 0 0 A) (F0 m 3 ls []) := by
  have hx := hC.1
  have hb := hC.2.1
  intro n
  induction n with
  | zero => intro a0 a1 a3 a4 μ H locs ls hl hw hf; cases hf
  | succ n ih =>
    intro a0 a1 a3 a4 μ H locs ls hl hw hf
    rw [f_X5_appendLowestFirst_L3] at hf
    refine lv_iload hx hb dX5_appendLowestFirst_3 (lv_at hl 3 rfl) ?_
    refine lv_iload_n hx hb dX5_appendLowestFirst_5 rfl (lv_at hl 2 rfl) ?_
    refine lv_icmp_ge (tgt := 34) hx hb dX5_appendLowestFirst_6 (by decide) (fun c101 => ?_) (fun c101 => ?_)
    · have hf := o_pos c101 hf
      obtain rfl := o_retv hf
      exact pw_vret hC hr hlocks hw dX5_appendLowestFirst_34
    · have hf := o_neg c101 hf
      refine lv_iload hx hb dX5_appendLowestFirst_9 (lv_at hl 3 rfl) ?_
      refine lv_bipush (v := 8) hx hb dX5_appendLowestFirst_11 nc_bipush_8 ?_
      refine lv_icmp_ge (tgt := 34) hx hb dX5_appendLowestFirst_13 (by decide) (fun c102 => ?_) (fun c102 => ?_)
      · have hf := o_pos c102 hf
        obtain rfl := o_retv hf
        exact pw_vret hC hr hlocks hw dX5_appendLowestFirst_34
      · have hf := o_neg c102 hf
        refine lv_aload_n hx hb dX5_appendLowestFirst_16 rfl (lv_at hl 0 rfl) ?_
        refine lv_lload_n hx hb dX5_appendLowestFirst_17 rfl (lv_at hl 1 rfl) ?_
        refine lv_bipush (v := 8) hx hb dX5_appendLowestFirst_18 nc_bipush_8 ?_
        refine lv_iload hx hb dX5_appendLowestFirst_20 (lv_at hl 3 rfl) ?_
        refine lv_imul hx hb dX5_appendLowestFirst_22 ?_
        refine lv_lshr hx hb dX5_appendLowestFirst_23 rfl ?_
        refine lv_l2i hx hb dX5_appendLowestFirst_24 rfl ?_
        obtain ⟨h104, hf⟩ := o_ite hf
        obtain ⟨μ105, h103, hf⟩ := o_bind hf
        refine pw_goV hw (pw_runV (As := [.int (Int64.toInt32 (a1 >>> (Int32.toInt64 (8 * a4) &&& 63)))]) (rest := []) hC mm_X5_append tw_183 (c_X5_append h103 _) ⟨rfl, rfl, by decide, by decide⟩ hw h104 rfl hl.1 (Nat.le_of_ble_eq_true rfl) ⟨Nat.zero_le _, Nat.zero_le _⟩ rfl dX5_appendLowestFirst_25) (fun H locs hw => ?_)
        refine lv_iinc (v := (a4 + 1)) (lv' := [(4, .int (a4 + 1)), (0, .ref a0), (1, .long a1), (3, .int a3)]) hx hb dX5_appendLowestFirst_28 hl (k := 3) rfl (by first | rfl | decide +kernel) (by decide) rfl (fun ls hl => ?_)
        refine lv_goto (tgt := 3) hx hb dX5_appendLowestFirst_31 (by decide) ?_
        exact ih _ _ _ _ _ _ _ ls (lv_sub hl [1, 2, 3, 0] rfl) hw hf
def f_X5_appendLowestFirst (cy : Nat → ClassId) (a0 : Nat) (a1 : Int64) (a3 : Int32) (μ : Mem) : Option Mem :=
  f_X5_appendLowestFirst_L3 cy FU a0 a1 a3 0 μ
set_option maxRecDepth 100000 in
set_option maxHeartbeats 4000000 in
theorem c_X5_appendLowestFirst {l : Launch} {g : Wg} {L : List Nat} {μ : Mem} {a0 : Nat} {a1 : Int64} {a3 : Int32} {μ' : Mem} (hf : f_X5_appendLowestFirst g.2 a0 a1 a3 μ = some μ') : MetV l yX5_appendLowestFirst cX5_appendLowestFirst 5 none rm_X5_appendLowestFirst g L μ [.ref a0, .long a1, .int a3] μ' := by
  refine pw_met (Qc := fun A => QV g L A μ') (by decide) (Nat.le_of_ble_eq_true rfl) ?_
  intro p e s m args below meth c A ls H locs hC hr hlocks hl hw
  have hx := hC.1
  have hb := hC.2.1
  have hl : lv_has ls 5 [(0, .ref a0), (1, .long a1), (3, .int a3)] := hl
  unfold f_X5_appendLowestFirst at hf
  refine lv_iconst (v := 0) hx hb dX5_appendLowestFirst_0 nc_iconst_0 ?_
  refine lv_istore (lv' := [(4, .int 0), (0, .ref a0), (1, .long a1), (3, .int a3)]) hx hb dX5_appendLowestFirst_1 hl (by decide) rfl (fun ls hl => ?_)
  exact w_X5_appendLowestFirst_L3 hC hr hlocks FU _ _ _ _ _ _ _ ls (lv_sub hl [1, 2, 3, 0] rfl) hw hf
theorem dX5_appendPart_0 : decode cX5_appendPart 0 = .ok (.iload_n 2, 1) := by decide +kernel
theorem dX5_appendPart_1 : decode cX5_appendPart 1 = .ok (.ifCond .lt 16, 3) := by decide +kernel
theorem dX5_appendPart_4 : decode cX5_appendPart 4 = .ok (.iload_n 3, 1) := by decide +kernel
theorem dX5_appendPart_5 : decode cX5_appendPart 5 = .ok (.aload_n 1, 1) := by decide +kernel
theorem dX5_appendPart_6 : decode cX5_appendPart 6 = .ok (.getfield 9, 3) := by decide +kernel
theorem dX5_appendPart_9 : decode cX5_appendPart 9 = .ok (.if_icmp .gt 8, 3) := by decide +kernel
theorem dX5_appendPart_12 : decode cX5_appendPart 12 = .ok (.iload_n 2, 1) := by decide +kernel
theorem dX5_appendPart_13 : decode cX5_appendPart 13 = .ok (.iload_n 3, 1) := by decide +kernel
theorem dX5_appendPart_14 : decode cX5_appendPart 14 = .ok (.if_icmp .le 4, 3) := by decide +kernel
theorem dX5_appendPart_17 : decode cX5_appendPart 17 = .ok (.return_, 1) := by decide +kernel
theorem dX5_appendPart_18 : decode cX5_appendPart 18 = .ok (.iload_n 3, 1) := by decide +kernel
theorem dX5_appendPart_19 : decode cX5_appendPart 19 = .ok (.iload_n 2, 1) := by decide +kernel
theorem dX5_appendPart_20 : decode cX5_appendPart 20 = .ok (.isub, 1) := by decide +kernel
theorem dX5_appendPart_21 : decode cX5_appendPart 21 = .ok (.aload_n 0, 1) := by decide +kernel
theorem dX5_appendPart_22 : decode cX5_appendPart 22 = .ok (.getfield 25, 3) := by decide +kernel
theorem dX5_appendPart_25 : decode cX5_appendPart 25 = .ok (.arraylength, 1) := by decide +kernel
theorem dX5_appendPart_26 : decode cX5_appendPart 26 = .ok (.aload_n 0, 1) := by decide +kernel
theorem dX5_appendPart_27 : decode cX5_appendPart 27 = .ok (.getfield 9, 3) := by decide +kernel
theorem dX5_appendPart_30 : decode cX5_appendPart 30 = .ok (.isub, 1) := by decide +kernel
theorem dX5_appendPart_31 : decode cX5_appendPart 31 = .ok (.if_icmp .le 9, 3) := by decide +kernel
theorem dX5_appendPart_34 : decode cX5_appendPart 34 = .ok (.aload_n 0, 1) := by decide +kernel
theorem dX5_appendPart_35 : decode cX5_appendPart 35 = .ok (.iconst 1, 1) := by decide +kernel
theorem dX5_appendPart_36 : decode cX5_appendPart 36 = .ok (.putfield 15, 3) := by decide +kernel
theorem dX5_appendPart_39 : decode cX5_appendPart 39 = .ok (.return_, 1) := by decide +kernel
theorem dX5_appendPart_40 : decode cX5_appendPart 40 = .ok (.aload_n 1, 1) := by decide +kernel
theorem dX5_appendPart_41 : decode cX5_appendPart 41 = .ok (.getfield 25, 3) := by decide +kernel
theorem dX5_appendPart_44 : decode cX5_appendPart 44 = .ok (.iload_n 2, 1) := by decide +kernel
theorem dX5_appendPart_45 : decode cX5_appendPart 45 = .ok (.aload_n 0, 1) := by decide +kernel
theorem dX5_appendPart_46 : decode cX5_appendPart 46 = .ok (.getfield 25, 3) := by decide +kernel
theorem dX5_appendPart_49 : decode cX5_appendPart 49 = .ok (.aload_n 0, 1) := by decide +kernel
theorem dX5_appendPart_50 : decode cX5_appendPart 50 = .ok (.getfield 9, 3) := by decide +kernel
theorem dX5_appendPart_53 : decode cX5_appendPart 53 = .ok (.iload_n 3, 1) := by decide +kernel
theorem dX5_appendPart_54 : decode cX5_appendPart 54 = .ok (.iload_n 2, 1) := by decide +kernel
theorem dX5_appendPart_55 : decode cX5_appendPart 55 = .ok (.isub, 1) := by decide +kernel
theorem dX5_appendPart_56 : decode cX5_appendPart 56 = .ok (.invokestatic 49, 3) := by decide +kernel
theorem dX5_appendPart_59 : decode cX5_appendPart 59 = .ok (.aload_n 0, 1) := by decide +kernel
theorem dX5_appendPart_60 : decode cX5_appendPart 60 = .ok (.dup, 1) := by decide +kernel
theorem dX5_appendPart_61 : decode cX5_appendPart 61 = .ok (.getfield 9, 3) := by decide +kernel
theorem dX5_appendPart_64 : decode cX5_appendPart 64 = .ok (.iload_n 3, 1) := by decide +kernel
theorem dX5_appendPart_65 : decode cX5_appendPart 65 = .ok (.iload_n 2, 1) := by decide +kernel
theorem dX5_appendPart_66 : decode cX5_appendPart 66 = .ok (.isub, 1) := by decide +kernel
theorem dX5_appendPart_67 : decode cX5_appendPart 67 = .ok (.iadd, 1) := by decide +kernel
theorem dX5_appendPart_68 : decode cX5_appendPart 68 = .ok (.putfield 9, 3) := by decide +kernel
theorem dX5_appendPart_71 : decode cX5_appendPart 71 = .ok (.return_, 1) := by decide +kernel
abbrev rm_X5_appendPart : Room := { frames := 1, cells := 0, slots := 0, locals := 60 }
def f_X5_appendPart (cy : Nat → ClassId) (a0 : Nat) (a1 : Nat) (a2 : Int32) (a3 : Int32) (μ : Mem) : Option Mem :=
  if a2 < 0 then (some μ) else (rdI μ a1 4 1).bind fun v2 => if v2 < a3 then (some μ) else if a2 ≤ a3 then ((rdR μ a0 4 0).bind fun q6 => (lnA cy μ 1 q6).bind fun v8 => (rdI μ a0 4 1).bind fun v10 => if (a3 - a2) ≤ (v8 - v10) then ((rdR μ a1 4 0).bind fun q13 => (rdR μ a0 4 0).bind fun q15 => (rdI μ a0 4 1).bind fun v17 => (cpA cy μ q13 a2 q15 v17 (a3 - a2)).bind fun μ19 => (rdI μ19 a0 4 1).bind fun v21 => (wrF μ19 a0 4 1 (.int (v21 + (a3 - a2)))).bind fun μ23 => some μ23) else (wrF μ a0 4 2 (.int 1)).bind fun μ25 => some μ25) else some μ
set_option maxRecDepth 100000 in
set_option maxHeartbeats 4000000 in
theorem c_X5_appendPart {l : Launch} {g : Wg} {L : List Nat} {μ : Mem} {a0 : Nat} {a1 : Nat} {a2 : Int32} {a3 : Int32} {μ' : Mem} (hf : f_X5_appendPart g.2 a0 a1 a2 a3 μ = some μ') : MetV l yX5_appendPart cX5_appendPart 4 none rm_X5_appendPart g L μ [.ref a0, .ref a1, .int a2, .int a3] μ' := by
  refine pw_met (Qc := fun A => QV g L A μ') (by decide) (Nat.le_of_ble_eq_true rfl) ?_
  intro p e s m args below meth c A ls H locs hC hr hlocks hl hw
  have hx := hC.1
  have hb := hC.2.1
  have hl : lv_has ls 4 [(0, .ref a0), (1, .ref a1), (2, .int a2), (3, .int a3)] := hl
  unfold f_X5_appendPart at hf
  refine lv_iload_n hx hb dX5_appendPart_0 rfl (lv_at hl 2 rfl) ?_
  refine lv_if_lt (tgt := 17) hx hb dX5_appendPart_1 (by decide) (fun c1 => ?_) (fun c1 => ?_)
  · have hf := o_pos c1 hf
    obtain rfl := o_retv hf
    exact pw_vret hC hr hlocks hw dX5_appendPart_17
  · have hf := o_neg c1 hf
    refine lv_iload_n hx hb dX5_appendPart_4 rfl (lv_at hl 3 rfl) ?_
    refine lv_aload_n hx hb dX5_appendPart_5 rfl (lv_at hl 1 rfl) ?_
    obtain ⟨v2, h3, hf⟩ := o_bind hf
    refine pw_get hC fl_X5_9 hw (rdI_F h3) dX5_appendPart_6 ?_
    refine lv_icmp_gt (tgt := 17) hx hb dX5_appendPart_9 (by decide) (fun c4 => ?_) (fun c4 => ?_)
    · have hf := o_pos c4 hf
      obtain rfl := o_retv hf
      exact pw_vret hC hr hlocks hw dX5_appendPart_17
    · have hf := o_neg c4 hf
      refine lv_iload_n hx hb dX5_appendPart_12 rfl (lv_at hl 2 rfl) ?_
      refine lv_iload_n hx hb dX5_appendPart_13 rfl (lv_at hl 3 rfl) ?_
      refine lv_icmp_le (tgt := 18) hx hb dX5_appendPart_14 (by decide) (fun c5 => ?_) (fun c5 => ?_)
      · have hf := o_pos c5 hf
        refine lv_iload_n hx hb dX5_appendPart_18 rfl (lv_at hl 3 rfl) ?_
        refine lv_iload_n hx hb dX5_appendPart_19 rfl (lv_at hl 2 rfl) ?_
        refine lv_isub hx hb dX5_appendPart_20 ?_
        refine lv_aload_n hx hb dX5_appendPart_21 rfl (lv_at hl 0 rfl) ?_
        obtain ⟨q6, h7, hf⟩ := o_bind hf
        refine pw_get hC fl_X5_25 hw (rdR_F h7) dX5_appendPart_22 ?_
        obtain ⟨v8, h9, hf⟩ := o_bind hf
        refine pw_alen hC hw 1 (by decide) h9 dX5_appendPart_25 ?_
        refine lv_aload_n hx hb dX5_appendPart_26 rfl (lv_at hl 0 rfl) ?_
        obtain ⟨v10, h11, hf⟩ := o_bind hf
        refine pw_get hC fl_X5_9 hw (rdI_F h11) dX5_appendPart_27 ?_
        refine lv_isub hx hb dX5_appendPart_30 ?_
        refine lv_icmp_le (tgt := 40) hx hb dX5_appendPart_31 (by decide) (fun c12 => ?_) (fun c12 => ?_)
        · have hf := o_pos c12 hf
          refine lv_aload_n hx hb dX5_appendPart_40 rfl (lv_at hl 1 rfl) ?_
          obtain ⟨q13, h14, hf⟩ := o_bind hf
          refine pw_get hC fl_X5_25 hw (rdR_F h14) dX5_appendPart_41 ?_
          refine lv_iload_n hx hb dX5_appendPart_44 rfl (lv_at hl 2 rfl) ?_
          refine lv_aload_n hx hb dX5_appendPart_45 rfl (lv_at hl 0 rfl) ?_
          obtain ⟨q15, h16, hf⟩ := o_bind hf
          refine pw_get hC fl_X5_25 hw (rdR_F h16) dX5_appendPart_46 ?_
          refine lv_aload_n hx hb dX5_appendPart_49 rfl (lv_at hl 0 rfl) ?_
          obtain ⟨v17, h18, hf⟩ := o_bind hf
          refine pw_get hC fl_X5_9 hw (rdI_F h18) dX5_appendPart_50 ?_
          refine lv_iload_n hx hb dX5_appendPart_53 rfl (lv_at hl 3 rfl) ?_
          refine lv_iload_n hx hb dX5_appendPart_54 rfl (lv_at hl 2 rfl) ?_
          refine lv_isub hx hb dX5_appendPart_55 ?_
          obtain ⟨μ19, h20, hf⟩ := o_bind hf
          refine pw_copy hC hw ⟨tw_239, tw_241, tw_240, tw_8⟩ hl.1 h20 (by decide) (Nat.le_of_ble_eq_true rfl) dX5_appendPart_56 (fun H locs hw => ?_)
          refine lv_aload_n hx hb dX5_appendPart_59 rfl (lv_at hl 0 rfl) ?_
          refine lv_dup hx hb dX5_appendPart_60 rfl ?_
          obtain ⟨v21, h22, hf⟩ := o_bind hf
          refine pw_get hC fl_X5_9 hw (rdI_F h22) dX5_appendPart_61 ?_
          refine lv_iload_n hx hb dX5_appendPart_64 rfl (lv_at hl 3 rfl) ?_
          refine lv_iload_n hx hb dX5_appendPart_65 rfl (lv_at hl 2 rfl) ?_
          refine lv_isub hx hb dX5_appendPart_66 ?_
          refine lv_iadd hx hb dX5_appendPart_67 ?_
          obtain ⟨μ23, h24, hf⟩ := o_bind hf
          refine pw_put hC fl_X5_9 hw h24 .int fd_X5_1 rfl rfl dX5_appendPart_68 (fun H locs hw => ?_)
          obtain rfl := o_retv hf
          exact pw_vret hC hr hlocks hw dX5_appendPart_71
        · have hf := o_neg c12 hf
          refine lv_aload_n hx hb dX5_appendPart_34 rfl (lv_at hl 0 rfl) ?_
          refine lv_iconst (v := 1) hx hb dX5_appendPart_35 nc_iconst_1 ?_
          obtain ⟨μ25, h26, hf⟩ := o_bind hf
          refine pw_put hC fl_X5_15 hw h26 .boolean fd_X5_2 (by decide +kernel) rfl dX5_appendPart_36 (fun H locs hw => ?_)
          obtain rfl := o_retv hf
          exact pw_vret hC hr hlocks hw dX5_appendPart_39
      · have hf := o_neg c5 hf
        obtain rfl := o_retv hf
        exact pw_vret hC hr hlocks hw dX5_appendPart_17
theorem dX5_become_0 : decode cX5_become 0 = .ok (.aload_n 0, 1) := by decide +kernel
theorem dX5_become_1 : decode cX5_become 1 = .ok (.invokevirtual 29, 3) := by decide +kernel
theorem dX5_become_4 : decode cX5_become 4 = .ok (.aload_n 0, 1) := by decide +kernel
theorem dX5_become_5 : decode cX5_become 5 = .ok (.aload_n 1, 1) := by decide +kernel
theorem dX5_become_6 : decode cX5_become 6 = .ok (.iconst 0, 1) := by decide +kernel
theorem dX5_become_7 : decode cX5_become 7 = .ok (.aload_n 1, 1) := by decide +kernel
theorem dX5_become_8 : decode cX5_become 8 = .ok (.getfield 9, 3) := by decide +kernel
theorem dX5_become_11 : decode cX5_become 11 = .ok (.invokevirtual 32, 3) := by decide +kernel
theorem dX5_become_14 : decode cX5_become 14 = .ok (.return_, 1) := by decide +kernel
abbrev rm_X5_become : Room := { frames := 2, cells := 0, slots := 0, locals := 83 }
def f_X5_become (cy : Nat → ClassId) (a0 : Nat) (a1 : Nat) (μ : Mem) : Option Mem :=
  if isO μ a0 4 = true then ((f_X5_clear cy a0 μ).bind fun μ3 => (rdI μ3 a1 4 1).bind fun v4 => if isO μ3 a0 4 = true then ((f_X5_appendPart cy a0 a1 0 v4 μ3).bind fun μ8 => some μ8) else none) else none
set_option maxRecDepth 100000 in
set_option maxHeartbeats 4000000 in
theorem c_X5_become {l : Launch} {g : Wg} {L : List Nat} {μ : Mem} {a0 : Nat} {a1 : Nat} {μ' : Mem} (hf : f_X5_become g.2 a0 a1 μ = some μ') : MetV l yX5_become cX5_become 2 none rm_X5_become g L μ [.ref a0, .ref a1] μ' := by
  refine pw_met (Qc := fun A => QV g L A μ') (by decide) (Nat.le_of_ble_eq_true rfl) ?_
  intro p e s m args below meth c A ls H locs hC hr hlocks hl hw
  have hx := hC.1
  have hb := hC.2.1
  have hl : lv_has ls 2 [(0, .ref a0), (1, .ref a1)] := hl
  unfold f_X5_become at hf
  refine lv_aload_n hx hb dX5_become_0 rfl (lv_at hl 0 rfl) ?_
  obtain ⟨h2, hf⟩ := o_ite hf
  obtain ⟨μ3, h1, hf⟩ := o_bind hf
  refine pw_goV hw (pw_runV (As := []) (rest := []) hC mm_X5_clear tw_231 (c_X5_clear h1 _) ⟨rfl, rfl, by decide, by decide⟩ hw h2 rfl hl.1 (Nat.le_of_ble_eq_true rfl) ⟨Nat.zero_le _, Nat.zero_le _⟩ rfl dX5_become_1) (fun H locs hw => ?_)
  refine lv_aload_n hx hb dX5_become_4 rfl (lv_at hl 0 rfl) ?_
  refine lv_aload_n hx hb dX5_become_5 rfl (lv_at hl 1 rfl) ?_
  refine lv_iconst (v := 0) hx hb dX5_become_6 nc_iconst_0 ?_
  refine lv_aload_n hx hb dX5_become_7 rfl (lv_at hl 1 rfl) ?_
  obtain ⟨v4, h5, hf⟩ := o_bind hf
  refine pw_get hC fl_X5_9 hw (rdI_F h5) dX5_become_8 ?_
  obtain ⟨h7, hf⟩ := o_ite hf
  obtain ⟨μ8, h6, hf⟩ := o_bind hf
  refine pw_goV hw (pw_runV (As := [.ref a1, .int 0, .int v4]) (rest := []) hC mm_X5_appendPart tw_235 (c_X5_appendPart h6 _) ⟨rfl, rfl, by decide, by decide⟩ hw h7 rfl hl.1 (Nat.le_of_ble_eq_true rfl) ⟨Nat.zero_le _, Nat.zero_le _⟩ rfl dX5_become_11) (fun H locs hw => ?_)
  obtain rfl := o_retv hf
  exact pw_vret hC hr hlocks hw dX5_become_14
theorem dX5_zeroFrom_0 : decode cX5_zeroFrom 0 = .ok (.iload_n 1, 1) := by decide +kernel
theorem dX5_zeroFrom_1 : decode cX5_zeroFrom 1 = .ok (.istore_n 3, 1) := by decide +kernel
theorem dX5_zeroFrom_2 : decode cX5_zeroFrom 2 = .ok (.iload_n 3, 1) := by decide +kernel
theorem dX5_zeroFrom_3 : decode cX5_zeroFrom 3 = .ok (.iload_n 2, 1) := by decide +kernel
theorem dX5_zeroFrom_4 : decode cX5_zeroFrom 4 = .ok (.if_icmp .ge 32, 3) := by decide +kernel
theorem dX5_zeroFrom_7 : decode cX5_zeroFrom 7 = .ok (.iload_n 3, 1) := by decide +kernel
theorem dX5_zeroFrom_8 : decode cX5_zeroFrom 8 = .ok (.ifCond .lt 22, 3) := by decide +kernel
theorem dX5_zeroFrom_11 : decode cX5_zeroFrom 11 = .ok (.iload_n 3, 1) := by decide +kernel
theorem dX5_zeroFrom_12 : decode cX5_zeroFrom 12 = .ok (.aload_n 0, 1) := by decide +kernel
theorem dX5_zeroFrom_13 : decode cX5_zeroFrom 13 = .ok (.getfield 9, 3) := by decide +kernel
theorem dX5_zeroFrom_16 : decode cX5_zeroFrom 16 = .ok (.if_icmp .ge 14, 3) := by decide +kernel
theorem dX5_zeroFrom_19 : decode cX5_zeroFrom 19 = .ok (.aload_n 0, 1) := by decide +kernel
theorem dX5_zeroFrom_20 : decode cX5_zeroFrom 20 = .ok (.getfield 25, 3) := by decide +kernel
theorem dX5_zeroFrom_23 : decode cX5_zeroFrom 23 = .ok (.iload_n 3, 1) := by decide +kernel
theorem dX5_zeroFrom_24 : decode cX5_zeroFrom 24 = .ok (.iaload, 1) := by decide +kernel
theorem dX5_zeroFrom_25 : decode cX5_zeroFrom 25 = .ok (.ifCond .ne 5, 3) := by decide +kernel
theorem dX5_zeroFrom_28 : decode cX5_zeroFrom 28 = .ok (.iload_n 3, 1) := by decide +kernel
theorem dX5_zeroFrom_29 : decode cX5_zeroFrom 29 = .ok (.ireturn, 1) := by decide +kernel
theorem dX5_zeroFrom_30 : decode cX5_zeroFrom 30 = .ok (.iinc 3 1, 3) := by decide +kernel
theorem dX5_zeroFrom_33 : decode cX5_zeroFrom 33 = .ok (.goto (-31), 3) := by decide +kernel
theorem dX5_zeroFrom_36 : decode cX5_zeroFrom 36 = .ok (.iconst (-1), 1) := by decide +kernel
theorem dX5_zeroFrom_37 : decode cX5_zeroFrom 37 = .ok (.ireturn, 1) := by decide +kernel
abbrev rm_X5_zeroFrom : Room := { frames := 0, cells := 0, slots := 0, locals := 0 }
def f_X5_zeroFrom_L30 (cy : Nat → ClassId) (k2 : Nat → Int32 → Int32 → Mem → Option (Int32 × Mem)) (a0 : Nat) (a2 : Int32) (a3 : Int32) (μ : Mem) : Option (Int32 × Mem) :=
  k2 a0 a2 (a3 + 1) μ
set_option maxRecDepth 100000 in
set_option maxHeartbeats 4000000 in
theorem w_X5_zeroFrom_L30 {p : Program} {l : Launch} {e : Env} {s : State} {m : MethodId} {args : Array Value} {below : List Frame} {meth : Method} {c : Code} {A : Nat → Prop} {g : Wg} {L : List Nat} {r : Int32} {μ' : Mem} (hC : CX p m c cX5_zeroFrom 4 s args RX5) (hr : meth.sig.returnType = (some .int)) (hlocks : meth.locks = false) {k2 : Nat → Int32 → Int32 → Mem → Option (Int32 × Mem)} (hk2 : ∀ (a0 : Nat) (a2 : Int32) (a3 : Int32) (μ : Mem) (H : Heap) (locs : List Loc) (ls : Array Slot), lv_has ls 4 [(0, .ref a0), (2, .int a2), (3, .int a3)] → PW g L μ A s H locs → k2 a0 a2 a3 μ = some (r, μ') → W p l e rm_X5_zeroFrom s m args below meth c H locs 0 0 (MQ below (QI g L A r μ') args s 0 0 A) (F0 m 2 ls [])) : ∀ (a0 : Nat) (a2 : Int32) (a3 : Int32) (μ : Mem) (H : Heap) (locs : List Loc) (ls : Array Slot), lv_has ls 4 [(0, .ref a0), (2, .int a2), (3, .int a3)] → PW g L μ A s H locs → f_X5_zeroFrom_L30 g.2 k2 a0 a2 a3 μ = some (r, μ') → W p l e rm_X5_zeroFrom s m args below meth c H locs 0 0 (MQ below (QI g L A r μ') args s 0 0 A) (F0 m 30 ls []) := by
  have hx := hC.1
  have hb := hC.2.1
  intro a0 a2 a3 μ H locs ls hl hw hf
  unfold f_X5_zeroFrom_L30 at hf
  refine lv_iinc (v := (a3 + 1)) (lv' := [(3, .int (a3 + 1)), (0, .ref a0), (2, .int a2)]) hx hb dX5_zeroFrom_30 hl (k := 2) rfl (by first | rfl | decide +kernel) (by decide) rfl (fun ls hl => ?_)
  refine lv_goto (tgt := 2) hx hb dX5_zeroFrom_33 (by decide) ?_
  exact hk2 _ _ _ _ _ _ ls (lv_sub hl [1, 2, 0] rfl) hw hf
def f_X5_zeroFrom_L2 (cy : Nat → ClassId) : Nat → Nat → Int32 → Int32 → Mem → Option (Int32 × Mem)
  | 0, _, _, _, _ => none
  | n + 1, a0, a2, a3, μ => if a2 ≤ a3 then (some ((-1), μ)) else if a3 < 0 then (f_X5_zeroFrom_L30 cy (f_X5_zeroFrom_L2 cy n) a0 a2 a3 μ) else (rdI μ a0 4 1).bind fun v103 => if v103 ≤ a3 then (f_X5_zeroFrom_L30 cy (f_X5_zeroFrom_L2 cy n) a0 a2 a3 μ) else (rdR μ a0 4 0).bind fun q106 => (rdA cy μ 1 q106 a3).bind fun v108 => if v108 = 0 then (some (a3, μ)) else f_X5_zeroFrom_L30 cy (f_X5_zeroFrom_L2 cy n) a0 a2 a3 μ
set_option maxRecDepth 100000 in
set_option maxHeartbeats 4000000 in
theorem w_X5_zeroFrom_L2 {p : Program} {l : Launch} {e : Env} {s : State} {m : MethodId} {args : Array Value} {below : List Frame} {meth : Method} {c : Code} {A : Nat → Prop} {g : Wg} {L : List Nat} {r : Int32} {μ' : Mem} (hC : CX p m c cX5_zeroFrom 4 s args RX5) (hr : meth.sig.returnType = (some .int)) (hlocks : meth.locks = false) : ∀ (n : Nat), ∀ (a0 : Nat) (a2 : Int32) (a3 : Int32) (μ : Mem) (H : Heap) (locs : List Loc) (ls : Array Slot), lv_has ls 4 [(0, .ref a0), (2, .int a2), (3, .int a3)] → PW g L μ A s H locs → f_X5_zeroFrom_L2 g.2 n a0 a2 a3 μ = some (r, μ') → W p l e rm_X5_zeroFrom s m args below meth c H locs 0 0 (MQ below (QI g L A r μ') args s 0 0 A) (F0 m 2 ls []) := by
  have hx := hC.1
  have hb := hC.2.1
  intro n
  induction n with
  | zero => intro a0 a2 a3 μ H locs ls hl hw hf; cases hf
  | succ n ih =>
    intro a0 a2 a3 μ H locs ls hl hw hf
    rw [f_X5_zeroFrom_L2] at hf
    refine lv_iload_n hx hb dX5_zeroFrom_2 rfl (lv_at hl 2 rfl) ?_
    refine lv_iload_n hx hb dX5_zeroFrom_3 rfl (lv_at hl 1 rfl) ?_
    refine lv_icmp_ge (tgt := 36) hx hb dX5_zeroFrom_4 (by decide) (fun c101 => ?_) (fun c101 => ?_)
    · have hf := o_pos c101 hf
      refine lv_iconst (v := (-1)) hx hb dX5_zeroFrom_36 nc_iconst_m1 ?_
      obtain ⟨rfl, rfl⟩ := o_ret hf
      exact pw_iret hC hr hlocks hw dX5_zeroFrom_37
    · have hf := o_neg c101 hf
      refine lv_iload_n hx hb dX5_zeroFrom_7 rfl (lv_at hl 2 rfl) ?_
      refine lv_if_lt (tgt := 30) hx hb dX5_zeroFrom_8 (by decide) (fun c102 => ?_) (fun c102 => ?_)
      · have hf := o_pos c102 hf
        exact w_X5_zeroFrom_L30 hC hr hlocks ih _ _ _ _ _ _ ls (lv_sub hl [0, 1, 2] rfl) hw hf
      · have hf := o_neg c102 hf
        refine lv_iload_n hx hb dX5_zeroFrom_11 rfl (lv_at hl 2 rfl) ?_
        refine lv_aload_n hx hb dX5_zeroFrom_12 rfl (lv_at hl 0 rfl) ?_
        obtain ⟨v103, h104, hf⟩ := o_bind hf
        refine pw_get hC fl_X5_9 hw (rdI_F h104) dX5_zeroFrom_13 ?_
        refine lv_icmp_ge (tgt := 30) hx hb dX5_zeroFrom_16 (by decide) (fun c105 => ?_) (fun c105 => ?_)
        · have hf := o_pos c105 hf
          exact w_X5_zeroFrom_L30 hC hr hlocks ih _ _ _ _ _ _ ls (lv_sub hl [0, 1, 2] rfl) hw hf
        · have hf := o_neg c105 hf
          refine lv_aload_n hx hb dX5_zeroFrom_19 rfl (lv_at hl 0 rfl) ?_
          obtain ⟨q106, h107, hf⟩ := o_bind hf
          refine pw_get hC fl_X5_25 hw (rdR_F h107) dX5_zeroFrom_20 ?_
          refine lv_iload_n hx hb dX5_zeroFrom_23 rfl (lv_at hl 2 rfl) ?_
          obtain ⟨v108, h109, hf⟩ := o_bind hf
          refine pw_iald hC hw h109 dX5_zeroFrom_24 ?_
          refine lv_if_ne (tgt := 30) hx hb dX5_zeroFrom_25 (by decide) (fun c110 => ?_) (fun c110 => ?_)
          · have hf := o_neg c110 hf
            exact w_X5_zeroFrom_L30 hC hr hlocks ih _ _ _ _ _ _ ls (lv_sub hl [0, 1, 2] rfl) hw hf
          · have hf := o_pos c110 hf
            refine lv_iload_n hx hb dX5_zeroFrom_28 rfl (lv_at hl 2 rfl) ?_
            obtain ⟨rfl, rfl⟩ := o_ret hf
            exact pw_iret hC hr hlocks hw dX5_zeroFrom_29
def f_X5_zeroFrom (cy : Nat → ClassId) (a0 : Nat) (a1 : Int32) (a2 : Int32) (μ : Mem) : Option (Int32 × Mem) :=
  f_X5_zeroFrom_L2 cy FU a0 a2 a1 μ
set_option maxRecDepth 100000 in
set_option maxHeartbeats 4000000 in
theorem c_X5_zeroFrom {l : Launch} {g : Wg} {L : List Nat} {μ : Mem} {a0 : Nat} {a1 : Int32} {a2 : Int32} {r : Int32} {μ' : Mem} (hf : f_X5_zeroFrom g.2 a0 a1 a2 μ = some (r, μ')) : MetI l yX5_zeroFrom cX5_zeroFrom 4 (some .int) rm_X5_zeroFrom g L μ [.ref a0, .int a1, .int a2] r μ' := by
  refine pw_met (Qc := fun A => QI g L A r μ') (by decide) (Nat.le_of_ble_eq_true rfl) ?_
  intro p e s m args below meth c A ls H locs hC hr hlocks hl hw
  have hx := hC.1
  have hb := hC.2.1
  have hl : lv_has ls 4 [(0, .ref a0), (1, .int a1), (2, .int a2)] := hl
  unfold f_X5_zeroFrom at hf
  refine lv_iload_n hx hb dX5_zeroFrom_0 rfl (lv_at hl 1 rfl) ?_
  refine lv_istore_n (lv' := [(3, .int a1), (0, .ref a0), (1, .int a1), (2, .int a2)]) hx hb dX5_zeroFrom_1 rfl hl (by decide) rfl (fun ls hl => ?_)
  exact w_X5_zeroFrom_L2 hC hr hlocks FU _ _ _ _ _ _ ls (lv_sub hl [1, 3, 0] rfl) hw hf
theorem dX5_behindName_0 : decode cX5_behindName 0 = .ok (.aload_n 0, 1) := by decide +kernel
theorem dX5_behindName_1 : decode cX5_behindName 1 = .ok (.iload_n 1, 1) := by decide +kernel
theorem dX5_behindName_2 : decode cX5_behindName 2 = .ok (.aload_n 0, 1) := by decide +kernel
theorem dX5_behindName_3 : decode cX5_behindName 3 = .ok (.getfield 9, 3) := by decide +kernel
theorem dX5_behindName_6 : decode cX5_behindName 6 = .ok (.invokevirtual 60, 3) := by decide +kernel
theorem dX5_behindName_9 : decode cX5_behindName 9 = .ok (.istore_n 2, 1) := by decide +kernel
theorem dX5_behindName_10 : decode cX5_behindName 10 = .ok (.iload_n 2, 1) := by decide +kernel
theorem dX5_behindName_11 : decode cX5_behindName 11 = .ok (.iconst (-1), 1) := by decide +kernel
theorem dX5_behindName_12 : decode cX5_behindName 12 = .ok (.if_icmp .ne 10, 3) := by decide +kernel
theorem dX5_behindName_15 : decode cX5_behindName 15 = .ok (.aload_n 0, 1) := by decide +kernel
theorem dX5_behindName_16 : decode cX5_behindName 16 = .ok (.getfield 9, 3) := by decide +kernel
theorem dX5_behindName_19 : decode cX5_behindName 19 = .ok (.goto 6, 3) := by decide +kernel
theorem dX5_behindName_22 : decode cX5_behindName 22 = .ok (.iload_n 2, 1) := by decide +kernel
theorem dX5_behindName_23 : decode cX5_behindName 23 = .ok (.iconst 1, 1) := by decide +kernel
theorem dX5_behindName_24 : decode cX5_behindName 24 = .ok (.iadd, 1) := by decide +kernel
theorem dX5_behindName_25 : decode cX5_behindName 25 = .ok (.ireturn, 1) := by decide +kernel
abbrev rm_X5_behindName : Room := { frames := 1, cells := 0, slots := 0, locals := 23 }
def f_X5_behindName (cy : Nat → ClassId) (a0 : Nat) (a1 : Int32) (μ : Mem) : Option (Int32 × Mem) :=
  (rdI μ a0 4 1).bind fun v1 => if isO μ a0 4 = true then (ob2 (f_X5_zeroFrom cy a0 a1 v1 μ) fun r6 μ5 => if r6 = (-1) then ((rdI μ5 a0 4 1).bind fun v8 => some (v8, μ5)) else some ((r6 + 1), μ5)) else none
set_option maxRecDepth 100000 in
set_option maxHeartbeats 4000000 in
theorem c_X5_behindName {l : Launch} {g : Wg} {L : List Nat} {μ : Mem} {a0 : Nat} {a1 : Int32} {r : Int32} {μ' : Mem} (hf : f_X5_behindName g.2 a0 a1 μ = some (r, μ')) : MetI l yX5_behindName cX5_behindName 3 (some .int) rm_X5_behindName g L μ [.ref a0, .int a1] r μ' := by
  refine pw_met (Qc := fun A => QI g L A r μ') (by decide) (Nat.le_of_ble_eq_true rfl) ?_
  intro p e s m args below meth c A ls H locs hC hr hlocks hl hw
  have hx := hC.1
  have hb := hC.2.1
  have hl : lv_has ls 3 [(0, .ref a0), (1, .int a1)] := hl
  unfold f_X5_behindName at hf
  refine lv_aload_n hx hb dX5_behindName_0 rfl (lv_at hl 0 rfl) ?_
  refine lv_iload_n hx hb dX5_behindName_1 rfl (lv_at hl 1 rfl) ?_
  refine lv_aload_n hx hb dX5_behindName_2 rfl (lv_at hl 0 rfl) ?_
  obtain ⟨v1, h2, hf⟩ := o_bind hf
  refine pw_get hC fl_X5_9 hw (rdI_F h2) dX5_behindName_3 ?_
  obtain ⟨h4, hf⟩ := o_ite hf
  obtain ⟨r6, μ5, h3, hf⟩ := o_bind2 hf
  refine pw_goI hw (pw_runV (As := [.int a1, .int v1]) (rest := []) hC mm_X5_zeroFrom tw_267 (c_X5_zeroFrom h3 _) ⟨rfl, rfl, by decide, by decide⟩ hw h4 rfl hl.1 (Nat.le_of_ble_eq_true rfl) ⟨Nat.zero_le _, Nat.zero_le _⟩ rfl dX5_behindName_6) (fun H locs hw => ?_)
  refine lv_istore_n (lv' := [(2, .int r6), (0, .ref a0), (1, .int a1)]) hx hb dX5_behindName_9 rfl hl (by decide) rfl (fun ls hl => ?_)
  refine lv_iload_n hx hb dX5_behindName_10 rfl (lv_at hl 0 rfl) ?_
  refine lv_iconst (v := (-1)) hx hb dX5_behindName_11 nc_iconst_m1 ?_
  refine lv_icmp_ne (tgt := 22) hx hb dX5_behindName_12 (by decide) (fun c7 => ?_) (fun c7 => ?_)
  · have hf := o_neg c7 hf
    refine lv_iload_n hx hb dX5_behindName_22 rfl (lv_at hl 0 rfl) ?_
    refine lv_iconst (v := 1) hx hb dX5_behindName_23 nc_iconst_1 ?_
    refine lv_iadd hx hb dX5_behindName_24 ?_
    obtain ⟨rfl, rfl⟩ := o_ret hf
    exact pw_iret hC hr hlocks hw dX5_behindName_25
  · have hf := o_pos c7 hf
    refine lv_aload_n hx hb dX5_behindName_15 rfl (lv_at hl 1 rfl) ?_
    obtain ⟨v8, h9, hf⟩ := o_bind hf
    refine pw_get hC fl_X5_9 hw (rdI_F h9) dX5_behindName_16 ?_
    refine lv_goto (tgt := 25) hx hb dX5_behindName_19 (by decide) ?_
    obtain ⟨rfl, rfl⟩ := o_ret hf
    exact pw_iret hC hr hlocks hw dX5_behindName_25
theorem dX5_hasSame_0 : decode cX5_hasSame 0 = .ok (.iconst 0, 1) := by decide +kernel
theorem dX5_hasSame_1 : decode cX5_hasSame 1 = .ok (.istore 5, 2) := by decide +kernel
theorem dX5_hasSame_3 : decode cX5_hasSame 3 = .ok (.iload 5, 2) := by decide +kernel
theorem dX5_hasSame_5 : decode cX5_hasSame 5 = .ok (.iload 4, 2) := by decide +kernel
theorem dX5_hasSame_7 : decode cX5_hasSame 7 = .ok (.if_icmp .ge 30, 3) := by decide +kernel
theorem dX5_hasSame_10 : decode cX5_hasSame 10 = .ok (.aload_n 0, 1) := by decide +kernel
theorem dX5_hasSame_11 : decode cX5_hasSame 11 = .ok (.iload_n 1, 1) := by decide +kernel
theorem dX5_hasSame_12 : decode cX5_hasSame 12 = .ok (.iload 5, 2) := by decide +kernel
theorem dX5_hasSame_14 : decode cX5_hasSame 14 = .ok (.iadd, 1) := by decide +kernel
theorem dX5_hasSame_15 : decode cX5_hasSame 15 = .ok (.invokevirtual 36, 3) := by decide +kernel
theorem dX5_hasSame_18 : decode cX5_hasSame 18 = .ok (.aload_n 2, 1) := by decide +kernel
theorem dX5_hasSame_19 : decode cX5_hasSame 19 = .ok (.iload_n 3, 1) := by decide +kernel
theorem dX5_hasSame_20 : decode cX5_hasSame 20 = .ok (.iload 5, 2) := by decide +kernel
theorem dX5_hasSame_22 : decode cX5_hasSame 22 = .ok (.iadd, 1) := by decide +kernel
theorem dX5_hasSame_23 : decode cX5_hasSame 23 = .ok (.invokevirtual 36, 3) := by decide +kernel
theorem dX5_hasSame_26 : decode cX5_hasSame 26 = .ok (.if_icmp .eq 5, 3) := by decide +kernel
theorem dX5_hasSame_29 : decode cX5_hasSame 29 = .ok (.iconst 0, 1) := by decide +kernel
theorem dX5_hasSame_30 : decode cX5_hasSame 30 = .ok (.ireturn, 1) := by decide +kernel
theorem dX5_hasSame_31 : decode cX5_hasSame 31 = .ok (.iinc 5 1, 3) := by decide +kernel
theorem dX5_hasSame_34 : decode cX5_hasSame 34 = .ok (.goto (-31), 3) := by decide +kernel
theorem dX5_hasSame_37 : decode cX5_hasSame 37 = .ok (.iconst 1, 1) := by decide +kernel
theorem dX5_hasSame_38 : decode cX5_hasSame 38 = .ok (.ireturn, 1) := by decide +kernel
abbrev rm_X5_hasSame : Room := { frames := 1, cells := 0, slots := 0, locals := 21 }
def f_X5_hasSame_L3 (cy : Nat → ClassId) : Nat → Nat → Int32 → Nat → Int32 → Int32 → Int32 → Mem → Option (Int32 × Mem)
  | 0, _, _, _, _, _, _, _ => none
  | n + 1, a0, a1, a2, a3, a4, a5, μ => if a4 ≤ a5 then (some (1, μ)) else if isO μ a0 4 = true then (ob2 (f_X5_at cy a0 (a1 + a5) μ) fun r105 μ104 => if isO μ104 a2 4 = true then (ob2 (f_X5_at cy a2 (a3 + a5) μ104) fun r109 μ108 => if r105 = r109 then (f_X5_hasSame_L3 cy n a0 a1 a2 a3 a4 (a5 + 1) μ108) else some (0, μ108)) else none) else none
set_option maxRecDepth 100000 in
set_option maxHeartbeats 4000000 in
theorem w_X5_hasSame_L3 {p : Program} {l : Launch} {e : Env} {s : State} {m : MethodId} {args : Array Value} {below : List Frame} {meth : Method} {c : Code} {A : Nat → Prop} {g : Wg} {L : List Nat} {r : Int32} {μ' : Mem} (hC : CX p m c cX5_hasSame 6 s args RX5) (hr : meth.sig.returnType = (some .boolean)) (hlocks : meth.locks = false) : ∀ (n : Nat), ∀ (a0 : Nat) (a1 : Int32) (a2 : Nat) (a3 : Int32) (a4 : Int32) (a5 : Int32) (μ : Mem) (H : Heap) (locs : List Loc) (ls : Array Slot), lv_has ls 6 [(0, .ref a0), (1, .int a1), (2, .ref a2), (3, .int a3), (4, .int a4), (5, .int a5)] → PW g L μ A s H locs → f_X5_hasSame_L3 g.2 n a0 a1 a2 a3 a4 a5 μ = some (r, μ') → W p l e rm_X5_hasSame s m args below meth c H locs 0 0 (MQ below (QI g L A r μ') args s 0 0 A) (F0 m 3 ls []) := by
  have hx := hC.1
  have hb := hC.2.1
  intro n
  induction n with
  | zero => intro a0 a1 a2 a3 a4 a5 μ H locs ls hl hw hf; cases hf
  | succ n ih =>
    intro a0 a1 a2 a3 a4 a5 μ H locs ls hl hw hf
    rw [f_X5_hasSame_L3] at hf
    refine lv_iload hx hb dX5_hasSame_3 (lv_at hl 5 rfl) ?_
    refine lv_iload hx hb dX5_hasSame_5 (lv_at hl 4 rfl) ?_
    refine lv_icmp_ge (tgt := 37) hx hb dX5_hasSame_7 (by decide) (fun c101 => ?_) (fun c101 => ?_)
    · have hf := o_pos c101 hf
      refine lv_iconst (v := 1) hx hb dX5_hasSame_37 nc_iconst_1 ?_
      obtain ⟨rfl, rfl⟩ := o_ret hf
      exact pw_zret hC hr hlocks (Or.inr rfl) hw dX5_hasSame_38
    · have hf := o_neg c101 hf
      refine lv_aload_n hx hb dX5_hasSame_10 rfl (lv_at hl 0 rfl) ?_
      refine lv_iload_n hx hb dX5_hasSame_11 rfl (lv_at hl 1 rfl) ?_
      refine lv_iload hx hb dX5_hasSame_12 (lv_at hl 5 rfl) ?_
      refine lv_iadd hx hb dX5_hasSame_14 ?_
      obtain ⟨h103, hf⟩ := o_ite hf
      obtain ⟨r105, μ104, h102, hf⟩ := o_bind2 hf
      refine pw_goI hw (pw_runV (As := [.int (a1 + a5)]) (rest := []) hC mm_X5_at tw_258 (c_X5_at h102 _) ⟨rfl, rfl, by decide, by decide⟩ hw h103 rfl hl.1 (Nat.le_of_ble_eq_true rfl) ⟨Nat.zero_le _, Nat.zero_le _⟩ rfl dX5_hasSame_15) (fun H locs hw => ?_)
      refine lv_aload_n hx hb dX5_hasSame_18 rfl (lv_at hl 2 rfl) ?_
      refine lv_iload_n hx hb dX5_hasSame_19 rfl (lv_at hl 3 rfl) ?_
      refine lv_iload hx hb dX5_hasSame_20 (lv_at hl 5 rfl) ?_
      refine lv_iadd hx hb dX5_hasSame_22 ?_
      obtain ⟨h107, hf⟩ := o_ite hf
      obtain ⟨r109, μ108, h106, hf⟩ := o_bind2 hf
      refine pw_goI hw (pw_runV (As := [.int (a3 + a5)]) (rest := [.int r105]) hC mm_X5_at tw_258 (c_X5_at h106 _) ⟨rfl, rfl, by decide, by decide⟩ hw h107 rfl hl.1 (Nat.le_of_ble_eq_true rfl) ⟨Nat.zero_le _, Nat.zero_le _⟩ rfl dX5_hasSame_23) (fun H locs hw => ?_)
      refine lv_icmp_eq (tgt := 31) hx hb dX5_hasSame_26 (by decide) (fun c110 => ?_) (fun c110 => ?_)
      · have hf := o_pos c110 hf
        refine lv_iinc (v := (a5 + 1)) (lv' := [(5, .int (a5 + 1)), (0, .ref a0), (1, .int a1), (2, .ref a2), (3, .int a3), (4, .int a4)]) hx hb dX5_hasSame_31 hl (k := 5) rfl (by first | rfl | decide +kernel) (by decide) rfl (fun ls hl => ?_)
        refine lv_goto (tgt := 3) hx hb dX5_hasSame_34 (by decide) ?_
        exact ih _ _ _ _ _ _ _ _ _ ls (lv_sub hl [1, 2, 3, 4, 5, 0] rfl) hw hf
      · have hf := o_neg c110 hf
        refine lv_iconst (v := 0) hx hb dX5_hasSame_29 nc_iconst_0 ?_
        obtain ⟨rfl, rfl⟩ := o_ret hf
        exact pw_zret hC hr hlocks (Or.inl rfl) hw dX5_hasSame_30
def f_X5_hasSame (cy : Nat → ClassId) (a0 : Nat) (a1 : Int32) (a2 : Nat) (a3 : Int32) (a4 : Int32) (μ : Mem) : Option (Int32 × Mem) :=
  f_X5_hasSame_L3 cy FU a0 a1 a2 a3 a4 0 μ
set_option maxRecDepth 100000 in
set_option maxHeartbeats 4000000 in
theorem c_X5_hasSame {l : Launch} {g : Wg} {L : List Nat} {μ : Mem} {a0 : Nat} {a1 : Int32} {a2 : Nat} {a3 : Int32} {a4 : Int32} {r : Int32} {μ' : Mem} (hf : f_X5_hasSame g.2 a0 a1 a2 a3 a4 μ = some (r, μ')) : MetI l yX5_hasSame cX5_hasSame 6 (some .boolean) rm_X5_hasSame g L μ [.ref a0, .int a1, .ref a2, .int a3, .int a4] r μ' := by
  refine pw_met (Qc := fun A => QI g L A r μ') (by decide) (Nat.le_of_ble_eq_true rfl) ?_
  intro p e s m args below meth c A ls H locs hC hr hlocks hl hw
  have hx := hC.1
  have hb := hC.2.1
  have hl : lv_has ls 6 [(0, .ref a0), (1, .int a1), (2, .ref a2), (3, .int a3), (4, .int a4)] := hl
  unfold f_X5_hasSame at hf
  refine lv_iconst (v := 0) hx hb dX5_hasSame_0 nc_iconst_0 ?_
  refine lv_istore (lv' := [(5, .int 0), (0, .ref a0), (1, .int a1), (2, .ref a2), (3, .int a3), (4, .int a4)]) hx hb dX5_hasSame_1 hl (by decide) rfl (fun ls hl => ?_)
  exact w_X5_hasSame_L3 hC hr hlocks FU _ _ _ _ _ _ _ _ _ ls (lv_sub hl [1, 2, 3, 4, 5, 0] rfl) hw hf
theorem dX5_firstDifference_0 : decode cX5_firstDifference 0 = .ok (.aload_n 0, 1) := by decide +kernel
theorem dX5_firstDifference_1 : decode cX5_firstDifference 1 = .ok (.getfield 9, 3) := by decide +kernel
theorem dX5_firstDifference_4 : decode cX5_firstDifference 4 = .ok (.aload_n 1, 1) := by decide +kernel
theorem dX5_firstDifference_5 : decode cX5_firstDifference 5 = .ok (.getfield 9, 3) := by decide +kernel
theorem dX5_firstDifference_8 : decode cX5_firstDifference 8 = .ok (.invokestatic 63, 3) := by decide +kernel
theorem dX5_firstDifference_11 : decode cX5_firstDifference 11 = .ok (.istore_n 3, 1) := by decide +kernel
theorem dX5_firstDifference_12 : decode cX5_firstDifference 12 = .ok (.iload_n 2, 1) := by decide +kernel
theorem dX5_firstDifference_13 : decode cX5_firstDifference 13 = .ok (.istore 4, 2) := by decide +kernel
theorem dX5_firstDifference_15 : decode cX5_firstDifference 15 = .ok (.iload 4, 2) := by decide +kernel
theorem dX5_firstDifference_17 : decode cX5_firstDifference 17 = .ok (.iload_n 3, 1) := by decide +kernel
theorem dX5_firstDifference_18 : decode cX5_firstDifference 18 = .ok (.if_icmp .ge 27, 3) := by decide +kernel
theorem dX5_firstDifference_21 : decode cX5_firstDifference 21 = .ok (.aload_n 0, 1) := by decide +kernel
theorem dX5_firstDifference_22 : decode cX5_firstDifference 22 = .ok (.iload 4, 2) := by decide +kernel
theorem dX5_firstDifference_24 : decode cX5_firstDifference 24 = .ok (.invokevirtual 36, 3) := by decide +kernel
theorem dX5_firstDifference_27 : decode cX5_firstDifference 27 = .ok (.aload_n 1, 1) := by decide +kernel
theorem dX5_firstDifference_28 : decode cX5_firstDifference 28 = .ok (.iload 4, 2) := by decide +kernel
theorem dX5_firstDifference_30 : decode cX5_firstDifference 30 = .ok (.invokevirtual 36, 3) := by decide +kernel
theorem dX5_firstDifference_33 : decode cX5_firstDifference 33 = .ok (.if_icmp .eq 6, 3) := by decide +kernel
theorem dX5_firstDifference_36 : decode cX5_firstDifference 36 = .ok (.iload 4, 2) := by decide +kernel
theorem dX5_firstDifference_38 : decode cX5_firstDifference 38 = .ok (.ireturn, 1) := by decide +kernel
theorem dX5_firstDifference_39 : decode cX5_firstDifference 39 = .ok (.iinc 4 1, 3) := by decide +kernel
theorem dX5_firstDifference_42 : decode cX5_firstDifference 42 = .ok (.goto (-27), 3) := by decide +kernel
theorem dX5_firstDifference_45 : decode cX5_firstDifference 45 = .ok (.aload_n 0, 1) := by decide +kernel
theorem dX5_firstDifference_46 : decode cX5_firstDifference 46 = .ok (.getfield 9, 3) := by decide +kernel
theorem dX5_firstDifference_49 : decode cX5_firstDifference 49 = .ok (.aload_n 1, 1) := by decide +kernel
theorem dX5_firstDifference_50 : decode cX5_firstDifference 50 = .ok (.getfield 9, 3) := by decide +kernel
theorem dX5_firstDifference_53 : decode cX5_firstDifference 53 = .ok (.if_icmp .ne 7, 3) := by decide +kernel
theorem dX5_firstDifference_56 : decode cX5_firstDifference 56 = .ok (.iconst (-1), 1) := by decide +kernel
theorem dX5_firstDifference_57 : decode cX5_firstDifference 57 = .ok (.goto 4, 3) := by decide +kernel
theorem dX5_firstDifference_60 : decode cX5_firstDifference 60 = .ok (.iload_n 3, 1) := by decide +kernel
theorem dX5_firstDifference_61 : decode cX5_firstDifference 61 = .ok (.ireturn, 1) := by decide +kernel
abbrev rm_X5_firstDifference : Room := { frames := 1, cells := 0, slots := 0, locals := 40 }
def f_X5_firstDifference_L15 (cy : Nat → ClassId) : Nat → Nat → Nat → Int32 → Int32 → Mem → Option (Int32 × Mem)
  | 0, _, _, _, _, _ => none
  | n + 1, a0, a1, a3, a4, μ => if a3 ≤ a4 then ((rdI μ a0 4 1).bind fun v102 => (rdI μ a1 4 1).bind fun v104 => if v102 = v104 then (some ((-1), μ)) else some (a3, μ)) else if isO μ a0 4 = true then (ob2 (f_X5_at cy a0 a4 μ) fun r110 μ109 => if isO μ109 a1 4 = true then (ob2 (f_X5_at cy a1 a4 μ109) fun r114 μ113 => if r110 = r114 then (f_X5_firstDifference_L15 cy n a0 a1 a3 (a4 + 1) μ113) else some (a4, μ113)) else none) else none
set_option maxRecDepth 100000 in
set_option maxHeartbeats 4000000 in
theorem w_X5_firstDifference_L15 {p : Program} {l : Launch} {e : Env} {s : State} {m : MethodId} {args : Array Value} {below : List Frame} {meth : Method} {c : Code} {A : Nat → Prop} {g : Wg} {L : List Nat} {r : Int32} {μ' : Mem} (hC : CX p m c cX5_firstDifference 5 s args RX5) (hr : meth.sig.returnType = (some .int)) (hlocks : meth.locks = false) : ∀ (n : Nat), ∀ (a0 : Nat) (a1 : Nat) (a3 : Int32) (a4 : Int32) (μ : Mem) (H : Heap) (locs : List Loc) (ls : Array Slot), lv_has ls 5 [(0, .ref a0), (1, .ref a1), (3, .int a3), (4, .int a4)] → PW g L μ A s H locs → f_X5_firstDifference_L15 g.2 n a0 a1 a3 a4 μ = some (r, μ') → W p l e rm_X5_firstDifference s m args below meth c H locs 0 0 (MQ below (QI g L A r μ') args s 0 0 A) (F0 m 15 ls []) := by
  have hx := hC.1
  have hb := hC.2.1
  intro n
  induction n with
  | zero => intro a0 a1 a3 a4 μ H locs ls hl hw hf; cases hf
  | succ n ih =>
    intro a0 a1 a3 a4 μ H locs ls hl hw hf
    rw [f_X5_firstDifference_L15] at hf
    refine lv_iload hx hb dX5_firstDifference_15 (lv_at hl 3 rfl) ?_
    refine lv_iload_n hx hb dX5_firstDifference_17 rfl (lv_at hl 2 rfl) ?_
    refine lv_icmp_ge (tgt := 45) hx hb dX5_firstDifference_18 (by decide) (fun c101 => ?_) (fun c101 => ?_)
    · have hf := o_pos c101 hf
      refine lv_aload_n hx hb dX5_firstDifference_45 rfl (lv_at hl 0 rfl) ?_
      obtain ⟨v102, h103, hf⟩ := o_bind hf
      refine pw_get hC fl_X5_9 hw (rdI_F h103) dX5_firstDifference_46 ?_
      refine lv_aload_n hx hb dX5_firstDifference_49 rfl (lv_at hl 1 rfl) ?_
      obtain ⟨v104, h105, hf⟩ := o_bind hf
      refine pw_get hC fl_X5_9 hw (rdI_F h105) dX5_firstDifference_50 ?_
      refine lv_icmp_ne (tgt := 60) hx hb dX5_firstDifference_53 (by decide) (fun c106 => ?_) (fun c106 => ?_)
      · have hf := o_neg c106 hf
        refine lv_iload_n hx hb dX5_firstDifference_60 rfl (lv_at hl 2 rfl) ?_
        obtain ⟨rfl, rfl⟩ := o_ret hf
        exact pw_iret hC hr hlocks hw dX5_firstDifference_61
      · have hf := o_pos c106 hf
        refine lv_iconst (v := (-1)) hx hb dX5_firstDifference_56 nc_iconst_m1 ?_
        refine lv_goto (tgt := 61) hx hb dX5_firstDifference_57 (by decide) ?_
        obtain ⟨rfl, rfl⟩ := o_ret hf
        exact pw_iret hC hr hlocks hw dX5_firstDifference_61
    · have hf := o_neg c101 hf
      refine lv_aload_n hx hb dX5_firstDifference_21 rfl (lv_at hl 0 rfl) ?_
      refine lv_iload hx hb dX5_firstDifference_22 (lv_at hl 3 rfl) ?_
      obtain ⟨h108, hf⟩ := o_ite hf
      obtain ⟨r110, μ109, h107, hf⟩ := o_bind2 hf
      refine pw_goI hw (pw_runV (As := [.int a4]) (rest := []) hC mm_X5_at tw_258 (c_X5_at h107 _) ⟨rfl, rfl, by decide, by decide⟩ hw h108 rfl hl.1 (Nat.le_of_ble_eq_true rfl) ⟨Nat.zero_le _, Nat.zero_le _⟩ rfl dX5_firstDifference_24) (fun H locs hw => ?_)
      refine lv_aload_n hx hb dX5_firstDifference_27 rfl (lv_at hl 1 rfl) ?_
      refine lv_iload hx hb dX5_firstDifference_28 (lv_at hl 3 rfl) ?_
      obtain ⟨h112, hf⟩ := o_ite hf
      obtain ⟨r114, μ113, h111, hf⟩ := o_bind2 hf
      refine pw_goI hw (pw_runV (As := [.int a4]) (rest := [.int r110]) hC mm_X5_at tw_258 (c_X5_at h111 _) ⟨rfl, rfl, by decide, by decide⟩ hw h112 rfl hl.1 (Nat.le_of_ble_eq_true rfl) ⟨Nat.zero_le _, Nat.zero_le _⟩ rfl dX5_firstDifference_30) (fun H locs hw => ?_)
      refine lv_icmp_eq (tgt := 39) hx hb dX5_firstDifference_33 (by decide) (fun c115 => ?_) (fun c115 => ?_)
      · have hf := o_pos c115 hf
        refine lv_iinc (v := (a4 + 1)) (lv' := [(4, .int (a4 + 1)), (0, .ref a0), (1, .ref a1), (3, .int a3)]) hx hb dX5_firstDifference_39 hl (k := 3) rfl (by first | rfl | decide +kernel) (by decide) rfl (fun ls hl => ?_)
        refine lv_goto (tgt := 15) hx hb dX5_firstDifference_42 (by decide) ?_
        exact ih _ _ _ _ _ _ _ ls (lv_sub hl [1, 2, 3, 0] rfl) hw hf
      · have hf := o_neg c115 hf
        refine lv_iload hx hb dX5_firstDifference_36 (lv_at hl 3 rfl) ?_
        obtain ⟨rfl, rfl⟩ := o_ret hf
        exact pw_iret hC hr hlocks hw dX5_firstDifference_38
def f_X5_firstDifference (cy : Nat → ClassId) (a0 : Nat) (a1 : Nat) (a2 : Int32) (μ : Mem) : Option (Int32 × Mem) :=
  (rdI μ a0 4 1).bind fun v1 => (rdI μ a1 4 1).bind fun v3 => f_X5_firstDifference_L15 cy FU a0 a1 (if v3 < v1 then v3 else v1) a2 μ
set_option maxRecDepth 100000 in
set_option maxHeartbeats 4000000 in
theorem c_X5_firstDifference {l : Launch} {g : Wg} {L : List Nat} {μ : Mem} {a0 : Nat} {a1 : Nat} {a2 : Int32} {r : Int32} {μ' : Mem} (hf : f_X5_firstDifference g.2 a0 a1 a2 μ = some (r, μ')) : MetI l yX5_firstDifference cX5_firstDifference 5 (some .int) rm_X5_firstDifference g L μ [.ref a0, .ref a1, .int a2] r μ' := by
  refine pw_met (Qc := fun A => QI g L A r μ') (by decide) (Nat.le_of_ble_eq_true rfl) ?_
  intro p e s m args below meth c A ls H locs hC hr hlocks hl hw
  have hx := hC.1
  have hb := hC.2.1
  have hl : lv_has ls 5 [(0, .ref a0), (1, .ref a1), (2, .int a2)] := hl
  unfold f_X5_firstDifference at hf
  refine lv_aload_n hx hb dX5_firstDifference_0 rfl (lv_at hl 0 rfl) ?_
  obtain ⟨v1, h2, hf⟩ := o_bind hf
  refine pw_get hC fl_X5_9 hw (rdI_F h2) dX5_firstDifference_1 ?_
  refine lv_aload_n hx hb dX5_firstDifference_4 rfl (lv_at hl 1 rfl) ?_
  obtain ⟨v3, h4, hf⟩ := o_bind hf
  refine pw_get hC fl_X5_9 hw (rdI_F h4) dX5_firstDifference_5 ?_
  refine va_mmin hx hb (hC.2.2.1.trans hl.1.symm) hC.2.2.2.1 (hC.2.2.2.2 _ tw_829) (hC.2.2.2.2 _ tw_284) (hC.2.2.2.2 _ tw_3) (hC.2.2.2.2 _ tw_285) (by decide) (Nat.le_of_ble_eq_true rfl) (by first | exact Nat.zero_le _ | decide) (by first | exact Nat.zero_le _ | decide) dX5_firstDifference_8 ?_
  refine lv_istore_n (lv' := [(3, .int (if v3 < v1 then v3 else v1)), (0, .ref a0), (1, .ref a1), (2, .int a2)]) hx hb dX5_firstDifference_11 rfl hl (by decide) rfl (fun ls hl => ?_)
  refine lv_iload_n hx hb dX5_firstDifference_12 rfl (lv_at hl 3 rfl) ?_
  refine lv_istore (lv' := [(4, .int a2), (3, .int (if v3 < v1 then v3 else v1)), (0, .ref a0), (1, .ref a1), (2, .int a2)]) hx hb dX5_firstDifference_13 hl (by decide) rfl (fun ls hl => ?_)
  exact w_X5_firstDifference_L15 hC hr hlocks FU _ _ _ _ _ _ _ ls (lv_sub hl [2, 3, 1, 0] rfl) hw hf
