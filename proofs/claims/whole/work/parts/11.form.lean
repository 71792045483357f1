theorem nc_bipush_9 : (Int8.ofInt 9).toInt32 = 9 := by decide +kernel
theorem nc_bipush_10 : (Int8.ofInt 10).toInt32 = 10 := by decide +kernel
theorem nc_bipush_12 : (Int8.ofInt 12).toInt32 = 12 := by decide +kernel
theorem nc_bipush_15 : (Int8.ofInt 15).toInt32 = 15 := by decide +kernel
theorem nc_bipush_18 : (Int8.ofInt 18).toInt32 = 18 := by decide +kernel
theorem nc_bipush_19 : (Int8.ofInt 19).toInt32 = 19 := by decide +kernel
theorem nc_bipush_48 : (Int8.ofInt 48).toInt32 = 48 := by decide +kernel
theorem nc_bipush_127 : (Int8.ofInt 127).toInt32 = 127 := by decide +kernel
theorem nc_iconst_5 : Int32.ofInt 5 = 5 := by decide +kernel
theorem nc_sipush_128 : (Int16.ofInt 128).toInt32 = 128 := by decide +kernel
theorem nc_sipush_144 : (Int16.ofInt 144).toInt32 = 144 := by decide +kernel
theorem nc_sipush_160 : (Int16.ofInt 160).toInt32 = 160 := by decide +kernel
theorem nc_sipush_192 : (Int16.ofInt 192).toInt32 = 192 := by decide +kernel
theorem nc_sipush_194 : (Int16.ofInt 194).toInt32 = 194 := by decide +kernel
theorem nc_sipush_224 : (Int16.ofInt 224).toInt32 = 224 := by decide +kernel
theorem nc_sipush_240 : (Int16.ofInt 240).toInt32 = 240 := by decide +kernel
theorem nc_sipush_244 : (Int16.ofInt 244).toInt32 = 244 := by decide +kernel
theorem tw_9 : (Jvm.Cond.initialized "SpanShelves$Form") ∈ tw := tw_t 9 (by decide +kernel) (by decide +kernel)
theorem tw_264 : (Jvm.Cond.instanceMethod ({ cls := "SpanShelves$Span", name := "behindName", desc := "(I)I" } : Jvm.MethodName)) ∈ tw := tw_t 264 (by decide +kernel) (by decide +kernel)
theorem tw_265 : (Jvm.Cond.selects "SpanShelves$Span" ({ cls := "SpanShelves$Span", name := "behindName", desc := "(I)I" } : Jvm.MethodName) ({ cls := "SpanShelves$Span", name := "behindName", desc := "(I)I" } : Jvm.MethodName)) ∈ tw := tw_t 265 (by decide +kernel) (by decide +kernel)
theorem tw_266 : (Jvm.Cond.code ({ cls := "SpanShelves$Span", name := "behindName", desc := "(I)I" } : Jvm.MethodName) prog_7_method_14_code (3 : Nat) (Option.some Jvm.ClassFile.FieldType.int)) ∈ tw := tw_t 266 (by decide +kernel) (by decide +kernel)
theorem tw_274 : (Jvm.Cond.methodLink "SpanShelves$Form" (9 : Nat) ({ cls := "SpanShelves$Span", name := "intAt", desc := "(I)I" } : Jvm.MethodName)) ∈ tw := tw_t 274 (by decide +kernel) (by decide +kernel)
theorem tw_275 : (Jvm.Cond.methodLink "SpanShelves$Form" (15 : Nat) ({ cls := "SpanShelves$Span", name := "behindName", desc := "(I)I" } : Jvm.MethodName)) ∈ tw := tw_t 275 (by decide +kernel) (by decide +kernel)
theorem tw_276 : (Jvm.Cond.methodLink "SpanShelves$Form" (18 : Nat) ({ cls := "SpanShelves$Form", name := "widthOf", desc := "(I)I" } : Jvm.MethodName)) ∈ tw := tw_t 276 (by decide +kernel) (by decide +kernel)
theorem tw_277 : (Jvm.Cond.static ({ cls := "SpanShelves$Form", name := "widthOf", desc := "(I)I" } : Jvm.MethodName)) ∈ tw := tw_t 277 (by decide +kernel) (by decide +kernel)
theorem tw_278 : (Jvm.Cond.code ({ cls := "SpanShelves$Form", name := "widthOf", desc := "(I)I" } : Jvm.MethodName) prog_3_method_5_code (1 : Nat) (Option.some Jvm.ClassFile.FieldType.int)) ∈ tw := tw_t 278 (by decide +kernel) (by decide +kernel)
theorem tw_375 : (Jvm.Cond.methodLink "SpanShelves$Form" (26 : Nat) ({ cls := "SpanShelves$Span", name := "at", desc := "(I)I" } : Jvm.MethodName)) ∈ tw := tw_t 375 (by decide +kernel) (by decide +kernel)
theorem tw_376 : (Jvm.Cond.methodLink "SpanShelves$Form" (29 : Nat) ({ cls := "SpanShelves$Form", name := "furtherBytes", desc := "(I)I" } : Jvm.MethodName)) ∈ tw := tw_t 376 (by decide +kernel) (by decide +kernel)
theorem tw_377 : (Jvm.Cond.static ({ cls := "SpanShelves$Form", name := "furtherBytes", desc := "(I)I" } : Jvm.MethodName)) ∈ tw := tw_t 377 (by decide +kernel) (by decide +kernel)
theorem tw_378 : (Jvm.Cond.code ({ cls := "SpanShelves$Form", name := "furtherBytes", desc := "(I)I" } : Jvm.MethodName) prog_3_method_11_code (1 : Nat) (Option.some Jvm.ClassFile.FieldType.int)) ∈ tw := tw_t 378 (by decide +kernel) (by decide +kernel)
theorem tw_379 : (Jvm.Cond.methodLink "SpanShelves$Form" (32 : Nat) ({ cls := "SpanShelves$Form", name := "isSign", desc := "(LSpanShelves$Span;II)Z" } : Jvm.MethodName)) ∈ tw := tw_t 379 (by decide +kernel) (by decide +kernel)
theorem tw_380 : (Jvm.Cond.static ({ cls := "SpanShelves$Form", name := "isSign", desc := "(LSpanShelves$Span;II)Z" } : Jvm.MethodName)) ∈ tw := tw_t 380 (by decide +kernel) (by decide +kernel)
theorem tw_381 : (Jvm.Cond.code ({ cls := "SpanShelves$Form", name := "isSign", desc := "(LSpanShelves$Span;II)Z" } : Jvm.MethodName) prog_3_method_12_code (4 : Nat) (Option.some Jvm.ClassFile.FieldType.boolean)) ∈ tw := tw_t 381 (by decide +kernel) (by decide +kernel)
theorem tw_389 : (Jvm.Cond.methodLink "SpanShelves$Form" (23 : Nat) ({ cls := "SpanShelves$Form", name := "digitsOf", desc := "(I)I" } : Jvm.MethodName)) ∈ tw := tw_t 389 (by decide +kernel) (by decide +kernel)
theorem tw_390 : (Jvm.Cond.static ({ cls := "SpanShelves$Form", name := "digitsOf", desc := "(I)I" } : Jvm.MethodName)) ∈ tw := tw_t 390 (by decide +kernel) (by decide +kernel)
theorem tw_391 : (Jvm.Cond.code ({ cls := "SpanShelves$Form", name := "digitsOf", desc := "(I)I" } : Jvm.MethodName) prog_3_method_8_code (4 : Nat) (Option.some Jvm.ClassFile.FieldType.int)) ∈ tw := tw_t 391 (by decide +kernel) (by decide +kernel)
theorem tw_812 : (Jvm.Cond.methodLink "SpanShelves$Span" (55 : Nat) ({ cls := "SpanShelves$Form", name := "digitsOf", desc := "(I)I" } : Jvm.MethodName)) ∈ tw := tw_t 812 (by decide +kernel) (by decide +kernel)
theorem mm_X1_digitsOf : MS yX1_digitsOf cX1_digitsOf 4 (some .int) 1 := ⟨tw_390, tw_391, tw_9, by decide +kernel, by decide +kernel, by decide +kernel⟩
theorem mm_X1_furtherBytes : MS yX1_furtherBytes cX1_furtherBytes 1 (some .int) 1 := ⟨tw_377, tw_378, tw_9, by decide +kernel, by decide +kernel, by decide +kernel⟩
theorem mm_X1_isSign : MS yX1_isSign cX1_isSign 4 (some .boolean) 3 := ⟨tw_380, tw_381, tw_9, by decide +kernel, by decide +kernel, by decide +kernel⟩
theorem mm_X1_widthOf : MS yX1_widthOf cX1_widthOf 1 (some .int) 1 := ⟨tw_277, tw_278, tw_9, by decide +kernel, by decide +kernel, by decide +kernel⟩
theorem mm_X5_behindName : MM 4 yX5_behindName cX5_behindName 3 (some .int) 1 := ⟨by decide, RX5, TX5, 3, rfl, tw_264, tw_265, tw_266, tw_2, by decide +kernel, by decide +kernel, by decide +kernel⟩
theorem dX1_isType_0 : decode cX1_isType 0 = .ok (.iload_n 0, 1) := by decide +kernel
theorem dX1_isType_1 : decode cX1_isType 1 = .ok (.iconst 1, 1) := by decide +kernel
theorem dX1_isType_2 : decode cX1_isType 2 = .ok (.if_icmp .lt 9, 3) := by decide +kernel
theorem dX1_isType_5 : decode cX1_isType 5 = .ok (.iload_n 0, 1) := by decide +kernel
theorem dX1_isType_6 : decode cX1_isType 6 = .ok (.bipush 19, 2) := by decide +kernel
theorem dX1_isType_8 : decode cX1_isType 8 = .ok (.if_icmp .le 16, 3) := by decide +kernel
theorem dX1_isType_11 : decode cX1_isType 11 = .ok (.iload_n 0, 1) := by decide +kernel
theorem dX1_isType_12 : decode cX1_isType 12 = .ok (.bipush 127, 2) := by decide +kernel
theorem dX1_isType_14 : decode cX1_isType 14 = .ok (.if_icmp .eq 10, 3) := by decide +kernel
theorem dX1_isType_17 : decode cX1_isType 17 = .ok (.iload_n 0, 1) := by decide +kernel
theorem dX1_isType_18 : decode cX1_isType 18 = .ok (.sipush 255, 3) := by decide +kernel
theorem dX1_isType_21 : decode cX1_isType 21 = .ok (.if_icmp .ne 7, 3) := by decide +kernel
theorem dX1_isType_24 : decode cX1_isType 24 = .ok (.iconst 1, 1) := by decide +kernel
theorem dX1_isType_25 : decode cX1_isType 25 = .ok (.goto 4, 3) := by decide +kernel
theorem dX1_isType_28 : decode cX1_isType 28 = .ok (.iconst 0, 1) := by decide +kernel
theorem dX1_isType_29 : decode cX1_isType 29 = .ok (.ireturn, 1) := by decide +kernel
abbrev rm_X1_isType : Room := { frames := 0, cells := 0, slots := 0, locals := 0 }
def f_X1_isType_L24 (cy : Nat → ClassId)  (μ : Mem) : Option (Int32 × Mem) :=
  some (1, μ)
set_option maxRecDepth 100000 in
set_option maxHeartbeats 4000000 in
theorem w_X1_isType_L24 {p : Program} {l : Launch} {e : Env} {s : State} {m : MethodId} {args : Array Value} {below : List Frame} {meth : Method} {c : Code} {A : Nat → Prop} {g : Wg} {L : List Nat} {r : Int32} {μ' : Mem} (hC : CX p m c cX1_isType 1 s args RX1) (hr : meth.sig.returnType = (some .boolean)) (hlocks : meth.locks = false) : ∀  (μ : Mem) (H : Heap) (locs : List Loc) (ls : Array Slot), lv_has ls 1 [] → PW g L μ A s H locs → f_X1_isType_L24 g.2  μ = some (r, μ') → W p l e rm_X1_isType s m args below meth c H locs 0 0 (MQ below (QI g L A r μ') args s 0 0 A) (F0 m 24 ls []) := by
  have hx := hC.1
  have hb := hC.2.1
  intro  μ H locs ls hl hw hf
  unfold f_X1_isType_L24 at hf
  refine lv_iconst (v := 1) hx hb dX1_isType_24 nc_iconst_1 ?_
  refine lv_goto (tgt := 29) hx hb dX1_isType_25 (by decide) ?_
  obtain ⟨rfl, rfl⟩ := o_ret hf
  exact pw_zret hC hr hlocks (Or.inr rfl) hw dX1_isType_29
def f_X1_isType_L11 (cy : Nat → ClassId) (a0 : Int32) (μ : Mem) : Option (Int32 × Mem) :=
  if a0 = 127 then (f_X1_isType_L24 cy  μ) else if a0 = 255 then (f_X1_isType_L24 cy  μ) else some (0, μ)
set_option maxRecDepth 100000 in
set_option maxHeartbeats 4000000 in
theorem w_X1_isType_L11 {p : Program} {l : Launch} {e : Env} {s : State} {m : MethodId} {args : Array Value} {below : List Frame} {meth : Method} {c : Code} {A : Nat → Prop} {g : Wg} {L : List Nat} {r : Int32} {μ' : Mem} (hC : CX p m c cX1_isType 1 s args RX1) (hr : meth.sig.returnType = (some .boolean)) (hlocks : meth.locks = false) : ∀ (a0 : Int32) (μ : Mem) (H : Heap) (locs : List Loc) (ls : Array Slot), lv_has ls 1 [(0, .int a0)] → PW g L μ A s H locs → f_X1_isType_L11 g.2 a0 μ = some (r, μ') → W p l e rm_X1_isType s m args below meth c H locs 0 0 (MQ below (QI g L A r μ') args s 0 0 A) (F0 m 11 ls []) := by
  have hx := hC.1
  have hb := hC.2.1
  intro a0 μ H locs ls hl hw hf
  unfold f_X1_isType_L11 at hf
  refine lv_iload_n hx hb dX1_isType_11 rfl (lv_at hl 0 rfl) ?_
  refine lv_bipush (v := 127) hx hb dX1_isType_12 nc_bipush_127 ?_
  refine lv_icmp_eq (tgt := 24) hx hb dX1_isType_14 (by decide) (fun c101 => ?_) (fun c101 => ?_)
  · have hf := o_pos c101 hf
    exact w_X1_isType_L24 hC hr hlocks  _ _ _ ls (lv_sub hl [] rfl) hw hf
  · have hf := o_neg c101 hf
    refine lv_iload_n hx hb dX1_isType_17 rfl (lv_at hl 0 rfl) ?_
    refine lv_sipush (v := 255) hx hb dX1_isType_18 nc_sipush_255 ?_
    refine lv_icmp_ne (tgt := 28) hx hb dX1_isType_21 (by decide) (fun c102 => ?_) (fun c102 => ?_)
    · have hf := o_neg c102 hf
      refine lv_iconst (v := 0) hx hb dX1_isType_28 nc_iconst_0 ?_
      obtain ⟨rfl, rfl⟩ := o_ret hf
      exact pw_zret hC hr hlocks (Or.inl rfl) hw dX1_isType_29
    · have hf := o_pos c102 hf
      exact w_X1_isType_L24 hC hr hlocks  _ _ _ ls (lv_sub hl [] rfl) hw hf
def f_X1_isType (cy : Nat → ClassId) (a0 : Int32) (μ : Mem) : Option (Int32 × Mem) :=
  if a0 < 1 then (f_X1_isType_L11 cy a0 μ) else if a0 ≤ 19 then (f_X1_isType_L24 cy  μ) else f_X1_isType_L11 cy a0 μ
set_option maxRecDepth 100000 in
set_option maxHeartbeats 4000000 in
theorem c_X1_isType {l : Launch} {g : Wg} {L : List Nat} {μ : Mem} {a0 : Int32} {r : Int32} {μ' : Mem} (hf : f_X1_isType g.2 a0 μ = some (r, μ')) : MetI l yX1_isType cX1_isType 1 (some .boolean) rm_X1_isType g L μ [.int a0] r μ' := by
  refine pw_met (Qc := fun A => QI g L A r μ') (by decide) (Nat.le_of_ble_eq_true rfl) ?_
  intro p e s m args below meth c A ls H locs hC hr hlocks hl hw
  have hx := hC.1
  have hb := hC.2.1
  have hl : lv_has ls 1 [(0, .int a0)] := hl
  unfold f_X1_isType at hf
  refine lv_iload_n hx hb dX1_isType_0 rfl (lv_at hl 0 rfl) ?_
  refine lv_iconst (v := 1) hx hb dX1_isType_1 nc_iconst_1 ?_
  refine lv_icmp_lt (tgt := 11) hx hb dX1_isType_2 (by decide) (fun c1 => ?_) (fun c1 => ?_)
  · have hf := o_pos c1 hf
    exact w_X1_isType_L11 hC hr hlocks _ _ _ _ ls (lv_sub hl [0] rfl) hw hf
  · have hf := o_neg c1 hf
    refine lv_iload_n hx hb dX1_isType_5 rfl (lv_at hl 0 rfl) ?_
    refine lv_bipush (v := 19) hx hb dX1_isType_6 nc_bipush_19 ?_
    refine lv_icmp_le (tgt := 24) hx hb dX1_isType_8 (by decide) (fun c2 => ?_) (fun c2 => ?_)
    · have hf := o_pos c2 hf
      exact w_X1_isType_L24 hC hr hlocks  _ _ _ ls (lv_sub hl [] rfl) hw hf
    · have hf := o_neg c2 hf
      exact w_X1_isType_L11 hC hr hlocks _ _ _ _ ls (lv_sub hl [0] rfl) hw hf
theorem dX1_hasDocument_0 : decode cX1_hasDocument 0 = .ok (.iload_n 0, 1) := by decide +kernel
theorem dX1_hasDocument_1 : decode cX1_hasDocument 1 = .ok (.iconst 3, 1) := by decide +kernel
theorem dX1_hasDocument_2 : decode cX1_hasDocument 2 = .ok (.if_icmp .eq 14, 3) := by decide +kernel
theorem dX1_hasDocument_5 : decode cX1_hasDocument 5 = .ok (.iload_n 0, 1) := by decide +kernel
theorem dX1_hasDocument_6 : decode cX1_hasDocument 6 = .ok (.iconst 4, 1) := by decide +kernel
theorem dX1_hasDocument_7 : decode cX1_hasDocument 7 = .ok (.if_icmp .eq 9, 3) := by decide +kernel
theorem dX1_hasDocument_10 : decode cX1_hasDocument 10 = .ok (.iload_n 0, 1) := by decide +kernel
theorem dX1_hasDocument_11 : decode cX1_hasDocument 11 = .ok (.bipush 15, 2) := by decide +kernel
theorem dX1_hasDocument_13 : decode cX1_hasDocument 13 = .ok (.if_icmp .ne 7, 3) := by decide +kernel
theorem dX1_hasDocument_16 : decode cX1_hasDocument 16 = .ok (.iconst 1, 1) := by decide +kernel
theorem dX1_hasDocument_17 : decode cX1_hasDocument 17 = .ok (.goto 4, 3) := by decide +kernel
theorem dX1_hasDocument_20 : decode cX1_hasDocument 20 = .ok (.iconst 0, 1) := by decide +kernel
theorem dX1_hasDocument_21 : decode cX1_hasDocument 21 = .ok (.ireturn, 1) := by decide +kernel
abbrev rm_X1_hasDocument : Room := { frames := 0, cells := 0, slots := 0, locals := 0 }
def f_X1_hasDocument_L16 (cy : Nat → ClassId)  (μ : Mem) : Option (Int32 × Mem) :=
  some (1, μ)
set_option maxRecDepth 100000 in
set_option maxHeartbeats 4000000 in
theorem w_X1_hasDocument_L16 {p : Program} {l : Launch} {e : Env} {s : State} {m : MethodId} {args : Array Value} {below : List Frame} {meth : Method} {c : Code} {A : Nat → Prop} {g : Wg} {L : List Nat} {r : Int32} {μ' : Mem} (hC : CX p m c cX1_hasDocument 1 s args RX1) (hr : meth.sig.returnType = (some .boolean)) (hlocks : meth.locks = false) : ∀  (μ : Mem) (H : Heap) (locs : List Loc) (ls : Array Slot), lv_has ls 1 [] → PW g L μ A s H locs → f_X1_hasDocument_L16 g.2  μ = some (r, μ') → W p l e rm_X1_hasDocument s m args below meth c H locs 0 0 (MQ below (QI g L A r μ') args s 0 0 A) (F0 m 16 ls []) := by
  have hx := hC.1
  have hb := hC.2.1
  intro  μ H locs ls hl hw hf
  unfold f_X1_hasDocument_L16 at hf
  refine lv_iconst (v := 1) hx hb dX1_hasDocument_16 nc_iconst_1 ?_
  refine lv_goto (tgt := 21) hx hb dX1_hasDocument_17 (by decide) ?_
  obtain ⟨rfl, rfl⟩ := o_ret hf
  exact pw_zret hC hr hlocks (Or.inr rfl) hw dX1_hasDocument_21
def f_X1_hasDocument (cy : Nat → ClassId) (a0 : Int32) (μ : Mem) : Option (Int32 × Mem) :=
  if a0 = 3 then (f_X1_hasDocument_L16 cy  μ) else if a0 = 4 then (f_X1_hasDocument_L16 cy  μ) else if a0 = 15 then (f_X1_hasDocument_L16 cy  μ) else some (0, μ)
set_option maxRecDepth 100000 in
set_option maxHeartbeats 4000000 in
theorem c_X1_hasDocument {l : Launch} {g : Wg} {L : List Nat} {μ : Mem} {a0 : Int32} {r : Int32} {μ' : Mem} (hf : f_X1_hasDocument g.2 a0 μ = some (r, μ')) : MetI l yX1_hasDocument cX1_hasDocument 1 (some .boolean) rm_X1_hasDocument g L μ [.int a0] r μ' := by
  refine pw_met (Qc := fun A => QI g L A r μ') (by decide) (Nat.le_of_ble_eq_true rfl) ?_
  intro p e s m args below meth c A ls H locs hC hr hlocks hl hw
  have hx := hC.1
  have hb := hC.2.1
  have hl : lv_has ls 1 [(0, .int a0)] := hl
  unfold f_X1_hasDocument at hf
  refine lv_iload_n hx hb dX1_hasDocument_0 rfl (lv_at hl 0 rfl) ?_
  refine lv_iconst (v := 3) hx hb dX1_hasDocument_1 nc_iconst_3 ?_
  refine lv_icmp_eq (tgt := 16) hx hb dX1_hasDocument_2 (by decide) (fun c1 => ?_) (fun c1 => ?_)
  · have hf := o_pos c1 hf
    exact w_X1_hasDocument_L16 hC hr hlocks  _ _ _ ls (lv_sub hl [] rfl) hw hf
  · have hf := o_neg c1 hf
    refine lv_iload_n hx hb dX1_hasDocument_5 rfl (lv_at hl 0 rfl) ?_
    refine lv_iconst (v := 4) hx hb dX1_hasDocument_6 nc_iconst_4 ?_
    refine lv_icmp_eq (tgt := 16) hx hb dX1_hasDocument_7 (by decide) (fun c2 => ?_) (fun c2 => ?_)
    · have hf := o_pos c2 hf
      exact w_X1_hasDocument_L16 hC hr hlocks  _ _ _ ls (lv_sub hl [] rfl) hw hf
    · have hf := o_neg c2 hf
      refine lv_iload_n hx hb dX1_hasDocument_10 rfl (lv_at hl 0 rfl) ?_
      refine lv_bipush (v := 15) hx hb dX1_hasDocument_11 nc_bipush_15 ?_
      refine lv_icmp_ne (tgt := 20) hx hb dX1_hasDocument_13 (by decide) (fun c3 => ?_) (fun c3 => ?_)
      · have hf := o_neg c3 hf
        refine lv_iconst (v := 0) hx hb dX1_hasDocument_20 nc_iconst_0 ?_
        obtain ⟨rfl, rfl⟩ := o_ret hf
        exact pw_zret hC hr hlocks (Or.inl rfl) hw dX1_hasDocument_21
      · have hf := o_pos c3 hf
        exact w_X1_hasDocument_L16 hC hr hlocks  _ _ _ ls (lv_sub hl [] rfl) hw hf
theorem dX1_isNumber_0 : decode cX1_isNumber 0 = .ok (.iload_n 0, 1) := by decide +kernel
theorem dX1_isNumber_1 : decode cX1_isNumber 1 = .ok (.iconst 1, 1) := by decide +kernel
theorem dX1_isNumber_2 : decode cX1_isNumber 2 = .ok (.if_icmp .eq 27, 3) := by decide +kernel
theorem dX1_isNumber_5 : decode cX1_isNumber 5 = .ok (.iload_n 0, 1) := by decide +kernel
theorem dX1_isNumber_6 : decode cX1_isNumber 6 = .ok (.bipush 8, 2) := by decide +kernel
theorem dX1_isNumber_8 : decode cX1_isNumber 8 = .ok (.if_icmp .eq 21, 3) := by decide +kernel
theorem dX1_isNumber_11 : decode cX1_isNumber 11 = .ok (.iload_n 0, 1) := by decide +kernel
theorem dX1_isNumber_12 : decode cX1_isNumber 12 = .ok (.bipush 9, 2) := by decide +kernel
theorem dX1_isNumber_14 : decode cX1_isNumber 14 = .ok (.if_icmp .eq 15, 3) := by decide +kernel
theorem dX1_isNumber_17 : decode cX1_isNumber 17 = .ok (.iload_n 0, 1) := by decide +kernel
theorem dX1_isNumber_18 : decode cX1_isNumber 18 = .ok (.bipush 16, 2) := by decide +kernel
theorem dX1_isNumber_20 : decode cX1_isNumber 20 = .ok (.if_icmp .lt 13, 3) := by decide +kernel
theorem dX1_isNumber_23 : decode cX1_isNumber 23 = .ok (.iload_n 0, 1) := by decide +kernel
theorem dX1_isNumber_24 : decode cX1_isNumber 24 = .ok (.bipush 18, 2) := by decide +kernel
theorem dX1_isNumber_26 : decode cX1_isNumber 26 = .ok (.if_icmp .gt 7, 3) := by decide +kernel
theorem dX1_isNumber_29 : decode cX1_isNumber 29 = .ok (.iconst 1, 1) := by decide +kernel
theorem dX1_isNumber_30 : decode cX1_isNumber 30 = .ok (.goto 4, 3) := by decide +kernel
theorem dX1_isNumber_33 : decode cX1_isNumber 33 = .ok (.iconst 0, 1) := by decide +kernel
theorem dX1_isNumber_34 : decode cX1_isNumber 34 = .ok (.ireturn, 1) := by decide +kernel
abbrev rm_X1_isNumber : Room := { frames := 0, cells := 0, slots := 0, locals := 0 }
def f_X1_isNumber_L29 (cy : Nat → ClassId)  (μ : Mem) : Option (Int32 × Mem) :=
  some (1, μ)
set_option maxRecDepth 100000 in
set_option maxHeartbeats 4000000 in
theorem w_X1_isNumber_L29 {p : Program} {l : Launch} {e : Env} {s : State} {m : MethodId} {args : Array Value} {below : List Frame} {meth : Method} {c : Code} {A : Nat → Prop} {g : Wg} {L : List Nat} {r : Int32} {μ' : Mem} (hC : CX p m c cX1_isNumber 1 s args RX1) (hr : meth.sig.returnType = (some .boolean)) (hlocks : meth.locks = false) : ∀  (μ : Mem) (H : Heap) (locs : List Loc) (ls : Array Slot), lv_has ls 1 [] → PW g L μ A s H locs → f_X1_isNumber_L29 g.2  μ = some (r, μ') → W p l e rm_X1_isNumber s m args below meth c H locs 0 0 (MQ below (QI g L A r μ') args s 0 0 A) (F0 m 29 ls []) := by
  have hx := hC.1
  have hb := hC.2.1
  intro  μ H locs ls hl hw hf
  unfold f_X1_isNumber_L29 at hf
  refine lv_iconst (v := 1) hx hb dX1_isNumber_29 nc_iconst_1 ?_
  refine lv_goto (tgt := 34) hx hb dX1_isNumber_30 (by decide) ?_
  obtain ⟨rfl, rfl⟩ := o_ret hf
  exact pw_zret hC hr hlocks (Or.inr rfl) hw dX1_isNumber_34
def f_X1_isNumber_L33 (cy : Nat → ClassId)  (μ : Mem) : Option (Int32 × Mem) :=
  some (0, μ)
set_option maxRecDepth 100000 in
set_option maxHeartbeats 4000000 in
theorem w_X1_isNumber_L33 {p : Program} {l : Launch} {e : Env} {s : State} {m : MethodId} {args : Array Value} {below : List Frame} {meth : Method} {c : Code} {A : Nat → Prop} {g : Wg} {L : List Nat} {r : Int32} {μ' : Mem} (hC : CX p m c cX1_isNumber 1 s args RX1) (hr : meth.sig.returnType = (some .boolean)) (hlocks : meth.locks = false) : ∀  (μ : Mem) (H : Heap) (locs : List Loc) (ls : Array Slot), lv_has ls 1 [] → PW g L μ A s H locs → f_X1_isNumber_L33 g.2  μ = some (r, μ') → W p l e rm_X1_isNumber s m args below meth c H locs 0 0 (MQ below (QI g L A r μ') args s 0 0 A) (F0 m 33 ls []) := by
  have hx := hC.1
  have hb := hC.2.1
  intro  μ H locs ls hl hw hf
  unfold f_X1_isNumber_L33 at hf
  refine lv_iconst (v := 0) hx hb dX1_isNumber_33 nc_iconst_0 ?_
  obtain ⟨rfl, rfl⟩ := o_ret hf
  exact pw_zret hC hr hlocks (Or.inl rfl) hw dX1_isNumber_34
def f_X1_isNumber (cy : Nat → ClassId) (a0 : Int32) (μ : Mem) : Option (Int32 × Mem) :=
  if a0 = 1 then (f_X1_isNumber_L29 cy  μ) else if a0 = 8 then (f_X1_isNumber_L29 cy  μ) else if a0 = 9 then (f_X1_isNumber_L29 cy  μ) else if a0 < 16 then (f_X1_isNumber_L33 cy  μ) else if 18 < a0 then (f_X1_isNumber_L33 cy  μ) else f_X1_isNumber_L29 cy  μ
set_option maxRecDepth 100000 in
set_option maxHeartbeats 4000000 in
theorem c_X1_isNumber {l : Launch} {g : Wg} {L : List Nat} {μ : Mem} {a0 : Int32} {r : Int32} {μ' : Mem} (hf : f_X1_isNumber g.2 a0 μ = some (r, μ')) : MetI l yX1_isNumber cX1_isNumber 1 (some .boolean) rm_X1_isNumber g L μ [.int a0] r μ' := by
  refine pw_met (Qc := fun A => QI g L A r μ') (by decide) (Nat.le_of_ble_eq_true rfl) ?_
  intro p e s m args below meth c A ls H locs hC hr hlocks hl hw
  have hx := hC.1
  have hb := hC.2.1
  have hl : lv_has ls 1 [(0, .int a0)] := hl
  unfold f_X1_isNumber at hf
  refine lv_iload_n hx hb dX1_isNumber_0 rfl (lv_at hl 0 rfl) ?_
  refine lv_iconst (v := 1) hx hb dX1_isNumber_1 nc_iconst_1 ?_
  refine lv_icmp_eq (tgt := 29) hx hb dX1_isNumber_2 (by decide) (fun c1 => ?_) (fun c1 => ?_)
  · have hf := o_pos c1 hf
    exact w_X1_isNumber_L29 hC hr hlocks  _ _ _ ls (lv_sub hl [] rfl) hw hf
  · have hf := o_neg c1 hf
    refine lv_iload_n hx hb dX1_isNumber_5 rfl (lv_at hl 0 rfl) ?_
    refine lv_bipush (v := 8) hx hb dX1_isNumber_6 nc_bipush_8 ?_
    refine lv_icmp_eq (tgt := 29) hx hb dX1_isNumber_8 (by decide) (fun c2 => ?_) (fun c2 => ?_)
    · have hf := o_pos c2 hf
      exact w_X1_isNumber_L29 hC hr hlocks  _ _ _ ls (lv_sub hl [] rfl) hw hf
    · have hf := o_neg c2 hf
      refine lv_iload_n hx hb dX1_isNumber_11 rfl (lv_at hl 0 rfl) ?_
      refine lv_bipush (v := 9) hx hb dX1_isNumber_12 nc_bipush_9 ?_
      refine lv_icmp_eq (tgt := 29) hx hb dX1_isNumber_14 (by decide) (fun c3 => ?_) (fun c3 => ?_)
      · have hf := o_pos c3 hf
        exact w_X1_isNumber_L29 hC hr hlocks  _ _ _ ls (lv_sub hl [] rfl) hw hf
      · have hf := o_neg c3 hf
        refine lv_iload_n hx hb dX1_isNumber_17 rfl (lv_at hl 0 rfl) ?_
        refine lv_bipush (v := 16) hx hb dX1_isNumber_18 nc_bipush_16 ?_
        refine lv_icmp_lt (tgt := 33) hx hb dX1_isNumber_20 (by decide) (fun c4 => ?_) (fun c4 => ?_)
        · have hf := o_pos c4 hf
          exact w_X1_isNumber_L33 hC hr hlocks  _ _ _ ls (lv_sub hl [] rfl) hw hf
        · have hf := o_neg c4 hf
          refine lv_iload_n hx hb dX1_isNumber_23 rfl (lv_at hl 0 rfl) ?_
          refine lv_bipush (v := 18) hx hb dX1_isNumber_24 nc_bipush_18 ?_
          refine lv_icmp_gt (tgt := 33) hx hb dX1_isNumber_26 (by decide) (fun c5 => ?_) (fun c5 => ?_)
          · have hf := o_pos c5 hf
            exact w_X1_isNumber_L33 hC hr hlocks  _ _ _ ls (lv_sub hl [] rfl) hw hf
          · have hf := o_neg c5 hf
            exact w_X1_isNumber_L29 hC hr hlocks  _ _ _ ls (lv_sub hl [] rfl) hw hf
theorem dX1_widthOf_0 : decode cX1_widthOf 0 = .ok (.iload_n 0, 1) := by decide +kernel
theorem dX1_widthOf_1 : decode cX1_widthOf 1 = .ok (.tableswitch 104 1 19 #[91, 104, 104, 104, 104, 104, 94, 97, 91, 104, 104, 104, 104, 104, 104, 99, 91, 91, 101], 91) := by decide +kernel
theorem dX1_widthOf_92 : decode cX1_widthOf 92 = .ok (.bipush 8, 2) := by decide +kernel
theorem dX1_widthOf_94 : decode cX1_widthOf 94 = .ok (.ireturn, 1) := by decide +kernel
theorem dX1_widthOf_95 : decode cX1_widthOf 95 = .ok (.bipush 12, 2) := by decide +kernel
theorem dX1_widthOf_97 : decode cX1_widthOf 97 = .ok (.ireturn, 1) := by decide +kernel
theorem dX1_widthOf_98 : decode cX1_widthOf 98 = .ok (.iconst 1, 1) := by decide +kernel
theorem dX1_widthOf_99 : decode cX1_widthOf 99 = .ok (.ireturn, 1) := by decide +kernel
theorem dX1_widthOf_100 : decode cX1_widthOf 100 = .ok (.iconst 4, 1) := by decide +kernel
theorem dX1_widthOf_101 : decode cX1_widthOf 101 = .ok (.ireturn, 1) := by decide +kernel
theorem dX1_widthOf_102 : decode cX1_widthOf 102 = .ok (.bipush 16, 2) := by decide +kernel
theorem dX1_widthOf_104 : decode cX1_widthOf 104 = .ok (.ireturn, 1) := by decide +kernel
theorem dX1_widthOf_105 : decode cX1_widthOf 105 = .ok (.iconst 0, 1) := by decide +kernel
theorem dX1_widthOf_106 : decode cX1_widthOf 106 = .ok (.ireturn, 1) := by decide +kernel
abbrev rm_X1_widthOf : Room := { frames := 0, cells := 0, slots := 0, locals := 0 }
def f_X1_widthOf (cy : Nat → ClassId) (a0 : Int32) (μ : Mem) : Option (Int32 × Mem) :=
  if Int32.toInt a0 < 1 ∨ 19 < Int32.toInt a0 then (some (0, μ)) else if a0 = 1 ∨ a0 = 9 ∨ a0 = 17 ∨ a0 = 18 then (some (8, μ)) else if a0 = 2 ∨ a0 = 3 ∨ a0 = 4 ∨ a0 = 5 ∨ a0 = 6 ∨ a0 = 10 ∨ a0 = 11 ∨ a0 = 12 ∨ a0 = 13 ∨ a0 = 14 ∨ a0 = 15 then (some (0, μ)) else if a0 = 7 then (some (12, μ)) else if a0 = 8 then (some (1, μ)) else if a0 = 16 then (some (4, μ)) else if a0 = 19 then (some (16, μ)) else none
set_option maxRecDepth 100000 in
set_option maxHeartbeats 4000000 in
theorem c_X1_widthOf {l : Launch} {g : Wg} {L : List Nat} {μ : Mem} {a0 : Int32} {r : Int32} {μ' : Mem} (hf : f_X1_widthOf g.2 a0 μ = some (r, μ')) : MetI l yX1_widthOf cX1_widthOf 1 (some .int) rm_X1_widthOf g L μ [.int a0] r μ' := by
  refine pw_met (Qc := fun A => QI g L A r μ') (by decide) (Nat.le_of_ble_eq_true rfl) ?_
  intro p e s m args below meth c A ls H locs hC hr hlocks hl hw
  have hx := hC.1
  have hb := hC.2.1
  have hl : lv_has ls 1 [(0, .int a0)] := hl
  unfold f_X1_widthOf at hf
  refine lv_iload_n hx hb dX1_widthOf_0 rfl (lv_at hl 0 rfl) ?_
  rcases o_if hf with ⟨c1, hf⟩ | ⟨c1, hf⟩
  · refine lv_tableOut (tgt := 105) hx hb dX1_widthOf_1 c1 (by decide) ?_
    refine lv_iconst (v := 0) hx hb dX1_widthOf_105 nc_iconst_0 ?_
    obtain ⟨rfl, rfl⟩ := o_ret hf
    exact pw_iret hC hr hlocks hw dX1_widthOf_106
  · rcases o_if hf with ⟨c2, hf⟩ | ⟨-, hf⟩
    · have hj : W p l e rm_X1_widthOf s m args below meth c H locs 0 0 (MQ below (QI g L A r μ') args s 0 0 A) (F0 m 92 ls []) := by
        refine lv_bipush (v := 8) hx hb dX1_widthOf_92 nc_bipush_8 ?_
        obtain ⟨rfl, rfl⟩ := o_ret hf
        exact pw_iret hC hr hlocks hw dX1_widthOf_94
      rcases c2 with c2 | c2 | c2 | c2
      · exact lv_tableIn (tgt := 92) hx hb dX1_widthOf_1 (by rw [c2]; decide) (by rw [c2]; decide) (by rw [c2]; rfl) (by decide) hj
      · exact lv_tableIn (tgt := 92) hx hb dX1_widthOf_1 (by rw [c2]; decide) (by rw [c2]; decide) (by rw [c2]; rfl) (by decide) hj
      · exact lv_tableIn (tgt := 92) hx hb dX1_widthOf_1 (by rw [c2]; decide) (by rw [c2]; decide) (by rw [c2]; rfl) (by decide) hj
      · exact lv_tableIn (tgt := 92) hx hb dX1_widthOf_1 (by rw [c2]; decide) (by rw [c2]; decide) (by rw [c2]; rfl) (by decide) hj
    · rcases o_if hf with ⟨c3, hf⟩ | ⟨-, hf⟩
      · have hj : W p l e rm_X1_widthOf s m args below meth c H locs 0 0 (MQ below (QI g L A r μ') args s 0 0 A) (F0 m 105 ls []) := by
          refine lv_iconst (v := 0) hx hb dX1_widthOf_105 nc_iconst_0 ?_
          obtain ⟨rfl, rfl⟩ := o_ret hf
          exact pw_iret hC hr hlocks hw dX1_widthOf_106
        rcases c3 with c3 | c3 | c3 | c3 | c3 | c3 | c3 | c3 | c3 | c3 | c3
        · exact lv_tableIn (tgt := 105) hx hb dX1_widthOf_1 (by rw [c3]; decide) (by rw [c3]; decide) (by rw [c3]; rfl) (by decide) hj
        · exact lv_tableIn (tgt := 105) hx hb dX1_widthOf_1 (by rw [c3]; decide) (by rw [c3]; decide) (by rw [c3]; rfl) (by decide) hj
        · exact lv_tableIn (tgt := 105) hx hb dX1_widthOf_1 (by rw [c3]; decide) (by rw [c3]; decide) (by rw [c3]; rfl) (by decide) hj
        · exact lv_tableIn (tgt := 105) hx hb dX1_widthOf_1 (by rw [c3]; decide) (by rw [c3]; decide) (by rw [c3]; rfl) (by decide) hj
        · exact lv_tableIn (tgt := 105) hx hb dX1_widthOf_1 (by rw [c3]; decide) (by rw [c3]; decide) (by rw [c3]; rfl) (by decide) hj
        · exact lv_tableIn (tgt := 105) hx hb dX1_widthOf_1 (by rw [c3]; decide) (by rw [c3]; decide) (by rw [c3]; rfl) (by decide) hj
        · exact lv_tableIn (tgt := 105) hx hb dX1_widthOf_1 (by rw [c3]; decide) (by rw [c3]; decide) (by rw [c3]; rfl) (by decide) hj
        · exact lv_tableIn (tgt := 105) hx hb dX1_widthOf_1 (by rw [c3]; decide) (by rw [c3]; decide) (by rw [c3]; rfl) (by decide) hj
        · exact lv_tableIn (tgt := 105) hx hb dX1_widthOf_1 (by rw [c3]; decide) (by rw [c3]; decide) (by rw [c3]; rfl) (by decide) hj
        · exact lv_tableIn (tgt := 105) hx hb dX1_widthOf_1 (by rw [c3]; decide) (by rw [c3]; decide) (by rw [c3]; rfl) (by decide) hj
        · exact lv_tableIn (tgt := 105) hx hb dX1_widthOf_1 (by rw [c3]; decide) (by rw [c3]; decide) (by rw [c3]; rfl) (by decide) hj
      · rcases o_if hf with ⟨c4, hf⟩ | ⟨-, hf⟩
        · refine lv_tableIn (tgt := 95) hx hb dX1_widthOf_1 (by rw [c4]; decide) (by rw [c4]; decide) (by rw [c4]; rfl) (by decide) ?_
          refine lv_bipush (v := 12) hx hb dX1_widthOf_95 nc_bipush_12 ?_
          obtain ⟨rfl, rfl⟩ := o_ret hf
          exact pw_iret hC hr hlocks hw dX1_widthOf_97
        · rcases o_if hf with ⟨c5, hf⟩ | ⟨-, hf⟩
          · refine lv_tableIn (tgt := 98) hx hb dX1_widthOf_1 (by rw [c5]; decide) (by rw [c5]; decide) (by rw [c5]; rfl) (by decide) ?_
            refine lv_iconst (v := 1) hx hb dX1_widthOf_98 nc_iconst_1 ?_
            obtain ⟨rfl, rfl⟩ := o_ret hf
            exact pw_iret hC hr hlocks hw dX1_widthOf_99
          · rcases o_if hf with ⟨c6, hf⟩ | ⟨-, hf⟩
            · refine lv_tableIn (tgt := 100) hx hb dX1_widthOf_1 (by rw [c6]; decide) (by rw [c6]; decide) (by rw [c6]; rfl) (by decide) ?_
              refine lv_iconst (v := 4) hx hb dX1_widthOf_100 nc_iconst_4 ?_
              obtain ⟨rfl, rfl⟩ := o_ret hf
              exact pw_iret hC hr hlocks hw dX1_widthOf_101
            · rcases o_if hf with ⟨c7, hf⟩ | ⟨-, hf⟩
              · refine lv_tableIn (tgt := 102) hx hb dX1_widthOf_1 (by rw [c7]; decide) (by rw [c7]; decide) (by rw [c7]; rfl) (by decide) ?_
                refine lv_bipush (v := 16) hx hb dX1_widthOf_102 nc_bipush_16 ?_
                obtain ⟨rfl, rfl⟩ := o_ret hf
                exact pw_iret hC hr hlocks hw dX1_widthOf_104
              · cases hf
theorem dX1_behindValue_0 : decode cX1_behindValue 0 = .ok (.iload_n 1, 1) := by decide +kernel
theorem dX1_behindValue_1 : decode cX1_behindValue 1 = .ok (.tableswitch 120 2 15 #[71, 81, 81, 89, 120, 120, 120, 120, 120, 99, 109, 71, 71, 81], 71) := by decide +kernel
theorem dX1_behindValue_72 : decode cX1_behindValue 72 = .ok (.iload_n 2, 1) := by decide +kernel
theorem dX1_behindValue_73 : decode cX1_behindValue 73 = .ok (.iconst 4, 1) := by decide +kernel
theorem dX1_behindValue_74 : decode cX1_behindValue 74 = .ok (.iadd, 1) := by decide +kernel
theorem dX1_behindValue_75 : decode cX1_behindValue 75 = .ok (.aload_n 0, 1) := by decide +kernel
theorem dX1_behindValue_76 : decode cX1_behindValue 76 = .ok (.iload_n 2, 1) := by decide +kernel
theorem dX1_behindValue_77 : decode cX1_behindValue 77 = .ok (.invokevirtual 9, 3) := by decide +kernel
theorem dX1_behindValue_80 : decode cX1_behindValue 80 = .ok (.iadd, 1) := by decide +kernel
theorem dX1_behindValue_81 : decode cX1_behindValue 81 = .ok (.ireturn, 1) := by decide +kernel
theorem dX1_behindValue_82 : decode cX1_behindValue 82 = .ok (.iload_n 2, 1) := by decide +kernel
theorem dX1_behindValue_83 : decode cX1_behindValue 83 = .ok (.aload_n 0, 1) := by decide +kernel
theorem dX1_behindValue_84 : decode cX1_behindValue 84 = .ok (.iload_n 2, 1) := by decide +kernel
theorem dX1_behindValue_85 : decode cX1_behindValue 85 = .ok (.invokevirtual 9, 3) := by decide +kernel
theorem dX1_behindValue_88 : decode cX1_behindValue 88 = .ok (.iadd, 1) := by decide +kernel
theorem dX1_behindValue_89 : decode cX1_behindValue 89 = .ok (.ireturn, 1) := by decide +kernel
theorem dX1_behindValue_90 : decode cX1_behindValue 90 = .ok (.iload_n 2, 1) := by decide +kernel
theorem dX1_behindValue_91 : decode cX1_behindValue 91 = .ok (.iconst 5, 1) := by decide +kernel
theorem dX1_behindValue_92 : decode cX1_behindValue 92 = .ok (.iadd, 1) := by decide +kernel
theorem dX1_behindValue_93 : decode cX1_behindValue 93 = .ok (.aload_n 0, 1) := by decide +kernel
theorem dX1_behindValue_94 : decode cX1_behindValue 94 = .ok (.iload_n 2, 1) := by decide +kernel
theorem dX1_behindValue_95 : decode cX1_behindValue 95 = .ok (.invokevirtual 9, 3) := by decide +kernel
theorem dX1_behindValue_98 : decode cX1_behindValue 98 = .ok (.iadd, 1) := by decide +kernel
theorem dX1_behindValue_99 : decode cX1_behindValue 99 = .ok (.ireturn, 1) := by decide +kernel
theorem dX1_behindValue_100 : decode cX1_behindValue 100 = .ok (.aload_n 0, 1) := by decide +kernel
theorem dX1_behindValue_101 : decode cX1_behindValue 101 = .ok (.aload_n 0, 1) := by decide +kernel
theorem dX1_behindValue_102 : decode cX1_behindValue 102 = .ok (.iload_n 2, 1) := by decide +kernel
theorem dX1_behindValue_103 : decode cX1_behindValue 103 = .ok (.invokevirtual 15, 3) := by decide +kernel
theorem dX1_behindValue_106 : decode cX1_behindValue 106 = .ok (.invokevirtual 15, 3) := by decide +kernel
theorem dX1_behindValue_109 : decode cX1_behindValue 109 = .ok (.ireturn, 1) := by decide +kernel
theorem dX1_behindValue_110 : decode cX1_behindValue 110 = .ok (.iload_n 2, 1) := by decide +kernel
theorem dX1_behindValue_111 : decode cX1_behindValue 111 = .ok (.bipush 16, 2) := by decide +kernel
theorem dX1_behindValue_113 : decode cX1_behindValue 113 = .ok (.iadd, 1) := by decide +kernel
theorem dX1_behindValue_114 : decode cX1_behindValue 114 = .ok (.aload_n 0, 1) := by decide +kernel
theorem dX1_behindValue_115 : decode cX1_behindValue 115 = .ok (.iload_n 2, 1) := by decide +kernel
theorem dX1_behindValue_116 : decode cX1_behindValue 116 = .ok (.invokevirtual 9, 3) := by decide +kernel
theorem dX1_behindValue_119 : decode cX1_behindValue 119 = .ok (.iadd, 1) := by decide +kernel
theorem dX1_behindValue_120 : decode cX1_behindValue 120 = .ok (.ireturn, 1) := by decide +kernel
theorem dX1_behindValue_121 : decode cX1_behindValue 121 = .ok (.iload_n 2, 1) := by decide +kernel
theorem dX1_behindValue_122 : decode cX1_behindValue 122 = .ok (.iload_n 1, 1) := by decide +kernel
theorem dX1_behindValue_123 : decode cX1_behindValue 123 = .ok (.invokestatic 18, 3) := by decide +kernel
theorem dX1_behindValue_126 : decode cX1_behindValue 126 = .ok (.iadd, 1) := by decide +kernel
theorem dX1_behindValue_127 : decode cX1_behindValue 127 = .ok (.ireturn, 1) := by decide +kernel
abbrev rm_X1_behindValue : Room := { frames := 2, cells := 0, slots := 0, locals := 45 }
def f_X1_behindValue (cy : Nat → ClassId) (a0 : Nat) (a1 : Int32) (a2 : Int32) (μ : Mem) : Option (Int32 × Mem) :=
  if Int32.toInt a1 < 2 ∨ 15 < Int32.toInt a1 then (ob2 (f_X1_widthOf cy a1 μ) fun r4 μ3 => some ((a2 + r4), μ3)) else if a1 = 2 ∨ a1 = 13 ∨ a1 = 14 then (if isO μ a0 4 = true then (ob2 (f_X5_intAt cy a0 a2 μ) fun r9 μ8 => some (((a2 + 4) + r9), μ8)) else none) else if a1 = 3 ∨ a1 = 4 ∨ a1 = 15 then (if isO μ a0 4 = true then (ob2 (f_X5_intAt cy a0 a2 μ) fun r14 μ13 => some ((a2 + r14), μ13)) else none) else if a1 = 5 then (if isO μ a0 4 = true then (ob2 (f_X5_intAt cy a0 a2 μ) fun r19 μ18 => some (((a2 + 5) + r19), μ18)) else none) else if a1 = 6 ∨ a1 = 7 ∨ a1 = 8 ∨ a1 = 9 ∨ a1 = 10 then (ob2 (f_X1_widthOf cy a1 μ) fun r23 μ22 => some ((a2 + r23), μ22)) else if a1 = 11 then (if isO μ a0 4 = true then (ob2 (f_X5_behindName cy a0 a2 μ) fun r28 μ27 => if isO μ27 a0 4 = true then (ob2 (f_X5_behindName cy a0 r28 μ27) fun r32 μ31 => some (r32, μ31)) else none) else none) else if a1 = 12 then (if isO μ a0 4 = true then (ob2 (f_X5_intAt cy a0 a2 μ) fun r37 μ36 => some (((a2 + 16) + r37), μ36)) else none) else none
set_option maxRecDepth 100000 in
set_option maxHeartbeats 4000000 in
theorem c_X1_behindValue {l : Launch} {g : Wg} {L : List Nat} {μ : Mem} {a0 : Nat} {a1 : Int32} {a2 : Int32} {r : Int32} {μ' : Mem} (hf : f_X1_behindValue g.2 a0 a1 a2 μ = some (r, μ')) : MetI l yX1_behindValue cX1_behindValue 3 (some .int) rm_X1_behindValue g L μ [.ref a0, .int a1, .int a2] r μ' := by
  refine pw_met (Qc := fun A => QI g L A r μ') (by decide) (Nat.le_of_ble_eq_true rfl) ?_
  intro p e s m args below meth c A ls H locs hC hr hlocks hl hw
  have hx := hC.1
  have hb := hC.2.1
  have hl : lv_has ls 3 [(0, .ref a0), (1, .int a1), (2, .int a2)] := hl
  unfold f_X1_behindValue at hf
  refine lv_iload_n hx hb dX1_behindValue_0 rfl (lv_at hl 1 rfl) ?_
  rcases o_if hf with ⟨c1, hf⟩ | ⟨c1, hf⟩
  · refine lv_tableOut (tgt := 121) hx hb dX1_behindValue_1 c1 (by decide) ?_
    refine lv_iload_n hx hb dX1_behindValue_121 rfl (lv_at hl 2 rfl) ?_
    refine lv_iload_n hx hb dX1_behindValue_122 rfl (lv_at hl 1 rfl) ?_
    obtain ⟨r4, μ3, h2, hf⟩ := o_bind2 hf
    refine pw_goI hw (pw_runS (As := [.int a1]) (rest := [.int a2]) hC mm_X1_widthOf tw_276 (c_X1_widthOf h2 _) ⟨rfl, rfl, by decide, by decide⟩ hw rfl hl.1 (Nat.le_of_ble_eq_true rfl) ⟨Nat.zero_le _, Nat.zero_le _⟩ rfl dX1_behindValue_123) (fun H locs hw => ?_)
    refine lv_iadd hx hb dX1_behindValue_126 ?_
    obtain ⟨rfl, rfl⟩ := o_ret hf
    exact pw_iret hC hr hlocks hw dX1_behindValue_127
  · rcases o_if hf with ⟨c5, hf⟩ | ⟨-, hf⟩
    · have hj : W p l e rm_X1_behindValue s m args below meth c H locs 0 0 (MQ below (QI g L A r μ') args s 0 0 A) (F0 m 72 ls []) := by
        refine lv_iload_n hx hb dX1_behindValue_72 rfl (lv_at hl 2 rfl) ?_
        refine lv_iconst (v := 4) hx hb dX1_behindValue_73 nc_iconst_4 ?_
        refine lv_iadd hx hb dX1_behindValue_74 ?_
        refine lv_aload_n hx hb dX1_behindValue_75 rfl (lv_at hl 0 rfl) ?_
        refine lv_iload_n hx hb dX1_behindValue_76 rfl (lv_at hl 2 rfl) ?_
        obtain ⟨h7, hf⟩ := o_ite hf
        obtain ⟨r9, μ8, h6, hf⟩ := o_bind2 hf
        refine pw_goI hw (pw_runV (As := [.int a2]) (rest := [.int (a2 + 4)]) hC mm_X5_intAt tw_274 (c_X5_intAt h6 _) ⟨rfl, rfl, by decide, by decide⟩ hw h7 rfl hl.1 (Nat.le_of_ble_eq_true rfl) ⟨Nat.zero_le _, Nat.zero_le _⟩ rfl dX1_behindValue_77) (fun H locs hw => ?_)
        refine lv_iadd hx hb dX1_behindValue_80 ?_
        obtain ⟨rfl, rfl⟩ := o_ret hf
        exact pw_iret hC hr hlocks hw dX1_behindValue_81
      rcases c5 with c5 | c5 | c5
      · exact lv_tableIn (tgt := 72) hx hb dX1_behindValue_1 (by rw [c5]; decide) (by rw [c5]; decide) (by rw [c5]; rfl) (by decide) hj
      · exact lv_tableIn (tgt := 72) hx hb dX1_behindValue_1 (by rw [c5]; decide) (by rw [c5]; decide) (by rw [c5]; rfl) (by decide) hj
      · exact lv_tableIn (tgt := 72) hx hb dX1_behindValue_1 (by rw [c5]; decide) (by rw [c5]; decide) (by rw [c5]; rfl) (by decide) hj
    · rcases o_if hf with ⟨c10, hf⟩ | ⟨-, hf⟩
      · have hj : W p l e rm_X1_behindValue s m args below meth c H locs 0 0 (MQ below (QI g L A r μ') args s 0 0 A) (F0 m 82 ls []) := by
          refine lv_iload_n hx hb dX1_behindValue_82 rfl (lv_at hl 2 rfl) ?_
          refine lv_aload_n hx hb dX1_behindValue_83 rfl (lv_at hl 0 rfl) ?_
          refine lv_iload_n hx hb dX1_behindValue_84 rfl (lv_at hl 2 rfl) ?_
          obtain ⟨h12, hf⟩ := o_ite hf
          obtain ⟨r14, μ13, h11, hf⟩ := o_bind2 hf
          refine pw_goI hw (pw_runV (As := [.int a2]) (rest := [.int a2]) hC mm_X5_intAt tw_274 (c_X5_intAt h11 _) ⟨rfl, rfl, by decide, by decide⟩ hw h12 rfl hl.1 (Nat.le_of_ble_eq_true rfl) ⟨Nat.zero_le _, Nat.zero_le _⟩ rfl dX1_behindValue_85) (fun H locs hw => ?_)
          refine lv_iadd hx hb dX1_behindValue_88 ?_
          obtain ⟨rfl, rfl⟩ := o_ret hf
          exact pw_iret hC hr hlocks hw dX1_behindValue_89
        rcases c10 with c10 | c10 | c10
        · exact lv_tableIn (tgt := 82) hx hb dX1_behindValue_1 (by rw [c10]; decide) (by rw [c10]; decide) (by rw [c10]; rfl) (by decide) hj
        · exact lv_tableIn (tgt := 82) hx hb dX1_behindValue_1 (by rw [c10]; decide) (by rw [c10]; decide) (by rw [c10]; rfl) (by decide) hj
        · exact lv_tableIn (tgt := 82) hx hb dX1_behindValue_1 (by rw [c10]; decide) (by rw [c10]; decide) (by rw [c10]; rfl) (by decide) hj
      · rcases o_if hf with ⟨c15, hf⟩ | ⟨-, hf⟩
        · refine lv_tableIn (tgt := 90) hx hb dX1_behindValue_1 (by rw [c15]; decide) (by rw [c15]; decide) (by rw [c15]; rfl) (by decide) ?_
          refine lv_iload_n hx hb dX1_behindValue_90 rfl (lv_at hl 2 rfl) ?_
          refine lv_iconst (v := 5) hx hb dX1_behindValue_91 nc_iconst_5 ?_
          refine lv_iadd hx hb dX1_behindValue_92 ?_
          refine lv_aload_n hx hb dX1_behindValue_93 rfl (lv_at hl 0 rfl) ?_
          refine lv_iload_n hx hb dX1_behindValue_94 rfl (lv_at hl 2 rfl) ?_
          obtain ⟨h17, hf⟩ := o_ite hf
          obtain ⟨r19, μ18, h16, hf⟩ := o_bind2 hf
          refine pw_goI hw (pw_runV (As := [.int a2]) (rest := [.int (a2 + 5)]) hC mm_X5_intAt tw_274 (c_X5_intAt h16 _) ⟨rfl, rfl, by decide, by decide⟩ hw h17 rfl hl.1 (Nat.le_of_ble_eq_true rfl) ⟨Nat.zero_le _, Nat.zero_le _⟩ rfl dX1_behindValue_95) (fun H locs hw => ?_)
          refine lv_iadd hx hb dX1_behindValue_98 ?_
          obtain ⟨rfl, rfl⟩ := o_ret hf
          exact pw_iret hC hr hlocks hw dX1_behindValue_99
        · rcases o_if hf with ⟨c20, hf⟩ | ⟨-, hf⟩
          · have hj : W p l e rm_X1_behindValue s m args below meth c H locs 0 0 (MQ below (QI g L A r μ') args s 0 0 A) (F0 m 121 ls []) := by
              refine lv_iload_n hx hb dX1_behindValue_121 rfl (lv_at hl 2 rfl) ?_
              refine lv_iload_n hx hb dX1_behindValue_122 rfl (lv_at hl 1 rfl) ?_
              obtain ⟨r23, μ22, h21, hf⟩ := o_bind2 hf
              refine pw_goI hw (pw_runS (As := [.int a1]) (rest := [.int a2]) hC mm_X1_widthOf tw_276 (c_X1_widthOf h21 _) ⟨rfl, rfl, by decide, by decide⟩ hw rfl hl.1 (Nat.le_of_ble_eq_true rfl) ⟨Nat.zero_le _, Nat.zero_le _⟩ rfl dX1_behindValue_123) (fun H locs hw => ?_)
              refine lv_iadd hx hb dX1_behindValue_126 ?_
              obtain ⟨rfl, rfl⟩ := o_ret hf
              exact pw_iret hC hr hlocks hw dX1_behindValue_127
            rcases c20 with c20 | c20 | c20 | c20 | c20
            · exact lv_tableIn (tgt := 121) hx hb dX1_behindValue_1 (by rw [c20]; decide) (by rw [c20]; decide) (by rw [c20]; rfl) (by decide) hj
            · exact lv_tableIn (tgt := 121) hx hb dX1_behindValue_1 (by rw [c20]; decide) (by rw [c20]; decide) (by rw [c20]; rfl) (by decide) hj
            · exact lv_tableIn (tgt := 121) hx hb dX1_behindValue_1 (by rw [c20]; decide) (by rw [c20]; decide) (by rw [c20]; rfl) (by decide) hj
            · exact lv_tableIn (tgt := 121) hx hb dX1_behindValue_1 (by rw [c20]; decide) (by rw [c20]; decide) (by rw [c20]; rfl) (by decide) hj
            · exact lv_tableIn (tgt := 121) hx hb dX1_behindValue_1 (by rw [c20]; decide) (by rw [c20]; decide) (by rw [c20]; rfl) (by decide) hj
          · rcases o_if hf with ⟨c24, hf⟩ | ⟨-, hf⟩
            · refine lv_tableIn (tgt := 100) hx hb dX1_behindValue_1 (by rw [c24]; decide) (by rw [c24]; decide) (by rw [c24]; rfl) (by decide) ?_
              refine lv_aload_n hx hb dX1_behindValue_100 rfl (lv_at hl 0 rfl) ?_
              refine lv_aload_n hx hb dX1_behindValue_101 rfl (lv_at hl 0 rfl) ?_
              refine lv_iload_n hx hb dX1_behindValue_102 rfl (lv_at hl 2 rfl) ?_
              obtain ⟨h26, hf⟩ := o_ite hf
              obtain ⟨r28, μ27, h25, hf⟩ := o_bind2 hf
              refine pw_goI hw (pw_runV (As := [.int a2]) (rest := [.ref a0]) hC mm_X5_behindName tw_275 (c_X5_behindName h25 _) ⟨rfl, rfl, by decide, by decide⟩ hw h26 rfl hl.1 (Nat.le_of_ble_eq_true rfl) ⟨Nat.zero_le _, Nat.zero_le _⟩ rfl dX1_behindValue_103) (fun H locs hw => ?_)
              obtain ⟨h30, hf⟩ := o_ite hf
              obtain ⟨r32, μ31, h29, hf⟩ := o_bind2 hf
              refine pw_goI hw (pw_runV (As := [.int r28]) (rest := []) hC mm_X5_behindName tw_275 (c_X5_behindName h29 _) ⟨rfl, rfl, by decide, by decide⟩ hw h30 rfl hl.1 (Nat.le_of_ble_eq_true rfl) ⟨Nat.zero_le _, Nat.zero_le _⟩ rfl dX1_behindValue_106) (fun H locs hw => ?_)
              obtain ⟨rfl, rfl⟩ := o_ret hf
              exact pw_iret hC hr hlocks hw dX1_behindValue_109
            · rcases o_if hf with ⟨c33, hf⟩ | ⟨-, hf⟩
              · refine lv_tableIn (tgt := 110) hx hb dX1_behindValue_1 (by rw [c33]; decide) (by rw [c33]; decide) (by rw [c33]; rfl) (by decide) ?_
                refine lv_iload_n hx hb dX1_behindValue_110 rfl (lv_at hl 2 rfl) ?_
                refine lv_bipush (v := 16) hx hb dX1_behindValue_111 nc_bipush_16 ?_
                refine lv_iadd hx hb dX1_behindValue_113 ?_
                refine lv_aload_n hx hb dX1_behindValue_114 rfl (lv_at hl 0 rfl) ?_
                refine lv_iload_n hx hb dX1_behindValue_115 rfl (lv_at hl 2 rfl) ?_
                obtain ⟨h35, hf⟩ := o_ite hf
                obtain ⟨r37, μ36, h34, hf⟩ := o_bind2 hf
                refine pw_goI hw (pw_runV (As := [.int a2]) (rest := [.int (a2 + 16)]) hC mm_X5_intAt tw_274 (c_X5_intAt h34 _) ⟨rfl, rfl, by decide, by decide⟩ hw h35 rfl hl.1 (Nat.le_of_ble_eq_true rfl) ⟨Nat.zero_le _, Nat.zero_le _⟩ rfl dX1_behindValue_116) (fun H locs hw => ?_)
                refine lv_iadd hx hb dX1_behindValue_119 ?_
                obtain ⟨rfl, rfl⟩ := o_ret hf
                exact pw_iret hC hr hlocks hw dX1_behindValue_120
              · cases hf
theorem dX1_documentIn_0 : decode cX1_documentIn 0 = .ok (.iload_n 1, 1) := by decide +kernel
theorem dX1_documentIn_1 : decode cX1_documentIn 1 = .ok (.bipush 15, 2) := by decide +kernel
theorem dX1_documentIn_3 : decode cX1_documentIn 3 = .ok (.if_icmp .ne 18, 3) := by decide +kernel
theorem dX1_documentIn_6 : decode cX1_documentIn 6 = .ok (.iload_n 2, 1) := by decide +kernel
theorem dX1_documentIn_7 : decode cX1_documentIn 7 = .ok (.bipush 8, 2) := by decide +kernel
theorem dX1_documentIn_9 : decode cX1_documentIn 9 = .ok (.iadd, 1) := by decide +kernel
theorem dX1_documentIn_10 : decode cX1_documentIn 10 = .ok (.aload_n 0, 1) := by decide +kernel
theorem dX1_documentIn_11 : decode cX1_documentIn 11 = .ok (.iload_n 2, 1) := by decide +kernel
theorem dX1_documentIn_12 : decode cX1_documentIn 12 = .ok (.iconst 4, 1) := by decide +kernel
theorem dX1_documentIn_13 : decode cX1_documentIn 13 = .ok (.iadd, 1) := by decide +kernel
theorem dX1_documentIn_14 : decode cX1_documentIn 14 = .ok (.invokevirtual 9, 3) := by decide +kernel
theorem dX1_documentIn_17 : decode cX1_documentIn 17 = .ok (.iadd, 1) := by decide +kernel
theorem dX1_documentIn_18 : decode cX1_documentIn 18 = .ok (.goto 4, 3) := by decide +kernel
theorem dX1_documentIn_21 : decode cX1_documentIn 21 = .ok (.iload_n 2, 1) := by decide +kernel
theorem dX1_documentIn_22 : decode cX1_documentIn 22 = .ok (.ireturn, 1) := by decide +kernel
abbrev rm_X1_documentIn : Room := { frames := 2, cells := 0, slots := 0, locals := 42 }
def f_X1_documentIn (cy : Nat → ClassId) (a0 : Nat) (a1 : Int32) (a2 : Int32) (μ : Mem) : Option (Int32 × Mem) :=
  if a1 = 15 then (if isO μ a0 4 = true then (ob2 (f_X5_intAt cy a0 (a2 + 4) μ) fun r5 μ4 => some (((a2 + 8) + r5), μ4)) else none) else some (a2, μ)
set_option maxRecDepth 100000 in
set_option maxHeartbeats 4000000 in
theorem c_X1_documentIn {l : Launch} {g : Wg} {L : List Nat} {μ : Mem} {a0 : Nat} {a1 : Int32} {a2 : Int32} {r : Int32} {μ' : Mem} (hf : f_X1_documentIn g.2 a0 a1 a2 μ = some (r, μ')) : MetI l yX1_documentIn cX1_documentIn 3 (some .int) rm_X1_documentIn g L μ [.ref a0, .int a1, .int a2] r μ' := by
  refine pw_met (Qc := fun A => QI g L A r μ') (by decide) (Nat.le_of_ble_eq_true rfl) ?_
  intro p e s m args below meth c A ls H locs hC hr hlocks hl hw
  have hx := hC.1
  have hb := hC.2.1
  have hl : lv_has ls 3 [(0, .ref a0), (1, .int a1), (2, .int a2)] := hl
  unfold f_X1_documentIn at hf
  refine lv_iload_n hx hb dX1_documentIn_0 rfl (lv_at hl 1 rfl) ?_
  refine lv_bipush (v := 15) hx hb dX1_documentIn_1 nc_bipush_15 ?_
  refine lv_icmp_ne (tgt := 21) hx hb dX1_documentIn_3 (by decide) (fun c1 => ?_) (fun c1 => ?_)
  · have hf := o_neg c1 hf
    refine lv_iload_n hx hb dX1_documentIn_21 rfl (lv_at hl 2 rfl) ?_
    obtain ⟨rfl, rfl⟩ := o_ret hf
    exact pw_iret hC hr hlocks hw dX1_documentIn_22
  · have hf := o_pos c1 hf
    refine lv_iload_n hx hb dX1_documentIn_6 rfl (lv_at hl 2 rfl) ?_
    refine lv_bipush (v := 8) hx hb dX1_documentIn_7 nc_bipush_8 ?_
    refine lv_iadd hx hb dX1_documentIn_9 ?_
    refine lv_aload_n hx hb dX1_documentIn_10 rfl (lv_at hl 0 rfl) ?_
    refine lv_iload_n hx hb dX1_documentIn_11 rfl (lv_at hl 2 rfl) ?_
    refine lv_iconst (v := 4) hx hb dX1_documentIn_12 nc_iconst_4 ?_
    refine lv_iadd hx hb dX1_documentIn_13 ?_
    obtain ⟨h3, hf⟩ := o_ite hf
    obtain ⟨r5, μ4, h2, hf⟩ := o_bind2 hf
    refine pw_goI hw (pw_runV (As := [.int (a2 + 4)]) (rest := [.int (a2 + 8)]) hC mm_X5_intAt tw_274 (c_X5_intAt h2 _) ⟨rfl, rfl, by decide, by decide⟩ hw h3 rfl hl.1 (Nat.le_of_ble_eq_true rfl) ⟨Nat.zero_le _, Nat.zero_le _⟩ rfl dX1_documentIn_14) (fun H locs hw => ?_)
    refine lv_iadd hx hb dX1_documentIn_17 ?_
    refine lv_goto (tgt := 22) hx hb dX1_documentIn_18 (by decide) ?_
    obtain ⟨rfl, rfl⟩ := o_ret hf
    exact pw_iret hC hr hlocks hw dX1_documentIn_22
theorem dX1_digitsOf_0 : decode cX1_digitsOf 0 = .ok (.iconst 1, 1) := by decide +kernel
theorem dX1_digitsOf_1 : decode cX1_digitsOf 1 = .ok (.istore_n 1, 1) := by decide +kernel
theorem dX1_digitsOf_2 : decode cX1_digitsOf 2 = .ok (.iload_n 0, 1) := by decide +kernel
theorem dX1_digitsOf_3 : decode cX1_digitsOf 3 = .ok (.bipush 10, 2) := by decide +kernel
theorem dX1_digitsOf_5 : decode cX1_digitsOf 5 = .ok (.idiv, 1) := by decide +kernel
theorem dX1_digitsOf_6 : decode cX1_digitsOf 6 = .ok (.istore_n 2, 1) := by decide +kernel
theorem dX1_digitsOf_7 : decode cX1_digitsOf 7 = .ok (.iconst 1, 1) := by decide +kernel
theorem dX1_digitsOf_8 : decode cX1_digitsOf 8 = .ok (.istore_n 3, 1) := by decide +kernel
theorem dX1_digitsOf_9 : decode cX1_digitsOf 9 = .ok (.iload_n 3, 1) := by decide +kernel
theorem dX1_digitsOf_10 : decode cX1_digitsOf 10 = .ok (.bipush 10, 2) := by decide +kernel
theorem dX1_digitsOf_12 : decode cX1_digitsOf 12 = .ok (.if_icmp .ge 21, 3) := by decide +kernel
theorem dX1_digitsOf_15 : decode cX1_digitsOf 15 = .ok (.iload_n 2, 1) := by decide +kernel
theorem dX1_digitsOf_16 : decode cX1_digitsOf 16 = .ok (.ifCond .le 17, 3) := by decide +kernel
theorem dX1_digitsOf_19 : decode cX1_digitsOf 19 = .ok (.iinc 1 1, 3) := by decide +kernel
theorem dX1_digitsOf_22 : decode cX1_digitsOf 22 = .ok (.iload_n 2, 1) := by decide +kernel
theorem dX1_digitsOf_23 : decode cX1_digitsOf 23 = .ok (.bipush 10, 2) := by decide +kernel
theorem dX1_digitsOf_25 : decode cX1_digitsOf 25 = .ok (.idiv, 1) := by decide +kernel
theorem dX1_digitsOf_26 : decode cX1_digitsOf 26 = .ok (.istore_n 2, 1) := by decide +kernel
theorem dX1_digitsOf_27 : decode cX1_digitsOf 27 = .ok (.iinc 3 1, 3) := by decide +kernel
theorem dX1_digitsOf_30 : decode cX1_digitsOf 30 = .ok (.goto (-21), 3) := by decide +kernel
theorem dX1_digitsOf_33 : decode cX1_digitsOf 33 = .ok (.iload_n 1, 1) := by decide +kernel
theorem dX1_digitsOf_34 : decode cX1_digitsOf 34 = .ok (.ireturn, 1) := by decide +kernel
abbrev rm_X1_digitsOf : Room := { frames := 0, cells := 0, slots := 0, locals := 0 }
def f_X1_digitsOf_L33 (cy : Nat → ClassId) (a1 : Int32) (μ : Mem) : Option (Int32 × Mem) :=
  some (a1, μ)
set_option maxRecDepth 100000 in
set_option maxHeartbeats 4000000 in
theorem w_X1_digitsOf_L33 {p : Program} {l : Launch} {e : Env} {s : State} {m : MethodId} {args : Array Value} {below : List Frame} {meth : Method} {c : Code} {A : Nat → Prop} {g : Wg} {L : List Nat} {r : Int32} {μ' : Mem} (hC : CX p m c cX1_digitsOf 4 s args RX1) (hr : meth.sig.returnType = (some .int)) (hlocks : meth.locks = false) : ∀ (a1 : Int32) (μ : Mem) (H : Heap) (locs : List Loc) (ls : Array Slot), lv_has ls 4 [(1, .int a1)] → PW g L μ A s H locs → f_X1_digitsOf_L33 g.2 a1 μ = some (r, μ') → W p l e rm_X1_digitsOf s m args below meth c H locs 0 0 (MQ below (QI g L A r μ') args s 0 0 A) (F0 m 33 ls []) := by
  have hx := hC.1
  have hb := hC.2.1
  intro a1 μ H locs ls hl hw hf
  unfold f_X1_digitsOf_L33 at hf
  refine lv_iload_n hx hb dX1_digitsOf_33 rfl (lv_at hl 0 rfl) ?_
  obtain ⟨rfl, rfl⟩ := o_ret hf
  exact pw_iret hC hr hlocks hw dX1_digitsOf_34
def f_X1_digitsOf_L9 (cy : Nat → ClassId) : Nat → Int32 → Int32 → Int32 → Mem → Option (Int32 × Mem)
  | 0, _, _, _, _ => none
  | n + 1, a1, a2, a3, μ => if 10 ≤ a3 then (f_X1_digitsOf_L33 cy a1 μ) else if a2 ≤ 0 then (f_X1_digitsOf_L33 cy a1 μ) else f_X1_digitsOf_L9 cy n (a1 + 1) (a2 / 10) (a3 + 1) μ
set_option maxRecDepth 100000 in
set_option maxHeartbeats 4000000 in
theorem w_X1_digitsOf_L9 {p : Program} {l : Launch} {e : Env} {s : State} {m : MethodId} {args : Array Value} {below : List Frame} {meth : Method} {c : Code} {A : Nat → Prop} {g : Wg} {L : List Nat} {r : Int32} {μ' : Mem} (hC : CX p m c cX1_digitsOf 4 s args RX1) (hr : meth.sig.returnType = (some .int)) (hlocks : meth.locks = false) : ∀ (n : Nat), ∀ (a1 : Int32) (a2 : Int32) (a3 : Int32) (μ : Mem) (H : Heap) (locs : List Loc) (ls : Array Slot), lv_has ls 4 [(1, .int a1), (2, .int a2), (3, .int a3)] → PW g L μ A s H locs → f_X1_digitsOf_L9 g.2 n a1 a2 a3 μ = some (r, μ') → W p l e rm_X1_digitsOf s m args below meth c H locs 0 0 (MQ below (QI g L A r μ') args s 0 0 A) (F0 m 9 ls []) := by
  have hx := hC.1
  have hb := hC.2.1
  intro n
  induction n with
  | zero => intro a1 a2 a3 μ H locs ls hl hw hf; cases hf
  | succ n ih =>
    intro a1 a2 a3 μ H locs ls hl hw hf
    rw [f_X1_digitsOf_L9] at hf
    refine lv_iload_n hx hb dX1_digitsOf_9 rfl (lv_at hl 2 rfl) ?_
    refine lv_bipush (v := 10) hx hb dX1_digitsOf_10 nc_bipush_10 ?_
    refine lv_icmp_ge (tgt := 33) hx hb dX1_digitsOf_12 (by decide) (fun c101 => ?_) (fun c101 => ?_)
    · have hf := o_pos c101 hf
      exact w_X1_digitsOf_L33 hC hr hlocks _ _ _ _ ls (lv_sub hl [0] rfl) hw hf
    · have hf := o_neg c101 hf
      refine lv_iload_n hx hb dX1_digitsOf_15 rfl (lv_at hl 1 rfl) ?_
      refine lv_if_le (tgt := 33) hx hb dX1_digitsOf_16 (by decide) (fun c102 => ?_) (fun c102 => ?_)
      · have hf := o_pos c102 hf
        exact w_X1_digitsOf_L33 hC hr hlocks _ _ _ _ ls (lv_sub hl [0] rfl) hw hf
      · have hf := o_neg c102 hf
        refine lv_iinc (v := (a1 + 1)) (lv' := [(1, .int (a1 + 1)), (2, .int a2), (3, .int a3)]) hx hb dX1_digitsOf_19 hl (k := 0) rfl (by first | rfl | decide +kernel) (by decide) rfl (fun ls hl => ?_)
        refine lv_iload_n hx hb dX1_digitsOf_22 rfl (lv_at hl 1 rfl) ?_
        refine lv_bipush (v := 10) hx hb dX1_digitsOf_23 nc_bipush_10 ?_
        refine lv_idiv hx hb dX1_digitsOf_25 (by decide +kernel) ?_
        refine lv_istore_n (lv' := [(2, .int (a2 / 10)), (1, .int (a1 + 1)), (3, .int a3)]) hx hb dX1_digitsOf_26 rfl hl (by decide) rfl (fun ls hl => ?_)
        refine lv_iinc (v := (a3 + 1)) (lv' := [(3, .int (a3 + 1)), (2, .int (a2 / 10)), (1, .int (a1 + 1))]) hx hb dX1_digitsOf_27 hl (k := 2) rfl (by first | rfl | decide +kernel) (by decide) rfl (fun ls hl => ?_)
        refine lv_goto (tgt := 9) hx hb dX1_digitsOf_30 (by decide) ?_
        exact ih _ _ _ _ _ _ ls (lv_sub hl [2, 1, 0] rfl) hw hf
def f_X1_digitsOf (cy : Nat → ClassId) (a0 : Int32) (μ : Mem) : Option (Int32 × Mem) :=
  f_X1_digitsOf_L9 cy FU 1 (a0 / 10) 1 μ
set_option maxRecDepth 100000 in
set_option maxHeartbeats 4000000 in
theorem c_X1_digitsOf {l : Launch} {g : Wg} {L : List Nat} {μ : Mem} {a0 : Int32} {r : Int32} {μ' : Mem} (hf : f_X1_digitsOf g.2 a0 μ = some (r, μ')) : MetI l yX1_digitsOf cX1_digitsOf 4 (some .int) rm_X1_digitsOf g L μ [.int a0] r μ' := by
  refine pw_met (Qc := fun A => QI g L A r μ') (by decide) (Nat.le_of_ble_eq_true rfl) ?_
  intro p e s m args below meth c A ls H locs hC hr hlocks hl hw
  have hx := hC.1
  have hb := hC.2.1
  have hl : lv_has ls 4 [(0, .int a0)] := hl
  unfold f_X1_digitsOf at hf
  refine lv_iconst (v := 1) hx hb dX1_digitsOf_0 nc_iconst_1 ?_
  refine lv_istore_n (lv' := [(1, .int 1), (0, .int a0)]) hx hb dX1_digitsOf_1 rfl hl (by decide) rfl (fun ls hl => ?_)
  refine lv_iload_n hx hb dX1_digitsOf_2 rfl (lv_at hl 1 rfl) ?_
  refine lv_bipush (v := 10) hx hb dX1_digitsOf_3 nc_bipush_10 ?_
  refine lv_idiv hx hb dX1_digitsOf_5 (by decide +kernel) ?_
  refine lv_istore_n (lv' := [(2, .int (a0 / 10)), (1, .int 1), (0, .int a0)]) hx hb dX1_digitsOf_6 rfl hl (by decide) rfl (fun ls hl => ?_)
  refine lv_iconst (v := 1) hx hb dX1_digitsOf_7 nc_iconst_1 ?_
  refine lv_istore_n (lv' := [(3, .int 1), (2, .int (a0 / 10)), (1, .int 1), (0, .int a0)]) hx hb dX1_digitsOf_8 rfl hl (by decide) rfl (fun ls hl => ?_)
  exact w_X1_digitsOf_L9 hC hr hlocks FU _ _ _ _ _ _ ls (lv_sub hl [2, 1, 0] rfl) hw hf
theorem dX1_isRowName_0 : decode cX1_isRowName 0 = .ok (.iload_n 3, 1) := by decide +kernel
theorem dX1_isRowName_1 : decode cX1_isRowName 1 = .ok (.invokestatic 23, 3) := by decide +kernel
theorem dX1_isRowName_4 : decode cX1_isRowName 4 = .ok (.istore 4, 2) := by decide +kernel
theorem dX1_isRowName_6 : decode cX1_isRowName 6 = .ok (.iload_n 2, 1) := by decide +kernel
theorem dX1_isRowName_7 : decode cX1_isRowName 7 = .ok (.iload_n 1, 1) := by decide +kernel
theorem dX1_isRowName_8 : decode cX1_isRowName 8 = .ok (.isub, 1) := by decide +kernel
theorem dX1_isRowName_9 : decode cX1_isRowName 9 = .ok (.iload 4, 2) := by decide +kernel
theorem dX1_isRowName_11 : decode cX1_isRowName 11 = .ok (.if_icmp .eq 5, 3) := by decide +kernel
theorem dX1_isRowName_14 : decode cX1_isRowName 14 = .ok (.iconst 0, 1) := by decide +kernel
theorem dX1_isRowName_15 : decode cX1_isRowName 15 = .ok (.ireturn, 1) := by decide +kernel
theorem dX1_isRowName_16 : decode cX1_isRowName 16 = .ok (.iload_n 3, 1) := by decide +kernel
theorem dX1_isRowName_17 : decode cX1_isRowName 17 = .ok (.istore 5, 2) := by decide +kernel
theorem dX1_isRowName_19 : decode cX1_isRowName 19 = .ok (.iconst 1, 1) := by decide +kernel
theorem dX1_isRowName_20 : decode cX1_isRowName 20 = .ok (.istore 6, 2) := by decide +kernel
theorem dX1_isRowName_22 : decode cX1_isRowName 22 = .ok (.iload 6, 2) := by decide +kernel
theorem dX1_isRowName_24 : decode cX1_isRowName 24 = .ok (.iload 4, 2) := by decide +kernel
theorem dX1_isRowName_26 : decode cX1_isRowName 26 = .ok (.if_icmp .gt 37, 3) := by decide +kernel
theorem dX1_isRowName_29 : decode cX1_isRowName 29 = .ok (.aload_n 0, 1) := by decide +kernel
theorem dX1_isRowName_30 : decode cX1_isRowName 30 = .ok (.iload_n 2, 1) := by decide +kernel
theorem dX1_isRowName_31 : decode cX1_isRowName 31 = .ok (.iload 6, 2) := by decide +kernel
theorem dX1_isRowName_33 : decode cX1_isRowName 33 = .ok (.isub, 1) := by decide +kernel
theorem dX1_isRowName_34 : decode cX1_isRowName 34 = .ok (.invokevirtual 26, 3) := by decide +kernel
theorem dX1_isRowName_37 : decode cX1_isRowName 37 = .ok (.bipush 48, 2) := by decide +kernel
theorem dX1_isRowName_39 : decode cX1_isRowName 39 = .ok (.iload 5, 2) := by decide +kernel
theorem dX1_isRowName_41 : decode cX1_isRowName 41 = .ok (.bipush 10, 2) := by decide +kernel
theorem dX1_isRowName_43 : decode cX1_isRowName 43 = .ok (.irem, 1) := by decide +kernel
theorem dX1_isRowName_44 : decode cX1_isRowName 44 = .ok (.iadd, 1) := by decide +kernel
theorem dX1_isRowName_45 : decode cX1_isRowName 45 = .ok (.if_icmp .eq 5, 3) := by decide +kernel
theorem dX1_isRowName_48 : decode cX1_isRowName 48 = .ok (.iconst 0, 1) := by decide +kernel
theorem dX1_isRowName_49 : decode cX1_isRowName 49 = .ok (.ireturn, 1) := by decide +kernel
theorem dX1_isRowName_50 : decode cX1_isRowName 50 = .ok (.iload 5, 2) := by decide +kernel
theorem dX1_isRowName_52 : decode cX1_isRowName 52 = .ok (.bipush 10, 2) := by decide +kernel
theorem dX1_isRowName_54 : decode cX1_isRowName 54 = .ok (.idiv, 1) := by decide +kernel
theorem dX1_isRowName_55 : decode cX1_isRowName 55 = .ok (.istore 5, 2) := by decide +kernel
theorem dX1_isRowName_57 : decode cX1_isRowName 57 = .ok (.iinc 6 1, 3) := by decide +kernel
theorem dX1_isRowName_60 : decode cX1_isRowName 60 = .ok (.goto (-38), 3) := by decide +kernel
theorem dX1_isRowName_63 : decode cX1_isRowName 63 = .ok (.iconst 1, 1) := by decide +kernel
theorem dX1_isRowName_64 : decode cX1_isRowName 64 = .ok (.ireturn, 1) := by decide +kernel
abbrev rm_X1_isRowName : Room := { frames := 1, cells := 0, slots := 0, locals := 23 }
def f_X1_isRowName_L22 (cy : Nat → ClassId) : Nat → Nat → Int32 → Int32 → Int32 → Int32 → Mem → Option (Int32 × Mem)
  | 0, _, _, _, _, _, _ => none
  | n + 1, a0, a2, a4, a5, a6, μ => if a4 < a6 then (some (1, μ)) else if isO μ a0 4 = true then (ob2 (f_X5_at cy a0 (a2 - a6) μ) fun r105 μ104 => if r105 = (48 + (a5 - a5 / 10 * 10)) then (f_X1_isRowName_L22 cy n a0 a2 a4 (a5 / 10) (a6 + 1) μ104) else some (0, μ104)) else none
set_option maxRecDepth 100000 in
set_option maxHeartbeats 4000000 in
theorem w_X1_isRowName_L22 {p : Program} {l : Launch} {e : Env} {s : State} {m : MethodId} {args : Array Value} {below : List Frame} {meth : Method} {c : Code} {A : Nat → Prop} {g : Wg} {L : List Nat} {r : Int32} {μ' : Mem} (hC : CX p m c cX1_isRowName 7 s args RX1) (hr : meth.sig.returnType = (some .boolean)) (hlocks : meth.locks = false) : ∀ (n : Nat), ∀ (a0 : Nat) (a2 : Int32) (a4 : Int32) (a5 : Int32) (a6 : Int32) (μ : Mem) (H : Heap) (locs : List Loc) (ls : Array Slot), lv_has ls 7 [(0, .ref a0), (2, .int a2), (4, .int a4), (5, .int a5), (6, .int a6)] → PW g L μ A s H locs → f_X1_isRowName_L22 g.2 n a0 a2 a4 a5 a6 μ = some (r, μ') → W p l e rm_X1_isRowName s m args below meth c H locs 0 0 (MQ below (QI g L A r μ') args s 0 0 A) (F0 m 22 ls []) := by
  have hx := hC.1
  have hb := hC.2.1
  intro n
  induction n with
  | zero => intro a0 a2 a4 a5 a6 μ H locs ls hl hw hf; cases hf
  | succ n ih =>
    intro a0 a2 a4 a5 a6 μ H locs ls hl hw hf
    rw [f_X1_isRowName_L22] at hf
    refine lv_iload hx hb dX1_isRowName_22 (lv_at hl 4 rfl) ?_
    refine lv_iload hx hb dX1_isRowName_24 (lv_at hl 2 rfl) ?_
    refine lv_icmp_gt (tgt := 63) hx hb dX1_isRowName_26 (by decide) (fun c101 => ?_) (fun c101 => ?_)
    · have hf := o_pos c101 hf
      refine lv_iconst (v := 1) hx hb dX1_isRowName_63 nc_iconst_1 ?_
      obtain ⟨rfl, rfl⟩ := o_ret hf
      exact pw_zret hC hr hlocks (Or.inr rfl) hw dX1_isRowName_64
    · have hf := o_neg c101 hf
      refine lv_aload_n hx hb dX1_isRowName_29 rfl (lv_at hl 0 rfl) ?_
      refine lv_iload_n hx hb dX1_isRowName_30 rfl (lv_at hl 1 rfl) ?_
      refine lv_iload hx hb dX1_isRowName_31 (lv_at hl 4 rfl) ?_
      refine lv_isub hx hb dX1_isRowName_33 ?_
      obtain ⟨h103, hf⟩ := o_ite hf
      obtain ⟨r105, μ104, h102, hf⟩ := o_bind2 hf
      refine pw_goI hw (pw_runV (As := [.int (a2 - a6)]) (rest := []) hC mm_X5_at tw_375 (c_X5_at h102 _) ⟨rfl, rfl, by decide, by decide⟩ hw h103 rfl hl.1 (Nat.le_of_ble_eq_true rfl) ⟨Nat.zero_le _, Nat.zero_le _⟩ rfl dX1_isRowName_34) (fun H locs hw => ?_)
      refine lv_bipush (v := 48) hx hb dX1_isRowName_37 nc_bipush_48 ?_
      refine lv_iload hx hb dX1_isRowName_39 (lv_at hl 3 rfl) ?_
      refine lv_bipush (v := 10) hx hb dX1_isRowName_41 nc_bipush_10 ?_
      refine lv_irem hx hb dX1_isRowName_43 (by decide +kernel) ?_
      refine lv_iadd hx hb dX1_isRowName_44 ?_
      refine lv_icmp_eq (tgt := 50) hx hb dX1_isRowName_45 (by decide) (fun c106 => ?_) (fun c106 => ?_)
      · have hf := o_pos c106 hf
        refine lv_iload hx hb dX1_isRowName_50 (lv_at hl 3 rfl) ?_
        refine lv_bipush (v := 10) hx hb dX1_isRowName_52 nc_bipush_10 ?_
        refine lv_idiv hx hb dX1_isRowName_54 (by decide +kernel) ?_
        refine lv_istore (lv' := [(5, .int (a5 / 10)), (0, .ref a0), (2, .int a2), (4, .int a4), (6, .int a6)]) hx hb dX1_isRowName_55 hl (by decide) rfl (fun ls hl => ?_)
        refine lv_iinc (v := (a6 + 1)) (lv' := [(6, .int (a6 + 1)), (5, .int (a5 / 10)), (0, .ref a0), (2, .int a2), (4, .int a4)]) hx hb dX1_isRowName_57 hl (k := 4) rfl (by first | rfl | decide +kernel) (by decide) rfl (fun ls hl => ?_)
        refine lv_goto (tgt := 22) hx hb dX1_isRowName_60 (by decide) ?_
        exact ih _ _ _ _ _ _ _ _ ls (lv_sub hl [2, 3, 4, 1, 0] rfl) hw hf
      · have hf := o_neg c106 hf
        refine lv_iconst (v := 0) hx hb dX1_isRowName_48 nc_iconst_0 ?_
        obtain ⟨rfl, rfl⟩ := o_ret hf
        exact pw_zret hC hr hlocks (Or.inl rfl) hw dX1_isRowName_49
def f_X1_isRowName (cy : Nat → ClassId) (a0 : Nat) (a1 : Int32) (a2 : Int32) (a3 : Int32) (μ : Mem) : Option (Int32 × Mem) :=
  ob2 (f_X1_digitsOf cy a3 μ) fun r3 μ2 => if (a2 - a1) = r3 then (f_X1_isRowName_L22 cy FU a0 a2 r3 a3 1 μ2) else some (0, μ2)
set_option maxRecDepth 100000 in
set_option maxHeartbeats 4000000 in
theorem c_X1_isRowName {l : Launch} {g : Wg} {L : List Nat} {μ : Mem} {a0 : Nat} {a1 : Int32} {a2 : Int32} {a3 : Int32} {r : Int32} {μ' : Mem} (hf : f_X1_isRowName g.2 a0 a1 a2 a3 μ = some (r, μ')) : MetI l yX1_isRowName cX1_isRowName 7 (some .boolean) rm_X1_isRowName g L μ [.ref a0, .int a1, .int a2, .int a3] r μ' := by
  refine pw_met (Qc := fun A => QI g L A r μ') (by decide) (Nat.le_of_ble_eq_true rfl) ?_
  intro p e s m args below meth c A ls H locs hC hr hlocks hl hw
  have hx := hC.1
  have hb := hC.2.1
  have hl : lv_has ls 7 [(0, .ref a0), (1, .int a1), (2, .int a2), (3, .int a3)] := hl
  unfold f_X1_isRowName at hf
  refine lv_iload_n hx hb dX1_isRowName_0 rfl (lv_at hl 3 rfl) ?_
  obtain ⟨r3, μ2, h1, hf⟩ := o_bind2 hf
  refine pw_goI hw (pw_runS (As := [.int a3]) (rest := []) hC mm_X1_digitsOf tw_389 (c_X1_digitsOf h1 _) ⟨rfl, rfl, by decide, by decide⟩ hw rfl hl.1 (Nat.le_of_ble_eq_true rfl) ⟨Nat.zero_le _, Nat.zero_le _⟩ rfl dX1_isRowName_1) (fun H locs hw => ?_)
  refine lv_istore (lv' := [(4, .int r3), (0, .ref a0), (1, .int a1), (2, .int a2), (3, .int a3)]) hx hb dX1_isRowName_4 hl (by decide) rfl (fun ls hl => ?_)
  refine lv_iload_n hx hb dX1_isRowName_6 rfl (lv_at hl 3 rfl) ?_
  refine lv_iload_n hx hb dX1_isRowName_7 rfl (lv_at hl 2 rfl) ?_
  refine lv_isub hx hb dX1_isRowName_8 ?_
  refine lv_iload hx hb dX1_isRowName_9 (lv_at hl 0 rfl) ?_
  refine lv_icmp_eq (tgt := 16) hx hb dX1_isRowName_11 (by decide) (fun c4 => ?_) (fun c4 => ?_)
  · have hf := o_pos c4 hf
    refine lv_iload_n hx hb dX1_isRowName_16 rfl (lv_at hl 4 rfl) ?_
    refine lv_istore (lv' := [(5, .int a3), (4, .int r3), (0, .ref a0), (1, .int a1), (2, .int a2), (3, .int a3)]) hx hb dX1_isRowName_17 hl (by decide) rfl (fun ls hl => ?_)
    refine lv_iconst (v := 1) hx hb dX1_isRowName_19 nc_iconst_1 ?_
    refine lv_istore (lv' := [(6, .int 1), (5, .int a3), (4, .int r3), (0, .ref a0), (1, .int a1), (2, .int a2), (3, .int a3)]) hx hb dX1_isRowName_20 hl (by decide) rfl (fun ls hl => ?_)
    exact w_X1_isRowName_L22 hC hr hlocks FU _ _ _ _ _ _ _ _ ls (lv_sub hl [3, 5, 2, 1, 0] rfl) hw hf
  · have hf := o_neg c4 hf
    refine lv_iconst (v := 0) hx hb dX1_isRowName_14 nc_iconst_0 ?_
    obtain ⟨rfl, rfl⟩ := o_ret hf
    exact pw_zret hC hr hlocks (Or.inl rfl) hw dX1_isRowName_15
theorem dX1_furtherBytes_0 : decode cX1_furtherBytes 0 = .ok (.iload_n 0, 1) := by decide +kernel
theorem dX1_furtherBytes_1 : decode cX1_furtherBytes 1 = .ok (.sipush 128, 3) := by decide +kernel
theorem dX1_furtherBytes_4 : decode cX1_furtherBytes 4 = .ok (.if_icmp .ge 5, 3) := by decide +kernel
theorem dX1_furtherBytes_7 : decode cX1_furtherBytes 7 = .ok (.iconst 0, 1) := by decide +kernel
theorem dX1_furtherBytes_8 : decode cX1_furtherBytes 8 = .ok (.ireturn, 1) := by decide +kernel
theorem dX1_furtherBytes_9 : decode cX1_furtherBytes 9 = .ok (.iload_n 0, 1) := by decide +kernel
theorem dX1_furtherBytes_10 : decode cX1_furtherBytes 10 = .ok (.sipush 194, 3) := by decide +kernel
theorem dX1_furtherBytes_13 : decode cX1_furtherBytes 13 = .ok (.if_icmp .lt 10, 3) := by decide +kernel
theorem dX1_furtherBytes_16 : decode cX1_furtherBytes 16 = .ok (.iload_n 0, 1) := by decide +kernel
theorem dX1_furtherBytes_17 : decode cX1_furtherBytes 17 = .ok (.sipush 244, 3) := by decide +kernel
theorem dX1_furtherBytes_20 : decode cX1_furtherBytes 20 = .ok (.if_icmp .le 5, 3) := by decide +kernel
theorem dX1_furtherBytes_23 : decode cX1_furtherBytes 23 = .ok (.iconst (-1), 1) := by decide +kernel
theorem dX1_furtherBytes_24 : decode cX1_furtherBytes 24 = .ok (.ireturn, 1) := by decide +kernel
theorem dX1_furtherBytes_25 : decode cX1_furtherBytes 25 = .ok (.iload_n 0, 1) := by decide +kernel
theorem dX1_furtherBytes_26 : decode cX1_furtherBytes 26 = .ok (.sipush 224, 3) := by decide +kernel
theorem dX1_furtherBytes_29 : decode cX1_furtherBytes 29 = .ok (.if_icmp .ge 7, 3) := by decide +kernel
theorem dX1_furtherBytes_32 : decode cX1_furtherBytes 32 = .ok (.iconst 1, 1) := by decide +kernel
theorem dX1_furtherBytes_33 : decode cX1_furtherBytes 33 = .ok (.goto 15, 3) := by decide +kernel
theorem dX1_furtherBytes_36 : decode cX1_furtherBytes 36 = .ok (.iload_n 0, 1) := by decide +kernel
theorem dX1_furtherBytes_37 : decode cX1_furtherBytes 37 = .ok (.sipush 240, 3) := by decide +kernel
theorem dX1_furtherBytes_40 : decode cX1_furtherBytes 40 = .ok (.if_icmp .ge 7, 3) := by decide +kernel
theorem dX1_furtherBytes_43 : decode cX1_furtherBytes 43 = .ok (.iconst 2, 1) := by decide +kernel
theorem dX1_furtherBytes_44 : decode cX1_furtherBytes 44 = .ok (.goto 4, 3) := by decide +kernel
theorem dX1_furtherBytes_47 : decode cX1_furtherBytes 47 = .ok (.iconst 3, 1) := by decide +kernel
theorem dX1_furtherBytes_48 : decode cX1_furtherBytes 48 = .ok (.ireturn, 1) := by decide +kernel
abbrev rm_X1_furtherBytes : Room := { frames := 0, cells := 0, slots := 0, locals := 0 }
def f_X1_furtherBytes_L23 (cy : Nat → ClassId)  (μ : Mem) : Option (Int32 × Mem) :=
  some ((-1), μ)
set_option maxRecDepth 100000 in
set_option maxHeartbeats 4000000 in
theorem w_X1_furtherBytes_L23 {p : Program} {l : Launch} {e : Env} {s : State} {m : MethodId} {args : Array Value} {below : List Frame} {meth : Method} {c : Code} {A : Nat → Prop} {g : Wg} {L : List Nat} {r : Int32} {μ' : Mem} (hC : CX p m c cX1_furtherBytes 1 s args RX1) (hr : meth.sig.returnType = (some .int)) (hlocks : meth.locks = false) : ∀  (μ : Mem) (H : Heap) (locs : List Loc) (ls : Array Slot), lv_has ls 1 [] → PW g L μ A s H locs → f_X1_furtherBytes_L23 g.2  μ = some (r, μ') → W p l e rm_X1_furtherBytes s m args below meth c H locs 0 0 (MQ below (QI g L A r μ') args s 0 0 A) (F0 m 23 ls []) := by
  have hx := hC.1
  have hb := hC.2.1
  intro  μ H locs ls hl hw hf
  unfold f_X1_furtherBytes_L23 at hf
  refine lv_iconst (v := (-1)) hx hb dX1_furtherBytes_23 nc_iconst_m1 ?_
  obtain ⟨rfl, rfl⟩ := o_ret hf
  exact pw_iret hC hr hlocks hw dX1_furtherBytes_24
def f_X1_furtherBytes (cy : Nat → ClassId) (a0 : Int32) (μ : Mem) : Option (Int32 × Mem) :=
  if 128 ≤ a0 then (if a0 < 194 then (f_X1_furtherBytes_L23 cy  μ) else if a0 ≤ 244 then (if 224 ≤ a0 then (if 240 ≤ a0 then (some (3, μ)) else some (2, μ)) else some (1, μ)) else f_X1_furtherBytes_L23 cy  μ) else some (0, μ)
set_option maxRecDepth 100000 in
set_option maxHeartbeats 4000000 in
theorem c_X1_furtherBytes {l : Launch} {g : Wg} {L : List Nat} {μ : Mem} {a0 : Int32} {r : Int32} {μ' : Mem} (hf : f_X1_furtherBytes g.2 a0 μ = some (r, μ')) : MetI l yX1_furtherBytes cX1_furtherBytes 1 (some .int) rm_X1_furtherBytes g L μ [.int a0] r μ' := by
  refine pw_met (Qc := fun A => QI g L A r μ') (by decide) (Nat.le_of_ble_eq_true rfl) ?_
  intro p e s m args below meth c A ls H locs hC hr hlocks hl hw
  have hx := hC.1
  have hb := hC.2.1
  have hl : lv_has ls 1 [(0, .int a0)] := hl
  unfold f_X1_furtherBytes at hf
  refine lv_iload_n hx hb dX1_furtherBytes_0 rfl (lv_at hl 0 rfl) ?_
  refine lv_sipush (v := 128) hx hb dX1_furtherBytes_1 nc_sipush_128 ?_
  refine lv_icmp_ge (tgt := 9) hx hb dX1_furtherBytes_4 (by decide) (fun c1 => ?_) (fun c1 => ?_)
  · have hf := o_pos c1 hf
    refine lv_iload_n hx hb dX1_furtherBytes_9 rfl (lv_at hl 0 rfl) ?_
    refine lv_sipush (v := 194) hx hb dX1_furtherBytes_10 nc_sipush_194 ?_
    refine lv_icmp_lt (tgt := 23) hx hb dX1_furtherBytes_13 (by decide) (fun c2 => ?_) (fun c2 => ?_)
    · have hf := o_pos c2 hf
      exact w_X1_furtherBytes_L23 hC hr hlocks  _ _ _ ls (lv_sub hl [] rfl) hw hf
    · have hf := o_neg c2 hf
      refine lv_iload_n hx hb dX1_furtherBytes_16 rfl (lv_at hl 0 rfl) ?_
      refine lv_sipush (v := 244) hx hb dX1_furtherBytes_17 nc_sipush_244 ?_
      refine lv_icmp_le (tgt := 25) hx hb dX1_furtherBytes_20 (by decide) (fun c3 => ?_) (fun c3 => ?_)
      · have hf := o_pos c3 hf
        refine lv_iload_n hx hb dX1_furtherBytes_25 rfl (lv_at hl 0 rfl) ?_
        refine lv_sipush (v := 224) hx hb dX1_furtherBytes_26 nc_sipush_224 ?_
        refine lv_icmp_ge (tgt := 36) hx hb dX1_furtherBytes_29 (by decide) (fun c4 => ?_) (fun c4 => ?_)
        · have hf := o_pos c4 hf
          refine lv_iload_n hx hb dX1_furtherBytes_36 rfl (lv_at hl 0 rfl) ?_
          refine lv_sipush (v := 240) hx hb dX1_furtherBytes_37 nc_sipush_240 ?_
          refine lv_icmp_ge (tgt := 47) hx hb dX1_furtherBytes_40 (by decide) (fun c5 => ?_) (fun c5 => ?_)
          · have hf := o_pos c5 hf
            refine lv_iconst (v := 3) hx hb dX1_furtherBytes_47 nc_iconst_3 ?_
            obtain ⟨rfl, rfl⟩ := o_ret hf
            exact pw_iret hC hr hlocks hw dX1_furtherBytes_48
          · have hf := o_neg c5 hf
            refine lv_iconst (v := 2) hx hb dX1_furtherBytes_43 nc_iconst_2 ?_
            refine lv_goto (tgt := 48) hx hb dX1_furtherBytes_44 (by decide) ?_
            obtain ⟨rfl, rfl⟩ := o_ret hf
            exact pw_iret hC hr hlocks hw dX1_furtherBytes_48
        · have hf := o_neg c4 hf
          refine lv_iconst (v := 1) hx hb dX1_furtherBytes_32 nc_iconst_1 ?_
          refine lv_goto (tgt := 48) hx hb dX1_furtherBytes_33 (by decide) ?_
          obtain ⟨rfl, rfl⟩ := o_ret hf
          exact pw_iret hC hr hlocks hw dX1_furtherBytes_48
      · have hf := o_neg c3 hf
        exact w_X1_furtherBytes_L23 hC hr hlocks  _ _ _ ls (lv_sub hl [] rfl) hw hf
  · have hf := o_neg c1 hf
    refine lv_iconst (v := 0) hx hb dX1_furtherBytes_7 nc_iconst_0 ?_
    obtain ⟨rfl, rfl⟩ := o_ret hf
    exact pw_iret hC hr hlocks hw dX1_furtherBytes_8
theorem dX1_isSign_0 : decode cX1_isSign 0 = .ok (.iconst 1, 1) := by decide +kernel
theorem dX1_isSign_1 : decode cX1_isSign 1 = .ok (.istore_n 3, 1) := by decide +kernel
theorem dX1_isSign_2 : decode cX1_isSign 2 = .ok (.iload_n 3, 1) := by decide +kernel
theorem dX1_isSign_3 : decode cX1_isSign 3 = .ok (.iload_n 2, 1) := by decide +kernel
theorem dX1_isSign_4 : decode cX1_isSign 4 = .ok (.if_icmp .gt 28, 3) := by decide +kernel
theorem dX1_isSign_7 : decode cX1_isSign 7 = .ok (.aload_n 0, 1) := by decide +kernel
theorem dX1_isSign_8 : decode cX1_isSign 8 = .ok (.iload_n 1, 1) := by decide +kernel
theorem dX1_isSign_9 : decode cX1_isSign 9 = .ok (.iload_n 3, 1) := by decide +kernel
theorem dX1_isSign_10 : decode cX1_isSign 10 = .ok (.iadd, 1) := by decide +kernel
theorem dX1_isSign_11 : decode cX1_isSign 11 = .ok (.invokevirtual 26, 3) := by decide +kernel
theorem dX1_isSign_14 : decode cX1_isSign 14 = .ok (.sipush 192, 3) := by decide +kernel
theorem dX1_isSign_17 : decode cX1_isSign 17 = .ok (.iand, 1) := by decide +kernel
theorem dX1_isSign_18 : decode cX1_isSign 18 = .ok (.sipush 128, 3) := by decide +kernel
theorem dX1_isSign_21 : decode cX1_isSign 21 = .ok (.if_icmp .eq 5, 3) := by decide +kernel
theorem dX1_isSign_24 : decode cX1_isSign 24 = .ok (.iconst 0, 1) := by decide +kernel
theorem dX1_isSign_25 : decode cX1_isSign 25 = .ok (.ireturn, 1) := by decide +kernel
theorem dX1_isSign_26 : decode cX1_isSign 26 = .ok (.iinc 3 1, 3) := by decide +kernel
theorem dX1_isSign_29 : decode cX1_isSign 29 = .ok (.goto (-27), 3) := by decide +kernel
theorem dX1_isSign_32 : decode cX1_isSign 32 = .ok (.aload_n 0, 1) := by decide +kernel
theorem dX1_isSign_33 : decode cX1_isSign 33 = .ok (.iload_n 1, 1) := by decide +kernel
theorem dX1_isSign_34 : decode cX1_isSign 34 = .ok (.iconst 1, 1) := by decide +kernel
theorem dX1_isSign_35 : decode cX1_isSign 35 = .ok (.iadd, 1) := by decide +kernel
theorem dX1_isSign_36 : decode cX1_isSign 36 = .ok (.invokevirtual 26, 3) := by decide +kernel
theorem dX1_isSign_39 : decode cX1_isSign 39 = .ok (.istore_n 3, 1) := by decide +kernel
theorem dX1_isSign_40 : decode cX1_isSign 40 = .ok (.aload_n 0, 1) := by decide +kernel
theorem dX1_isSign_41 : decode cX1_isSign 41 = .ok (.iload_n 1, 1) := by decide +kernel
theorem dX1_isSign_42 : decode cX1_isSign 42 = .ok (.invokevirtual 26, 3) := by decide +kernel
theorem dX1_isSign_45 : decode cX1_isSign 45 = .ok (.lookupswitch 95 #[(224, 43), (237, 56), (240, 69), (244, 82)], 43) := by decide +kernel
theorem dX1_isSign_88 : decode cX1_isSign 88 = .ok (.iload_n 3, 1) := by decide +kernel
theorem dX1_isSign_89 : decode cX1_isSign 89 = .ok (.sipush 160, 3) := by decide +kernel
theorem dX1_isSign_92 : decode cX1_isSign 92 = .ok (.if_icmp .lt 7, 3) := by decide +kernel
theorem dX1_isSign_95 : decode cX1_isSign 95 = .ok (.iconst 1, 1) := by decide +kernel
theorem dX1_isSign_96 : decode cX1_isSign 96 = .ok (.goto 4, 3) := by decide +kernel
theorem dX1_isSign_99 : decode cX1_isSign 99 = .ok (.iconst 0, 1) := by decide +kernel
theorem dX1_isSign_100 : decode cX1_isSign 100 = .ok (.ireturn, 1) := by decide +kernel
theorem dX1_isSign_101 : decode cX1_isSign 101 = .ok (.iload_n 3, 1) := by decide +kernel
theorem dX1_isSign_102 : decode cX1_isSign 102 = .ok (.sipush 160, 3) := by decide +kernel
theorem dX1_isSign_105 : decode cX1_isSign 105 = .ok (.if_icmp .ge 7, 3) := by decide +kernel
theorem dX1_isSign_108 : decode cX1_isSign 108 = .ok (.iconst 1, 1) := by decide +kernel
theorem dX1_isSign_109 : decode cX1_isSign 109 = .ok (.goto 4, 3) := by decide +kernel
theorem dX1_isSign_112 : decode cX1_isSign 112 = .ok (.iconst 0, 1) := by decide +kernel
theorem dX1_isSign_113 : decode cX1_isSign 113 = .ok (.ireturn, 1) := by decide +kernel
theorem dX1_isSign_114 : decode cX1_isSign 114 = .ok (.iload_n 3, 1) := by decide +kernel
theorem dX1_isSign_115 : decode cX1_isSign 115 = .ok (.sipush 144, 3) := by decide +kernel
theorem dX1_isSign_118 : decode cX1_isSign 118 = .ok (.if_icmp .lt 7, 3) := by decide +kernel
theorem dX1_isSign_121 : decode cX1_isSign 121 = .ok (.iconst 1, 1) := by decide +kernel
theorem dX1_isSign_122 : decode cX1_isSign 122 = .ok (.goto 4, 3) := by decide +kernel
theorem dX1_isSign_125 : decode cX1_isSign 125 = .ok (.iconst 0, 1) := by decide +kernel
theorem dX1_isSign_126 : decode cX1_isSign 126 = .ok (.ireturn, 1) := by decide +kernel
theorem dX1_isSign_127 : decode cX1_isSign 127 = .ok (.iload_n 3, 1) := by decide +kernel
theorem dX1_isSign_128 : decode cX1_isSign 128 = .ok (.sipush 144, 3) := by decide +kernel
theorem dX1_isSign_131 : decode cX1_isSign 131 = .ok (.if_icmp .ge 7, 3) := by decide +kernel
theorem dX1_isSign_134 : decode cX1_isSign 134 = .ok (.iconst 1, 1) := by decide +kernel
theorem dX1_isSign_135 : decode cX1_isSign 135 = .ok (.goto 4, 3) := by decide +kernel
theorem dX1_isSign_138 : decode cX1_isSign 138 = .ok (.iconst 0, 1) := by decide +kernel
theorem dX1_isSign_139 : decode cX1_isSign 139 = .ok (.ireturn, 1) := by decide +kernel
theorem dX1_isSign_140 : decode cX1_isSign 140 = .ok (.iconst 1, 1) := by decide +kernel
theorem dX1_isSign_141 : decode cX1_isSign 141 = .ok (.ireturn, 1) := by decide +kernel
abbrev rm_X1_isSign : Room := { frames := 1, cells := 0, slots := 0, locals := 21 }
def f_X1_isSign_L2 (cy : Nat → ClassId) : Nat → Nat → Int32 → Int32 → Int32 → Mem → Option (Int32 × Mem)
  | 0, _, _, _, _, _ => none
  | n + 1, a0, a1, a2, a3, μ => if a2 < a3 then (if isO μ a0 4 = true then (ob2 (f_X5_at cy a0 (a1 + 1) μ) fun r105 μ104 => if isO μ104 a0 4 = true then (ob2 (f_X5_at cy a0 a1 μ104) fun r109 μ108 => if r109 = 224 then (if r105 < 160 then (some (0, μ108)) else some (1, μ108)) else if r109 = 237 then (if 160 ≤ r105 then (some (0, μ108)) else some (1, μ108)) else if r109 = 240 then (if r105 < 144 then (some (0, μ108)) else some (1, μ108)) else if r109 = 244 then (if 144 ≤ r105 then (some (0, μ108)) else some (1, μ108)) else if Op.lookupswitch.offset [((224 : Int), (43 : Int)), ((237 : Int), (56 : Int)), ((240 : Int), (69 : Int)), ((244 : Int), (82 : Int))] 95 (Int32.toInt r109) = 95 then (some (1, μ108)) else none) else none) else none) else if isO μ a0 4 = true then (ob2 (f_X5_at cy a0 (a1 + a3) μ) fun r122 μ121 => if (r122 &&& 192) = 128 then (f_X1_isSign_L2 cy n a0 a1 a2 (a3 + 1) μ121) else some (0, μ121)) else none
set_option maxRecDepth 100000 in
set_option maxHeartbeats 4000000 in
theorem w_X1_isSign_L2 {p : Program} {l : Launch} {e : Env} {s : State} {m : MethodId} {args : Array Value} {below : List Frame} {meth : Method} {c : Code} {A : Nat → Prop} {g : Wg} {L : List Nat} {r : Int32} {μ' : Mem} (hC : CX p m c cX1_isSign 4 s args RX1) (hr : meth.sig.returnType = (some .boolean)) (hlocks : meth.locks = false) : ∀ (n : Nat), ∀ (a0 : Nat) (a1 : Int32) (a2 : Int32) (a3 : Int32) (μ : Mem) (H : Heap) (locs : List Loc) (ls : Array Slot), lv_has ls 4 [(0, .ref a0), (1, .int a1), (2, .int a2), (3, .int a3)] → PW g L μ A s H locs → f_X1_isSign_L2 g.2 n a0 a1 a2 a3 μ = some (r, μ') → W p l e rm_X1_isSign s m args below meth c H locs 0 0 (MQ below (QI g L A r μ') args s 0 0 A) (F0 m 2 ls []) := by
  have hx := hC.1
  have hb := hC.2.1
  intro n
  induction n with
  | zero => intro a0 a1 a2 a3 μ H locs ls hl hw hf; cases hf
  | succ n ih =>
    intro a0 a1 a2 a3 μ H locs ls hl hw hf
    rw [f_X1_isSign_L2] at hf
    refine lv_iload_n hx hb dX1_isSign_2 rfl (lv_at hl 3 rfl) ?_
    refine lv_iload_n hx hb dX1_isSign_3 rfl (lv_at hl 2 rfl) ?_
    refine lv_icmp_gt (tgt := 32) hx hb dX1_isSign_4 (by decide) (fun c101 => ?_) (fun c101 => ?_)
    · have hf := o_pos c101 hf
      refine lv_aload_n hx hb dX1_isSign_32 rfl (lv_at hl 0 rfl) ?_
      refine lv_iload_n hx hb dX1_isSign_33 rfl (lv_at hl 1 rfl) ?_
      refine lv_iconst (v := 1) hx hb dX1_isSign_34 nc_iconst_1 ?_
      refine lv_iadd hx hb dX1_isSign_35 ?_
      obtain ⟨h103, hf⟩ := o_ite hf
      obtain ⟨r105, μ104, h102, hf⟩ := o_bind2 hf
      refine pw_goI hw (pw_runV (As := [.int (a1 + 1)]) (rest := []) hC mm_X5_at tw_375 (c_X5_at h102 _) ⟨rfl, rfl, by decide, by decide⟩ hw h103 rfl hl.1 (Nat.le_of_ble_eq_true rfl) ⟨Nat.zero_le _, Nat.zero_le _⟩ rfl dX1_isSign_36) (fun H locs hw => ?_)
      refine lv_istore_n (lv' := [(3, .int r105), (0, .ref a0), (1, .int a1), (2, .int a2)]) hx hb dX1_isSign_39 rfl hl (by decide) rfl (fun ls hl => ?_)
      refine lv_aload_n hx hb dX1_isSign_40 rfl (lv_at hl 1 rfl) ?_
      refine lv_iload_n hx hb dX1_isSign_41 rfl (lv_at hl 2 rfl) ?_
      obtain ⟨h107, hf⟩ := o_ite hf
      obtain ⟨r109, μ108, h106, hf⟩ := o_bind2 hf
      refine pw_goI hw (pw_runV (As := [.int a1]) (rest := []) hC mm_X5_at tw_375 (c_X5_at h106 _) ⟨rfl, rfl, by decide, by decide⟩ hw h107 rfl hl.1 (Nat.le_of_ble_eq_true rfl) ⟨Nat.zero_le _, Nat.zero_le _⟩ rfl dX1_isSign_42) (fun H locs hw => ?_)
      rcases o_if hf with ⟨c110, hf⟩ | ⟨-, hf⟩
      · refine lv_lookup (off := 43) (tgt := 88) hx hb dX1_isSign_45 (by decide) (by rw [c110]; decide) (by decide) ?_
        refine lv_iload_n hx hb dX1_isSign_88 rfl (lv_at hl 0 rfl) ?_
        refine lv_sipush (v := 160) hx hb dX1_isSign_89 nc_sipush_160 ?_
        refine lv_icmp_lt (tgt := 99) hx hb dX1_isSign_92 (by decide) (fun c111 => ?_) (fun c111 => ?_)
        · have hf := o_pos c111 hf
          refine lv_iconst (v := 0) hx hb dX1_isSign_99 nc_iconst_0 ?_
          obtain ⟨rfl, rfl⟩ := o_ret hf
          exact pw_zret hC hr hlocks (Or.inl rfl) hw dX1_isSign_100
        · have hf := o_neg c111 hf
          refine lv_iconst (v := 1) hx hb dX1_isSign_95 nc_iconst_1 ?_
          refine lv_goto (tgt := 100) hx hb dX1_isSign_96 (by decide) ?_
          obtain ⟨rfl, rfl⟩ := o_ret hf
          exact pw_zret hC hr hlocks (Or.inr rfl) hw dX1_isSign_100
      · rcases o_if hf with ⟨c112, hf⟩ | ⟨-, hf⟩
        · refine lv_lookup (off := 56) (tgt := 101) hx hb dX1_isSign_45 (by decide) (by rw [c112]; decide) (by decide) ?_
          refine lv_iload_n hx hb dX1_isSign_101 rfl (lv_at hl 0 rfl) ?_
          refine lv_sipush (v := 160) hx hb dX1_isSign_102 nc_sipush_160 ?_
          refine lv_icmp_ge (tgt := 112) hx hb dX1_isSign_105 (by decide) (fun c113 => ?_) (fun c113 => ?_)
          · have hf := o_pos c113 hf
            refine lv_iconst (v := 0) hx hb dX1_isSign_112 nc_iconst_0 ?_
            obtain ⟨rfl, rfl⟩ := o_ret hf
            exact pw_zret hC hr hlocks (Or.inl rfl) hw dX1_isSign_113
          · have hf := o_neg c113 hf
            refine lv_iconst (v := 1) hx hb dX1_isSign_108 nc_iconst_1 ?_
            refine lv_goto (tgt := 113) hx hb dX1_isSign_109 (by decide) ?_
            obtain ⟨rfl, rfl⟩ := o_ret hf
            exact pw_zret hC hr hlocks (Or.inr rfl) hw dX1_isSign_113
        · rcases o_if hf with ⟨c114, hf⟩ | ⟨-, hf⟩
          · refine lv_lookup (off := 69) (tgt := 114) hx hb dX1_isSign_45 (by decide) (by rw [c114]; decide) (by decide) ?_
            refine lv_iload_n hx hb dX1_isSign_114 rfl (lv_at hl 0 rfl) ?_
            refine lv_sipush (v := 144) hx hb dX1_isSign_115 nc_sipush_144 ?_
            refine lv_icmp_lt (tgt := 125) hx hb dX1_isSign_118 (by decide) (fun c115 => ?_) (fun c115 => ?_)
            · have hf := o_pos c115 hf
              refine lv_iconst (v := 0) hx hb dX1_isSign_125 nc_iconst_0 ?_
              obtain ⟨rfl, rfl⟩ := o_ret hf
              exact pw_zret hC hr hlocks (Or.inl rfl) hw dX1_isSign_126
            · have hf := o_neg c115 hf
              refine lv_iconst (v := 1) hx hb dX1_isSign_121 nc_iconst_1 ?_
              refine lv_goto (tgt := 126) hx hb dX1_isSign_122 (by decide) ?_
              obtain ⟨rfl, rfl⟩ := o_ret hf
              exact pw_zret hC hr hlocks (Or.inr rfl) hw dX1_isSign_126
          · rcases o_if hf with ⟨c116, hf⟩ | ⟨-, hf⟩
            · refine lv_lookup (off := 82) (tgt := 127) hx hb dX1_isSign_45 (by decide) (by rw [c116]; decide) (by decide) ?_
              refine lv_iload_n hx hb dX1_isSign_127 rfl (lv_at hl 0 rfl) ?_
              refine lv_sipush (v := 144) hx hb dX1_isSign_128 nc_sipush_144 ?_
              refine lv_icmp_ge (tgt := 138) hx hb dX1_isSign_131 (by decide) (fun c117 => ?_) (fun c117 => ?_)
              · have hf := o_pos c117 hf
                refine lv_iconst (v := 0) hx hb dX1_isSign_138 nc_iconst_0 ?_
                obtain ⟨rfl, rfl⟩ := o_ret hf
                exact pw_zret hC hr hlocks (Or.inl rfl) hw dX1_isSign_139
              · have hf := o_neg c117 hf
                refine lv_iconst (v := 1) hx hb dX1_isSign_134 nc_iconst_1 ?_
                refine lv_goto (tgt := 139) hx hb dX1_isSign_135 (by decide) ?_
                obtain ⟨rfl, rfl⟩ := o_ret hf
                exact pw_zret hC hr hlocks (Or.inr rfl) hw dX1_isSign_139
            · obtain ⟨c118, hf⟩ := o_ite hf
              refine lv_lookup (off := 95) (tgt := 140) hx hb dX1_isSign_45 (by decide) c118 (by decide) ?_
              refine lv_iconst (v := 1) hx hb dX1_isSign_140 nc_iconst_1 ?_
              obtain ⟨rfl, rfl⟩ := o_ret hf
              exact pw_zret hC hr hlocks (Or.inr rfl) hw dX1_isSign_141
    · have hf := o_neg c101 hf
      refine lv_aload_n hx hb dX1_isSign_7 rfl (lv_at hl 0 rfl) ?_
      refine lv_iload_n hx hb dX1_isSign_8 rfl (lv_at hl 1 rfl) ?_
      refine lv_iload_n hx hb dX1_isSign_9 rfl (lv_at hl 3 rfl) ?_
      refine lv_iadd hx hb dX1_isSign_10 ?_
      obtain ⟨h120, hf⟩ := o_ite hf
      obtain ⟨r122, μ121, h119, hf⟩ := o_bind2 hf
      refine pw_goI hw (pw_runV (As := [.int (a1 + a3)]) (rest := []) hC mm_X5_at tw_375 (c_X5_at h119 _) ⟨rfl, rfl, by decide, by decide⟩ hw h120 rfl hl.1 (Nat.le_of_ble_eq_true rfl) ⟨Nat.zero_le _, Nat.zero_le _⟩ rfl dX1_isSign_11) (fun H locs hw => ?_)
      refine lv_sipush (v := 192) hx hb dX1_isSign_14 nc_sipush_192 ?_
      refine lv_iand hx hb dX1_isSign_17 ?_
      refine lv_sipush (v := 128) hx hb dX1_isSign_18 nc_sipush_128 ?_
      refine lv_icmp_eq (tgt := 26) hx hb dX1_isSign_21 (by decide) (fun c123 => ?_) (fun c123 => ?_)
      · have hf := o_pos c123 hf
        refine lv_iinc (v := (a3 + 1)) (lv' := [(3, .int (a3 + 1)), (0, .ref a0), (1, .int a1), (2, .int a2)]) hx hb dX1_isSign_26 hl (k := 3) rfl (by first | rfl | decide +kernel) (by decide) rfl (fun ls hl => ?_)
        refine lv_goto (tgt := 2) hx hb dX1_isSign_29 (by decide) ?_
        exact ih _ _ _ _ _ _ _ ls (lv_sub hl [1, 2, 3, 0] rfl) hw hf
      · have hf := o_neg c123 hf
        refine lv_iconst (v := 0) hx hb dX1_isSign_24 nc_iconst_0 ?_
        obtain ⟨rfl, rfl⟩ := o_ret hf
        exact pw_zret hC hr hlocks (Or.inl rfl) hw dX1_isSign_25
def f_X1_isSign (cy : Nat → ClassId) (a0 : Nat) (a1 : Int32) (a2 : Int32) (μ : Mem) : Option (Int32 × Mem) :=
  f_X1_isSign_L2 cy FU a0 a1 a2 1 μ
set_option maxRecDepth 100000 in
set_option maxHeartbeats 4000000 in
theorem c_X1_isSign {l : Launch} {g : Wg} {L : List Nat} {μ : Mem} {a0 : Nat} {a1 : Int32} {a2 : Int32} {r : Int32} {μ' : Mem} (hf : f_X1_isSign g.2 a0 a1 a2 μ = some (r, μ')) : MetI l yX1_isSign cX1_isSign 4 (some .boolean) rm_X1_isSign g L μ [.ref a0, .int a1, .int a2] r μ' := by
  refine pw_met (Qc := fun A => QI g L A r μ') (by decide) (Nat.le_of_ble_eq_true rfl) ?_
  intro p e s m args below meth c A ls H locs hC hr hlocks hl hw
  have hx := hC.1
  have hb := hC.2.1
  have hl : lv_has ls 4 [(0, .ref a0), (1, .int a1), (2, .int a2)] := hl
  unfold f_X1_isSign at hf
  refine lv_iconst (v := 1) hx hb dX1_isSign_0 nc_iconst_1 ?_
  refine lv_istore_n (lv' := [(3, .int 1), (0, .ref a0), (1, .int a1), (2, .int a2)]) hx hb dX1_isSign_1 rfl hl (by decide) rfl (fun ls hl => ?_)
  exact w_X1_isSign_L2 hC hr hlocks FU _ _ _ _ _ _ _ ls (lv_sub hl [1, 2, 3, 0] rfl) hw hf
theorem dX1_firstBadSign_0 : decode cX1_firstBadSign 0 = .ok (.iload_n 1, 1) := by decide +kernel
theorem dX1_firstBadSign_1 : decode cX1_firstBadSign 1 = .ok (.istore_n 3, 1) := by decide +kernel
theorem dX1_firstBadSign_2 : decode cX1_firstBadSign 2 = .ok (.iload_n 1, 1) := by decide +kernel
theorem dX1_firstBadSign_3 : decode cX1_firstBadSign 3 = .ok (.istore 4, 2) := by decide +kernel
theorem dX1_firstBadSign_5 : decode cX1_firstBadSign 5 = .ok (.iload 4, 2) := by decide +kernel
theorem dX1_firstBadSign_7 : decode cX1_firstBadSign 7 = .ok (.iload_n 2, 1) := by decide +kernel
theorem dX1_firstBadSign_8 : decode cX1_firstBadSign 8 = .ok (.if_icmp .ge 57, 3) := by decide +kernel
theorem dX1_firstBadSign_11 : decode cX1_firstBadSign 11 = .ok (.iload_n 3, 1) := by decide +kernel
theorem dX1_firstBadSign_12 : decode cX1_firstBadSign 12 = .ok (.iload_n 2, 1) := by decide +kernel
theorem dX1_firstBadSign_13 : decode cX1_firstBadSign 13 = .ok (.if_icmp .ge 52, 3) := by decide +kernel
theorem dX1_firstBadSign_16 : decode cX1_firstBadSign 16 = .ok (.aload_n 0, 1) := by decide +kernel
theorem dX1_firstBadSign_17 : decode cX1_firstBadSign 17 = .ok (.iload_n 3, 1) := by decide +kernel
theorem dX1_firstBadSign_18 : decode cX1_firstBadSign 18 = .ok (.invokevirtual 26, 3) := by decide +kernel
theorem dX1_firstBadSign_21 : decode cX1_firstBadSign 21 = .ok (.invokestatic 29, 3) := by decide +kernel
theorem dX1_firstBadSign_24 : decode cX1_firstBadSign 24 = .ok (.istore 5, 2) := by decide +kernel
theorem dX1_firstBadSign_26 : decode cX1_firstBadSign 26 = .ok (.iload 5, 2) := by decide +kernel
theorem dX1_firstBadSign_28 : decode cX1_firstBadSign 28 = .ok (.iconst (-1), 1) := by decide +kernel
theorem dX1_firstBadSign_29 : decode cX1_firstBadSign 29 = .ok (.if_icmp .eq 21, 3) := by decide +kernel
theorem dX1_firstBadSign_32 : decode cX1_firstBadSign 32 = .ok (.iload 5, 2) := by decide +kernel
theorem dX1_firstBadSign_34 : decode cX1_firstBadSign 34 = .ok (.iload_n 2, 1) := by decide +kernel
theorem dX1_firstBadSign_35 : decode cX1_firstBadSign 35 = .ok (.iload_n 3, 1) := by decide +kernel
theorem dX1_firstBadSign_36 : decode cX1_firstBadSign 36 = .ok (.isub, 1) := by decide +kernel
theorem dX1_firstBadSign_37 : decode cX1_firstBadSign 37 = .ok (.if_icmp .ge 13, 3) := by decide +kernel
theorem dX1_firstBadSign_40 : decode cX1_firstBadSign 40 = .ok (.aload_n 0, 1) := by decide +kernel
theorem dX1_firstBadSign_41 : decode cX1_firstBadSign 41 = .ok (.iload_n 3, 1) := by decide +kernel
theorem dX1_firstBadSign_42 : decode cX1_firstBadSign 42 = .ok (.iload 5, 2) := by decide +kernel
theorem dX1_firstBadSign_44 : decode cX1_firstBadSign 44 = .ok (.invokestatic 32, 3) := by decide +kernel
theorem dX1_firstBadSign_47 : decode cX1_firstBadSign 47 = .ok (.ifCond .ne 5, 3) := by decide +kernel
theorem dX1_firstBadSign_50 : decode cX1_firstBadSign 50 = .ok (.iload_n 3, 1) := by decide +kernel
theorem dX1_firstBadSign_51 : decode cX1_firstBadSign 51 = .ok (.ireturn, 1) := by decide +kernel
theorem dX1_firstBadSign_52 : decode cX1_firstBadSign 52 = .ok (.iload_n 3, 1) := by decide +kernel
theorem dX1_firstBadSign_53 : decode cX1_firstBadSign 53 = .ok (.iconst 1, 1) := by decide +kernel
theorem dX1_firstBadSign_54 : decode cX1_firstBadSign 54 = .ok (.iload 5, 2) := by decide +kernel
theorem dX1_firstBadSign_56 : decode cX1_firstBadSign 56 = .ok (.iadd, 1) := by decide +kernel
theorem dX1_firstBadSign_57 : decode cX1_firstBadSign 57 = .ok (.iadd, 1) := by decide +kernel
theorem dX1_firstBadSign_58 : decode cX1_firstBadSign 58 = .ok (.istore_n 3, 1) := by decide +kernel
theorem dX1_firstBadSign_59 : decode cX1_firstBadSign 59 = .ok (.iinc 4 1, 3) := by decide +kernel
theorem dX1_firstBadSign_62 : decode cX1_firstBadSign 62 = .ok (.goto (-57), 3) := by decide +kernel
theorem dX1_firstBadSign_65 : decode cX1_firstBadSign 65 = .ok (.iconst (-1), 1) := by decide +kernel
theorem dX1_firstBadSign_66 : decode cX1_firstBadSign 66 = .ok (.ireturn, 1) := by decide +kernel
abbrev rm_X1_firstBadSign : Room := { frames := 2, cells := 0, slots := 0, locals := 44 }
def f_X1_firstBadSign_L50 (cy : Nat → ClassId) (a3 : Int32) (μ : Mem) : Option (Int32 × Mem) :=
  some (a3, μ)
set_option maxRecDepth 100000 in
set_option maxHeartbeats 4000000 in
theorem w_X1_firstBadSign_L50 {p : Program} {l : Launch} {e : Env} {s : State} {m : MethodId} {args : Array Value} {below : List Frame} {meth : Method} {c : Code} {A : Nat → Prop} {g : Wg} {L : List Nat} {r : Int32} {μ' : Mem} (hC : CX p m c cX1_firstBadSign 6 s args RX1) (hr : meth.sig.returnType = (some .int)) (hlocks : meth.locks = false) : ∀ (a3 : Int32) (μ : Mem) (H : Heap) (locs : List Loc) (ls : Array Slot), lv_has ls 6 [(3, .int a3)] → PW g L μ A s H locs → f_X1_firstBadSign_L50 g.2 a3 μ = some (r, μ') → W p l e rm_X1_firstBadSign s m args below meth c H locs 0 0 (MQ below (QI g L A r μ') args s 0 0 A) (F0 m 50 ls []) := by
  have hx := hC.1
  have hb := hC.2.1
  intro a3 μ H locs ls hl hw hf
  unfold f_X1_firstBadSign_L50 at hf
  refine lv_iload_n hx hb dX1_firstBadSign_50 rfl (lv_at hl 0 rfl) ?_
  obtain ⟨rfl, rfl⟩ := o_ret hf
  exact pw_iret hC hr hlocks hw dX1_firstBadSign_51
def f_X1_firstBadSign_L65 (cy : Nat → ClassId)  (μ : Mem) : Option (Int32 × Mem) :=
  some ((-1), μ)
set_option maxRecDepth 100000 in
set_option maxHeartbeats 4000000 in
theorem w_X1_firstBadSign_L65 {p : Program} {l : Launch} {e : Env} {s : State} {m : MethodId} {args : Array Value} {below : List Frame} {meth : Method} {c : Code} {A : Nat → Prop} {g : Wg} {L : List Nat} {r : Int32} {μ' : Mem} (hC : CX p m c cX1_firstBadSign 6 s args RX1) (hr : meth.sig.returnType = (some .int)) (hlocks : meth.locks = false) : ∀  (μ : Mem) (H : Heap) (locs : List Loc) (ls : Array Slot), lv_has ls 6 [] → PW g L μ A s H locs → f_X1_firstBadSign_L65 g.2  μ = some (r, μ') → W p l e rm_X1_firstBadSign s m args below meth c H locs 0 0 (MQ below (QI g L A r μ') args s 0 0 A) (F0 m 65 ls []) := by
  have hx := hC.1
  have hb := hC.2.1
  intro  μ H locs ls hl hw hf
  unfold f_X1_firstBadSign_L65 at hf
  refine lv_iconst (v := (-1)) hx hb dX1_firstBadSign_65 nc_iconst_m1 ?_
  obtain ⟨rfl, rfl⟩ := o_ret hf
  exact pw_iret hC hr hlocks hw dX1_firstBadSign_66
def f_X1_firstBadSign_L5 (cy : Nat → ClassId) : Nat → Nat → Int32 → Int32 → Int32 → Mem → Option (Int32 × Mem)
  | 0, _, _, _, _, _ => none
  | n + 1, a0, a2, a3, a4, μ => if a2 ≤ a4 then (f_X1_firstBadSign_L65 cy  μ) else if a2 ≤ a3 then (f_X1_firstBadSign_L65 cy  μ) else if isO μ a0 4 = true then (ob2 (f_X5_at cy a0 a3 μ) fun r106 μ105 => ob2 (f_X1_furtherBytes cy r106 μ105) fun r109 μ108 => if r109 = (-1) then (f_X1_firstBadSign_L50 cy a3 μ108) else if (a2 - a3) ≤ r109 then (f_X1_firstBadSign_L50 cy a3 μ108) else ob2 (f_X1_isSign cy a0 a3 r109 μ108) fun r114 μ113 => if r114 = 0 then (f_X1_firstBadSign_L50 cy a3 μ113) else f_X1_firstBadSign_L5 cy n a0 a2 (a3 + (1 + r109)) (a4 + 1) μ113) else none
set_option maxRecDepth 100000 in
set_option maxHeartbeats 4000000 in
theorem w_X1_firstBadSign_L5 {p : Program} {l : Launch} {e : Env} {s : State} {m : MethodId} {args : Array Value} {below : List Frame} {meth : Method} {c : Code} {A : Nat → Prop} {g : Wg} {L : List Nat} {r : Int32} {μ' : Mem} (hC : CX p m c cX1_firstBadSign 6 s args RX1) (hr : meth.sig.returnType = (some .int)) (hlocks : meth.locks = false) : ∀ (n : Nat), ∀ (a0 : Nat) (a2 : Int32) (a3 : Int32) (a4 : Int32) (μ : Mem) (H : Heap) (locs : List Loc) (ls : Array Slot), lv_has ls 6 [(0, .ref a0), (2, .int a2), (3, .int a3), (4, .int a4)] → PW g L μ A s H locs → f_X1_firstBadSign_L5 g.2 n a0 a2 a3 a4 μ = some (r, μ') → W p l e rm_X1_firstBadSign s m args below meth c H locs 0 0 (MQ below (QI g L A r μ') args s 0 0 A) (F0 m 5 ls []) := by
  have hx := hC.1
  have hb := hC.2.1
  intro n
  induction n with
  | zero => intro a0 a2 a3 a4 μ H locs ls hl hw hf; cases hf
  | succ n ih =>
    intro a0 a2 a3 a4 μ H locs ls hl hw hf
    rw [f_X1_firstBadSign_L5] at hf
    refine lv_iload hx hb dX1_firstBadSign_5 (lv_at hl 3 rfl) ?_
    refine lv_iload_n hx hb dX1_firstBadSign_7 rfl (lv_at hl 1 rfl) ?_
    refine lv_icmp_ge (tgt := 65) hx hb dX1_firstBadSign_8 (by decide) (fun c101 => ?_) (fun c101 => ?_)
    · have hf := o_pos c101 hf
      exact w_X1_firstBadSign_L65 hC hr hlocks  _ _ _ ls (lv_sub hl [] rfl) hw hf
    · have hf := o_neg c101 hf
      refine lv_iload_n hx hb dX1_firstBadSign_11 rfl (lv_at hl 2 rfl) ?_
      refine lv_iload_n hx hb dX1_firstBadSign_12 rfl (lv_at hl 1 rfl) ?_
      refine lv_icmp_ge (tgt := 65) hx hb dX1_firstBadSign_13 (by decide) (fun c102 => ?_) (fun c102 => ?_)
      · have hf := o_pos c102 hf
        exact w_X1_firstBadSign_L65 hC hr hlocks  _ _ _ ls (lv_sub hl [] rfl) hw hf
      · have hf := o_neg c102 hf
        refine lv_aload_n hx hb dX1_firstBadSign_16 rfl (lv_at hl 0 rfl) ?_
        refine lv_iload_n hx hb dX1_firstBadSign_17 rfl (lv_at hl 2 rfl) ?_
        obtain ⟨h104, hf⟩ := o_ite hf
        obtain ⟨r106, μ105, h103, hf⟩ := o_bind2 hf
        refine pw_goI hw (pw_runV (As := [.int a3]) (rest := []) hC mm_X5_at tw_375 (c_X5_at h103 _) ⟨rfl, rfl, by decide, by decide⟩ hw h104 rfl hl.1 (Nat.le_of_ble_eq_true rfl) ⟨Nat.zero_le _, Nat.zero_le _⟩ rfl dX1_firstBadSign_18) (fun H locs hw => ?_)
        obtain ⟨r109, μ108, h107, hf⟩ := o_bind2 hf
        refine pw_goI hw (pw_runS (As := [.int r106]) (rest := []) hC mm_X1_furtherBytes tw_376 (c_X1_furtherBytes h107 _) ⟨rfl, rfl, by decide, by decide⟩ hw rfl hl.1 (Nat.le_of_ble_eq_true rfl) ⟨Nat.zero_le _, Nat.zero_le _⟩ rfl dX1_firstBadSign_21) (fun H locs hw => ?_)
        refine lv_istore (lv' := [(5, .int r109), (0, .ref a0), (2, .int a2), (3, .int a3), (4, .int a4)]) hx hb dX1_firstBadSign_24 hl (by decide) rfl (fun ls hl => ?_)
        refine lv_iload hx hb dX1_firstBadSign_26 (lv_at hl 0 rfl) ?_
        refine lv_iconst (v := (-1)) hx hb dX1_firstBadSign_28 nc_iconst_m1 ?_
        refine lv_icmp_eq (tgt := 50) hx hb dX1_firstBadSign_29 (by decide) (fun c110 => ?_) (fun c110 => ?_)
        · have hf := o_pos c110 hf
          exact w_X1_firstBadSign_L50 hC hr hlocks _ _ _ _ ls (lv_sub hl [3] rfl) hw hf
        · have hf := o_neg c110 hf
          refine lv_iload hx hb dX1_firstBadSign_32 (lv_at hl 0 rfl) ?_
          refine lv_iload_n hx hb dX1_firstBadSign_34 rfl (lv_at hl 2 rfl) ?_
          refine lv_iload_n hx hb dX1_firstBadSign_35 rfl (lv_at hl 3 rfl) ?_
          refine lv_isub hx hb dX1_firstBadSign_36 ?_
          refine lv_icmp_ge (tgt := 50) hx hb dX1_firstBadSign_37 (by decide) (fun c111 => ?_) (fun c111 => ?_)
          · have hf := o_pos c111 hf
            exact w_X1_firstBadSign_L50 hC hr hlocks _ _ _ _ ls (lv_sub hl [3] rfl) hw hf
          · have hf := o_neg c111 hf
            refine lv_aload_n hx hb dX1_firstBadSign_40 rfl (lv_at hl 1 rfl) ?_
            refine lv_iload_n hx hb dX1_firstBadSign_41 rfl (lv_at hl 3 rfl) ?_
            refine lv_iload hx hb dX1_firstBadSign_42 (lv_at hl 0 rfl) ?_
            obtain ⟨r114, μ113, h112, hf⟩ := o_bind2 hf
            refine pw_goI hw (pw_runS (As := [.ref a0, .int a3, .int r109]) (rest := []) hC mm_X1_isSign tw_379 (c_X1_isSign h112 _) ⟨rfl, rfl, by decide, by decide⟩ hw rfl hl.1 (Nat.le_of_ble_eq_true rfl) ⟨Nat.zero_le _, Nat.zero_le _⟩ rfl dX1_firstBadSign_44) (fun H locs hw => ?_)
            refine lv_if_ne (tgt := 52) hx hb dX1_firstBadSign_47 (by decide) (fun c115 => ?_) (fun c115 => ?_)
            · have hf := o_neg c115 hf
              refine lv_iload_n hx hb dX1_firstBadSign_52 rfl (lv_at hl 3 rfl) ?_
              refine lv_iconst (v := 1) hx hb dX1_firstBadSign_53 nc_iconst_1 ?_
              refine lv_iload hx hb dX1_firstBadSign_54 (lv_at hl 0 rfl) ?_
              refine lv_iadd hx hb dX1_firstBadSign_56 ?_
              refine lv_iadd hx hb dX1_firstBadSign_57 ?_
              refine lv_istore_n (lv' := [(3, .int (a3 + (1 + r109))), (5, .int r109), (0, .ref a0), (2, .int a2), (4, .int a4)]) hx hb dX1_firstBadSign_58 rfl hl (by decide) rfl (fun ls hl => ?_)
              refine lv_iinc (v := (a4 + 1)) (lv' := [(4, .int (a4 + 1)), (3, .int (a3 + (1 + r109))), (5, .int r109), (0, .ref a0), (2, .int a2)]) hx hb dX1_firstBadSign_59 hl (k := 4) rfl (by first | rfl | decide +kernel) (by decide) rfl (fun ls hl => ?_)
              refine lv_goto (tgt := 5) hx hb dX1_firstBadSign_62 (by decide) ?_
              exact ih _ _ _ _ _ _ _ ls (lv_sub hl [3, 4, 1, 0] rfl) hw hf
            · have hf := o_pos c115 hf
              exact w_X1_firstBadSign_L50 hC hr hlocks _ _ _ _ ls (lv_sub hl [3] rfl) hw hf
def f_X1_firstBadSign (cy : Nat → ClassId) (a0 : Nat) (a1 : Int32) (a2 : Int32) (μ : Mem) : Option (Int32 × Mem) :=
  f_X1_firstBadSign_L5 cy FU a0 a2 a1 a1 μ
set_option maxRecDepth 100000 in
set_option maxHeartbeats 4000000 in
theorem c_X1_firstBadSign {l : Launch} {g : Wg} {L : List Nat} {μ : Mem} {a0 : Nat} {a1 : Int32} {a2 : Int32} {r : Int32} {μ' : Mem} (hf : f_X1_firstBadSign g.2 a0 a1 a2 μ = some (r, μ')) : MetI l yX1_firstBadSign cX1_firstBadSign 6 (some .int) rm_X1_firstBadSign g L μ [.ref a0, .int a1, .int a2] r μ' := by
  refine pw_met (Qc := fun A => QI g L A r μ') (by decide) (Nat.le_of_ble_eq_true rfl) ?_
  intro p e s m args below meth c A ls H locs hC hr hlocks hl hw
  have hx := hC.1
  have hb := hC.2.1
  have hl : lv_has ls 6 [(0, .ref a0), (1, .int a1), (2, .int a2)] := hl
  unfold f_X1_firstBadSign at hf
  refine lv_iload_n hx hb dX1_firstBadSign_0 rfl (lv_at hl 1 rfl) ?_
  refine lv_istore_n (lv' := [(3, .int a1), (0, .ref a0), (1, .int a1), (2, .int a2)]) hx hb dX1_firstBadSign_1 rfl hl (by decide) rfl (fun ls hl => ?_)
  refine lv_iload_n hx hb dX1_firstBadSign_2 rfl (lv_at hl 2 rfl) ?_
  refine lv_istore (lv' := [(4, .int a1), (3, .int a1), (0, .ref a0), (1, .int a1), (2, .int a2)]) hx hb dX1_firstBadSign_3 hl (by decide) rfl (fun ls hl => ?_)
  exact w_X1_firstBadSign_L5 hC hr hlocks FU _ _ _ _ _ _ _ ls (lv_sub hl [2, 4, 1, 0] rfl) hw hf
theorem dX5_appendRowName_0 : decode cX5_appendRowName 0 = .ok (.iconst 1, 1) := by decide +kernel
theorem dX5_appendRowName_1 : decode cX5_appendRowName 1 = .ok (.istore_n 2, 1) := by decide +kernel
theorem dX5_appendRowName_2 : decode cX5_appendRowName 2 = .ok (.iconst 1, 1) := by decide +kernel
theorem dX5_appendRowName_3 : decode cX5_appendRowName 3 = .ok (.istore_n 3, 1) := by decide +kernel
theorem dX5_appendRowName_4 : decode cX5_appendRowName 4 = .ok (.iload_n 3, 1) := by decide +kernel
theorem dX5_appendRowName_5 : decode cX5_appendRowName 5 = .ok (.iload_n 1, 1) := by decide +kernel
theorem dX5_appendRowName_6 : decode cX5_appendRowName 6 = .ok (.invokestatic 55, 3) := by decide +kernel
theorem dX5_appendRowName_9 : decode cX5_appendRowName 9 = .ok (.if_icmp .ge 14, 3) := by decide +kernel
theorem dX5_appendRowName_12 : decode cX5_appendRowName 12 = .ok (.iload_n 2, 1) := by decide +kernel
theorem dX5_appendRowName_13 : decode cX5_appendRowName 13 = .ok (.bipush 10, 2) := by decide +kernel
theorem dX5_appendRowName_15 : decode cX5_appendRowName 15 = .ok (.imul, 1) := by decide +kernel
theorem dX5_appendRowName_16 : decode cX5_appendRowName 16 = .ok (.istore_n 2, 1) := by decide +kernel
theorem dX5_appendRowName_17 : decode cX5_appendRowName 17 = .ok (.iinc 3 1, 3) := by decide +kernel
theorem dX5_appendRowName_20 : decode cX5_appendRowName 20 = .ok (.goto (-16), 3) := by decide +kernel
theorem dX5_appendRowName_23 : decode cX5_appendRowName 23 = .ok (.iconst 0, 1) := by decide +kernel
theorem dX5_appendRowName_24 : decode cX5_appendRowName 24 = .ok (.istore_n 3, 1) := by decide +kernel
theorem dX5_appendRowName_25 : decode cX5_appendRowName 25 = .ok (.iload_n 3, 1) := by decide +kernel
theorem dX5_appendRowName_26 : decode cX5_appendRowName 26 = .ok (.bipush 10, 2) := by decide +kernel
theorem dX5_appendRowName_28 : decode cX5_appendRowName 28 = .ok (.if_icmp .ge 31, 3) := by decide +kernel
theorem dX5_appendRowName_31 : decode cX5_appendRowName 31 = .ok (.iload_n 2, 1) := by decide +kernel
theorem dX5_appendRowName_32 : decode cX5_appendRowName 32 = .ok (.ifCond .le 27, 3) := by decide +kernel
theorem dX5_appendRowName_35 : decode cX5_appendRowName 35 = .ok (.aload_n 0, 1) := by decide +kernel
theorem dX5_appendRowName_36 : decode cX5_appendRowName 36 = .ok (.bipush 48, 2) := by decide +kernel
theorem dX5_appendRowName_38 : decode cX5_appendRowName 38 = .ok (.iload_n 1, 1) := by decide +kernel
theorem dX5_appendRowName_39 : decode cX5_appendRowName 39 = .ok (.iload_n 2, 1) := by decide +kernel
theorem dX5_appendRowName_40 : decode cX5_appendRowName 40 = .ok (.idiv, 1) := by decide +kernel
theorem dX5_appendRowName_41 : decode cX5_appendRowName 41 = .ok (.bipush 10, 2) := by decide +kernel
theorem dX5_appendRowName_43 : decode cX5_appendRowName 43 = .ok (.irem, 1) := by decide +kernel
theorem dX5_appendRowName_44 : decode cX5_appendRowName 44 = .ok (.iadd, 1) := by decide +kernel
theorem dX5_appendRowName_45 : decode cX5_appendRowName 45 = .ok (.invokevirtual 45, 3) := by decide +kernel
theorem dX5_appendRowName_48 : decode cX5_appendRowName 48 = .ok (.iload_n 2, 1) := by decide +kernel
theorem dX5_appendRowName_49 : decode cX5_appendRowName 49 = .ok (.bipush 10, 2) := by decide +kernel
theorem dX5_appendRowName_51 : decode cX5_appendRowName 51 = .ok (.idiv, 1) := by decide +kernel
theorem dX5_appendRowName_52 : decode cX5_appendRowName 52 = .ok (.istore_n 2, 1) := by decide +kernel
theorem dX5_appendRowName_53 : decode cX5_appendRowName 53 = .ok (.iinc 3 1, 3) := by decide +kernel
theorem dX5_appendRowName_56 : decode cX5_appendRowName 56 = .ok (.goto (-31), 3) := by decide +kernel
theorem dX5_appendRowName_59 : decode cX5_appendRowName 59 = .ok (.aload_n 0, 1) := by decide +kernel
theorem dX5_appendRowName_60 : decode cX5_appendRowName 60 = .ok (.iconst 0, 1) := by decide +kernel
theorem dX5_appendRowName_61 : decode cX5_appendRowName 61 = .ok (.invokevirtual 45, 3) := by decide +kernel
theorem dX5_appendRowName_64 : decode cX5_appendRowName 64 = .ok (.return_, 1) := by decide +kernel
abbrev rm_X5_appendRowName : Room := { frames := 1, cells := 0, slots := 0, locals := 23 }
def f_X5_appendRowName_L59 (cy : Nat → ClassId) (a0 : Nat) (μ : Mem) : Option Mem :=
  if isO μ a0 4 = true then ((f_X5_append cy a0 0 μ).bind fun μ103 => some μ103) else none
set_option maxRecDepth 100000 in
set_option maxHeartbeats 4000000 in
theorem w_X5_appendRowName_L59 {p : Program} {l : Launch} {e : Env} {s : State} {m : MethodId} {args : Array Value} {below : List Frame} {meth : Method} {c : Code} {A : Nat → Prop} {g : Wg} {L : List Nat} {μ' : Mem} (hC : CX p m c cX5_appendRowName 4 s args RX5) (hr : meth.sig.returnType = none) (hlocks : meth.locks = false) : ∀ (a0 : Nat) (μ : Mem) (H : Heap) (locs : List Loc) (ls : Array Slot), lv_has ls 4 [(0, .ref a0)] → PW g L μ A s H locs → f_X5_appendRowName_L59 g.2 a0 μ = some μ' → W p l e rm_X5_appendRowName s m args below meth c H locs 0 0 (MQ below (QV g L A μ') args s 0 0 A) (F0 m 59 ls []) := by
  have hx := hC.1
  have hb := hC.2.1
  intro a0 μ H locs ls hl hw hf
  unfold f_X5_appendRowName_L59 at hf
  refine lv_aload_n hx hb dX5_appendRowName_59 rfl (lv_at hl 0 rfl) ?_
  refine lv_iconst (v := 0) hx hb dX5_appendRowName_60 nc_iconst_0 ?_
  obtain ⟨h102, hf⟩ := o_ite hf
  obtain ⟨μ103, h101, hf⟩ := o_bind hf
  refine pw_goV hw (pw_runV (As := [.int 0]) (rest := []) hC mm_X5_append tw_183 (c_X5_append h101 _) ⟨rfl, rfl, by decide, by decide⟩ hw h102 rfl hl.1 (Nat.le_of_ble_eq_true rfl) ⟨Nat.zero_le _, Nat.zero_le _⟩ rfl dX5_appendRowName_61) (fun H locs hw => ?_)
  obtain rfl := o_retv hf
  exact pw_vret hC hr hlocks hw dX5_appendRowName_64
def f_X5_appendRowName_L25 (cy : Nat → ClassId) : Nat → Nat → Int32 → Int32 → Int32 → Mem → Option Mem
  | 0, _, _, _, _, _ => none
  | n + 1, a0, a1, a2, a3, μ => if 10 ≤ a3 then (f_X5_appendRowName_L59 cy a0 μ) else if a2 ≤ 0 then (f_X5_appendRowName_L59 cy a0 μ) else if ¬ a2 = 0 then (if isO μ a0 4 = true then ((f_X5_append cy a0 (48 + ((a1 / a2) - (a1 / a2) / 10 * 10)) μ).bind fun μ106 => f_X5_appendRowName_L25 cy n a0 a1 (a2 / 10) (a3 + 1) μ106) else none) else none
set_option maxRecDepth 100000 in
set_option maxHeartbeats 4000000 in
theorem w_X5_appendRowName_L25 {p : Program} {l : Launch} {e : Env} {s : State} {m : MethodId} {args : Array Value} {below : List Frame} {meth : Method} {c : Code} {A : Nat → Prop} {g : Wg} {L : List Nat} {μ' : Mem} (hC : CX p m c cX5_appendRowName 4 s args RX5) (hr : meth.sig.returnType = none) (hlocks : meth.locks = false) : ∀ (n : Nat), ∀ (a0 : Nat) (a1 : Int32) (a2 : Int32) (a3 : Int32) (μ : Mem) (H : Heap) (locs : List Loc) (ls : Array Slot), lv_has ls 4 [(0, .ref a0), (1, .int a1), (2, .int a2), (3, .int a3)] → PW g L μ A s H locs → f_X5_appendRowName_L25 g.2 n a0 a1 a2 a3 μ = some μ' → W p l e rm_X5_appendRowName s m args below meth c H locs 0 0 (MQ below (QV g L A μ') args s 0 0 A) (F0 m 25 ls []) := by
  have hx := hC.1
  have hb := hC.2.1
  intro n
  induction n with
  | zero => intro a0 a1 a2 a3 μ H locs ls hl hw hf; cases hf
  | succ n ih =>
    intro a0 a1 a2 a3 μ H locs ls hl hw hf
    rw [f_X5_appendRowName_L25] at hf
    refine lv_iload_n hx hb dX5_appendRowName_25 rfl (lv_at hl 3 rfl) ?_
    refine lv_bipush (v := 10) hx hb dX5_appendRowName_26 nc_bipush_10 ?_
    refine lv_icmp_ge (tgt := 59) hx hb dX5_appendRowName_28 (by decide) (fun c101 => ?_) (fun c101 => ?_)
    · have hf := o_pos c101 hf
      exact w_X5_appendRowName_L59 hC hr hlocks _ _ _ _ ls (lv_sub hl [0] rfl) hw hf
    · have hf := o_neg c101 hf
      refine lv_iload_n hx hb dX5_appendRowName_31 rfl (lv_at hl 2 rfl) ?_
      refine lv_if_le (tgt := 59) hx hb dX5_appendRowName_32 (by decide) (fun c102 => ?_) (fun c102 => ?_)
      · have hf := o_pos c102 hf
        exact w_X5_appendRowName_L59 hC hr hlocks _ _ _ _ ls (lv_sub hl [0] rfl) hw hf
      · have hf := o_neg c102 hf
        refine lv_aload_n hx hb dX5_appendRowName_35 rfl (lv_at hl 0 rfl) ?_
        refine lv_bipush (v := 48) hx hb dX5_appendRowName_36 nc_bipush_48 ?_
        refine lv_iload_n hx hb dX5_appendRowName_38 rfl (lv_at hl 1 rfl) ?_
        refine lv_iload_n hx hb dX5_appendRowName_39 rfl (lv_at hl 2 rfl) ?_
        obtain ⟨h103, hf⟩ := o_ite hf
        refine lv_idiv hx hb dX5_appendRowName_40 h103 ?_
        refine lv_bipush (v := 10) hx hb dX5_appendRowName_41 nc_bipush_10 ?_
        refine lv_irem hx hb dX5_appendRowName_43 (by decide +kernel) ?_
        refine lv_iadd hx hb dX5_appendRowName_44 ?_
        obtain ⟨h105, hf⟩ := o_ite hf
        obtain ⟨μ106, h104, hf⟩ := o_bind hf
        refine pw_goV hw (pw_runV (As := [.int (48 + ((a1 / a2) - (a1 / a2) / 10 * 10))]) (rest := []) hC mm_X5_append tw_183 (c_X5_append h104 _) ⟨rfl, rfl, by decide, by decide⟩ hw h105 rfl hl.1 (Nat.le_of_ble_eq_true rfl) ⟨Nat.zero_le _, Nat.zero_le _⟩ rfl dX5_appendRowName_45) (fun H locs hw => ?_)
        refine lv_iload_n hx hb dX5_appendRowName_48 rfl (lv_at hl 2 rfl) ?_
        refine lv_bipush (v := 10) hx hb dX5_appendRowName_49 nc_bipush_10 ?_
        refine lv_idiv hx hb dX5_appendRowName_51 (by decide +kernel) ?_
        refine lv_istore_n (lv' := [(2, .int (a2 / 10)), (0, .ref a0), (1, .int a1), (3, .int a3)]) hx hb dX5_appendRowName_52 rfl hl (by decide) rfl (fun ls hl => ?_)
        refine lv_iinc (v := (a3 + 1)) (lv' := [(3, .int (a3 + 1)), (2, .int (a2 / 10)), (0, .ref a0), (1, .int a1)]) hx hb dX5_appendRowName_53 hl (k := 3) rfl (by first | rfl | decide +kernel) (by decide) rfl (fun ls hl => ?_)
        refine lv_goto (tgt := 25) hx hb dX5_appendRowName_56 (by decide) ?_
        exact ih _ _ _ _ _ _ _ ls (lv_sub hl [2, 3, 1, 0] rfl) hw hf
def f_X5_appendRowName_L4 (cy : Nat → ClassId) : Nat → Nat → Int32 → Int32 → Int32 → Mem → Option Mem
  | 0, _, _, _, _, _ => none
  | n + 1, a0, a1, a2, a3, μ => ob2 (f_X1_digitsOf cy a1 μ) fun r103 μ102 => if r103 ≤ a3 then (f_X5_appendRowName_L25 cy FU a0 a1 a2 0 μ102) else f_X5_appendRowName_L4 cy n a0 a1 (a2 * 10) (a3 + 1) μ102
set_option maxRecDepth 100000 in
set_option maxHeartbeats 4000000 in
theorem w_X5_appendRowName_L4 {p : Program} {l : Launch} {e : Env} {s : State} {m : MethodId} {args : Array Value} {below : List Frame} {meth : Method} {c : Code} {A : Nat → Prop} {g : Wg} {L : List Nat} {μ' : Mem} (hC : CX p m c cX5_appendRowName 4 s args RX5) (hr : meth.sig.returnType = none) (hlocks : meth.locks = false) : ∀ (n : Nat), ∀ (a0 : Nat) (a1 : Int32) (a2 : Int32) (a3 : Int32) (μ : Mem) (H : Heap) (locs : List Loc) (ls : Array Slot), lv_has ls 4 [(0, .ref a0), (1, .int a1), (2, .int a2), (3, .int a3)] → PW g L μ A s H locs → f_X5_appendRowName_L4 g.2 n a0 a1 a2 a3 μ = some μ' → W p l e rm_X5_appendRowName s m args below meth c H locs 0 0 (MQ below (QV g L A μ') args s 0 0 A) (F0 m 4 ls []) := by
  have hx := hC.1
  have hb := hC.2.1
  intro n
  induction n with
  | zero => intro a0 a1 a2 a3 μ H locs ls hl hw hf; cases hf
  | succ n ih =>
    intro a0 a1 a2 a3 μ H locs ls hl hw hf
    rw [f_X5_appendRowName_L4] at hf
    refine lv_iload_n hx hb dX5_appendRowName_4 rfl (lv_at hl 3 rfl) ?_
    refine lv_iload_n hx hb dX5_appendRowName_5 rfl (lv_at hl 1 rfl) ?_
    obtain ⟨r103, μ102, h101, hf⟩ := o_bind2 hf
    refine pw_goI hw (pw_runS (As := [.int a1]) (rest := [.int a3]) hC mm_X1_digitsOf tw_812 (c_X1_digitsOf h101 _) ⟨rfl, rfl, by decide, by decide⟩ hw rfl hl.1 (Nat.le_of_ble_eq_true rfl) ⟨Nat.zero_le _, Nat.zero_le _⟩ rfl dX5_appendRowName_6) (fun H locs hw => ?_)
    refine lv_icmp_ge (tgt := 23) hx hb dX5_appendRowName_9 (by decide) (fun c104 => ?_) (fun c104 => ?_)
    · have hf := o_pos c104 hf
      refine lv_iconst (v := 0) hx hb dX5_appendRowName_23 nc_iconst_0 ?_
      refine lv_istore_n (lv' := [(3, .int 0), (0, .ref a0), (1, .int a1), (2, .int a2)]) hx hb dX5_appendRowName_24 rfl hl (by decide) rfl (fun ls hl => ?_)
      exact w_X5_appendRowName_L25 hC hr hlocks FU _ _ _ _ _ _ _ ls (lv_sub hl [1, 2, 3, 0] rfl) hw hf
    · have hf := o_neg c104 hf
      refine lv_iload_n hx hb dX5_appendRowName_12 rfl (lv_at hl 2 rfl) ?_
      refine lv_bipush (v := 10) hx hb dX5_appendRowName_13 nc_bipush_10 ?_
      refine lv_imul hx hb dX5_appendRowName_15 ?_
      refine lv_istore_n (lv' := [(2, .int (a2 * 10)), (0, .ref a0), (1, .int a1), (3, .int a3)]) hx hb dX5_appendRowName_16 rfl hl (by decide) rfl (fun ls hl => ?_)
      refine lv_iinc (v := (a3 + 1)) (lv' := [(3, .int (a3 + 1)), (2, .int (a2 * 10)), (0, .ref a0), (1, .int a1)]) hx hb dX5_appendRowName_17 hl (k := 3) rfl (by first | rfl | decide +kernel) (by decide) rfl (fun ls hl => ?_)
      refine lv_goto (tgt := 4) hx hb dX5_appendRowName_20 (by decide) ?_
      exact ih _ _ _ _ _ _ _ ls (lv_sub hl [2, 3, 1, 0] rfl) hw hf
def f_X5_appendRowName (cy : Nat → ClassId) (a0 : Nat) (a1 : Int32) (μ : Mem) : Option Mem :=
  f_X5_appendRowName_L4 cy FU a0 a1 1 1 μ
set_option maxRecDepth 100000 in
set_option maxHeartbeats 4000000 in
theorem c_X5_appendRowName {l : Launch} {g : Wg} {L : List Nat} {μ : Mem} {a0 : Nat} {a1 : Int32} {μ' : Mem} (hf : f_X5_appendRowName g.2 a0 a1 μ = some μ') : MetV l yX5_appendRowName cX5_appendRowName 4 none rm_X5_appendRowName g L μ [.ref a0, .int a1] μ' := by
  refine pw_met (Qc := fun A => QV g L A μ') (by decide) (Nat.le_of_ble_eq_true rfl) ?_
  intro p e s m args below meth c A ls H locs hC hr hlocks hl hw
  have hx := hC.1
  have hb := hC.2.1
  have hl : lv_has ls 4 [(0, .ref a0), (1, .int a1)] := hl
  unfold f_X5_appendRowName at hf
  refine lv_iconst (v := 1) hx hb dX5_appendRowName_0 nc_iconst_1 ?_
  refine lv_istore_n (lv' := [(2, .int 1), (0, .ref a0), (1, .int a1)]) hx hb dX5_appendRowName_1 rfl hl (by decide) rfl (fun ls hl => ?_)
  refine lv_iconst (v := 1) hx hb dX5_appendRowName_2 nc_iconst_1 ?_
  refine lv_istore_n (lv' := [(3, .int 1), (2, .int 1), (0, .ref a0), (1, .int a1)]) hx hb dX5_appendRowName_3 rfl hl (by decide) rfl (fun ls hl => ?_)
  exact w_X5_appendRowName_L4 hC hr hlocks FU _ _ _ _ _ _ _ ls (lv_sub hl [2, 3, 1, 0] rfl) hw hf
