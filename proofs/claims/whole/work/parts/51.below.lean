theorem tw_1487 : (Jvm.Cond.instanceMethod ({ cls := "SpanShelvesModel$Tree", name := "below", desc := "(I)I" } : Jvm.MethodName)) ∈ tw := tw_t 1487 (by decide +kernel) (by decide +kernel)
theorem tw_1488 : (Jvm.Cond.selects "SpanShelvesModel$Tree" ({ cls := "SpanShelvesModel$Tree", name := "below", desc := "(I)I" } : Jvm.MethodName) ({ cls := "SpanShelvesModel$Tree", name := "below", desc := "(I)I" } : Jvm.MethodName)) ∈ tw := tw_t 1488 (by decide +kernel) (by decide +kernel)
theorem tw_1489 : (Jvm.Cond.code ({ cls := "SpanShelvesModel$Tree", name := "below", desc := "(I)I" } : Jvm.MethodName) prog_10_method_7_code (5 : Nat) (Option.some Jvm.ClassFile.FieldType.int)) ∈ tw := tw_t 1489 (by decide +kernel) (by decide +kernel)
theorem tw_1490 : (Jvm.Cond.methodLink "SpanShelvesModel$Tree" (68 : Nat) ({ cls := "SpanShelvesModel$Tree", name := "below", desc := "(I)I" } : Jvm.MethodName)) ∈ tw := tw_t 1490 (by decide +kernel) (by decide +kernel)
theorem mm_X7_below : MM 6 yX7_below cX7_below 5 (some .int) 1 := ⟨by decide, RX7, TX7, 13, rfl, tw_1487, tw_1488, tw_1489, tw_11, by decide +kernel, by decide +kernel, by decide +kernel⟩
abbrev rm_TB (d : Nat) : Room := { frames := 0 + d, cells := 0, slots := 0, locals := 40 + 24 * d }
theorem fit_TB (d : Nat) {nL : Nat} (h : nL ≤ 5) : fitR (rm_TB (d + 1)) (rm_TB d) nL := ⟨rfl, rfl, by show 0 + d + 1 ≤ 0 + (d + 1); omega, by show 8 + (nL + 11) + (40 + 24 * d) ≤ 40 + 24 * (d + 1); omega⟩
theorem fio_TB (d : Nat) {rm : Room} {nL : Nat} (h : rm.cells = 0 ∧ rm.slots = 0 ∧ rm.frames + 1 ≤ 0 ∧ 8 + (nL + 11) + rm.locals ≤ 40) : fitR (rm_TB (d + 1)) rm nL := ⟨h.1, h.2.1, by have := h.2.2.1; show rm.frames + 1 ≤ 0 + (d + 1); omega, by have := h.2.2.2; show 8 + (nL + 11) + rm.locals ≤ 40 + 24 * (d + 1); omega⟩
theorem fim_TB (d : Nat) : 1 ≤ (rm_TB (d + 1)).frames ∧ 40 ≤ (rm_TB (d + 1)).locals := ⟨by show 1 ≤ 0 + (d + 1); omega, by show 40 ≤ 40 + 24 * (d + 1); omega⟩
theorem dX7_below_0 : decode cX7_below 0 = .ok (.aload_n 0, 1) := by decide +kernel
theorem dX7_below_1 : decode cX7_below 1 = .ok (.getfield 36, 3) := by decide +kernel
theorem dX7_below_4 : decode cX7_below 4 = .ok (.iload_n 1, 1) := by decide +kernel
theorem dX7_below_5 : decode cX7_below 5 = .ok (.iaload, 1) := by decide +kernel
theorem dX7_below_6 : decode cX7_below 6 = .ok (.ifCond .ge 5, 3) := by decide +kernel
theorem dX7_below_9 : decode cX7_below 9 = .ok (.iconst 0, 1) := by decide +kernel
theorem dX7_below_10 : decode cX7_below 10 = .ok (.ireturn, 1) := by decide +kernel
theorem dX7_below_11 : decode cX7_below 11 = .ok (.iconst 0, 1) := by decide +kernel
theorem dX7_below_12 : decode cX7_below 12 = .ok (.istore_n 2, 1) := by decide +kernel
theorem dX7_below_13 : decode cX7_below 13 = .ok (.aload_n 0, 1) := by decide +kernel
theorem dX7_below_14 : decode cX7_below 14 = .ok (.getfield 18, 3) := by decide +kernel
theorem dX7_below_17 : decode cX7_below 17 = .ok (.iload_n 1, 1) := by decide +kernel
theorem dX7_below_18 : decode cX7_below 18 = .ok (.iaload, 1) := by decide +kernel
theorem dX7_below_19 : decode cX7_below 19 = .ok (.istore_n 3, 1) := by decide +kernel
theorem dX7_below_20 : decode cX7_below 20 = .ok (.iload_n 3, 1) := by decide +kernel
theorem dX7_below_21 : decode cX7_below 21 = .ok (.ifCond .lt 33, 3) := by decide +kernel
theorem dX7_below_24 : decode cX7_below 24 = .ok (.aload_n 0, 1) := by decide +kernel
theorem dX7_below_25 : decode cX7_below 25 = .ok (.iload_n 3, 1) := by decide +kernel
theorem dX7_below_26 : decode cX7_below 26 = .ok (.invokevirtual 68, 3) := by decide +kernel
theorem dX7_below_29 : decode cX7_below 29 = .ok (.istore 4, 2) := by decide +kernel
theorem dX7_below_31 : decode cX7_below 31 = .ok (.iload 4, 2) := by decide +kernel
theorem dX7_below_33 : decode cX7_below 33 = .ok (.iload_n 2, 1) := by decide +kernel
theorem dX7_below_34 : decode cX7_below 34 = .ok (.if_icmp .le 8, 3) := by decide +kernel
theorem dX7_below_37 : decode cX7_below 37 = .ok (.iload 4, 2) := by decide +kernel
theorem dX7_below_39 : decode cX7_below 39 = .ok (.goto 4, 3) := by decide +kernel
theorem dX7_below_42 : decode cX7_below 42 = .ok (.iload_n 2, 1) := by decide +kernel
theorem dX7_below_43 : decode cX7_below 43 = .ok (.istore_n 2, 1) := by decide +kernel
theorem dX7_below_44 : decode cX7_below 44 = .ok (.aload_n 0, 1) := by decide +kernel
theorem dX7_below_45 : decode cX7_below 45 = .ok (.getfield 21, 3) := by decide +kernel
theorem dX7_below_48 : decode cX7_below 48 = .ok (.iload_n 3, 1) := by decide +kernel
theorem dX7_below_49 : decode cX7_below 49 = .ok (.iaload, 1) := by decide +kernel
theorem dX7_below_50 : decode cX7_below 50 = .ok (.istore_n 3, 1) := by decide +kernel
theorem dX7_below_51 : decode cX7_below 51 = .ok (.goto (-31), 3) := by decide +kernel
theorem dX7_below_54 : decode cX7_below 54 = .ok (.iconst 1, 1) := by decide +kernel
theorem dX7_below_55 : decode cX7_below 55 = .ok (.iload_n 2, 1) := by decide +kernel
theorem dX7_below_56 : decode cX7_below 56 = .ok (.iadd, 1) := by decide +kernel
theorem dX7_below_57 : decode cX7_below 57 = .ok (.ireturn, 1) := by decide +kernel
def f_X7_below_L43 (cy : Nat → ClassId) (r_X7_below : Nat → Int32 → Mem → Option (Int32 × Mem)) (k20 : Nat → Int32 → Int32 → Mem → Option (Int32 × Mem)) (a0 : Nat) (a3 : Int32) (t0 : Int32) (μ : Mem) : Option (Int32 × Mem) :=
  (rdR μ a0 6 5).bind fun q101 => (rdA cy μ 1 q101 a3).bind fun v103 => k20 a0 t0 v103 μ
set_option maxRecDepth 100000 in
set_option maxHeartbeats 4000000 in
theorem w_X7_below_L43 {p : Program} {l : Launch} {e : Env} {s : State} {m : MethodId} {args : Array Value} {below : List Frame} {meth : Method} {c : Code} {A : Nat → Prop} {g : Wg} {L : List Nat} {r : Int32} {μ' : Mem} (hC : CX p m c cX7_below 5 s args RX7) (hr : meth.sig.returnType = (some .int)) (hlocks : meth.locks = false) {d : Nat} {r_X7_below : Nat → Int32 → Mem → Option (Int32 × Mem)} (hr_X7_below : ∀ {a0 : Nat} {a1 : Int32} {μ : Mem} {r9 : Int32} {μ9 : Mem}, r_X7_below a0 a1 μ = some (r9, μ9) → MetI l yX7_below cX7_below 5 (some .int) (rm_TB d) g L μ [.ref a0, .int a1] r9 μ9) {k20 : Nat → Int32 → Int32 → Mem → Option (Int32 × Mem)} (hk20 : ∀ (a0 : Nat) (a2 : Int32) (a3 : Int32) (μ : Mem) (H : Heap) (locs : List Loc) (ls : Array Slot), lv_has ls 5 [(0, .ref a0), (2, .int a2), (3, .int a3)] → PW g L μ A s H locs → k20 a0 a2 a3 μ = some (r, μ') → W p l e (rm_TB (d + 1)) s m args below meth c H locs 0 0 (MQ below (QI g L A r μ') args s 0 0 A) (F0 m 20 ls [])) : ∀ (a0 : Nat) (a3 : Int32) (t0 : Int32) (μ : Mem) (H : Heap) (locs : List Loc) (ls : Array Slot), lv_has ls 5 [(0, .ref a0), (3, .int a3)] → PW g L μ A s H locs → f_X7_below_L43 g.2 r_X7_below k20 a0 a3 t0 μ = some (r, μ') → W p l e (rm_TB (d + 1)) s m args below meth c H locs 0 0 (MQ below (QI g L A r μ') args s 0 0 A) (F0 m 43 ls [.int t0]) := by
  have hx := hC.1
  have hb := hC.2.1
  intro a0 a3 t0 μ H locs ls hl hw hf
  unfold f_X7_below_L43 at hf
  refine lv_istore_n (lv' := [(2, .int t0), (0, .ref a0), (3, .int a3)]) hx hb dX7_below_43 rfl hl (by decide) rfl (fun ls hl => ?_)
  refine lv_aload_n hx hb dX7_below_44 rfl (lv_at hl 1 rfl) ?_
  obtain ⟨q101, h102, hf⟩ := o_bind hf
  refine pw_get hC fl_X7_21 hw (rdR_F h102) dX7_below_45 ?_
  refine lv_iload_n hx hb dX7_below_48 rfl (lv_at hl 2 rfl) ?_
  obtain ⟨v103, h104, hf⟩ := o_bind hf
  refine pw_iald hC hw h104 dX7_below_49 ?_
  refine lv_istore_n (lv' := [(3, .int v103), (2, .int t0), (0, .ref a0)]) hx hb dX7_below_50 rfl hl (by decide) rfl (fun ls hl => ?_)
  refine lv_goto (tgt := 20) hx hb dX7_below_51 (by decide) ?_
  exact hk20 _ _ _ _ _ _ ls (lv_sub hl [2, 1, 0] rfl) hw hf
def f_X7_below_L20 (cy : Nat → ClassId) (r_X7_below : Nat → Int32 → Mem → Option (Int32 × Mem)) : Nat → Nat → Int32 → Int32 → Mem → Option (Int32 × Mem)
  | 0, _, _, _, _ => none
  | n + 1, a0, a2, a3, μ => if a3 < 0 then (some ((1 + a2), μ)) else if isO μ a0 6 = true then (ob2 (r_X7_below a0 a3 μ) fun r105 μ104 => if r105 ≤ a2 then (f_X7_below_L43 cy r_X7_below (f_X7_below_L20 cy r_X7_below n) a0 a3 a2 μ104) else f_X7_below_L43 cy r_X7_below (f_X7_below_L20 cy r_X7_below n) a0 a3 r105 μ104) else none
set_option maxRecDepth 100000 in
set_option maxHeartbeats 4000000 in
theorem w_X7_below_L20 {p : Program} {l : Launch} {e : Env} {s : State} {m : MethodId} {args : Array Value} {below : List Frame} {meth : Method} {c : Code} {A : Nat → Prop} {g : Wg} {L : List Nat} {r : Int32} {μ' : Mem} (hC : CX p m c cX7_below 5 s args RX7) (hr : meth.sig.returnType = (some .int)) (hlocks : meth.locks = false) {d : Nat} {r_X7_below : Nat → Int32 → Mem → Option (Int32 × Mem)} (hr_X7_below : ∀ {a0 : Nat} {a1 : Int32} {μ : Mem} {r9 : Int32} {μ9 : Mem}, r_X7_below a0 a1 μ = some (r9, μ9) → MetI l yX7_below cX7_below 5 (some .int) (rm_TB d) g L μ [.ref a0, .int a1] r9 μ9) : ∀ (n : Nat), ∀ (a0 : Nat) (a2 : Int32) (a3 : Int32) (μ : Mem) (H : Heap) (locs : List Loc) (ls : Array Slot), lv_has ls 5 [(0, .ref a0), (2, .int a2), (3, .int a3)] → PW g L μ A s H locs → f_X7_below_L20 g.2 r_X7_below n a0 a2 a3 μ = some (r, μ') → W p l e (rm_TB (d + 1)) s m args below meth c H locs 0 0 (MQ below (QI g L A r μ') args s 0 0 A) (F0 m 20 ls []) := by
  have hx := hC.1
  have hb := hC.2.1
  intro n
  induction n with
  | zero => intro a0 a2 a3 μ H locs ls hl hw hf; cases hf
  | succ n ih =>
    intro a0 a2 a3 μ H locs ls hl hw hf
    rw [f_X7_below_L20] at hf
    refine lv_iload_n hx hb dX7_below_20 rfl (lv_at hl 2 rfl) ?_
    refine lv_if_lt (tgt := 54) hx hb dX7_below_21 (by decide) (fun c101 => ?_) (fun c101 => ?_)
    · have hf := o_pos c101 hf
      refine lv_iconst (v := 1) hx hb dX7_below_54 nc_iconst_1 ?_
      refine lv_iload_n hx hb dX7_below_55 rfl (lv_at hl 1 rfl) ?_
      refine lv_iadd hx hb dX7_below_56 ?_
      obtain ⟨rfl, rfl⟩ := o_ret hf
      exact pw_iret hC hr hlocks hw dX7_below_57
    · have hf := o_neg c101 hf
      refine lv_aload_n hx hb dX7_below_24 rfl (lv_at hl 0 rfl) ?_
      refine lv_iload_n hx hb dX7_below_25 rfl (lv_at hl 2 rfl) ?_
      obtain ⟨h103, hf⟩ := o_ite hf
      obtain ⟨r105, μ104, h102, hf⟩ := o_bind2 hf
      refine pw_goI hw (pw_runV (As := [.int a3]) (rest := []) hC mm_X7_below tw_1490 (hr_X7_below h102 _) (fit_TB d (by decide)) hw h103 rfl hl.1 (Nat.le_of_ble_eq_true rfl) ⟨Nat.zero_le _, Nat.zero_le _⟩ rfl dX7_below_26) (fun H locs hw => ?_)
      refine lv_istore (lv' := [(4, .int r105), (0, .ref a0), (2, .int a2), (3, .int a3)]) hx hb dX7_below_29 hl (by decide) rfl (fun ls hl => ?_)
      refine lv_iload hx hb dX7_below_31 (lv_at hl 0 rfl) ?_
      refine lv_iload_n hx hb dX7_below_33 rfl (lv_at hl 2 rfl) ?_
      refine lv_icmp_le (tgt := 42) hx hb dX7_below_34 (by decide) (fun c106 => ?_) (fun c106 => ?_)
      · have hf := o_pos c106 hf
        refine lv_iload_n hx hb dX7_below_42 rfl (lv_at hl 2 rfl) ?_
        exact w_X7_below_L43 hC hr hlocks hr_X7_below ih _ _ _ _ _ _ ls (lv_sub hl [1, 3] rfl) hw hf
      · have hf := o_neg c106 hf
        refine lv_iload hx hb dX7_below_37 (lv_at hl 0 rfl) ?_
        refine lv_goto (tgt := 43) hx hb dX7_below_39 (by decide) ?_
        exact w_X7_below_L43 hC hr hlocks hr_X7_below ih _ _ _ _ _ _ ls (lv_sub hl [1, 3] rfl) hw hf
def fo_X7_below (cy : Nat → ClassId) (r_X7_below : Nat → Int32 → Mem → Option (Int32 × Mem)) (a0 : Nat) (a1 : Int32) (μ : Mem) : Option (Int32 × Mem) :=
  (rdR μ a0 6 10).bind fun q1 => (rdA cy μ 1 q1 a1).bind fun v3 => if 0 ≤ v3 then ((rdR μ a0 6 4).bind fun q6 => (rdA cy μ 1 q6 a1).bind fun v8 => f_X7_below_L20 cy r_X7_below FU a0 0 v8 μ) else some (0, μ)
set_option maxRecDepth 100000 in
set_option maxHeartbeats 4000000 in
theorem co_X7_below {l : Launch} {g : Wg} {L : List Nat} {d : Nat} {r_X7_below : Nat → Int32 → Mem → Option (Int32 × Mem)} (hr_X7_below : ∀ {a0 : Nat} {a1 : Int32} {μ : Mem} {r9 : Int32} {μ9 : Mem}, r_X7_below a0 a1 μ = some (r9, μ9) → MetI l yX7_below cX7_below 5 (some .int) (rm_TB d) g L μ [.ref a0, .int a1] r9 μ9) {μ : Mem} {a0 : Nat} {a1 : Int32} {r : Int32} {μ' : Mem} (hf : fo_X7_below g.2 r_X7_below a0 a1 μ = some (r, μ')) : MetI l yX7_below cX7_below 5 (some .int) (rm_TB (d + 1)) g L μ [.ref a0, .int a1] r μ' := by
  refine pw_met (Qc := fun A => QI g L A r μ') (by decide) (Nat.le_of_ble_eq_true rfl) ?_
  intro p e s m args below meth c A ls H locs hC hr hlocks hl hw
  have hx := hC.1
  have hb := hC.2.1
  have hl : lv_has ls 5 [(0, .ref a0), (1, .int a1)] := hl
  unfold fo_X7_below at hf
  refine lv_aload_n hx hb dX7_below_0 rfl (lv_at hl 0 rfl) ?_
  obtain ⟨q1, h2, hf⟩ := o_bind hf
  refine pw_get hC fl_X7_36 hw (rdR_F h2) dX7_below_1 ?_
  refine lv_iload_n hx hb dX7_below_4 rfl (lv_at hl 1 rfl) ?_
  obtain ⟨v3, h4, hf⟩ := o_bind hf
  refine pw_iald hC hw h4 dX7_below_5 ?_
  refine lv_if_ge (tgt := 11) hx hb dX7_below_6 (by decide) (fun c5 => ?_) (fun c5 => ?_)
  · have hf := o_pos c5 hf
    refine lv_iconst (v := 0) hx hb dX7_below_11 nc_iconst_0 ?_
    refine lv_istore_n (lv' := [(2, .int 0), (0, .ref a0), (1, .int a1)]) hx hb dX7_below_12 rfl hl (by decide) rfl (fun ls hl => ?_)
    refine lv_aload_n hx hb dX7_below_13 rfl (lv_at hl 1 rfl) ?_
    obtain ⟨q6, h7, hf⟩ := o_bind hf
    refine pw_get hC fl_X7_18 hw (rdR_F h7) dX7_below_14 ?_
    refine lv_iload_n hx hb dX7_below_17 rfl (lv_at hl 2 rfl) ?_
    obtain ⟨v8, h9, hf⟩ := o_bind hf
    refine pw_iald hC hw h9 dX7_below_18 ?_
    refine lv_istore_n (lv' := [(3, .int v8), (2, .int 0), (0, .ref a0), (1, .int a1)]) hx hb dX7_below_19 rfl hl (by decide) rfl (fun ls hl => ?_)
    exact w_X7_below_L20 hC hr hlocks hr_X7_below FU _ _ _ _ _ _ ls (lv_sub hl [2, 1, 0] rfl) hw hf
  · have hf := o_neg c5 hf
    refine lv_iconst (v := 0) hx hb dX7_below_9 nc_iconst_0 ?_
    obtain ⟨rfl, rfl⟩ := o_ret hf
    exact pw_iret hC hr hlocks hw dX7_below_10
def g_TB (cy : Nat → ClassId) : Nat → (Nat → Int32 → Mem → Option (Int32 × Mem))
  | 0 => (fun _ _ _ => none)
  | d + 1 => (fo_X7_below cy (g_TB cy d))
def f_X7_below (cy : Nat → ClassId) (d : Nat) : Nat → Int32 → Mem → Option (Int32 × Mem) := (g_TB cy d)
theorem f_X7_below_s (cy : Nat → ClassId) (d : Nat) : f_X7_below cy (d + 1) = fo_X7_below cy (f_X7_below cy d) := rfl
theorem ca_TB {l : Launch} {g : Wg} {L : List Nat} : ∀ (d : Nat), (∀ {a0 : Nat} {a1 : Int32} {μ : Mem} {r9 : Int32} {μ9 : Mem}, f_X7_below g.2 d a0 a1 μ = some (r9, μ9) → MetI l yX7_below cX7_below 5 (some .int) (rm_TB d) g L μ [.ref a0, .int a1] r9 μ9) := by
  intro d
  induction d with
  | zero => exact fun h => by cases h
  | succ d ih =>
    have h0 := @ih
    intro _ _ _ _ _ h
    exact co_X7_below (r_X7_below := f_X7_below g.2 d) h0 h
theorem c_X7_below {l : Launch} {g : Wg} {L : List Nat} {d : Nat} {μ : Mem} {a0 : Nat} {a1 : Int32} {r9 : Int32} {μ9 : Mem} (hf : f_X7_below g.2 d a0 a1 μ = some (r9, μ9)) : MetI l yX7_below cX7_below 5 (some .int) (rm_TB d) g L μ [.ref a0, .int a1] r9 μ9 := (ca_TB d) hf
