/-! METHODS THAT MAY THROW: a result is a thrown class with the memory behind it, or an answer with it. -/
abbrev RX : Type := (String × Mem) ⊕ (Option Value × Mem)
def xstrs : List (Nat × String) := [(336, "there is no such shelf"), (345, "the bytes have a fault"), (339, "the cursor is at no element"), (185, "the element's value is no number"), (351, "the document would be too big"), (241, "no element can have this number"), (259, "the names in a row are fixed"), (341, "no document is open"), (305, "the sheet would be too big"), (322, "there is no sheet that is done")]
/-- what a throw needs of the start: the two statics of Throwable, the texts -/
def XS (A : Nat → Prop) (U : State) (H : Heap) : Prop := vx_Zq Bundle.tN "UNASSIGNED_STACK" Bundle.steD A U H ∧ vx_Zq Bundle.tN "SUPPRESSED_SENTINEL" Bundle.listD A U H ∧ ∀ q ∈ xstrs, ∃ sa, vk_R "SpanShelves" q.1 q.2 sa U
def pPreX (g : Wg) (L : List Nat) (μ : Mem) (av : List Value) (sz : Nat) : Array Value → State → Prop := fun a U => pPre g L μ av sz a U ∧ XS (pA L sz) U U.heap
def QX (g : Wg) (L : List Nat) (A : Nat → Prop) (res : RX) : Array Value → State → Outcome → State → Prop := fun _ st oc t => match res with
  | .inr q => oc = .returned q.1 ∧ pAt g L A q.2 t ∧ va_F A st t
  | .inl _ => False
def XX (g : Wg) (L : List Nat) (A : Nat → Prop) (res : RX) : String → State → State → Prop := fun E st t => match res with
  | .inl e => E = e.1 ∧ pAt g L A e.2 t ∧ va_F A st t
  | .inr _ => False
def MetX (l : Launch) (y : MethodName) (cc : ByteArray) (nL : Nat) (ret : Option FieldType) (rm : Room) (g : Wg) (L : List Nat) (μ : Mem) (av : List Value) (res : RX) : Prop :=
  ∀ sz, vx_Met l y [Cond.code y cc nL ret] rm (pPreX g L μ av sz) (QX g L (pA L sz) res) (XX g L (pA L sz) res) rm.cells rm.slots (pA L sz)
def rvI (r : (String × Mem) ⊕ (Int32 × Mem)) : RX := match r with
  | .inl e => .inl e
  | .inr q => .inr (some (.int q.1), q.2)
def rvL (r : (String × Mem) ⊕ (Int64 × Mem)) : RX := match r with
  | .inl e => .inl e
  | .inr q => .inr (some (.long q.1), q.2)
def rvR (r : (String × Mem) ⊕ (Nat × Mem)) : RX := match r with
  | .inl e => .inl e
  | .inr q => .inr (some (.ref q.1), q.2)
def rvV (r : (String × Mem) ⊕ Mem) : RX := match r with
  | .inl e => .inl e
  | .inr q => .inr (none, q)
theorem XS.calling {A : Nat → Prop} {U : State} {g' : JFrame} {mk : MethodId} {a : Array Value} (h : XS A U U.heap) : XS A (U.calling g' mk a) (U.calling g' mk a).heap :=
  ⟨vx_Zq.moved (u := U) (Vm.Alike.refl U.vm) h.1, vx_Zq.moved (u := U) (Vm.Alike.refl U.vm) h.2.1, fun q hq => let ⟨sa, hs⟩ := h.2.2 q hq; ⟨sa, vk_R.same (u := U) rfl hs⟩⟩
theorem pBlindX {g : Wg} {L : List Nat} {μ : Mem} {av : List Value} {sz : Nat} : FrameBlind (pPreX g L μ av sz) := fun a U g' mk h => ⟨pBlind a U g' mk h.1, h.2.calling⟩
/-- the words of 'throw new cls(text)' -/
def TW (own : String) (ik ic : Nat) (cls : String) (names : List String) : Prop := Bundle.fit cls = true ∧ (∀ n ∈ names, Bundle.fit n = true) ∧ Cond.classLink own ik cls ∈ tw ∧ Cond.initialized cls ∈ tw ∧ ∀ w ∈ vx_atS own ic cls names, w ∈ tw
def TWN (own : String) (ik ic : Nat) (cls : String) (names : List String) : Prop := Bundle.fit cls = true ∧ (∀ n ∈ names, Bundle.fit n = true) ∧ Cond.classLink own ik cls ∈ tw ∧ Cond.initialized cls ∈ tw ∧ ∀ w ∈ nx_atS own ic cls names, w ∈ tw
theorem tw_ot {w : Cond} (h : w ∈ tw) : vx_ot w = true := by
  unfold vx_ot
  rw [tw_on h]
  rfl
section PWX
variable {p : Program} {l : Launch} {e : Env} {R : Room} {s : State} {m : MethodId} {args : Array Value} {below : List Frame} {meth : Method} {c : Code} {H : Heap} {locs : List Loc} {cells slots : Nat} {Q : State → Prop}
variable {cc : ByteArray} {pc nL : Nat} {ls : Array Slot} {rest : List Value} {g : Wg} {L : List Nat} {μ μ' : Mem} {A : Nat → Prop} {a ci k index mc ms : Nat} {own : String}
theorem XS.go (hX : XS A s s.heap) (hw : PW g L μ A s H locs) {U : State} (hU : U.heap = H) (hW : s.WarmedH U.vm) : XS (pA L H.size) U U.heap := by
  rw [hU]
  have hk := hw.2.2.2.1.2.1
  exact ⟨vx_Zq.moved hW.alike ((hX.1.kept hk).narrow (pA_sub hw)), vx_Zq.moved hW.alike ((hX.2.1.kept hk).narrow (pA_sub hw)), fun q hq => let ⟨sa, hs⟩ := hX.2.2 q hq; ⟨sa, vk_R.warm hW hs⟩⟩
theorem pw_thrS (hC : CX p m c cc nL s args own) (hl0 : l.stackTraces = false) (hw : PW g L μ A s H locs) (hX : XS A s s.heap) (hno : ∀ x ∈ c.exceptionTable.toList, False) (hlocks : meth.locks = false) {cls text : String} {names : List String} {ik is ic : Nat} (ho : own = "SpanShelves") (hT : TW own ik ic cls names) (hs : (is, text) ∈ xstrs) (hsz : ls.size = nL)
    (d0 : decode cc pc = .ok (.new ik, 3)) (d3 : decode cc (pc + 3) = .ok (.dup, 1)) (d4 : decode cc (pc + 4) = .ok (.ldc is, 2)) (d6 : decode cc (pc + 6) = .ok (.invokespecial ic, 3)) (d9 : decode cc (pc + 9) = .ok (.athrow, 1))
    (hRf : names.length + 3 < R.frames) (hRl : (rest.map fun v => v.category).sum + (13 * (names.length + 1) + 43) ≤ R.locals) (hc : cells + 1 ≤ R.cells) (hsl : slots + 6 ≤ R.slots) (hc2 : cells + 1 ≤ mc) (hs2 : slots + 6 ≤ ms) :
    W p l e R s m args below meth c H locs cells slots (vx_MQ below (QX g L A (.inl (cls, μ))) (XX g L A (.inl (cls, μ))) args s mc ms A) (F0 m pc ls rest) := by
  obtain ⟨hx, hb, hml, hown, hts⟩ := hC
  obtain ⟨t1, t2, t3, t4, t5⟩ := hT
  obtain ⟨sa, hsa⟩ := hX.2.2 _ hs
  subst ho
  refine vx_throwS hx hb hl0 hown t1 t2 (hts _ t3) (hts _ t4) hsa (fun w h => hts _ (t5 w h)) (fun w h => ?_) hX.1 hX.2.1 hw.2.2.2.1 (hsz.trans hml.symm) d0 d3 d4 d6 d9 (fun x hx => (hno x hx).elim) hRf hRl hc hsl hlocks (fun t ha hz hk => ?_) hw.2.2.2.1.2.2 hc2 hs2
  · rcases List.mem_cons.mp h with rfl | h
    · exact tw_ot t3
    · rcases List.mem_cons.mp h with rfl | h
      · exact tw_ot t4
      · exact tw_ot (t5 w h)
  · have hP : va_P g.1 vwCl (va_pl L μ) t.heap := hw.1.kept (fun k x hx => hk x.1 (hw.1 k x hx).lt)
    exact ⟨rfl, ⟨hP, va_K.moved ha hw.2.2.1, hw.2.1, hw.2.2.2.2.1⟩, Nat.le_trans hw.2.2.2.1.1 hz, fun q h1 h2 => (hk q (Nat.lt_of_lt_of_le h1 hw.2.2.2.1.1)).trans (hw.2.2.2.1.2.1 q h1 h2)⟩
theorem pw_thrSW (hC : CX p m c cc nL s args own) (hl0 : l.stackTraces = false) (hw : PW g L μ A s H locs) (hX : XS A s s.heap) (hno : ∀ x ∈ c.exceptionTable.toList, False) (hlocks : meth.locks = false) {cls text : String} {names : List String} {ik is ic : Nat} (ho : own = "SpanShelves") (hT : TW own ik ic cls names) (hs : (is, text) ∈ xstrs) (hsz : ls.size = nL)
    (d0 : decode cc pc = .ok (.new ik, 3)) (d3 : decode cc (pc + 3) = .ok (.dup, 1)) (d4 : decode cc (pc + 4) = .ok (.ldc_w is, 3)) (d7 : decode cc (pc + 7) = .ok (.invokespecial ic, 3)) (d10 : decode cc (pc + 10) = .ok (.athrow, 1))
    (hRf : names.length + 3 < R.frames) (hRl : (rest.map fun v => v.category).sum + (13 * (names.length + 1) + 43) ≤ R.locals) (hc : cells + 1 ≤ R.cells) (hsl : slots + 6 ≤ R.slots) (hc2 : cells + 1 ≤ mc) (hs2 : slots + 6 ≤ ms) :
    W p l e R s m args below meth c H locs cells slots (vx_MQ below (QX g L A (.inl (cls, μ))) (XX g L A (.inl (cls, μ))) args s mc ms A) (F0 m pc ls rest) := by
  obtain ⟨hx, hb, hml, hown, hts⟩ := hC
  obtain ⟨t1, t2, t3, t4, t5⟩ := hT
  obtain ⟨sa, hsa⟩ := hX.2.2 _ hs
  subst ho
  refine vx_throwSW hx hb hl0 hown t1 t2 (hts _ t3) (hts _ t4) hsa (fun w h => hts _ (t5 w h)) (fun w h => ?_) hX.1 hX.2.1 hw.2.2.2.1 (hsz.trans hml.symm) d0 d3 d4 d7 d10 (fun x hx => (hno x hx).elim) hRf hRl hc hsl hlocks (fun t ha hz hk => ?_) hw.2.2.2.1.2.2 hc2 hs2
  · rcases List.mem_cons.mp h with rfl | h
    · exact tw_ot t3
    · rcases List.mem_cons.mp h with rfl | h
      · exact tw_ot t4
      · exact tw_ot (t5 w h)
  · have hP : va_P g.1 vwCl (va_pl L μ) t.heap := hw.1.kept (fun k x hx => hk x.1 (hw.1 k x hx).lt)
    exact ⟨rfl, ⟨hP, va_K.moved ha hw.2.2.1, hw.2.1, hw.2.2.2.2.1⟩, Nat.le_trans hw.2.2.2.1.1 hz, fun q h1 h2 => (hk q (Nat.lt_of_lt_of_le h1 hw.2.2.2.1.1)).trans (hw.2.2.2.1.2.1 q h1 h2)⟩
theorem pw_thrN (hC : CX p m c cc nL s args own) (hl0 : l.stackTraces = false) (hw : PW g L μ A s H locs) (hX : XS A s s.heap) (hno : ∀ x ∈ c.exceptionTable.toList, False) (hlocks : meth.locks = false) {cls text : String} {names : List String} {ik is ic : Nat} (ho : own = "SpanShelves") (hT : TWN own ik ic cls names) (hs : (is, text) ∈ xstrs) (hsz : ls.size = nL)
    (d0 : decode cc pc = .ok (.new ik, 3)) (d3 : decode cc (pc + 3) = .ok (.dup, 1)) (d4 : decode cc (pc + 4) = .ok (.ldc is, 2)) (d6 : decode cc (pc + 6) = .ok (.invokespecial ic, 3)) (d9 : decode cc (pc + 9) = .ok (.athrow, 1))
    (hRf : names.length + 3 < R.frames) (hRl : (rest.map fun v => v.category).sum + (13 * (names.length + 1) + 43) ≤ R.locals) (hc : cells + 1 ≤ R.cells) (hsl : slots + 6 ≤ R.slots) (hc2 : cells + 1 ≤ mc) (hs2 : slots + 6 ≤ ms) :
    W p l e R s m args below meth c H locs cells slots (vx_MQ below (QX g L A (.inl (cls, μ))) (XX g L A (.inl (cls, μ))) args s mc ms A) (F0 m pc ls rest) := by
  obtain ⟨hx, hb, hml, hown, hts⟩ := hC
  obtain ⟨t1, t2, t3, t4, t5⟩ := hT
  obtain ⟨sa, hsa⟩ := hX.2.2 _ hs
  subst ho
  refine nx_throwS hx hb hl0 hown t1 t2 (hts _ t3) (hts _ t4) hsa (fun w h => hts _ (t5 w h)) (fun w h => ?_) hX.1 hX.2.1 hw.2.2.2.1 (hsz.trans hml.symm) d0 d3 d4 d6 d9 (fun x hx => (hno x hx).elim) hRf hRl hc hsl hlocks (fun t ha hz hk => ?_) hw.2.2.2.1.2.2 hc2 hs2
  · rcases List.mem_cons.mp h with rfl | h
    · exact tw_ot t3
    · rcases List.mem_cons.mp h with rfl | h
      · exact tw_ot t4
      · exact tw_ot (t5 w h)
  · have hP : va_P g.1 vwCl (va_pl L μ) t.heap := hw.1.kept (fun k x hx => hk x.1 (hw.1 k x hx).lt)
    exact ⟨rfl, ⟨hP, va_K.moved ha hw.2.2.1, hw.2.1, hw.2.2.2.2.1⟩, Nat.le_trans hw.2.2.2.1.1 hz, fun q h1 h2 => (hk q (Nat.lt_of_lt_of_le h1 hw.2.2.2.1.1)).trans (hw.2.2.2.1.2.1 q h1 h2)⟩
theorem pw_thrNW (hC : CX p m c cc nL s args own) (hl0 : l.stackTraces = false) (hw : PW g L μ A s H locs) (hX : XS A s s.heap) (hno : ∀ x ∈ c.exceptionTable.toList, False) (hlocks : meth.locks = false) {cls text : String} {names : List String} {ik is ic : Nat} (ho : own = "SpanShelves") (hT : TWN own ik ic cls names) (hs : (is, text) ∈ xstrs) (hsz : ls.size = nL)
    (d0 : decode cc pc = .ok (.new ik, 3)) (d3 : decode cc (pc + 3) = .ok (.dup, 1)) (d4 : decode cc (pc + 4) = .ok (.ldc_w is, 3)) (d7 : decode cc (pc + 7) = .ok (.invokespecial ic, 3)) (d10 : decode cc (pc + 10) = .ok (.athrow, 1))
    (hRf : names.length + 3 < R.frames) (hRl : (rest.map fun v => v.category).sum + (13 * (names.length + 1) + 43) ≤ R.locals) (hc : cells + 1 ≤ R.cells) (hsl : slots + 6 ≤ R.slots) (hc2 : cells + 1 ≤ mc) (hs2 : slots + 6 ≤ ms) :
    W p l e R s m args below meth c H locs cells slots (vx_MQ below (QX g L A (.inl (cls, μ))) (XX g L A (.inl (cls, μ))) args s mc ms A) (F0 m pc ls rest) := by
  obtain ⟨hx, hb, hml, hown, hts⟩ := hC
  obtain ⟨t1, t2, t3, t4, t5⟩ := hT
  obtain ⟨sa, hsa⟩ := hX.2.2 _ hs
  subst ho
  refine nx_throwSW hx hb hl0 hown t1 t2 (hts _ t3) (hts _ t4) hsa (fun w h => hts _ (t5 w h)) (fun w h => ?_) hX.1 hX.2.1 hw.2.2.2.1 (hsz.trans hml.symm) d0 d3 d4 d7 d10 (fun x hx => (hno x hx).elim) hRf hRl hc hsl hlocks (fun t ha hz hk => ?_) hw.2.2.2.1.2.2 hc2 hs2
  · rcases List.mem_cons.mp h with rfl | h
    · exact tw_ot t3
    · rcases List.mem_cons.mp h with rfl | h
      · exact tw_ot t4
      · exact tw_ot (t5 w h)
  · have hP : va_P g.1 vwCl (va_pl L μ) t.heap := hw.1.kept (fun k x hx => hk x.1 (hw.1 k x hx).lt)
    exact ⟨rfl, ⟨hP, va_K.moved ha hw.2.2.1, hw.2.1, hw.2.2.2.2.1⟩, Nat.le_trans hw.2.2.2.1.1 hz, fun q h1 h2 => (hk q (Nat.lt_of_lt_of_le h1 hw.2.2.2.1.1)).trans (hw.2.2.2.1.2.1 q h1 h2)⟩
def fitX (R rm2 : Room) (maxL : Nat) : Prop := rm2.frames + 1 ≤ R.frames ∧ 8 + (maxL + 11) + rm2.locals ≤ R.locals
section CALLX
variable {y : MethodName} {bytes : ByteArray} {maxL n : Nat} {ret : Option FieldType} {rm : Room} {b : Nat} {As : List Value} {res : RX}
theorem pw_runVX (hC : CX p m c cc nL s args own) (hm : MM ci y bytes maxL ret n) (hlk : Cond.methodLink own index y ∈ tw) (hM : MetX l y bytes maxL ret rm g L μ (.ref b :: As) res) (hR : fitX R rm maxL) (hw : PW g L μ A s H locs) (hX : XS A s s.heap) (ho : isO μ b ci = true) (hn : As.length = n) (hsz : ls.size = nL) (hcat : (rest.map fun v => v.category).sum ≤ 8) (hcs : cells + rm.cells ≤ R.cells ∧ slots + rm.slots ≤ R.slots)
    {st0 : List Value} (hst : st0 = As.reverse ++ .ref b :: rest) (hdg : decode cc pc = .ok (.invokevirtual index, 3)) : vx_Run p l e R s m args below meth c H locs cells slots rm.cells rm.slots (F0 m pc ls st0) rest (QX g L (pA L H.size) res (Value.ref b :: As).toArray) (XX g L (pA L H.size) res) (pA L H.size) := by
  obtain ⟨h99, C, T, N, hc, h1, h2, h3, h4, h5, h6, h7⟩ := hm
  obtain ⟨fs, hbm⟩ := isO_at ho
  obtain ⟨q0, he⟩ := pl_get (μ := μ) (hw.inr hbm h99)
  rw [hbm] at he
  have hts := hC.2.2.2.2
  exact vx_runV (C := C) (bytes := bytes) (maxL := maxL) (ret := ret) (As := As) (rest := rest) (n := n) hC (hM H.size) ⟨⟨rfl, rfl, hR.1, hR.2, code1 hw.2.2.2.2.2.2 h3, List.mem_singleton.mpr rfl, hts _ h3, hts _ h4, ⟨h5, h6⟩, par_n h7, hts _ hlk⟩, hts _ h1, hts _ h2⟩
    ⟨pBlindX, va_recv hw.2.2.1 hw.1 hc he, fun U hU hW => ⟨pPre_of hw hU hW, hX.go hw hU hW⟩⟩ rfl hn hsz hst (lv_room hcat) hdg hcs
theorem pw_runSX (hC : CX p m c cc nL s args own) (hm : MS y bytes maxL ret n) (hlk : Cond.methodLink own index y ∈ tw) (hM : MetX l y bytes maxL ret rm g L μ As res) (hR : fitX R rm maxL) (hw : PW g L μ A s H locs) (hX : XS A s s.heap) (hn : As.length = n) (hsz : ls.size = nL) (hcat : (rest.map fun v => v.category).sum ≤ 8) (hcs : cells + rm.cells ≤ R.cells ∧ slots + rm.slots ≤ R.slots)
    {st0 : List Value} (hst : st0 = As.reverse ++ rest) (hdg : decode cc pc = .ok (.invokestatic index, 3)) : vx_Run p l e R s m args below meth c H locs cells slots rm.cells rm.slots (F0 m pc ls st0) rest (QX g L (pA L H.size) res As.toArray) (XX g L (pA L H.size) res) (pA L H.size) := by
  obtain ⟨h1, h3, h4, h5, h6, h7⟩ := hm
  have hts := hC.2.2.2.2
  exact vx_runS (bytes := bytes) (maxL := maxL) (ret := ret) (As := As) (rest := rest) (n := n) hC (hM H.size) ⟨⟨rfl, rfl, hR.1, hR.2, code1 hw.2.2.2.2.2.2 h3, List.mem_singleton.mpr rfl, hts _ h3, hts _ h4, ⟨h5, h6⟩, par_n h7, hts _ hlk⟩, hts _ h1⟩
    ⟨pBlindX, fun U hU hW => ⟨pPre_of hw hU hW, hX.go hw hU hW⟩⟩ rfl hn hsz hst (lv_room hcat) hdg hcs
theorem pw_goX {v : Option Value} {st0 : List Value} {aa : Array Value} (hw : PW g L μ A s H locs) (hr : vx_Run p l e R s m args below meth c H locs cells slots mc ms (F0 m pc ls st0) rest (QX g L (pA L H.size) (.inr (v, μ')) aa) (XX g L (pA L H.size) (.inr (v, μ'))) (pA L H.size))
    (kk : ∀ (H1 : Heap) (locs1 : List Loc), PW g L μ' A s H1 locs1 → W p l e R s m args below meth c H1 locs1 (cells + mc) (slots + ms) Q (F0 m (pc + 3) ls (v.toList ++ rest))) : W p l e R s m args below meth c H locs cells slots Q (F0 m pc ls st0) := by
  intro T hT X
  rcases hr T hT X with ⟨v1, st₀, t, T', L1, h0, X', hL, e1, e2, ⟨hv, hB, hF⟩, st⟩ | ⟨q, st₀, t, T', L1, E, ce, h0, X', hL, e1, e2, hf, hce, hcv, hcl, st⟩
  · cases hv
    obtain ⟨k1, k2, k3⟩ := vx_keep h0 e1 hw.2.2.2.1 (fun q _ h => pA_sub hw q h) (pA_sub hw) hL hF
    obtain ⟨t2, a1, b1⟩ := kk T'.heap (locs ++ L1) (hw.back e1.symm (by rw [← e2]; exact X'.warmed.alike) hB k3) T' rfl X'
    exact ⟨t2, st t2 a1, b1⟩
  · exact hf.elim
theorem pw_thru {er : String × Mem} {MC MS : Nat} {st0 : List Value} {aa : Array Value} (hw : PW g L μ A s H locs) (hno : ∀ x ∈ c.exceptionTable.toList, False) (hlocks : meth.locks = false) (hr : vx_Run p l e R s m args below meth c H locs cells slots mc ms (F0 m pc ls st0) rest (QX g L (pA L H.size) (.inl er) aa) (XX g L (pA L H.size) (.inl er)) (pA L H.size)) (h1 : cells + mc ≤ MC) (h2 : slots + ms ≤ MS) :
    W p l e R s m args below meth c H locs cells slots (vx_MQ below (QX g L A (.inl er)) (XX g L A (.inl er)) args s MC MS A) (F0 m pc ls st0) := by
  intro T hT X
  rcases hr T hT X with ⟨v1, st₀, t, T', L1, h0, X', hL, e1, e2, hf, st⟩ | ⟨q, st₀, t, T', L1, E, ce, h0, X', hL, e1, e2, ⟨rfl, hB, hF⟩, hce, hcv, hcl, st⟩
  · exact hf.elim
  · obtain ⟨k1, k2, k3⟩ := vx_keep h0 e1 hw.2.2.2.1 (fun q _ h => pA_sub hw q h) (pA_sub hw) hL hF
    have hw1 := hw.back e1.symm (by rw [← e2]; exact X'.warmed.alike) hB k3
    obtain ⟨t2, a1, b1⟩ := vx_out (Qc := QX g L A (.inl er)) (XC := XX g L A (.inl er)) (free := A) (rest := rest) (ls := ls) (pc := pc) (mc := MC) (ms := MS) (H := T'.heap) (locs := locs ++ L1) (E := er.1) (p := p) (l := l) (e := e) (R := R) (s := s) (m := m) (args := args) (below := below) (meth := meth) (c := c) (cells := cells + mc) (slots := slots + ms) (fun x hx => (hno x hx).elim) hlocks (by rw [e1]; exact hce) hcv hcl (fun u hu ha => ⟨rfl, ⟨by rw [hu]; exact hw1.1, va_K.moved ha hw1.2.2.1, hw1.2.1, hw1.2.2.2.2.1⟩, hw1.2.2.2.1.F hu⟩) hw1.2.2.2.1.2.2 h1 h2 T' rfl X'
    exact ⟨t2, st.trans a1, b1⟩
end CALLX
section ENDX
variable {mc ms : Nat} {r : Int32} {r8 : Int64} {ra : Nat}
theorem pw_xiret (hC : CX p m c cc nL s args own) (hr : meth.sig.returnType = some .int) (hlocks : meth.locks = false) (h1 : cells ≤ mc) (h2 : slots ≤ ms) (hw : PW g L μ A s H locs) (hdg : decode cc pc = .ok (.ireturn, 1)) : W p l e R s m args below meth c H locs cells slots (vx_MQ below (QX g L A (.inr (some (.int r), μ))) (XX g L A (.inr (some (.int r), μ))) args s mc ms A) (F0 m pc ls [.int r]) :=
  W.widen (k := mc) (n := ms) h1 h2 (vx_ret (W.iret hC.1 hC.2.1 hr (fun t ht hW => ⟨rfl, hw.at' ht hW, hw.2.2.2.1.F ht⟩) hw.2.2.2.1.2.2 hdg hlocks))
theorem pw_xzret (hC : CX p m c cc nL s args own) (hr : meth.sig.returnType = some .boolean) (hlocks : meth.locks = false) (h01 : r = 0 ∨ r = 1) (h1 : cells ≤ mc) (h2 : slots ≤ ms) (hw : PW g L μ A s H locs) (hdg : decode cc pc = .ok (.ireturn, 1)) : W p l e R s m args below meth c H locs cells slots (vx_MQ below (QX g L A (.inr (some (.int r), μ))) (XX g L A (.inr (some (.int r), μ))) args s mc ms A) (F0 m pc ls [.int r]) :=
  W.widen (k := mc) (n := ms) h1 h2 (vx_ret (W.zret hC.1 hC.2.1 hr (by rcases h01 with rfl | rfl <;> decide +kernel) (fun t ht hW => ⟨rfl, hw.at' ht hW, hw.2.2.2.1.F ht⟩) hw.2.2.2.1.2.2 hdg hlocks))
theorem pw_xlret (hC : CX p m c cc nL s args own) (hr : meth.sig.returnType = some .long) (hlocks : meth.locks = false) (h1 : cells ≤ mc) (h2 : slots ≤ ms) (hw : PW g L μ A s H locs) (hdg : decode cc pc = .ok (.lreturn, 1)) : W p l e R s m args below meth c H locs cells slots (vx_MQ below (QX g L A (.inr (some (.long r8), μ))) (XX g L A (.inr (some (.long r8), μ))) args s mc ms A) (F0 m pc ls [.long r8]) :=
  W.widen (k := mc) (n := ms) h1 h2 (vx_ret (W.lret hC.1 hC.2.1 hr (fun t ht hW => ⟨rfl, hw.at' ht hW, hw.2.2.2.1.F ht⟩) hw.2.2.2.1.2.2 hdg hlocks))
theorem pw_xaret (hC : CX p m c cc nL s args own) {cn : String} (hr : meth.sig.returnType = some (.object cn)) (hlocks : meth.locks = false) (h1 : cells ≤ mc) (h2 : slots ≤ ms) (hw : PW g L μ A s H locs) (hdg : decode cc pc = .ok (.areturn, 1)) : W p l e R s m args below meth c H locs cells slots (vx_MQ below (QX g L A (.inr (some (.ref ra), μ))) (XX g L A (.inr (some (.ref ra), μ))) args s mc ms A) (F0 m pc ls [.ref ra]) :=
  W.widen (k := mc) (n := ms) h1 h2 (vx_ret (W.aret hC.1 hC.2.1 hr (Or.inl ⟨cn, rfl⟩) (Or.inr ⟨ra, rfl⟩) (fun t ht hW => ⟨rfl, hw.at' ht hW, hw.2.2.2.1.F ht⟩) hw.2.2.2.1.2.2 hdg hlocks))
theorem pw_xvret (hC : CX p m c cc nL s args own) (hr : meth.sig.returnType = none) (hlocks : meth.locks = false) (h1 : cells ≤ mc) (h2 : slots ≤ ms) (hw : PW g L μ A s H locs) (hdg : decode cc pc = .ok (.return_, 1)) : W p l e R s m args below meth c H locs cells slots (vx_MQ below (QX g L A (.inr (none, μ))) (XX g L A (.inr (none, μ))) args s mc ms A) (F0 m pc ls []) :=
  W.widen (k := mc) (n := ms) h1 h2 (vx_ret (W.vret hC.1 hC.2.1 hr (fun t ht hW => ⟨rfl, hw.at' ht hW, hw.2.2.2.1.F ht⟩) hw.2.2.2.1.2.2 hdg hlocks))
end ENDX
end PWX
theorem pw_metX {l : Launch} {y : MethodName} {cc : ByteArray} {nL : Nat} {ret : Option FieldType} {rm : Room} {g : Wg} {L : List Nat} {μ : Mem} {av : List Value} {res : RX} (hy : plainName y.cls = true) (hlen : (lg_sl av).length ≤ nL)
    (body : ∀ (p : Program) (e : Env) (s : State) (m : MethodId) (args : Array Value) (below : List Frame) (meth : Method) (c : Code) (A : Nat → Prop) (ls : Array Slot) (H : Heap) (locs : List Loc), CX p m c cc nL s args y.cls → meth.sig.returnType = ret → meth.locks = false → lv_has ls nL (lv_args 0 av) → PW g L μ A s H locs → XS A s s.heap → (∀ x ∈ c.exceptionTable.toList, False) →
      W p l e rm s m args below meth c H locs 0 0 (vx_MQ below (QX g L A res) (XX g L A res) args s rm.cells rm.slots A) (F0 m 0 ls [])) : MetX l y cc nL ret rm g L μ av res := by
  intro sz
  refine vx_ofW (cc := cc) (maxL := nL) (ret := ret) hy rfl ?_
  intro p e s m args below meth c s₁ B hml hno hv
  obtain ⟨⟨rfl, hsz, hP, hK, hD0, hJ, hT⟩, hX⟩ := hv
  have hown : s.vm.findClass y.cls = some m.cls := findClass_of_methodNamed B.named
  subst hsz
  rw [lg_entry_eq]
  exact body p e s m _ below meth c (pA L s.heap.size) _ _ _ ⟨B.exec, B.bytes, hml, hown, tb_use hT⟩ B.returns B.notSynchronized (lv_entry av hlen) ⟨hP, pD_w hD0 (fun q h => Or.inl h), hK, va_S.rf, hJ, fun q h => Or.inr h, hT⟩ hX hno
def obX {α β : Type} (x : Option ((String × Mem) ⊕ α)) (k : α → Option ((String × Mem) ⊕ β)) : Option ((String × Mem) ⊕ β) := x.bind fun q => match q with
  | .inl e => some (.inl e)
  | .inr a => k a
def obX2 {α β : Type} (x : Option ((String × Mem) ⊕ (α × Mem))) (k : α → Mem → Option ((String × Mem) ⊕ β)) : Option ((String × Mem) ⊕ β) := obX x fun q => k q.1 q.2
theorem o_bindX {α β : Type} {x : Option ((String × Mem) ⊕ α)} {k : α → Option ((String × Mem) ⊕ β)} {y : (String × Mem) ⊕ β} (h : obX x k = some y) : (∃ er, x = some (.inl er) ∧ y = .inl er) ∨ ∃ a, x = some (.inr a) ∧ k a = some y := by
  obtain ⟨q, h1, h2⟩ := o_bind h
  cases q with
  | inl er => cases h2; exact Or.inl ⟨er, h1, rfl⟩
  | inr a => exact Or.inr ⟨a, h1, h2⟩
theorem o_bindX2 {α β : Type} {x : Option ((String × Mem) ⊕ (α × Mem))} {k : α → Mem → Option ((String × Mem) ⊕ β)} {y : (String × Mem) ⊕ β} (h : obX2 x k = some y) : (∃ er, x = some (.inl er) ∧ y = .inl er) ∨ ∃ a b, x = some (.inr (a, b)) ∧ k a b = some y := by
  rcases o_bindX h with h | ⟨⟨a, b⟩, h1, h2⟩
  · exact Or.inl h
  · exact Or.inr ⟨a, b, h1, h2⟩
