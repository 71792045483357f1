/-! ROWS for methods that catch. -/
def wrL (cy : Nat → ClassId) (μ : Mem) (a : Nat) (x : Int64) : Option Mem := match μ a with
  | .inl (cA, n, .inr (.inl f)) => if cA = cy 3 ∧ 0 < n then some (va_up μ a (.inl (cA, n, .inr (.inl (vp_updL f 0 x))))) else none
  | _ => none
def rdL (cy : Nat → ClassId) (μ : Mem) (a : Nat) : Option Int64 := match μ a with
  | .inl (cA, n, .inr (.inl f)) => if cA = cy 3 ∧ 0 < n then some (f 0) else none
  | _ => none
def EXN : List String := ["java/lang/IndexOutOfBoundsException", "java/lang/IllegalArgumentException", "java/util/NoSuchElementException", "java/lang/IllegalStateException", "java/lang/UnsupportedOperationException"]
/-- the classes that are thrown aren't each other's -/
def NC (U : State) : Prop := ∀ E ∈ EXN, ∀ nm ∈ EXN, E ≠ nm → va_Nc E nm U
theorem NC.moved {u U : State} (hvm : u.vm.Alike U.vm) (h : NC u) : NC U := fun E hE nm hn hne => va_Nc.moved hvm (h E hE nm hn hne)
def pPreH (g : Wg) (L : List Nat) (μ : Mem) (av : List Value) (sz : Nat) : Array Value → State → Prop := fun a U => pPreX g L μ av sz a U ∧ NC U
def MetH (l : Launch) (y : MethodName) (cc : ByteArray) (nL : Nat) (hh : List (Nat × Nat × Nat × Nat)) (rm : Room) (g : Wg) (L : List Nat) (μ : Mem) (av : List Value) (r : Int32) (μ' : Mem) : Prop :=
  ∀ sz, vx_Met l y [Cond.codeWith y cc nL (some .int) hh] rm (pPreH g L μ av sz) (QX g L (pA L sz) (.inr (some (.int r), μ'))) (XX g L (pA L sz) (.inr (some (.int r), μ'))) rm.cells rm.slots (pA L sz)
def HLP (cy : Nat → ClassId) {α : Type} (names : List String) (a : Nat) (cv : α → Int64) (res : (String × Mem) ⊕ (α × Mem)) (k : Int32) (μ' : Mem) : Prop :=
  (∃ r μ1, res = .inr (r, μ1) ∧ wrL cy μ1 a (cv r) = some μ' ∧ k = 0) ∨ ∃ i, i < names.length ∧ res = .inl (names.getD i "", μ') ∧ k = nI (i + 1)
theorem pBlindH {g : Wg} {L : List Nat} {μ : Mem} {av : List Value} {sz : Nat} : FrameBlind (pPreH g L μ av sz) := fun a U g' mk h => ⟨pBlindX a U g' mk h.1, NC.moved (u := U) (Vm.Alike.refl U.vm) h.2⟩
section PWH
variable {p : Program} {l : Launch} {e : Env} {R : Room} {s : State} {m : MethodId} {args : Array Value} {below : List Frame} {meth : Method} {c : Code} {H : Heap} {locs : List Loc} {cells slots : Nat} {Q : State → Prop}
variable {cc : ByteArray} {pc nL : Nat} {ls : Array Slot} {rest : List Value} {g : Wg} {L : List Nat} {μ μ' : Mem} {A : Nat → Prop} {a ci k index mc ms : Nat} {own : String}
theorem pw_last (hC : CX p m c cc nL s args own) (hw : PW g L μ A s H locs) {x : Int64} (hr : wrL g.2 μ a x = some μ') (hdg : decode cc pc = .ok (.lastore, 1))
    (kk : ∀ (H1 : Heap) (locs1 : List Loc), PW g L μ' A s H1 locs1 → W p l e R s m args below meth c H1 locs1 cells slots Q (F0 m (pc + 1) ls rest)) : W p l e R s m args below meth c H locs cells slots Q (F0 m pc ls (.long x :: .int 0 :: .ref a :: rest)) := by
  obtain ⟨hx, hb, -, hown, hts⟩ := hC
  unfold wrL at hr
  split at hr
  · rename_i cA n f hm
    split at hr
    · rename_i e2
      obtain ⟨e2, e3⟩ := e2
      subst e2
      cases hr
      have ha := hw.inl hm
      obtain ⟨q0, he⟩ := pl_get (μ := μ) ha
      have he' := he
      rw [hm] at he
      exact va_last hx hb hw.2.2.1 hw.1 hw.2.1 hw.2.2.2.1 q0 3 he rfl (show vp_in 0 n from fun h => by rcases h with h | h; exact absurd h (by decide); exact absurd h (by show ¬ n ≤ 0; omega)) hdg (fun H1 locs1 hP _ hS => kk H1 locs1 (hw.step ha he' hP hS))
    · cases hr
  · cases hr
theorem pw_lald (hC : CX p m c cc nL s args own) (hw : PW g L μ A s H locs) {x : Int64} (hr : rdL g.2 μ a = some x) (hdg : decode cc pc = .ok (.laload, 1))
    (kk : W p l e R s m args below meth c H locs cells slots Q (F0 m (pc + 1) ls (.long x :: rest))) : W p l e R s m args below meth c H locs cells slots Q (F0 m pc ls (.int 0 :: .ref a :: rest)) := by
  obtain ⟨hx, hb, -, hown, hts⟩ := hC
  unfold rdL at hr
  split at hr
  · rename_i cA n f hm
    split at hr
    · rename_i e2
      obtain ⟨e2, e3⟩ := e2
      subst e2
      cases hr
      obtain ⟨q0, he⟩ := pl_get (μ := μ) (hw.inl hm)
      rw [hm] at he
      exact va_lald hx hb hw.2.2.1 hw.1 q0 3 he rfl (show vp_in 0 n from fun h => by rcases h with h | h; exact absurd h (by decide); exact absurd h (by show ¬ n ≤ 0; omega)) hdg kk
    · cases hr
  · cases hr
theorem pw_caught {er : String × Mem} {st0 : List Value} {aa : Array Value} (hC : CX p m c cc nL s args own) (hw : PW g L μ A s H locs) (hr : vx_Run p l e R s m args below meth c H locs cells slots mc ms (F0 m pc ls st0) rest (QX g L (pA L H.size) (.inl er) aa) (XX g L (pA L H.size) (.inl er)) (pA L H.size))
    {name : String} (pre : List ExceptionTableEntry) (x : ExceptionTableEntry) (suf : List ExceptionTableEntry) (hsplit : c.exceptionTable.toList = pre ++ x :: suf)
    (hpass : ∀ z ∈ pre, covers z pc = false ∨ (z.catchType ≠ 0 ∧ ∃ nm : String, (Cond.classLink own z.catchType nm).before args s = true ∧ va_Nc er.1 nm s)) (hcov : covers x pc = true) (h0 : x.catchType ≠ 0)
    (hlink : Cond.classLink own x.catchType name ∈ tw) (hcast : Cond.castable er.1 name ∈ tw)
    (kk : ∀ (q : Nat) (H1 : Heap) (locs1 : List Loc), PW g L er.2 A s H1 locs1 → W p l e R s m args below meth c H1 locs1 (cells + mc) (slots + ms) Q (F0 m x.handlerPc ls [.ref q])) : W p l e R s m args below meth c H locs cells slots Q (F0 m pc ls st0) := by
  intro T hT X
  rcases hr T hT X with ⟨v1, st₀, t, T', L1, h0, X', hL, e1, e2, hf, st⟩ | ⟨q, st₀, t, T', L1, E, ce, h0', X', hL, e1, e2, ⟨rfl, hB, hF⟩, hce, hcv, hcl, st⟩
  · exact hf.elim
  · obtain ⟨k1, k2, k3⟩ := vx_keep h0' e1 hw.2.2.2.1 (fun q _ h => pA_sub hw q h) (pA_sub hw) hL hF
    have hw1 := hw.back e1.symm (by rw [← e2]; exact X'.warmed.alike) hB k3
    obtain ⟨t2, a1, b1⟩ := vx_catch (own := own) (name := name) (E := er.1) (ce := ce) (q := q) (Q := Q) (ls := ls) (rest := rest) (pc := pc) (H := T'.heap) (locs := locs ++ L1) (cells := cells + mc) (slots := slots + ms) (p := p) (l := l) (e := e) (R := R) (below := below) (meth := meth) hC.2.2.2.1 pre x suf hsplit hpass hcov h0 (hC.2.2.2.2 _ hlink) (hC.2.2.2.2 _ hcast) (by rw [e1]; exact hce) hcv hcl (kk q T'.heap (locs ++ L1) hw1) T' rfl X'
    exact ⟨t2, st.trans a1, b1⟩
/-- a call of a method that catches -/
def MSW (y : MethodName) (bytes : ByteArray) (maxL : Nat) (hh : List (Nat × Nat × Nat × Nat)) (n : Nat) : Prop := Cond.static y ∈ tw ∧ Cond.codeWith y bytes maxL (some .int) hh ∈ tw ∧ Cond.initialized y.cls ∈ tw ∧ y.cls ≠ "java/lang/invoke/MethodHandle" ∧ y.cls ≠ "java/lang/invoke/VarHandle" ∧ (parseMethodDescriptor y.desc).map (fun d => d.parameters.length) = some n
theorem pw_runH {y : MethodName} {bytes : ByteArray} {maxL n : Nat} {hh : List (Nat × Nat × Nat × Nat)} {rm : Room} {As : List Value} {r : Int32} (hC : CX p m c cc nL s args own) (hm : MSW y bytes maxL hh n) (hlk : Cond.methodLink own index y ∈ tw) (hM : MetH l y bytes maxL hh rm g L μ As r μ') (hR : fitX R rm maxL) (hw : PW g L μ A s H locs) (hX : XS A s s.heap) (hNC : NC s) (hn : As.length = n) (hsz : ls.size = nL) (hcat : (rest.map fun v => v.category).sum ≤ 8) (hcs : cells + rm.cells ≤ R.cells ∧ slots + rm.slots ≤ R.slots)
    {st0 : List Value} (hst : st0 = As.reverse ++ rest) (hdg : decode cc pc = .ok (.invokestatic index, 3))
    (kk : ∀ (H1 : Heap) (locs1 : List Loc), PW g L μ' A s H1 locs1 → W p l e R s m args below meth c H1 locs1 (cells + rm.cells) (slots + rm.slots) Q (F0 m (pc + 3) ls (.int r :: rest))) : W p l e R s m args below meth c H locs cells slots Q (F0 m pc ls st0) := by
  obtain ⟨h1, h3, h4, h5, h6, h7⟩ := hm
  have hts := hC.2.2.2.2
  have hcw : ∀ w ∈ [Cond.codeWith y bytes maxL (some .int) hh], ∀ (a' : Array Value) (U : State), s.WarmedH U.vm → w.before a' U = true := by
    intro w hw2 a' U hW
    rw [List.mem_singleton] at hw2
    rw [hw2]
    exact tb_use (tb_warm hW hw.2.2.2.2.2.2) _ h3
  exact pw_goX (v := some (.int r)) (aa := As.toArray) hw (vx_runSX (hh := hh) (bytes := bytes) (maxL := maxL) (ret := some .int) (As := As) (rest := rest) (n := n) hC (hM H.size) ⟨⟨rfl, rfl, hR.1, hR.2, hcw, List.mem_singleton.mpr rfl⟩, hts _ h3, hts _ h4, ⟨h5, h6⟩, par_n h7, hts _ hlk, hts _ h1⟩
    ⟨pBlindH, fun U hU hW => ⟨⟨pPre_of hw hU hW, hX.go hw hU hW⟩, hNC.moved hW.alike⟩⟩ rfl hn hsz hst (lv_room hcat) hdg hcs) kk
end PWH
theorem pw_metH {l : Launch} {y : MethodName} {cc : ByteArray} {nL : Nat} {hh : List (Nat × Nat × Nat × Nat)} {rm : Room} {g : Wg} {L : List Nat} {μ μ' : Mem} {av : List Value} {r : Int32} (hy : plainName y.cls = true) (hlen : (lg_sl av).length ≤ nL)
    (body : ∀ (p : Program) (e : Env) (s : State) (m : MethodId) (args : Array Value) (below : List Frame) (meth : Method) (c : Code) (A : Nat → Prop) (ls : Array Slot) (H : Heap) (locs : List Loc), CX p m c cc nL s args y.cls → meth.sig.returnType = some .int → meth.locks = false → lv_has ls nL (lv_args 0 av) → PW g L μ A s H locs → XS A s s.heap → NC s → c.exceptionTable.toList = tableOf hh →
      W p l e rm s m args below meth c H locs 0 0 (vx_MQ below (QX g L A (.inr (some (.int r), μ'))) (XX g L A (.inr (some (.int r), μ'))) args s rm.cells rm.slots A) (F0 m 0 ls [])) : MetH l y cc nL hh rm g L μ av r μ' := by
  intro sz
  refine vx_ofWH (cc := cc) (maxL := nL) (ret := some .int) (hh := hh) hy rfl ?_
  intro p e s m args below meth c s₁ B hml hv
  have htab := vx_table (x := y) B (atoms_spec (ws := [Cond.codeWith y cc nL (some .int) hh]) B.pre _ List.mem_cons_self)
  obtain ⟨⟨⟨rfl, hsz, hP, hK, hD0, hJ, hT⟩, hX⟩, hNC⟩ := hv
  have hown : s.vm.findClass y.cls = some m.cls := findClass_of_methodNamed B.named
  subst hsz
  rw [lg_entry_eq]
  exact body p e s m _ below meth c (pA L s.heap.size) _ _ _ ⟨B.exec, B.bytes, hml, hown, tb_use hT⟩ B.returns B.notSynchronized (lv_entry av hlen) ⟨hP, pD_w hD0 (fun q h => Or.inl h), hK, va_S.rf, hJ, fun q h => Or.inr h, hT⟩ hX hNC htab
