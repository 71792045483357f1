/-! A MEMORY: what lies at an address, as one function; the world of every method is the whole memory. -/
abbrev Mem : Type := Nat → va_E
def jk : va_E := .inr (99, [])
abbrev Wg : Type := va_G × (Nat → ClassId)
def pw_ty (cy : Nat → ClassId) : List (ClassId × FieldType) := [(cy 0, .byte), (cy 1, .int), (cy 2, .boolean), (cy 3, .long), (cy 4, .object "SpanShelves$Shelf"), (cy 5, .array .byte), (cy 6, .array .int)]
/-- a word that stays true under warmer tables -/
def tw_ok (w : Cond) : Bool := (match w with
  | .fieldLinkNest .. => true
  | .methodLinkNest .. => true
  | .castable .. => true
  | .declares .. => true
  | _ => false) || (w.onTables && w.keeps)
def tw : List Cond := lw_tbl.filter tw_ok
def TB (U : State) : Prop := ∀ w ∈ tw, w.before #[] U = true
theorem tw_on {w : Cond} (h : w ∈ tw) : w.onTables = true := by
  have h2 := (List.mem_filter.mp h).2
  unfold tw_ok at h2
  cases w <;> first | rfl | (simp [Cond.onTables] at h2)
theorem tb_same {u U : State} (h : u.vm = U.vm) (hb : TB u) : TB U := fun w hw => va_tabs (tw_on hw) h (hb w hw)
theorem tb_use {U : State} {a : Array Value} (hb : TB U) : ∀ w ∈ tw, w.before a U = true := fun w hw => va_tabs (tw_on hw) rfl (hb w hw)
theorem tb_of {U : State} {a : Array Value} (hb : ∀ w ∈ tw, w.before a U = true) : TB U := fun w hw => va_tabs (tw_on hw) rfl (hb w hw)
theorem tb_warm {s U : State} (hW : s.WarmedH U.vm) (hb : TB s) : TB U := by
  intro w hw
  have h1 := hb w hw
  have h2 := (List.mem_filter.mp hw).2
  unfold tw_ok at h2
  cases w with
  | fieldLinkNest a b c d e f => exact va_Nw.warmF hW h1
  | methodLinkNest a b c d => exact va_Nw.warmM hW h1
  | castable a b => exact va_Nw.warmC hW h1
  | declares a => exact va_Nw.warmD hW h1
  | _ => exact word_at hW (Or.inl (by simpa using h2)) h1
/-- the world -/
def PW (g : Wg) (L : List Nat) (μ : Mem) (A : Nat → Prop) (s : State) (H : Heap) (locs : List Loc) : Prop :=
  va_P g.1 vwCl (va_pl L μ) H ∧ va_D A (va_pl L μ) ∧ va_K g.1 vwCl (pw_ty g.2) s ∧ va_S A s.heap H locs ∧ (∀ a, a ∉ L → μ a = jk) ∧ (∀ q, s.heap.size ≤ q → A q) ∧ TB s
def pA (L : List Nat) (sz : Nat) : Nat → Prop := fun q => q ∈ L ∨ sz ≤ q
def pPre (g : Wg) (L : List Nat) (μ : Mem) (av : List Value) (sz : Nat) : Array Value → State → Prop := va_Pc av (fun U => U.heap.size = sz ∧ va_P g.1 vwCl (va_pl L μ) U.heap ∧ va_K g.1 vwCl (pw_ty g.2) U ∧ va_D (fun _ => True) (va_pl L μ) ∧ (∀ a, a ∉ L → μ a = jk) ∧ TB U)
def pAt (g : Wg) (L : List Nat) (A : Nat → Prop) (μ : Mem) (t : State) : Prop := va_P g.1 vwCl (va_pl L μ) t.heap ∧ va_K g.1 vwCl (pw_ty g.2) t ∧ va_D A (va_pl L μ) ∧ ∀ a, a ∉ L → μ a = jk
abbrev QI (g : Wg) (L : List Nat) (A : Nat → Prop) (r : Int32) (μ' : Mem) : Array Value → State → Outcome → State → Prop := va_Qi (fun r' u => r' = r ∧ u = μ') (pAt g L A) A
abbrev QL (g : Wg) (L : List Nat) (A : Nat → Prop) (r : Int64) (μ' : Mem) : Array Value → State → Outcome → State → Prop := va_Ql (fun r' u => r' = r ∧ u = μ') (pAt g L A) A
abbrev QV (g : Wg) (L : List Nat) (A : Nat → Prop) (μ' : Mem) : Array Value → State → Outcome → State → Prop := va_Qv (fun u => u = μ') (pAt g L A) A
def MetI (l : Launch) (y : MethodName) (cc : ByteArray) (nL : Nat) (ret : Option FieldType) (rm : Room) (g : Wg) (L : List Nat) (μ : Mem) (av : List Value) (r : Int32) (μ' : Mem) : Prop :=
  ∀ sz, Met l y [Cond.code y cc nL ret] rm (pPre g L μ av sz) (QI g L (pA L sz) r μ') 0 0 (pA L sz)
def MetL (l : Launch) (y : MethodName) (cc : ByteArray) (nL : Nat) (ret : Option FieldType) (rm : Room) (g : Wg) (L : List Nat) (μ : Mem) (av : List Value) (r : Int64) (μ' : Mem) : Prop :=
  ∀ sz, Met l y [Cond.code y cc nL ret] rm (pPre g L μ av sz) (QL g L (pA L sz) r μ') 0 0 (pA L sz)
def MetV (l : Launch) (y : MethodName) (cc : ByteArray) (nL : Nat) (ret : Option FieldType) (rm : Room) (g : Wg) (L : List Nat) (μ : Mem) (av : List Value) (μ' : Mem) : Prop :=
  ∀ sz, Met l y [Cond.code y cc nL ret] rm (pPre g L μ av sz) (QV g L (pA L sz) μ') 0 0 (pA L sz)
theorem pl_mem {L : List Nat} {μ : Mem} {k : Nat} {q : Nat × va_E} (h : (va_pl L μ)[k]? = some q) : q.1 ∈ L := by
  obtain ⟨a, ha, rfl⟩ := List.mem_map.mp (List.mem_of_getElem? h)
  exact ha
theorem pl_get {L : List Nat} {μ : Mem} {a : Nat} (h : a ∈ L) : ∃ k : Nat, (va_pl L μ)[k]? = some (a, μ a) := va_pl_get (X := []) h
theorem pl_set {A : Nat → Prop} {L : List Nat} {μ : Mem} {a k : Nat} {e : va_E} (hD : va_D A (va_pl L μ)) (h : a ∈ L) (hk : (va_pl L μ)[k]? = some (a, μ a)) : (va_pl L μ).set k (a, e) = va_pl L (va_up μ a e) := va_pl_set (X := []) hD h hk
theorem pD {A : Nat → Prop} {L : List Nat} {μ μ' : Mem} (h : va_D A (va_pl L μ)) : va_D A (va_pl L μ') := by
  have e : ∀ (i : Nat) (p : Nat × va_E), (va_pl L μ')[i]? = some p → (va_pl L μ)[i]? = some (p.1, μ p.1) := by
    intro i p hp
    unfold va_pl at hp ⊢
    rw [List.getElem?_map] at hp ⊢
    cases hL : L[i]? with
    | none => rw [hL] at hp; cases hp
    | some a => rw [hL] at hp; cases hp; rfl
  exact ⟨fun i j p q hp hq hpq => h.1 i j _ _ (e i p hp) (e j q hq) hpq, fun k q hq => h.2 k (q.1, μ q.1) (e k q hq)⟩
theorem pD_w {A B : Nat → Prop} {L : List Nat} {μ : Mem} (h : va_D A (va_pl L μ)) (hB : ∀ q, q ∈ L → B q) : va_D B (va_pl L μ) := ⟨h.1, fun k q hq => hB _ (pl_mem hq)⟩
/-- reading -/
def rdF (μ : Mem) (a ci k : Nat) : Option Value := match μ a with
  | .inl _ => none
  | .inr o => if o.1 = ci then o.2[k]? else none
def rdI (μ : Mem) (a ci k : Nat) : Option Int32 := match rdF μ a ci k with
  | some (.int x) => some x
  | _ => none
def rdR (μ : Mem) (a ci k : Nat) : Option Nat := match rdF μ a ci k with
  | some (.ref x) => some x
  | _ => none
def wrF (μ : Mem) (a ci k : Nat) (v : Value) : Option Mem := match μ a with
  | .inl _ => none
  | .inr o => if o.1 = ci ∧ k < o.2.length then some (va_up μ a (.inr (ci, o.2.set k v))) else none
def isO (μ : Mem) (a ci : Nat) : Bool := match μ a with
  | .inl _ => false
  | .inr o => o.1 == ci
/-- an array of ints (bytes, booleans) of type number t -/
def rdA (cy : Nat → ClassId) (μ : Mem) (t a : Nat) (i : Int32) : Option Int32 := match μ a with
  | .inl (cA, n, .inl f) => if cA = cy t ∧ ¬ (i < 0 ∨ n ≤ i.toNatClampNeg) then some (f i.toNatClampNeg) else none
  | _ => none
def wrA (cy : Nat → ClassId) (μ : Mem) (t a : Nat) (i x : Int32) : Option Mem := match μ a with
  | .inl (cA, n, .inl f) => if cA = cy t ∧ ¬ (i < 0 ∨ n ≤ i.toNatClampNeg) then some (va_up μ a (.inl (cA, n, .inl (upd f i.toNatClampNeg x)))) else none
  | _ => none
def rdQ (cy : Nat → ClassId) (μ : Mem) (t a : Nat) (i : Int32) : Option Nat := match μ a with
  | .inl (cA, n, .inr (.inr (.inr (.inr f)))) => if cA = cy t ∧ ¬ (i < 0 ∨ n ≤ i.toNatClampNeg) then f i.toNatClampNeg else none
  | _ => none
def lnA (cy : Nat → ClassId) (μ : Mem) (t a : Nat) : Option Int32 := match μ a with
  | .inl (cA, n, _) => if cA = cy t then some (Int32.ofNat n) else none
  | _ => none
theorem rdI_F {μ : Mem} {a ci k : Nat} {v : Int32} (h : rdI μ a ci k = some v) : rdF μ a ci k = some (.int v) := by
  unfold rdI at h
  split at h
  · cases h; assumption
  · cases h
theorem rdR_F {μ : Mem} {a ci k v : Nat} (h : rdR μ a ci k = some v) : rdF μ a ci k = some (.ref v) := by
  unfold rdR at h
  split at h
  · cases h; assumption
  · cases h
theorem rdF_at {μ : Mem} {a ci k : Nat} {v : Value} (h : rdF μ a ci k = some v) : ∃ fs, μ a = .inr (ci, fs) ∧ fs[k]? = some v := by
  unfold rdF at h
  split at h
  · cases h
  · rename_i o e
    split at h
    · rename_i e2
      subst e2
      exact ⟨o.2, e, h⟩
    · cases h
theorem wrF_at {μ μ' : Mem} {a ci k : Nat} {v : Value} (h : wrF μ a ci k v = some μ') : ∃ fs, μ a = .inr (ci, fs) ∧ k < fs.length ∧ μ' = va_up μ a (.inr (ci, fs.set k v)) := by
  unfold wrF at h
  split at h
  · cases h
  · rename_i o e
    split at h
    · rename_i e2
      obtain ⟨e2, e3⟩ := e2
      subst e2
      cases h
      exact ⟨o.2, e, e3, rfl⟩
    · cases h
theorem isO_at {μ : Mem} {a ci : Nat} (h : isO μ a ci = true) : ∃ fs, μ a = .inr (ci, fs) := by
  unfold isO at h
  split at h
  · cases h
  · rename_i o e
    have e2 : o.1 = ci := by simpa using h
    subst e2
    exact ⟨o.2, e⟩
theorem rdA_at {cy : Nat → ClassId} {μ : Mem} {t a : Nat} {i v : Int32} (h : rdA cy μ t a i = some v) : ∃ n f, μ a = .inl (cy t, n, .inl f) ∧ vp_in i n ∧ v = f i.toNatClampNeg := by
  unfold rdA at h
  split at h
  · rename_i cA n f e
    split at h
    · rename_i e2
      obtain ⟨e2, e3⟩ := e2
      subst e2
      cases h
      exact ⟨n, f, e, e3, rfl⟩
    · cases h
  · cases h
theorem wrA_at {cy : Nat → ClassId} {μ μ' : Mem} {t a : Nat} {i x : Int32} (h : wrA cy μ t a i x = some μ') : ∃ n f, μ a = .inl (cy t, n, .inl f) ∧ vp_in i n ∧ μ' = va_up μ a (.inl (cy t, n, .inl (upd f i.toNatClampNeg x))) := by
  unfold wrA at h
  split at h
  · rename_i cA n f e
    split at h
    · rename_i e2
      obtain ⟨e2, e3⟩ := e2
      subst e2
      cases h
      exact ⟨n, f, e, e3, rfl⟩
    · cases h
  · cases h
theorem rdQ_at {cy : Nat → ClassId} {μ : Mem} {t a : Nat} {i : Int32} {v : Nat} (h : rdQ cy μ t a i = some v) : ∃ n f, μ a = .inl (cy t, n, .inr (.inr (.inr (.inr f)))) ∧ vp_in i n ∧ f i.toNatClampNeg = some v := by
  unfold rdQ at h
  split at h
  · rename_i cA n f e
    split at h
    · rename_i e2
      obtain ⟨e2, e3⟩ := e2
      subst e2
      exact ⟨n, f, e, e3, h⟩
    · cases h
  · cases h
theorem lnA_at {cy : Nat → ClassId} {μ : Mem} {t a : Nat} {v : Int32} (h : lnA cy μ t a = some v) : ∃ x : vp_A, μ a = .inl (cy t, x) ∧ Int32.ofNat x.1 = v := by
  unfold lnA at h
  split at h
  · rename_i cA n x e
    split at h
    · rename_i e2
      subst e2
      cases h
      exact ⟨(n, x), e, rfl⟩
    · cases h
  · cases h
theorem jk_in {g : Wg} {L : List Nat} {μ : Mem} {A : Nat → Prop} {s : State} {H : Heap} {locs : List Loc} (hw : PW g L μ A s H locs) {a : Nat} (h : μ a ≠ jk) : a ∈ L := by
  rcases Classical.em (a ∈ L) with q | q
  · exact q
  · exact absurd (hw.2.2.2.2.1 a q) h
theorem PW.inr {g : Wg} {L : List Nat} {μ : Mem} {A : Nat → Prop} {s : State} {H : Heap} {locs : List Loc} (hw : PW g L μ A s H locs) {a ci : Nat} {fs : List Value} (h : μ a = .inr (ci, fs)) (hc : ci < 99) : a ∈ L := jk_in hw (fun e => by rw [h] at e; unfold jk at e; have := Sum.inr.inj e; have := congrArg Prod.fst this; simp at this; omega)
theorem PW.inl {g : Wg} {L : List Nat} {μ : Mem} {A : Nat → Prop} {s : State} {H : Heap} {locs : List Loc} (hw : PW g L μ A s H locs) {a : Nat} {x : ClassId × vp_A} (h : μ a = .inl x) : a ∈ L := jk_in hw (fun e => by rw [h] at e; unfold jk at e; cases e)
/-- field number k of class number ci, linked at 'index' of class own -/
def FL (own : String) (index ci k : Nat) : Prop := ci < 99 ∧ ∃ (C : String) (T : u_T) (N : Nat) (ty : Nat → FieldType), vwCl[ci]? = some (C, T, N) ∧ k < N ∧ (T k).1 = C ∧ (∀ w ∈ u_ws C T N, w ∈ tw) ∧ (∀ k, k < N → parseFieldDescriptor (T k).2.2.1 = some (ty k)) ∧ (∀ a, a < N → ∀ b, b < N → a ≠ b → (T a).2.1 ≠ (T b).2.1) ∧ (Cond.fieldLink own index C (T k).2.1 (T k).2.2.1 ∈ tw ∨ ∃ host, Cond.fieldLinkNest own index C (T k).2.1 (T k).2.2.1 host ∈ tw)
def CX (p : Program) (m : MethodId) (c : Code) (cc : ByteArray) (nL : Nat) (s : State) (args : Array Value) (own : String) : Prop := CallFix p m c cc nL s args tw own
section PWR
variable {p : Program} {l : Launch} {e : Env} {R : Room} {s : State} {m : MethodId} {args : Array Value} {below : List Frame} {meth : Method} {c : Code} {H : Heap} {locs : List Loc} {cells slots : Nat} {Q : State → Prop}
variable {cc : ByteArray} {pc nL : Nat} {ls : Array Slot} {rest : List Value} {g : Wg} {L : List Nat} {μ μ' : Mem} {A : Nat → Prop} {a ci k index : Nat} {own : String}
theorem pw_get (hC : CX p m c cc nL s args own) (hF : FL own index ci k) (hw : PW g L μ A s H locs) {v : Value} (hr : rdF μ a ci k = some v) (hdg : decode cc pc = .ok (.getfield index, 3))
    (kk : W p l e R s m args below meth c H locs cells slots Q (F0 m (pc + 3) ls (v :: rest))) : W p l e R s m args below meth c H locs cells slots Q (F0 m pc ls (.ref a :: rest)) := by
  obtain ⟨hx, hb, -, hown, hts⟩ := hC
  obtain ⟨h99, C, T, N, ty, hc, hk, hT, hin, -, -, hl⟩ := hF
  obtain ⟨fs, hm, hv⟩ := rdF_at hr
  obtain ⟨q0, he⟩ := pl_get (μ := μ) (hw.inr hm h99)
  rw [hm] at he
  rcases hl with hl | ⟨host, hl⟩
  · exact va_get hx hb hts hin hown hw.2.2.1 hw.1 q0 he hc k hk (hts _ hl) (fun x h => by rw [← hT]; exact h) hv hdg kk
  · exact va_getN hx hb hts hin hown hw.2.2.1 hw.1 q0 he hc k hk (hts _ hl) (fun x h => by rw [← hT]; exact h) hv hdg kk
theorem PW.step (hw : PW g L μ A s H locs) {H1 : Heap} {locs1 : List Loc} {q0 : Nat} {E : va_E} (ha : a ∈ L) (he : (va_pl L μ)[q0]? = some (a, μ a)) (hP : va_P g.1 vwCl ((va_pl L μ).set q0 (a, E)) H1) (hS : va_S A s.heap H1 locs1) : PW g L (va_up μ a E) A s H1 locs1 := by
  rw [pl_set hw.2.1 ha he] at hP
  refine ⟨hP, pD hw.2.1, hw.2.2.1, hS, fun b hb => ?_, hw.2.2.2.2.2.1, hw.2.2.2.2.2.2⟩
  have hne : b ≠ a := fun q => hb (by rw [q]; exact ha)
  rw [va_up_ne _ _ hne]
  exact hw.2.2.2.2.1 b hb
theorem pw_put (hC : CX p m c cc nL s args own) (hF : FL own index ci k) (hw : PW g L μ A s H locs) {v : Value} (hr : wrF μ a ci k v = some μ') (ty : FieldType)
    (hd : ∀ (C : String) (T : u_T) (N : Nat), vwCl[ci]? = some (C, T, N) → (T k).2.2.2 = false ∧ parseFieldDescriptor (T k).2.2.1 = some ty) (hn : narrow ty v = v) (hfit : fits ty v = true) (hdg : decode cc pc = .ok (.putfield index, 3))
    (kk : ∀ (H1 : Heap) (locs1 : List Loc), PW g L μ' A s H1 locs1 → W p l e R s m args below meth c H1 locs1 cells slots Q (F0 m (pc + 3) ls rest)) : W p l e R s m args below meth c H locs cells slots Q (F0 m pc ls (v :: .ref a :: rest)) := by
  obtain ⟨hx, hb, -, hown, hts⟩ := hC
  obtain ⟨h99, C, T, N, ty0, hc, hk, hT, hin, hty, hnm, hl⟩ := hF
  obtain ⟨fs, hm, hkl, rfl⟩ := wrF_at hr
  have ha := hw.inr hm h99
  obtain ⟨q0, he⟩ := pl_get (μ := μ) ha
  obtain ⟨d1, d2⟩ := hd C T N hc
  have he' := he
  rw [hm] at he
  have kk' : ∀ (H1 : Heap) (locs1 : List Loc), va_P g.1 vwCl ((va_pl L μ).set q0 (a, .inr (ci, fs.set k v))) H1 → va_D A ((va_pl L μ).set q0 (a, .inr (ci, fs.set k v))) → va_S A s.heap H1 locs1 → W p l e R s m args below meth c H1 locs1 cells slots Q (F0 m (pc + 3) ls rest) :=
    fun H1 locs1 hP _ hS => kk H1 locs1 (hw.step ha he' hP hS)
  rcases hl with hl | ⟨host, hl⟩
  · exact va_put hx hb hts hin ty0 hty hnm hown hw.2.2.1 hw.1 hw.2.1 hw.2.2.2.1 q0 he hc k hk (hts _ hl) (fun x h => by rw [← hT]; exact h) d1 d2 hn hfit hkl hdg kk'
  · exact va_putN hx hb hts hin ty0 hty hnm hown hw.2.2.1 hw.1 hw.2.1 hw.2.2.2.1 q0 he hc k hk (hts _ hl) (fun x h => by rw [← hT]; exact h) d1 d2 hn hfit hkl hdg kk'
theorem pw_iald (hC : CX p m c cc nL s args own) (hw : PW g L μ A s H locs) {i v : Int32} (hr : rdA g.2 μ 1 a i = some v) (hdg : decode cc pc = .ok (.iaload, 1))
    (kk : W p l e R s m args below meth c H locs cells slots Q (F0 m (pc + 1) ls (.int v :: rest))) : W p l e R s m args below meth c H locs cells slots Q (F0 m pc ls (.int i :: .ref a :: rest)) := by
  obtain ⟨hx, hb, -, hown, hts⟩ := hC
  obtain ⟨n, f, hm, hin, rfl⟩ := rdA_at hr
  obtain ⟨q0, he⟩ := pl_get (μ := μ) (hw.inl hm)
  rw [hm] at he
  exact va_iald hx hb hw.2.2.1 hw.1 q0 1 he rfl hin hdg kk
theorem pw_bald (hC : CX p m c cc nL s args own) (hw : PW g L μ A s H locs) {i v : Int32} (hr : rdA g.2 μ 0 a i = some v) (hdg : decode cc pc = .ok (.baload, 1))
    (kk : W p l e R s m args below meth c H locs cells slots Q (F0 m (pc + 1) ls (.int v :: rest))) : W p l e R s m args below meth c H locs cells slots Q (F0 m pc ls (.int i :: .ref a :: rest)) := by
  obtain ⟨hx, hb, -, hown, hts⟩ := hC
  obtain ⟨n, f, hm, hin, rfl⟩ := rdA_at hr
  obtain ⟨q0, he⟩ := pl_get (μ := μ) (hw.inl hm)
  rw [hm] at he
  exact va_bald hx hb hw.2.2.1 hw.1 q0 0 he rfl hin hdg kk
theorem pw_zald (hC : CX p m c cc nL s args own) (hw : PW g L μ A s H locs) {i v : Int32} (hr : rdA g.2 μ 2 a i = some v) (hdg : decode cc pc = .ok (.baload, 1))
    (kk : W p l e R s m args below meth c H locs cells slots Q (F0 m (pc + 1) ls (.int v :: rest))) : W p l e R s m args below meth c H locs cells slots Q (F0 m pc ls (.int i :: .ref a :: rest)) := by
  obtain ⟨hx, hb, -, hown, hts⟩ := hC
  obtain ⟨n, f, hm, hin, rfl⟩ := rdA_at hr
  obtain ⟨q0, he⟩ := pl_get (μ := μ) (hw.inl hm)
  rw [hm] at he
  exact va_zald hx hb hw.2.2.1 hw.1 q0 2 he rfl hin hdg kk
theorem pw_iast (hC : CX p m c cc nL s args own) (hw : PW g L μ A s H locs) {i x : Int32} (hr : wrA g.2 μ 1 a i x = some μ') (hdg : decode cc pc = .ok (.iastore, 1))
    (kk : ∀ (H1 : Heap) (locs1 : List Loc), PW g L μ' A s H1 locs1 → W p l e R s m args below meth c H1 locs1 cells slots Q (F0 m (pc + 1) ls rest)) : W p l e R s m args below meth c H locs cells slots Q (F0 m pc ls (.int x :: .int i :: .ref a :: rest)) := by
  obtain ⟨hx, hb, -, hown, hts⟩ := hC
  obtain ⟨n, f, hm, hin, rfl⟩ := wrA_at hr
  have ha := hw.inl hm
  obtain ⟨q0, he⟩ := pl_get (μ := μ) ha
  have he' := he
  rw [hm] at he
  exact va_iast hx hb hw.2.2.1 hw.1 hw.2.1 hw.2.2.2.1 q0 1 he rfl hin hdg (fun H1 locs1 hP _ hS => kk H1 locs1 (hw.step ha he' hP hS))
theorem pw_bast (hC : CX p m c cc nL s args own) (hw : PW g L μ A s H locs) {i x : Int32} (hr : wrA g.2 μ 0 a i (vp_nar .byte x) = some μ') (hdg : decode cc pc = .ok (.bastore, 1))
    (kk : ∀ (H1 : Heap) (locs1 : List Loc), PW g L μ' A s H1 locs1 → W p l e R s m args below meth c H1 locs1 cells slots Q (F0 m (pc + 1) ls rest)) : W p l e R s m args below meth c H locs cells slots Q (F0 m pc ls (.int x :: .int i :: .ref a :: rest)) := by
  obtain ⟨hx, hb, -, hown, hts⟩ := hC
  obtain ⟨n, f, hm, hin, rfl⟩ := wrA_at hr
  have ha := hw.inl hm
  obtain ⟨q0, he⟩ := pl_get (μ := μ) ha
  have he' := he
  rw [hm] at he
  exact va_bast hx hb hw.2.2.1 hw.1 hw.2.1 hw.2.2.2.1 q0 0 he rfl hin hdg (fun H1 locs1 hP _ hS => kk H1 locs1 (hw.step ha he' hP hS))
theorem pw_alen (hC : CX p m c cc nL s args own) (hw : PW g L μ A s H locs) (t : Nat) (ht : t < 7) {v : Int32} (hr : lnA g.2 μ t a = some v) (hdg : decode cc pc = .ok (.arraylength, 1))
    (kk : W p l e R s m args below meth c H locs cells slots Q (F0 m (pc + 1) ls (.int v :: rest))) : W p l e R s m args below meth c H locs cells slots Q (F0 m pc ls (.ref a :: rest)) := by
  obtain ⟨hx, hb, -, hown, hts⟩ := hC
  obtain ⟨x, hm, hv⟩ := lnA_at hr
  obtain ⟨q0, he⟩ := pl_get (μ := μ) (hw.inl hm)
  rw [hm] at he
  have hty : ∃ ty, (pw_ty g.2)[t]? = some (g.2 t, ty) := by
    match t, ht with
    | 0, _ => exact ⟨_, rfl⟩
    | 1, _ => exact ⟨_, rfl⟩
    | 2, _ => exact ⟨_, rfl⟩
    | 3, _ => exact ⟨_, rfl⟩
    | 4, _ => exact ⟨_, rfl⟩
    | 5, _ => exact ⟨_, rfl⟩
    | 6, _ => exact ⟨_, rfl⟩
  obtain ⟨ty, hty⟩ := hty
  exact va_alen hx hb hw.2.2.1 hw.1 q0 t he hty hv hdg kk
theorem pw_aald (hC : CX p m c cc nL s args own) (hw : PW g L μ A s H locs) (t : Nat) {ty : FieldType} (ht : (pw_ty g.2)[t]? = some (g.2 t, ty)) (hty : ty.isReference = true) {i : Int32} {v : Nat} (hr : rdQ g.2 μ t a i = some v) (hdg : decode cc pc = .ok (.aaload, 1))
    (kk : W p l e R s m args below meth c H locs cells slots Q (F0 m (pc + 1) ls (.ref v :: rest))) : W p l e R s m args below meth c H locs cells slots Q (F0 m pc ls (.int i :: .ref a :: rest)) := by
  obtain ⟨hx, hb, -, hown, hts⟩ := hC
  obtain ⟨n, f, hm, hin, hv⟩ := rdQ_at hr
  obtain ⟨q0, he⟩ := pl_get (μ := μ) (hw.inl hm)
  rw [hm] at he
  have hlt : i.toNatClampNeg < n := Nat.not_le.mp fun q => hin (Or.inr q)
  exact W.aald (v := .ref v) (ty := ty) hx hb (hw.1 q0 _ he) ((hw.2.2.1.2 t _ ht).1 n (fun j => va_rf (f j))) hty (fun q => by cases q) (by show ¬ (i < 0 ∨ (arrV _ _ _).slots.size ≤ _); rw [arrV_size]; exact hin) (by show (arrV _ _ _).slots[_]? = _; rw [arrV_read _ _ hlt, hv]; rfl) rfl rfl hdg kk
/-- a method of the class number ci (or above), by its name -/
def MM (ci : Nat) (y : MethodName) (bytes : ByteArray) (maxL : Nat) (ret : Option FieldType) (n : Nat) : Prop := ci < 99 ∧ ∃ (C : String) (T : u_T) (N : Nat), vwCl[ci]? = some (C, T, N) ∧ Cond.instanceMethod y ∈ tw ∧ Cond.selects C y y ∈ tw ∧ Cond.code y bytes maxL ret ∈ tw ∧ Cond.initialized y.cls ∈ tw ∧ y.cls ≠ "java/lang/invoke/MethodHandle" ∧ y.cls ≠ "java/lang/invoke/VarHandle" ∧ (parseMethodDescriptor y.desc).map (fun d => d.parameters.length) = some n
def MS (y : MethodName) (bytes : ByteArray) (maxL : Nat) (ret : Option FieldType) (n : Nat) : Prop := Cond.static y ∈ tw ∧ Cond.code y bytes maxL ret ∈ tw ∧ Cond.initialized y.cls ∈ tw ∧ y.cls ≠ "java/lang/invoke/MethodHandle" ∧ y.cls ≠ "java/lang/invoke/VarHandle" ∧ (parseMethodDescriptor y.desc).map (fun d => d.parameters.length) = some n
/-- rm2 fits into R, for a method of maxL locals -/
def fitR (R rm2 : Room) (maxL : Nat) : Prop := rm2.cells = 0 ∧ rm2.slots = 0 ∧ rm2.frames + 1 ≤ R.frames ∧ 8 + (maxL + 11) + rm2.locals ≤ R.locals
theorem pBlind {g : Wg} {L : List Nat} {μ : Mem} {av : List Value} {sz : Nat} : FrameBlind (pPre g L μ av sz) := by
  intro a U g' mk h
  obtain ⟨h1, h2, h3, h4, h5, h6, h7⟩ := h
  exact ⟨h1, h2, h3, va_K.moved (u := U) (U := U.calling g' mk a) (Vm.Alike.refl U.vm) h4, h5, h6, tb_same (u := U) rfl h7⟩
theorem pPre_of (hw : PW g L μ A s H locs) {av : List Value} {U : State} (hU : U.heap = H) (hW : s.WarmedH U.vm) : pPre g L μ av H.size av.toArray U :=
  ⟨rfl, by rw [hU], by rw [hU]; exact hw.1, va_K.moved hW.alike hw.2.2.1, pD_w hw.2.1 (fun _ _ => trivial), hw.2.2.2.2.1, tb_warm hW hw.2.2.2.2.2.2⟩
theorem code1 {y : MethodName} {bytes : ByteArray} {maxL : Nat} {ret : Option FieldType} (hs : TB s) (hc : Cond.code y bytes maxL ret ∈ tw) : ∀ w ∈ [Cond.code y bytes maxL ret], ∀ (a' : Array Value) (U : State), s.WarmedH U.vm → w.before a' U = true := by
  intro w hw a' U hW
  rw [List.mem_singleton] at hw
  rw [hw]
  exact tb_use (tb_warm hW hs) _ hc
theorem par_n {y : MethodName} {n : Nat} (h : (parseMethodDescriptor y.desc).map (fun d => d.parameters.length) = some n) : ∀ sig, parseMethodDescriptor y.desc = some sig → n = sig.parameters.length := by
  intro sig h1
  rw [h1] at h
  exact (Option.some.inj h).symm
theorem pA_sub (hw : PW g L μ A s H locs) : ∀ q, pA L H.size q → A q := by
  intro q hq
  rcases hq with h | h
  · obtain ⟨k, hk⟩ := pl_get (μ := μ) h
    exact hw.2.1.2 k _ hk
  · exact hw.2.2.2.2.2.1 q (Nat.le_trans hw.2.2.2.1.1 h)
theorem PW.back (hw : PW g L μ A s H locs) {t : State} {H1 : Heap} {locs1 : List Loc} (ht : t.heap = H1) (hvm : s.vm.Alike t.vm) (hB : pAt g L (pA L H.size) μ' t) (hS : va_S A s.heap H1 locs1) : PW g L μ' A s H1 locs1 := by
  obtain ⟨h1, h2, h3, h4⟩ := hB
  rw [ht] at h1
  exact ⟨h1, pD hw.2.1, hw.2.2.1, hS, h4, hw.2.2.2.2.2.1, hw.2.2.2.2.2.2⟩
section CALLS
variable {y : MethodName} {bytes : ByteArray} {maxL n : Nat} {ret : Option FieldType} {rm : Room} {b : Nat} {As : List Value}
theorem pw_runV (hC : CX p m c cc nL s args own) (hm : MM ci y bytes maxL ret n) (hlk : Cond.methodLink own index y ∈ tw) {Qc : Array Value → State → Outcome → State → Prop} (hM : Met l y [Cond.code y bytes maxL ret] rm (pPre g L μ (.ref b :: As) H.size) Qc 0 0 (pA L H.size)) (hR : fitR R rm maxL) (hw : PW g L μ A s H locs) (ho : isO μ b ci = true) (hn : As.length = n) (hsz : ls.size = nL) (hcat : (rest.map fun v => v.category).sum ≤ 8) (hcs : cells ≤ R.cells ∧ slots ≤ R.slots)
    {st0 : List Value} (hst : st0 = As.reverse ++ .ref b :: rest) (hdg : decode cc pc = .ok (.invokevirtual index, 3)) : va_Run p l e R s m args below meth c H locs cells slots 0 0 (F0 m pc ls st0) rest (Qc (Value.ref b :: As).toArray) (pA L H.size) := by
  obtain ⟨h99, C, T, N, hc, h1, h2, h3, h4, h5, h6, h7⟩ := hm
  obtain ⟨fs, hbm⟩ := isO_at ho
  obtain ⟨q0, he⟩ := pl_get (μ := μ) (hw.inr hbm h99)
  rw [hbm] at he
  have hts := hC.2.2.2.2
  exact va_runV (C := C) (bytes := bytes) (maxL := maxL) (ret := ret) (As := As) (rest := rest) (n := n) hC hM ⟨⟨hR.1, hR.2.1, hR.2.2.1, hR.2.2.2, code1 hw.2.2.2.2.2.2 h3, List.mem_singleton.mpr rfl, hts _ h3, hts _ h4, ⟨h5, h6⟩, par_n h7, hts _ hlk⟩, hts _ h1, hts _ h2⟩
    ⟨pBlind, va_recv hw.2.2.1 hw.1 hc he, fun U hU hW => pPre_of hw hU hW⟩ rfl hn hsz hst (lv_room hcat) hdg hcs
theorem pw_runS (hC : CX p m c cc nL s args own) (hm : MS y bytes maxL ret n) (hlk : Cond.methodLink own index y ∈ tw) {Qc : Array Value → State → Outcome → State → Prop} (hM : Met l y [Cond.code y bytes maxL ret] rm (pPre g L μ As H.size) Qc 0 0 (pA L H.size)) (hR : fitR R rm maxL) (hw : PW g L μ A s H locs) (hn : As.length = n) (hsz : ls.size = nL) (hcat : (rest.map fun v => v.category).sum ≤ 8) (hcs : cells ≤ R.cells ∧ slots ≤ R.slots)
    {st0 : List Value} (hst : st0 = As.reverse ++ rest) (hdg : decode cc pc = .ok (.invokestatic index, 3)) : va_Run p l e R s m args below meth c H locs cells slots 0 0 (F0 m pc ls st0) rest (Qc As.toArray) (pA L H.size) := by
  obtain ⟨h1, h3, h4, h5, h6, h7⟩ := hm
  have hts := hC.2.2.2.2
  exact va_runS (bytes := bytes) (maxL := maxL) (ret := ret) (As := As) (rest := rest) (n := n) hC hM ⟨⟨hR.1, hR.2.1, hR.2.2.1, hR.2.2.2, code1 hw.2.2.2.2.2.2 h3, List.mem_singleton.mpr rfl, hts _ h3, hts _ h4, ⟨h5, h6⟩, par_n h7, hts _ hlk⟩, hts _ h1⟩
    ⟨pBlind, fun U hU hW => pPre_of hw hU hW⟩ rfl hn hsz hst (lv_room hcat) hdg hcs
theorem pw_runSN (hC : CX p m c cc nL s args own) (hm : MS y bytes maxL ret n) {host : String} (hlk : Cond.methodLinkNest own index y host ∈ tw) {Qc : Array Value → State → Outcome → State → Prop} (hM : Met l y [Cond.code y bytes maxL ret] rm (pPre g L μ As H.size) Qc 0 0 (pA L H.size)) (hR : fitR R rm maxL) (hw : PW g L μ A s H locs) (hn : As.length = n) (hsz : ls.size = nL) (hcat : (rest.map fun v => v.category).sum ≤ 8) (hcs : cells ≤ R.cells ∧ slots ≤ R.slots)
    {st0 : List Value} (hst : st0 = As.reverse ++ rest) (hdg : decode cc pc = .ok (.invokestatic index, 3)) : va_Run p l e R s m args below meth c H locs cells slots 0 0 (F0 m pc ls st0) rest (Qc As.toArray) (pA L H.size) := by
  obtain ⟨h1, h3, h4, h5, h6, h7⟩ := hm
  have hts := hC.2.2.2.2
  exact va_runSN (bytes := bytes) (maxL := maxL) (ret := ret) (As := As) (rest := rest) (n := n) hC hM ⟨⟨⟨hR.1, hR.2.1, hR.2.2.1, hR.2.2.2, code1 hw.2.2.2.2.2.2 h3, List.mem_singleton.mpr rfl⟩, hts _ h3, hts _ h4, ⟨h5, h6⟩, par_n h7, hw.2.2.2.2.2.2 _ hlk⟩, hts _ h1, trivial⟩
    ⟨pBlind, fun U hU hW => pPre_of hw hU hW⟩ rfl hn hsz hst (lv_room hcat) hdg hcs
theorem pw_goI {r : Int32} {st0 : List Value} {aa : Array Value} (hw : PW g L μ A s H locs) (hr : va_Run p l e R s m args below meth c H locs cells slots 0 0 (F0 m pc ls st0) rest (QI g L (pA L H.size) r μ' aa) (pA L H.size))
    (kk : ∀ (H1 : Heap) (locs1 : List Loc), PW g L μ' A s H1 locs1 → W p l e R s m args below meth c H1 locs1 cells slots Q (F0 m (pc + 3) ls (.int r :: rest))) : W p l e R s m args below meth c H locs cells slots Q (F0 m pc ls st0) := by
  refine va_calli hr hw.2.2.2.1 (fun q _ h => pA_sub hw q h) (pA_sub hw) (fun r1 u t H1 locs1 ht hvm hp hB _ _ hS => ?_)
  obtain ⟨rfl, rfl⟩ := hp
  exact kk H1 locs1 (hw.back ht hvm hB hS)
theorem pw_goL {r : Int64} {st0 : List Value} {aa : Array Value} (hw : PW g L μ A s H locs) (hr : va_Run p l e R s m args below meth c H locs cells slots 0 0 (F0 m pc ls st0) rest (QL g L (pA L H.size) r μ' aa) (pA L H.size))
    (kk : ∀ (H1 : Heap) (locs1 : List Loc), PW g L μ' A s H1 locs1 → W p l e R s m args below meth c H1 locs1 cells slots Q (F0 m (pc + 3) ls (.long r :: rest))) : W p l e R s m args below meth c H locs cells slots Q (F0 m pc ls st0) := by
  refine va_calll hr hw.2.2.2.1 (fun q _ h => pA_sub hw q h) (pA_sub hw) (fun r1 u t H1 locs1 ht hvm hp hB _ _ hS => ?_)
  obtain ⟨rfl, rfl⟩ := hp
  exact kk H1 locs1 (hw.back ht hvm hB hS)
theorem pw_goV {st0 : List Value} {aa : Array Value} (hw : PW g L μ A s H locs) (hr : va_Run p l e R s m args below meth c H locs cells slots 0 0 (F0 m pc ls st0) rest (QV g L (pA L H.size) μ' aa) (pA L H.size))
    (kk : ∀ (H1 : Heap) (locs1 : List Loc), PW g L μ' A s H1 locs1 → W p l e R s m args below meth c H1 locs1 cells slots Q (F0 m (pc + 3) ls rest)) : W p l e R s m args below meth c H locs cells slots Q (F0 m pc ls st0) := by
  refine va_callv hr hw.2.2.2.1 (fun q _ h => pA_sub hw q h) (pA_sub hw) (fun u t H1 locs1 ht hvm hp hB _ _ hS => ?_)
  subst hp
  exact kk H1 locs1 (hw.back ht hvm hB hS)
end CALLS
section ENDS
variable {r : Int32} {r8 : Int64}
theorem PW.at' (hw : PW g L μ A s H locs) {t : State} (ht : t.heap = H) (hW : s.WarmedH t.vm) : pAt g L A μ t := ⟨by rw [ht]; exact hw.1, va_K.moved hW.alike hw.2.2.1, hw.2.1, hw.2.2.2.2.1⟩
theorem pw_iret (hC : CX p m c cc nL s args own) (hr : meth.sig.returnType = some .int) (hlocks : meth.locks = false) (hw : PW g L μ A s H locs) (hdg : decode cc pc = .ok (.ireturn, 1)) : W p l e R s m args below meth c H locs 0 0 (MQ below (QI g L A r μ) args s 0 0 A) (F0 m pc ls [.int r]) :=
  W.iret hC.1 hC.2.1 hr (fun t ht hW => ⟨⟨r, μ, rfl, ⟨rfl, rfl⟩, hw.at' ht hW⟩, hw.2.2.2.1.F ht⟩) hw.2.2.2.1.2.2 hdg hlocks
theorem pw_zret (hC : CX p m c cc nL s args own) (hr : meth.sig.returnType = some .boolean) (hlocks : meth.locks = false) (h01 : r = 0 ∨ r = 1) (hw : PW g L μ A s H locs) (hdg : decode cc pc = .ok (.ireturn, 1)) : W p l e R s m args below meth c H locs 0 0 (MQ below (QI g L A r μ) args s 0 0 A) (F0 m pc ls [.int r]) :=
  W.zret hC.1 hC.2.1 hr (by rcases h01 with rfl | rfl <;> decide +kernel) (fun t ht hW => ⟨⟨r, μ, rfl, ⟨rfl, rfl⟩, hw.at' ht hW⟩, hw.2.2.2.1.F ht⟩) hw.2.2.2.1.2.2 hdg hlocks
theorem pw_lret (hC : CX p m c cc nL s args own) (hr : meth.sig.returnType = some .long) (hlocks : meth.locks = false) (hw : PW g L μ A s H locs) (hdg : decode cc pc = .ok (.lreturn, 1)) : W p l e R s m args below meth c H locs 0 0 (MQ below (QL g L A r8 μ) args s 0 0 A) (F0 m pc ls [.long r8]) :=
  W.lret hC.1 hC.2.1 hr (fun t ht hW => ⟨⟨r8, μ, rfl, ⟨rfl, rfl⟩, hw.at' ht hW⟩, hw.2.2.2.1.F ht⟩) hw.2.2.2.1.2.2 hdg hlocks
theorem pw_vret (hC : CX p m c cc nL s args own) (hr : meth.sig.returnType = none) (hlocks : meth.locks = false) (hw : PW g L μ A s H locs) (hdg : decode cc pc = .ok (.return_, 1)) : W p l e R s m args below meth c H locs 0 0 (MQ below (QV g L A μ) args s 0 0 A) (F0 m pc ls []) :=
  W.vret hC.1 hC.2.1 hr (fun t ht hW => ⟨⟨μ, rfl, rfl, hw.at' ht hW⟩, hw.2.2.2.1.F ht⟩) hw.2.2.2.1.2.2 hdg hlocks
end ENDS
end PWR
/-- a contract from the walk of the body -/
theorem pw_met {l : Launch} {y : MethodName} {cc : ByteArray} {nL : Nat} {ret : Option FieldType} {rm : Room} {g : Wg} {L : List Nat} {μ : Mem} {av : List Value} {Qc : (Nat → Prop) → Array Value → State → Outcome → State → Prop} (hy : plainName y.cls = true) (hlen : (lg_sl av).length ≤ nL)
    (body : ∀ (p : Program) (e : Env) (s : State) (m : MethodId) (args : Array Value) (below : List Frame) (meth : Method) (c : Code) (A : Nat → Prop) (ls : Array Slot) (H : Heap) (locs : List Loc), CX p m c cc nL s args y.cls → meth.sig.returnType = ret → meth.locks = false → lv_has ls nL (lv_args 0 av) → PW g L μ A s H locs →
      W p l e rm s m args below meth c H locs 0 0 (MQ below (Qc A) args s 0 0 A) (F0 m 0 ls [])) : ∀ sz, Met l y [Cond.code y cc nL ret] rm (pPre g L μ av sz) (Qc (pA L sz)) 0 0 (pA L sz) := by
  intro sz
  refine Met.ofW (cc := cc) (maxL := nL) (ret := ret) hy rfl ?_
  intro p e s m args below meth c s₁ B hml hv
  obtain ⟨rfl, hsz, hP, hK, hD0, hJ, hT⟩ := hv
  have hown : s.vm.findClass y.cls = some m.cls := findClass_of_methodNamed B.named
  subst hsz
  rw [lg_entry_eq]
  refine body p e s m _ below meth c (pA L s.heap.size) _ _ _ ⟨B.exec, B.bytes, hml, hown, tb_use hT⟩ B.returns B.notSynchronized (lv_entry av hlen) ⟨hP, pD_w hD0 (fun q h => Or.inl h), hK, va_S.rf, hJ, fun q h => Or.inr h, hT⟩
/-- rows for the walk: what a 'some' says -/
theorem o_ite {α : Type} {c : Prop} [Decidable c] {x : Option α} {y : α} (h : (if c then x else none) = some y) : c ∧ x = some y := by
  by_cases hc : c
  · rw [if_pos hc] at h; exact ⟨hc, h⟩
  · rw [if_neg hc] at h; cases h
theorem o_bind {α β : Type} {x : Option α} {k : α → Option β} {y : β} (h : x.bind k = some y) : ∃ a, x = some a ∧ k a = some y := Option.bind_eq_some_iff.mp h
