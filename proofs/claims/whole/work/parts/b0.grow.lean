/-! GROWING MEMORIES: new cells stand behind the heap's end, one after another. -/
def AW (U : State) : Prop := (∀ ty ∈ [FieldType.int, .byte, .boolean, .long], (Cond.arrayClass ty).before #[] U = true) ∧ ∀ ty ∈ [FieldType.object "SpanShelves$Shelf", .array .byte, .array .int], (Cond.arrayOver ty).before #[] U = true
theorem AW.moved {u U : State} (hvm : u.vm.Alike U.vm) (h : AW u) : AW U := by
  refine ⟨fun ty ht => SubstrLeaves.arrayClass_alike hvm (h.1 ty ht), fun ty ht => ?_⟩
  have h1 := h.2 ty ht
  have h2 : (Cond.arrayOver ty).before #[] (u.setVm U.vm) = true := by rw [Cond.arrayOver_setVmC hvm]; exact h1
  exact h2
def LZ (L : List Nat) (z k : Nat) : List Nat := L ++ List.range' z k
theorem LZ_0 {L : List Nat} {z : Nat} : LZ L z 0 = L := by simp [LZ]
theorem LZ_app (L : List Nat) (z k n : Nat) : LZ L z k ++ List.range' (z + k) n = LZ L z (k + n) := by
  unfold LZ
  rw [List.append_assoc, List.range'_append_1]
theorem LZ_LZ (L : List Nat) (z k n : Nat) : LZ (LZ L z k) (z + k) n = LZ L z (k + n) := LZ_app L z k n
theorem LZ_mem {L : List Nat} {z k a : Nat} : a ∈ LZ L z k ↔ a ∈ L ∨ (z ≤ a ∧ a < z + k) := by
  unfold LZ
  rw [List.mem_append, List.mem_range'_1]
theorem pl_D {A : Nat → Prop} {L : List Nat} {μ : Mem} : va_D A (va_pl L μ) ↔ L.Nodup ∧ ∀ a ∈ L, A a := by
  have e : ∀ i : Nat, (va_pl L μ)[i]? = (L[i]?).map (fun a => (a, μ a)) := fun i => by unfold va_pl; rw [List.getElem?_map]
  constructor
  · intro h
    refine ⟨?_, fun a ha => ?_⟩
    · refine List.pairwise_iff_getElem.mpr ?_
      intro i j hi hj hij hc
      have h1 : L[i]? = some (L[i]'hi) := List.getElem?_eq_getElem hi
      have h2 : L[j]? = some (L[j]'hj) := List.getElem?_eq_getElem hj
      have := h.1 i j _ _ (by rw [e, h1]; rfl) (by rw [e, h2]; rfl) hc
      omega
    · obtain ⟨k, hk⟩ := pl_get (μ := μ) ha
      exact h.2 k _ hk
  · intro h
    refine ⟨fun i j p q hp hq hpq => ?_, fun k q hq => h.2 _ (pl_mem hq)⟩
    rw [e] at hp hq
    obtain ⟨a, ha, rfl⟩ := Option.map_eq_some_iff.mp hp
    obtain ⟨b, hb, rfl⟩ := Option.map_eq_some_iff.mp hq
    have hab : a = b := hpq
    subst hab
    obtain ⟨hi, hi2⟩ := List.getElem?_eq_some_iff.mp ha
    obtain ⟨hj, hj2⟩ := List.getElem?_eq_some_iff.mp hb
    have hpw := List.pairwise_iff_getElem.mp h.1
    rcases Nat.lt_trichotomy i j with q | q | q
    · exact absurd (hi2.trans hj2.symm) (hpw i j hi hj q)
    · exact q
    · exact absurd (hj2.trans hi2.symm) (hpw j i hj hi q)
section PZR
variable {p : Program} {l : Launch} {e : Env} {R : Room} {s : State} {m : MethodId} {args : Array Value} {below : List Frame} {meth : Method} {c : Code} {H : Heap} {locs : List Loc} {cells slots : Nat} {Q : State → Prop}
variable {cc : ByteArray} {pc nL : Nat} {ls : Array Slot} {rest : List Value} {g : Wg} {L : List Nat} {μ μ' : Mem} {A : Nat → Prop} {a ci k index : Nat} {own : String} {z k' slots' : Nat}
theorem PW.lt (hw : PW g L μ A s H locs) {a : Nat} (h : a ∈ L) : a < H.size := by
  obtain ⟨k, hk⟩ := pl_get (μ := μ) h
  exact (hw.1 k _ hk).lt
theorem PW.grow (hw : PW g L μ A s H locs) {H1 : Heap} {μ1 : Mem} {n : Nat} (ho : ∀ q, q < H.size → H1[q]? = H[q]?) (hz : H1.size = H.size + n) (hn : ∀ a, H.size ≤ a → a < H.size + n → va_at g.1 vwCl (a, μ1 a) H1) (hold : ∀ a, a < H.size → μ1 a = μ a) (hj : ∀ a, H.size + n ≤ a → μ1 a = jk) : PW g (L ++ List.range' H.size n) μ1 A s H1 locs := by
  have hk1 : va_P g.1 vwCl (va_pl L μ) H1 := hw.1.kept (fun k x hx => ho x.1 (hw.1 k x hx).lt)
  refine ⟨?_, ?_, hw.2.2.1, ⟨Nat.le_trans hw.2.2.2.1.1 (by omega), fun q h1 h2 => (ho q (Nat.lt_of_lt_of_le h1 hw.2.2.2.1.1)).trans (hw.2.2.2.1.2.1 q h1 h2), hw.2.2.2.1.2.2⟩, ?_, hw.2.2.2.2.2.1, hw.2.2.2.2.2.2⟩
  · intro k q hq
    obtain ⟨a, ha, rfl⟩ := List.mem_map.mp (List.mem_of_getElem? hq)
    rcases List.mem_append.mp ha with h | h
    · obtain ⟨k2, hk2⟩ := pl_get (μ := μ) h
      have := hk1 k2 _ hk2
      show va_at g.1 vwCl (a, μ1 a) H1
      rw [hold a (hw.lt h)]
      exact this
    · rw [List.mem_range'_1] at h
      exact hn a h.1 h.2
  · have h0 := pl_D.mp hw.2.1
    refine pl_D.mpr ⟨List.nodup_append.mpr ⟨h0.1, List.nodup_range' .., ?_⟩, fun a ha => ?_⟩
    · intro a ha b hb hab
      rw [List.mem_range'_1] at hb
      have := hw.lt ha
      omega
    · rcases List.mem_append.mp ha with h | h
      · exact h0.2 a h
      · rw [List.mem_range'_1] at h
        exact hw.2.2.2.2.2.1 a (Nat.le_trans hw.2.2.2.1.1 h.1)
  · intro a ha
    rcases Nat.lt_or_ge a H.size with h | h
    · rw [hold a h]
      exact hw.2.2.2.2.1 a (fun q => ha (List.mem_append_left _ q))
    · refine hj a (Nat.le_of_not_lt fun q => ha (List.mem_append_right _ ?_))
      rw [List.mem_range'_1]
      omega
theorem PW.top (hw : PW g (LZ L z k) μ A s H locs) (hz : s.heap.size = z) : z + k ≤ H.size := by
  rcases Nat.eq_zero_or_pos k with h | h
  · have := hw.2.2.2.1.1
    omega
  · have := hw.lt (a := z + k - 1) (LZ_mem.mpr (Or.inr (by omega)))
    omega
theorem pz_at (hz : s.heap.size = z) (hw : PW g (LZ L z k) μ A s H locs) {f : JFrame} (kk : H.size = z + k → W p l e R s m args below meth c H locs k slots Q f) : W p l e R s m args below meth c H locs k slots Q f := by
  intro T hT X
  have h1 := X.heapSize
  rw [hT, hz] at h1
  exact kk (Nat.le_antisymm h1 (hw.top hz)) T hT X
/-- a class that can be made -/
def CNW (own : String) (index ci : Nat) (fs : List Value) : Prop := ∃ (C : String) (T : u_T) (N : Nat) (ty : Nat → FieldType), vwCl[ci]? = some (C, T, N) ∧ (∀ w ∈ u_ws C T N, w ∈ tw) ∧ (∀ k, k < N → parseFieldDescriptor (T k).2.2.1 = some (ty k)) ∧ Cond.classLink own index C ∈ tw ∧ Cond.instantiable C N ∈ tw ∧ Cond.initialized C ∈ tw ∧ fs.length = N ∧ ∀ j, j < N → defaultValue (ty j) = vp_V fs j
theorem pz_new (hC : CX p m c cc nL s args own) {fs : List Value} (hN : CNW own index ci fs) (hz : s.heap.size = z) (hw : PW g (LZ L z k) μ A s H locs) (hk' : k' = k + 1) (hs' : slots' = slots + fs.length) (hcells : k' ≤ R.cells) (hslots : slots' ≤ R.slots) (hdg : decode cc pc = .ok (.new index, 3))
    (kk : ∀ (H1 : Heap), PW g (LZ L z k') (va_up μ (z + k) (.inr (ci, fs))) A s H1 locs → W p l e R s m args below meth c H1 locs k' slots' Q (F0 m (pc + 3) ls (.ref (z + k) :: rest))) : W p l e R s m args below meth c H locs k slots Q (F0 m pc ls rest) := by
  subst hk'
  subst hs'
  obtain ⟨hx, hb, -, hown, hts⟩ := hC
  obtain ⟨C, T, N, ty, hc, hin, hty, w1, w2, w3, hl, hfs⟩ := hN
  refine pz_at hz hw fun hsz => ?_
  have hKn := hw.2.2.1.1 ci _ hc
  subst hl
  refine W.newcK hx hb hown (hts _ w1) (hts _ w2) (hts _ w3) rfl hdg hcells hslots hKn.2.1 hsz fun H1 kC hkC e1 z1 o1 => ?_
  refine kk H1 ?_
  rw [← LZ_app, ← hsz]
  refine hw.grow (by rw [hsz]; exact o1) (by rw [hsz]; exact z1) (fun a h1 h2 => ?_) (fun a h1 => va_up_ne _ _ (by omega)) (fun a h1 => by rw [va_up_ne _ _ (by omega)]; exact hw.2.2.2.2.1 a (fun q => by have := hw.lt q; omega))
  have ha : a = H.size := by omega
  subst ha
  rw [va_up_self]
  rw [← hsz] at e1
  exact ⟨_, hc, (u_born ty hts hin hKn hkC e1 hty).to hfs⟩
def atyOk (t : Nat) (atype : ArrayType) : Prop := match t, atype with
  | 0, .byte => True
  | 1, .int => True
  | 2, .boolean => True
  | 3, .long => True
  | _, _ => False
def zA (t N : Nat) : vp_A := if t = 3 then (N, .inr (.inl (fun _ => 0))) else (N, .inl (fun _ => 0))
theorem pz_newa (hC : CX p m c cc nL s args own) (hAW : AW s) (t : Nat) {atype : ArrayType} (ht : atyOk t atype) (hz : s.heap.size = z) (hw : PW g (LZ L z k) μ A s H locs) {n : Int32} {N : Nat} (hn : ¬ n < 0) (hN : n.toNatClampNeg = N) (hbig : N ≤ 60000000) (hk' : k' = k + 1) (hs' : slots' = slots + N) (hcells : k' ≤ R.cells) (hslots : slots' ≤ R.slots) (hdg : decode cc pc = .ok (.newarray atype, 2))
    (kk : ∀ (H1 : Heap), PW g (LZ L z k') (va_up μ (z + k) (.inl (g.2 t, zA t N))) A s H1 locs → W p l e R s m args below meth c H1 locs k' slots' Q (F0 m (pc + 2) ls (.ref (z + k) :: rest))) : W p l e R s m args below meth c H locs k slots Q (F0 m pc ls (.int n :: rest)) := by
  subst hk'
  subst hs'
  obtain ⟨hx, hb, -, hown, hts⟩ := hC
  refine pz_at hz hw fun hsz => ?_
  have key : ∀ (ty : FieldType), newarray.typeOf atype = ty → (pw_ty g.2)[t]? = some (g.2 t, ty) → ty ∈ [FieldType.int, .byte, .boolean, .long] → componentBytes ty ≤ 8 → (∀ cA, va_RA s cA ty → s.vm.findClass ("[" ++ ty.toString) = some cA) → (∀ cA, vp_cell cA (zA t N) = arrV cA N (fun _ => defaultValue ty)) → W p l e R s m args below meth c H locs k slots Q (F0 m pc ls (.int n :: rest)) := by
    intro ty hty hpt hmem hcb hra hcell
    have harr : (Cond.arrayClass (newarray.typeOf atype)).before args s = true := by rw [hty]; exact SubstrLeaves.arrayClass_alike (Vm.Alike.refl s.vm) (hAW.1 ty hmem)
    have hb2 : N * componentBytes (newarray.typeOf atype) ≤ 536870912 := by
      rw [hty]
      exact Nat.le_trans (Nat.mul_le_mul hbig hcb) (by decide)
    refine va_newaK hx hb harr rfl hdg rfl hn hN hb2 hcells hslots hsz fun H1 cA e1 z1 o1 hAr hNm => ?_
    refine kk H1 ?_
    rw [hty] at hNm e1
    have hcA : g.2 t = cA := Option.some.inj ((hra _ (hw.2.2.1.2 t _ hpt).2).symm.trans hNm)
    rw [← LZ_app, ← hsz]
    refine hw.grow (by rw [hsz]; exact o1) (by rw [hsz]; exact z1) (fun a h1 h2 => ?_) (fun a h1 => va_up_ne _ _ (by omega)) (fun a h1 => by rw [va_up_ne _ _ (by omega)]; exact hw.2.2.2.2.1 a (fun q => by have := hw.lt q; omega))
    have ha : a = H.size := by omega
    subst ha
    rw [va_up_self]
    rw [← hsz] at e1
    show H1[H.size]? = some (vp_cell (g.2 t) (zA t N))
    rw [hcell, hcA]
    exact e1
  match t, atype, ht with
  | 0, .byte, _ => exact key .byte rfl rfl (by decide) (by decide) (fun _ h => h) (fun _ => rfl)
  | 1, .int, _ => exact key .int rfl rfl (by decide) (by decide) (fun _ h => h) (fun _ => rfl)
  | 2, .boolean, _ => exact key .boolean rfl rfl (by decide) (by decide) (fun _ h => h) (fun _ => rfl)
  | 3, .long, _ => exact key .long rfl rfl (by decide) (by decide) (fun _ h => h) (fun _ => rfl)
theorem pz_newq (hC : CX p m c cc nL s args own) (hAW : AW s) (hcl : Cond.classLink own index "SpanShelves$Shelf" ∈ tw) (hz : s.heap.size = z) (hw : PW g (LZ L z k) μ A s H locs) (hk' : k' = k + 1) (hs' : slots' = slots + 4) (hcells : k' ≤ R.cells) (hslots : slots' ≤ R.slots) (hdg : decode cc pc = .ok (.anewarray index, 3))
    (kk : ∀ (H1 : Heap), PW g (LZ L z k') (va_up μ (z + k) (.inl (g.2 4, 4, .inr (.inr (.inr (.inr (fun _ => none))))))) A s H1 locs → W p l e R s m args below meth c H1 locs k' slots' Q (F0 m (pc + 3) ls (.ref (z + k) :: rest))) : W p l e R s m args below meth c H locs k slots Q (F0 m pc ls (.int 4 :: rest)) := by
  subst hk'
  subst hs'
  obtain ⟨hx, hb, -, hown, hts⟩ := hC
  refine pz_at hz hw fun hsz => ?_
  refine W.anew (n := 4) hx hb hown (hts _ hcl) (va_AO.use (hAW.2 _ (by decide))) rfl hdg rfl (by decide) (by decide) hcells hslots fun cA kA comp f1 f2 f3 f4 => ?_
  obtain ⟨-, -, -, -, -, f5⟩ := (hw.2.2.1.2 4 _ rfl).2
  have hcA : g.2 4 = cA := Option.some.inj (f5.symm.trans f1)
  have ho : ∀ q, q < H.size → (H.push ({ cls := cA, slots := Array.replicate (4 : Int32).toNatClampNeg .null, vm := .none } : Cell))[q]? = H[q]? := fun q hq => by rw [Array.getElem?_push, if_neg (Nat.ne_of_lt hq)]
  refine W.eq (g2 := F0 m (pc + 3) ls (.ref (z + k) :: rest)) (by rw [← hsz]) ?_
  refine kk _ ?_
  rw [← LZ_app, ← hsz]
  refine hw.grow ho (by rw [Array.size_push]) (fun a h1 h2 => ?_) (fun a h1 => va_up_ne _ _ (by omega)) (fun a h1 => by rw [va_up_ne _ _ (by omega)]; exact hw.2.2.2.2.1 a (fun q => by have := hw.lt q; omega))
  have ha : a = H.size := by omega
  subst ha
  rw [va_up_self]
  show _ = some (vp_cell _ _)
  rw [Array.getElem?_push_size, vp_cell_q, hcA, ← arrV_new]
  rfl
/-- rows of a new array of arrays -/
def mnM (cy : Nat → ClassId) (t K a : Nat) (μ : Mem) : Mem := fun j => if j = a then .inl (cy (t + 5), 4, .inr (.inr (.inr (.inr (fun i => if i < 4 then some (a + 1 + i) else none))))) else if a < j ∧ j < a + 5 then .inl (cy t, zA t K) else μ j
theorem pz_mna (hC : CX p m c cc nL s args own) (hAW : AW s) (t : Nat) {ty : FieldType} (ht : (t = 0 ∧ ty = .byte) ∨ (t = 1 ∧ ty = .int)) (hcl : Cond.classLink own index ("[" ++ (FieldType.array ty).toString) ∈ tw) (hz : s.heap.size = z) (hw : PW g (LZ L z k) μ A s H locs) {kk0 : Int32} {K : Nat} (hn : ¬ kk0 < 0) (hK : kk0.toNatClampNeg = K) (hbig : K ≤ 60000000) (hk' : k' = k + 5) (hs' : slots' = slots + 4 + 4 * K) (hcells : k' ≤ R.cells) (hslots : slots' ≤ R.slots) (hdg : decode cc pc = .ok (.multianewarray index 2, 4))
    (kk : ∀ (H1 : Heap), PW g (LZ L z k') (mnM g.2 t K (z + k) μ) A s H1 locs → W p l e R s m args below meth c H1 locs k' slots' Q (F0 m (pc + 4) ls (.ref (z + k) :: rest))) : W p l e R s m args below meth c H locs k slots Q (F0 m pc ls (.int kk0 :: .int 4 :: rest)) := by
  subst hk'
  subst hs'
  obtain ⟨hx, hb, -, hown, hts⟩ := hC
  refine pz_at hz hw fun hsz => ?_
  have m1 : ty ∈ [FieldType.int, .byte, .boolean, .long] := by rcases ht with ⟨-, rfl⟩ | ⟨-, rfl⟩ <;> decide
  have m2 : FieldType.array ty ∈ [FieldType.object "SpanShelves$Shelf", .array .byte, .array .int] := by rcases ht with ⟨-, rfl⟩ | ⟨-, rfl⟩ <;> decide
  have m3 : componentBytes ty ≤ 8 := by rcases ht with ⟨-, rfl⟩ | ⟨-, rfl⟩ <;> decide
  have m4 : fits ty (defaultValue ty) = true ∧ (defaultValue ty).isDefault = true := by rcases ht with ⟨-, rfl⟩ | ⟨-, rfl⟩ <;> exact ⟨by decide, by decide⟩
  have hcell : ∀ cA : ClassId, Jvm.Free.Multi.innerC cA K (defaultValue ty) = vp_cell cA (zA t K) := by
    intro cA
    rcases ht with ⟨rfl, rfl⟩ | ⟨rfl, rfl⟩
    · show ({ cls := cA, slots := Array.replicate K (.int 0), vm := .none } : Cell) = arrV cA K (fun _ => .int 0)
      rw [arrV_new]
    · show ({ cls := cA, slots := Array.replicate K (.int 0), vm := .none } : Cell) = arrV cA K (fun _ => .int 0)
      rw [arrV_new]
  have c0 : s.vm.findClass (FieldType.array ty).toString = some (g.2 t) := by
    rcases ht with ⟨rfl, rfl⟩ | ⟨rfl, rfl⟩
    · exact (hw.2.2.1.2 0 _ rfl).2
    · exact (hw.2.2.1.2 1 _ rfl).2
  have c1 : s.vm.findClass ("[" ++ (FieldType.array ty).toString) = some (g.2 (t + 5)) := by
    rcases ht with ⟨rfl, rfl⟩ | ⟨rfl, rfl⟩
    · exact (hw.2.2.1.2 5 _ rfl).2
    · exact (hw.2.2.1.2 6 _ rfl).2
  intro T hT Xs
  subst hK
  obtain ⟨vm₁, cA, comp, -, fA, fC, -, -, X', step⟩ := Xs.multianewarray2F (n := 4) hx hown (hts _ hcl) (va_AOA.use (hAW.2 _ m2)) (SubstrLeaves.arrayClass_alike (Vm.Alike.refl s.vm) (hAW.1 _ m1)) (g := F0 m pc ls (.int kk0 :: .int 4 :: rest)) rfl (by rw [hb]; exact hdg) rfl (by decide) hn (by decide) (Nat.le_trans (Nat.mul_le_mul hbig m3) (by decide)) (by omega) m4.1 m4.2 (by show k + (1 + 4) ≤ R.cells; omega) (by show slots + (4 + 4 * kk0.toNatClampNeg) ≤ R.slots; omega)
  have e1 : g.2 (t + 5) = cA := Option.some.inj (c1.symm.trans fA)
  have e2 : g.2 t = comp := Option.some.inj (c0.symm.trans fC)
  subst e1
  subst e2
  obtain ⟨f1, f2, -, -⟩ := Jvm.Free.Multi.fill_facts (T.setVm vm₁) (g.2 (t + 5)) (g.2 t) 4 kk0.toNatClampNeg (defaultValue ty) 4
  have f3 := fun (x : Nat) (hx : x < H.size) => Jvm.Free.Multi.fill_old (T.setVm vm₁) (g.2 (t + 5)) (g.2 t) 4 kk0.toNatClampNeg (defaultValue ty) (a := x) (by show x < T.heap.size; rw [hT]; exact hx) 4
  have f4 := fun (j : Nat) (hj : j < 4) => Jvm.Free.Multi.fill_inner (T.setVm vm₁) (g.2 (t + 5)) (g.2 t) 4 kk0.toNatClampNeg (defaultValue ty) 4 j hj
  have hTh : (T.setVm vm₁).heap = H := hT
  change Stand p l e R s m args below meth c (Jvm.Free.Multi.fill (T.setVm vm₁) (g.2 (t + 5)) (g.2 t) 4 kk0.toNatClampNeg (defaultValue ty) 4) locs (k + 1 + 4) (slots + 4 + 4 * kk0.toNatClampNeg) at X'
  change ∀ target, Steps p.tables e below ((Jvm.Free.Multi.fill (T.setVm vm₁) (g.2 (t + 5)) (g.2 t) 4 kk0.toNatClampNeg (defaultValue ty) 4).setTop { (F0 m pc ls (.int kk0 :: .int 4 :: rest)) with pc := pc + 4, stack := .ref T.heap.size :: rest }) target → Steps p.tables e below (T.setTop (F0 m pc ls (.int kk0 :: .int 4 :: rest))) target at step
  generalize Jvm.Free.Multi.fill (T.setVm vm₁) (g.2 (t + 5)) (g.2 t) 4 kk0.toNatClampNeg (defaultValue ty) 4 = F at X' step f1 f2 f3 f4
  rw [hTh] at f1 f2 f3 f4
  have hw2 : PW g (LZ L z (k + 5)) (mnM g.2 t kk0.toNatClampNeg (z + k) μ) A s F.heap locs := by
    rw [← LZ_app, ← hsz]
    refine hw.grow f3 f1 (fun a h1 h2 => ?_) (fun a h1 => ?_) (fun a h1 => ?_)
    · unfold mnM
      by_cases ha : a = H.size
      · subst ha
        rw [if_pos rfl]
        show F.heap[H.size]? = some (vp_cell _ _)
        rw [f2, vp_cell_q, vr_outer]
      · rw [if_neg ha, if_pos (by omega)]
        show F.heap[a]? = some (vp_cell _ _)
        have := f4 (a - H.size - 1) (by omega)
        rw [show H.size + 1 + (a - H.size - 1) = a by omega] at this
        rw [this, hcell]
    · unfold mnM
      rw [if_neg (by omega), if_neg (by omega)]
    · unfold mnM
      rw [if_neg (by omega), if_neg (by omega)]
      exact hw.2.2.2.2.1 a (fun q => by have := hw.lt q; omega)
  obtain ⟨t2, a1, b1⟩ := kk F.heap hw2 F rfl X'
  refine ⟨t2, step t2 ?_, b1⟩
  rw [hT, hsz]
  exact a1
theorem pz_putF (hC : CX p m c cc nL s args own) (hF : FL own index ci k) (hin2 : meth.name = "<init>") (hw : PW g L μ A s H locs) {v : Value} (hr : wrF μ a ci k v = some μ') (ty : FieldType)
    (hd : ∀ (C : String) (T : u_T) (N : Nat), vwCl[ci]? = some (C, T, N) → (T k).2.2.2 = true ∧ parseFieldDescriptor (T k).2.2.1 = some ty ∧ C = own) (hnl : Cond.fieldLink own index own ((vwCl.getD ci ("", fun _ => ("", "", "", false), 0)).2.1 k).2.1 ((vwCl.getD ci ("", fun _ => ("", "", "", false), 0)).2.1 k).2.2.1 ∈ tw) (hn : narrow ty v = v) (hfit : fits ty v = true) (hdg : decode cc pc = .ok (.putfield index, 3))
    (kk : ∀ (H1 : Heap) (locs1 : List Loc), PW g L μ' A s H1 locs1 → W p l e R s m args below meth c H1 locs1 cells slots Q (F0 m (pc + 3) ls rest)) : W p l e R s m args below meth c H locs cells slots Q (F0 m pc ls (v :: .ref a :: rest)) := by
  obtain ⟨hx, hb, -, hown, hts⟩ := hC
  obtain ⟨h99, C, T, N, ty0, hc, hk, hT, hin, hty, hnm, -⟩ := hF
  obtain ⟨fs, hm, hkl, rfl⟩ := wrF_at hr
  have ha := hw.inr hm h99
  obtain ⟨q0, he⟩ := pl_get (μ := μ) ha
  obtain ⟨d1, d2, d3⟩ := hd C T N hc
  have hgd : vwCl.getD ci ("", fun _ => ("", "", "", false), 0) = (C, T, N) := by rw [List.getD_eq_getElem?_getD, hc]; rfl
  rw [hgd] at hnl
  subst d3
  have he' := he
  rw [hm] at he
  exact va_putF (ref := C) hx hb hts hin ty0 hty hnm hown hw.2.2.1 hw.1 hw.2.1 hw.2.2.2.1 q0 he hc k hk (hts _ hnl) (fun x h => by rw [← hT]; exact h) d1 hin2 hT d2 hn hfit hkl hdg (fun H1 locs1 hP _ hS => kk H1 locs1 (hw.step ha he' hP hS))
def wrQ (cy : Nat → ClassId) (μ : Mem) (a : Nat) (i : Int32) (v : Nat) : Option Mem := match μ a with
  | .inl (cA, n, .inr (.inr (.inr (.inr f)))) => if cA = cy 4 ∧ ¬ (i < 0 ∨ n ≤ i.toNatClampNeg) ∧ isO μ v 3 = true then some (va_up μ a (.inl (cA, n, .inr (.inr (.inr (.inr (va_up f i.toNatClampNeg (some v)))))))) else none
  | _ => none
theorem pz_aast (hC : CX p m c cc nL s args own) (hw : PW g L μ A s H locs) {i : Int32} {v : Nat} (hr : wrQ g.2 μ a i v = some μ') (hdg : decode cc pc = .ok (.aastore, 1))
    (kk : ∀ (H1 : Heap) (locs1 : List Loc), PW g L μ' A s H1 locs1 → W p l e R s m args below meth c H1 locs1 cells slots Q (F0 m (pc + 1) ls rest)) : W p l e R s m args below meth c H locs cells slots Q (F0 m pc ls (.ref v :: .int i :: .ref a :: rest)) := by
  obtain ⟨hx, hb, -, hown, hts⟩ := hC
  unfold wrQ at hr
  split at hr
  · rename_i cA n f hm
    split at hr
    · rename_i e2
      obtain ⟨e2, e3, e4⟩ := e2
      subst e2
      cases hr
      obtain ⟨fs, hv⟩ := isO_at e4
      have ha := hw.inl hm
      obtain ⟨q0, he⟩ := pl_get (μ := μ) ha
      obtain ⟨q1, he1⟩ := pl_get (μ := μ) (hw.inr hv (by decide))
      have he' := he
      rw [hm] at he
      rw [hv] at he1
      exact va_astq hx hb hw.2.2.1 hw.1 hw.2.1 hw.2.2.2.1 q0 4 q1 3 he (by rfl) he1 rfl e3 hdg (fun H1 locs1 hP _ hS => kk H1 locs1 (hw.step ha he' hP hS))
    · cases hr
  · cases hr
/-- a constructor's contract -/
def pPreG (g : Wg) (L : List Nat) (μ : Mem) (av : List Value) (sz : Nat) : Array Value → State → Prop := fun a U => pPre g L μ av sz a U ∧ AW U
def MetG (l : Launch) (y : MethodName) (cc : ByteArray) (nL : Nat) (rm : Room) (g : Wg) (L : List Nat) (z : Nat) (μ : Mem) (av : List Value) (μ' : Mem) : Prop :=
  Met l y [Cond.code y cc nL none] rm (pPreG g L μ av z) (QV g (LZ L z rm.cells) (pA L z) μ') rm.cells rm.slots (pA L z)
theorem pBlindG {sz : Nat} {av : List Value} : FrameBlind (pPreG g L μ av sz) := fun a U g' mk h => ⟨pBlind a U g' mk h.1, AW.moved (u := U) (Vm.Alike.refl U.vm) h.2⟩
def MIN (y : MethodName) (bytes : ByteArray) (maxL n : Nat) : Prop := Cond.instanceMethod y ∈ tw ∧ Cond.code y bytes maxL none ∈ tw ∧ Cond.initialized y.cls ∈ tw ∧ y.cls ≠ "java/lang/invoke/MethodHandle" ∧ y.cls ≠ "java/lang/invoke/VarHandle" ∧ (parseMethodDescriptor y.desc).map (fun d => d.parameters.length) = some n ∧ y.name = "<init>"
theorem pz_runI {y : MethodName} {bytes : ByteArray} {maxL n : Nat} {rm : Room} {b : Nat} {As : List Value} (hC : CX p m c cc nL s args own) (hAW : AW s) (hm : MIN y bytes maxL n) (hlk : Cond.methodLink own index y ∈ tw ∨ ∃ host, Cond.methodLinkNest own index y host ∈ tw) (hz : s.heap.size = z) (hw : PW g (LZ L z k) μ A s H locs) (hM : MetG l y bytes maxL rm g (LZ L z k) (z + k) μ (.ref b :: As) μ') (hR : fitX R rm maxL) (hn : As.length = n) (hsz : ls.size = nL) (hcat : (rest.map fun v => v.category).sum ≤ 8) (hk' : k' = k + rm.cells) (hs' : slots' = slots + rm.slots) (hcs : k' ≤ R.cells ∧ slots' ≤ R.slots)
    {st0 : List Value} (hst : st0 = As.reverse ++ .ref b :: rest) (hdg : decode cc pc = .ok (.invokespecial index, 3))
    (kk : ∀ (H1 : Heap) (locs1 : List Loc), PW g (LZ L z k') μ' A s H1 locs1 → W p l e R s m args below meth c H1 locs1 k' slots' Q (F0 m (pc + 3) ls rest)) : W p l e R s m args below meth c H locs k slots Q (F0 m pc ls st0) := by
  subst hk'
  subst hs'
  obtain ⟨h1, h3, h4, h5, h6, h7, h8⟩ := hm
  have hts := hC.2.2.2.2
  refine pz_at hz hw fun hHz => ?_
  unfold MetG at hM
  rw [← hHz] at hM
  have hr : va_Run p l e R s m args below meth c H locs k slots rm.cells rm.slots (F0 m pc ls st0) rest (QV g (LZ (LZ L z k) H.size rm.cells) (pA (LZ L z k) H.size) μ' (Value.ref b :: As).toArray) (pA (LZ L z k) H.size) := by
    rcases hlk with hlk | ⟨host, hlk⟩
    · exact va_runI (bytes := bytes) (maxL := maxL) (As := As) (rest := rest) (n := n) hC hM ⟨⟨rfl, rfl, hR.1, hR.2, code1 hw.2.2.2.2.2.2 h3, List.mem_singleton.mpr rfl, hts _ h3, hts _ h4, ⟨h5, h6⟩, par_n h7, hts _ hlk⟩, h8, hts _ h1⟩
        ⟨pBlindG, fun U hU hW => ⟨pPre_of hw hU hW, hAW.moved hW.alike⟩⟩ rfl hn hsz hst (lv_room hcat) hdg hcs
    · exact va_runIN (bytes := bytes) (maxL := maxL) (As := As) (rest := rest) (n := n) (host := host) hC hM ⟨⟨⟨rfl, rfl, hR.1, hR.2, code1 hw.2.2.2.2.2.2 h3, List.mem_singleton.mpr rfl⟩, hts _ h3, hts _ h4, ⟨h5, h6⟩, par_n h7, hw.2.2.2.2.2.2 _ hlk⟩, h8, hts _ h1⟩
        ⟨pBlindG, fun U hU hW => ⟨pPre_of hw hU hW, hAW.moved hW.alike⟩⟩ rfl hn hsz hst (lv_room hcat) hdg hcs
  refine va_callv hr hw.2.2.2.1 (fun q _ h => pA_sub hw q h) (pA_sub hw) (fun u t H1 locs1 ht hvm hp hB _ _ hS => ?_)
  subst hp
  refine kk H1 locs1 ?_
  rw [hHz, LZ_LZ] at hB
  obtain ⟨b1, b2, b3, b4⟩ := hB
  rw [ht] at b1
  refine ⟨b1, pD_w b3 (fun q hq => ?_), hw.2.2.1, hS, b4, hw.2.2.2.2.2.1, hw.2.2.2.2.2.2⟩
  rcases LZ_mem.mp hq with h | h
  · obtain ⟨k9, hk9⟩ := pl_get (μ := μ) (LZ_mem.mpr (Or.inl h) : q ∈ LZ L z k)
    exact hw.2.1.2 k9 _ hk9
  · exact hw.2.2.2.2.2.1 q (by omega)
theorem pz_vret (hC : CX p m c cc nL s args own) (hr : meth.sig.returnType = none) (hlocks : meth.locks = false) (hw : PW g L μ A s H locs) (hdg : decode cc pc = .ok (.return_, 1)) : W p l e R s m args below meth c H locs cells slots (MQ below (QV g L A μ) args s cells slots A) (F0 m pc ls []) :=
  W.vret hC.1 hC.2.1 hr (fun t ht hW => ⟨⟨μ, rfl, rfl, hw.at' ht hW⟩, hw.2.2.2.1.F ht⟩) hw.2.2.2.1.2.2 hdg hlocks
end PZR
theorem pz_met {l : Launch} {y : MethodName} {cc : ByteArray} {nL : Nat} {rm : Room} {g : Wg} {L : List Nat} {z : Nat} {μ μ' : Mem} {av : List Value} (hy : plainName y.cls = true) (hlen : (lg_sl av).length ≤ nL) (hy1 : y.name = "<init>")
    (body : ∀ (p : Program) (e : Env) (s : State) (m : MethodId) (args : Array Value) (below : List Frame) (meth : Method) (c : Code) (A : Nat → Prop) (ls : Array Slot) (H : Heap) (locs : List Loc), CX p m c cc nL s args y.cls → AW s → meth.name = "<init>" → s.heap.size = z → meth.sig.returnType = none → meth.locks = false → lv_has ls nL (lv_args 0 av) → PW g (LZ L z 0) μ A s H locs →
      W p l e rm s m args below meth c H locs 0 0 (MQ below (QV g (LZ L z rm.cells) A μ') args s rm.cells rm.slots A) (F0 m 0 ls [])) : MetG l y cc nL rm g L z μ av μ' := by
  refine Met.ofW (cc := cc) (maxL := nL) (ret := none) hy rfl ?_
  intro p e s m args below meth c s₁ B hml hv
  obtain ⟨⟨rfl, hsz, hP, hK, hD0, hJ, hT⟩, hAW⟩ := hv
  have hown : s.vm.findClass y.cls = some m.cls := findClass_of_methodNamed B.named
  have hin : meth.name = "<init>" := (name_of_methodNamed B.named B.method).1.trans hy1
  rw [lg_entry_eq]
  refine body p e s m _ below meth c (pA L z) _ _ _ ⟨B.exec, B.bytes, hml, hown, tb_use hT⟩ hAW hin hsz B.returns B.notSynchronized (lv_entry av hlen) ?_
  rw [LZ_0]
  exact ⟨hP, pD_w hD0 (fun q h => Or.inl h), hK, va_S.rf, hJ, fun q h => Or.inr (by omega), hT⟩
