/-- fuel for a loop -/
def FU : Nat := 100000
/-- depth for calls that nest -/
abbrev DP : Nat := 120
def ob2 {α β γ : Type} (x : Option (α × β)) (k : α → β → Option γ) : Option γ := x.bind fun q => k q.1 q.2
theorem o_bind2 {α β γ : Type} {x : Option (α × β)} {k : α → β → Option γ} {y : γ} (h : ob2 x k = some y) : ∃ a b, x = some (a, b) ∧ k a b = some y := by
  obtain ⟨⟨a, b⟩, h1, h2⟩ := o_bind h
  exact ⟨a, b, h1, h2⟩
theorem o_pos {α : Type} {c : Prop} [Decidable c] {x y z : α} (hc : c) (h : (if c then x else y) = z) : x = z := by rw [if_pos hc] at h; exact h
theorem o_neg {α : Type} {c : Prop} [Decidable c] {x y z : α} (hc : ¬ c) (h : (if c then x else y) = z) : y = z := by rw [if_neg hc] at h; exact h
theorem o_if {α : Type} {c : Prop} [Decidable c] {x y z : α} (h : (if c then x else y) = z) : (c ∧ x = z) ∨ (¬ c ∧ y = z) := by
  by_cases hc : c
  · exact Or.inl ⟨hc, o_pos hc h⟩
  · exact Or.inr ⟨hc, o_neg hc h⟩
theorem o_ret {α β : Type} {a c : α} {b d : β} (h : some (a, b) = some (c, d)) : a = c ∧ b = d := by cases h; exact ⟨rfl, rfl⟩
theorem o_retv {β : Type} {b d : β} (h : some b = some d) : b = d := by cases h; rfl
/-- System.arraycopy between arrays of ints -/
def cpA (cy : Nat → ClassId) (μ : Mem) (a0 : Nat) (sp : Int32) (a : Nat) (dp n : Int32) : Option Mem := match μ a0, μ a with
  | .inl (c0, n0, .inl f), .inl (c1, n1, .inl h) => if c0 = cy 1 ∧ c1 = cy 1 ∧ ¬ sp < 0 ∧ ¬ dp < 0 ∧ ¬ n < 0 ∧ sp.toNatClampNeg + n.toNatClampNeg ≤ n0 ∧ dp.toNatClampNeg + n.toNatClampNeg ≤ n1 then some (va_up μ a (.inl (c1, n1, .inl (va_cpy f h sp.toNatClampNeg dp.toNatClampNeg n.toNatClampNeg)))) else none
  | _, _ => none
theorem cpA_at {cy : Nat → ClassId} {μ μ' : Mem} {a0 a : Nat} {sp dp n : Int32} (h : cpA cy μ a0 sp a dp n = some μ') : ∃ n0 f n1 k, μ a0 = .inl (cy 1, n0, .inl f) ∧ μ a = .inl (cy 1, n1, .inl k) ∧ (¬ sp < 0 ∧ ¬ dp < 0 ∧ ¬ n < 0 ∧ sp.toNatClampNeg + n.toNatClampNeg ≤ n0 ∧ dp.toNatClampNeg + n.toNatClampNeg ≤ n1) ∧ μ' = va_up μ a (.inl (cy 1, n1, .inl (va_cpy f k sp.toNatClampNeg dp.toNatClampNeg n.toNatClampNeg))) := by
  unfold cpA at h
  split at h
  · rename_i c0 n0 f c1 n1 k e0 e1
    split at h
    · rename_i e2
      obtain ⟨e2, e3, e4⟩ := e2
      subst e2
      subst e3
      cases h
      exact ⟨n0, f, n1, k, e0, e1, e4, rfl⟩
    · cases h
  · cases h
section PWR2
variable {p : Program} {l : Launch} {e : Env} {R : Room} {s : State} {m : MethodId} {args : Array Value} {below : List Frame} {meth : Method} {c : Code} {H : Heap} {locs : List Loc} {cells slots : Nat} {Q : State → Prop}
variable {cc : ByteArray} {pc nL : Nat} {ls : Array Slot} {rest : List Value} {g : Wg} {L : List Nat} {μ μ' : Mem} {A : Nat → Prop} {a ci k index : Nat} {own : String}
theorem pw_zast (hC : CX p m c cc nL s args own) (hw : PW g L μ A s H locs) {i x : Int32} (hr : wrA g.2 μ 2 a i (vp_nar .boolean x) = some μ') (hdg : decode cc pc = .ok (.bastore, 1))
    (kk : ∀ (H1 : Heap) (locs1 : List Loc), PW g L μ' A s H1 locs1 → W p l e R s m args below meth c H1 locs1 cells slots Q (F0 m (pc + 1) ls rest)) : W p l e R s m args below meth c H locs cells slots Q (F0 m pc ls (.int x :: .int i :: .ref a :: rest)) := by
  obtain ⟨hx, hb, -, hown, hts⟩ := hC
  obtain ⟨n, f, hm, hin, rfl⟩ := wrA_at hr
  have ha := hw.inl hm
  obtain ⟨q0, he⟩ := pl_get (μ := μ) ha
  have he' := he
  rw [hm] at he
  exact va_zast hx hb hw.2.2.1 hw.1 hw.2.1 hw.2.2.2.1 q0 2 he rfl hin hdg (fun H1 locs1 hP _ hS => kk H1 locs1 (hw.step ha he' hP hS))
theorem pw_copy (hC : CX p m c cc nL s args own) (hw : PW g L μ A s H locs) (hlk : Cond.methodLink own index arraycopyName ∈ tw ∧ Cond.native arraycopyName ∈ tw ∧ Cond.static arraycopyName ∈ tw ∧ Cond.initialized "java/lang/System" ∈ tw) (hsz : ls.size = nL) {a0 : Nat} {sp dp n : Int32} (hr : cpA g.2 μ a0 sp a dp n = some μ')
    (hframes : 1 ≤ R.frames) (hlocals : (rest.map fun v => v.category).sum + (nativeFrameWords "java/lang/System" "arraycopy" 5 + 11) ≤ R.locals) (hdg : decode cc pc = .ok (.invokestatic index, 3))
    (kk : ∀ (H1 : Heap) (locs1 : List Loc), PW g L μ' A s H1 locs1 → W p l e R s m args below meth c H1 locs1 cells slots Q (F0 m (pc + 3) ls rest)) : W p l e R s m args below meth c H locs cells slots Q (F0 m pc ls (.int n :: .int dp :: .ref a :: .int sp :: .ref a0 :: rest)) := by
  obtain ⟨hx, hb, hml, hown, hts⟩ := hC
  obtain ⟨n0, f, n1, k, hm0, hm, ⟨h1, h2, h3, h4, h5⟩, rfl⟩ := cpA_at hr
  have ha := hw.inl hm
  obtain ⟨q0, he0⟩ := pl_get (μ := μ) (hw.inl hm0)
  obtain ⟨q1, he⟩ := pl_get (μ := μ) ha
  have he' := he
  rw [hm] at he
  rw [hm0] at he0
  exact va_copyi hx hb (hml.trans hsz.symm) hown (hts _ hlk.1) (hts _ hlk.2.1) (hts _ hlk.2.2.1) (hts _ hlk.2.2.2) hw.2.2.1 hw.1 hw.2.1 hw.2.2.2.1 q0 q1 1 1 he0 he rfl rfl rfl h1 h2 h3 h4 h5 (fun _ _ => rfl) hframes hlocals hdg (fun H1 locs1 hP _ hS => kk H1 locs1 (hw.step ha he' hP hS))
end PWR2
theorem tw_t (i : Nat) {w : Cond} (h : tables_1[i]? = some w) (hk : tw_ok w = true) : w ∈ tw := List.mem_filter.mpr ⟨List.mem_append_right _ (List.mem_of_getElem? h), hk⟩
theorem tw_p (i : Nat) {q : MethodName × Nat} (h : lw_privs[i]? = some q) (hk : tw_ok (Cond.selects q.1.cls q.1 q.1) = true) : Cond.selects q.1.cls q.1 q.1 ∈ tw := List.mem_filter.mpr ⟨List.mem_append_left _ (List.mem_map.mpr ⟨q, List.mem_of_getElem? h, rfl⟩), hk⟩
