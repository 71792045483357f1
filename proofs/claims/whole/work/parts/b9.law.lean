/-! THE LAW'S MEMORY. -/
theorem arrV_same {c : ClassId} {n : Nat} {f f' : Nat → Value} (h : ∀ i, i < n → f i = f' i) : arrV c n f = arrV c n f' := by
  unfold arrV
  have e : (fun j : Fin n => f j.1) = fun j : Fin n => f' j.1 := funext fun j => h j.1 j.2
  rw [e]
theorem ceq_at {D : va_G} {cl : List vw_C} {q : Nat} {e e' : va_E} {H : Heap} (h : ceq e e') (ha : va_at D cl (q, e) H) : va_at D cl (q, e') H := by
  rcases h with rfl | ⟨c, n, f, f', rfl, rfl, h⟩
  · exact ha
  · have ha : H[q]? = some (vp_cell c (n, .inr (.inr (.inr (.inr f))))) := ha
    show H[q]? = some (vp_cell c (n, .inr (.inr (.inr (.inr f')))))
    rw [ha, vp_cell_q, vp_cell_q, arrV_same (fun i hi => by rw [h i hi])]
theorem PW.swap {g : Wg} {L : List Nat} {μ μ' : Mem} {A : Nat → Prop} {s : State} {H : Heap} {locs : List Loc} (hw : PW g L μ A s H locs) (h : ∀ q, ceq (μ q) (μ' q)) : PW g L μ' A s H locs := by
  refine ⟨?_, pD hw.2.1, hw.2.2.1, hw.2.2.2.1, fun a ha => ?_, hw.2.2.2.2.2.1, hw.2.2.2.2.2.2⟩
  · intro k q hq
    obtain ⟨a, ha, rfl⟩ := List.mem_map.mp (List.mem_of_getElem? hq)
    obtain ⟨k2, hk2⟩ := pl_get (μ := μ) ha
    exact ceq_at (h a) (hw.1 k2 _ hk2)
  · have h1 := h a
    rw [hw.2.2.2.2.1 a ha] at h1
    rcases h1 with h1 | ⟨c, n, f, f', h1, -⟩
    · exact h1.symm
    · unfold jk at h1
      cases h1
def ad6 (z : Nat) : Nat → Nat := fun j => z + of6 j
def ad8 (z : Nat) : Nat → Nat := fun j => z + 64 + of8 j
def ouE (cy : Nat → ClassId) (f : Nat → Int64) : va_E := .inl (cy 3, 1, .inr (.inl f))
def LMb (cy : Nat → ClassId) (z : Nat) (μb : Mem) (f : Nat → Int64) : Mem := va_up μb (z + 116) (ouE cy f)
def LM (cy : Nat → ClassId) (z : Nat) (μb : Mem) (f : Nat → Int64) (J : Nat → Int32) (w : Nat) (B : Nat → Nat → Int32) (I : Nat → Int32) (V : Nat → Value) (A : Nat → Nat → Int32) : Mem := MC cy (iv6 z) (ad6 z) (MR cy (iv8 (z + 64)) (ad8 z) (LMb cy z μb f) I V A) J w B
theorem lay6z (z : Nat) : Lay6 (iv6 z) (ad6 z) := lay6 z
theorem lay8z (z : Nat) : Lay (iv8 (z + 64)) (ad8 z) := lay8 (z + 64)
theorem iv68 {z q j : Nat} (h : iv6 z q = some j) : iv8 (z + 64) q = none := by
  unfold iv6 at h
  split at h
  · unfold iv8
    rw [if_neg (by omega)]
  · cases h
theorem iv6o {z : Nat} : iv6 z (z + 116) = none := by
  unfold iv6
  rw [if_neg (by omega)]
theorem iv8o {z : Nat} : iv8 (z + 64) (z + 116) = none := by
  unfold iv8
  rw [if_neg (by omega)]
theorem ML_comm {z : Nat} {μ : Mem} {S T : Nat → va_E} : ML (iv6 z) (ML (iv8 (z + 64)) μ T) S = ML (iv8 (z + 64)) (ML (iv6 z) μ S) T := by
  funext q
  unfold ML
  cases h : iv6 z q with
  | none => rfl
  | some j => rw [iv68 h]
theorem ML_base {iv : Nat → Option Nat} {μ μ' : Mem} {S S' : Nat → va_E} (h : ML iv μ S = ML iv μ S') : ML iv μ' S = ML iv μ' S' := by
  funext q
  have := congrFun h q
  unfold ML at this ⊢
  cases hq : iv q with
  | none => rfl
  | some j => rw [hq] at this; exact this
section LAWM
variable {cy : Nat → ClassId} {z : Nat} {μb : Mem} {f : Nat → Int64} {J J' : Nat → Int32} {w w' : Nat} {B B' : Nat → Nat → Int32} {I I' : Nat → Int32} {V V' : Nat → Value} {A A' : Nat → Nat → Int32}
theorem LM_8 : LM cy z μb f J w B I V A = MR cy (iv8 (z + 64)) (ad8 z) (MC cy (iv6 z) (ad6 z) (LMb cy z μb f) J w B) I V A := ML_comm
theorem LM_out : LM cy z μb f J w B I V A (z + 116) = ouE cy f := by
  unfold LM MC MR ML
  simp only [iv6o, iv8o]
  exact va_up_self _ _ _
theorem LM_up {f' : Nat → Int64} : va_up (LM cy z μb f J w B I V A) (z + 116) (ouE cy f') = LM cy z μb f' J w B I V A := by
  funext q
  unfold va_up LM MC MR ML LMb va_up
  by_cases h : q = z + 116
  · subst h
    simp only [iv6o, iv8o, if_true]
  · rw [if_neg h]
    simp only [if_neg h]
theorem LM_x : isO (LM cy z μb f J w B I V A) (ad6 z 0) 5 = true := by
  exact isO_mk (show LM cy z μb f J w B I V A (ad6 z 0) = .inr (5, fX (ad6 z) J) from L6_at (j := 0) (lay6z z) rfl)
theorem LM_m : isO (LM cy z μb f J w B I V A) (ad8 z 0) 7 = true := by
  exact isO_mk (show LM cy z μb f J w B I V A (ad8 z 0) = .inr (7, fl8 (ad8 z) I V) from by rw [LM_8]; exact ML_at (j := 0) (lay8z z) rfl)
theorem LM_thrown : f_X8_thrown cy (ad8 z 0) (LM cy z μb f J w B I V A) = some (I 0, LM cy z μb f J w B I V A) := by
  unfold f_X8_thrown
  rw [rdI_mk (show LM cy z μb f J w B I V A (ad8 z 0) = .inr (7, fl8 (ad8 z) I V) from by rw [LM_8]; exact ML_at (j := 0) (lay8z z) rfl) (v := I 0) rfl]
  rfl
theorem LM_rd : rdL cy (LM cy z μb f J w B I V A) (z + 116) = some (f 0) := by
  unfold rdL
  rw [LM_out]
  exact if_pos ⟨rfl, by decide⟩
theorem LM_wr {x : Int64} : wrL cy (LM cy z μb f J w B I V A) (z + 116) x = some (LM cy z μb (vp_updL f 0 x) J w B I V A) := by
  unfold wrL
  rw [LM_out]
  show (if cy 3 = cy 3 ∧ 0 < 1 then some (va_up (LM cy z μb f J w B I V A) (z + 116) (ouE cy (vp_updL f 0 x))) else none) = _
  rw [if_pos ⟨rfl, by decide⟩, LM_up]
theorem lw_Z' {fx : Mem → Option (Int32 × Mem)} {fy : Mem → Option (Int32 × Mem)} (k : ∀ μ0 μ1, ANZ cy (iv6 z) (ad6 z) μ0 (iv8 (z + 64)) (ad8 z) μ1 (fx (MC cy (iv6 z) (ad6 z) μ0 J w B)) (fy (MR cy (iv8 (z + 64)) (ad8 z) μ1 I V A))) : ∃ J' w' B' I' V' A' v, fx (LM cy z μb f J w B I V A) = some (v, LM cy z μb f J' w' B' I V A) ∧ fy (LM cy z μb f J' w' B' I V A) = some (v, LM cy z μb f J' w' B' I' V' A') ∧ REL J' B' I' A' := by
  obtain ⟨J1, w1, B1, -, -, -, v1, e1, -, -⟩ := k (MR cy (iv8 (z + 64)) (ad8 z) (LMb cy z μb f) I V A) (MR cy (iv8 (z + 64)) (ad8 z) (LMb cy z μb f) I V A)
  obtain ⟨J2, w2, B2, I2, V2, A2, v2, e2, e3, R⟩ := k (MR cy (iv8 (z + 64)) (ad8 z) (LMb cy z μb f) I V A) (MC cy (iv6 z) (ad6 z) (LMb cy z μb f) J1 w1 B1)
  rw [e1] at e2
  have e4 := congrArg Prod.snd (Option.some.inj e2)
  have e5 := congrArg Prod.fst (Option.some.inj e2)
  have e6 : MC cy (iv6 z) (ad6 z) (LMb cy z μb f) J1 w1 B1 = MC cy (iv6 z) (ad6 z) (LMb cy z μb f) J2 w2 B2 := ML_base e4
  refine ⟨J2, w2, B2, I2, V2, A2, v2, ?_, ?_, R⟩
  · show fx (MC cy (iv6 z) (ad6 z) (MR cy (iv8 (z + 64)) (ad8 z) (LMb cy z μb f) I V A) J w B) = _
    rw [e1]
    exact congrArg some (Prod.ext e5 e4)
  · rw [LM_8, LM_8, ← e6]
    exact e3
theorem lw_V' {fx fy : Mem → Option Mem} (k : ∀ μ0 μ1, ANV cy (iv6 z) (ad6 z) μ0 (iv8 (z + 64)) (ad8 z) μ1 (fx (MC cy (iv6 z) (ad6 z) μ0 J w B)) (fy (MR cy (iv8 (z + 64)) (ad8 z) μ1 I V A))) : ∃ J' w' B' I' V' A', fx (LM cy z μb f J w B I V A) = some (LM cy z μb f J' w' B' I V A) ∧ fy (LM cy z μb f J' w' B' I V A) = some (LM cy z μb f J' w' B' I' V' A') ∧ REL J' B' I' A' := by
  obtain ⟨J1, w1, B1, -, -, -, e1, -, -⟩ := k (MR cy (iv8 (z + 64)) (ad8 z) (LMb cy z μb f) I V A) (MR cy (iv8 (z + 64)) (ad8 z) (LMb cy z μb f) I V A)
  obtain ⟨J2, w2, B2, I2, V2, A2, e2, e3, R⟩ := k (MR cy (iv8 (z + 64)) (ad8 z) (LMb cy z μb f) I V A) (MC cy (iv6 z) (ad6 z) (LMb cy z μb f) J1 w1 B1)
  rw [e1] at e2
  have e4 := Option.some.inj e2
  have e6 : MC cy (iv6 z) (ad6 z) (LMb cy z μb f) J1 w1 B1 = MC cy (iv6 z) (ad6 z) (LMb cy z μb f) J2 w2 B2 := ML_base e4
  refine ⟨J2, w2, B2, I2, V2, A2, ?_, ?_, R⟩
  · show fx (MC cy (iv6 z) (ad6 z) (MR cy (iv8 (z + 64)) (ad8 z) (LMb cy z μb f) I V A) J w B) = _
    rw [e1]
    exact congrArg some e4
  · rw [LM_8, LM_8, ← e6]
    exact e3
/-- class and reference answer alike: ANS and ANL -/
def ANG (cy : Nat → ClassId) (iv : Nat → Option Nat) (ad : Nat → Nat) (μ0 : Mem) (iw : Nat → Option Nat) (aw : Nat → Nat) (μ1 : Mem) {α : Type} (names : List String) (x : Option ((String × Mem) ⊕ (α × Mem))) (y : Option (α × Mem)) : Prop := ∃ J' w' B' I' V' A' code v v', x = some (if code = 0 then .inr (v, MC cy iv ad μ0 J' w' B') else .inl (names.getD (code - 1) "", MC cy iv ad μ0 J' w' B')) ∧ y = some (v', MR cy iw aw μ1 I' V' A') ∧ I' 0 = nI code ∧ (code = 0 → v = v') ∧ code ≤ names.length ∧ REL J' B' I' A'
theorem lw_G' {α : Type} {names : List String} {fx : Mem → Option ((String × Mem) ⊕ (α × Mem))} {fy : Mem → Option (α × Mem)} (k : ∀ μ0 μ1, ANG cy (iv6 z) (ad6 z) μ0 (iv8 (z + 64)) (ad8 z) μ1 names (fx (MC cy (iv6 z) (ad6 z) μ0 J w B)) (fy (MR cy (iv8 (z + 64)) (ad8 z) μ1 I V A))) (cv : α → Int64) : ∃ J' w' B' I' V' A' code v v' res, fx (LM cy z μb f J w B I V A) = some res ∧ HLP cy names (z + 116) cv res (nI code) (LM cy z μb (if code = 0 then vp_updL f 0 (cv v) else f) J' w' B' I V A) ∧ fy (LM cy z μb (if code = 0 then vp_updL f 0 (cv v) else f) J' w' B' I V A) = some (v', LM cy z μb (if code = 0 then vp_updL f 0 (cv v) else f) J' w' B' I' V' A') ∧ I' 0 = nI code ∧ (code = 0 → v = v') ∧ code ≤ names.length ∧ REL J' B' I' A' ∧ res = (if code = 0 then .inr (v, LM cy z μb f J' w' B' I V A) else .inl (names.getD (code - 1) "", LM cy z μb f J' w' B' I V A)) := by
  obtain ⟨J1, w1, B1, -, -, -, c1, v1, -, e1, -⟩ := k (MR cy (iv8 (z + 64)) (ad8 z) (LMb cy z μb f) I V A) (MR cy (iv8 (z + 64)) (ad8 z) (LMb cy z μb f) I V A)
  obtain ⟨J2, w2, B2, I2, V2, A2, c2, v2, v2', e2, e3, e7, e8, e9, R⟩ := k (MR cy (iv8 (z + 64)) (ad8 z) (LMb cy z μb f) I V A) (MC cy (iv6 z) (ad6 z) (LMb cy z μb (if c1 = 0 then vp_updL f 0 (cv v1) else f)) J1 w1 B1)
  have e2' := e2
  rw [e1] at e2
  have e2 := Option.some.inj e2
  have hc : (c1 = 0 ↔ c2 = 0) ∧ (c2 = 0 → v1 = v2) ∧ MC cy (iv6 z) (ad6 z) (MR cy (iv8 (z + 64)) (ad8 z) (LMb cy z μb f) I V A) J1 w1 B1 = MC cy (iv6 z) (ad6 z) (MR cy (iv8 (z + 64)) (ad8 z) (LMb cy z μb f) I V A) J2 w2 B2 := by
    by_cases h1 : c1 = 0 <;> by_cases h2 : c2 = 0
    · rw [if_pos h1, if_pos h2] at e2
      have e2 := Sum.inr.inj e2
      exact ⟨by simp [h1, h2], fun _ => congrArg Prod.fst e2, congrArg Prod.snd e2⟩
    · rw [if_pos h1, if_neg h2] at e2
      cases e2
    · rw [if_neg h1, if_pos h2] at e2
      cases e2
    · rw [if_neg h1, if_neg h2] at e2
      have e2 := Sum.inl.inj e2
      exact ⟨by simp [h1, h2], fun h => absurd h h2, congrArg Prod.snd e2⟩
  obtain ⟨hc1, hc2, hc3⟩ := hc
  have hf : (if c1 = 0 then vp_updL f 0 (cv v1) else f) = (if c2 = 0 then vp_updL f 0 (cv v2) else f) := by
    by_cases h2 : c2 = 0
    · rw [if_pos h2, if_pos (hc1.mpr h2), hc2 h2]
    · rw [if_neg h2, if_neg (fun h => h2 (hc1.mp h))]
  rw [hf] at e3
  refine ⟨J2, w2, B2, I2, V2, A2, c2, v2, v2', _, e2', ?_, ?_, e7, e8, e9, R, rfl⟩
  · by_cases h2 : c2 = 0
    · rw [if_pos h2, if_pos h2]
      refine Or.inl ⟨v2, _, rfl, LM_wr, by rw [h2]; rfl⟩
    · rw [if_neg h2, if_neg h2]
      refine Or.inr ⟨c2 - 1, by omega, rfl, by rw [show c2 - 1 + 1 = c2 by omega]⟩
  · have e6 : MC cy (iv6 z) (ad6 z) (LMb cy z μb (if c2 = 0 then vp_updL f 0 (cv v2) else f)) J1 w1 B1 = MC cy (iv6 z) (ad6 z) (LMb cy z μb (if c2 = 0 then vp_updL f 0 (cv v2) else f)) J2 w2 B2 := ML_base hc3
    rw [LM_8, LM_8, ← e6]
    exact e3
end LAWM
