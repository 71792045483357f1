/-! WHAT THE CONSTRUCTORS MAKE: a memory that is a list from an address on. -/
def MZL (z : Nat) (μ0 : Mem) (l : List va_E) : Mem := fun q => if z ≤ q ∧ q < z + l.length then l.getD (q - z) jk else μ0 q
theorem MZL_at {z : Nat} {μ0 : Mem} {l : List va_E} {k : Nat} {e : va_E} (h : l[k]? = some e) : MZL z μ0 l (z + k) = e := by
  obtain ⟨hk, -⟩ := List.getElem?_eq_some_iff.mp h
  unfold MZL
  rw [if_pos (by omega), show z + k - z = k by omega, List.getD_eq_getElem?_getD, h]
  rfl
theorem MZL_set {z : Nat} {μ0 : Mem} {l : List va_E} {k : Nat} {e : va_E} (h : k < l.length) : va_up (MZL z μ0 l) (z + k) e = MZL z μ0 (l.set k e) := by
  funext q
  unfold va_up MZL
  rw [List.length_set]
  by_cases hq : q = z + k
  · subst hq
    rw [if_pos rfl, if_pos (by omega), show z + k - z = k by omega, List.getD_eq_getElem?_getD, List.getElem?_set_self h]
    rfl
  · rw [if_neg hq]
    by_cases h2 : z ≤ q ∧ q < z + l.length
    · rw [if_pos h2, if_pos h2, List.getD_eq_getElem?_getD, List.getD_eq_getElem?_getD, List.getElem?_set_ne (by omega)]
    · rw [if_neg h2, if_neg h2]
theorem MZL_push {z : Nat} {μ0 : Mem} {l : List va_E} {k : Nat} {e : va_E} (h : l.length = k) : va_up (MZL z μ0 l) (z + k) e = MZL z μ0 (l ++ [e]) := by
  subst h
  funext q
  unfold va_up MZL
  rw [List.length_append]
  by_cases hq : q = z + l.length
  · subst hq
    rw [if_pos rfl, if_pos (by simp), show z + l.length - z = l.length by omega, List.getD_eq_getElem?_getD, List.getElem?_append_right (Nat.le_refl _), Nat.sub_self]
    rfl
  · rw [if_neg hq]
    by_cases h2 : z ≤ q ∧ q < z + l.length
    · rw [if_pos h2, if_pos (by omega), List.getD_eq_getElem?_getD, List.getD_eq_getElem?_getD, List.getElem?_append_left (by omega)]
    · rw [if_neg h2, if_neg (by simp only [List.length_cons, List.length_nil]; omega)]
theorem wrF_MZ {z : Nat} {μ0 : Mem} {l : List va_E} {k ci f : Nat} {fs : List Value} {v : Value} (h : l[k]? = some (.inr (ci, fs))) (hf : f < fs.length) : wrF (MZL z μ0 l) (z + k) ci f v = some (MZL z μ0 (l.set k (.inr (ci, fs.set f v)))) := by
  obtain ⟨hk, -⟩ := List.getElem?_eq_some_iff.mp h
  unfold wrF
  rw [MZL_at h]
  show (if ci = ci ∧ f < fs.length then some (va_up (MZL z μ0 l) (z + k) (.inr (ci, fs.set f v))) else none) = _
  rw [if_pos ⟨rfl, hf⟩, MZL_set hk]
theorem wrA_MZ {cy : Nat → ClassId} {z : Nat} {μ0 : Mem} {l : List va_E} {k t n : Nat} {f : Nat → Int32} {i x : Int32} (h : l[k]? = some (.inl (cy t, n, .inl f))) (hi : ¬ (i < 0 ∨ n ≤ i.toNatClampNeg)) : wrA cy (MZL z μ0 l) t (z + k) i x = some (MZL z μ0 (l.set k (.inl (cy t, n, .inl (upd f i.toNatClampNeg x))))) := by
  obtain ⟨hk, -⟩ := List.getElem?_eq_some_iff.mp h
  unfold wrA
  rw [MZL_at h]
  show (if cy t = cy t ∧ ¬ (i < 0 ∨ n ≤ i.toNatClampNeg) then some (va_up (MZL z μ0 l) (z + k) (.inl (cy t, n, .inl (upd f i.toNatClampNeg x)))) else none) = _
  rw [if_pos ⟨rfl, hi⟩, MZL_set hk]
theorem rdR_MZ {z : Nat} {μ0 : Mem} {l : List va_E} {k ci f : Nat} {fs : List Value} {v : Nat} (h : l[k]? = some (.inr (ci, fs))) (hf : fs[f]? = some (.ref v)) : rdR (MZL z μ0 l) (z + k) ci f = some v := by
  unfold rdR rdF
  rw [MZL_at h]
  simp only [if_pos, hf]
theorem rdI_MZ {z : Nat} {μ0 : Mem} {l : List va_E} {k ci f : Nat} {fs : List Value} {v : Int32} (h : l[k]? = some (.inr (ci, fs))) (hf : fs[f]? = some (.int v)) : rdI (MZL z μ0 l) (z + k) ci f = some v := by
  unfold rdI rdF
  rw [MZL_at h]
  simp only [if_pos, hf]
theorem isO_MZ {z : Nat} {μ0 : Mem} {l : List va_E} {k ci : Nat} {fs : List Value} (h : l[k]? = some (.inr (ci, fs))) : isO (MZL z μ0 l) (z + k) ci = true := by
  unfold isO
  rw [MZL_at h]
  simp
theorem rdA_MZ {cy : Nat → ClassId} {z : Nat} {μ0 : Mem} {l : List va_E} {k t n : Nat} {f : Nat → Int32} {i : Int32} (h : l[k]? = some (.inl (cy t, n, .inl f))) (hi : ¬ (i < 0 ∨ n ≤ i.toNatClampNeg)) : rdA cy (MZL z μ0 l) t (z + k) i = some (f i.toNatClampNeg) := by
  unfold rdA
  rw [MZL_at h]
  show (if cy t = cy t ∧ ¬ (i < 0 ∨ n ≤ i.toNatClampNeg) then some (f i.toNatClampNeg) else none) = _
  rw [if_pos ⟨rfl, hi⟩]
def aZ (cy : Nat → ClassId) (n : Nat) : va_E := .inl (cy 1, zA 1 n)
def spO (c : Nat) (n : Int32) : va_E := .inr (4, [.ref c, .int n, .int 0])
theorem g0 {l t : List va_E} {x : va_E} : (l ++ x :: t)[l.length]? = some x := by
  rw [List.getElem?_append_right (Nat.le_refl _), Nat.sub_self]
  rfl
theorem s0 {l t : List va_E} {x y : va_E} : (l ++ x :: t).set l.length y = l ++ y :: t := by
  rw [List.set_append, if_neg (Nat.lt_irrefl _), Nat.sub_self]
  rfl
theorem w0 {z a : Nat} {μ0 : Mem} {l t : List va_E} {ci f : Nat} {fs : List Value} {v : Value} (ha : a = z + l.length) (hf : f < fs.length) : wrF (MZL z μ0 (l ++ .inr (ci, fs) :: t)) a ci f v = some (MZL z μ0 (l ++ .inr (ci, fs.set f v) :: t)) := by
  rw [ha, wrF_MZ g0 hf, s0]
theorem p0 {z b : Nat} {μ0 : Mem} {l t : List va_E} {x e : va_E} (hb : b = z + l.length + 1 + t.length) : va_up (MZL z μ0 (l ++ x :: t)) b e = MZL z μ0 (l ++ x :: (t ++ [e])) := by
  rw [hb, show z + l.length + 1 + t.length = z + (l ++ x :: t).length by rw [List.length_append, List.length_cons]; omega, MZL_push rfl, List.append_assoc, List.cons_append]
theorem p1 {z b : Nat} {μ0 : Mem} {l : List va_E} {e : va_E} (hb : b = z + l.length) : va_up (MZL z μ0 l) b e = MZL z μ0 (l ++ [e]) := by
  rw [hb, MZL_push rfl]
theorem mk5 {cy : Nat → ClassId} {z a b : Nat} {μ0 : Mem} {l : List va_E} {N : Nat} {n : Int32} (ha : a = z + l.length) (hb : b = z + l.length + 1) (hN : (if n < 0 then 0 else n : Int32).toNatClampNeg = N) : f_X5_init cy b a n (va_up (MZL z μ0 l) a (.inr (4, [.null, .int 0, .int 0]))) = some (MZL z μ0 (l ++ [spO b 0, aZ cy N])) := by
  unfold f_X5_init
  rw [p1 ha, w0 ha (Nat.le_of_ble_eq_true rfl), Option.bind_some, w0 ha (Nat.le_of_ble_eq_true rfl), Option.bind_some, p0 (by rw [hb]; rfl), w0 ha (Nat.le_of_ble_eq_true rfl), Option.bind_some, hN]
  rfl
theorem mk0 {cy : Nat → ClassId} {z a b : Nat} {μ0 : Mem} {l : List va_E} (ha : a = z + l.length) (hb : b = z + l.length + 1) : f_X0_init cy b a (va_up (MZL z μ0 l) a (.inr (0, [.null, .null, .null, .null, .int 0, .int 0, .null, .int 0]))) = some (MZL z μ0 (l ++ [.inr (0, [.ref b, .ref (b + 1), .ref (b + 2), .ref (b + 3), .int 0, .int (-1), .ref (b + 4), .int 0]), aZ cy 24, aZ cy 24, aZ cy 24, aZ cy 24, aZ cy 1201])) := by
  unfold f_X0_init
  rw [p1 ha, p0 (by rw [hb]; rfl), w0 ha (Nat.le_of_ble_eq_true rfl), Option.bind_some, p0 (by rw [hb]; rfl), w0 ha (Nat.le_of_ble_eq_true rfl), Option.bind_some, p0 (by rw [hb]; rfl), w0 ha (Nat.le_of_ble_eq_true rfl), Option.bind_some, p0 (by rw [hb]; rfl), w0 ha (Nat.le_of_ble_eq_true rfl), Option.bind_some, w0 ha (Nat.le_of_ble_eq_true rfl), Option.bind_some, w0 ha (Nat.le_of_ble_eq_true rfl), Option.bind_some, p0 (by rw [hb]; rfl), w0 ha (Nat.le_of_ble_eq_true rfl), Option.bind_some, w0 ha (Nat.le_of_ble_eq_true rfl), Option.bind_some]
  rfl
theorem cA {l t : List va_E} {x : va_E} : (l ++ [x]) ++ t = l ++ x :: t := by simp
theorem mk2 {cy : Nat → ClassId} {z a b : Nat} {μ0 : Mem} {l : List va_E} (ha : a = z + l.length) (hb : b = z + l.length + 1) : f_X2_init cy b a (va_up (MZL z μ0 l) a (.inr (1, [.null, .int 0, .int 0, .int 0, .int 0, .int 0, .int 0, .int 0, .int 0, .int 0, .int 0, .int 0]))) = some (MZL z μ0 (l ++ [.inr (1, [.ref b, .int 0, .int (-1), .int 0, .int 0, .int 0, .int 0, .int 0, .int 0, .int 0, .int (-1), .int 0]), spO (b + 1) 0, aZ cy 0])) := by
  unfold f_X2_init
  rw [p1 ha, mk5 (N := 0) (by rw [hb, List.length_append]; rfl) (by rw [hb, List.length_append]; rfl) (by decide +kernel), Option.bind_some, cA, w0 ha (Nat.le_of_ble_eq_true rfl), Option.bind_some, w0 ha (Nat.le_of_ble_eq_true rfl), Option.bind_some, w0 ha (Nat.le_of_ble_eq_true rfl), Option.bind_some, w0 ha (Nat.le_of_ble_eq_true rfl), Option.bind_some, w0 ha (Nat.le_of_ble_eq_true rfl), Option.bind_some, w0 ha (Nat.le_of_ble_eq_true rfl), Option.bind_some, w0 ha (Nat.le_of_ble_eq_true rfl), Option.bind_some, w0 ha (Nat.le_of_ble_eq_true rfl), Option.bind_some, w0 ha (Nat.le_of_ble_eq_true rfl), Option.bind_some, w0 ha (Nat.le_of_ble_eq_true rfl), Option.bind_some, w0 ha (Nat.le_of_ble_eq_true rfl), Option.bind_some, w0 ha (Nat.le_of_ble_eq_true rfl), Option.bind_some]
  rfl
theorem mk3 {cy : Nat → ClassId} {z a b : Nat} {μ0 : Mem} {l : List va_E} (ha : a = z + l.length) (hb : b = z + l.length + 1) : f_X3_init cy b a (va_up (MZL z μ0 l) a (.inr (2, [.null, .null, .null, .null, .null, .int 0, .int 0]))) = some (MZL z μ0 (l ++ [.inr (2, [.ref b, .ref (b + 2), .ref (b + 3), .ref (b + 4), .ref (b + 5), .int 0, .int 0]), spO (b + 1) 0, aZ cy 2400, aZ cy 24, aZ cy 24, aZ cy 24, aZ cy 24])) := by
  unfold f_X3_init
  rw [p1 ha, mk5 (N := 2400) (by rw [hb, List.length_append]; rfl) (by rw [hb, List.length_append]; rfl) (by decide +kernel), Option.bind_some, cA, w0 ha (Nat.le_of_ble_eq_true rfl), Option.bind_some, p0 (by rw [hb]; rfl), w0 ha (Nat.le_of_ble_eq_true rfl), Option.bind_some, p0 (by rw [hb]; rfl), w0 ha (Nat.le_of_ble_eq_true rfl), Option.bind_some, p0 (by rw [hb]; rfl), w0 ha (Nat.le_of_ble_eq_true rfl), Option.bind_some, p0 (by rw [hb]; rfl), w0 ha (Nat.le_of_ble_eq_true rfl), Option.bind_some, w0 ha (Nat.le_of_ble_eq_true rfl), Option.bind_some, w0 ha (Nat.le_of_ble_eq_true rfl), Option.bind_some]
  rfl
theorem mk4 {cy : Nat → ClassId} {z a b d : Nat} {μ0 : Mem} {l : List va_E} (ha : a = z + l.length) (hb : b = z + l.length + 1) : f_X4_init cy b a d (va_up (MZL z μ0 l) a (.inr (3, [.null, .null, .null, .int 0, .int 0, .int 0, .int 0]))) = some (MZL z μ0 (l ++ [.inr (3, [.ref b, .ref (b + 2), .ref d, .int 0, .int (-1), .int 0, .int 0]), spO (b + 1) 0, aZ cy 2400, .inr (0, [.ref (b + 3), .ref (b + 4), .ref (b + 5), .ref (b + 6), .int 0, .int (-1), .ref (b + 7), .int 0]), aZ cy 24, aZ cy 24, aZ cy 24, aZ cy 24, aZ cy 1201])) := by
  unfold f_X4_init
  rw [p1 ha, mk5 (N := 2400) (by rw [hb, List.length_append]; rfl) (by rw [hb, List.length_append]; rfl) (by decide +kernel), Option.bind_some, cA, w0 ha (Nat.le_of_ble_eq_true rfl), Option.bind_some]
  rw [mk0 (by rw [hb, List.length_append]; rfl) (by rw [hb, List.length_append]; rfl), Option.bind_some, List.append_assoc, List.cons_append, w0 ha (Nat.le_of_ble_eq_true rfl), Option.bind_some, w0 ha (Nat.le_of_ble_eq_true rfl), Option.bind_some, w0 ha (Nat.le_of_ble_eq_true rfl), Option.bind_some, w0 ha (Nat.le_of_ble_eq_true rfl), Option.bind_some, w0 ha (Nat.le_of_ble_eq_true rfl), Option.bind_some, w0 ha (Nat.le_of_ble_eq_true rfl), Option.bind_some]
  rfl
theorem mk7 {cy : Nat → ClassId} {z a b : Nat} {μ0 : Mem} {l : List va_E} (ha : a = z + l.length) (hb : b = z + l.length + 1) : f_X7_init cy b a (va_up (MZL z μ0 l) a (.inr (6, [.null, .int 0, .null, .null, .null, .null, .null, .null, .null, .null, .null, .null, .null]))) = some (MZL z μ0 (l ++ [.inr (6, [.null, .int 0, .ref b, .ref (b + 1), .ref (b + 2), .ref (b + 3), .ref (b + 4), .ref (b + 5), .ref (b + 6), .ref (b + 7), .ref (b + 8), .ref (b + 9), .ref (b + 10)]), aZ cy 1300, aZ cy 1300, aZ cy 1300, aZ cy 1300, aZ cy 1300, aZ cy 1300, aZ cy 1300, aZ cy 1300, aZ cy 1300, aZ cy 1300, aZ cy 1300])) := by
  unfold f_X7_init
  rw [p1 ha, p0 (by rw [hb]; rfl), w0 ha (Nat.le_of_ble_eq_true rfl), Option.bind_some, p0 (by rw [hb]; rfl), w0 ha (Nat.le_of_ble_eq_true rfl), Option.bind_some, p0 (by rw [hb]; rfl), w0 ha (Nat.le_of_ble_eq_true rfl), Option.bind_some, p0 (by rw [hb]; rfl), w0 ha (Nat.le_of_ble_eq_true rfl), Option.bind_some, p0 (by rw [hb]; rfl), w0 ha (Nat.le_of_ble_eq_true rfl), Option.bind_some, p0 (by rw [hb]; rfl), w0 ha (Nat.le_of_ble_eq_true rfl), Option.bind_some, p0 (by rw [hb]; rfl), w0 ha (Nat.le_of_ble_eq_true rfl), Option.bind_some, p0 (by rw [hb]; rfl), w0 ha (Nat.le_of_ble_eq_true rfl), Option.bind_some, p0 (by rw [hb]; rfl), w0 ha (Nat.le_of_ble_eq_true rfl), Option.bind_some, p0 (by rw [hb]; rfl), w0 ha (Nat.le_of_ble_eq_true rfl), Option.bind_some, p0 (by rw [hb]; rfl), w0 ha (Nat.le_of_ble_eq_true rfl), Option.bind_some]
  rfl
