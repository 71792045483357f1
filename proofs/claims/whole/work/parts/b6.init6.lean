/-! THE CLASS'S CONSTRUCTOR. -/
section WX
variable {cy : Nat → ClassId} {z w : Nat} {μ0 : Mem} {l t : List va_E} {ci f : Nat} {fs : List Value}
theorem wx {v : Value} (hf : f < fs.length) : wrF (MZL w μ0 (.inr (ci, fs) :: t)) w ci f v = some (MZL w μ0 (.inr (ci, fs.set f v) :: t)) := wrF_MZ (l := .inr (ci, fs) :: t) (k := 0) rfl hf
theorem rx {v : Nat} (hf : fs[f]? = some (.ref v)) : rdR (MZL w μ0 (.inr (ci, fs) :: t)) w ci f = some v := rdR_MZ (l := .inr (ci, fs) :: t) (k := 0) rfl hf
theorem wrQ_MZ {q k kv n v : Nat} {h : Nat → Option Nat} {i : Int32} (hq : q = z + k) (hv : v = z + kv) (h1 : l[k]? = some (.inl (cy 4, n, .inr (.inr (.inr (.inr h)))))) (h2 : l[kv]? = some (.inr (3, fs))) (hi : ¬ (i < 0 ∨ n ≤ i.toNatClampNeg)) : wrQ cy (MZL z μ0 l) q i v = some (MZL z μ0 (l.set k (.inl (cy 4, n, .inr (.inr (.inr (.inr (va_up h i.toNatClampNeg (some v))))))))) := by
  obtain ⟨hk, -⟩ := List.getElem?_eq_some_iff.mp h1
  have ho : isO (MZL z μ0 l) v 3 = true := by rw [hv]; exact isO_MZ h2
  unfold wrQ
  rw [hq, MZL_at h1]
  show (if cy 4 = cy 4 ∧ ¬ (i < 0 ∨ n ≤ i.toNatClampNeg) ∧ isO (MZL z μ0 l) v 3 = true then some (va_up (MZL z μ0 l) (z + k) (.inl (cy 4, n, .inr (.inr (.inr (.inr (va_up h i.toNatClampNeg (some v)))))))) else none) = _
  rw [if_pos ⟨rfl, hi, ho⟩, MZL_set hk]
theorem mk4b {a b d : Nat} (ha : a = z + l.length) (hb : b = z + l.length + 1) : f_X4_init cy b a d (va_up (MZL z μ0 l) a (.inr (3, [.null, .null, .null, .int 0, .int 0, .int 0, .int 0]))) = some (MZL z μ0 (l ++ blk0 cy b d)) := mk4 ha hb
end WX
def x6O (w : Nat) : va_E := .inr (5, [.ref (w + 1), .ref (w + 3), .ref (w + 5), .ref (w + 7), .ref (w + 10), .ref (w + 11), .ref (w + 17), .int 0, .int (-1), .int (-1)])
def rdO (w : Nat) : va_E := .inr (1, [.ref w, .int 0, .int (-1), .int 0, .int 0, .int 0, .int 0, .int 0, .int 0, .int 0, .int (-1), .int 0])
def crO (b : Nat) : va_E := .inr (0, [.ref b, .ref (b + 1), .ref (b + 2), .ref (b + 3), .int 0, .int (-1), .ref (b + 4), .int 0])
def shtO (b : Nat) : va_E := .inr (2, [.ref b, .ref (b + 2), .ref (b + 3), .ref (b + 4), .ref (b + 5), .int 0, .int 0])
def shA4 (w : Nat) : Nat → Option Nat := va_up (va_up (va_up (va_up (fun _ => none) 0 (some (w + 28))) 1 (some (w + 37))) 2 (some (w + 46))) 3 (some (w + 55))
def l6 (cy : Nat → ClassId) (w : Nat) : List va_E := [x6O w, spO (w + 2) 0, aZ cy 2000, spO (w + 4) 0, aZ cy 2000, spO (w + 6) 0, aZ cy 8, rdO (w + 8), spO (w + 9) 0, aZ cy 0, .inl (cy 4, 4, .inr (.inr (.inr (.inr (shA4 w))))), crO (w + 12), aZ cy 24, aZ cy 24, aZ cy 24, aZ cy 24, aZ cy 1201, shtO (w + 18), spO (w + 19) 0, aZ cy 2400, aZ cy 24, aZ cy 24, aZ cy 24, aZ cy 24, spO (w + 25) 5, .inl (cy 1, 5, .inl e5), spO (w + 27) 0, aZ cy 2400] ++ (blk cy (w + 29) (w + 26) ++ (blk cy (w + 38) (w + 26) ++ (blk cy (w + 47) (w + 26) ++ blk cy (w + 56) (w + 26))))
set_option maxRecDepth 100000 in
set_option maxHeartbeats 4000000 in
theorem n_init6 {cy : Nat → ClassId} {w : Nat} {μ0 : Mem} : f_X6_init cy (w + 1) w (MZL w μ0 [.inr (5, [.null, .null, .null, .null, .null, .null, .null, .int 0, .int 0, .int 0])]) = some (MZL w μ0 (l6 cy w)) := by
  unfold f_X6_init
  rw [mk5 (N := 2000) (by rfl) (by rfl) (by decide +kernel), Option.bind_some]
  simp only [List.cons_append, List.nil_append]
  rw [wx (Nat.le_of_ble_eq_true rfl), Option.bind_some]
  rw [mk5 (N := 2000) (by rfl) (by rfl) (by decide +kernel), Option.bind_some]
  simp only [List.cons_append, List.nil_append]
  rw [wx (Nat.le_of_ble_eq_true rfl), Option.bind_some]
  rw [mk5 (N := 8) (by rfl) (by rfl) (by decide +kernel), Option.bind_some]
  simp only [List.cons_append, List.nil_append]
  rw [wx (Nat.le_of_ble_eq_true rfl), Option.bind_some]
  rw [mk2 (by rfl) (by rfl), Option.bind_some]
  simp only [List.cons_append, List.nil_append]
  rw [wx (Nat.le_of_ble_eq_true rfl), Option.bind_some]
  rw [p1 (by rfl)]
  simp only [List.cons_append, List.nil_append]
  rw [wx (Nat.le_of_ble_eq_true rfl), Option.bind_some]
  rw [mk0 (by rfl) (by rfl), Option.bind_some]
  simp only [List.cons_append, List.nil_append]
  rw [wx (Nat.le_of_ble_eq_true rfl), Option.bind_some]
  rw [mk3 (by rfl) (by rfl), Option.bind_some]
  simp only [List.cons_append, List.nil_append]
  rw [wx (Nat.le_of_ble_eq_true rfl), Option.bind_some]
  rw [wx (Nat.le_of_ble_eq_true rfl), Option.bind_some, wx (Nat.le_of_ble_eq_true rfl), Option.bind_some, wx (Nat.le_of_ble_eq_true rfl), Option.bind_some]
  rw [mk5 (N := 5) (by rfl) (by rfl) (by decide +kernel), Option.bind_some, if_pos (t_o (i := 0) (by rfl) (by rfl)), n_alf (by rfl) (by rfl), Option.bind_some]
  simp only [List.cons_append, List.nil_append]
  rw [mk5 (N := 2400) (by rfl) (by rfl) (by decide +kernel), Option.bind_some]
  simp only [List.cons_append, List.nil_append]
  rw [mk4b (by rfl) (by rfl), Option.bind_some, if_pos (t_o (i := 0) (by rfl) (by rfl)), n_become (je := 24) (e' := w + 25) (by rfl) (by rfl) (by rfl) (by rfl) (by rfl) (by rfl), Option.bind_some]
  simp only [List.cons_append, List.nil_append]
  rw [rx (v := w + 10) (by rfl), Option.bind_some, wrQ_MZ (k := 10) (kv := 28) (by rfl) (by rfl) (by rfl) (by rfl) (by decide), Option.bind_some]
  simp only [List.set_cons_succ, List.set_cons_zero]
  rw [mk4b (by rfl) (by rfl), Option.bind_some, if_pos (t_o (i := 0) (by rfl) (by rfl)), n_become (je := 24) (e' := w + 25) (by rfl) (by rfl) (by rfl) (by rfl) (by rfl) (by rfl), Option.bind_some]
  simp only [List.cons_append, List.nil_append]
  rw [rx (v := w + 10) (by rfl), Option.bind_some, wrQ_MZ (k := 10) (kv := 37) (by rfl) (by rfl) (by rfl) (by rfl) (by decide), Option.bind_some]
  simp only [List.set_cons_succ, List.set_cons_zero]
  rw [mk4b (by rfl) (by rfl), Option.bind_some, if_pos (t_o (i := 0) (by rfl) (by rfl)), n_become (je := 24) (e' := w + 25) (by rfl) (by rfl) (by rfl) (by rfl) (by rfl) (by rfl), Option.bind_some]
  simp only [List.cons_append, List.nil_append]
  rw [rx (v := w + 10) (by rfl), Option.bind_some, wrQ_MZ (k := 10) (kv := 46) (by rfl) (by rfl) (by rfl) (by rfl) (by decide), Option.bind_some]
  simp only [List.set_cons_succ, List.set_cons_zero]
  rw [mk4b (by rfl) (by rfl), Option.bind_some, if_pos (t_o (i := 0) (by rfl) (by rfl)), n_become (je := 24) (e' := w + 25) (by rfl) (by rfl) (by rfl) (by rfl) (by rfl) (by rfl), Option.bind_some]
  simp only [List.cons_append, List.nil_append]
  rw [rx (v := w + 10) (by rfl), Option.bind_some, wrQ_MZ (k := 10) (kv := 55) (by rfl) (by rfl) (by rfl) (by rfl) (by decide), Option.bind_some]
  simp only [List.set_cons_succ, List.set_cons_zero]
  rfl
