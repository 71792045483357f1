/-! THE REFERENCE'S MEMORY, written out: slots j at addresses ad j, over a memory μ0; ints I, references V, arrays A. -/
def updG {α : Type} (S : Nat → α) (j : Nat) (E : α) : Nat → α := fun i => if i = j then E else S i
theorem updG_self {α : Type} {S : Nat → α} {j : Nat} {E : α} : updG S j E j = E := if_pos rfl
theorem updG_ne {α : Type} {S : Nat → α} {i j : Nat} {E : α} (h : i ≠ j) : updG S j E i = S i := if_neg h
theorem upd_self' {f : Nat → Int32} {j : Nat} {x : Int32} : upd f j x j = x := if_pos rfl
theorem upd_ne' {f : Nat → Int32} {i j : Nat} {x : Int32} (h : i ≠ j) : upd f j x i = f i := if_neg h
theorem upd_upd {f : Nat → Int32} {j : Nat} {x y : Int32} : upd (upd f j x) j y = upd f j y := by
  funext i
  unfold upd
  by_cases h : i = j
  · rw [if_pos h, if_pos h]
  · rw [if_neg h, if_neg h, if_neg h]
theorem upd_cm {f : Nat → Int32} {j k : Nat} {x y : Int32} (h : j ≠ k) : upd (upd f j x) k y = upd (upd f k y) j x := by
  funext i
  unfold upd
  by_cases h1 : i = j
  · rw [if_neg (fun e => h (h1.symm.trans e)), if_pos h1, if_pos h1]
  · rw [if_neg h1, if_neg h1]
theorem upd_id {f : Nat → Int32} {j : Nat} : upd f j (f j) = f := by
  funext i
  unfold upd
  by_cases h : i = j
  · rw [if_pos h, h]
  · rw [if_neg h]
theorem updG_updG {α : Type} {S : Nat → α} {j : Nat} {x y : α} : updG (updG S j x) j y = updG S j y := by
  funext i
  unfold updG
  by_cases h : i = j
  · rw [if_pos h, if_pos h]
  · rw [if_neg h, if_neg h, if_neg h]
theorem updG_cm {α : Type} {S : Nat → α} {j k : Nat} {x y : α} (h : j ≠ k) : updG (updG S j x) k y = updG (updG S k y) j x := by
  funext i
  unfold updG
  by_cases h1 : i = j
  · rw [if_neg (fun e => h (h1.symm.trans e)), if_pos h1, if_pos h1]
  · rw [if_neg h1, if_neg h1]
theorem updG_id {α : Type} {S : Nat → α} {j : Nat} : updG S j (S j) = S := by
  funext i
  unfold updG
  by_cases h : i = j
  · rw [if_pos h, h]
  · rw [if_neg h]
def ML (iv : Nat → Option Nat) (μ0 : Mem) (S : Nat → va_E) : Mem := fun q => match iv q with
  | some j => S j
  | none => μ0 q
def slot8 (j : Nat) : Bool := j == 0 || j == 1 || (5 ≤ j && j ≤ 10) || (14 ≤ j && j ≤ 23) || j == 26 || j == 30 || j == 41 || j == 43 || (50 ≤ j && j ≤ 57) || (62 ≤ j && j ≤ 72) || (82 ≤ j && j ≤ 92)
def arr8 (j : Nat) : Bool := slot8 j && !(j == 0 || j == 5 || j == 7 || j == 21 || j == 22)
def Lay (iv : Nat → Option Nat) (ad : Nat → Nat) : Prop := (∀ j, slot8 j = true → iv (ad j) = some j) ∧ ∀ q j, iv q = some j → q = ad j ∧ slot8 j = true
def tyA (j : Nat) : Nat := match j with
  | 1 => 0
  | 10 => 0
  | 20 => 0
  | 26 => 0
  | 41 => 2
  | 43 => 0
  | 50 => 0
  | 51 => 0
  | 52 => 0
  | 53 => 0
  | _ => 1
def lenA (j : Nat) : Nat := match j with
  | 1 => 2000
  | 6 => 4
  | 8 => 4
  | 9 => 4
  | 10 => 2416
  | 14 => 25
  | 15 => 25
  | 16 => 25
  | 17 => 25
  | 18 => 4
  | 19 => 5
  | 20 => 12
  | 23 => 2002
  | 26 => 12000
  | 30 => 1301
  | 41 => 2416
  | 43 => 8
  | 50 => 2400
  | 51 => 2400
  | 52 => 2400
  | 53 => 2400
  | 54 => 25
  | 55 => 25
  | 56 => 25
  | 57 => 25
  | _ => 1300
theorem lenA_lt (j : Nat) : lenA j < 2 ^ 31 := by
  unfold lenA
  split <;> decide
def fl8 (ad : Nat → Nat) (I : Nat → Int32) (V : Nat → Value) : List Value := [.int (I 0), .ref (ad 1), .int (I 2), .int (I 3), .int (I 4), .ref (ad 5), .ref (ad 6), .ref (ad 7), .ref (ad 8), .ref (ad 9), .ref (ad 10), .int (I 11), .int (I 12), .int (I 13), .ref (ad 14), .ref (ad 15), .ref (ad 16), .ref (ad 17), .ref (ad 18), .ref (ad 19), .ref (ad 20), .ref (ad 21), .ref (ad 22), .ref (ad 23),
  .int (I 24), .int (I 25), .ref (ad 26), .int (I 27), .int (I 28), .int (I 29), .ref (ad 30), .int (I 31), .int (I 32), .int (I 33), .int (I 34), V 35, V 36, .int (I 37), .int (I 38), .int (I 39), .int (I 40), .ref (ad 41), .int (I 42), .ref (ad 43)]
def flT (ad : Nat → Nat) (T : Nat) (I : Nat → Int32) (V : Nat → Value) : List Value := [V T, .int (I (T + 1)), .ref (ad (T + 2)), .ref (ad (T + 3)), .ref (ad (T + 4)), .ref (ad (T + 5)), .ref (ad (T + 6)), .ref (ad (T + 7)), .ref (ad (T + 8)), .ref (ad (T + 9)), .ref (ad (T + 10)), .ref (ad (T + 11)), .ref (ad (T + 12))]
def c8 (cy : Nat → ClassId) (ad : Nat → Nat) (I : Nat → Int32) (V : Nat → Value) (A : Nat → Nat → Int32) (j : Nat) : va_E :=
  if j = 0 then .inr (7, fl8 ad I V) else if j = 5 then .inl (cy 5, 4, .inr (.inr (.inr (.inr fun i => some (ad (50 + i)))))) else if j = 7 then .inl (cy 6, 4, .inr (.inr (.inr (.inr fun i => some (ad (54 + i)))))) else
  if j = 21 then .inr (6, flT ad 60 I V) else if j = 22 then .inr (6, flT ad 80 I V) else .inl (cy (tyA j), lenA j, .inl (A j))
/-- which tree: its object's slot o, its registers from T on -/
def isT (o T : Nat) : Prop := (o = 21 ∧ T = 60) ∨ (o = 22 ∧ T = 80)
section ML1
variable {cy : Nat → ClassId} {iv : Nat → Option Nat} {ad : Nat → Nat} {μ0 : Mem} {S : Nat → va_E} {I : Nat → Int32} {V : Nat → Value} {A : Nat → Nat → Int32} {j k i : Nat}
theorem ML_at (hL : Lay iv ad) (hj : slot8 j = true) : ML iv μ0 S (ad j) = S j := by
  unfold ML
  rw [hL.1 j hj]
theorem ML_up (hL : Lay iv ad) (hj : slot8 j = true) {E : va_E} : va_up (ML iv μ0 S) (ad j) E = ML iv μ0 (updG S j E) := by
  funext q
  unfold va_up ML
  by_cases h : q = ad j
  · rw [if_pos h, h, hL.1 j hj]
    exact updG_self.symm
  · rw [if_neg h]
    cases e : iv q with
    | none => rfl
    | some i =>
      have h2 := (hL.2 q i e).1
      show S i = updG S j E i
      rw [updG_ne (fun z => h (by rw [h2, z]))]
theorem ML_out (hL : Lay iv ad) {q : Nat} (hq : ∀ j, slot8 j = true → q ≠ ad j) : ML iv μ0 S q = μ0 q := by
  unfold ML
  cases e : iv q with
  | none => rfl
  | some i => exact absurd (hL.2 q i e).1 (hq i (hL.2 q i e).2)
theorem ML_ML {S' : Nat → va_E} : ML iv (ML iv μ0 S) S' = ML iv μ0 S' := by
  funext q
  unfold ML
  cases e : iv q with
  | none => simp [e]
  | some i => rfl
/-- a memory that holds the slots is written out -/
theorem ML_of (hL : Lay iv ad) {μ : Mem} (h : ∀ j, slot8 j = true → μ (ad j) = S j) : ML iv μ S = μ := by
  funext q
  unfold ML
  cases e : iv q with
  | none => rfl
  | some i =>
    have := hL.2 q i e
    show S i = μ q
    rw [this.1, h i this.2]
abbrev MR (cy : Nat → ClassId) (iv : Nat → Option Nat) (ad : Nat → Nat) (μ0 : Mem) (I : Nat → Int32) (V : Nat → Value) (A : Nat → Nat → Int32) : Mem := ML iv μ0 (c8 cy ad I V A)
theorem m_o (hL : Lay iv ad) : MR cy iv ad μ0 I V A (ad 0) = .inr (7, fl8 ad I V) := ML_at hL rfl
theorem m_is (hL : Lay iv ad) : isO (MR cy iv ad μ0 I V A) (ad 0) 7 = true := isO_mk (m_o hL)
theorem m_int (hL : Lay iv ad) {x : Int32} (h : (fl8 ad I V)[k]? = some (.int x)) : rdI (MR cy iv ad μ0 I V A) (ad 0) 7 k = some x := rdI_mk (m_o hL) h
theorem m_ref (hL : Lay iv ad) {x : Nat} (h : (fl8 ad I V)[k]? = some (.ref x)) : rdR (MR cy iv ad μ0 I V A) (ad 0) 7 k = some x := rdR_mk (m_o hL) h
theorem c8_0 {fs : List Value} {I' : Nat → Int32} {V' : Nat → Value} (h : fs = fl8 ad I' V') (hI : I' 61 = I 61 ∧ I' 81 = I 81) (hV : V' 60 = V 60 ∧ V' 80 = V 80) : updG (c8 cy ad I V A) 0 (.inr (7, fs)) = c8 cy ad I' V' A := by
  funext i
  unfold updG c8
  by_cases h0 : i = 0
  · rw [if_pos h0, if_pos h0, h]
  · rw [if_neg h0, if_neg h0, if_neg h0]
    have e1 : flT ad 60 I V = flT ad 60 I' V' := by unfold flT; rw [hI.1, hV.1]
    have e2 : flT ad 80 I V = flT ad 80 I' V' := by unfold flT; rw [hI.2, hV.2]
    rw [e1, e2]
theorem m_put (hL : Lay iv ad) {x : Int32} (h : (fl8 ad I V).set k (.int x) = fl8 ad (upd I k x) V) (hk : k < 44) : wrF (MR cy iv ad μ0 I V A) (ad 0) 7 k (.int x) = some (MR cy iv ad μ0 (upd I k x) V A) := by
  rw [wrF_mk (m_o hL) hk, ML_up hL rfl, c8_0 h ⟨upd_ne' (by omega), upd_ne' (by omega)⟩ ⟨rfl, rfl⟩]
theorem m_putV (hL : Lay iv ad) {x : Nat} (h : (fl8 ad I V).set k (.ref x) = fl8 ad I (updG V k (.ref x))) (hk : k < 44) : wrF (MR cy iv ad μ0 I V A) (ad 0) 7 k (.ref x) = some (MR cy iv ad μ0 I (updG V k (.ref x)) A) := by
  rw [wrF_mk (m_o hL) hk, ML_up hL rfl, c8_0 h ⟨rfl, rfl⟩ ⟨updG_ne (by omega), updG_ne (by omega)⟩]
theorem arr8_s (h : arr8 j = true) : slot8 j = true ∧ j ≠ 0 ∧ j ≠ 5 ∧ j ≠ 7 ∧ j ≠ 21 ∧ j ≠ 22 := by
  unfold arr8 at h
  simp only [Bool.and_eq_true, Bool.not_eq_true', Bool.or_eq_false_iff, beq_eq_false_iff_ne] at h
  obtain ⟨h0, ⟨⟨⟨h1, h2⟩, h3⟩, h4⟩, h5⟩ := h
  exact ⟨h0, h1, h2, h3, h4, h5⟩
theorem m_a (hL : Lay iv ad) (hj : arr8 j = true) : MR cy iv ad μ0 I V A (ad j) = .inl (cy (tyA j), lenA j, .inl (A j)) := by
  obtain ⟨h0, h1, h2, h3, h4, h5⟩ := arr8_s hj
  unfold MR
  rw [ML_at hL h0]
  unfold c8
  rw [if_neg h1, if_neg h2, if_neg h3, if_neg h4, if_neg h5]
theorem m_ld (hL : Lay iv ad) (j : Nat) (hj : arr8 j = true) (hi : i < lenA j) : rdA cy (MR cy iv ad μ0 I V A) (tyA j) (ad j) (nI i) = some (A j i) := rdA_mk (m_a hL hj) hi (lenA_lt j)
theorem c8_a {f : Nat → Int32} (hj : arr8 j = true) : updG (c8 cy ad I V A) j (.inl (cy (tyA j), lenA j, .inl f)) = c8 cy ad I V (updG A j f) := by
  obtain ⟨h0, h1, h2, h3, h4, h5⟩ := arr8_s hj
  funext i
  unfold updG c8
  by_cases h : i = j
  · subst h
    simp [h1, h2, h3, h4, h5]
  · simp [h]
theorem m_st (hL : Lay iv ad) (j : Nat) (hj : arr8 j = true) (hi : i < lenA j) (x : Int32) : wrA cy (MR cy iv ad μ0 I V A) (tyA j) (ad j) (nI i) x = some (MR cy iv ad μ0 I V (updG A j (upd (A j) i x))) := by
  rw [wrA_mk (m_a hL hj) hi (lenA_lt j), ML_up hL (arr8_s hj).1, c8_a hj]
theorem rdQ_mk {μ : Mem} {t a N j : Nat} {f : Nat → Option Nat} {v : Nat} (hm : μ a = .inl (cy t, N, .inr (.inr (.inr (.inr f))))) (hj : j < N) (hN : N < 2 ^ 31) (hv : f j = some v) : rdQ cy μ t a (nI j) = some v := by
  unfold rdQ
  rw [hm]
  have h1 := nI_inr hj hN
  have h2 : (nI j).toNatClampNeg = j := nI_clamp (by omega)
  show (if cy t = cy t ∧ ¬ (nI j < 0 ∨ N ≤ (nI j).toNatClampNeg) then f (nI j).toNatClampNeg else none) = some v
  rw [if_pos ⟨rfl, h1⟩, h2, hv]
theorem m_docs (hL : Lay iv ad) (hi : i < 4) : rdQ cy (MR cy iv ad μ0 I V A) 5 (ad 5) (nI i) = some (ad (50 + i)) := rdQ_mk (ML_at hL rfl) hi (by decide) rfl
theorem m_ways (hL : Lay iv ad) (hi : i < 4) : rdQ cy (MR cy iv ad μ0 I V A) 6 (ad 7) (nI i) = some (ad (54 + i)) := rdQ_mk (ML_at hL rfl) hi (by decide) rfl
theorem arr_doc (hi : i < 4) : arr8 (50 + i) = true ∧ tyA (50 + i) = 0 ∧ lenA (50 + i) = 2400 := by
  match i, hi with
  | 0, _ => exact ⟨rfl, rfl, rfl⟩
  | 1, _ => exact ⟨rfl, rfl, rfl⟩
  | 2, _ => exact ⟨rfl, rfl, rfl⟩
  | 3, _ => exact ⟨rfl, rfl, rfl⟩
theorem arr_way (hi : i < 4) : arr8 (54 + i) = true ∧ tyA (54 + i) = 1 ∧ lenA (54 + i) = 25 := by
  match i, hi with
  | 0, _ => exact ⟨rfl, rfl, rfl⟩
  | 1, _ => exact ⟨rfl, rfl, rfl⟩
  | 2, _ => exact ⟨rfl, rfl, rfl⟩
  | 3, _ => exact ⟨rfl, rfl, rfl⟩
section TREE
variable {o T : Nat}
theorem isT.s (h : isT o T) : slot8 o = true := by rcases h with ⟨rfl, rfl⟩ | ⟨rfl, rfl⟩ <;> rfl
theorem m_to (hL : Lay iv ad) (hT : isT o T) : MR cy iv ad μ0 I V A (ad o) = .inr (6, flT ad T I V) := by
  rcases hT with ⟨rfl, rfl⟩ | ⟨rfl, rfl⟩
  · exact ML_at hL rfl
  · exact ML_at hL rfl
theorem m_tis (hL : Lay iv ad) (hT : isT o T) : isO (MR cy iv ad μ0 I V A) (ad o) 6 = true := isO_mk (m_to hL hT)
theorem m_tn (hL : Lay iv ad) (hT : isT o T) : rdI (MR cy iv ad μ0 I V A) (ad o) 6 1 = some (I (T + 1)) := rdI_mk (m_to hL hT) rfl
theorem m_tr (hL : Lay iv ad) (hT : isT o T) {x : Nat} (h : (flT ad T I V)[k]? = some (.ref x)) : rdR (MR cy iv ad μ0 I V A) (ad o) 6 k = some x := rdR_mk (m_to hL hT) h
theorem c8_t (hT : isT o T) {fs : List Value} {I' : Nat → Int32} {V' : Nat → Value} (h : fs = flT ad T I' V') (h8 : fl8 ad I' V' = fl8 ad I V) (hO : ∀ T', isT (43 - o) T' → flT ad T' I' V' = flT ad T' I V) : updG (c8 cy ad I V A) o (.inr (6, fs)) = c8 cy ad I' V' A := by
  funext i
  unfold updG c8
  rw [h8]
  rcases hT with ⟨rfl, rfl⟩ | ⟨rfl, rfl⟩
  · rw [hO 80 (Or.inr ⟨rfl, rfl⟩)]
    by_cases hi : i = 21
    · subst hi
      rw [if_pos rfl, h]
      rfl
    · rw [if_neg hi, if_neg hi, if_neg hi]
  · rw [hO 60 (Or.inl ⟨rfl, rfl⟩)]
    by_cases hi : i = 22
    · subst hi
      rw [if_pos rfl, h]
      rfl
    · rw [if_neg hi, if_neg hi, if_neg hi]
theorem m_tput (hL : Lay iv ad) (hT : isT o T) {x : Int32} : wrF (MR cy iv ad μ0 I V A) (ad o) 6 1 (.int x) = some (MR cy iv ad μ0 (upd I (T + 1) x) V A) := by
  rw [wrF_mk (m_to hL hT) (Nat.le_of_ble_eq_true rfl), ML_up hL hT.s]
  congr 2
  refine c8_t hT ?_ ?_ ?_
  · unfold flT
    rw [upd_self']
    rfl
  · unfold fl8
    rcases hT with ⟨rfl, rfl⟩ | ⟨rfl, rfl⟩ <;> rfl
  · intro T' h
    rcases hT with ⟨rfl, rfl⟩ | ⟨rfl, rfl⟩
    · rcases h with ⟨h, -⟩ | ⟨-, rfl⟩
      · omega
      · rfl
    · rcases h with ⟨-, rfl⟩ | ⟨h, -⟩
      · rfl
      · omega
theorem m_tof (hL : Lay iv ad) (hT : isT o T) {x : Nat} : wrF (MR cy iv ad μ0 I V A) (ad o) 6 0 (.ref x) = some (MR cy iv ad μ0 I (updG V T (.ref x)) A) := by
  rw [wrF_mk (m_to hL hT) (Nat.le_of_ble_eq_true rfl), ML_up hL hT.s]
  congr 2
  refine c8_t hT ?_ ?_ ?_
  · unfold flT
    rw [updG_self]
    rfl
  · unfold fl8
    rcases hT with ⟨rfl, rfl⟩ | ⟨rfl, rfl⟩ <;> rfl
  · intro T' h
    rcases hT with ⟨rfl, rfl⟩ | ⟨rfl, rfl⟩
    · rcases h with ⟨h, -⟩ | ⟨-, rfl⟩
      · omega
      · rfl
    · rcases h with ⟨-, rfl⟩ | ⟨h, -⟩
      · rfl
      · omega
theorem arr_t (hT : isT o T) (hk : 2 ≤ k ∧ k ≤ 12) : arr8 (T + k) = true ∧ tyA (T + k) = 1 ∧ lenA (T + k) = 1300 := by
  obtain ⟨h1, h2⟩ := hk
  rcases hT with ⟨rfl, rfl⟩ | ⟨rfl, rfl⟩
  · match k, h1, h2 with
    | 2, _, _ => exact ⟨rfl, rfl, rfl⟩
    | 3, _, _ => exact ⟨rfl, rfl, rfl⟩
    | 4, _, _ => exact ⟨rfl, rfl, rfl⟩
    | 5, _, _ => exact ⟨rfl, rfl, rfl⟩
    | 6, _, _ => exact ⟨rfl, rfl, rfl⟩
    | 7, _, _ => exact ⟨rfl, rfl, rfl⟩
    | 8, _, _ => exact ⟨rfl, rfl, rfl⟩
    | 9, _, _ => exact ⟨rfl, rfl, rfl⟩
    | 10, _, _ => exact ⟨rfl, rfl, rfl⟩
    | 11, _, _ => exact ⟨rfl, rfl, rfl⟩
    | 12, _, _ => exact ⟨rfl, rfl, rfl⟩
    | k + 13, _, h2 => omega
  · match k, h1, h2 with
    | 2, _, _ => exact ⟨rfl, rfl, rfl⟩
    | 3, _, _ => exact ⟨rfl, rfl, rfl⟩
    | 4, _, _ => exact ⟨rfl, rfl, rfl⟩
    | 5, _, _ => exact ⟨rfl, rfl, rfl⟩
    | 6, _, _ => exact ⟨rfl, rfl, rfl⟩
    | 7, _, _ => exact ⟨rfl, rfl, rfl⟩
    | 8, _, _ => exact ⟨rfl, rfl, rfl⟩
    | 9, _, _ => exact ⟨rfl, rfl, rfl⟩
    | 10, _, _ => exact ⟨rfl, rfl, rfl⟩
    | 11, _, _ => exact ⟨rfl, rfl, rfl⟩
    | 12, _, _ => exact ⟨rfl, rfl, rfl⟩
    | k + 13, _, h2 => omega
/-- array number k of a tree -/
theorem m_tld (hL : Lay iv ad) (hT : isT o T) (k : Nat) (hk : 2 ≤ k ∧ k ≤ 12) (hi : i < 1300) : rdA cy (MR cy iv ad μ0 I V A) 1 (ad (T + k)) (nI i) = some (A (T + k) i) := by
  obtain ⟨h1, h2, h3⟩ := arr_t hT hk
  have := m_ld (cy := cy) (μ0 := μ0) (I := I) (V := V) (A := A) (i := i) hL (T + k) h1 (by rw [h3]; exact hi)
  rw [h2] at this
  exact this
theorem m_tst (hL : Lay iv ad) (hT : isT o T) (k : Nat) (hk : 2 ≤ k ∧ k ≤ 12) (hi : i < 1300) (x : Int32) : wrA cy (MR cy iv ad μ0 I V A) 1 (ad (T + k)) (nI i) x = some (MR cy iv ad μ0 I V (updG A (T + k) (upd (A (T + k)) i x))) := by
  obtain ⟨h1, h2, h3⟩ := arr_t hT hk
  have := m_st (cy := cy) (μ0 := μ0) (I := I) (V := V) (A := A) (i := i) hL (T + k) h1 (by rw [h3]; exact hi) x
  rw [h2] at this
  exact this
end TREE
end ML1
