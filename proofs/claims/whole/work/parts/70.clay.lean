/-! THE CLASS'S MEMORY, written out: slots j at addresses ad j over a memory μ0; ints J (100 * slot + field), the reader's bytes w, arrays B. -/
def span6 (j : Nat) : Bool := j == 20 || j == 22 || j == 24 || j == 26 || j == 28 || j == 30 || j == 32 || j == 34 || j == 36
def cur6 (j : Nat) : Bool := j == 40 || j == 50 || j == 60 || j == 70 || j == 80
def shf6 (j : Nat) : Bool := j == 90 || j == 91 || j == 92 || j == 93
def arr6 (j : Nat) : Bool := (4 ≤ j && j ≤ 7) || (21 ≤ j && j ≤ 37 && j % 2 == 1) || (41 ≤ j && j ≤ 85 && 1 ≤ j % 10 && j % 10 ≤ 5)
def slot6 (j : Nat) : Bool := j ≤ 3 || span6 j || cur6 j || shf6 j || arr6 j
def len6 (j : Nat) : Nat := match j with
  | 21 => 2000
  | 23 => 2000
  | 25 => 8
  | 27 => 2400
  | 29 => 2400
  | 31 => 2400
  | 33 => 2400
  | 35 => 2400
  | 37 => 2400
  | 45 => 1201
  | 55 => 1201
  | 65 => 1201
  | 75 => 1201
  | 85 => 1201
  | _ => 24
theorem len6_lt (j : Nat) : len6 j ≤ 2400 := by
  unfold len6
  split <;> decide
def Lay6 (iv : Nat → Option Nat) (ad : Nat → Nat) : Prop := (∀ j, slot6 j = true → iv (ad j) = some j) ∧ ∀ q j, iv q = some j → q = ad j ∧ slot6 j = true
def fX (ad : Nat → Nat) (J : Nat → Int32) : List Value := [.ref (ad 20), .ref (ad 22), .ref (ad 24), .ref (ad 1), .ref (ad 2), .ref (ad 80), .ref (ad 3), .int (J 7), .int (J 8), .int (J 9)]
def fR (w : Nat) (J : Nat → Int32) : List Value := [.ref w, .int (J 101), .int (J 102), .int (J 103), .int (J 104), .int (J 105), .int (J 106), .int (J 107), .int (J 108), .int (J 109), .int (J 110), .int (J 111)]
def fH (ad : Nat → Nat) (J : Nat → Int32) : List Value := [.ref (ad 36), .ref (ad 4), .ref (ad 5), .ref (ad 6), .ref (ad 7), .int (J 305), .int (J 306)]
def fS (ad : Nat → Nat) (J : Nat → Int32) (j : Nat) : List Value := [.ref (ad (j + 1)), .int (J (100 * j + 1)), .int (J (100 * j + 2))]
def fC (ad : Nat → Nat) (J : Nat → Int32) (j : Nat) : List Value := [.ref (ad (j + 1)), .ref (ad (j + 2)), .ref (ad (j + 3)), .ref (ad (j + 4)), .int (J (100 * j + 4)), .int (J (100 * j + 5)), .ref (ad (j + 5)), .int (J (100 * j + 7))]
def fF (ad : Nat → Nat) (J : Nat → Int32) (j : Nat) : List Value := [.ref (ad (26 + 2 * (j - 90))), .ref (ad (40 + 10 * (j - 90))), .ref (ad 34), .int (J (100 * j + 3)), .int (J (100 * j + 4)), .int (J (100 * j + 5)), .int (J (100 * j + 6))]
def c6 (cy : Nat → ClassId) (ad : Nat → Nat) (J : Nat → Int32) (w : Nat) (B : Nat → Nat → Int32) (j : Nat) : va_E :=
  if j = 0 then .inr (5, fX ad J) else if j = 1 then .inr (1, fR w J) else if j = 2 then .inl (cy 4, 4, .inr (.inr (.inr (.inr fun i => some (ad (90 + i)))))) else if j = 3 then .inr (2, fH ad J) else
  if span6 j = true then .inr (4, fS ad J j) else if cur6 j = true then .inr (0, fC ad J j) else if shf6 j = true then .inr (3, fF ad J j) else .inl (cy 1, len6 j, .inl (B j))
theorem span6_c {j : Nat} (h : span6 j = true) : j = 20 ∨ j = 22 ∨ j = 24 ∨ j = 26 ∨ j = 28 ∨ j = 30 ∨ j = 32 ∨ j = 34 ∨ j = 36 := by
  unfold span6 at h
  simp only [Bool.or_eq_true, beq_iff_eq] at h
  omega
theorem cur6_c {j : Nat} (h : cur6 j = true) : j = 40 ∨ j = 50 ∨ j = 60 ∨ j = 70 ∨ j = 80 := by
  unfold cur6 at h
  simp only [Bool.or_eq_true, beq_iff_eq] at h
  omega
theorem shf6_c {j : Nat} (h : shf6 j = true) : j = 90 ∨ j = 91 ∨ j = 92 ∨ j = 93 := by
  unfold shf6 at h
  simp only [Bool.or_eq_true, beq_iff_eq] at h
  omega
section MC1
variable {cy : Nat → ClassId} {iv : Nat → Option Nat} {ad : Nat → Nat} {μ0 : Mem} {S : Nat → va_E} {J : Nat → Int32} {w : Nat} {B : Nat → Nat → Int32} {j k i : Nat}
theorem L6_at (hL : Lay6 iv ad) (hj : slot6 j = true) : ML iv μ0 S (ad j) = S j := by
  unfold ML
  rw [hL.1 j hj]
theorem L6_up (hL : Lay6 iv ad) (hj : slot6 j = true) {E : va_E} : va_up (ML iv μ0 S) (ad j) E = ML iv μ0 (updG S j E) := by
  funext q
  unfold va_up ML
  by_cases h : q = ad j
  · rw [if_pos h, h, hL.1 j hj]
    exact updG_self.symm
  · rw [if_neg h]
    cases e : iv q with
    | none => rfl
    | some i =>
      have h2 := (hL.2 q i e).1
      show S i = updG S j E i
      rw [updG_ne (fun z => h (by rw [h2, z]))]
theorem L6_out (hL : Lay6 iv ad) {q : Nat} (hq : ∀ j, slot6 j = true → q ≠ ad j) : ML iv μ0 S q = μ0 q := by
  unfold ML
  cases e : iv q with
  | none => rfl
  | some i => exact absurd (hL.2 q i e).1 (hq i (hL.2 q i e).2)
theorem L6_of (hL : Lay6 iv ad) {μ : Mem} (h : ∀ j, slot6 j = true → μ (ad j) = S j) : ML iv μ S = μ := by
  funext q
  unfold ML
  cases e : iv q with
  | none => rfl
  | some i =>
    have := hL.2 q i e
    show S i = μ q
    rw [this.1, h i this.2]
theorem L6_ne (hL : Lay6 iv ad) (hj : slot6 j = true) (hk : slot6 k = true) (h : j ≠ k) : ad j ≠ ad k := fun z => by
  have h1 := hL.1 j hj
  have h2 := hL.1 k hk
  rw [z, h2] at h1
  exact h (Option.some.inj h1).symm
abbrev MC (cy : Nat → ClassId) (iv : Nat → Option Nat) (ad : Nat → Nat) (μ0 : Mem) (J : Nat → Int32) (w : Nat) (B : Nat → Nat → Int32) : Mem := ML iv μ0 (c6 cy ad J w B)
theorem c_x (hL : Lay6 iv ad) : MC cy iv ad μ0 J w B (ad 0) = .inr (5, fX ad J) := L6_at hL rfl
theorem c_r (hL : Lay6 iv ad) : MC cy iv ad μ0 J w B (ad 1) = .inr (1, fR w J) := L6_at hL rfl
theorem c_h (hL : Lay6 iv ad) : MC cy iv ad μ0 J w B (ad 3) = .inr (2, fH ad J) := L6_at hL rfl
theorem c_s (hL : Lay6 iv ad) (hj : span6 j = true) : MC cy iv ad μ0 J w B (ad j) = .inr (4, fS ad J j) := by
  rcases span6_c hj with rfl | rfl | rfl | rfl | rfl | rfl | rfl | rfl | rfl <;> exact L6_at hL rfl
theorem c_c (hL : Lay6 iv ad) (hj : cur6 j = true) : MC cy iv ad μ0 J w B (ad j) = .inr (0, fC ad J j) := by
  rcases cur6_c hj with rfl | rfl | rfl | rfl | rfl <;> exact L6_at hL rfl
theorem c_f (hL : Lay6 iv ad) (hj : shf6 j = true) : MC cy iv ad μ0 J w B (ad j) = .inr (3, fF ad J j) := by
  rcases shf6_c hj with rfl | rfl | rfl | rfl <;> exact L6_at hL rfl
theorem arr6_s (h : arr6 j = true) : slot6 j = true ∧ j ≠ 0 ∧ j ≠ 1 ∧ j ≠ 2 ∧ j ≠ 3 ∧ span6 j = false ∧ cur6 j = false ∧ shf6 j = false := by
  refine ⟨?_, ?_⟩
  · unfold slot6
    rw [h, Bool.or_true]
  · unfold arr6 at h
    simp only [Bool.or_eq_true, Bool.and_eq_true, decide_eq_true_eq, beq_iff_eq] at h
    refine ⟨by omega, by omega, by omega, by omega, ?_, ?_, ?_⟩
    · cases e : span6 j with
      | false => rfl
      | true => have := span6_c e; omega
    · cases e : cur6 j with
      | false => rfl
      | true => have := cur6_c e; omega
    · cases e : shf6 j with
      | false => rfl
      | true => have := shf6_c e; omega
theorem c_a (hL : Lay6 iv ad) (hj : arr6 j = true) : MC cy iv ad μ0 J w B (ad j) = .inl (cy 1, len6 j, .inl (B j)) := by
  obtain ⟨h0, h1, h2, h3, h4, h5, h6, h7⟩ := arr6_s hj
  unfold MC
  rw [L6_at hL h0]
  unfold c6
  rw [if_neg h1, if_neg h2, if_neg h3, if_neg h4, if_neg (by rw [h5]; decide), if_neg (by rw [h6]; decide), if_neg (by rw [h7]; decide)]
theorem c_sv (hL : Lay6 iv ad) (hi : i < 4) : rdQ cy (MC cy iv ad μ0 J w B) 4 (ad 2) (nI i) = some (ad (90 + i)) := rdQ_mk (L6_at hL rfl) hi (by decide) rfl
theorem c_ld (hL : Lay6 iv ad) (j : Nat) (hj : arr6 j = true) (hi : i < len6 j) : rdA cy (MC cy iv ad μ0 J w B) 1 (ad j) (nI i) = some (B j i) := rdA_mk (c_a hL hj) hi (by have := len6_lt j; omega)
theorem c6_a {f : Nat → Int32} (hj : arr6 j = true) : updG (c6 cy ad J w B) j (.inl (cy 1, len6 j, .inl f)) = c6 cy ad J w (updG B j f) := by
  obtain ⟨h0, h1, h2, h3, h4, h5, h6, h7⟩ := arr6_s hj
  funext i
  by_cases h : i = j
  · subst h
    rw [updG_self]
    unfold c6
    rw [if_neg h1, if_neg h2, if_neg h3, if_neg h4, if_neg (by rw [h5]; decide), if_neg (by rw [h6]; decide), if_neg (by rw [h7]; decide), updG_self]
  · rw [updG_ne h]
    unfold c6
    rw [updG_ne h]
theorem c_st (hL : Lay6 iv ad) (j : Nat) (hj : arr6 j = true) (hi : i < len6 j) (x : Int32) : wrA cy (MC cy iv ad μ0 J w B) 1 (ad j) (nI i) x = some (MC cy iv ad μ0 J w (updG B j (upd (B j) i x))) := by
  rw [wrA_mk (c_a hL hj) hi (by have := len6_lt j; omega), L6_up hL (arr6_s hj).1, c6_a hj]
/-- an int field of slot s -/
theorem c6_J {s f : Nat} {x : Int32} (hf : f < 100) (hs : slot6 s = true) : ∀ i, i ≠ s → slot6 i = true → c6 cy ad (upd J (100 * s + f) x) w B i = c6 cy ad J w B i := by
  intro i hi hsl
  have key : ∀ g, g < 100 → upd J (100 * s + f) x (100 * i + g) = J (100 * i + g) := fun g hg => upd_ne' (by omega)
  have k0 : ∀ g, g < 100 → i = 0 → upd J (100 * s + f) x g = J g := fun g hg h0 => by have := key g hg; rw [h0] at this; simpa using this
  unfold c6
  by_cases h0 : i = 0
  · rw [if_pos h0, if_pos h0]
    unfold fX
    rw [k0 7 (by decide) h0, k0 8 (by decide) h0, k0 9 (by decide) h0]
  · rw [if_neg h0, if_neg h0]
    by_cases h1 : i = 1
    · rw [if_pos h1, if_pos h1]
      subst h1
      unfold fR
      have kk : ∀ g, g < 100 → upd J (100 * s + f) x (100 + g) = J (100 + g) := fun g hg => key g hg
      rw [kk 1 (by decide), kk 2 (by decide), kk 3 (by decide), kk 4 (by decide), kk 5 (by decide), kk 6 (by decide), kk 7 (by decide), kk 8 (by decide), kk 9 (by decide), kk 10 (by decide), kk 11 (by decide)]
    · rw [if_neg h1, if_neg h1]
      by_cases h2 : i = 2
      · rw [if_pos h2, if_pos h2]
      · rw [if_neg h2, if_neg h2]
        by_cases h3 : i = 3
        · rw [if_pos h3, if_pos h3]
          subst h3
          unfold fH
          have kk : ∀ g, g < 100 → upd J (100 * s + f) x (300 + g) = J (300 + g) := fun g hg => key g hg
          rw [kk 5 (by decide), kk 6 (by decide)]
        · rw [if_neg h3, if_neg h3]
          by_cases h4 : span6 i = true
          · rw [if_pos h4, if_pos h4]
            unfold fS
            rw [key 1 (by decide), key 2 (by decide)]
          · rw [if_neg h4, if_neg h4]
            by_cases h5 : cur6 i = true
            · rw [if_pos h5, if_pos h5]
              unfold fC
              rw [key 4 (by decide), key 5 (by decide), key 7 (by decide)]
            · rw [if_neg h5, if_neg h5]
              by_cases h6 : shf6 i = true
              · rw [if_pos h6, if_pos h6]
                unfold fF
                rw [key 3 (by decide), key 4 (by decide), key 5 (by decide), key 6 (by decide)]
              · rw [if_neg h6, if_neg h6]
/-- two contents that agree on the slots give one memory -/
theorem ML_eq (hL : Lay6 iv ad) {S' : Nat → va_E} (h : ∀ i, slot6 i = true → S i = S' i) : ML iv μ0 S = ML iv μ0 S' := by
  funext q
  unfold ML
  cases e : iv q with
  | none => rfl
  | some i => exact h i (hL.2 q i e).2
theorem c_put (hL : Lay6 iv ad) {s f ci : Nat} {x : Int32} {fs : List Value} (hs : slot6 s = true) (hm : MC cy iv ad μ0 J w B (ad s) = .inr (ci, fs)) (hf : f < fs.length) (hf2 : f < 100) (he : c6 cy ad (upd J (100 * s + f) x) w B s = .inr (ci, fs.set f (.int x))) : wrF (MC cy iv ad μ0 J w B) (ad s) ci f (.int x) = some (MC cy iv ad μ0 (upd J (100 * s + f) x) w B) := by
  rw [wrF_mk hm hf, L6_up hL hs]
  congr 1
  refine ML_eq hL (fun i hi => ?_)
  by_cases h : i = s
  · subst h
    rw [updG_self, he]
  · rw [updG_ne h, c6_J hf2 hs i h hi]
theorem c_putX (hL : Lay6 iv ad) {x : Int32} (f : Nat) (h : (fX ad J).set f (.int x) = fX ad (upd J f x)) (hf : f < 10) : wrF (MC cy iv ad μ0 J w B) (ad 0) 5 f (.int x) = some (MC cy iv ad μ0 (upd J f x) w B) := by
  have := c_put (cy := cy) (μ0 := μ0) (J := J) (w := w) (B := B) (x := x) hL (s := 0) (f := f) rfl (c_x hL) hf (by omega) (by rw [h, show 100 * 0 + f = f by omega]; rfl)
  rw [show 100 * 0 + f = f by omega] at this
  exact this
theorem c_putH (hL : Lay6 iv ad) {x : Int32} (f : Nat) (h : (fH ad J).set f (.int x) = fH ad (upd J (300 + f) x)) (hf : f < 7) : wrF (MC cy iv ad μ0 J w B) (ad 3) 2 f (.int x) = some (MC cy iv ad μ0 (upd J (300 + f) x) w B) := by
  exact c_put hL (s := 3) rfl (c_h hL) hf (by omega) (by rw [h]; rfl)
theorem c_putS (hL : Lay6 iv ad) {x : Int32} (hj : span6 j = true) (f : Nat) (hf : f = 1 ∨ f = 2) : wrF (MC cy iv ad μ0 J w B) (ad j) 4 f (.int x) = some (MC cy iv ad μ0 (upd J (100 * j + f) x) w B) := by
  refine c_put hL (by rcases span6_c hj with rfl | rfl | rfl | rfl | rfl | rfl | rfl | rfl | rfl <;> rfl) (c_s hL hj) (by rcases hf with rfl | rfl <;> exact Nat.le_of_ble_eq_true rfl) (by omega) ?_
  rcases hf with rfl | rfl <;> (rcases span6_c hj with rfl | rfl | rfl | rfl | rfl | rfl | rfl | rfl | rfl <;> rfl)
theorem c_putC (hL : Lay6 iv ad) {x : Int32} (hj : cur6 j = true) (f : Nat) (hf : f = 4 ∨ f = 5 ∨ f = 7) : wrF (MC cy iv ad μ0 J w B) (ad j) 0 f (.int x) = some (MC cy iv ad μ0 (upd J (100 * j + f) x) w B) := by
  refine c_put hL (by rcases cur6_c hj with rfl | rfl | rfl | rfl | rfl <;> rfl) (c_c hL hj) (by rcases hf with rfl | rfl | rfl <;> exact Nat.le_of_ble_eq_true rfl) (by omega) ?_
  rcases hf with rfl | rfl | rfl <;> (rcases cur6_c hj with rfl | rfl | rfl | rfl | rfl <;> rfl)
theorem c_putF (hL : Lay6 iv ad) {x : Int32} (hj : shf6 j = true) (f : Nat) (hf : f = 3 ∨ f = 4 ∨ f = 5 ∨ f = 6) : wrF (MC cy iv ad μ0 J w B) (ad j) 3 f (.int x) = some (MC cy iv ad μ0 (upd J (100 * j + f) x) w B) := by
  refine c_put hL (by rcases shf6_c hj with rfl | rfl | rfl | rfl <;> rfl) (c_f hL hj) (by rcases hf with rfl | rfl | rfl | rfl <;> exact Nat.le_of_ble_eq_true rfl) (by omega) ?_
  rcases hf with rfl | rfl | rfl | rfl <;> (rcases shf6_c hj with rfl | rfl | rfl | rfl <;> rfl)
/-- the reader's cell -/
def kJ (J : Nat → Int32) : Kt := (J 104, J 105, J 106, J 107, J 108, J 109, J 111)
def upR (J : Nat → Int32) (vp wt fk fp : Int32) (K : Kt) : Nat → Int32 := upd (upd (upd (upd (upd (upd (upd (upd (upd (upd (upd J 101 fk) 102 fp) 103 vp) 104 K.1) 105 K.2.1) 106 K.2.2.1) 107 K.2.2.2.1) 108 K.2.2.2.2.1) 109 K.2.2.2.2.2.1) 110 wt) 111 K.2.2.2.2.2.2
theorem c_rc (hL : Lay6 iv ad) : MC cy iv ad μ0 J w B (ad 1) = rc w (J 103) (J 110) (J 101) (J 102) (kJ J) := c_r hL
theorem upR_ne {vp wt fk fp : Int32} {K : Kt} (h : i < 101 ∨ 111 < i) : upR J vp wt fk fp K i = J i := by
  unfold upR
  rw [upd_ne' (by omega), upd_ne' (by omega), upd_ne' (by omega), upd_ne' (by omega), upd_ne' (by omega), upd_ne' (by omega), upd_ne' (by omega), upd_ne' (by omega), upd_ne' (by omega), upd_ne' (by omega), upd_ne' (by omega)]
theorem c_RM (hL : Lay6 iv ad) {sp : Nat} {vp wt fk fp : Int32} {K : Kt} : RM (MC cy iv ad μ0 J w B) (ad 1) sp vp wt fk fp K = MC cy iv ad μ0 (upR J vp wt fk fp K) sp B := by
  unfold RM
  rw [L6_up hL rfl]
  refine ML_eq hL (fun i hi => ?_)
  by_cases h : i = 1
  · subst h
    rw [updG_self]
    rfl
  · rw [updG_ne h]
    have key : ∀ g, g < 100 → upR J vp wt fk fp K (100 * i + g) = J (100 * i + g) := fun g hg => upR_ne (by omega)
    unfold c6
    by_cases h0 : i = 0
    · rw [if_pos h0, if_pos h0]
      unfold fX
      rw [upR_ne (by decide), upR_ne (by decide), upR_ne (by decide)]
    · rw [if_neg h0, if_neg h0, if_neg h, if_neg h]
      by_cases h2 : i = 2
      · rw [if_pos h2, if_pos h2]
      · rw [if_neg h2, if_neg h2]
        by_cases h3 : i = 3
        · rw [if_pos h3, if_pos h3]
          unfold fH
          rw [upR_ne (by decide), upR_ne (by decide)]
        · rw [if_neg h3, if_neg h3]
          by_cases h4 : span6 i = true
          · rw [if_pos h4, if_pos h4]
            unfold fS
            rw [key 1 (by decide), key 2 (by decide)]
          · rw [if_neg h4, if_neg h4]
            by_cases h5 : cur6 i = true
            · rw [if_pos h5, if_pos h5]
              unfold fC
              rw [key 4 (by decide), key 5 (by decide), key 7 (by decide)]
            · rw [if_neg h5, if_neg h5]
              by_cases h6 : shf6 i = true
              · rw [if_pos h6, if_pos h6]
                unfold fF
                rw [key 3 (by decide), key 4 (by decide), key 5 (by decide), key 6 (by decide)]
              · rw [if_neg h6, if_neg h6]
end MC1
