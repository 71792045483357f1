/-! THE SHEET'S STATE; the whole tie; frames. -/
/-- c ELEMENTS from D + 4 on, up to z -/
def TOPk (h : Nat → Int32) (z k D : Nat) (t : Int32) (c : Nat) : Prop := ∃ s : Nat → Nat, s 0 = D + 4 ∧ s c = z ∧ ∀ i, i < c → eOk h (23 - k) (s i) (s (i + 1)) (rwo (t == 4) i)
/-- an open DOCUMENT in which another one is open -/
def MIDk (h : Nat → Int32) (k D : Nat) (t : Int32) (c D' : Nat) (t' : Int32) (v' : Nat) : Prop := ∃ q, 1 ≤ c ∧ TOPk h q k D t (c - 1) ∧ isTy t' ∧ h q = t' ∧ hasD t' ∧ nmZ h (q + 1) (v' - 1) (rwo (t == 4) (c - 1)) ∧ q + 2 ≤ v' ∧ ((t' = 15 ∧ v' + 8 < D' ∧ txOk h (v' + 4) D') ∨ (t' ≠ 15 ∧ D' = v'))
def CHN (h : Nat → Int32) (z o : Nat) (D : Nat → Nat) (t : Nat → Int32) (v c : Nat → Nat) : Prop := o ≤ 24 ∧ (o = 0 → dOk h 24 0 z false) ∧ (0 < o → D 0 = 0 ∧ t 0 = 0 ∧ TOPk h z (o - 1) (D (o - 1)) (t (o - 1)) (c (o - 1))) ∧ (∀ k, k < o → D k + 4 ≤ z) ∧ ∀ k, k + 1 < o → MIDk h k (D k) (t k) (c k) (D (k + 1)) (t (k + 1)) (v (k + 1)) ∧ D k + 4 ≤ D (k + 1)
def HTr (J : Nat → Int32) (B : Nat → Nat → Int32) (I : Nat → Int32) (A : Nat → Nat → Int32) : Prop := ∃ z b, J 3601 = nI z ∧ B 37 = hb b ∧ bB b ∧ ((J 306 = 0 ∧ J 305 = 0 ∧ z = 0 ∧ I 12 = 0) ∨ (J 306 = 1 ∧ I 12 = 1 ∧ ∃ o D t v c, J 305 = nI o ∧ I 13 = nI o ∧ I 11 = nI z ∧ z + o ≤ 2400 ∧ (∀ j, j < z → A 10 j = sx (b j)) ∧ (∀ k, k < o → B 4 k = nI (D k) ∧ A 14 k = nI (D k) ∧ B 5 k = t k ∧ A 15 k = t k ∧ B 7 k = nI (c k) ∧ A 16 k = nI (c k) ∧ (t k = 15 → B 6 k = nI (v k) ∧ A 17 k = nI (v k)) ∧ (t k ≠ 15 → A 17 k = -1)) ∧ CHN (hb b) z o D t v c))
theorem HTr.fr {J J' : Nat → Int32} {B B' : Nat → Nat → Int32} {I I' : Nat → Int32} {A A' : Nat → Nat → Int32} (h : HTr J B I A) (h1 : ∀ k, k = 305 ∨ k = 306 ∨ k = 3601 → J' k = J k) (h2 : ∀ k, (4 ≤ k ∧ k ≤ 7) ∨ k = 37 → B' k = B k) (h3 : ∀ k, 11 ≤ k → k ≤ 13 → I' k = I k) (h4 : ∀ k, k = 10 ∨ (14 ≤ k ∧ k ≤ 17) → A' k = A k) : HTr J' B' I' A' := by
  obtain ⟨z, b, a1, a2, a3, a4⟩ := h
  refine ⟨z, b, by rw [h1 _ (by omega)]; exact a1, by rw [h2 _ (by omega)]; exact a2, a3, ?_⟩
  rw [h1 306 (by omega), h1 305 (by omega), h3 12 (by omega) (by omega), h3 13 (by omega) (by omega), h3 11 (by omega) (by omega), h4 10 (by omega), h4 14 (by omega), h4 15 (by omega), h4 16 (by omega), h4 17 (by omega), h2 4 (by omega), h2 5 (by omega), h2 6 (by omega), h2 7 (by omega)]
  exact a4
def REL (J : Nat → Int32) (B : Nat → Nat → Int32) (I : Nat → Int32) (A : Nat → Nat → Int32) : Prop := TPr J B I A ∧ FTr J I ∧ (∀ s, s < 4 → SHr J B A s) ∧ LTr J A ∧ GVc J B ∧ PLc J B ∧ DRF J B ∧ OUr A ∧ HTr J B I A
/-- the reference's arrays that count -/
def rlv (j : Nat) : Prop := j = 1 ∨ j = 6 ∨ j = 8 ∨ j = 9 ∨ j = 10 ∨ (14 ≤ j ∧ j ≤ 18) ∨ j = 26 ∨ (50 ≤ j ∧ j ≤ 57)
section RL3
variable {J J' : Nat → Int32} {B B' : Nat → Nat → Int32} {I I' : Nat → Int32} {A A' : Nat → Nat → Int32} {s : Nat}
/-- what doesn't count may change -/
theorem REL.fr (R : REL J B I A) (h1 : ∀ k, k / 100 ≠ 1 → k / 100 ≠ 80 → J' k = J k) (h2 : ∀ k, k ≤ 80 ∨ 85 < k → B' k = B k) (h3 : ∀ k, 0 < k → k < 14 → I' k = I k) (h4 : ∀ j, rlv j → A' j = A j) : REL J' B' I' A' := by
  obtain ⟨r1, r2, r3, r4, r5, r6, r7, r8, r9⟩ := R
  have a := fun j (h : rlv j) => h4 j h
  unfold rlv at a
  refine ⟨r1.fr (h1 _ (by decide) (by decide)) (h2 _ (by omega)) (h3 _ (by decide) (by decide)) (a _ (by omega)), r2.fr (h1 _ (by decide) (by decide)) (h1 _ (by decide) (by decide)) (h3 _ (by decide) (by decide)) (h3 _ (by decide) (by decide)), fun s hs => ?_, r4.fr (h1 _ (by decide) (by decide)) (fun s hs f hf => h1 _ (by omega) (by omega)) (a _ (by omega)), r5.fr (h1 _ (by decide) (by decide)) (h2 _ (by omega)), r6.fr (h1 _ (by decide) (by decide)) (h2 _ (by omega)), r7.fr (h1 _ (by decide) (by decide)) (h2 _ (by omega)), r8.fr (a _ (by omega)), r9.fr (fun k hk => h1 k (by omega) (by omega)) (fun k hk => h2 k (by omega)) (fun k k1 k2 => h3 k (by omega) (by omega)) (fun k hk => a k (by omega))⟩
  exact (r3 s hs).fr hs (fun k hk => h1 k (by omega) (by omega)) (fun k hk => h2 k (by omega)) (a _ (by omega)) (by rw [a _ (by omega)]) (a _ (by omega)) (by rw [a _ (by omega)]) (by rw [a _ (by omega)])
theorem REL.t (R : REL J B I A) {T : Nat} (hT : 60 ≤ T) {x : Int32} {X : Nat → Nat → Int32} : REL J B (upd I (T + 1) x) (tA T A X) := R.fr (fun _ _ _ => rfl) (fun _ _ => rfl) (fun k k1 k2 => upd_ne' (by omega)) (fun j hj => tA_out (by unfold rlv at hj; omega))
theorem REL.i0 (R : REL J B I A) {x : Int32} : REL J B (upd I 0 x) A := R.fr (fun _ _ _ => rfl) (fun _ _ => rfl) (fun k k1 k2 => upd_ne' (by omega)) (fun _ _ => rfl)
/-- shelf s goes another way -/
theorem REL.sh (R : REL J B I A) (hs : s < 4) (S : SHr J' B' A' s) (h1 : ∀ k, k / 100 ≠ 1 → k / 100 ≠ 80 → k / 100 ≠ 26 + 2 * s → k / 100 ≠ 40 + 10 * s → J' k = J k) (h2 : ∀ k, k ≤ 80 ∨ 85 < k → k ≠ 27 + 2 * s → (k ≤ 40 + 10 * s ∨ 45 + 10 * s < k) → B' k = B k) (h3 : ∀ k, 0 < k → k < 14 → I' k = I k) (h4 : ∀ j, rlv j → j ≠ 6 → j ≠ 8 → j ≠ 9 → j ≠ 50 + s → j ≠ 54 + s → A' j = A j) (h5 : ∀ j t, j = 6 ∨ j = 8 ∨ j = 9 → t ≠ s → A' j t = A j t) : REL J' B' I' A' := by
  obtain ⟨r1, r2, r3, r4, r5, r6, r7, r8, r9⟩ := R
  have a := fun j (h : rlv j) => h4 j h
  unfold rlv at a
  refine ⟨r1.fr (h1 _ (by omega) (by omega) (by omega) (by omega)) (h2 _ (by omega) (by omega) (by omega)) (h3 _ (by decide) (by decide)) (a _ (by omega) (by omega) (by omega) (by omega) (by omega) (by omega)), r2.fr (h1 _ (by omega) (by omega) (by omega) (by omega)) (h1 _ (by omega) (by omega) (by omega) (by omega)) (h3 _ (by decide) (by decide)) (h3 _ (by decide) (by decide)), fun t ht => ?_, r4.fr (h1 _ (by omega) (by omega) (by omega) (by omega)) (fun t ht f hf => h1 _ (by omega) (by omega) (by omega) (by omega)) (a _ (by omega) (by omega) (by omega) (by omega) (by omega) (by omega)), r5.fr (h1 _ (by omega) (by omega) (by omega) (by omega)) (h2 _ (by omega) (by omega) (by omega)), r6.fr (h1 _ (by omega) (by omega) (by omega) (by omega)) (h2 _ (by omega) (by omega) (by omega)), r7.fr (h1 _ (by omega) (by omega) (by omega) (by omega)) (h2 _ (by omega) (by omega) (by omega)), r8.fr (a _ (by omega) (by omega) (by omega) (by omega) (by omega) (by omega)), r9.fr (fun k hk => h1 k (by omega) (by omega) (by omega) (by omega)) (fun k hk => h2 k (by omega) (by omega) (by omega)) (fun k k1 k2 => h3 k (by omega) (by omega)) (fun k hk => a k (by omega) (by omega) (by omega) (by omega) (by omega) (by omega))⟩
  by_cases c : t = s
  · subst c; exact S
  · exact (r3 t ht).fr ht (fun k hk => h1 k (by omega) (by omega) (by omega) (by omega)) (fun k hk => h2 k (by omega) (by omega) (by omega)) (a _ (by omega) (by omega) (by omega) (by omega) (by omega) (by omega)) (h5 _ _ (by omega) c) (a _ (by omega) (by omega) (by omega) (by omega) (by omega) (by omega)) (h5 _ _ (by omega) c) (h5 _ _ (by omega) c)
end RL3
/-- class and reference answer alike -/
def ANS (cy : Nat → ClassId) (iv : Nat → Option Nat) (ad : Nat → Nat) (μ0 : Mem) (iw : Nat → Option Nat) (aw : Nat → Nat) (μ1 : Mem) (names : List String) (x : Option ((String × Mem) ⊕ (Int32 × Mem))) (y : Option (Int32 × Mem)) : Prop := ∃ J' w' B' I' V' A' code v v', x = some (if code = 0 then .inr (v, MC cy iv ad μ0 J' w' B') else .inl (names.getD (code - 1) "", MC cy iv ad μ0 J' w' B')) ∧ y = some (v', MR cy iw aw μ1 I' V' A') ∧ I' 0 = nI code ∧ (code = 0 → v = v') ∧ code ≤ names.length ∧ REL J' B' I' A'
section RL4
variable {cy : Nat → ClassId} {iv : Nat → Option Nat} {ad : Nat → Nat} {μ0 : Mem} {iw : Nat → Option Nat} {aw : Nat → Nat} {μ1 : Mem} {names : List String} {x : Option ((String × Mem) ⊕ (Int32 × Mem))} {y : Option (Int32 × Mem)} {J : Nat → Int32} {w : Nat} {B : Nat → Nat → Int32} {I : Nat → Int32} {V : Nat → Value} {A : Nat → Nat → Int32} {v v' : Int32}
theorem ans_ok (h1 : x = some (.inr (v, MC cy iv ad μ0 J w B))) (h2 : y = some (v, MR cy iw aw μ1 I V A)) (h0 : I 0 = 0) (R : REL J B I A) : ANS cy iv ad μ0 iw aw μ1 names x y := ⟨J, w, B, I, V, A, 0, v, v, h1, h2, h0, fun _ => rfl, Nat.zero_le _, R⟩
theorem ans_th (code : Nat) (hc : 0 < code) (hl : code ≤ names.length) {nm : String} (hn : names.getD (code - 1) "" = nm) (h1 : x = some (.inl (nm, MC cy iv ad μ0 J w B))) (h2 : y = some (v', MR cy iw aw μ1 I V A)) (h0 : I 0 = nI code) (R : REL J B I A) : ANS cy iv ad μ0 iw aw μ1 names x y := ⟨J, w, B, I, V, A, code, 0, v', by rw [h1, if_neg (by omega), hn], h2, h0, fun z => by omega, hl, R⟩
end RL4
