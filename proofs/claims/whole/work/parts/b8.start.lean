/-! THE FIRST STATE. -/
def b5 : Nat → Nat := fun j => if j = 0 then 5 else 0
theorem hb5 : hb b5 = e5 := by
  funext j
  unfold hb b5 e5
  split <;> rfl
theorem hb0 : hb (fun _ => 0) = fun _ => 0 := rfl
theorem bB5 : bB b5 := fun j => by unfold b5; split <;> decide
def J0 (k : Nat) : Int32 := if k = 8 ∨ k = 9 ∨ k = 102 ∨ k = 110 ∨ k = 4005 ∨ k = 5005 ∨ k = 6005 ∨ k = 7005 ∨ k = 8005 ∨ k = 9004 ∨ k = 9104 ∨ k = 9204 ∨ k = 9304 then -1 else if k = 2601 ∨ k = 2801 ∨ k = 3001 ∨ k = 3201 then 5 else 0
def B0 (j : Nat) : Nat → Int32 := if j = 27 ∨ j = 29 ∨ j = 31 ∨ j = 33 then e5 else if j = 45 ∨ j = 55 ∨ j = 65 ∨ j = 75 then e4 else fun _ => 0
def I0 (k : Nat) : Int32 := if k = 4 then -1 else 0
def V0 : Nat → Value := fun _ => .null
def A0 (j : Nat) : Nat → Int32 := if 50 ≤ j ∧ j ≤ 53 then e5 else if j = 6 then u4 5 else if j = 8 then u4 0 else if j = 9 ∨ j = 18 then u4 (-1) else fun _ => 0
theorem bB0 : bB (fun _ => 0) := fun _ => by show (0 : Nat) < 256; decide
theorem dc5 : DC (hb b5) 5 23 0 5 false 0 := ⟨by decide, by decide, by decide +kernel, by decide +kernel, rfl, fun i hi => absurd hi (Nat.not_lt_zero _)⟩
theorem rel0 : REL J0 B0 I0 A0 := by
  refine ⟨⟨0, fun _ => 0, rfl, rfl, bB0, by decide, rfl, fun j hj => absurd hj (Nat.not_lt_zero _)⟩, ⟨rfl, rfl⟩, fun s hs => ?_, ⟨by decide +kernel, Or.inl ⟨rfl, by decide +kernel, by decide +kernel, by decide +kernel⟩⟩, ⟨0, fun _ => 0, rfl, rfl, bB0, by decide⟩, ⟨0, fun _ => 0, rfl, rfl, bB0, by decide⟩, ⟨0, fun _ => 0, rfl, by decide, rfl, bB0⟩, ⟨fun _ => 0, bB0, ?_⟩, ⟨0, fun _ => 0, rfl, rfl, bB0, Or.inl ⟨rfl, rfl, rfl, rfl⟩⟩⟩
  · have key : ∀ s, s < 4 → J0 (100 * sS (90 + s) + 1) = nI 5 ∧ B0 (sS (90 + s) + 1) = e5 ∧ J0 (100 * sC (90 + s) + 4) = nI 0 ∧ J0 (100 * sC (90 + s) + 5) = -1 ∧ J0 (100 * sC (90 + s) + 7) = nI 0 ∧ B0 (sC (90 + s) + 1) = (fun _ => 0) ∧ B0 (sC (90 + s) + 2) = (fun _ => 0) ∧ B0 (sC (90 + s) + 5) = e4 ∧ A0 (50 + s) = e5 ∧ A0 6 s = nI 5 ∧ A0 8 s = nI 0 ∧ A0 9 s = -1 := by
      intro s hs
      match s, hs with
      | 0, _ => exact ⟨rfl, rfl, rfl, rfl, rfl, rfl, rfl, rfl, rfl, by decide +kernel, by decide +kernel, by decide +kernel⟩
      | 1, _ => exact ⟨rfl, rfl, rfl, rfl, rfl, rfl, rfl, rfl, rfl, by decide +kernel, by decide +kernel, by decide +kernel⟩
      | 2, _ => exact ⟨rfl, rfl, rfl, rfl, rfl, rfl, rfl, rfl, rfl, by decide +kernel, by decide +kernel, by decide +kernel⟩
      | 3, _ => exact ⟨rfl, rfl, rfl, rfl, rfl, rfl, rfl, rfl, rfl, by decide +kernel, by decide +kernel, by decide +kernel⟩
    obtain ⟨k1, k2, k3, k4, k5, k6, k7, k8, k9, k10, k11, k12⟩ := key s hs
    refine ⟨b5, 5, fun _ => 0, 0, 0, -1, ⟨k1, by rw [hb5]; exact k2, bB5, by decide, k3, k4, k5, fun k hk => ?_, fun k hk => ?_, fun k hk => absurd hk (Nat.not_lt_zero _), fun k hk => absurd hk (Nat.not_lt_zero _), fun i hi => ?_, by decide, ⟨dc5.dOk (by decide) (by decide), by decide, fun k hk => absurd hk (Nat.not_lt_zero _)⟩, 5, dc5⟩, Or.inl rfl, fun j hj => ?_, k10, fun k hk => absurd hk (Nat.not_lt_zero _), k11, k12⟩
    · obtain rfl : k = 0 := by omega
      rw [k6]
      rfl
    · obtain rfl : k = 0 := by omega
      rw [k7]
      rfl
    · obtain rfl : i = 0 := by omega
      rw [k8]
      rfl
    · rw [k9]
      unfold e5 b5
      split <;> decide
  · funext j
    show (0 : Int32) = sx 0
    decide
/-- where the slots lie -/
def tb6 : List Nat := [0, 20, 21, 22, 23, 24, 25, 1, 999, 999, 2, 80, 81, 82, 83, 84, 85, 3, 36, 37, 4, 5, 6, 7, 999, 999, 34, 35, 90, 26, 27, 40, 41, 42, 43, 44, 45, 91, 28, 29, 50, 51, 52, 53, 54, 55, 92, 30, 31, 60, 61, 62, 63, 64, 65, 93, 32, 33, 70, 71, 72, 73, 74, 75]
def tb8 : List Nat := [0, 1, 5, 50, 51, 52, 53, 6, 7, 54, 55, 56, 57, 8, 9, 10, 14, 15, 16, 17, 18, 19, 20, 21, 62, 63, 64, 65, 66, 67, 68, 69, 70, 71, 72, 22, 82, 83, 84, 85, 86, 87, 88, 89, 90, 91, 92, 23, 26, 30, 41, 43]
def of6 (j : Nat) : Nat := tb6.findIdx (· == j)
def of8 (j : Nat) : Nat := tb8.findIdx (· == j)
def iv6 (w : Nat) (q : Nat) : Option Nat := if w ≤ q ∧ q < w + 64 then (if slot6 (tb6.getD (q - w) 999) = true then some (tb6.getD (q - w) 999) else none) else none
def iv8 (w : Nat) (q : Nat) : Option Nat := if w ≤ q ∧ q < w + 52 then (if slot8 (tb8.getD (q - w) 999) = true then some (tb8.getD (q - w) 999) else none) else none
theorem of6_ok : ∀ j, j < 100 → slot6 j = true → of6 j < 64 ∧ tb6.getD (of6 j) 999 = j := by decide +kernel
theorem of8_ok : ∀ j, j < 100 → slot8 j = true → of8 j < 52 ∧ tb8.getD (of8 j) 999 = j := by decide +kernel
theorem fo6_ok : ∀ o, o < 64 → slot6 (tb6.getD o 999) = true → of6 (tb6.getD o 999) = o := by decide +kernel
theorem fo8_ok : ∀ o, o < 52 → slot8 (tb8.getD o 999) = true → of8 (tb8.getD o 999) = o := by decide +kernel
theorem slot6_lt {j : Nat} (h : slot6 j = true) : j < 100 := by
  unfold slot6 span6 cur6 shf6 arr6 at h
  simp at h
  omega
theorem slot8_lt {j : Nat} (h : slot8 j = true) : j < 100 := by
  unfold slot8 at h
  simp at h
  omega
theorem lay6 (w : Nat) : Lay6 (iv6 w) (fun j => w + of6 j) := by
  refine ⟨fun j hj => ?_, fun q j h => ?_⟩
  · obtain ⟨h1, h2⟩ := of6_ok j (slot6_lt hj) hj
    show iv6 w (w + of6 j) = some j
    unfold iv6
    rw [if_pos (by omega), show w + of6 j - w = of6 j by omega, h2, if_pos hj]
  · unfold iv6 at h
    split at h
    · rename_i c
      split at h
      · rename_i c2
        cases h
        refine ⟨?_, c2⟩
        show q = w + of6 _
        rw [fo6_ok (q - w) (by omega) c2]
        omega
      · cases h
    · cases h
theorem lay8 (w : Nat) : Lay (iv8 w) (fun j => w + of8 j) := by
  refine ⟨fun j hj => ?_, fun q j h => ?_⟩
  · obtain ⟨h1, h2⟩ := of8_ok j (slot8_lt hj) hj
    show iv8 w (w + of8 j) = some j
    unfold iv8
    rw [if_pos (by omega), show w + of8 j - w = of8 j by omega, h2, if_pos hj]
  · unfold iv8 at h
    split at h
    · rename_i c
      split at h
      · rename_i c2
        cases h
        refine ⟨?_, c2⟩
        show q = w + of8 _
        rw [fo8_ok (q - w) (by omega) c2]
        omega
      · cases h
    · cases h
/-- cells that are the same in a heap -/
def ceq (e e' : va_E) : Prop := e = e' ∨ ∃ (c : ClassId) (n : Nat) (f f' : Nat → Option Nat), e = .inl (c, n, .inr (.inr (.inr (.inr f)))) ∧ e' = .inl (c, n, .inr (.inr (.inr (.inr f')))) ∧ ∀ i, i < n → f i = f' i
set_option maxRecDepth 100000 in
set_option maxHeartbeats 4000000 in
theorem c6_ok (cy : Nat → ClassId) (w : Nat) : ∀ o, o < 64 → slot6 (tb6.getD o 999) = true → ∃ e, (l6 cy w)[o]? = some e ∧ ceq e (c6 cy (fun j => w + of6 j) J0 (w + 8) B0 (tb6.getD o 999)) := by
  intro o ho hs
  by_cases h10 : o = 10
  · subst h10
    refine ⟨_, rfl, Or.inr ⟨_, _, _, _, rfl, rfl, fun i hi => ?_⟩⟩
    match i, hi with
    | 0, _ => rfl
    | 1, _ => rfl
    | 2, _ => rfl
    | 3, _ => rfl
  · refine ⟨_, List.getElem?_eq_getElem (by show o < 64; exact ho), Or.inl ?_⟩
    match o, ho with
    | 0, _ => rfl
    | 1, _ => rfl
    | 2, _ => rfl
    | 3, _ => rfl
    | 4, _ => rfl
    | 5, _ => rfl
    | 6, _ => rfl
    | 7, _ => rfl
    | 8, _ => exact absurd hs (by decide)
    | 9, _ => exact absurd hs (by decide)
    | 10, _ => exact absurd rfl h10
    | 11, _ => rfl
    | 12, _ => rfl
    | 13, _ => rfl
    | 14, _ => rfl
    | 15, _ => rfl
    | 16, _ => rfl
    | 17, _ => rfl
    | 18, _ => rfl
    | 19, _ => rfl
    | 20, _ => rfl
    | 21, _ => rfl
    | 22, _ => rfl
    | 23, _ => rfl
    | 24, _ => exact absurd hs (by decide)
    | 25, _ => exact absurd hs (by decide)
    | 26, _ => rfl
    | 27, _ => rfl
    | 28, _ => rfl
    | 29, _ => rfl
    | 30, _ => rfl
    | 31, _ => rfl
    | 32, _ => rfl
    | 33, _ => rfl
    | 34, _ => rfl
    | 35, _ => rfl
    | 36, _ => rfl
    | 37, _ => rfl
    | 38, _ => rfl
    | 39, _ => rfl
    | 40, _ => rfl
    | 41, _ => rfl
    | 42, _ => rfl
    | 43, _ => rfl
    | 44, _ => rfl
    | 45, _ => rfl
    | 46, _ => rfl
    | 47, _ => rfl
    | 48, _ => rfl
    | 49, _ => rfl
    | 50, _ => rfl
    | 51, _ => rfl
    | 52, _ => rfl
    | 53, _ => rfl
    | 54, _ => rfl
    | 55, _ => rfl
    | 56, _ => rfl
    | 57, _ => rfl
    | 58, _ => rfl
    | 59, _ => rfl
    | 60, _ => rfl
    | 61, _ => rfl
    | 62, _ => rfl
    | 63, _ => rfl
set_option maxRecDepth 100000 in
set_option maxHeartbeats 4000000 in
theorem c8_ok (cy : Nat → ClassId) (w : Nat) : ∀ o, o < 52 → ∃ e, (l8 cy w)[o]? = some e ∧ ceq e (c8 cy (fun j => w + of8 j) I0 V0 A0 (tb8.getD o 999)) := by
  intro o ho
  by_cases h2 : o = 2
  · subst h2
    refine ⟨_, rfl, Or.inr ⟨_, _, _, _, rfl, rfl, fun i hi => ?_⟩⟩
    match i, hi with
    | 0, _ => rfl
    | 1, _ => rfl
    | 2, _ => rfl
    | 3, _ => rfl
  · by_cases h8 : o = 8
    · subst h8
      refine ⟨_, rfl, Or.inr ⟨_, _, _, _, rfl, rfl, fun i hi => ?_⟩⟩
      match i, hi with
      | 0, _ => rfl
      | 1, _ => rfl
      | 2, _ => rfl
      | 3, _ => rfl
    · refine ⟨_, List.getElem?_eq_getElem (by show o < 52; exact ho), Or.inl ?_⟩
      match o, ho with
      | 0, _ => rfl
      | 1, _ => rfl
      | 2, _ => exact absurd rfl h2
      | 3, _ => rfl
      | 4, _ => rfl
      | 5, _ => rfl
      | 6, _ => rfl
      | 7, _ => rfl
      | 8, _ => exact absurd rfl h8
      | 9, _ => rfl
      | 10, _ => rfl
      | 11, _ => rfl
      | 12, _ => rfl
      | 13, _ => rfl
      | 14, _ => rfl
      | 15, _ => rfl
      | 16, _ => rfl
      | 17, _ => rfl
      | 18, _ => rfl
      | 19, _ => rfl
      | 20, _ => rfl
      | 21, _ => rfl
      | 22, _ => rfl
      | 23, _ => rfl
      | 24, _ => rfl
      | 25, _ => rfl
      | 26, _ => rfl
      | 27, _ => rfl
      | 28, _ => rfl
      | 29, _ => rfl
      | 30, _ => rfl
      | 31, _ => rfl
      | 32, _ => rfl
      | 33, _ => rfl
      | 34, _ => rfl
      | 35, _ => rfl
      | 36, _ => rfl
      | 37, _ => rfl
      | 38, _ => rfl
      | 39, _ => rfl
      | 40, _ => rfl
      | 41, _ => rfl
      | 42, _ => rfl
      | 43, _ => rfl
      | 44, _ => rfl
      | 45, _ => rfl
      | 46, _ => rfl
      | 47, _ => rfl
      | 48, _ => rfl
      | 49, _ => rfl
      | 50, _ => rfl
      | 51, _ => rfl
      | n + 52, h => exact absurd h (by omega)
