/-! AN EDITED DOCUMENT: what it holds, and that it is good. -/
def hl (l : List Nat) : Nat → Int32 := fun j => nI (l.getD j 0)
abbrev wR (h : Nat → Int32) (n : Nat) (I : Nat → Nat) (k : Nat) : Nat := wD h n I k + (i4 h (wD h n I k)).toInt.toNat
/-- no length on the way stands at j -/
def fre (h : Nat → Int32) (n : Nat) (I : Nat → Nat) (d j : Nat) : Prop := (∀ k, k ≤ d → j < wD h n I k ∨ wD h n I k + 4 ≤ j) ∧ ∀ k, k < d → wT h n I (k + 1) = 15 → j < wV h n I k ∨ wV h n I k + 4 ≤ j
/-- nb, n' of them: the bytes bs with M as the ELEMENTS of the DOCUMENT at level d -/
def ED (bs : Nat → Nat) (n : Nat) (I : Nat → Nat) (d : Nat) (M : List Nat) (nb : Nat → Nat) (n' : Nat) : Prop :=
  n' + (wR (hb bs) n I d - 1) = wD (hb bs) n I d + 4 + M.length + n ∧
  (∀ k, k ≤ d → ∀ i, i < 4 → nb (wD (hb bs) n I k + i) = by4 (nI (wR (hb bs) n I k + n' - n - wD (hb bs) n I k)) i) ∧
  (∀ k, k < d → wT (hb bs) n I (k + 1) = 15 → ∀ i, i < 4 → nb (wV (hb bs) n I k + i) = by4 (nI (wR (hb bs) n I (k + 1) + n' - n - wV (hb bs) n I k)) i) ∧
  (∀ j, j < wD (hb bs) n I d + 4 → fre (hb bs) n I d j → nb j = bs j) ∧
  (∀ i, i < M.length → nb (wD (hb bs) n I d + 4 + i) = M.getD i 0) ∧
  (∀ j, wR (hb bs) n I d - 1 ≤ j → j < n → nb (j + n' - n) = bs j)
theorem DC.mk {h : Nat → Int32} {n e D r m : Nat} {row : Bool} (s : Nat → Nat) (h1 : D + 5 ≤ r) (h2 : r ≤ n) (h3 : i4 h D = nI (r - D)) (h4 : h (r - 1) = 0) (hs0 : s 0 = D + 4) (hsm : s m = r - 1) (hs : ∀ i, i < m → eOk h e (s i) (s (i + 1)) (rwo row i)) : DC h n e D r row m ∧ ∀ i, i ≤ m → st h n D i = s i := by
  have mono : ∀ i k, i + k ≤ m → s i + 2 * k ≤ s (i + k) := by
    intro i k
    induction k with
    | zero => intro _; exact Nat.le_refl _
    | succ k ih =>
      intro hk
      have := (hs (i + k) (by omega)).le
      have := ih (by omega)
      show s i + 2 * (k + 1) ≤ s (i + k + 1)
      omega
  have key : ∀ i, i ≤ m → st h n D i = s i := by
    intro i
    induction i with
    | zero => intro _; exact hs0.symm
    | succ i ih =>
      intro hi
      show nx h n (st h n D i) = s (i + 1)
      rw [ih (by omega)]
      have := mono (i + 1) (m - (i + 1)) (by omega)
      rw [show i + 1 + (m - (i + 1)) = m by omega] at this
      exact ((hs i (by omega)).s (n := n) (by omega)).2.2.2.2.2
  refine ⟨⟨h1, h2, h3, h4, by rw [key m (Nat.le_refl _)]; exact hsm, fun i hi => ?_⟩, key⟩
  rw [key i (by omega), key (i + 1) (by omega)]
  exact hs i hi
theorem cat_len_mono {P : Nat → List Nat} : ∀ (i c : Nat), (cat P i).length ≤ (cat P (i + c)).length
  | i, 0 => Nat.le_refl _
  | i, c + 1 => by
    have := cat_len_mono (P := P) i c
    show _ ≤ (cat P (i + c) ++ P (i + c)).length
    rw [List.length_append]
    omega
/-- byte k of piece i stands at its place -/
theorem cat_get {P : Nat → List Nat} {m i k : Nat} (hi : i < m) (hk : k < (P i).length) : (cat P m).getD ((cat P i).length + k) 0 = (P i).getD k 0 := by
  have e : m = i + 1 + (m - (i + 1)) := by omega
  rw [e, cat_split]
  show ((cat P i ++ P i) ++ _).getD _ 0 = _
  rw [gd_lo (by rw [List.length_append]; omega), gd_hi (by omega), show (cat P i).length + k - (cat P i).length = k by omega]
section ED1
variable {bs : Nat → Nat} {n : Nat} {I : Nat → Nat} {d : Nat} {M : List Nat} {nb : Nat → Nat} {n' : Nat}
theorem WV.r (W : WV (hb bs) n I d) {k : Nat} (hk : k ≤ d) : ∃ m, m < 1200 ∧ DC (hb bs) n (23 - k) (wD (hb bs) n I k) (wR (hb bs) n I k) (wT (hb bs) n I k == 4) m := by
  obtain ⟨h1, m, r, hm, hD⟩ := W.dc k hk
  have e : wR (hb bs) n I k = r := by
    show wD (hb bs) n I k + (i4 (hb bs) (wD (hb bs) n I k)).toInt.toNat = r
    have := hD.1
    have := hD.2.1
    have := W.2.1
    rw [hD.2.2.1, nI_toInt (by omega)]
    omega
  rw [e]
  exact ⟨m, hm, hD⟩
theorem WV.rk (W : WV (hb bs) n I d) {k : Nat} (hk : k < d) : wR (hb bs) n I (k + 1) = st (hb bs) n (wD (hb bs) n I k) (I k + 1) := by
  obtain ⟨m, r, hD, hi, ht⟩ := W.2.2 k hk
  have hE := hD.2.2.2.2.2 (I k) hi
  have le := hD.le' (i := I k + 1) (by omega)
  have hrn := hD.2.1
  have hn := W.2.1
  have hs := hE.s (n := n) (by omega)
  obtain ⟨hd, hp⟩ := hs.2.2.2.2.1.doc ht
  have l := hd.len
  have l2 := hd.le
  show dcIn (hb bs) (hb bs (st (hb bs) n (wD (hb bs) n I k) (I k))) (vpl (hb bs) n (st (hb bs) n (wD (hb bs) n I k) (I k))) + (i4 (hb bs) (dcIn (hb bs) (hb bs (st (hb bs) n (wD (hb bs) n I k) (I k))) (vpl (hb bs) n (st (hb bs) n (wD (hb bs) n I k) (I k))))).toInt.toNat = _
  rw [l.2.1, nI_toInt l.1]
  omega
/-- free places -/
theorem fre_a (W : WV (hb bs) n I d) {k j : Nat} (hk : k < d) (h1 : wD (hb bs) n I k + 4 ≤ j) (h2 : j < wV (hb bs) n I k) : fre (hb bs) n I d j := by
  refine ⟨fun i hi => ?_, fun i hi ht => ?_⟩
  · rcases Nat.lt_or_ge k i with c | c
    · have := W.up (i := k + 1) (k := i) c hi
      have := (W.ord hk).2.2.1
      left
      have e : wV (hb bs) n I k = vpl (hb bs) n (st (hb bs) n (wD (hb bs) n I k) (I k)) := rfl
      omega
    · have := W.up (i := i) (k := k) c (by omega)
      right
      omega
  · rcases Nat.lt_or_ge i k with c | c
    · have := (W.ord hi).2.2.2.1 ht
      have := W.up (i := i + 1) (k := k) c (by omega)
      have e : wV (hb bs) n I i = vpl (hb bs) n (st (hb bs) n (wD (hb bs) n I i) (I i)) := rfl
      right
      omega
    · left
      rcases Nat.eq_or_lt_of_le c with c | c
      · rw [← c]; exact h2
      · have := W.up (i := k + 1) (k := i) c (by omega)
        have o1 := W.ord hk
        have o2 := W.ord hi
        have e1 : wV (hb bs) n I k = vpl (hb bs) n (st (hb bs) n (wD (hb bs) n I k) (I k)) := rfl
        have e2 : wV (hb bs) n I i = vpl (hb bs) n (st (hb bs) n (wD (hb bs) n I i) (I i)) := rfl
        omega
theorem fre_b (W : WV (hb bs) n I d) {k j : Nat} (hk : k < d) (h15 : wT (hb bs) n I (k + 1) = 15) (h1 : wV (hb bs) n I k + 4 ≤ j) (h2 : j < wD (hb bs) n I (k + 1)) : fre (hb bs) n I d j := by
  have o := W.ord hk
  have e1 : wV (hb bs) n I k = vpl (hb bs) n (st (hb bs) n (wD (hb bs) n I k) (I k)) := rfl
  refine ⟨fun i hi => ?_, fun i hi ht => ?_⟩
  · rcases Nat.lt_or_ge k i with c | c
    · have := W.up (i := k + 1) (k := i) c hi
      left
      omega
    · have := W.up (i := i) (k := k) c (by omega)
      right
      omega
  · rcases Nat.lt_or_ge i k with c | c
    · have := (W.ord hi).2.2.2.1 ht
      have := W.up (i := i + 1) (k := k) c (by omega)
      have e : wV (hb bs) n I i = vpl (hb bs) n (st (hb bs) n (wD (hb bs) n I i) (I i)) := rfl
      right
      omega
    · rcases Nat.eq_or_lt_of_le c with c | c
      · right; rw [← c]; exact h1
      · left
        have := W.up (i := k + 1) (k := i) c (by omega)
        have o2 := W.ord hi
        have e2 : wV (hb bs) n I i = vpl (hb bs) n (st (hb bs) n (wD (hb bs) n I i) (I i)) := rfl
        omega
/-- the ends on the way are nested -/
theorem WV.rup (W : WV (hb bs) n I d) {i k : Nat} (h1 : i ≤ k) (h2 : k ≤ d) : wR (hb bs) n I k + (k - i) ≤ wR (hb bs) n I i := by
  obtain ⟨t, rfl⟩ : ∃ t, k = i + t := ⟨k - i, by omega⟩
  clear h1
  induction t with
  | zero => rw [Nat.add_zero]; omega
  | succ t ih =>
    have e := W.rk (k := i + t) (by omega)
    obtain ⟨m, hm, hD⟩ := W.r (k := i + t) (by omega)
    obtain ⟨m2, r2, hD2, hi2, -⟩ := W.2.2 (i + t) (by omega)
    have u := hD.uniq hD2 W.2.1
    have le := hD.le' (i := I (i + t) + 1) (by omega)
    have := ih (by omega)
    have := hD.1
    show wR (hb bs) n I (i + t + 1) + _ ≤ _
    omega
theorem ED.n'_le (E : ED bs n I d M nb n') (W : WV (hb bs) n I d) {k : Nat} (hk : k ≤ d) : n ≤ wR (hb bs) n I k + n' ∧ wR (hb bs) n I k ≤ n ∧ wD (hb bs) n I k + 5 ≤ wR (hb bs) n I k + n' - n := by
  have e1 := E.1
  have u := W.rup (i := k) (k := d) hk (Nat.le_refl _)
  have up := W.up (i := k) (k := d) hk (Nat.le_refl _)
  obtain ⟨m, hm, hD⟩ := W.r hk
  obtain ⟨m2, hm2, hD2⟩ := W.r (Nat.le_refl d)
  have h1 := hD2.1
  have h2 := hD.2.1
  exact ⟨by omega, h2, by omega⟩
theorem ED.i4D (E : ED bs n I d M nb n') {k : Nat} (hk : k ≤ d) : i4 (hb nb) (wD (hb bs) n I k) = nI (wR (hb bs) n I k + n' - n - wD (hb bs) n I k) := i4_by (fun i hi => by show nI (nb _) = _; rw [E.2.1 k hk i hi])
theorem ED.i4V (E : ED bs n I d M nb n') {k : Nat} (hk : k < d) (h15 : wT (hb bs) n I (k + 1) = 15) : i4 (hb nb) (wV (hb bs) n I k) = nI (wR (hb bs) n I (k + 1) + n' - n - wV (hb bs) n I k) := i4_by (fun i hi => by show nI (nb _) = _; rw [E.2.2.1 k hk h15 i hi])
/-- the innermost changed DOCUMENT -/
theorem ED.last (E : ED bs n I d M nb n') (W : WV (hb bs) n I d) (hn' : n' ≤ 2400) {m' : Nat} {P : Nat → List Nat} (hM : M = cat P m') (hP : ∀ i, i < m' → eOk (hl (P i)) (23 - d) 0 (P i).length (rwo (wT (hb bs) n I d == 4) i)) : DC (hb nb) n' (23 - d) (wD (hb bs) n I d) (wR (hb bs) n I d + n' - n) (wT (hb bs) n I d == 4) m' ∧ ∀ i, i ≤ m' → st (hb nb) n' (wD (hb bs) n I d) i = wD (hb bs) n I d + 4 + (cat P i).length := by
  have l := E.n'_le W (Nat.le_refl d)
  have e1 := E.1
  obtain ⟨m, hm, hD⟩ := W.r (Nat.le_refl d)
  have hl1 := hD.1
  refine DC.mk (fun i => wD (hb bs) n I d + 4 + (cat P i).length) l.2.2 (by omega) (E.i4D (Nat.le_refl d)) ?_ rfl ?_ (fun i hi => ?_)
  · have := E.2.2.2.2.2 (wR (hb bs) n I d - 1) (Nat.le_refl _) (by omega)
    show nI (nb _) = 0
    rw [show wR (hb bs) n I d + n' - n - 1 = wR (hb bs) n I d - 1 + n' - n by omega, this]
    exact hD.2.2.2.1
  · show _ + (cat P m').length = _
    rw [← hM]
    omega
  · have hle : (cat P (i + 1)).length ≤ M.length := by
      have := cat_len_mono (P := P) (i + 1) (m' - (i + 1))
      rw [show i + 1 + (m' - (i + 1)) = m' by omega, ← hM] at this
      exact this
    have hlen : (cat P (i + 1)).length = (cat P i).length + (P i).length := List.length_append
    refine (hP i hi).go (Nat.le_refl _) (fun k hk => ?_) (by show wD (hb bs) n I d + 4 + (cat P (i + 1)).length = _; omega)
    rw [Nat.zero_add]
    have g := E.2.2.2.2.1 ((cat P i).length + k) (by omega)
    show nI (nb (wD (hb bs) n I d + 4 + (cat P i).length + k)) = nI ((P i).getD k 0)
    rw [Nat.add_assoc, g, hM, cat_get hi (by omega)]
theorem dc_dOk {h : Nat → Int32} {n e D r m : Nat} {row : Bool} (z : DC h n e D r row m) (hn : n ≤ 2400) : dOk h (e + 1) D r row := z.dOk hn (by have := z.le' (Nat.le_refl m); have := z.2.1; have := z.1; omega)
/-- one level further out -/
theorem ED.out (E : ED bs n I d M nb n') (W : WV (hb bs) n I d) (hn' : n' ≤ 2400) {k : Nat} (hk : k < d) (hin : dOk (hb nb) (23 - k) (wD (hb bs) n I (k + 1)) (wR (hb bs) n I (k + 1) + n' - n) (wT (hb bs) n I (k + 1) == 4)) : ∃ m, m < 1200 ∧ I k < m ∧ DC (hb nb) n' (23 - k) (wD (hb bs) n I k) (wR (hb bs) n I k + n' - n) (wT (hb bs) n I k == 4) m ∧ (∀ i, i ≤ I k → st (hb nb) n' (wD (hb bs) n I k) i = st (hb bs) n (wD (hb bs) n I k) i) ∧ vpl (hb nb) n' (st (hb bs) n (wD (hb bs) n I k) (I k)) = wV (hb bs) n I k ∧ hb nb (st (hb bs) n (wD (hb bs) n I k) (I k)) = wT (hb bs) n I (k + 1) ∧ dcIn (hb nb) (wT (hb bs) n I (k + 1)) (wV (hb bs) n I k) = wD (hb bs) n I (k + 1) ∧ hasD (wT (hb bs) n I (k + 1)) := by
  have l := E.n'_le W (k := k) (by omega)
  have l1 := E.n'_le W (k := k + 1) (by omega)
  have e1 := E.1
  have o := W.ord hk
  have eV : wV (hb bs) n I k = vpl (hb bs) n (st (hb bs) n (wD (hb bs) n I k) (I k)) := rfl
  have erk := W.rk hk
  obtain ⟨m, hm, hD⟩ := W.r (k := k) (by omega)
  obtain ⟨m2, r2, hD2, hi2, ht⟩ := W.2.2 k hk
  obtain ⟨-, rfl⟩ := hD.uniq hD2 W.2.1
  have hn := W.2.1
  have up := W.up (i := k + 1) (k := d) hk (Nat.le_refl _)
  have rup := W.rup (i := k + 1) (k := d) hk (Nat.le_refl _)
  have hR1 := hD.1
  have hE := hD.2.2.2.2.2 (I k) hi2
  have leI := hD.le' (i := I k) (by omega)
  have leI1 := hD.le' (i := I k + 1) (by omega)
  obtain ⟨s1, s2, s3, s4, s5, s6⟩ := hE.s (n := n) (by omega)
  obtain ⟨mL, hmL, hDL⟩ := W.r (Nat.le_refl d)
  have hL1 := hDL.1
  -- bytes ahead are the same
  have lo : ∀ j, wD (hb bs) n I k + 4 ≤ j → j < wV (hb bs) n I k → hb nb j = hb bs j := fun j a1 a2 => by
    show nI (nb j) = nI (bs j)
    rw [E.2.2.2.1 j (by omega) (fre_a W hk a1 a2)]
  have hi : ∀ j, wR (hb bs) n I d - 1 ≤ j → j < n → hb nb (j + n' - n) = hb bs j := fun j a1 a2 => by
    show nI (nb _) = nI (bs j)
    rw [E.2.2.2.2.2 j a1 a2]
  have hq : hb nb (st (hb bs) n (wD (hb bs) n I k) (I k)) = wT (hb bs) n I (k + 1) := lo _ (by omega) (by omega)
  have hz : nmZ (hb nb) (st (hb bs) n (wD (hb bs) n I k) (I k) + 1) (wV (hb bs) n I k - 1) (rwo (wT (hb bs) n I k == 4) (I k)) := by
    refine s4.go (fun i hi' => ?_) (by omega)
    exact lo _ (by omega) (by omega)
  have hvp : vpl (hb nb) n' (st (hb bs) n (wD (hb bs) n I k) (I k)) = wV (hb bs) n I k := by
    unfold vpl
    rw [bn_of (z := wV (hb bs) n I k - 1) hz.2.1 hz.1 (by omega) hz.2.2.1]
    omega
  have hdc : dcIn (hb nb) (wT (hb bs) n I (k + 1)) (wV (hb bs) n I k) = wD (hb bs) n I (k + 1) ∧ vOk (hb nb) (23 - k) (wT (hb bs) n I (k + 1)) (wV (hb bs) n I k) (wR (hb bs) n I (k + 1) + n' - n) := by
    have eD : wD (hb bs) n I (k + 1) = dcIn (hb bs) (wT (hb bs) n I (k + 1)) (wV (hb bs) n I k) := rfl
    have ht' : hasD (wT (hb bs) n I (k + 1)) := ht
    have s5' : vOk (hb bs) (23 - k) (wT (hb bs) n I (k + 1)) (wV (hb bs) n I k) (st (hb bs) n (wD (hb bs) n I k) (I k + 1)) := s5
    rcases ht' with t3 | t4 | t15
    · have e0 : wD (hb bs) n I (k + 1) = wV (hb bs) n I k := by rw [eD, t3]; rfl
      rw [e0] at hin ⊢
      exact ⟨by rw [t3]; rfl, vOk.m34 (Or.inl t3) hin⟩
    · have e0 : wD (hb bs) n I (k + 1) = wV (hb bs) n I k := by rw [eD, t4]; rfl
      rw [e0] at hin ⊢
      exact ⟨by rw [t4]; rfl, vOk.m34 (Or.inr t4) hin⟩
    · have o15 := o.2.2.2.1 t15
      rw [t15] at s5'
      obtain ⟨Mx, m1, m2, m3, m4, m5, m6, m7, m8⟩ := s5'.s15
      have e0 : wD (hb bs) n I (k + 1) = wV (hb bs) n I k + 8 + Mx := by
        rw [eD, t15]
        unfold dcIn
        rw [if_pos rfl, m6, nI_toInt m2]
        rfl
      have mid : ∀ j, wV (hb bs) n I k + 4 ≤ j → j < wD (hb bs) n I (k + 1) → hb nb j = hb bs j := fun j a1 a2 => by
        show nI (nb j) = nI (bs j)
        rw [E.2.2.2.1 j (by omega) (fre_b W hk t15 a1 a2)]
      have i5 : i4 (hb nb) (wV (hb bs) n I k + 4) = nI Mx := by
        rw [← m6]
        exact i4_ag (fun i hi' => mid _ (by omega) (by omega))
      have tx : txOk (hb nb) (wV (hb bs) n I k + 4) (wV (hb bs) n I k + 8 + Mx) := m7.go (fun i hi' => mid _ (by omega) (by omega)) (by omega)
      refine ⟨?_, ?_⟩
      · rw [e0, t15]
        unfold dcIn
        rw [if_pos rfl, i5, nI_toInt m2]
        rfl
      · rw [t15] at hin ⊢
        rw [e0] at hin
        have := hin.le
        exact vOk.m15 (M := Mx) (by omega) (by omega) (E.i4V hk t15) tx hin
  have hEl : eOk (hb nb) (23 - k) (st (hb bs) n (wD (hb bs) n I k) (I k)) (wR (hb bs) n I (k + 1) + n' - n) (rwo (wT (hb bs) n I k == 4) (I k)) := by
    refine eOk.m (z := wV (hb bs) n I k - 1) (by rw [hq]; exact s1) hz ?_
    rw [hq, show wV (hb bs) n I k - 1 + 1 = wV (hb bs) n I k by omega]
    exact hdc.2
  have key := DC.mk (h := hb nb) (n := n') (e := 23 - k) (D := wD (hb bs) n I k) (r := wR (hb bs) n I k + n' - n) (m := m) (row := (wT (hb bs) n I k == 4)) (fun i => if i ≤ I k then st (hb bs) n (wD (hb bs) n I k) i else st (hb bs) n (wD (hb bs) n I k) i + n' - n) l.2.2 (by omega) (E.i4D (by omega)) (by
      have := hi (wR (hb bs) n I k - 1) (by have := W.rup (i := k) (k := k + 1) (by omega) (by omega); omega) (by omega)
      rw [show wR (hb bs) n I k + n' - n - 1 = wR (hb bs) n I k - 1 + n' - n by omega, this]
      exact hD.2.2.2.1) (by rw [if_pos (Nat.zero_le _)]; rfl) (by
      rw [if_neg (by omega), hD.2.2.2.2.1]
      omega) (fun i hi' => by
      have le1 := hD.le' (i := i) (by omega)
      have le2 := hD.le' (i := i + 1) (by omega)
      have hEi := hD.2.2.2.2.2 i hi'
      have hEl2 := hEi.le
      rcases Nat.lt_trichotomy i (I k) with c | c | c
      · rw [if_pos (by omega), if_pos (by omega)]
        have lm := hD.mono (i + 1) (I k - (i + 1)) (by omega)
        rw [show i + 1 + (I k - (i + 1)) = I k by omega] at lm
        exact hEi.go (Nat.le_refl _) (fun j hj => lo _ (by omega) (by omega)) (by omega)
      · subst c
        rw [if_pos (Nat.le_refl _), if_neg (by omega), ← erk]
        exact hEl
      · rw [if_neg (by omega), if_neg (by omega)]
        have lm := hD.mono (I k + 1) (i - (I k + 1)) (by omega)
        rw [show I k + 1 + (i - (I k + 1)) = i by omega] at lm
        refine hEi.go (Nat.le_refl _) (fun j hj => ?_) (by omega)
        have := hi (st (hb bs) n (wD (hb bs) n I k) i + j) (by omega) (by omega)
        rw [← this]
        congr 1
        omega)
  refine ⟨m, hm, hi2, key.1, fun i hi' => ?_, hvp, hq, hdc.1, ht⟩
  rw [key.2 i (by omega), if_pos hi']
end ED1
