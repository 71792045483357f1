/-! AN EDITED DOCUMENT: the way in it; the class's lengths make one. -/
section ED2
variable {bs : Nat → Nat} {n : Nat} {I : Nat → Nat} {d : Nat} {M : List Nat} {nb : Nat → Nat} {n' : Nat}
theorem WV.r0 (W : WV (hb bs) n I d) : wR (hb bs) n I 0 = n := by
  have l := W.1.len
  have h := W.1.le
  show 0 + (i4 (hb bs) 0).toInt.toNat = n
  have e : i4 (hb bs) 0 = nI (n - 0) := l.2.1
  rw [e, nI_toInt (by omega)]
  omega
theorem ED.lev (E : ED bs n I d M nb n') (W : WV (hb bs) n I d) (hn' : n' ≤ 2400) {m' : Nat} {P : Nat → List Nat} (hM : M = cat P m') (hP : ∀ i, i < m' → eOk (hl (P i)) (23 - d) 0 (P i).length (rwo (wT (hb bs) n I d == 4) i)) : ∀ (t : Nat), t ≤ d → dOk (hb nb) (24 - (d - t)) (wD (hb bs) n I (d - t)) (wR (hb bs) n I (d - t) + n' - n) (wT (hb bs) n I (d - t) == 4)
  | 0, _ => by
    have h23 := (W.dc d (Nat.le_refl _)).1
    have := dc_dOk (E.last W hn' hM hP).1 hn'
    rw [show 23 - d + 1 = 24 - (d - 0) by omega] at this
    exact this
  | t + 1, ht => by
    have h23 := (W.dc (d - (t + 1)) (by omega)).1
    have ih := ED.lev E W hn' hM hP t (by omega)
    have e1 : d - t = d - (t + 1) + 1 := by omega
    rw [e1, show 24 - (d - (t + 1) + 1) = 23 - (d - (t + 1)) by omega] at ih
    obtain ⟨m, -, -, hD, -⟩ := E.out W hn' (k := d - (t + 1)) (by omega) ih
    have := dc_dOk hD hn'
    rw [show 23 - (d - (t + 1)) + 1 = 24 - (d - (t + 1)) by omega] at this
    exact this
theorem ED.all (E : ED bs n I d M nb n') (W : WV (hb bs) n I d) (hn' : n' ≤ 2400) {m' : Nat} {P : Nat → List Nat} (hM : M = cat P m') (hP : ∀ i, i < m' → eOk (hl (P i)) (23 - d) 0 (P i).length (rwo (wT (hb bs) n I d == 4) i)) : (∀ k, k ≤ d → wy (hb nb) n' I k = wy (hb bs) n I k) ∧ WV (hb nb) n' I d ∧ DC (hb nb) n' (23 - d) (wD (hb bs) n I d) (wR (hb bs) n I d + n' - n) (wT (hb bs) n I d == 4) m' ∧ m' < 1200 := by
  have outs : ∀ k, k < d → ∃ m, m < 1200 ∧ I k < m ∧ DC (hb nb) n' (23 - k) (wD (hb bs) n I k) (wR (hb bs) n I k + n' - n) (wT (hb bs) n I k == 4) m ∧ (∀ i, i ≤ I k → st (hb nb) n' (wD (hb bs) n I k) i = st (hb bs) n (wD (hb bs) n I k) i) ∧ vpl (hb nb) n' (st (hb bs) n (wD (hb bs) n I k) (I k)) = wV (hb bs) n I k ∧ hb nb (st (hb bs) n (wD (hb bs) n I k) (I k)) = wT (hb bs) n I (k + 1) ∧ dcIn (hb nb) (wT (hb bs) n I (k + 1)) (wV (hb bs) n I k) = wD (hb bs) n I (k + 1) ∧ hasD (wT (hb bs) n I (k + 1)) := fun k hk => by
    have := E.lev W hn' hM hP (d - (k + 1)) (by omega)
    rw [show d - (d - (k + 1)) = k + 1 by omega, show 24 - (k + 1) = 23 - k by omega] at this
    exact E.out W hn' hk this
  have wys : ∀ k, k ≤ d → wy (hb nb) n' I k = wy (hb bs) n I k := by
    intro k
    induction k with
    | zero => intro _; rfl
    | succ k ih =>
      intro hk
      have e := ih (by omega)
      obtain ⟨m, -, hi, hD, hst, hvp, hq, hdc, ht⟩ := outs k (by omega)
      show (dcIn (hb nb) (hb nb (st (hb nb) n' (wy (hb nb) n' I k).1 (I k))) (vpl (hb nb) n' (st (hb nb) n' (wy (hb nb) n' I k).1 (I k))), hb nb (st (hb nb) n' (wy (hb nb) n' I k).1 (I k))) = wy (hb bs) n I (k + 1)
      rw [e]
      show (dcIn (hb nb) (hb nb (st (hb nb) n' (wD (hb bs) n I k) (I k))) (vpl (hb nb) n' (st (hb nb) n' (wD (hb bs) n I k) (I k))), hb nb (st (hb nb) n' (wD (hb bs) n I k) (I k))) = wy (hb bs) n I (k + 1)
      rw [hst (I k) (Nat.le_refl _), hq, hvp, hdc]
  have hL := E.last W hn' hM hP
  refine ⟨wys, ⟨?_, hn', fun k hk => ?_⟩, hL.1, ?_⟩
  · have := E.lev W hn' hM hP d (Nat.le_refl _)
    rw [Nat.sub_self, W.r0, show n + n' - n = n' by omega] at this
    exact this
  · obtain ⟨m, hm, hi, hD, hst, hvp, hq, hdc, ht⟩ := outs k hk
    refine ⟨m, wR (hb bs) n I k + n' - n, ?_, hi, ?_⟩
    · show DC (hb nb) n' (23 - k) (wy (hb nb) n' I k).1 _ ((wy (hb nb) n' I k).2 == 4) m
      rw [wys k (by omega)]
      exact hD
    · show hasD (hb nb (st (hb nb) n' (wy (hb nb) n' I k).1 (I k)))
      rw [wys k (by omega)]
      show hasD (hb nb (st (hb nb) n' (wD (hb bs) n I k) (I k)))
      rw [hst (I k) (Nat.le_refl _), hq]
      exact ht
  · have h1 := hL.1.le' (Nat.le_refl m')
    have h2 := hL.1.2.1
    have h3 := hL.1.1
    omega
/-! the lengths that the class makes greater -/
theorem nI_bal {a x y : Nat} (h : y ≤ a + x) (ha : a < 2 ^ 30) (hx : x < 2 ^ 30) (hy : y < 2 ^ 30) : nI a + (nI x - nI y) = nI (a + x - y) := by
  have e : nI a + (nI x - nI y) = nI a + nI x - nI y := by
    rw [Int32.sub_eq_add_neg, Int32.sub_eq_add_neg, Int32.add_assoc]
  rw [e, nI_p, nI_sub' h]
theorem lpa_lo {by' : Int32} {k j : Nat} {b : Nat → Nat} (W : WV (hb bs) n I d) (hk : k ≤ d) (hj : (j < wD (hb bs) n I k ∨ wD (hb bs) n I k + 4 ≤ j)) (hv : ∀ i, k = i + 1 → wT (hb bs) n I (i + 1) = 15 → j < wV (hb bs) n I i ∨ wV (hb bs) n I i + 4 ≤ j) : lpa (hb bs) n I by' k b j = b j := by
  match k, hk, hj, hv with
  | 0, hk, hj, hv => exact pI_out hj
  | k + 1, hk, hj, hv =>
    rw [lpa_s]
    by_cases c : wT (hb bs) n I (k + 1) = 15
    · rw [if_pos c, pI_out (hv k rfl c), pI_out hj]
    · rw [if_neg c, pI_out hj]
theorem lpv_fre {by' : Int32} {b : Nat → Nat} (W : WV (hb bs) n I d) {j : Nat} (hf : fre (hb bs) n I d j) : ∀ k, k ≤ d + 1 → lpv (hb bs) n I by' k b j = b j
  | 0, _ => rfl
  | k + 1, hk => by
    show lpa (hb bs) n I by' k (lpv (hb bs) n I by' k b) j = b j
    rw [lpa_lo W (by omega) (hf.1 k (by omega)) (fun i hi ht => hf.2 i (by omega) ht)]
    exact lpv_fre W hf k (by omega)
/-- lower places stay as later levels come -/
theorem lpv_stay {by' : Int32} {b : Nat → Nat} (W : WV (hb bs) n I d) {k j : Nat} (hj : k < d → j < wV (hb bs) n I k) : ∀ t, k + 1 + t ≤ d + 1 → lpv (hb bs) n I by' (k + 1 + t) b j = lpv (hb bs) n I by' (k + 1) b j
  | 0, _ => rfl
  | t + 1, ht => by
    show lpa (hb bs) n I by' (k + 1 + t) (lpv (hb bs) n I by' (k + 1 + t) b) j = _
    have hj := hj (by omega)
    have o := W.ord (k := k) (by omega)
    have eV : wV (hb bs) n I k = vpl (hb bs) n (st (hb bs) n (wD (hb bs) n I k) (I k)) := rfl
    have up := W.up (i := k + 1) (k := k + 1 + t) (by omega) (by omega)
    rw [lpa_lo W (by omega) (Or.inl (by omega)) (fun i hi h15 => Or.inl (by
      have e : i = k + t := by omega
      subst e
      match t, hi with
      | 0, _ => exact hj
      | t + 1, _ =>
        have o2 := W.ord (k := k + (t + 1)) (by omega)
        have up2 := W.up (i := k + 1) (k := k + (t + 1)) (by omega) (by omega)
        have eV2 : wV (hb bs) n I (k + (t + 1)) = vpl (hb bs) n (st (hb bs) n (wD (hb bs) n I (k + (t + 1))) (I (k + (t + 1)))) := rfl
        omega))]
    exact lpv_stay W (fun _ => hj) t (by omega)
theorem i4_eq {b c : Nat → Nat} {p : Nat} (h : ∀ i, i < 4 → b (p + i) = c (p + i)) : i4 (hb b) p = i4 (hb c) p := i4_ag (h := hb c) (h' := hb b) (fun i hi => by show nI (b (p + i)) = nI (c (p + i)); rw [h i hi])
theorem i4_fn {h : Nat → Int32} {b : Nat → Nat} {p : Nat} (hh : ∀ i, i < 4 → hb b (p + i) = h (p + i)) : i4 (hb b) p = i4 h p := i4_ag (h := h) (h' := hb b) hh
/-- the draft b (the bytes bs ahead, then M, then the rest), with the lengths made greater -/
theorem ED.of (W : WV (hb bs) n I d) {b : Nat → Nat} (hn2 : n' ≤ 2400) (hn' : n' + (wR (hb bs) n I d - 1) = wD (hb bs) n I d + 4 + M.length + n) (h1 : ∀ j, j < wD (hb bs) n I d + 4 → b j = bs j) (h2 : ∀ i, i < M.length → b (wD (hb bs) n I d + 4 + i) = M.getD i 0) (h3 : ∀ j, wR (hb bs) n I d - 1 ≤ j → j < n → b (j + n' - n) = bs j) : ED bs n I d M (lpv (hb bs) n I (nI n' - nI n) (d + 1) b) n' := by
  have hn := W.2.1
  obtain ⟨mL, hmL, hDL⟩ := W.r (Nat.le_refl d)
  have hL1 := hDL.1
  have hL2 := hDL.2.1
  have hiD : ∀ j, wD (hb bs) n I d + 4 ≤ j → lpv (hb bs) n I (nI n' - nI n) (d + 1) b j = b j := fun j hj => lpv_hi W (Nat.le_refl _) (Or.inr hj)
  -- the int at D_k, ahead of its patch
  have pre : ∀ k, k ≤ d → ∀ j, (k = 0 ∨ wD (hb bs) n I (k - 1) + 4 ≤ j) → j < wD (hb bs) n I d + 4 → lpv (hb bs) n I (nI n' - nI n) k b j = bs j := fun k hk j hj hj2 => by
    rw [lpv_hi W (by omega) hj, h1 j hj2]
  have iD : ∀ k, k ≤ d → i4 (hb (lpv (hb bs) n I (nI n' - nI n) k b)) (wD (hb bs) n I k) + (nI n' - nI n) = nI (wR (hb bs) n I k + n' - n - wD (hb bs) n I k) := fun k hk => by
    have up := W.up (i := k) (k := d) hk (Nat.le_refl _)
    obtain ⟨m, hm, hD⟩ := W.r hk
    have r1 := hD.1
    have r2 := hD.2.1
    have rup := W.rup (i := k) (k := d) hk (Nat.le_refl _)
    have e1 : i4 (hb (lpv (hb bs) n I (nI n' - nI n) k b)) (wD (hb bs) n I k) = i4 (hb bs) (wD (hb bs) n I k) := i4_eq (fun i hi => pre k hk _ (by
      match k, hk with
      | 0, _ => exact Or.inl rfl
      | k + 1, hk =>
        right
        have o := W.ord (k := k) (by omega)
        show wD (hb bs) n I k + 4 ≤ _
        omega) (by omega))
    rw [e1, hD.2.2.1, nI_bal (by omega) (by omega) (by omega) (by omega)]
    congr 1
    omega
  have last : ∀ k, k ≤ d → ∀ j, (k < d → j < wV (hb bs) n I k) → lpv (hb bs) n I (nI n' - nI n) (d + 1) b j = lpa (hb bs) n I (nI n' - nI n) k (lpv (hb bs) n I (nI n' - nI n) k b) j := fun k hk j hj => by
    have := lpv_stay (by' := nI n' - nI n) (b := b) W (k := k) (j := j) hj (d - k) (by omega)
    rw [show k + 1 + (d - k) = d + 1 by omega] at this
    exact this
  refine ⟨hn', fun k hk i hi => ?_, fun k hk h15 i hi => ?_, fun j hj hf => ?_, fun i hi => ?_, fun j a1 a2 => ?_⟩
  · rw [last k hk _ (fun hkd => by
      have o := W.ord hkd
      have eV : wV (hb bs) n I k = vpl (hb bs) n (st (hb bs) n (wD (hb bs) n I k) (I k)) := rfl
      omega), ← iD k hk]
    match k, hk with
    | 0, hk => exact pI_in hi
    | k + 1, hk =>
      rw [lpa_s]
      by_cases c : wT (hb bs) n I (k + 1) = 15
      · have o := (W.ord (k := k) (by omega)).2.2.2.1 c
        have eV : wV (hb bs) n I k = vpl (hb bs) n (st (hb bs) n (wD (hb bs) n I k) (I k)) := rfl
        rw [if_pos c, pI_out (by omega), pI_in hi]
      · rw [if_neg c, pI_in hi]
  · have o := W.ord hk
    have o15 := o.2.2.2.1 h15
    have eV : wV (hb bs) n I k = vpl (hb bs) n (st (hb bs) n (wD (hb bs) n I k) (I k)) := rfl
    rw [last (k + 1) (by omega) _ (fun hkd => by
      have o2 := W.ord hkd
      have eV2 : wV (hb bs) n I (k + 1) = vpl (hb bs) n (st (hb bs) n (wD (hb bs) n I (k + 1)) (I (k + 1))) := rfl
      omega), lpa_s, if_pos h15, pI_in hi]
    congr 1
    obtain ⟨m2, r2, hD2, hi2, ht2⟩ := W.2.2 k hk
    have hE := hD2.2.2.2.2.2 (I k) hi2
    have le := hD2.le' (i := I k + 1) (by omega)
    have hrn := hD2.2.1
    obtain ⟨s1, s2, s3, s4, s5, s6⟩ := hE.s (n := n) (by omega)
    have s5' : vOk (hb bs) (23 - k) (wT (hb bs) n I (k + 1)) (wV (hb bs) n I k) (st (hb bs) n (wD (hb bs) n I k) (I k + 1)) := s5
    rw [h15] at s5'
    obtain ⟨Mx, m1, m2', m3, m4, m5, m6, m7, m8⟩ := s5'.s15
    have erk := W.rk hk
    have up := W.up (i := k + 1) (k := d) hk (Nat.le_refl _)
    have rup := W.rup (i := k + 1) (k := d) hk (Nat.le_refl _)
    have e1 : i4 (hb (pI (lpv (hb bs) n I (nI n' - nI n) (k + 1) b) (wD (hb bs) n I (k + 1)) (i4 (hb (lpv (hb bs) n I (nI n' - nI n) (k + 1) b)) (wD (hb bs) n I (k + 1)) + (nI n' - nI n)))) (wV (hb bs) n I k) = i4 (hb bs) (wV (hb bs) n I k) := i4_eq (fun i hi => by
      rw [pI_out (by omega)]
      exact pre (k + 1) (by omega) _ (Or.inr (by show wD (hb bs) n I k + 4 ≤ _; omega)) (by omega))
    rw [e1, m5, ← erk, nI_bal (by omega) (by omega) (by omega) (by omega)]
    congr 1
    omega
  · rw [lpv_fre W hf (d + 1) (Nat.le_refl _), h1 j hj]
  · rw [hiD _ (by omega), h2 i hi]
  · rw [hiD _ (by omega), h3 j a1 a2]
/-- two edited DOCUMENTS of the same M are the same -/
theorem ED.uniq {nb2 : Nat → Nat} (W : WV (hb bs) n I d) (E : ED bs n I d M nb n') (E2 : ED bs n I d M nb2 n') : ∀ j, j < n' → nb j = nb2 j := by
  intro j hj
  obtain ⟨mL, hmL, hDL⟩ := W.r (Nat.le_refl d)
  have hL1 := hDL.1
  have hL2 := hDL.2.1
  have e1 := E.1
  rcases Nat.lt_or_ge j (wD (hb bs) n I d + 4) with c | c
  · by_cases f : fre (hb bs) n I d j
    · rw [E.2.2.2.1 j c f, E2.2.2.2.1 j c f]
    · unfold fre at f
      rcases Classical.em (∀ k, k ≤ d → j < wD (hb bs) n I k ∨ wD (hb bs) n I k + 4 ≤ j) with g | g
      · have g2 : ¬ ∀ k, k < d → wT (hb bs) n I (k + 1) = 15 → j < wV (hb bs) n I k ∨ wV (hb bs) n I k + 4 ≤ j := fun z => f ⟨g, z⟩
        rcases Classical.not_forall.mp g2 with ⟨k, g3⟩
        rcases Classical.not_forall.mp g3 with ⟨hk, g4⟩
        rcases Classical.not_forall.mp g4 with ⟨h15, g5⟩
        have := E.2.2.1 k hk h15 (j - wV (hb bs) n I k) (by omega)
        have t2 := E2.2.2.1 k hk h15 (j - wV (hb bs) n I k) (by omega)
        rw [show wV (hb bs) n I k + (j - wV (hb bs) n I k) = j by omega] at this t2
        rw [this, t2]
      · rcases Classical.not_forall.mp g with ⟨k, g3⟩
        rcases Classical.not_forall.mp g3 with ⟨hk, g5⟩
        have := E.2.1 k hk (j - wD (hb bs) n I k) (by omega)
        have t2 := E2.2.1 k hk (j - wD (hb bs) n I k) (by omega)
        rw [show wD (hb bs) n I k + (j - wD (hb bs) n I k) = j by omega] at this t2
        rw [this, t2]
  · rcases Nat.lt_or_ge j (wD (hb bs) n I d + 4 + M.length) with c2 | c2
    · have := E.2.2.2.2.1 (j - (wD (hb bs) n I d + 4)) (by omega)
      have t2 := E2.2.2.2.2.1 (j - (wD (hb bs) n I d + 4)) (by omega)
      rw [show wD (hb bs) n I d + 4 + (j - (wD (hb bs) n I d + 4)) = j by omega] at this t2
      rw [this, t2]
    · have := E.2.2.2.2.2 (j + n - n') (by omega) (by omega)
      have t2 := E2.2.2.2.2.2 (j + n - n') (by omega) (by omega)
      rw [show j + n - n' + n' - n = j by omega] at this t2
      rw [this, t2]
end ED2
