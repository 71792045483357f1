/-! THE REFERENCE WRITES: what comes out is the edited DOCUMENT. -/
theorem gd_at {a b : List Nat} {i j : Nat} (h : i = a.length + j) : (a ++ b).getD i 0 = b.getD j 0 := by
  subst h
  rw [gd_hi (by omega), show a.length + j - a.length = j by omega]
section WO4
variable {bs : Nat → Nat}
theorem VW_reg {V D1 : Nat} {t : Int32} {L' : List Nat} (hVD : V ≤ D1) (h15 : t = 15 → V + 4 ≤ D1) (hn15 : t ≠ 15 → D1 = V) : (VW bs t V D1 L').length = D1 - V + L'.length ∧ (∀ i, (VW bs t V D1 L').getD (D1 - V + i) 0 = L'.getD i 0) ∧ (t = 15 → ∀ i, i < 4 → (VW bs t V D1 L').getD i 0 = by4 (nI (D1 - V + L'.length)) i) ∧ (t = 15 → ∀ p, V + 4 ≤ p → p < D1 → (VW bs t V D1 L').getD (p - V) 0 = bs p) := by
  unfold VW
  by_cases c : t = 15
  · have := h15 c
    rw [if_pos c]
    refine ⟨?_, fun i => ?_, fun _ i hi => ?_, fun _ p h1 h2 => ?_⟩
    · rw [List.length_append, List.length_append, l4_len, sl_len]
      omega
    · rw [gd_at (j := D1 - (V + 4) + i) (by rw [l4_len]; omega), gd_at (j := i) (by rw [sl_len])]
    · rw [gd_lo (by rw [l4_len]; exact hi), l4_gd hi]
    · rw [gd_at (j := p - (V + 4)) (by rw [l4_len]; omega), gd_lo (by rw [sl_len]; omega), gd_sl (by omega)]
      congr 1
      omega
  · have := hn15 c
    rw [if_neg c]
    exact ⟨by omega, fun i => by rw [show D1 - V + i = i by omega], fun z => absurd z c, fun z => absurd z c⟩
theorem LW_reg {D V D1 R1 R : Nat} {t : Int32} {L' L : List Nat} (hL : L = DW (sl bs (D + 4) V ++ (VW bs t V D1 L' ++ sl bs R1 (R - 1)))) (hDV : D + 4 ≤ V) (hVD : V ≤ D1) (h15 : t = 15 → V + 4 ≤ D1) (hn15 : t ≠ 15 → D1 = V) (hR : R1 + 1 ≤ R) :
    L.length = (D1 - D) + L'.length + (R - R1) ∧ (∀ i, i < 4 → L.getD i 0 = by4 (nI L.length) i) ∧ (∀ p, D + 4 ≤ p → p < V → L.getD (p - D) 0 = bs p) ∧ (t = 15 → ∀ i, i < 4 → L.getD (V - D + i) 0 = by4 (nI (D1 - V + L'.length)) i) ∧ (t = 15 → ∀ p, V + 4 ≤ p → p < D1 → L.getD (p - D) 0 = bs p) ∧ (∀ i, i < L'.length → L.getD (D1 - D + i) 0 = L'.getD i 0) ∧ (∀ p, R1 ≤ p → p < R - 1 → L.getD (D1 - D + L'.length + (p - R1)) 0 = bs p) ∧ L.getD (D1 - D + L'.length + (R - 1 - R1)) 0 = 0 := by
  obtain ⟨v1, v2, v3, v4⟩ := VW_reg (bs := bs) (L' := L') hVD h15 hn15
  have eE : (sl bs (D + 4) V ++ (VW bs t V D1 L' ++ sl bs R1 (R - 1))).length = V - (D + 4) + (D1 - V + L'.length + (R - 1 - R1)) := by
    rw [List.length_append, List.length_append, sl_len, sl_len, v1]
  have eL : L.length = (D1 - D) + L'.length + (R - R1) := by
    rw [hL, DW_len, eE]
    omega
  -- reading behind the length
  have mid : ∀ i, i < V - (D + 4) + (D1 - V + L'.length + (R - 1 - R1)) → L.getD (4 + i) 0 = (sl bs (D + 4) V ++ (VW bs t V D1 L' ++ sl bs R1 (R - 1))).getD i 0 := fun i hi => by
    rw [hL]
    unfold DW
    rw [gd_at (j := i) (by rw [l4_len]), gd_lo (by rw [eE]; exact hi)]
  have mv : ∀ i, i < D1 - V + L'.length → L.getD (V - D + i) 0 = (VW bs t V D1 L').getD i 0 := fun i hi => by
    rw [show V - D + i = 4 + (V - (D + 4) + i) by omega, mid _ (by omega), gd_at (j := i) (by rw [sl_len]), gd_lo (by rw [v1]; exact hi)]
  refine ⟨eL, fun i hi => ?_, fun p h1 h2 => ?_, fun c i hi => ?_, fun c p h1 h2 => ?_, fun i hi => ?_, fun p h1 h2 => ?_, ?_⟩
  · rw [eL]
    rw [hL]
    unfold DW
    rw [gd_lo (by rw [l4_len]; exact hi), l4_gd hi, eE]
    congr 2
    omega
  · rw [show p - D = 4 + (p - (D + 4)) by omega, mid _ (by omega), gd_lo (by rw [sl_len]; omega), gd_sl (by omega)]
    congr 1
    omega
  · have := h15 c
    rw [mv _ (by omega), v3 c i hi]
  · rw [show p - D = V - D + (p - V) by omega, mv _ (by omega), v4 c p h1 h2]
  · rw [show D1 - D + i = V - D + (D1 - V + i) by omega, mv _ (by omega), v2 i]
  · rw [show D1 - D + L'.length + (p - R1) = 4 + (V - (D + 4) + (D1 - V + L'.length + (p - R1))) by omega, mid _ (by omega), gd_at (j := D1 - V + L'.length + (p - R1)) (by rw [sl_len]), gd_at (j := p - R1) (by rw [v1]), gd_sl (by omega)]
    congr 1
    omega
  · rw [hL]
    unfold DW
    rw [gd_at (j := V - (D + 4) + (D1 - V + L'.length + (R - 1 - R1))) (by rw [l4_len]; omega), gd_at (j := 0) (by rw [eE]; omega)]
    rfl
variable {n : Nat} {G : Nat → Nat} {d : Nat} {M : List Nat} {n' : Nat}
/-- the edited bytes from level k on -/
def EDk (bs : Nat → Nat) (n : Nat) (G : Nat → Nat) (d : Nat) (M : List Nat) (n' k : Nat) (g : Nat → Nat) : Prop :=
  (∀ j, k ≤ j → j ≤ d → ∀ i, i < 4 → g (wD (hb bs) n G j + i) = by4 (nI (wR (hb bs) n G j + n' - n - wD (hb bs) n G j)) i) ∧
  (∀ j, k ≤ j → j < d → wT (hb bs) n G (j + 1) = 15 → ∀ i, i < 4 → g (wV (hb bs) n G j + i) = by4 (nI (wR (hb bs) n G (j + 1) + n' - n - wV (hb bs) n G j)) i) ∧
  (∀ p, wD (hb bs) n G k ≤ p → p < wD (hb bs) n G d + 4 → fre (hb bs) n G d p → g p = bs p) ∧
  (∀ i, i < M.length → g (wD (hb bs) n G d + 4 + i) = M.getD i 0) ∧
  (∀ p, wR (hb bs) n G d - 1 ≤ p → p < wR (hb bs) n G k → g (p + n' - n) = bs p)
theorem LW_ED (hB : bB bs) (W : WV (hb bs) n G d) (hn' : n' + (wR (hb bs) n G d - 1) = wD (hb bs) n G d + 4 + M.length + n) : ∀ t, t ≤ d → (LW bs n G d M t).length = wR (hb bs) n G (d - t) + n' - n - wD (hb bs) n G (d - t) ∧ EDk bs n G d M n' (d - t) (fun p => (LW bs n G d M t).getD (p - wD (hb bs) n G (d - t)) 0)
  | 0, _ => by
    obtain ⟨mL, hmL, hDL⟩ := W.r (Nat.le_refl d)
    have hL1 := hDL.1
    have hL2 := hDL.2.1
    have z : bs (wR (hb bs) n G d - 1) = 0 := (nI_eq (b := 0) (by have := hB (wR (hb bs) n G d - 1); omega) (by decide)).mp hDL.2.2.2.1
    have e0 : LW bs n G d M 0 = DW M := rfl
    rw [e0, Nat.sub_zero]
    have el : (DW M).length = wR (hb bs) n G d + n' - n - wD (hb bs) n G d := by rw [DW_len]; omega
    refine ⟨el, fun j h1 h2 i hi => ?_, fun j h1 h2 => by omega, fun p h1 h2 hf => ?_, fun i hi => ?_, fun p h1 h2 => ?_⟩
    · have : j = d := by omega
      subst this
      show (DW M).getD (wD (hb bs) n G j + i - wD (hb bs) n G j) 0 = _
      rw [show wD (hb bs) n G j + i - wD (hb bs) n G j = i by omega]
      unfold DW
      rw [gd_lo (by rw [l4_len]; exact hi), l4_gd hi]
      congr 2
      omega
    · have := hf.1 d (Nat.le_refl _)
      omega
    · show (DW M).getD (wD (hb bs) n G d + 4 + i - wD (hb bs) n G d) 0 = _
      unfold DW
      rw [gd_at (j := i) (by rw [l4_len]; omega), gd_lo hi]
    · have : p = wR (hb bs) n G d - 1 := by omega
      subst this
      show (DW M).getD (wR (hb bs) n G d - 1 + n' - n - wD (hb bs) n G d) 0 = _
      unfold DW
      rw [gd_at (j := M.length) (by rw [l4_len]; omega), gd_at (a := M) (i := M.length) (j := 0) rfl, z]
      rfl
  | t + 1, ht => by
    obtain ⟨ihl, i1, i2, i3, i4', i5⟩ := LW_ED hB W hn' t (by omega)
    have e1 : d - t = d - (t + 1) + 1 := by omega
    have o := W.ord (k := d - (t + 1)) (by omega)
    have eV : wV (hb bs) n G (d - (t + 1)) = vpl (hb bs) n (st (hb bs) n (wD (hb bs) n G (d - (t + 1))) (G (d - (t + 1)))) := rfl
    rw [← e1, ← eV] at o
    have up := W.up (i := d - t) (k := d) (by omega) (Nat.le_refl _)
    have rup := W.rup (i := d - (t + 1)) (k := d - t) (by omega) (by omega)
    have rup2 := W.rup (i := d - t) (k := d) (by omega) (Nat.le_refl _)
    obtain ⟨mL, hmL, hDL⟩ := W.r (Nat.le_refl d)
    have hL1 := hDL.1
    have hL2 := hDL.2.1
    obtain ⟨mK, hmK, hDK⟩ := W.r (k := d - (t + 1)) (by omega)
    have hK1 := hDK.1
    have hK2 := hDK.2.1
    have z : bs (wR (hb bs) n G (d - (t + 1)) - 1) = 0 := (nI_eq (b := 0) (by have := hB (wR (hb bs) n G (d - (t + 1)) - 1); omega) (by decide)).mp hDK.2.2.2.1
    have ne15 : wT (hb bs) n G (d - t) ≠ 15 → wD (hb bs) n G (d - t) = wV (hb bs) n G (d - (t + 1)) := fun h => by
      rw [e1] at h ⊢
      show dcIn (hb bs) (wT (hb bs) n G (d - (t + 1) + 1)) (wV (hb bs) n G (d - (t + 1))) = _
      unfold dcIn
      rw [if_neg h]
    obtain ⟨r1, r2, r3, r4, r5, r6, r7, r8⟩ := LW_reg (bs := bs) (L := LW bs n G d M (t + 1)) (D := wD (hb bs) n G (d - (t + 1))) (V := wV (hb bs) n G (d - (t + 1))) (D1 := wD (hb bs) n G (d - t)) (R1 := wR (hb bs) n G (d - t)) (R := wR (hb bs) n G (d - (t + 1))) (t := wT (hb bs) n G (d - t)) (L' := LW bs n G d M t) rfl (by omega) o.2.2.1 (fun h => by have := o.2.2.2.1 h; omega) ne15 (by omega)
    have len : (LW bs n G d M (t + 1)).length = wR (hb bs) n G (d - (t + 1)) + n' - n - wD (hb bs) n G (d - (t + 1)) := by rw [r1, ihl]; omega
    -- inside
    have ins : ∀ p, wD (hb bs) n G (d - t) ≤ p → p < wR (hb bs) n G (d - t) + n' - n → (LW bs n G d M (t + 1)).getD (p - wD (hb bs) n G (d - (t + 1))) 0 = (LW bs n G d M t).getD (p - wD (hb bs) n G (d - t)) 0 := fun p h1 h2 => by
      rw [← r6 (p - wD (hb bs) n G (d - t)) (by omega)]
      congr 1
      omega
    refine ⟨len, fun j h1 h2 i hi => ?_, fun j h1 h2 h15 i hi => ?_, fun p h1 h2 hf => ?_, fun i hi => ?_, fun p h1 h2 => ?_⟩
    · rcases Nat.eq_or_lt_of_le h1 with q | q
      · rw [← q]
        show (LW bs n G d M (t + 1)).getD (wD (hb bs) n G (d - (t + 1)) + i - wD (hb bs) n G (d - (t + 1))) 0 = _
        rw [show wD (hb bs) n G (d - (t + 1)) + i - wD (hb bs) n G (d - (t + 1)) = i by omega, r2 i hi, len]
      · have u1 := W.up (i := d - t) (k := j) (by omega) h2
        have u2 := W.up (i := j) (k := d) h2 (Nat.le_refl _)
        rw [← i1 j (by omega) h2 i hi]
        exact ins _ (by omega) (by omega)
    · rcases Nat.eq_or_lt_of_le h1 with q | q
      · have h15' : wT (hb bs) n G (d - t) = 15 := by rw [e1, q]; exact h15
        rw [← q]
        show (LW bs n G d M (t + 1)).getD (wV (hb bs) n G (d - (t + 1)) + i - wD (hb bs) n G (d - (t + 1))) 0 = _
        have o4 := o.2.2.2.1 h15'
        rw [show wV (hb bs) n G (d - (t + 1)) + i - wD (hb bs) n G (d - (t + 1)) = wV (hb bs) n G (d - (t + 1)) - wD (hb bs) n G (d - (t + 1)) + i by omega, r4 h15' i hi, ihl, ← e1]
        congr 2
        omega
      · have oj := W.ord (k := j) h2
        have eVj : wV (hb bs) n G j = vpl (hb bs) n (st (hb bs) n (wD (hb bs) n G j) (G j)) := rfl
        rw [← eVj] at oj
        have ojj := oj.2.2.2.1 h15
        have u1 := W.up (i := d - t) (k := j) (by omega) (by omega)
        have u2 := W.up (i := j + 1) (k := d) h2 (Nat.le_refl _)
        rw [← i2 j (by omega) h2 h15 i hi]
        exact ins _ (by omega) (by omega)
    · rcases Nat.lt_or_ge p (wD (hb bs) n G (d - t)) with q | q
      · have f1 := hf.1 (d - (t + 1)) (by omega)
        rcases Nat.lt_or_ge p (wV (hb bs) n G (d - (t + 1))) with q2 | q2
        · exact r3 p (by omega) q2
        · by_cases h15 : wT (hb bs) n G (d - t) = 15
          · have f2 := hf.2 (d - (t + 1)) (by omega) (by rw [← e1]; exact h15)
            exact r5 h15 p (by omega) q
          · have := ne15 h15
            omega
      · rw [← i3 p q h2 hf]
        exact ins p q (by omega)
    · rw [← i4' i hi]
      exact ins _ (by omega) (by omega)
    · rcases Nat.lt_or_ge p (wR (hb bs) n G (d - t)) with q | q
      · rw [← i5 p h1 q]
        exact ins _ (by omega) (by omega)
      · show (LW bs n G d M (t + 1)).getD (p + n' - n - wD (hb bs) n G (d - (t + 1))) 0 = _
        rcases Nat.lt_or_ge p (wR (hb bs) n G (d - (t + 1)) - 1) with q2 | q2
        · rw [← r7 p q q2, ihl]
          congr 1
          omega
        · have : p = wR (hb bs) n G (d - (t + 1)) - 1 := by omega
          subst this
          rw [z]
          refine Eq.trans ?_ r8
          rw [ihl]
          congr 1
          omega
theorem LW_all (hB : bB bs) (W : WV (hb bs) n G d) (hn' : n' + (wR (hb bs) n G d - 1) = wD (hb bs) n G d + 4 + M.length + n) : (LW bs n G d M d).length = n' ∧ ED bs n G d M (fun p => (LW bs n G d M d).getD p 0) n' := by
  have h := LW_ED (M := M) hB W hn' d (Nat.le_refl _)
  rw [Nat.sub_self] at h
  have e0 : wD (hb bs) n G 0 = 0 := rfl
  have r0 := W.r0
  obtain ⟨h1, i1, i2, i3, i4', i5⟩ := h
  rw [r0, e0] at h1
  refine ⟨by omega, hn', fun k hk i hi => i1 k (Nat.zero_le _) hk i hi, fun k hk h15 i hi => i2 k (Nat.zero_le _) hk h15 i hi, fun j hj hf => i3 j (Nat.zero_le _) hj hf, i4', fun j a1 a2 => i5 j a1 (by rw [r0]; exact a2)⟩
end WO4
