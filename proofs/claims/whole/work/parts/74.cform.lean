/-! THE CLASS'S FORM: where a VALUE ends, where its DOCUMENT begins. -/
section CF1
variable {cy : Nat → ClassId} {μ : Mem} {a c cap n e : Nat} {h : Nat → Int32} {o : Int32}
theorem vOk.ln {t : Int32} {p r : Nat} (z : vOk h e t p r) (ht : t = 2 ∨ t = 13 ∨ t = 14 ∨ t = 3 ∨ t = 4 ∨ t = 15 ∨ t = 5 ∨ t = 12) : p + 4 ≤ r ∧ ∃ N, N < 2 ^ 31 ∧ i4 h p = nI N := by
  obtain ⟨K', z'⟩ := z
  have tx : ∀ q K, jT h K0 p r = .inr (q, K) → q ≤ r → p + 4 ≤ r ∧ ∃ N, N < 2 ^ 31 ∧ i4 h p = nI N := fun q K y hq => by
    obtain ⟨N, h1, hN, h2, h3⟩ := (txOk.of ⟨_, y⟩).le
    exact ⟨by omega, N, hN, h2⟩
  have dc : ∀ row, jDoc h (-1) e K0 p r row = .inr (r, K') → p + 4 ≤ r ∧ ∃ N, N < 2 ^ 31 ∧ i4 h p = nI N := fun row y => by
    have d : dOk h e p r row := dOk.of ⟨_, y⟩
    have l := d.len
    have l2 := d.le
    exact ⟨by omega, r - p, l.1, l.2.1⟩
  rcases ht with rfl | rfl | rfl | rfl | rfl | rfl | rfl | rfl
  · exact tx r K' z' (Nat.le_refl _)
  · exact tx r K' z' (Nat.le_refl _)
  · exact tx r K' z' (Nat.le_refl _)
  · exact dc _ z'
  · exact dc _ z'
  · obtain ⟨M, h1, h2, h3, h4, h5, -⟩ := (vOk.of (h := h) (e := e) (t := 15) ⟨K', z'⟩).s15
    exact ⟨by omega, r - p, h3, h5⟩
  · obtain ⟨N, hN, h2, h3, h4, -⟩ := jBin_b (show jBin h K0 p r = .inr (r, K') from z')
    exact ⟨by omega, N, hN, h2⟩
  · obtain ⟨q1, K1, e5, e6⟩ := jThen_b (show jThen (jT h K0 p r) (fun q K => jB K q 12 r) = .inr (r, K') from z')
    have := jB_b e6
    exact tx q1 K1 e5 (by omega)
theorem vOk.n11 {p r : Nat} (z : vOk h e 11 p r) : ∃ q, p < q ∧ q < r ∧ nmZ h p (q - 1) none ∧ nmZ h q (r - 1) none := by
  obtain ⟨K', z⟩ := z
  obtain ⟨q1, K1, e5, e6⟩ := jThen_b (show jThen (jN h K0 p r) (fun q K => jN h K q r) = .inr (r, K') from z)
  have g1 := jNm_s (rw := none) e5
  have g2 := jNm_s (rw := none) e6
  exact ⟨q1, by omega, by omega, g1.1, g2.1⟩
theorem p_behindValue (S : SP cy μ a c cap n h o) {t : Int32} {p r : Nat} (z : vOk h e t p r) (hr : r ≤ n) : f_X1_behindValue cy a t (nI p) μ = some (nI r, μ) := by
  have b := S.2.2
  have be := z.be hr
  have le := z.le
  unfold f_X1_behindValue
  unfold bv at be
  by_cases hx : t.toInt < 2 ∨ 15 < t.toInt
  · have ne : ∀ k : Nat, 2 ≤ k → k ≤ 15 → ¬ t = nI k := fun k h1 h2 e => by
      rw [e, nI_toInt (by omega)] at hx
      omega
    rw [if_neg (fun q => by rcases q with q | q | q; exact ne 2 (by decide) (by decide) q; exact ne 13 (by decide) (by decide) q; exact ne 14 (by decide) (by decide) q), if_neg (fun q => by rcases q with q | q | q; exact ne 3 (by decide) (by decide) q; exact ne 4 (by decide) (by decide) q; exact ne 15 (by decide) (by decide) q), if_neg (show ¬ t = 5 from ne 5 (by decide) (by decide)), if_neg (show ¬ t = 11 from ne 11 (by decide) (by decide)), if_neg (show ¬ t = 12 from ne 12 (by decide) (by decide))] at be
    rw [if_pos hx, p_widthOf, ob2_some, nI_p, be]
  · rw [if_neg hx]
    by_cases c1 : t = 2 ∨ t = 13 ∨ t = 14
    · obtain ⟨l4, N, hN, h4⟩ := z.ln (by rcases c1 with q | q | q <;> simp [q])
      rw [if_pos c1] at be ⊢
      rw [h4, nI_toInt hN] at be
      rw [if_pos (s_is S), s_intAt S (by omega), ob2_some, h4, nI_a4, nI_p, show p + 4 + N = r by omega]
    · rw [if_neg c1] at be ⊢
      by_cases c2 : t = 3 ∨ t = 4 ∨ t = 15
      · obtain ⟨l4, N, hN, h4⟩ := z.ln (by rcases c2 with q | q | q <;> simp [q])
        rw [if_pos c2] at be ⊢
        rw [h4, nI_toInt hN] at be
        rw [if_pos (s_is S), s_intAt S (by omega), ob2_some, h4, nI_p, show p + N = r by omega]
      · rw [if_neg c2] at be ⊢
        by_cases c3 : t = 5
        · obtain ⟨l4, N, hN, h4⟩ := z.ln (by simp [c3])
          rw [if_pos c3] at be ⊢
          rw [h4, nI_toInt hN] at be
          rw [if_pos (s_is S), s_intAt S (by omega), ob2_some, h4, nI_a5, nI_p, show p + 5 + N = r by omega]
        · rw [if_neg c3] at be ⊢
          by_cases c4 : t = 6 ∨ t = 7 ∨ t = 8 ∨ t = 9 ∨ t = 10
          · rw [if_pos c4, p_widthOf, ob2_some, nI_p]
            rw [if_neg (fun q => by rw [q] at c4; revert c4; decide), if_neg (fun q => by rw [q] at c4; revert c4; decide)] at be
            rw [be]
          · rw [if_neg c4]
            by_cases c5 : t = 11
            · subst c5
              obtain ⟨q, q1, q2, q3, q4⟩ := z.n11
              rw [if_pos rfl, if_pos (s_is S), s_behindName S (by omega), ob2_some, if_pos (s_is S), bn_of (z := q - 1) q3.2.1 q3.1 (by omega) q3.2.2.1, show q - 1 + 1 = q by omega, s_behindName S (by omega), ob2_some, bn_of (z := r - 1) q4.2.1 q4.1 (by omega) q4.2.2.1, show r - 1 + 1 = r by omega]
            · rw [if_neg c5] at be ⊢
              by_cases c6 : t = 12
              · obtain ⟨l4, N, hN, h4⟩ := z.ln (by simp [c6])
                rw [if_pos c6] at be ⊢
                rw [h4, nI_toInt hN] at be
                rw [if_pos (s_is S), s_intAt S (by omega), ob2_some, h4, nI_c 16 16 (by decide +kernel), nI_p, show p + 16 + N = r by omega]
              · exfalso
                obtain ⟨k, h1, h2, rfl⟩ := i32_of (x := t) (lo := 2) (hi := 15) (fun q => hx (Or.inl q)) (fun q => hx (Or.inr q)) (by decide)
                match k, h1, h2 with
                | 0, h1, _ => omega
                | 1, h1, _ => omega
                | 2, _, _ => exact c1 (Or.inl rfl)
                | 3, _, _ => exact c2 (Or.inl rfl)
                | 4, _, _ => exact c2 (Or.inr (Or.inl rfl))
                | 5, _, _ => exact c3 rfl
                | 6, _, _ => exact c4 (Or.inl rfl)
                | 7, _, _ => exact c4 (Or.inr (Or.inl rfl))
                | 8, _, _ => exact c4 (Or.inr (Or.inr (Or.inl rfl)))
                | 9, _, _ => exact c4 (Or.inr (Or.inr (Or.inr (Or.inl rfl))))
                | 10, _, _ => exact c4 (Or.inr (Or.inr (Or.inr (Or.inr rfl))))
                | 11, _, _ => exact c5 rfl
                | 12, _, _ => exact c6 rfl
                | 13, _, _ => exact c1 (Or.inr (Or.inl rfl))
                | 14, _, _ => exact c1 (Or.inr (Or.inr rfl))
                | 15, _, _ => exact c2 (Or.inr (Or.inr rfl))
                | k + 16, _, h2 => omega
theorem p_documentIn (S : SP cy μ a c cap n h o) {t : Int32} {p r : Nat} (ht : hasD t) (z : vOk h e t p r) (hr : r ≤ n) : f_X1_documentIn cy a t (nI p) μ = some (nI (dcIn h t p), μ) := by
  unfold f_X1_documentIn dcIn
  by_cases c15 : t = 15
  · subst c15
    obtain ⟨M, h1, h2, h3, h4, h5, h6, h7, h8⟩ := z.s15
    rw [if_pos rfl, if_pos rfl, if_pos (s_is S), nI_a4, s_intAt S (by omega), ob2_some, h6, nI_c 8 8 (by decide +kernel), nI_p, nI_toInt h2]
    rfl
  · rw [if_neg c15, if_neg c15]
end CF1
