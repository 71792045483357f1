/-! THE REFERENCE'S TREE: its memory; a VALUE's size. -/
def tA (T : Nat) (A X : Nat → Nat → Int32) : Nat → Nat → Int32 := fun j => if T + 2 ≤ j ∧ j ≤ T + 12 then X (j - T) else A j
theorem tA_in {T k : Nat} {A X : Nat → Nat → Int32} (hk : 2 ≤ k ∧ k ≤ 12) : tA T A X (T + k) = X k := by
  unfold tA
  rw [if_pos (by omega), show T + k - T = k by omega]
theorem tA_out {T j : Nat} {A X : Nat → Nat → Int32} (hj : j < T + 2 ∨ T + 12 < j) : tA T A X j = A j := if_neg (by omega)
theorem tA_st {T k : Nat} {A X : Nat → Nat → Int32} {f : Nat → Int32} (hk : 2 ≤ k ∧ k ≤ 12) : updG (tA T A X) (T + k) f = tA T A (updG X k f) := by
  funext j
  by_cases c : j = T + k
  · subst c
    rw [updG_self, tA_in hk, updG_self]
  · rw [updG_ne c]
    unfold tA
    by_cases d : T + 2 ≤ j ∧ j ≤ T + 12
    · rw [if_pos d, if_pos d, updG_ne (by omega)]
    · rw [if_neg d, if_neg d]
theorem tA_o {T j : Nat} {A X : Nat → Nat → Int32} {f : Nat → Int32} (hj : j < T + 2 ∨ T + 12 < j) : updG (tA T A X) j f = tA T (updG A j f) X := by
  funext i
  by_cases c : i = j
  · subst c
    rw [updG_self, tA_out hj, updG_self]
  · rw [updG_ne c]
    unfold tA
    by_cases d : T + 2 ≤ i ∧ i ≤ T + 12
    · rw [if_pos d, if_pos d]
    · rw [if_neg d, if_neg d, updG_ne c]
abbrev MT (cy : Nat → ClassId) (iv : Nat → Option Nat) (ad : Nat → Nat) (μ0 : Mem) (I : Nat → Int32) (V : Nat → Value) (A : Nat → Nat → Int32) (T N : Nat) (X : Nat → Nat → Int32) : Mem := MR cy iv ad μ0 (upd I (T + 1) (nI N)) V (tA T A X)
/-- the tree at o reads the bytes bs of slot sd -/
def TX (iv : Nat → Option Nat) (ad : Nat → Nat) (V : Nat → Value) (A : Nat → Nat → Int32) (o T sd : Nat) (bs : Nat → Nat) (n : Nat) : Prop := Lay iv ad ∧ isT o T ∧ V T = .ref (ad sd) ∧ (∃ i, i < 4 ∧ sd = 50 + i) ∧ (∀ j, j < n → A sd j = sx (bs j)) ∧ bB bs ∧ n ≤ 2400
section TR1
variable {cy : Nat → ClassId} {iv : Nat → Option Nat} {ad : Nat → Nat} {μ0 : Mem} {I : Nat → Int32} {V : Nat → Value} {A : Nat → Nat → Int32} {o T sd n N : Nat} {bs : Nat → Nat} {X : Nat → Nat → Int32}
theorem TX.tt (F : TX iv ad V A o T sd bs n) : (T = 60 ∨ T = 80) ∧ 50 ≤ sd ∧ sd ≤ 53 := by
  obtain ⟨i, hi, rfl⟩ := F.2.2.2.1
  rcases F.2.1 with ⟨-, h⟩ | ⟨-, h⟩
  · exact ⟨Or.inl h, by omega, by omega⟩
  · exact ⟨Or.inr h, by omega, by omega⟩
theorem x_is (F : TX iv ad V A o T sd bs n) : isO (MT cy iv ad μ0 I V A T N X) (ad o) 6 = true := m_tis F.1 F.2.1
theorem x_n (F : TX iv ad V A o T sd bs n) : rdI (MT cy iv ad μ0 I V A T N X) (ad o) 6 1 = some (nI N) := by
  rw [m_tn F.1 F.2.1, upd_self']
theorem x_np (F : TX iv ad V A o T sd bs n) : wrF (MT cy iv ad μ0 I V A T N X) (ad o) 6 1 (.int (nI N + 1)) = some (MT cy iv ad μ0 I V A T (N + 1) X) := by
  rw [m_tput F.1 F.2.1, upd_upd, nI_a1]
theorem x_of (F : TX iv ad V A o T sd bs n) : rdR (MT cy iv ad μ0 I V A T N X) (ad o) 6 0 = some (ad sd) := rdR_mk (m_to F.1 F.2.1) (by show some (V T) = _; rw [F.2.2.1])
theorem x_ld (F : TX iv ad V A o T sd bs n) (k : Nat) (hk : 2 ≤ k ∧ k ≤ 12) {i : Nat} (hi : i < 1300) : rdA cy (MT cy iv ad μ0 I V A T N X) 1 (ad (T + k)) (nI i) = some (X k i) := by
  rw [m_tld F.1 F.2.1 k hk hi, tA_in hk]
theorem x_st (F : TX iv ad V A o T sd bs n) (k : Nat) (hk : 2 ≤ k ∧ k ≤ 12) {i : Nat} (hi : i < 1300) (x : Int32) : wrA cy (MT cy iv ad μ0 I V A T N X) 1 (ad (T + k)) (nI i) x = some (MT cy iv ad μ0 I V A T N (updG X k (upd (X k) i x))) := by
  rw [m_tst F.1 F.2.1 k hk hi, tA_st hk, tA_in hk]
theorem x_by (F : TX iv ad V A o T sd bs n) {j : Nat} (hj : j < n) : rdA cy (MT cy iv ad μ0 I V A T N X) 0 (ad sd) (nI j) = some (sx (bs j)) := by
  have hn := F.2.2.2.2.2.2
  have t := F.tt
  obtain ⟨i, hi, e⟩ := F.2.2.2.1
  obtain ⟨a1, a2, a3⟩ := arr_doc hi
  rw [← e] at a1 a2 a3
  have := m_ld (cy := cy) (μ0 := μ0) (I := upd I (T + 1) (nI N)) (V := V) (A := tA T A X) (i := j) F.1 sd a1 (by rw [a3]; omega)
  rw [a2, tA_out (by omega), F.2.2.2.2.1 j hj] at this
  exact this
theorem x_r2 (F : TX iv ad V A o T sd bs n) : rdR (MT cy iv ad μ0 I V A T N X) (ad o) 6 2 = some (ad (T + 2)) := m_tr F.1 F.2.1 rfl
theorem x_r3 (F : TX iv ad V A o T sd bs n) : rdR (MT cy iv ad μ0 I V A T N X) (ad o) 6 3 = some (ad (T + 3)) := m_tr F.1 F.2.1 rfl
theorem x_r4 (F : TX iv ad V A o T sd bs n) : rdR (MT cy iv ad μ0 I V A T N X) (ad o) 6 4 = some (ad (T + 4)) := m_tr F.1 F.2.1 rfl
theorem x_r5 (F : TX iv ad V A o T sd bs n) : rdR (MT cy iv ad μ0 I V A T N X) (ad o) 6 5 = some (ad (T + 5)) := m_tr F.1 F.2.1 rfl
theorem x_r6 (F : TX iv ad V A o T sd bs n) : rdR (MT cy iv ad μ0 I V A T N X) (ad o) 6 6 = some (ad (T + 6)) := m_tr F.1 F.2.1 rfl
theorem x_r7 (F : TX iv ad V A o T sd bs n) : rdR (MT cy iv ad μ0 I V A T N X) (ad o) 6 7 = some (ad (T + 7)) := m_tr F.1 F.2.1 rfl
theorem x_r8 (F : TX iv ad V A o T sd bs n) : rdR (MT cy iv ad μ0 I V A T N X) (ad o) 6 8 = some (ad (T + 8)) := m_tr F.1 F.2.1 rfl
theorem x_r9 (F : TX iv ad V A o T sd bs n) : rdR (MT cy iv ad μ0 I V A T N X) (ad o) 6 9 = some (ad (T + 9)) := m_tr F.1 F.2.1 rfl
theorem x_r10 (F : TX iv ad V A o T sd bs n) : rdR (MT cy iv ad μ0 I V A T N X) (ad o) 6 10 = some (ad (T + 10)) := m_tr F.1 F.2.1 rfl
theorem x_r11 (F : TX iv ad V A o T sd bs n) : rdR (MT cy iv ad μ0 I V A T N X) (ad o) 6 11 = some (ad (T + 11)) := m_tr F.1 F.2.1 rfl
theorem x_r12 (F : TX iv ad V A o T sd bs n) : rdR (MT cy iv ad μ0 I V A T N X) (ad o) 6 12 = some (ad (T + 12)) := m_tr F.1 F.2.1 rfl
theorem x_intAt (F : TX iv ad V A o T sd bs n) {j : Nat} (hj : j + 4 ≤ n) : f_X8_intAt cy (ad sd) (nI j) (MT cy iv ad μ0 I V A T N X) = some (i4 (hb bs) j, MT cy iv ad μ0 I V A T N X) := by
  have hB := F.2.2.2.2.2.1
  unfold f_X8_intAt
  rw [x_by F (by omega), Option.bind_some, nI_a1, x_by F (by omega), Option.bind_some, nI_a2, x_by F (by omega), Option.bind_some, nI_a3, x_by F (by omega), Option.bind_some, sx_255 _ (hB _), sx_255 _ (hB _), sx_255 _ (hB _), sx_24 _ (hB _)]
  rfl
theorem x_sz151 (F : TX iv ad V A o T sd bs n) {p z : Nat} (hz : hb bs z = 0) (hzn : z < n) (hpz : p ≤ z + 1) : ∀ (k f : Nat), k ≤ z → (∀ j, z - k ≤ j → j < z → hb bs j ≠ 0) → k < f → f_X7_size_L151 cy f (ad o) (nI p) (nI (z - k)) (MT cy iv ad μ0 I V A T N X) = some (nI (z + 1 - p), MT cy iv ad μ0 I V A T N X)
  | k, 0, _, _, hf => by omega
  | 0, f + 1, _, _, _ => by
    have e := sx_0 (bs z) (F.2.2.2.2.2.1 _)
    rw [f_X7_size_L151, x_of F, Option.bind_some, show z - 0 = z from rfl, x_by F hzn, Option.bind_some, if_pos (e.mpr hz), nI_a1, nI_sub' hpz]
  | k + 1, f + 1, hk, hne, hf => by
    have e := sx_0 (bs (z - (k + 1))) (F.2.2.2.2.2.1 _)
    have h0 := hne (z - (k + 1)) (Nat.le_refl _) (by omega)
    rw [f_X7_size_L151, x_of F, Option.bind_some, x_by F (by omega), Option.bind_some, if_neg (fun q => h0 (e.mp q)), nI_a1, show z - (k + 1) + 1 = z - k by omega]
    exact x_sz151 F hz hzn hpz k f (by omega) (fun j a1 a2 => hne j (by omega) a2) (by omega)
theorem x_sz133 (F : TX iv ad V A o T sd bs n) {p z z2 : Nat} (hz : hb bs z = 0) (hz2 : hb bs z2 = 0) (hzz : z < z2) (hzn : z2 < n) (hpz : p ≤ z2 + 1) (hn2 : ∀ j, z + 1 ≤ j → j < z2 → hb bs j ≠ 0) : ∀ (k f : Nat), k ≤ z → (∀ j, z - k ≤ j → j < z → hb bs j ≠ 0) → k < f → f_X7_size_L133 cy f (ad o) (nI p) (nI (z - k)) (MT cy iv ad μ0 I V A T N X) = some (nI (z2 + 1 - p), MT cy iv ad μ0 I V A T N X)
  | k, 0, _, _, hf => by omega
  | 0, f + 1, _, _, _ => by
    have hn := F.2.2.2.2.2.2
    have e := sx_0 (bs z) (F.2.2.2.2.2.1 _)
    rw [f_X7_size_L133, x_of F, Option.bind_some, show z - 0 = z from rfl, x_by F (by omega), Option.bind_some, if_pos (e.mpr hz), nI_a1]
    have := x_sz151 (cy := cy) (μ0 := μ0) (I := I) (N := N) (X := X) (p := p) F hz2 hzn hpz (z2 - (z + 1)) FU (by omega) (fun j a1 a2 => hn2 j (by omega) a2) (by show z2 - (z + 1) < 100000; omega)
    rw [show z2 - (z2 - (z + 1)) = z + 1 by omega] at this
    exact this
  | k + 1, f + 1, hk, hne, hf => by
    have e := sx_0 (bs (z - (k + 1))) (F.2.2.2.2.2.1 _)
    have h0 := hne (z - (k + 1)) (Nat.le_refl _) (by omega)
    rw [f_X7_size_L133, x_of F, Option.bind_some, x_by F (by omega), Option.bind_some, if_neg (fun q => h0 (e.mp q)), nI_a1, show z - (k + 1) + 1 = z - k by omega]
    exact x_sz133 F hz hz2 hzz hzn hpz hn2 k f (by omega) (fun j a1 a2 => hne j (by omega) a2) (by omega)
theorem nI_ca (m : Nat) (x : Int32) (hx : x = nI m) (a : Nat) : x + nI a = nI (m + a) := by rw [hx]; exact nI_add m a
theorem x_size (F : TX iv ad V A o T sd bs n) {e p r : Nat} {t : Int32} (z : vOk (hb bs) e t p r) (hr : r ≤ n) : f_X7_size cy (ad o) t (nI p) (MT cy iv ad μ0 I V A T N X) = some (nI (r - p), MT cy iv ad μ0 I V A T N X) := by
  have hn := F.2.2.2.2.2.2
  have be := z.be hr
  have le := z.le
  unfold f_X7_size
  unfold bv at be
  by_cases hx : t.toInt < 1 ∨ 19 < t.toInt
  · have ne : ∀ k : Nat, 1 ≤ k → k ≤ 19 → ¬ t = nI k := fun k h1 h2 e => by
      rw [e, nI_toInt (by omega)] at hx
      omega
    rw [if_neg (fun q => by rcases q with q | q | q; exact ne 2 (by decide) (by decide) q; exact ne 13 (by decide) (by decide) q; exact ne 14 (by decide) (by decide) q), if_neg (fun q => by rcases q with q | q | q; exact ne 3 (by decide) (by decide) q; exact ne 4 (by decide) (by decide) q; exact ne 15 (by decide) (by decide) q), if_neg (show ¬ t = 5 from ne 5 (by decide) (by decide)), if_neg (show ¬ t = 11 from ne 11 (by decide) (by decide)), if_neg (show ¬ t = 12 from ne 12 (by decide) (by decide)), wd_out hx] at be
    rw [if_pos hx, show r - p = 0 by omega]
    rfl
  · rw [if_neg hx]
    by_cases c0 : t = 1 ∨ t = 9 ∨ t = 17 ∨ t = 18
    · have w8 : wd t = 8 := if_pos c0
      rw [if_pos c0]
      have e1 : p + wd t = r := by
        rcases c0 with q | q | q | q <;> (subst q; exact be)
      rw [show r - p = 8 by omega]
      rfl
    · rw [if_neg c0]
      by_cases c1 : t = 2 ∨ t = 13 ∨ t = 14
      · obtain ⟨l4, N', hN, h4⟩ := z.ln (by rcases c1 with q | q | q <;> simp [q])
        rw [if_pos c1] at be ⊢
        rw [h4, nI_toInt hN] at be
        rw [x_of F, Option.bind_some, x_intAt F (by omega), ob2_some, h4, nI_ca 4 4 (by decide +kernel), show r - p = 4 + N' by omega]
      · rw [if_neg c1] at be ⊢
        by_cases c2 : t = 3 ∨ t = 4 ∨ t = 15
        · obtain ⟨l4, N', hN, h4⟩ := z.ln (by rcases c2 with q | q | q <;> simp [q])
          rw [if_pos c2] at be ⊢
          rw [h4, nI_toInt hN] at be
          rw [x_of F, Option.bind_some, x_intAt F (by omega), ob2_some, h4, show r - p = N' by omega]
        · rw [if_neg c2] at be ⊢
          by_cases c3 : t = 5
          · obtain ⟨l4, N', hN, h4⟩ := z.ln (by simp [c3])
            rw [if_pos c3] at be ⊢
            rw [h4, nI_toInt hN] at be
            rw [x_of F, Option.bind_some, x_intAt F (by omega), ob2_some, h4, nI_ca 5 5 (by decide +kernel), show r - p = 5 + N' by omega]
          · rw [if_neg c3] at be ⊢
            by_cases c4 : t = 6 ∨ t = 10
            · rw [if_pos c4]
              have e1 : p + 0 = r := by
                rcases c4 with q | q <;> (subst q; exact be)
              rw [show r - p = 0 by omega]
              rfl
            · rw [if_neg c4]
              by_cases c5 : t = 7
              · subst c5
                have e1 : p + 12 = r := be
                rw [if_pos rfl, show r - p = 12 by omega]
                rfl
              · rw [if_neg c5]
                by_cases c6 : t = 8
                · subst c6
                  have e1 : p + 1 = r := be
                  rw [if_pos rfl, show r - p = 1 by omega]
                  rfl
                · rw [if_neg c6]
                  by_cases c7 : t = 11
                  · subst c7
                    obtain ⟨q, q1, q2, q3, q4⟩ := z.n11
                    rw [if_pos rfl]
                    have := x_sz133 (cy := cy) (μ0 := μ0) (I := I) (N := N) (X := X) (p := p) (z := q - 1) (z2 := r - 1) F q3.2.1 q4.2.1 (by omega) (by omega) (by omega) (fun j a1 a2 => q4.2.2.1 j (by omega) a2) (q - 1 - p) FU (by omega) (fun j a1 a2 => q3.2.2.1 j (by omega) a2) (by show q - 1 - p < 100000; omega)
                    rw [show q - 1 - (q - 1 - p) = p by omega, show r - 1 + 1 - p = r - p by omega] at this
                    exact this
                  · rw [if_neg c7] at be ⊢
                    by_cases c8 : t = 12
                    · obtain ⟨l4, N', hN, h4⟩ := z.ln (by simp [c8])
                      rw [if_pos c8] at be ⊢
                      rw [h4, nI_toInt hN] at be
                      rw [x_of F, Option.bind_some, x_intAt F (by omega), ob2_some, h4, nI_ca 16 16 (by decide +kernel), show r - p = 16 + N' by omega]
                    · rw [if_neg c8] at be ⊢
                      by_cases c9 : t = 16
                      · subst c9
                        have e1 : p + 4 = r := be
                        rw [if_pos rfl, show r - p = 4 by omega]
                        rfl
                      · rw [if_neg c9]
                        by_cases c10 : t = 19
                        · subst c10
                          have e1 : p + 16 = r := be
                          rw [if_pos rfl, show r - p = 16 by omega]
                          rfl
                        · exfalso
                          obtain ⟨k, h1, h2, rfl⟩ := i32_of (x := t) (lo := 1) (hi := 19) (fun q => hx (Or.inl q)) (fun q => hx (Or.inr q)) (by decide)
                          match k, h1, h2 with
                          | 0, h1, _ => omega
                          | 1, _, _ => exact c0 (Or.inl rfl)
                          | 2, _, _ => exact c1 (Or.inl rfl)
                          | 3, _, _ => exact c2 (Or.inl rfl)
                          | 4, _, _ => exact c2 (Or.inr (Or.inl rfl))
                          | 5, _, _ => exact c3 rfl
                          | 6, _, _ => exact c4 (Or.inl rfl)
                          | 7, _, _ => exact c5 rfl
                          | 8, _, _ => exact c6 rfl
                          | 9, _, _ => exact c0 (Or.inr (Or.inl rfl))
                          | 10, _, _ => exact c4 (Or.inr rfl)
                          | 11, _, _ => exact c7 rfl
                          | 12, _, _ => exact c8 rfl
                          | 13, _, _ => exact c1 (Or.inr (Or.inl rfl))
                          | 14, _, _ => exact c1 (Or.inr (Or.inr rfl))
                          | 15, _, _ => exact c2 (Or.inr (Or.inr rfl))
                          | 16, _, _ => exact c9 rfl
                          | 17, _, _ => exact c0 (Or.inr (Or.inr (Or.inl rfl)))
                          | 18, _, _ => exact c0 (Or.inr (Or.inr (Or.inr rfl)))
                          | 19, _, _ => exact c10 rfl
                          | k + 20, _, h2 => omega
end TR1
