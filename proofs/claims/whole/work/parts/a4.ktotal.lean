/-! THE CALLS: total, kinds. -/
theorem ty_215 {t : Int32} (h : ¬ (t.toInt < 2 ∨ 15 < t.toInt)) : ∃ j, 2 ≤ j ∧ j ≤ 15 ∧ t = nI j := i32_of (x := t) (lo := 2) (hi := 15) (fun q => h (Or.inl q)) (fun q => h (Or.inr q)) (by decide)
section KT1
variable {cy : Nat → ClassId} {iw : Nat → Option Nat} {aw : Nat → Nat} {μ1 : Mem} {I : Nat → Int32} {V : Nat → Value} {A : Nat → Nat → Int32} {sd n N : Nat} {bs : Nat → Nat} {X : Nat → Nat → Int32}
abbrev MI (cy : Nat → ClassId) (iw : Nat → Option Nat) (aw : Nat → Nat) (μ1 : Mem) (I : Nat → Int32) (V : Nat → Value) (A : Nat → Nat → Int32) (N : Nat) (X : Nat → Nat → Int32) (a b : Int32) : Mem := MT cy iw aw μ1 (upd (upd I 24 a) 25 b) V A 60 N X
theorem x_tells (F : TX iw aw V A 21 60 sd bs n) {p : Nat} (hp : p + 4 ≤ n) (a b : Int32) : f_X8_tells cy (aw 0) (nI p) (MI cy iw aw μ1 I V A N X a b) = some (MI cy iw aw μ1 I V A N X (a + 1) (b + i4 (hb bs) p)) := by
  unfold f_X8_tells
  have r24 : rdI (MI cy iw aw μ1 I V A N X a b) (aw 0) 7 24 = some a := x_i F 24 rfl
  have r25 : rdI (MI cy iw aw μ1 I V A N X (a + 1) b) (aw 0) 7 25 = some b := x_i F 25 rfl
  have e1 : MT cy iw aw μ1 (upd (upd (upd I 24 a) 25 b) 24 (a + 1)) V A 60 N X = MI cy iw aw μ1 I V A N X (a + 1) b := by
    unfold MI
    rw [upd_cm (show 25 ≠ 24 by decide), upd_upd]
  rw [r24, Option.bind_some, x_put F 24 rfl (by decide), Option.bind_some, e1, r25, Option.bind_some, x_ref F (k := 21) rfl, Option.bind_some, x_of F, Option.bind_some, x_intAt F hp, ob2_some, x_put F 25 rfl (by decide), Option.bind_some, upd_upd]
theorem vOk_i4 {h : Nat → Int32} {e : Nat} {t : Int32} {v r : Nat} (z : vOk h e t v r) : ((t = 2 ∨ t = 12 ∨ t = 13 ∨ t = 14) → v + 4 ≤ r) ∧ ((t = 3 ∨ t = 4) → v + 4 ≤ r) ∧ (t = 5 → v + 5 ≤ r ∧ (h (v + 4) = 2 → v + 9 ≤ r)) ∧ (t = 15 → v + 8 ≤ r ∧ dcIn h 15 v + 4 ≤ r ∧ v ≤ dcIn h 15 v) := by
  refine ⟨fun ht => ?_, fun ht => ?_, fun ht => ?_, fun ht => ?_⟩
  · obtain ⟨K', z⟩ := z
    unfold jVal at z
    rcases ht with rfl | rfl | rfl | rfl
    · have z : jT h K0 v r = .inr (r, K') := z
      obtain ⟨M, g1, g2, g3, g4⟩ := (txOk.of ⟨_, z⟩).le
      omega
    · have z : jThen (jT h K0 v r) (fun q K => jB K q 12 r) = .inr (r, K') := z
      obtain ⟨q1, K1, e5, e6⟩ := jThen_b z
      obtain ⟨M, g1, g2, g3, g4⟩ := (txOk.of ⟨_, e5⟩).le
      have := jB_b e6
      omega
    · have z : jT h K0 v r = .inr (r, K') := z
      obtain ⟨M, g1, g2, g3, g4⟩ := (txOk.of ⟨_, z⟩).le
      omega
    · have z : jT h K0 v r = .inr (r, K') := z
      obtain ⟨M, g1, g2, g3, g4⟩ := (txOk.of ⟨_, z⟩).le
      omega
  · have := (z.s34 ht).le
    omega
  · subst ht
    obtain ⟨K', z⟩ := z
    have z : jBin h K0 v r = .inr (r, K') := z
    obtain ⟨M, hM, h2, h3, h4, hh⟩ := jBin_b z
    refine ⟨by omega, fun q => ?_⟩
    rcases hh with ⟨a1, a2, -⟩ | ⟨a1, -⟩
    · omega
    · exact absurd q a1
  · subst ht
    have d := z.doc (Or.inr (Or.inr rfl))
    have := d.1.le
    obtain ⟨M, h1, h2, h3, h4, -⟩ := z.s15
    omega
theorem x_ints (F : TX iw aw V A 21 60 sd bs n) {k q par dp e r : Nat} {rw' : Option Nat} (hk : k < 1300) (E : NEl X (hb bs) n k q par dp) (eo : eOk (hb bs) e q r rw') (hr : r ≤ n) (dep : Int32) (K : Kt) : f_X8_ints cy (aw 0) (nI k) (MI cy iw aw μ1 I V A N X K.2.2.2.1 K.2.2.2.2.1) = some (MI cy iw aw μ1 I V A N X (nv (hb bs) dep (hb bs q) (vpl (hb bs) n q) K).2.2.2.1 (nv (hb bs) dep (hb bs q) (vpl (hb bs) n q) K).2.2.2.2.1) := by
  have s := eo.s hr
  obtain ⟨b1, b2, b3, b4⟩ := vOk_i4 s.2.2.2.2.1
  have hn := F.2.2.2.2.2.2
  unfold f_X8_ints
  rw [x_ref F (k := 21) rfl, Option.bind_some, x_r8 F, Option.bind_some, x_ld F 8 (by decide) hk, Option.bind_some, Option.bind_some, x_r2 F, Option.bind_some, x_ld F 2 (by decide) hk, Option.bind_some, E.2.1, E.2.2.2.1]
  generalize ht : hb bs q = t at *
  generalize hv : vpl (hb bs) n q = v at *
  unfold nv
  by_cases c0 : t.toInt < 2 ∨ 15 < t.toInt
  · have no : ∀ j, 2 ≤ j → j ≤ 15 → ¬ t = nI j := fun j j1 j2 e => by
      rw [e, nI_toInt (by omega)] at c0
      omega
    rw [if_pos c0, if_neg (fun y => by rcases y with y | y | y | y; exact no 2 (by decide) (by decide) y; exact no 12 (by decide) (by decide) y; exact no 13 (by decide) (by decide) y; exact no 14 (by decide) (by decide) y), if_neg (fun y => y.elim (no 3 (by decide) (by decide)) (no 4 (by decide) (by decide))), if_neg (show ¬ t = 5 from no 5 (by decide) (by decide)), if_neg (show ¬ t = 15 from no 15 (by decide) (by decide))]
  · rw [if_neg c0]
    by_cases c1 : t = 2 ∨ t = 12 ∨ t = 13 ∨ t = 14
    · have := b1 c1
      rw [if_pos c1, if_pos c1, if_pos (x_o F), x_tells F (by omega), Option.bind_some]
      rfl
    · rw [if_neg c1, if_neg c1]
      by_cases c2 : t = 3 ∨ t = 4
      · have := b2 c2
        rw [if_pos c2, if_pos c2, if_pos (x_o F), x_tells F (by omega), Option.bind_some]
        rfl
      · rw [if_neg c2, if_neg c2]
        by_cases c3 : t = 5
        · have b5 := b3 c3
          have e2 := sx_2 (bs (v + 4)) (F.2.2.2.2.2.1 _)
          rw [if_pos c3, if_pos c3, if_pos (x_o F), x_tells F (by omega), Option.bind_some, x_ref F (k := 21) rfl, Option.bind_some, x_of F, Option.bind_some, nI_a4, x_by F (by omega), Option.bind_some]
          by_cases c5 : hb bs (v + 4) = 2
          · have := b5.2 c5
            rw [if_pos (e2.mpr c5), if_pos c5, if_pos (x_o F), nI_a5, x_tells F (by omega), Option.bind_some]
            rfl
          · rw [if_neg (fun y => c5 (e2.mp y)), if_neg c5]
            rfl
        · rw [if_neg c3, if_neg c3]
          by_cases c4 : t = 6 ∨ t = 7 ∨ t = 8 ∨ t = 9 ∨ t = 10 ∨ t = 11
          · rw [if_pos c4, if_neg (fun y => by rw [y] at c4; exact absurd c4 (by decide))]
          · have c15 : t = 15 := by
              obtain ⟨j, j1, j2, rfl⟩ := ty_215 c0
              have ne : ∀ i, nI j ≠ nI i → j ≠ i := fun i y z => y (by rw [z])
              have n2 := ne 2 (fun y => c1 (Or.inl y))
              have n12 := ne 12 (fun y => c1 (Or.inr (Or.inl y)))
              have n13 := ne 13 (fun y => c1 (Or.inr (Or.inr (Or.inl y))))
              have n14 := ne 14 (fun y => c1 (Or.inr (Or.inr (Or.inr y))))
              have n3 := ne 3 (fun y => c2 (Or.inl y))
              have n4 := ne 4 (fun y => c2 (Or.inr y))
              have n5 := ne 5 c3
              have n6 := ne 6 (fun y => c4 (Or.inl y))
              have n7 := ne 7 (fun y => c4 (Or.inr (Or.inl y)))
              have n8 := ne 8 (fun y => c4 (Or.inr (Or.inr (Or.inl y))))
              have n9 := ne 9 (fun y => c4 (Or.inr (Or.inr (Or.inr (Or.inl y)))))
              have n10 := ne 10 (fun y => c4 (Or.inr (Or.inr (Or.inr (Or.inr (Or.inl y))))))
              have n11 := ne 11 (fun y => c4 (Or.inr (Or.inr (Or.inr (Or.inr (Or.inr y))))))
              have : j = 15 := by omega
              subst this
              rfl
            have b15 := b4 c15
            have da : X 10 k = nI (dcIn (hb bs) 15 v) := by
              rw [E.2.2.2.2.2.1]
              unfold dAt
              rw [ht, hv, if_pos (Or.inr (Or.inr c15)), c15]
            rw [if_neg c4, if_pos c15, if_pos c15, if_pos (x_o F), x_tells F (by omega), Option.bind_some, if_pos (x_o F), nI_a4, x_tells F (by omega), Option.bind_some, x_ref F (k := 21) rfl, Option.bind_some, x_r10 F, Option.bind_some, x_ld F 10 (by decide) hk, Option.bind_some, da, if_pos (x_o F), x_tells F (by omega), Option.bind_some]
            rfl
def totS (w : Int32) (N : Nat) (K : Kt) : Int32 := if w.toInt < 0 ∨ 5 < w.toInt then -1 else if w = 0 then nI N - 1 else if w = 1 then K.2.1 else if w = 2 then K.2.2.1 else if w = 3 then K.2.2.2.1 else if w = 4 then K.2.2.2.2.1 else K.2.2.2.2.2.1
theorem x_tot (F : TX iw aw V A 21 60 sd bs n) (hN : N < 1300) {wt : Int32} (hE : ∀ k, 1 ≤ k → k < N → ∃ q par dp e r rw', NEl X (hb bs) n k q par dp ∧ eOk (hb bs) e q r rw' ∧ r ≤ n) (w : Int32) : ∀ (j k f : Nat) (K : Kt), k + j = N → 1 ≤ k → j < f → f_X8_total_L49 cy f (aw 0) w K.2.1 K.2.2.1 K.2.2.2.2.2.1 (nI k) (MI cy iw aw μ1 I V A N X K.2.2.2.1 K.2.2.2.2.1) = some (totS w N (fw (stp X (hb bs) n wt) k j K), MI cy iw aw μ1 I V A N X (fw (stp X (hb bs) n wt) k j K).2.2.2.1 (fw (stp X (hb bs) n wt) k j K).2.2.2.2.1)
  | j, k, 0, K, _, _, hf => by omega
  | 0, k, f + 1, K, hk, _, hf => by
    have : k = N := by omega
    subst this
    have r24 : rdI (MI cy iw aw μ1 I V A k X K.2.2.2.1 K.2.2.2.2.1) (aw 0) 7 24 = some K.2.2.2.1 := x_i F 24 rfl
    have r25 : rdI (MI cy iw aw μ1 I V A k X K.2.2.2.1 K.2.2.2.2.1) (aw 0) 7 25 = some K.2.2.2.2.1 := x_i F 25 rfl
    rw [f_X8_total_L49, x_ref F (k := 21) rfl, Option.bind_some, x_n F, Option.bind_some, if_pos (nI_le (Nat.le_refl _) (by omega)), Option.bind_some, x_n F, Option.bind_some, r24, Option.bind_some, r25, Option.bind_some]
    show _ = some (totS w k K, MI cy iw aw μ1 I V A k X K.2.2.2.1 K.2.2.2.2.1)
    unfold totS
    by_cases c0 : w.toInt < 0 ∨ 5 < w.toInt
    · rw [if_pos c0, if_pos c0]
    · rw [if_neg c0, if_neg c0]
      by_cases c1 : w = 0
      · rw [if_pos c1, if_pos c1]
      · rw [if_neg c1, if_neg c1]
        by_cases c2 : w = 1
        · rw [if_pos c2, if_pos c2]
        · rw [if_neg c2, if_neg c2]
          by_cases c3 : w = 2
          · rw [if_pos c3, if_pos c3]
          · rw [if_neg c3, if_neg c3]
            by_cases c4 : w = 3
            · rw [if_pos c4, if_pos c4]
            · rw [if_neg c4, if_neg c4]
              by_cases c5 : w = 4
              · rw [if_pos c5, if_pos c5]
              · rw [if_neg c5, if_neg c5]
                have c6 : w = 5 := by
                  obtain ⟨i, i1, i2, rfl⟩ := i32_of (x := w) (lo := 0) (hi := 5) (fun q => c0 (Or.inl q)) (fun q => c0 (Or.inr q)) (by decide)
                  have ne : ∀ x, nI i ≠ nI x → i ≠ x := fun x y z => y (by rw [z])
                  have n0 := ne 0 c1
                  have n1 := ne 1 c2
                  have n2 := ne 2 c3
                  have n3 := ne 3 c4
                  have n4 := ne 4 c5
                  have : i = 5 := by omega
                  subst this
                  rfl
                rw [if_pos c6]
  | j + 1, k, f + 1, K, hk, h1, hf => by
    obtain ⟨q, par, dp, e, r, rw', E, eo, hr⟩ := hE k h1 (by omega)
    have hq : q < 2 ^ 31 := by have := eo.le; have := F.2.2.2.2.2.2; omega
    have sp : stp X (hb bs) n wt k K = nst (hb bs) n wt (nI (dp + 1)) q K := stp_eq E hq
    have ih := x_tot F hN (wt := wt) hE w j (k + 1) f (stp X (hb bs) n wt k K) (by omega) (by omega) (by omega)
    have go : ∀ K1, K1 = stp X (hb bs) n wt k K → f_X8_total_L49 cy f (aw 0) w K1.2.1 K1.2.2.1 K1.2.2.2.2.2.1 (nI (k + 1)) (MI cy iw aw μ1 I V A N X K1.2.2.2.1 K1.2.2.2.2.1) = some (totS w N (fw (stp X (hb bs) n wt) k (j + 1) K), MI cy iw aw μ1 I V A N X (fw (stp X (hb bs) n wt) k (j + 1) K).2.2.2.1 (fw (stp X (hb bs) n wt) k (j + 1) K).2.2.2.2.1) := fun K1 h => by rw [h]; exact ih
    have it := x_ints (cy := cy) (μ1 := μ1) (I := I) (N := N) F (show k < 1300 by omega) E eo hr (nI (dp + 1)) (kEl K (nI (vpl (hb bs) n q - q - 2)) (if hb bs q = wt then 1 else 0))
    have it' : f_X8_ints cy (aw 0) (nI k) (MI cy iw aw μ1 I V A N X K.2.2.2.1 K.2.2.2.2.1) = some (MI cy iw aw μ1 I V A N X (nst (hb bs) n wt (nI (dp + 1)) q K).2.2.2.1 (nst (hb bs) n wt (nI (dp + 1)) q K).2.2.2.2.1) := it
    rw [f_X8_total_L49, x_ref F (k := 21) rfl, Option.bind_some, x_n F, Option.bind_some, if_neg (nI_ge (by omega) (by omega)), if_pos (x_o F), it', Option.bind_some, x_ref F (k := 21) rfl, Option.bind_some, x_r7 F, Option.bind_some, x_ld F 7 (by decide) (by omega), Option.bind_some, Option.bind_some, x_r10 F, Option.bind_some, x_ld F 10 (by decide) (by omega), Option.bind_some, Option.bind_some, Option.bind_some, x_r12 F, Option.bind_some, Option.bind_some, x_ld F 12 (by decide) (by omega), Option.bind_some, Option.bind_some]
    unfold f_X8_total_L129 f_X8_total_L130
    rw [E.2.2.1, E.2.2.2.2.2.1, E.2.2.2.2.2.2.2, nI_a1]
    have na := nv_all (h := hb bs) (dep := nI (dp + 1)) (t := hb bs q) (v := vpl (hb bs) n q) (K := kEl K (nI (vpl (hb bs) n q - q - 2)) (if hb bs q = wt then 1 else 0))
    have g := go _ sp.symm
    have gn : (nst (hb bs) n wt (nI (dp + 1)) q K).2.2.2.2.2.1 = K.2.2.2.2.2.1 + nI (vpl (hb bs) n q - q - 2) := na.2.1
    by_cases hd : hasD (hb bs q)
    · have d := nv_doc (h := hb bs) (dep := nI (dp + 1)) (v := vpl (hb bs) n q) (K := kEl K (nI (vpl (hb bs) n q - q - 2)) (if hb bs q = wt then 1 else 0)) hd
      have d1 : (nst (hb bs) n wt (nI (dp + 1)) q K).2.1 = if K.2.1 < nI (dp + 1) then nI (dp + 1) else K.2.1 := d.1
      have d2 : (nst (hb bs) n wt (nI (dp + 1)) q K).2.2.1 = K.2.2.1 + 1 := d.2
      rw [gn, d1, d2] at g
      have dA : dAt (hb bs) n q = nI (dcIn (hb bs) (hb bs q) (vpl (hb bs) n q)) := if_pos hd
      have s := eo.s hr
      have dd := s.2.2.2.2.1.doc hd
      have dl := dd.1.le
      have hn := F.2.2.2.2.2.2
      rw [dA, if_pos (show (0 : Int32) ≤ nI (dcIn (hb bs) (hb bs q) (vpl (hb bs) n q)) from nI_le (a := 0) (Nat.zero_le _) (by omega))]
      by_cases cm : K.2.1 < nI (dp + 1)
      · rw [if_neg (fun y => absurd cm (Int32.not_lt.mpr y))]
        rw [if_pos cm] at g
        exact g
      · rw [if_pos (Int32.not_lt.mp cm)]
        rw [if_neg cm] at g
        exact g
    · have d := nv_no (h := hb bs) (dep := nI (dp + 1)) (v := vpl (hb bs) n q) (K := kEl K (nI (vpl (hb bs) n q - q - 2)) (if hb bs q = wt then 1 else 0)) hd
      have d1 : (nst (hb bs) n wt (nI (dp + 1)) q K).2.1 = K.2.1 := d.1
      have d2 : (nst (hb bs) n wt (nI (dp + 1)) q K).2.2.1 = K.2.2.1 := d.2
      rw [gn, d1, d2] at g
      have dA : dAt (hb bs) n q = -1 := if_neg hd
      rw [dA, if_neg (by decide)]
      exact g
theorem x_kin (F : TX iw aw V A 21 60 sd bs n) (hN : N < 1300) {wt : Int32} (hE : ∀ k, 1 ≤ k → k < N → ∃ q par dp e r rw', NEl X (hb bs) n k q par dp ∧ eOk (hb bs) e q r rw' ∧ r ≤ n) : ∀ (j k f : Nat) (K : Kt), k + j = N → 1 ≤ k → j < f → f_X8_kinds_L28 cy f (aw 0) wt K.2.2.2.2.2.2 (nI k) (MT cy iw aw μ1 I V A 60 N X) = some ((fw (stp X (hb bs) n wt) k j K).2.2.2.2.2.2, MT cy iw aw μ1 I V A 60 N X)
  | j, k, 0, K, _, _, hf => by omega
  | 0, k, f + 1, K, hk, _, hf => by
    have : k = N := by omega
    subst this
    rw [f_X8_kinds_L28, x_ref F (k := 21) rfl, Option.bind_some, x_n F, Option.bind_some, if_pos (nI_le (Nat.le_refl _) (by omega))]
    rfl
  | j + 1, k, f + 1, K, hk, h1, hf => by
    obtain ⟨q, par, dp, e, r, rw', E, eo, hr⟩ := hE k h1 (by omega)
    have hq : q < 2 ^ 31 := by have := eo.le; have := F.2.2.2.2.2.2; omega
    have sp : stp X (hb bs) n wt k K = nst (hb bs) n wt (nI (dp + 1)) q K := stp_eq E hq
    have ih := x_kin F hN (wt := wt) hE j (k + 1) f (stp X (hb bs) n wt k K) (by omega) (by omega) (by omega)
    have na := nv_all (h := hb bs) (dep := nI (dp + 1)) (t := hb bs q) (v := vpl (hb bs) n q) (K := kEl K (nI (vpl (hb bs) n q - q - 2)) (if hb bs q = wt then 1 else 0))
    have gn : (stp X (hb bs) n wt k K).2.2.2.2.2.2 = K.2.2.2.2.2.2 + (if hb bs q = wt then 1 else 0) := by rw [sp]; exact na.2.2
    rw [gn] at ih
    rw [f_X8_kinds_L28, x_ref F (k := 21) rfl, Option.bind_some, x_n F, Option.bind_some, if_neg (nI_ge (by omega) (by omega)), Option.bind_some, x_r2 F, Option.bind_some, x_ld F 2 (by decide) (by omega), Option.bind_some, E.2.1]
    unfold f_X8_kinds_L60
    rw [nI_a1]
    by_cases c : hb bs q = wt
    · rw [if_pos c] at ih ⊢
      exact ih
    · rw [if_neg c] at ih ⊢
      exact ih
end KT1
section KT2
variable {cy : Nat → ClassId} {iv : Nat → Option Nat} {ad : Nat → Nat} {μ0 : Mem} {J : Nat → Int32} {w : Nat} {B : Nat → Nat → Int32} {iw : Nat → Option Nat} {aw : Nat → Nat} {μ1 : Mem} {I : Nat → Int32} {V : Nat → Value} {A : Nat → Nat → Int32} {s : Nat}
/-- a shelf's bytes are counted through -/
theorem k_cnt (hL : Lay6 iv ad) (hs : s < 4) {bs : Nat → Nat} {n : Nat} {G : Nat → Nat} {d m : Nat} {at' : Int32} (S : SH J B (90 + s) bs n G d m at') (hd : dOk (hb bs) 24 0 n false) {X : Nat → Nat → Int32} {N : Nat} (T : TRE X (hb bs) n N) (wt : Int32) : f_X2_countAll cy (ad 1) (ad (sS (90 + s))) wt (MC cy iv ad μ0 J w B) = some (MC cy iv ad μ0 (upR J 0 wt 0 (-1) (fw (stp X (hb bs) n wt) 1 (N - 1) (kLen (kDoc K0 (nI 1)) (i4 (hb bs) 0)))) (ad (sS (90 + s))) B) := by
  have a := shf_sp (sS_s hs).1
  have hn := S.2.2.2.1
  have tr := tr_Doc (h := hb bs) (h' := hb bs) (wt := -1) (wt' := wt) 24 24 (Nat.le_refl _) K0 K0 0 n false n 0 n hd ag.rf (by omega)
  rw [show 0 + (n - 0) = n by omega] at tr
  obtain ⟨K, z⟩ := tr
  have cd := cn_doc (wt := wt) hn 24 0 0 n false 1 1 N K0 n n K rfl T.1 z
  have Sp := SP6 (cy := cy) (μ0 := μ0) (w := w) (J := J) (B := B) hL a.1 S.1 (by rw [a.2.2.1]; exact hn)
  rw [S.2.1] at Sp
  have e := q_countAll Sp (k_r1 hL a.1) (c_rc hL) z
  rw [c_RM hL, cd] at e
  exact e
theorem k_kinds (hL : Lay6 iv ad) (hW : Lay iw aw) (R : REL J B I A) (x wt : Int32) : ANS cy iv ad μ0 iw aw μ1 ["java/lang/IndexOutOfBoundsException"] (f_X6_kinds cy (ad 0) x wt (MC cy iv ad μ0 J w B)) (f_X8_kinds cy (aw 0) x wt (MR cy iw aw μ1 I V A)) := by
  unfold f_X6_kinds f_X8_kinds
  rw [g_ref hL (k := 3) rfl, Option.bind_some, if_pos (g_is hL), if_pos (r_is hW)]
  rcases sh4 x with ⟨s, hs, rfl⟩ | hx
  · obtain ⟨bs, n, G, d, m, at', S, hat, Rs⟩ := R.2.2.1 s hs
    have z := sS_s hs
    have W := S.2.2.2.2.2.2.2.2.2.2.2.2.2.1
    have hn := S.2.2.2.1
    obtain ⟨N, X, ν, hi, m2, c, e1, tw, F⟩ := x_sr (cy := cy) (μ0 := μ1) (I := upd I 0 0) (V := V) hW (Or.inl ⟨rfl, rfl⟩ : isT 21 60) hs Rs S.2.2.1 W
    have T := tw.1
    have hN := tw.2.1
    have hN1 := T.2.2.2.2.2.1
    have hE := fun k k1 k2 => nd_all 24 0 0 n false 1 1 N T.1 k k1 k2
    have ct := k_cnt (cy := cy) (μ0 := μ0) (w := w) hL hs S W.1 T wt
    have kn := x_kin (cy := cy) (μ1 := μ1) (I := upd I 0 0) (wt := wt) F hN hE (N - 1) 1 FU (kLen (kDoc K0 (nI 1)) (i4 (hb bs) 0)) (by omega) (Nat.le_refl _) (by show N - 1 < 100000; omega)
    have kn' : f_X8_kinds_L28 cy FU (aw 0) wt 0 1 (MT cy iw aw μ1 (upd I 0 0) (updG V 60 (.ref (aw (50 + s)))) A 60 N X) = _ := kn
    rw [g_shelf hL hs, obX2_r, F_r0 hL z.1, Option.bind_some, if_pos (k_rdI hL), ct, Option.bind_some, g_ref hL (k := 3) rfl, Option.bind_some, k_rd hL 11 rfl, Option.bind_some, r_shelf hW hs, ob2_some, if_pos (show (0 : Int32) = 0 from rfl), m_ref hW rfl, Option.bind_some, m_ref hW rfl, Option.bind_some, m_docs hW hs, Option.bind_some, if_pos (m_tis hW (Or.inl ⟨rfl, rfl⟩)), e1, Option.bind_some, kn']
    exact ans_ok rfl rfl rfl ((R.i0.fr (fun k k1 k2 => upR_ne (by omega)) (fun _ _ => rfl) (fun _ _ _ => rfl) (fun _ _ => rfl)).t (by decide))
  · rw [g_noShelf hx, obX2_l, r_noShelf hW hx, ob2_some, if_neg (by decide)]
    exact ans_th 1 (by decide) (by decide) rfl rfl rfl rfl R.i0
theorem k_total (hL : Lay6 iv ad) (hW : Lay iw aw) (R : REL J B I A) (x y : Int32) : ANS cy iv ad μ0 iw aw μ1 ["java/lang/IndexOutOfBoundsException"] (f_X6_total cy (ad 0) x y (MC cy iv ad μ0 J w B)) (f_X8_total cy (aw 0) x y (MR cy iw aw μ1 I V A)) := by
  unfold f_X6_total f_X8_total
  rw [g_ref hL (k := 3) rfl, Option.bind_some, if_pos (g_is hL), if_pos (r_is hW)]
  rcases sh4 x with ⟨s, hs, rfl⟩ | hx
  · obtain ⟨bs, n, G, d, m, at', S, hat, Rs⟩ := R.2.2.1 s hs
    have z := sS_s hs
    have W := S.2.2.2.2.2.2.2.2.2.2.2.2.2.1
    have hn := S.2.2.2.1
    obtain ⟨N, X, ν, hi, m2, c, e1, tw, F⟩ := x_sr (cy := cy) (μ0 := μ1) (I := upd I 0 0) (V := V) hW (Or.inl ⟨rfl, rfl⟩ : isT 21 60) hs Rs S.2.2.1 W
    have T := tw.1
    have hN := tw.2.1
    have hN1 := T.2.2.2.2.2.1
    have d5 := W.1.le
    have hE := fun k k1 k2 => nd_all 24 0 0 n false 1 1 N T.1 k k1 k2
    have ct := k_cnt (cy := cy) (μ0 := μ0) (w := w) hL hs S W.1 T (-1)
    have te := x_tells (cy := cy) (μ1 := μ1) (I := upd I 0 0) (N := N) (X := X) (p := 0) F (by omega) 0 0
    have te' : f_X8_tells cy (aw 0) 0 (MT cy iw aw μ1 (upd (upd (upd I 0 0) 24 0) 25 0) (updG V 60 (.ref (aw (50 + s)))) A 60 N X) = _ := te
    have tt := x_tot (cy := cy) (μ1 := μ1) (I := upd I 0 0) (wt := -1) F hN hE y (N - 1) 1 FU (kLen (kDoc K0 (nI 1)) (i4 (hb bs) 0)) (by omega) (Nat.le_refl _) (by show N - 1 < 100000; omega)
    have tt' : f_X8_total_L49 cy FU (aw 0) y 1 1 0 1 (MI cy iw aw μ1 (upd I 0 0) (updG V 60 (.ref (aw (50 + s)))) A N X (0 + 1) (0 + i4 (hb bs) 0)) = _ := tt
    have f1 := fw_1 (wt := -1) (h := hb bs) (n := n) (X := X) (N - 1) 1 (kLen (kDoc K0 (nI 1)) (i4 (hb bs) 0))
    generalize hK : fw (stp X (hb bs) n (-1)) 1 (N - 1) (kLen (kDoc K0 (nI 1)) (i4 (hb bs) 0)) = K at *
    have f1' : K.1 = nI N - 1 := by
      rw [f1]
      show 0 + nI (N - 1) = nI N - 1
      rw [Int32.zero_add, show (1 : Int32) = nI 1 by decide +kernel, nI_sub' hN1]
    have RR : REL (upR J 0 (-1) 0 (-1) K) B (upd (upd (upd (upd I 0 0) 24 K.2.2.2.1) 25 K.2.2.2.2.1) (60 + 1) (nI N)) (tA 60 A X) := ((R.i0 (x := 0)).fr (fun k k1 k2 => upR_ne (by omega)) (fun _ _ => rfl) (fun k k1 k2 => by rw [upd_ne' (by omega), upd_ne' (by omega)]) (fun _ _ => rfl)).t (by decide)
    rw [g_shelf hL hs, obX2_r, F_r0 hL z.1, Option.bind_some, if_pos (k_rdI hL), ct, Option.bind_some, r_shelf hW hs, ob2_some, if_pos (show (0 : Int32) = 0 from rfl), m_ref hW rfl, Option.bind_some, m_ref hW rfl, Option.bind_some, m_docs hW hs, Option.bind_some, if_pos (m_tis hW (Or.inl ⟨rfl, rfl⟩)), e1, Option.bind_some, x_put F 24 rfl (by decide), Option.bind_some, x_put F 25 rfl (by decide), Option.bind_some, if_pos (x_o F), te', Option.bind_some, tt', g_ref hL (k := 3) rfl, Option.bind_some, Option.bind_some, Option.bind_some, Option.bind_some, Option.bind_some, Option.bind_some]
    have rd : ∀ k (v : Int32), (fR (ad (sS (90 + s))) (upR J 0 (-1) 0 (-1) K))[k]? = some (.int v) → rdI (MC cy iv ad μ0 (upR J 0 (-1) 0 (-1) K) (ad (sS (90 + s))) B) (ad 1) 1 k = some v := fun k v h => k_rd hL k h
    rw [rd 4 K.1 rfl, rd 5 K.2.1 rfl, rd 6 K.2.2.1 rfl, rd 7 K.2.2.2.1 rfl, rd 8 K.2.2.2.2.1 rfl, rd 9 K.2.2.2.2.2.1 rfl, Option.bind_some, Option.bind_some, Option.bind_some, Option.bind_some, Option.bind_some, Option.bind_some]
    have sel : ∀ (M : Mem), (if y.toInt < 0 ∨ 5 < y.toInt then (some (.inr ((-1 : Int32), M)) : Option ((String × Mem) ⊕ (Int32 × Mem))) else if y = 0 then some (.inr (K.1, M)) else if y = 1 then some (.inr (K.2.1, M)) else if y = 2 then some (.inr (K.2.2.1, M)) else if y = 3 then some (.inr (K.2.2.2.1, M)) else if y = 4 then some (.inr (K.2.2.2.2.1, M)) else if y = 5 then some (.inr (K.2.2.2.2.2.1, M)) else none) = some (.inr (totS y N K, M)) := fun M => by
      unfold totS
      by_cases c0 : y.toInt < 0 ∨ 5 < y.toInt
      · rw [if_pos c0, if_pos c0]
      · rw [if_neg c0, if_neg c0]
        by_cases c1 : y = 0
        · rw [if_pos c1, if_pos c1, f1']
        · rw [if_neg c1, if_neg c1]
          by_cases c2 : y = 1
          · rw [if_pos c2, if_pos c2]
          · rw [if_neg c2, if_neg c2]
            by_cases c3 : y = 2
            · rw [if_pos c3, if_pos c3]
            · rw [if_neg c3, if_neg c3]
              by_cases c4 : y = 3
              · rw [if_pos c4, if_pos c4]
              · rw [if_neg c4, if_neg c4]
                by_cases c5 : y = 4
                · rw [if_pos c5, if_pos c5]
                · rw [if_neg c5, if_neg c5]
                  have c6 : y = 5 := by
                    obtain ⟨i, i1, i2, rfl⟩ := i32_of (x := y) (lo := 0) (hi := 5) (fun q => c0 (Or.inl q)) (fun q => c0 (Or.inr q)) (by decide)
                    have ne : ∀ x, nI i ≠ nI x → i ≠ x := fun x y z => y (by rw [z])
                    have n0 := ne 0 c1
                    have n1 := ne 1 c2
                    have n2 := ne 2 c3
                    have n3 := ne 3 c4
                    have n4 := ne 4 c5
                    have : i = 5 := by omega
                    subst this
                    rfl
                  rw [if_pos c6]
    rw [sel]
    exact ans_ok rfl rfl rfl RR
  · rw [g_noShelf hx, obX2_l, r_noShelf hW hx, ob2_some, if_neg (by decide)]
    exact ans_th 1 (by decide) (by decide) rfl rfl rfl rfl R.i0
end KT2
