/-! THE REFERENCE FINDS NAMES. -/
section KA4
variable {cy : Nat → ClassId} {iw : Nat → Option Nat} {aw : Nat → Nat} {μ1 : Mem} {I : Nat → Int32} {V : Nat → Value} {A : Nat → Nat → Int32} {sd n N tn : Nat} {bs tb : Nat → Nat} {X : Nat → Nat → Int32}
theorem x_inL (F : TX iw aw V A 21 60 sd bs n) (hT : ∀ j, j < tn → A 1 j = sx (tb j)) (htB : bB tb) (htn : tn ≤ 2000) {k q a e : Nat} (hk : k < 1300) (h6 : X 6 k = nI q) (hae : a ≤ e) (he : e ≤ tn) (hq : q + 1 + (e - a) ≤ n) : ∀ (r j f : Nat), j + r = e - a → r < f → ∃ x : Int32, f_X8_isNamed_L25 cy f (aw 0) (nI k) (nI a) (nI e) 1 (nI j) (MT cy iw aw μ1 I V A 60 N X) = some (x, MT cy iw aw μ1 I V A 60 N X) ∧ ((∀ i, j ≤ i → i < e - a → hb bs (q + 1 + i) = hb tb (a + i)) → x = 1) ∧ (¬ (∀ i, j ≤ i → i < e - a → hb bs (q + 1 + i) = hb tb (a + i)) → x = 0)
  | r, j, 0, _, hf => by omega
  | 0, j, f + 1, hj, _ => by
    rw [f_X8_isNamed_L25, if_neg (show ¬ (1 : Int32) = 0 by decide), nI_sub' hae, if_pos (nI_le (by omega) (by omega))]
    unfold f_X8_isNamed_L85
    rw [if_pos (Or.inr rfl)]
    exact ⟨1, rfl, fun _ => rfl, fun z => absurd (fun i a1 a2 => by omega) z⟩
  | r + 1, j, f + 1, hj, hf => by
    have hn := F.2.2.2.2.2.2
    have hB := F.2.2.2.2.2.1
    have rt := x_al (cy := cy) (μ0 := μ1) (I := I) (N := N) (X := X) (i := a + j) F 1 rfl (by decide) (by show a + j < 2000; omega)
    rw [hT _ (by omega)] at rt
    have eq : (sx (bs (q + 1 + j)) = sx (tb (a + j))) ↔ hb bs (q + 1 + j) = hb tb (a + j) := by
      constructor
      · intro y
        show nI _ = nI _
        rw [sx_inj (hB _) (htB _) y]
      · intro y
        have := (nI_eq (by have := hB (q + 1 + j); omega) (by have := htB (a + j); omega)).mp y
        rw [this]
    rw [f_X8_isNamed_L25, if_neg (show ¬ (1 : Int32) = 0 by decide), nI_sub' hae, if_neg (nI_ge (by omega) (by omega)), x_ref F (k := 21) rfl, Option.bind_some, x_of F, Option.bind_some, Option.bind_some, x_r6 F, Option.bind_some, x_ld F 6 (by decide) hk, Option.bind_some, h6, nI_a1, nI_p, x_by F (by omega), Option.bind_some, x_ref F (k := 1) rfl, Option.bind_some, nI_p, show rdA cy (MT cy iw aw μ1 I V A 60 N X) 0 (aw 1) (nI (a + j)) = _ from rt, Option.bind_some]
    unfold f_X8_isNamed_L77
    rw [nI_a1]
    by_cases c : hb bs (q + 1 + j) = hb tb (a + j)
    · rw [if_pos (eq.mpr c)]
      obtain ⟨x, g1, g2, g3⟩ := x_inL F hT htB htn hk h6 hae he hq r (j + 1) f (by omega) (by omega)
      refine ⟨x, g1, fun z => g2 (fun i a1 a2 => z i (by omega) a2), fun z => g3 (fun y => z (fun i a1 a2 => ?_))⟩
      rcases Nat.eq_or_lt_of_le a1 with q' | q'
      · rw [← q']; exact c
      · exact y i q' a2
    · rw [if_neg (fun y => c (eq.mp y))]
      refine ⟨0, ?_, fun z => absurd (z j (Nat.le_refl _) (by omega)) c, fun _ => rfl⟩
      match f, hf with
      | f + 1, _ =>
        rw [f_X8_isNamed_L25, if_pos (show (0 : Int32) = 0 from rfl)]
        unfold f_X8_isNamed_L85
        rw [if_pos (Or.inl rfl)]
theorem x_isNamed (F : TX iw aw V A 21 60 sd bs n) (hT : ∀ j, j < tn → A 1 j = sx (tb j)) (htB : bB tb) (htn : tn ≤ 2000) {k q a e : Nat} (hk : k < 1300) (h6 : X 6 k = nI q) (h7 : X 7 k = nI (vpl (hb bs) n q - q - 2)) (hq2 : q + 2 ≤ vpl (hb bs) n q) (hq3 : vpl (hb bs) n q ≤ n) (hae : a ≤ e) (he : e ≤ tn) : ∃ x : Int32, f_X8_isNamed cy (aw 0) (nI k) (nI a) (nI e) (MT cy iw aw μ1 I V A 60 N X) = some (x, MT cy iw aw μ1 I V A 60 N X) ∧ (nmEq (hb bs) n q (hb tb) a e → x = 1) ∧ (¬ nmEq (hb bs) n q (hb tb) a e → x = 0) := by
  have hn := F.2.2.2.2.2.2
  unfold f_X8_isNamed f_X8_isNamed_L20
  rw [x_ref F (k := 21) rfl, Option.bind_some, x_r7 F, Option.bind_some, x_ld F 7 (by decide) hk, Option.bind_some, h7, nI_sub' hae]
  by_cases c : vpl (hb bs) n q - q - 2 = e - a
  · rw [if_pos (by rw [c])]
    obtain ⟨x, g1, g2, g3⟩ := x_inL (cy := cy) (μ1 := μ1) (I := I) (N := N) (X := X) F hT htB htn hk h6 hae he (by omega) (e - a) 0 FU (by omega) (by show e - a < 100000; omega)
    refine ⟨x, g1, fun z => g2 (fun i _ a2 => z.2 i a2), fun z => g3 (fun y => z ⟨by omega, fun i hi => y i (Nat.zero_le _) hi⟩)⟩
  · rw [if_neg (fun y => c ((nI_eq (by omega) (by omega)).mp y))]
    refine ⟨0, ?_, fun z => absurd z.1 (by omega), fun _ => rfl⟩
    show f_X8_isNamed_L25 cy (99999 + 1) (aw 0) (nI k) (nI a) (nI e) 0 0 _ = _
    rw [f_X8_isNamed_L25, if_pos (show (0 : Int32) = 0 from rfl)]
    unfold f_X8_isNamed_L85
    rw [if_pos (Or.inl rfl)]
theorem x_nmdL (F : TX iw aw V A 21 60 sd bs n) (hT : ∀ j, j < tn → A 1 j = sx (tb j)) (htB : bB tb) (htn : tn ≤ 2000) {a e : Nat} (hae : a ≤ e) (he : e ≤ tn) {ee node D r dp lo hi m : Nat} {row : Bool} {c : Nat → Nat} (K : NK X (hb bs) n ee node D r row dp lo hi m c) (hhi : hi < 1300) : ∀ (j i f : Nat), i + j = m → j < f → f_X8_named_L14 cy f (aw 0) (nI a) (nI e) (if i = m then -1 else nI (c i)) (nI i) (MT cy iw aw μ1 I V A 60 N X) = some (zfI (ffi (fun i => nmEq (hb bs) n (st (hb bs) n D i) (hb tb) a e) i j), MT cy iw aw μ1 I V A 60 N X)
  | j, i, 0, _, hf => by omega
  | 0, i, f + 1, hi', _ => by
    have : i = m := by omega
    subst this
    rw [f_X8_named_L14, if_pos rfl, if_pos (show (-1 : Int32) < 0 by decide)]
    rfl
  | j + 1, i, f + 1, hi', hf => by
    have hn := F.2.2.2.2.2.2
    have hm := K.2.1
    have ic := K.inc (i := i) (by omega)
    obtain ⟨y1, y2, y3, y4, y5⟩ := K.2.2.2.2.2.2 i (by omega)
    have hD := K.1
    have le := hD.le' (i := i + 1) (by omega)
    have hE := hD.2.2.2.2.2 i (by omega)
    have hDn := hD.2.1
    obtain ⟨s1, s2, s3, s4, s5, s6⟩ := hE.s (n := n) (by omega)
    obtain ⟨x, g1, g2, g3⟩ := x_isNamed (cy := cy) (μ1 := μ1) (I := I) (N := N) (X := X) F hT htB htn (k := c i) (q := st (hb bs) n D i) (by omega) y2.1 y2.2.2.1 s2 (by omega) hae he
    have ih := x_nmdL F hT htB htn hae he K hhi j (i + 1) f (by omega) (by omega)
    rw [f_X8_named_L14, if_neg (show ¬ i = m by omega), if_neg (show ¬ nI (c i) < 0 from nI_nlt (b := 0) (Nat.zero_le _) (by omega)), if_pos (x_o F), g1, ob2_some, ffi]
    by_cases p : nmEq (hb bs) n (st (hb bs) n D i) (hb tb) a e
    · rw [g2 p, if_neg (show ¬ (1 : Int32) = 0 by decide), if_pos p]
      unfold f_X8_named_L48
      rw [if_neg (show ¬ nI (c i) < 0 from nI_nlt (b := 0) (Nat.zero_le _) (by omega))]
      rfl
    · rw [g3 p, if_pos (show (0 : Int32) = 0 from rfl), if_neg p, x_ref F (k := 21) rfl, Option.bind_some, x_r5 F, Option.bind_some, x_ld F 5 (by decide) (by omega), Option.bind_some, y3, nI_a1]
      exact ih
theorem x_named (F : TX iw aw V A 21 60 sd bs n) (hT : ∀ j, j < tn → A 1 j = sx (tb j)) (htB : bB tb) (htn : tn ≤ 2000) {a e : Nat} (hae : a ≤ e) (he : e ≤ tn) {ee node D r dp lo hi m : Nat} {row : Bool} {c : Nat → Nat} (K : NK X (hb bs) n ee node D r row dp lo hi m c) (hhi : hi < 1300) (hno : node < 1300) : f_X8_named cy (aw 0) (nI node) (nI a) (nI e) (MT cy iw aw μ1 I V A 60 N X) = some (zfI (ffi (fun i => nmEq (hb bs) n (st (hb bs) n D i) (hb tb) a e) 0 m), MT cy iw aw μ1 I V A 60 N X) := by
  have hm := K.2.1
  have k4 := K.2.2.2.1
  have eq0 : X 4 node = (if 0 = m then (-1 : Int32) else nI (c 0)) := by
    rw [k4, K.2.2.2.2.1]
    by_cases z : m = 0
    · rw [if_pos z, if_pos z.symm]
    · rw [if_neg z, if_neg (fun y => z y.symm)]
  unfold f_X8_named
  rw [x_ref F (k := 21) rfl, Option.bind_some, x_r4 F, Option.bind_some, x_ld F 4 (by decide) hno, Option.bind_some, eq0]
  exact x_nmdL F hT htB htn hae he K hhi m 0 FU (by omega) (by show m < 100000; omega)
end KA4
