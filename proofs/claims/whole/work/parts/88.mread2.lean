/-! THE REFERENCE'S TREE: a DOCUMENT read, the whole tree read. -/
section TR3
variable {cy : Nat → ClassId} {iv : Nat → Option Nat} {ad : Nat → Nat} {μ0 : Mem} {I : Nat → Int32} {V : Nat → Value} {A : Nat → Nat → Int32} {o T sd n : Nat} {bs : Nat → Nat}
/-- the first i ELEMENTS of node are read -/
def PDoc (X : Nat → Nat → Int32) (h : Nat → Int32) (n e node D dp lo i : Nat) (c : Nat → Nat) : Prop := c 0 = lo ∧ X 11 node = nI i ∧ X 4 node = (if i = 0 then -1 else nI lo) ∧ X 12 node = nI dp ∧ ∀ t, t < i → c t < c (t + 1) ∧ NEl X h n (c t) (st h n D t) node dp ∧ X 5 (c t) = (if t + 1 = i then -1 else nI (c (t + 1))) ∧ (hasD (h (st h n D t)) → NDoc X h n e (c t) (dcIn h (h (st h n D t)) (vpl h n (st h n D t))) (st h n D (t + 1)) (h (st h n D t) == 4) (dp + 1) (c t + 1) (c (t + 1))) ∧ (¬ hasD (h (st h n D t)) → c (t + 1) = c t + 1)
/-- the next ELEMENT's node is tied in -/
theorem x_tie (F : TX iv ad V A o T sd bs n) {rE : Nat → Int32 → Int32 → Mem → Option (Int32 × Mem)} {e node D r dp lo i f : Nat} {c : Nat → Nat} {X : Nat → Nat → Int32} (P : PDoc X (hb bs) n e node D dp lo i c) (hnl : node < lo) (hci : c i < 1300) (hq : st (hb bs) n D i < r - 1) (hr : r ≤ n) :
    ∃ Y, f_X7_readDoc_L49 cy rE (f + 1) (ad o) (nI node) (nI (r - 1)) (nI (st (hb bs) n D i)) (if i = 0 then -1 else nI (c (i - 1))) (MT cy iv ad μ0 I V A T (c i) X) = f_X7_readDoc_L95 cy rE (f_X7_readDoc_L49 cy rE f) (ad o) (nI node) (nI (r - 1)) (nI (st (hb bs) n D i)) (nI (c i)) (MT cy iv ad μ0 I V A T (c i + 1) Y) ∧
      Y 4 node = nI lo ∧ (∀ x, Y 11 x = X 11 x) ∧ (∀ x, Y 12 x = X 12 x) ∧ (∀ t, t < i → Y 5 (c t) = nI (c (t + 1))) ∧ (∀ t, t < i → ∀ k, k ≠ 5 → Y k (c t) = X k (c t)) ∧ (∀ t, t < i → ∀ k x, c t < x → x < c (t + 1) → Y k x = X k x) ∧ (∀ k x, x < lo → (x ≠ node ∨ (k ≠ 4 ∧ k ≠ 11)) → Y k x = X k x) := by
  have hn := F.2.2.2.2.2.2
  obtain ⟨p1, p2, p3, p4, p5⟩ := P
  have inc : ∀ t, t < i → c t < c (t + 1) := fun t ht => (p5 t ht).1
  have lo_le : ∀ t, t ≤ i → lo + t ≤ c t := fun t ht => by
    have := c_le inc (i := 0) (k := t) (by omega) ht
    omega
  rw [f_X7_readDoc_L49, if_neg (nI_ge hq (by omega)), x_n F, Option.bind_some, Option.bind_some, x_np F, Option.bind_some]
  have l0 := lo_le i (Nat.le_refl _)
  match i, p2, p3, p5, inc, lo_le, hci, hq, l0 with
  | 0, p2, p3, p5, inc, lo_le, hci, hq, l0 =>
    rw [if_pos rfl, if_neg (by decide), x_r4 F, Option.bind_some, x_st F 4 (by decide) (by omega), Option.bind_some]
    refine ⟨_, rfl, by rw [updG_self, upd_self', p1], fun x => by rw [updG_ne (by decide)], fun x => by rw [updG_ne (by decide)], fun t ht => by omega, fun t ht => by omega, fun t ht => by omega, fun k x hx hk => ?_⟩
    by_cases ck : k = 4
    · subst ck
      rw [updG_self, upd_ne' (by omega)]
    · rw [updG_ne ck]
  | i + 1, p2, p3, p5, inc, lo_le, hci, hq, l0 =>
    have li := inc i (by omega)
    rw [if_neg (show ¬ i + 1 = 0 by omega), show i + 1 - 1 = i from rfl, if_pos (show (0 : Int32) ≤ nI (c i) from nI_le (a := 0) (Nat.zero_le _) (by omega)), x_r5 F, Option.bind_some, x_st F 5 (by decide) (by omega), Option.bind_some]
    rw [if_neg (by omega)] at p3
    refine ⟨_, rfl, by rw [updG_ne (by decide)]; exact p3, fun x => by rw [updG_ne (by decide)], fun x => by rw [updG_ne (by decide)], fun t ht => ?_, fun t ht k hk => by rw [updG_ne hk], fun t ht k x a1 a2 => ?_, fun k x hx hk => ?_⟩
    · rw [updG_self]
      by_cases ct : t = i
      · subst ct
        rw [upd_self']
      · have := c_le inc (i := t) (k := i) (by omega) (by omega)
        rw [upd_ne' (by omega), (p5 t ht).2.2.1, if_neg (by omega)]
    · by_cases ck : k = 5
      · subst ck
        rw [updG_self, upd_ne' ?_]
        intro z
        subst z
        rcases Nat.lt_or_ge t i with q | q
        · have := c_le inc (i := t + 1) (k := i) (by omega) (by omega)
          omega
        · have := c_le inc (i := i) (k := t) (by omega) (by omega)
          omega
      · rw [updG_ne ck]
    · have := lo_le i (by omega)
      by_cases ck : k = 5
      · subst ck
        rw [updG_self, upd_ne' (by omega)]
      · rw [updG_ne ck]
theorem x_rdL (F : TX iv ad V A o T sd bs n) {d e : Nat} (H : RDok cy iv ad μ0 I V A o T n bs d e) {node D r dp lo m : Nat} {row : Bool} (hD : DC (hb bs) n e D r row m) (hnl : node < lo) {X0 : Nat → Nat → Int32} : ∀ (j i f : Nat) (c : Nat → Nat) (X : Nat → Nat → Int32), i + j = m → j < f → PDoc X (hb bs) n e node D dp lo i c → 2 * c i ≤ st (hb bs) n D i + 2 → (∀ k x, x < lo → (x ≠ node ∨ (k ≠ 4 ∧ k ≠ 11)) → X k x = X0 k x) →
    ∃ N' X' c', f_X7_readDoc_L49 cy (f_X7_readElement cy (d + 1)) f (ad o) (nI node) (nI (r - 1)) (nI (st (hb bs) n D i)) (if i = 0 then -1 else nI (c (i - 1))) (MT cy iv ad μ0 I V A T (c i) X) = some (MT cy iv ad μ0 I V A T N' X') ∧ PDoc X' (hb bs) n e node D dp lo m c' ∧ c' m = N' ∧ 2 * N' ≤ st (hb bs) n D m + 2 ∧ (∀ k x, x < lo → (x ≠ node ∨ (k ≠ 4 ∧ k ≠ 11)) → X' k x = X0 k x)
  | j, i, 0, c, X, _, hf, _, _, _ => by omega
  | 0, i, f + 1, c, X, hi, _, P, h2, h0 => by
    have hi' : i = m := by omega
    subst hi'
    have hn := F.2.2.2.2.2.2
    have l := hD.2.1
    have l1 := hD.1
    refine ⟨c i, X, c, ?_, P, rfl, h2, h0⟩
    rw [f_X7_readDoc_L49, hD.2.2.2.2.1, if_pos (nI_le (Nat.le_refl _) (by omega))]
  | j + 1, i, f + 1, c, X, hi, hf, P, h2, h0 => by
    have hn := F.2.2.2.2.2.2
    have l := hD.2.1
    have l1 := hD.1
    have li := hD.le' (i := i) (by omega)
    have lt := hD.lt (i := i) (k := m) (by omega) (Nat.le_refl _)
    rw [hD.2.2.2.2.1] at lt
    have hE := hD.2.2.2.2.2 i (by omega)
    have lE := hD.le' (i := i + 1) (by omega)
    have hc3 : c i < 1300 := by omega
    obtain ⟨Y, e1, y4, y11, y12, y5, yk, yx, yf⟩ := x_tie (cy := cy) (μ0 := μ0) (I := I) (rE := f_X7_readElement cy (d + 1)) (f := f) (r := r) F P hnl hc3 (by omega) l
    obtain ⟨p1, p2, p3, p4, p5⟩ := P
    have inc : ∀ t, t < i → c t < c (t + 1) := fun t ht => (p5 t ht).1
    have lo_le : ∀ t, t ≤ i → lo + t ≤ c t := fun t ht => by
      have := c_le inc (i := 0) (k := t) (by omega) ht
      omega
    have l0 := lo_le i (Nat.le_refl _)
    rw [e1]
    unfold f_X7_readDoc_L95
    rw [x_r5 F, Option.bind_some, x_st F 5 (by decide) hc3, Option.bind_some, x_r11 F, Option.bind_some, x_ld F 11 (by decide) (by omega), Option.bind_some, updG_ne (show 11 ≠ 5 by decide), y11, p2, x_st F 11 (by decide) (by omega), Option.bind_some, nI_a1, x_r3 F, Option.bind_some, x_st F 3 (by decide) hc3, Option.bind_some, if_pos (x_is F)]
    generalize hZ : updG (updG (updG Y 5 (upd (Y 5) (c i) (-1))) 11 (upd (updG Y 5 (upd (Y 5) (c i) (-1)) 11) node (nI (i + 1)))) 3 (upd (updG (updG Y 5 (upd (Y 5) (c i) (-1))) 11 (upd (updG Y 5 (upd (Y 5) (c i) (-1)) 11) node (nI (i + 1))) 3) (c i) (nI node)) = Z
    have z3 : Z 3 (c i) = nI node := by rw [← hZ, updG_self, upd_self']
    have z5 : Z 5 (c i) = -1 := by rw [← hZ, updG_ne (by decide), updG_ne (by decide), updG_self, upd_self']
    have z11 : Z 11 node = nI (i + 1) := by rw [← hZ, updG_ne (by decide), updG_self, upd_self']
    have zo : ∀ k x, x ≠ c i → (x ≠ node ∨ k ≠ 11) → Z k x = Y k x := fun k x hx hk => by
      rw [← hZ]
      by_cases k3 : k = 3
      · subst k3
        rw [updG_self, upd_ne' hx, updG_ne (by decide), updG_ne (by decide)]
      · rw [updG_ne k3]
        by_cases k11 : k = 11
        · subst k11
          rw [updG_self, upd_ne' (by omega), updG_ne (by decide)]
        · rw [updG_ne k11]
          by_cases k5 : k = 5
          · subst k5
            rw [updG_self, upd_ne' hx]
          · rw [updG_ne k5]
    obtain ⟨N', X', r1, r2, r3, r4, r5, r6, r7, r8⟩ := x_el (cy := cy) (μ0 := μ0) (I := I) (k := c i) (q := st (hb bs) n D i) (r := st (hb bs) n D (i + 1)) (par := node) (dp := dp) (X := Z) F H hE (by omega) z3 (by omega) (by rw [zo _ _ (by omega) (Or.inr (by decide)), y12]; exact p4) h2
    rw [r1, ob2_some]
    have ih := x_rdL F H hD hnl (X0 := X0) j (i + 1) f (updG c (i + 1) N') X' (by omega) (by omega) (by
      refine ⟨by rw [updG_ne (by omega)]; exact p1, ?_, ?_, ?_, fun t ht => ?_⟩
      · rw [r8 _ _ (by omega)]; exact z11
      · rw [if_neg (by omega), r8 _ _ (by omega), zo _ _ (by omega) (Or.inr (by decide))]; exact y4
      · rw [r8 _ _ (by omega), zo _ _ (by omega) (Or.inr (by decide)), y12]; exact p4
      · rcases Nat.lt_or_ge t i with q | q
        · obtain ⟨q1, q2, q3, q4, q5⟩ := p5 t q
          have lt1 := lo_le t (by omega)
          have lt2 := c_le inc (i := t + 1) (k := i) (by omega) (Nat.le_refl _)
          rw [updG_ne (show t ≠ i + 1 by omega), updG_ne (show t + 1 ≠ i + 1 by omega), if_neg (by omega)]
          have xx : ∀ k, k ≠ 5 → X' k (c t) = X k (c t) := fun k hk => by
            rw [r8 _ _ (by omega), zo _ _ (by omega) (Or.inl (by omega)), yk t q k hk]
          refine ⟨q1, q2.congr xx, by rw [r8 _ _ (by omega), zo _ _ (by omega) (Or.inl (by omega)), y5 t q], fun hd => ?_, q5⟩
          refine NDoc.congr e (q4 hd) (xx _ (by decide)) (xx _ (by decide)) (fun k x a1 a2 => ?_)
          rw [r8 _ _ (by omega), zo _ _ (by omega) (Or.inl (by omega)), yx t q k x (by omega) a2]
        · have ti : t = i := by omega
          subst ti
          rw [updG_ne (show t ≠ t + 1 by omega), updG_self, if_pos rfl]
          exact ⟨r4, r2, by rw [r3]; exact z5, r6, r7⟩) (by rw [updG_self]; exact r5) (fun k x hx hk => by
      rw [r8 _ _ (by omega), zo _ _ (by omega) (by omega), yf k x hx hk]; exact h0 k x hx hk)
    rw [if_neg (show ¬ i + 1 = 0 by omega), show i + 1 - 1 = i from rfl, updG_ne (show i ≠ i + 1 by omega), updG_self] at ih
    exact ih
theorem x_rd (F : TX iv ad V A o T sd bs n) {d e : Nat} (H : RDok cy iv ad μ0 I V A o T n bs d e) : RDok cy iv ad μ0 I V A o T n bs (d + 2) (e + 1) := by
  intro N X node D r row dp hd hr h10 h12 hN h2
  have hn := F.2.2.2.2.2.2
  obtain ⟨e', m, he, hm, hD⟩ := hd.s (n := n) hr hn
  have he' : e' = e := by omega
  subst he'
  have l1 := hD.1
  rw [f_X7_readDoc_s]
  unfold fo_X7_readDoc
  have l3 := hD.2.2.1
  have one : (1 : Int32) = nI 1 := by decide +kernel
  rw [x_r10 F, Option.bind_some, x_ld F 10 (by decide) (by omega), Option.bind_some, x_of F, Option.bind_some, Option.bind_some, x_ld F 10 (by decide) (by omega), Option.bind_some, h10, x_intAt F (by omega), ob2_some, x_r10 F, Option.bind_some, x_ld F 10 (by decide) (by omega), Option.bind_some, h10, x_r11 F, Option.bind_some, x_st F 11 (by decide) (by omega), Option.bind_some, x_r4 F, Option.bind_some, x_st F 4 (by decide) (by omega), Option.bind_some, l3, nI_p, nI_a4, show nI (D + (r - D)) - 1 = nI (r - 1) by rw [one, nI_sub' (by omega)]; congr 1; omega]
  generalize hZ : updG (updG X 11 (upd (X 11) node 0)) 4 (upd (updG X 11 (upd (X 11) node 0) 4) node (-1)) = Z
  have zo : ∀ k x, (x ≠ node ∨ (k ≠ 4 ∧ k ≠ 11)) → Z k x = X k x := fun k x hk => by
    rw [← hZ]
    by_cases k4 : k = 4
    · subst k4
      rw [updG_self, upd_ne' (by omega), updG_ne (by decide)]
    · rw [updG_ne k4]
      by_cases k11 : k = 11
      · subst k11
        rw [updG_self, upd_ne' (by omega)]
      · rw [updG_ne k11]
  obtain ⟨N', X', c', e1, P, e2, e3, e4⟩ := x_rdL (cy := cy) (μ0 := μ0) (I := I) (dp := dp) (X0 := Z) F H hD hN m 0 FU (fun _ => N) Z (by omega) (by show m < 100000; omega) ⟨rfl, by rw [← hZ, updG_ne (by decide), updG_self, upd_self']; rfl, by rw [← hZ, updG_self, upd_self']; rfl, by rw [zo _ _ (Or.inr ⟨by decide, by decide⟩)]; exact h12, fun t ht => by omega⟩ (by show 2 * N ≤ D + 4 + 2; omega) (fun _ _ _ _ => rfl)
  obtain ⟨p1, p2, p3, p4, p5⟩ := P
  have inc : ∀ t, t < m → c' t < c' (t + 1) := fun t ht => (p5 t ht).1
  have := c_le inc (i := 0) (k := m) (by omega) (Nat.le_refl _)
  refine ⟨N', X', e1, NDoc_s.mpr ⟨m, c', hD, hm, p2, p3, p1, e2, p5⟩, by omega, by rw [hD.2.2.2.2.1] at e3; omega, fun k i hi hk => ?_⟩
  rw [e4 k i hi hk, zo k i hk]
theorem x_rdAll (F : TX iv ad V A o T sd bs n) : ∀ (e d : Nat), 2 * e ≤ d → RDok cy iv ad μ0 I V A o T n bs d e
  | 0, d, _ => fun N X node D r row dp hd => by
    obtain ⟨K, hd⟩ := hd
    cases hd
  | e + 1, d, hd => by
    obtain ⟨d', rfl⟩ : ∃ d', d = d' + 2 := ⟨d - 2, by omega⟩
    exact x_rd F (x_rdAll F e d' (by omega))
theorem tA_id {T : Nat} {A : Nat → Nat → Int32} : tA T A (fun k => A (T + k)) = A := by
  funext j
  unfold tA
  by_cases c : T + 2 ≤ j ∧ j ≤ T + 12
  · rw [if_pos c]
    show A (T + (j - T)) = A j
    rw [show T + (j - T) = j by omega]
  · rw [if_neg c]
/-- the whole tree -/
def TRE (X : Nat → Nat → Int32) (h : Nat → Int32) (n N : Nat) : Prop := NDoc X h n 24 0 0 n false 1 1 N ∧ X 2 0 = 0 ∧ X 3 0 = -1 ∧ X 10 0 = 0 ∧ X 12 0 = 1 ∧ 1 ≤ N ∧ 2 * N ≤ n + 2
def wr0 (X : Nat → Nat → Int32) (f : Nat) (x : Int32) : Nat → Nat → Int32 := updG X f (upd (X f) 0 x)
theorem x_read (hL : Lay iv ad) (hT : isT o T) {i : Nat} (hi : i < 4) (hA : ∀ j, j < n → A (50 + i) j = sx (bs j)) (hB : bB bs) (hn : n ≤ 2400) (hd : dOk (hb bs) 24 0 n false) : ∃ N X, f_X7_read cy (ad o) (ad (50 + i)) (MR cy iv ad μ0 I V A) = some (MT cy iv ad μ0 I (updG V T (.ref (ad (50 + i)))) A T N X) ∧ TRE X (hb bs) n N := by
  have F : TX iv ad (updG V T (.ref (ad (50 + i)))) A o T (50 + i) bs n := ⟨hL, hT, updG_self, ⟨i, hi, rfl⟩, hA, hB, hn⟩
  have dl := hd.le
  unfold f_X7_read
  have one : (1 : Int32) = nI 1 := by decide +kernel
  have z0 : (0 : Int32) = nI 0 := rfl
  rw [m_tof hL hT, Option.bind_some, m_tput hL hT, Option.bind_some]
  have eA : MR cy iv ad μ0 (upd I (T + 1) 1) (updG V T (.ref (ad (50 + i)))) A = MT cy iv ad μ0 I (updG V T (.ref (ad (50 + i)))) A T 1 (fun k => A (T + k)) := by
    show _ = MR cy iv ad μ0 (upd I (T + 1) (nI 1)) _ (tA T A (fun k => A (T + k)))
    rw [tA_id, one]
  rw [eA, z0, x_r2 F, Option.bind_some, x_st F 2 (by decide) (by decide), Option.bind_some, x_r3 F, Option.bind_some, x_st F 3 (by decide) (by decide), Option.bind_some, x_r6 F, Option.bind_some, x_st F 6 (by decide) (by decide), Option.bind_some, x_r7 F, Option.bind_some, x_st F 7 (by decide) (by decide), Option.bind_some, x_r8 F, Option.bind_some, x_st F 8 (by decide) (by decide), Option.bind_some, x_r10 F, Option.bind_some, x_st F 10 (by decide) (by decide), Option.bind_some, x_r12 F, Option.bind_some, x_st F 12 (by decide) (by decide), Option.bind_some, if_pos (x_is F)]
  obtain ⟨N', X', e1, e2, e3, e4, e5⟩ := x_rdAll (cy := cy) (μ0 := μ0) (I := I) F 24 DP (by decide) 1 (wr0 (wr0 (wr0 (wr0 (wr0 (wr0 (wr0 (fun k => A (T + k)) 2 (nI 0)) 3 (-1)) 6 (nI 0)) 7 (nI 0)) 8 (nI 0)) 10 (nI 0)) 12 1) 0 0 n false 1 hd (Nat.le_refl _) (by simp [wr0, updG, upd]) (by simp [wr0, updG, upd, one]) (by decide) (by decide)
  unfold wr0 at e1
  rw [e1, Option.bind_some, x_r9 F, Option.bind_some, x_of F, Option.bind_some, x_intAt F (by omega), ob2_some, x_st F 9 (by decide) (by decide), Option.bind_some]
  refine ⟨N', _, rfl, NDoc.congr 24 e2 (by rw [updG_ne (by decide)]) (by rw [updG_ne (by decide)]) (fun k x a1 a2 => ?_), ?_, ?_, ?_, ?_, e3, e4⟩
  · by_cases k9 : k = 9
    · subst k9
      rw [updG_self, upd_ne' (by omega)]
    · rw [updG_ne k9]
  · rw [updG_ne (by decide), e5 _ _ (by decide) (Or.inr ⟨by decide, by decide⟩)]
    simp [wr0, updG, upd]
    rfl
  · rw [updG_ne (by decide), e5 _ _ (by decide) (Or.inr ⟨by decide, by decide⟩)]
    simp [wr0, updG, upd]
  · rw [updG_ne (by decide), e5 _ _ (by decide) (Or.inr ⟨by decide, by decide⟩)]
    simp [wr0, updG, upd]
    rfl
  · rw [updG_ne (by decide), e5 _ _ (by decide) (Or.inr ⟨by decide, by decide⟩)]
    simp [wr0, updG, upd]
end TR3
