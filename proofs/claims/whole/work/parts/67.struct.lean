/-! PURE ROWS: good DOCUMENTS, ELEMENTS and VALUES, each with its own end as the wall. -/
theorem ag.rf {h : Nat → Int32} {p L : Nat} : ag h h p p L := fun _ _ => rfl
def dOk (h : Nat → Int32) (e p r : Nat) (row : Bool) : Prop := jOk (jDoc h (-1) e K0 p r row) r
def eOk (h : Nat → Int32) (e q r : Nat) (rw : Option Nat) : Prop := jOk (jEl h (-1) (jDoc h (-1) e) K0 q r rw) r
def vOk (h : Nat → Int32) (e : Nat) (t : Int32) (p r : Nat) : Prop := jOk (jVal h (jDoc h (-1) e) K0 t p r) r
def nmOk (h : Nat → Int32) (p z : Nat) (rw : Option Nat) : Prop := match rw with
  | none => bad h (z - p) p z = none
  | some v => rowN h p z v
def txOk (h : Nat → Int32) (p r : Nat) : Prop := jOk (jT h K0 p r) r
def rwo (row : Bool) (i : Nat) : Option Nat := if row then some i else none
/-- the place of an ELEMENT's VALUE; where a VALUE ends; where an ELEMENT ends; the ELEMENTS of a DOCUMENT -/
def vpl (h : Nat → Int32) (n q : Nat) : Nat := bn h n (q + 1)
def bv (h : Nat → Int32) (n : Nat) (t : Int32) (p : Nat) : Nat := if t = 2 ∨ t = 13 ∨ t = 14 then p + 4 + (i4 h p).toInt.toNat else if t = 3 ∨ t = 4 ∨ t = 15 then p + (i4 h p).toInt.toNat else if t = 5 then p + 5 + (i4 h p).toInt.toNat else if t = 11 then bn h n (bn h n p) else if t = 12 then p + 16 + (i4 h p).toInt.toNat else p + wd t
def nx (h : Nat → Int32) (n q : Nat) : Nat := bv h n (h q) (vpl h n q)
def st (h : Nat → Int32) (n D : Nat) : Nat → Nat
  | 0 => D + 4
  | i + 1 => nx h n (st h n D i)
/-- the place of the DOCUMENT in a VALUE -/
def dcIn (h : Nat → Int32) (t : Int32) (p : Nat) : Nat := if t = 15 then p + 8 + (i4 h (p + 4)).toInt.toNat else p
section STR
variable {h h' : Nat → Int32} {n e : Nat}
theorem jOk.u {J : JR} {q q' : Nat} (h1 : jOk J q) (h2 : jOk J q') : q = q' := by
  obtain ⟨K1, h1⟩ := h1
  obtain ⟨K2, h2⟩ := h2
  rw [h1] at h2
  cases h2
  rfl
theorem dOk.of {wt : Int32} {K : Kt} {p w r : Nat} {row : Bool} (z : jOk (jDoc h wt e K p w row) r) : dOk h e p r row := by
  obtain ⟨K', z'⟩ := z
  have b := jDoc_b e _ _ _ _ _ _ z'
  have := tr_Doc (h := h) (h' := h) (wt := wt) (wt' := -1) e e (Nat.le_refl _) K K0 p w row r p r ⟨K', z'⟩ ag.rf (by omega)
  rw [show p + (r - p) = r by omega] at this
  exact this
theorem vOk.of {wt : Int32} {K : Kt} {t : Int32} {p w r : Nat} (z : jOk (jVal h (jDoc h wt e) K t p w) r) : vOk h e t p r := by
  obtain ⟨K', z'⟩ := z
  have b := jVal_b (jDoc_b e) z'
  have := tr_Val (h := h) (h' := h) (K2 := K0) (p' := p) (w' := r) (jDoc_b e) (tr_Doc (wt := wt) (wt' := -1) e e (Nat.le_refl _)) ⟨K', z'⟩ ag.rf (by omega)
  rw [show p + (r - p) = r by omega] at this
  exact this
theorem eOk.of {wt : Int32} {K : Kt} {q w r : Nat} {rw : Option Nat} (z : jOk (jEl h wt (jDoc h wt e) K q w rw) r) : eOk h e q r rw := by
  obtain ⟨K', z'⟩ := z
  obtain ⟨-, q1, h1, h2, h3, -⟩ := jEl_s (jDoc_b e) z'
  have := tr_El (h := h) (h' := h) (wt' := -1) (K2 := K0) (p' := q) (w' := r) (jDoc_b e) (tr_Doc (wt := wt) (wt' := -1) e e (Nat.le_refl _)) ⟨K', z'⟩ ag.rf (by omega)
  rw [show q + (r - q) = r by omega] at this
  exact this
theorem txOk.of {K : Kt} {p w r : Nat} (z : jOk (jT h K p w) r) : txOk h p r := by
  obtain ⟨K', z'⟩ := z
  obtain ⟨N, h1, h2, h3, h4, -⟩ := jT_b z'
  have := tr_T (h := h) (h' := h) (K2 := K0) (p' := p) (w' := r) ⟨K', z'⟩ ag.rf (by omega)
  rw [show p + (r - p) = r by omega] at this
  exact this
/-! going over -/
theorem dOk.le {p r : Nat} {row : Bool} (z : dOk h e p r row) : p + 5 ≤ r := by
  obtain ⟨K', z⟩ := z
  exact (jDoc_b e _ _ _ _ _ _ z).1
theorem vOk.le {t : Int32} {p r : Nat} (z : vOk h e t p r) : p ≤ r := by
  obtain ⟨K', z⟩ := z
  exact (jVal_b (jDoc_b e) z).1
theorem eOk.le {q r : Nat} {rw : Option Nat} (z : eOk h e q r rw) : q + 2 ≤ r := by
  obtain ⟨K', z⟩ := z
  obtain ⟨-, q1, h1, h2, h3, -⟩ := jEl_s (jDoc_b e) z
  omega
theorem txOk.le {p r : Nat} (z : txOk h p r) : ∃ N, 1 ≤ N ∧ N < 2 ^ 31 ∧ i4 h p = nI N ∧ r = p + 4 + N := by
  obtain ⟨K', z⟩ := z
  obtain ⟨N, h1, h2, h3, h4, -⟩ := jT_b z
  rcases i4_or (i4 h p) 1 (by decide) with ⟨e1, e2⟩ | ⟨M, e1, e2, e3⟩
  · unfold jT at z
    split at z
    · cases z
    · rw [if_pos (show (i4 h p).toInt < 1 from e2)] at z
      cases z
  · unfold jT at z
    have eM : (i4 h p).toInt.toNat = M := by rw [e3, nI_toInt e2]; omega
    rw [eM] at z
    split at z
    · cases z
    · split at z
      · cases z
      · split at z
        · cases z
        · split at z
          · cases z
          · split at z
            · cases z
            · cases z
              exact ⟨M, e1, e2, e3, by omega⟩
theorem dOk.go {e' p r p' r' : Nat} {row : Bool} (z : dOk h e p r row) (he : e ≤ e') (a : ag h h' p p' (r - p)) (hr : r' = p' + (r - p)) : dOk h' e' p' r' row := by
  subst hr
  exact tr_Doc e e' he _ _ _ _ _ _ _ _ z a (Nat.le_refl _)
theorem vOk.go {e' p r p' r' : Nat} {t : Int32} (z : vOk h e t p r) (he : e ≤ e') (a : ag h h' p p' (r - p)) (hr : r' = p' + (r - p)) : vOk h' e' t p' r' := by
  subst hr
  exact tr_Val (jDoc_b e) (tr_Doc e e' he) z a (Nat.le_refl _)
theorem eOk.go {e' q r q' r' : Nat} {rw : Option Nat} (z : eOk h e q r rw) (he : e ≤ e') (a : ag h h' q q' (r - q)) (hr : r' = q' + (r - q)) : eOk h' e' q' r' rw := by
  subst hr
  exact tr_El (jDoc_b e) (tr_Doc e e' he) z a (Nat.le_refl _)
theorem txOk.go {p r p' r' : Nat} (z : txOk h p r) (a : ag h h' p p' (r - p)) (hr : r' = p' + (r - p)) : txOk h' p' r' := by
  subst hr
  exact tr_T z a (Nat.le_refl _)
theorem nmOk.go {p z p' z' : Nat} {rw : Option Nat} (y : nmOk h p z rw) (a : ag h h' p p' (z - p)) (hp : p ≤ z) (hz : z' = p' + (z - p)) : nmOk h' p' z' rw := by
  cases rw with
  | none =>
    show bad h' (z' - p') p' z' = none
    rw [show z' - p' = z - p by omega]
    exact tr_bad a hz hp y
  | some v => exact tr_rowN a hz y
/-! names -/
theorem bn_of {p z : Nat} (hz : h z = 0) (hp : p ≤ z) (hn : z < n) (hne : ∀ j, p ≤ j → j < z → h j ≠ 0) : bn h n p = z + 1 := by
  unfold bn
  cases ez : zf h p (n - p) with
  | none => exact absurd hz (zf_none ez z hp (by omega))
  | some y =>
    obtain ⟨h1, h2, h3, h4⟩ := zf_some ez
    show y + 1 = z + 1
    rcases Nat.lt_trichotomy y z with q | q | q
    · exact absurd h3 (hne y h1 q)
    · rw [q]
    · exact absurd hz (h4 z hp q)
theorem zf_of : ∀ {k p z : Nat}, h z = 0 → p ≤ z → z < p + k → (∀ j, p ≤ j → j < z → h j ≠ 0) → zf h p k = some z
  | 0, p, z, _, h1, h2, _ => by omega
  | k + 1, p, z, hz, h1, h2, hne => by
    unfold zf
    by_cases c : h p = 0
    · rw [if_pos c]
      rcases Nat.lt_or_ge p z with q | q
      · exact absurd c (hne p (Nat.le_refl p) q)
      · congr 1; omega
    · rw [if_neg c]
      have : p ≠ z := fun q => c (q ▸ hz)
      exact zf_of hz (by omega) (by omega) (fun j a1 a2 => hne j (by omega) a2)
/-- a NAME, with its 0 at z -/
def nmZ (h : Nat → Int32) (p z : Nat) (rw : Option Nat) : Prop := p ≤ z ∧ h z = 0 ∧ (∀ j, p ≤ j → j < z → h j ≠ 0) ∧ nmOk h p z rw
theorem jNm_s {K K' : Kt} {p w q : Nat} {rw : Option Nat} (y : jNm h K p w rw = .inr (q, K')) : nmZ h p (q - 1) rw ∧ p < q ∧ q ≤ w := by
  have g := jNm_b y
  have z := zf_some g.2.2.2
  refine ⟨⟨by omega, z.2.2.1, z.2.2.2, ?_⟩, g.1, g.2.1⟩
  cases rw with
  | none => exact (jN_b y).2.2.2.2
  | some v => exact (jRN_b y).2.2.2.2
theorem jNm_m {K : Kt} {p z w : Nat} {rw : Option Nat} (y : nmZ h p z rw) (hw : z < w) : jNm h K p w rw = .inr (z + 1, K) := by
  obtain ⟨h1, h2, h3, h4⟩ := y
  have ez : zf h p (w - p) = some z := zf_of h2 h1 (by omega) h3
  cases rw with
  | none =>
    unfold jNm jN
    rw [ez]
    show (match bad h (z - p) p z with | some q => (Sum.inl (5, q) : JR) | none => Sum.inr (z + 1, K)) = _
    rw [show bad h (z - p) p z = none from h4]
  | some v =>
    unfold jNm jRN
    rw [ez]
    exact if_pos h4
theorem nmZ.go {p z p' z' : Nat} {rw : Option Nat} (y : nmZ h p z rw) (a : ag h h' p p' (z + 1 - p)) (hz : z' = p' + (z - p)) : nmZ h' p' z' rw := by
  obtain ⟨h1, h2, h3, h4⟩ := y
  refine ⟨by omega, ?_, fun j a1 a2 => ?_, h4.go (a.subA (Nat.le_refl _) (by omega) (by omega)) h1 hz⟩
  · rw [hz, a.at' (j := z) h1 (by omega)]
    exact h2
  · have := a.at' (j := p + (j - p')) (by omega) (by omega)
    rw [show p' + (p + (j - p') - p) = j by omega] at this
    rw [this]
    exact h3 _ (by omega) (by omega)
/-! VALUES -/
theorem dOk.len {p r : Nat} {row : Bool} (z : dOk h e p r row) : r - p < 2 ^ 31 ∧ i4 h p = nI (r - p) ∧ h (r - 1) = 0 := by
  obtain ⟨K', z⟩ := z
  match e, z with
  | 0, z => cases z
  | e + 1, z =>
    obtain ⟨N, h1, hN, h2, h3, h4, h5, -⟩ := jBody_b z
    rw [show r - p = N by omega, h3]
    exact ⟨hN, h2, h5⟩
theorem vOk.s15 {p r : Nat} (z : vOk h e 15 p r) : ∃ M, 1 ≤ M ∧ M < 2 ^ 31 ∧ r - p < 2 ^ 31 ∧ 14 ≤ r - p ∧ i4 h p = nI (r - p) ∧ i4 h (p + 4) = nI M ∧ txOk h (p + 4) (p + 8 + M) ∧ dOk h e (p + 8 + M) r false := by
  obtain ⟨K', z⟩ := z
  have z : jSc h (jDoc h (-1) e) (jT h) K0 p r = .inr (r, K') := z
  obtain ⟨N, h1, hN, h2, h3, h4, q1, K1, h5, h6⟩ := jSc_b (jDoc_b e) z
  obtain ⟨M, g1, g2, g3, g4⟩ := (txOk.of ⟨_, h5⟩).le
  refine ⟨M, g1, g2, by omega, by omega, by rw [h2]; congr 1; omega, g3, ?_, ?_⟩
  · have := txOk.of ⟨_, h5⟩
    rw [g4, show p + 4 + 4 + M = p + 8 + M by omega] at this
    exact this
  · have := dOk.of ⟨_, h6⟩
    rw [g4, show p + 4 + 4 + M = p + 8 + M by omega] at this
    exact this
theorem vOk.m15 {p r M : Nat} (h1 : r - p < 2 ^ 31) (h2 : 14 ≤ r - p) (h3 : i4 h p = nI (r - p)) (h4 : txOk h (p + 4) (p + 8 + M)) (h5 : dOk h e (p + 8 + M) r false) : vOk h e 15 p r := by
  show jOk (jSc h (jDoc h (-1) e) (jT h) K0 p r) r
  unfold jSc
  have eN : (i4 h p).toInt.toNat = r - p := by rw [h3, nI_toInt h1]; omega
  have l5 := h5.le
  rw [eN, if_neg (by omega), if_neg (by rw [h3, nI_toInt h1]; omega), if_neg (by omega), show p + (r - p) = r by omega]
  have t := tr_T (h := h) (h' := h) (K2 := kLen K0 (i4 h p)) (p' := p + 4) (w' := r) h4 ag.rf (by omega)
  rw [show p + 4 + (p + 8 + M - (p + 4)) = p + 8 + M by omega] at t
  refine jOk.t t (fun K1 => ?_)
  have d := tr_Doc (h := h) (h' := h) (wt := -1) (wt' := -1) e e (Nat.le_refl _) _ K1 _ _ _ _ (p + 8 + M) r h5 ag.rf (by omega)
  rw [show p + 8 + M + (r - (p + 8 + M)) = r by omega] at d
  refine jOk.t d (fun K2 => ?_)
  rw [if_pos rfl]
  exact ⟨_, rfl⟩
theorem vOk.s34 {t : Int32} {p r : Nat} (ht : t = 3 ∨ t = 4) (z : vOk h e t p r) : dOk h e p r (t == 4) := by
  rcases ht with rfl | rfl
  · exact z
  · exact z
theorem vOk.m34 {t : Int32} {p r : Nat} (ht : t = 3 ∨ t = 4) (z : dOk h e p r (t == 4)) : vOk h e t p r := by
  rcases ht with rfl | rfl
  · exact z
  · exact z
/-- the DOCUMENT in a VALUE -/
theorem vOk.doc {t : Int32} {p r : Nat} (ht : hasD t) (z : vOk h e t p r) : dOk h e (dcIn h t p) r (t == 4) ∧ p ≤ dcIn h t p := by
  rcases ht with rfl | rfl | rfl
  · exact ⟨z.s34 (Or.inl rfl), Nat.le_refl _⟩
  · exact ⟨z.s34 (Or.inr rfl), Nat.le_refl _⟩
  · obtain ⟨M, h1, h2, h3, h4, h5, h6, h7, h8⟩ := z.s15
    have e1 : dcIn h 15 p = p + 8 + M := by
      unfold dcIn
      rw [if_pos rfl, h6, nI_toInt h2]
      omega
    rw [e1]
    exact ⟨h8, by omega⟩
theorem vOk.be {t : Int32} {p r : Nat} (z : vOk h e t p r) (hn : r ≤ n) : bv h n t p = r := by
  obtain ⟨K', z⟩ := z
  unfold bv
  unfold jVal at z
  by_cases c1 : t = 2 ∨ t = 13 ∨ t = 14
  · rw [if_pos c1] at z ⊢
    obtain ⟨N, h1, hN, h2, h3⟩ := (txOk.of ⟨_, z⟩).le
    rw [h2, nI_toInt hN]
    omega
  · rw [if_neg c1] at z ⊢
    have hd : ∀ row, jDoc h (-1) e K0 p r row = .inr (r, K') → p + (i4 h p).toInt.toNat = r := fun row y => by
      have d : dOk h e p r row := dOk.of ⟨_, y⟩
      have l := d.len
      have l2 := d.le
      rw [l.2.1, nI_toInt l.1]
      omega
    by_cases c2 : t = 3
    · rw [if_pos c2] at z
      rw [if_pos (Or.inl c2)]
      exact hd _ z
    · rw [if_neg c2] at z
      by_cases c3 : t = 4
      · rw [if_pos c3] at z
        rw [if_pos (Or.inr (Or.inl c3))]
        exact hd _ z
      · rw [if_neg c3] at z
        by_cases c8 : t = 15
        · subst c8
          rw [if_pos (Or.inr (Or.inr rfl))]
          obtain ⟨M, h1, h2, h3, h4, h5, -⟩ := (vOk.of (h := h) (e := e) (t := 15) ⟨K', z⟩).s15
          rw [h5, nI_toInt h3]
          omega
        · rw [if_neg (fun q => by rcases q with q | q | q; exact c2 q; exact c3 q; exact c8 q)]
          by_cases c4 : t = 5
          · rw [if_pos c4] at z ⊢
            obtain ⟨N, hN, h2, h3, h4, -⟩ := jBin_b z
            rw [h2, nI_toInt hN]
            omega
          · rw [if_neg c4] at z ⊢
            by_cases c5 : t = 8
            · rw [if_pos c5] at z
              subst c5
              have := jBool_b z
              rw [if_neg (by decide), if_neg (by decide)]
              show p + 1 = r
              omega
            · rw [if_neg c5] at z
              by_cases c6 : t = 11
              · rw [if_pos c6] at z ⊢
                obtain ⟨q1, K1, e5, e6⟩ := jThen_b z
                have g1 := jNm_s (rw := none) e5
                have g2 := jNm_s (rw := none) e6
                rw [bn_of (z := q1 - 1) g1.1.2.1 g1.1.1 (by omega) g1.1.2.2.1, show q1 - 1 + 1 = q1 by omega, bn_of (z := r - 1) g2.1.2.1 g2.1.1 (by omega) g2.1.2.2.1]
                omega
              · rw [if_neg c6] at z ⊢
                by_cases c7 : t = 12
                · rw [if_pos c7] at z ⊢
                  obtain ⟨q1, K1, e5, e6⟩ := jThen_b z
                  obtain ⟨N, h1, hN, h2, h3⟩ := (txOk.of ⟨_, e5⟩).le
                  have := jB_b e6
                  rw [h2, nI_toInt hN]
                  omega
                · rw [if_neg c7, if_neg c8] at z
                  rw [if_neg c7]
                  exact (jB_b z).1.symm
/-! ELEMENTS -/
theorem eOk.s {q r : Nat} {rw : Option Nat} (z : eOk h e q r rw) (hn : r ≤ n) : isTy (h q) ∧ q + 2 ≤ vpl h n q ∧ vpl h n q ≤ r ∧ nmZ h (q + 1) (vpl h n q - 1) rw ∧ vOk h e (h q) (vpl h n q) r ∧ nx h n q = r := by
  obtain ⟨K', z⟩ := z
  obtain ⟨ht, q1, h1, h2, h3, h4, h5, h6⟩ := jEl_s (jDoc_b e) z
  have g := jNm_s h5
  have e1 : vpl h n q = q1 := by
    unfold vpl
    rw [bn_of (z := q1 - 1) g.1.2.1 g.1.1 (by omega) g.1.2.2.1]
    omega
  rw [e1]
  have v : vOk h e (h q) q1 r := vOk.of ⟨_, h6⟩
  refine ⟨ht, h1, h2, g.1, v, ?_⟩
  unfold nx
  rw [e1]
  exact v.be hn
theorem eOk.m {q r z : Nat} {rw : Option Nat} (ht : isTy (h q)) (hz : nmZ h (q + 1) z rw) (hv : vOk h e (h q) (z + 1) r) : eOk h e q r rw := by
  have l := hv.le
  show jOk (jEl h (-1) (jDoc h (-1) e) K0 q r rw) r
  unfold jEl
  rw [if_pos ht, jNm_m hz (by omega)]
  show jOk (jVal h (jDoc h (-1) e) (kEl K0 (nI (z + 1 - q - 2)) (if h q = -1 then 1 else 0)) (h q) (z + 1) r) r
  have := tr_Val (h := h) (h' := h) (K2 := kEl K0 (nI (z + 1 - q - 2)) (if h q = -1 then 1 else 0)) (p' := z + 1) (w' := r) (jDoc_b e) (tr_Doc (wt' := -1) e e (Nat.le_refl _)) hv ag.rf (by omega)
  rw [show z + 1 + (r - (z + 1)) = r by omega] at this
  exact this
/-! DOCUMENTS -/
theorem jLoop_s (hn : n ≤ 2400) : ∀ (f : Nat) (K K' : Kt) (q last v r : Nat) (row : Bool), q ≤ last → last < n → last - q < 2 * f → jLoop h (-1) (jDoc h (-1) e) f K q last row v = .inr (r, K') → r = last ∧ ∃ m, m ≤ f ∧ (∀ s : Nat → Nat, s 0 = q → (∀ i, i < m → s (i + 1) = nx h n (s i)) → s m = last ∧ ∀ i, i < m → eOk h e (s i) (s (i + 1)) (rwo row (v + i)))
  | 0, K, K', q, last, v, r, row, h1, h2, h3, z => by omega
  | f + 1, K, K', q, last, v, r, row, h1, h2, h3, z => by
    unfold jLoop at z
    by_cases c : last ≤ q
    · rw [if_pos c] at z
      cases z
      refine ⟨by omega, 0, by omega, fun s h0 _ => ⟨by omega, fun i hi => by omega⟩⟩
    · rw [if_neg c] at z
      obtain ⟨q1, K1, e5, e6⟩ := jThen_b z
      have g0 : eOk h e q q1 (rwo row v) := eOk.of ⟨_, e5⟩
      obtain ⟨-, q2, g1, g2, g3, -⟩ := jEl_s (jDoc_b e) e5
      obtain ⟨a1, m, a2, a3⟩ := jLoop_s hn f K1 K' q1 last (v + 1) r row (by omega) h2 (by omega) e6
      refine ⟨a1, m + 1, by omega, fun s hs0 hs => ?_⟩
      have e1 : s 1 = q1 := by
        rw [hs 0 (by omega), hs0]
        exact (g0.s (n := n) (by omega)).2.2.2.2.2
      obtain ⟨b1, b2⟩ := a3 (fun i => s (i + 1)) e1 (fun i hi => hs (i + 1) (by omega))
      refine ⟨b1, fun i hi => ?_⟩
      match i, hi with
      | 0, _ => rw [hs0, show (0 + 1) = 1 from rfl, e1]; exact g0
      | i + 1, hi =>
        have := b2 i (by omega)
        rw [show v + 1 + i = v + (i + 1) by omega] at this
        exact this
/-- the ELEMENTS of a DOCUMENT at D that ends at r, m of them -/
def DC (h : Nat → Int32) (n e D r : Nat) (row : Bool) (m : Nat) : Prop := D + 5 ≤ r ∧ r ≤ n ∧ i4 h D = nI (r - D) ∧ h (r - 1) = 0 ∧ st h n D m = r - 1 ∧ ∀ i, i < m → eOk h e (st h n D i) (st h n D (i + 1)) (rwo row i)
theorem dOk.s {D r : Nat} {row : Bool} (z : dOk h e D r row) (hr : r ≤ n) (hn : n ≤ 2400) : ∃ e' m, e = e' + 1 ∧ m < 1200 ∧ DC h n e' D r row m := by
  obtain ⟨K', z⟩ := z
  match e, z with
  | 0, z => cases z
  | e + 1, z =>
    obtain ⟨N, h1, hN, h2, h3, h4, h5, q1, h6⟩ := jBody_b z
    obtain ⟨a1, m, a2, a3⟩ := jLoop_s hn 1200 _ _ (D + 4) (D + N - 1) 0 q1 row (by omega) (by omega) (by omega) h6
    obtain ⟨b1, b2⟩ := a3 (st h n D) rfl (fun i hi => rfl)
    have hs : ∀ i, i ≤ m → D + 4 + 2 * i ≤ st h n D i := by
      intro i
      induction i with
      | zero => intro _; exact Nat.le_refl _
      | succ i ih =>
        intro hi
        have := (b2 i (by omega)).le
        have := ih (by omega)
        omega
    have := hs m (Nat.le_refl _)
    refine ⟨e, m, rfl, by omega, by omega, by omega, by rw [h2]; congr 1; omega, by rw [h3]; exact h5, by omega, fun i hi => ?_⟩
    have := b2 i hi
    rw [Nat.zero_add] at this
    exact this
theorem jLoop_m : ∀ (f m : Nat) (K : Kt) (s : Nat → Nat) (last v : Nat) (row : Bool), m ≤ f → s m = last → (∀ i, i < m → eOk h e (s i) (s (i + 1)) (rwo row (v + i))) → jOk (jLoop h (-1) (jDoc h (-1) e) f K (s 0) last row v) last
  | 0, m, K, s, last, v, row, hm, hl, _ => by
    have : m = 0 := by omega
    subst this
    rw [hl]
    exact ⟨K, rfl⟩
  | f + 1, 0, K, s, last, v, row, hm, hl, _ => by
    unfold jLoop
    rw [hl, if_pos (Nat.le_refl _)]
    exact ⟨K, rfl⟩
  | f + 1, m + 1, K, s, last, v, row, hm, hl, hs => by
    have mono : ∀ i, i ≤ m + 1 → s 0 + 2 * i ≤ s i := by
      intro i
      induction i with
      | zero => intro _; exact Nat.le_refl _
      | succ i ih =>
        intro hi
        have := (hs i (by omega)).le
        have := ih (by omega)
        omega
    have up : ∀ k, k ≤ m → s 1 ≤ s (k + 1) := by
      intro k
      induction k with
      | zero => intro _; exact Nat.le_refl _
      | succ k ih =>
        intro hk
        have := (hs (k + 1) (by omega)).le
        have := ih (by omega)
        omega
    have m1 := mono (m + 1) (Nat.le_refl _)
    have u1 := up m (Nat.le_refl _)
    unfold jLoop
    rw [if_neg (by omega)]
    have e0 := hs 0 (by omega)
    rw [Nat.add_zero] at e0
    have l0 := e0.le
    have := tr_El (h := h) (h' := h) (wt := -1) (wt' := -1) (K2 := K) (p' := s 0) (w' := last) (jDoc_b e) (tr_Doc (wt' := -1) e e (Nat.le_refl _)) e0 ag.rf (by omega)
    rw [show s 0 + (s (0 + 1) - s 0) = s 1 by show s 0 + (s 1 - s 0) = s 1; have : s 0 + 2 ≤ s 1 := l0; omega] at this
    refine jOk.t this (fun K1 => ?_)
    exact jLoop_m f m K1 (fun i => s (i + 1)) last (v + 1) row (by omega) hl (fun i hi => by
      have := hs (i + 1) (by omega)
      rw [show v + (i + 1) = v + 1 + i by omega] at this
      exact this)
theorem dOk.m {D r m : Nat} {row : Bool} (s : Nat → Nat) (h1 : D + 5 ≤ r) (hr : r - D < 2 ^ 31) (h2 : i4 h D = nI (r - D)) (h3 : h (r - 1) = 0) (hm : m ≤ 1200) (hs0 : s 0 = D + 4) (hsm : s m = r - 1) (hs : ∀ i, i < m → eOk h e (s i) (s (i + 1)) (rwo row i)) : dOk h (e + 1) D r row := by
  show jOk (jBody h (-1) (jDoc h (-1) e) (nI (24 - e)) K0 D r row) r
  unfold jBody
  have eN : (i4 h D).toInt.toNat = r - D := by rw [h2, nI_toInt hr]; omega
  rw [eN, if_neg (by omega), if_neg (by rw [h2, nI_toInt hr]; omega), if_neg (by omega), show D + (r - D) = r by omega]
  have := jLoop_m (h := h) (e := e) 1200 m (kLen (kDoc K0 (nI (24 - e))) (i4 h D)) s (r - 1) 0 row hm hsm (fun i hi => by rw [Nat.zero_add]; exact hs i hi)
  rw [hs0] at this
  refine jOk.t this (fun K1 => ?_)
  rw [if_pos h3]
  exact ⟨_, rfl⟩
theorem DC.dOk {D r m : Nat} {row : Bool} (z : DC h n e D r row m) (hn : n ≤ 2400) (hm : m ≤ 1200) : dOk h (e + 1) D r row := dOk.m (st h n D) z.1 (by have := z.2.1; omega) z.2.2.1 z.2.2.2.1 hm rfl z.2.2.2.2.1 z.2.2.2.2.2
theorem DC.mono {D r m : Nat} {row : Bool} (z : DC h n e D r row m) : ∀ i k, i + k ≤ m → st h n D i + 2 * k ≤ st h n D (i + k)
  | i, 0, _ => Nat.le_refl _
  | i, k + 1, hk => by
    have := DC.mono z i k (by omega)
    have := (z.2.2.2.2.2 (i + k) (by omega)).le
    show st h n D i + 2 * (k + 1) ≤ st h n D (i + k + 1)
    omega
theorem DC.lt {D r m : Nat} {row : Bool} (z : DC h n e D r row m) {i k : Nat} (h1 : i < k) (h2 : k ≤ m) : st h n D i + 2 ≤ st h n D k := by
  have := z.mono i (k - i) (by omega)
  rw [show i + (k - i) = k by omega] at this
  omega
theorem DC.le' {D r m : Nat} {row : Bool} (z : DC h n e D r row m) {i : Nat} (h2 : i ≤ m) : D + 4 + 2 * i ≤ st h n D i ∧ st h n D i ≤ r - 1 := by
  have h1 := z.mono 0 i (by omega)
  rw [Nat.zero_add] at h1
  have h3 := z.mono i (m - i) (by omega)
  rw [show i + (m - i) = m by omega, z.2.2.2.2.1] at h3
  exact ⟨h1, by omega⟩
theorem DC.uniq {D r m r' m' e' : Nat} {row row' : Bool} (z : DC h n e D r row m) (z' : DC h n e' D r' row' m') (hn : n ≤ 2400) : r = r' ∧ m = m' := by
  have e1 : nI (r - D) = nI (r' - D) := by rw [← z.2.2.1, ← z'.2.2.1]
  have := (nI_eq (by have := z.2.1; omega) (by have := z'.2.1; omega)).mp e1
  have er : r = r' := by have := z.1; have := z'.1; omega
  subst er
  refine ⟨rfl, ?_⟩
  rcases Nat.lt_trichotomy m m' with q | q | q
  · have := z'.lt q (Nat.le_refl _)
    rw [z.2.2.2.2.1, z'.2.2.2.2.1] at this
    omega
  · exact q
  · have := z.lt q (Nat.le_refl _)
    rw [z.2.2.2.2.1, z'.2.2.2.2.1] at this
    omega
end STR
