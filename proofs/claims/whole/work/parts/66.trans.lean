/-! PURE ROWS: what is good stays good elsewhere (other bytes around, another place, another wall, other counts). -/
def jOk (J : JR) (q : Nat) : Prop := ∃ K', J = .inr (q, K')
/-- the bytes of h from p on, L of them, are those of h' from p' on -/
def ag (h h' : Nat → Int32) (p p' L : Nat) : Prop := ∀ i, i < L → h' (p' + i) = h (p + i)
theorem ag.sub {h h' : Nat → Int32} {p p' L : Nat} (a : ag h h' p p' L) {d L' : Nat} (hd : d + L' ≤ L) : ag h h' (p + d) (p' + d) L' := fun i hi => by
  have := a (d + i) (by omega)
  rw [← Nat.add_assoc, ← Nat.add_assoc] at this
  exact this
theorem ag.at' {h h' : Nat → Int32} {p p' L : Nat} (a : ag h h' p p' L) {j : Nat} (h1 : p ≤ j) (h2 : j < p + L) : h' (p' + (j - p)) = h j := by
  have := a (j - p) (by omega)
  rw [show p + (j - p) = j by omega] at this
  exact this
theorem ag.subA {h h' : Nat → Int32} {p p' L : Nat} (a : ag h h' p p' L) {q q' L' : Nat} (h1 : p ≤ q) (h2 : q + L' ≤ p + L) (h3 : q' = p' + (q - p)) : ag h h' q q' L' := fun i hi => by
  have := a (q - p + i) (by omega)
  rw [show p + (q - p + i) = q + i by omega, show p' + (q - p + i) = q' + i by omega] at this
  exact this
theorem jOk.b {J : JR} {f : Nat → Kt → JR} {q : Nat} (e : jOk (jThen J f) q) : ∃ q1 K1, J = .inr (q1, K1) ∧ jOk (f q1 K1) q := by
  obtain ⟨K', e⟩ := e
  obtain ⟨q1, K1, h1, h2⟩ := jThen_b e
  exact ⟨q1, K1, h1, K', h2⟩
theorem jOk.t {J : JR} {f : Nat → Kt → JR} {q q1 : Nat} (h1 : jOk J q1) (h2 : ∀ K1, jOk (f q1 K1) q) : jOk (jThen J f) q := by
  obtain ⟨K1, h1⟩ := h1
  rw [h1]
  exact h2 K1
section TRS
variable {h h' : Nat → Int32} {wt wt' : Int32}
theorem i4_ag {p p' : Nat} (a : ag h h' p p' 4) : i4 h' p' = i4 h p := by
  unfold i4
  have h0 := a 0 (by decide)
  have h1 := a 1 (by decide)
  have h2 := a 2 (by decide)
  have h3 := a 3 (by decide)
  rw [Nat.add_zero, Nat.add_zero] at h0
  rw [h0, h1, h2, h3]
theorem tr_B {K K2 : Kt} {p m w q p' w' : Nat} (e : jOk (jB K p m w) q) (hw : p' + (q - p) ≤ w') : jOk (jB K2 p' m w') (p' + (q - p)) := by
  obtain ⟨K', e⟩ := e
  obtain ⟨h1, h2, -⟩ := jB_b e
  refine ⟨K2, ?_⟩
  unfold jB
  rw [if_pos (by omega), show p' + m = p' + (q - p) by omega]
theorem tr_zf : ∀ {k p z p' k' : Nat}, zf h p k = some z → ag h h' p p' (z + 1 - p) → z - p < k' → zf h' p' k' = some (p' + (z - p))
  | 0, p, z, p', k', e, _, _ => by cases e
  | k + 1, p, z, p', k', e, a, hk => by
    match k', hk with
    | 0, hk => omega
    | k' + 1, hk =>
      have hz := zf_some e
      unfold zf at e ⊢
      have h0 : h' p' = h p := by
        have := a 0 (by omega)
        simpa using this
      rw [h0]
      by_cases c : h p = 0
      · rw [if_pos c] at e ⊢
        cases e
        rw [Nat.sub_self, Nat.add_zero]
      · rw [if_neg c] at e ⊢
        have hz2 := zf_some e
        have := tr_zf (p' := p' + 1) (k' := k') e (a.subA (by omega) (by omega) (by omega)) (by omega)
        rw [this]
        congr 1
        omega
theorem sgn_ag {p e p' e' : Nat} (a : ag h h' p p' (e - p)) (hpe : p < e) (he : e' = p' + (e - p)) : sgn h' p' e' = sgn h p e := by
  unfold sgn
  have h0 : h' p' = h p := by
    have := a 0 (by omega)
    simpa using this
  rw [h0]
  cases em : moreOf (h p) with
  | none => rfl
  | some m =>
    show (if e' - p' ≤ m then none else @ite (Option Nat) (sgOk h' p' m) (Classical.propDecidable _) (some (1 + m)) none) = (if e - p ≤ m then none else @ite (Option Nat) (sgOk h p m) (Classical.propDecidable _) (some (1 + m)) none)
    rw [show e' - p' = e - p by omega]
    by_cases c : e - p ≤ m
    · rw [if_pos c, if_pos c]
    · rw [if_neg c, if_neg c]
      refine ite_to ?_
      unfold sgOk
      rw [h0]
      constructor
      · intro z
        exact ⟨fun k a1 a2 => by rw [← a k (by omega)]; exact z.1 k a1 a2, fun a1 => by rw [← a 1 (by omega)]; exact z.2 a1⟩
      · intro z
        exact ⟨fun k a1 a2 => by rw [a k (by omega)]; exact z.1 k a1 a2, fun a1 => by rw [a 1 (by omega)]; exact z.2 a1⟩
theorem tr_bad : ∀ {f p e p' e' : Nat}, ag h h' p p' (e - p) → e' = p' + (e - p) → p ≤ e → bad h f p e = none → bad h' f p' e' = none
  | 0, _, _, _, _, _, _, _, _ => rfl
  | f + 1, p, e, p', e', a, he, hpe, hb => by
    unfold bad at hb ⊢
    by_cases c : e ≤ p
    · rw [if_pos (by omega)]
    · rw [if_neg c] at hb
      rw [if_neg (by omega), sgn_ag a (by omega) he]
      cases es : sgn h p e with
      | none => rw [es] at hb; cases hb
      | some k =>
        rw [es] at hb
        have hk := sgn_le es
        exact tr_bad (a.subA (by omega) (by omega) (by omega)) (by omega) (by omega) hb
theorem tr_N {K K2 : Kt} {p w q p' w' : Nat} (e : jOk (jN h K p w) q) (a : ag h h' p p' (q - p)) (hw : p' + (q - p) ≤ w') : jOk (jN h' K2 p' w') (p' + (q - p)) := by
  obtain ⟨K', e⟩ := e
  obtain ⟨h1, h2, -, h3, h4⟩ := jN_b e
  refine ⟨K2, ?_⟩
  unfold jN
  rw [tr_zf (k' := w' - p') h3 (a.subA (Nat.le_refl _) (by omega) (by omega)) (by omega)]
  show (match bad h' (p' + (q - 1 - p) - p') p' (p' + (q - 1 - p)) with | some q => (Sum.inl (5, q) : JR) | none => Sum.inr (p' + (q - 1 - p) + 1, K2)) = _
  rw [show p' + (q - 1 - p) - p' = q - 1 - p by omega, tr_bad (a.subA (Nat.le_refl _) (by omega) (by omega)) rfl (by omega) h4]
  show Sum.inr (p' + (q - 1 - p) + 1, K2) = _
  rw [show p' + (q - 1 - p) + 1 = p' + (q - p) by omega]
theorem tr_rowN {p z v p' z' : Nat} (a : ag h h' p p' (z - p)) (hz : z' = p' + (z - p)) (hr : rowN h p z v) : rowN h' p' z' v := by
  obtain ⟨h1, h2⟩ := hr
  refine ⟨by omega, fun k a1 a2 => ?_⟩
  rw [← h2 k a1 a2, ← a.at' (j := z - k) (by omega) (by omega)]
  congr 1
  omega
theorem tr_RN {K K2 : Kt} {p w q p' w' v : Nat} (e : jOk (jRN h K p w v) q) (a : ag h h' p p' (q - p)) (hw : p' + (q - p) ≤ w') : jOk (jRN h' K2 p' w' v) (p' + (q - p)) := by
  obtain ⟨K', e⟩ := e
  obtain ⟨h1, h2, -, h3, h4⟩ := jRN_b e
  refine ⟨K2, ?_⟩
  unfold jRN
  rw [tr_zf (k' := w' - p') h3 (a.subA (Nat.le_refl _) (by omega) (by omega)) (by omega)]
  show (@ite JR (rowN h' p' (p' + (q - 1 - p)) v) (Classical.propDecidable _) (.inr (p' + (q - 1 - p) + 1, K2)) (.inl (6, p'))) = _
  rw [if_pos (tr_rowN (a.subA (Nat.le_refl _) (by omega) (by omega)) rfl h4), show p' + (q - 1 - p) + 1 = p' + (q - p) by omega]
theorem tr_Nm {K K2 : Kt} {p w q p' w' : Nat} {row : Option Nat} (e : jOk (jNm h K p w row) q) (a : ag h h' p p' (q - p)) (hw : p' + (q - p) ≤ w') : jOk (jNm h' K2 p' w' row) (p' + (q - p)) := by
  cases row with
  | none => exact tr_N e a hw
  | some v => exact tr_RN e a hw
theorem tr_T {K K2 : Kt} {p w q p' w' : Nat} (e : jOk (jT h K p w) q) (a : ag h h' p p' (q - p)) (hw : p' + (q - p) ≤ w') : jOk (jT h' K2 p' w') (p' + (q - p)) := by
  obtain ⟨K', e⟩ := e
  obtain ⟨N, h1, h2, h3, h4, h5, h6, -⟩ := jT_b e
  have hN : N < 2 ^ 31 := by
    rcases Nat.lt_or_ge N (2 ^ 31) with z | z
    · exact z
    · unfold jT at e
      rcases i4_or (i4 h p) 1 (by decide) with ⟨e1, e2⟩ | ⟨M, e1, e2, e3⟩
      · split at e
        · cases e
        · rw [if_pos (show (i4 h p).toInt < 1 from e2)] at e
          cases e
      · have eM : (i4 h p).toInt.toNat = M := by rw [e3, nI_toInt e2]; omega
        rw [eM] at e
        split at e
        · cases e
        · split at e
          · cases e
          · split at e
            · cases e
            · split at e
              · cases e
              · split at e
                · cases e
                · cases e
                  omega
  have e4 : i4 h' p' = nI N := by rw [i4_ag (a.subA (Nat.le_refl _) (by omega) (by omega)), h2]
  have eN : (i4 h' p').toInt.toNat = N := by rw [e4, nI_toInt hN]; omega
  refine ⟨kLen K2 (nI N), ?_⟩
  · unfold jT
    rw [eN, e4, if_neg (by omega), if_neg (by rw [nI_toInt hN]; omega), if_neg (by omega), if_neg (by
      rw [Classical.not_not]
      rw [← h5, ← a.at' (j := p + 3 + N) (by omega) (by omega)]
      congr 1
      omega)]
    rw [tr_bad (p' := p' + 4) (e' := p' + 3 + N) (a.subA (by omega) (by omega) (by omega)) (by omega) (by omega) h6]
    show Sum.inr (p' + 3 + N + 1, _) = _
    rw [show p' + 3 + N + 1 = p' + (q - p) by omega]
theorem tr_Bin {K K2 : Kt} {p w q p' w' : Nat} (e : jOk (jBin h K p w) q) (a : ag h h' p p' (q - p)) (hw : p' + (q - p) ≤ w') : jOk (jBin h' K2 p' w') (p' + (q - p)) := by
  obtain ⟨K', e⟩ := e
  obtain ⟨N, hN, h2, h3, h4, h5⟩ := jBin_b e
  have e4 : i4 h' p' = nI N := by rw [i4_ag (a.subA (Nat.le_refl _) (by omega) (by omega)), h2]
  have eN : (i4 h' p').toInt.toNat = N := by rw [e4, nI_toInt hN]; omega
  have e5 : h' (p' + 4) = h (p + 4) := a 4 (by omega)
  unfold jBin
  rw [eN, e4, if_neg (by omega), if_neg (by rw [nI_toInt hN]; omega), if_neg (by omega), e5]
  rcases h5 with ⟨g1, g2, g3, -⟩ | ⟨g1, -⟩
  · rw [if_pos g1, if_neg (by omega), if_pos (by rw [i4_ag (p := p + 5) (a.subA (by omega) (by omega) (by omega)), g3]), show p' + 5 + N = p' + (q - p) by omega]
    exact ⟨_, rfl⟩
  · rw [if_neg g1, show p' + 5 + N = p' + (q - p) by omega]
    exact ⟨_, rfl⟩
theorem tr_Bool {K K2 : Kt} {p w q p' w' : Nat} (e : jOk (jBool h K p w) q) (a : ag h h' p p' (q - p)) (hw : p' + (q - p) ≤ w') : jOk (jBool h' K2 p' w') (p' + (q - p)) := by
  obtain ⟨K', e⟩ := e
  obtain ⟨h1, h2, h3, -⟩ := jBool_b e
  have e5 : h' (p' + 0) = h (p + 0) := a 0 (by omega)
  rw [Nat.add_zero, Nat.add_zero] at e5
  unfold jBool
  rw [if_pos (by omega), e5, if_pos h3, show p' + 1 = p' + (q - p) by omega]
  exact ⟨_, rfl⟩
/-- readings of DOCUMENTS that go over -/
def tR (h h' : Nat → Int32) (RD RD' : RDt) : Prop := ∀ K K2 p w row q p' w', jOk (RD K p w row) q → ag h h' p p' (q - p) → p' + (q - p) ≤ w' → jOk (RD' K2 p' w' row) (p' + (q - p))
variable {RD RD' : RDt}
theorem tr_Sc (hB : okB RD) (hR : tR h h' RD RD') {K K2 : Kt} {p w q p' w' : Nat} (e : jOk (jSc h RD (jT h) K p w) q) (a : ag h h' p p' (q - p)) (hw : p' + (q - p) ≤ w') : jOk (jSc h' RD' (jT h') K2 p' w') (p' + (q - p)) := by
  obtain ⟨K', e⟩ := e
  obtain ⟨N, h1, hN, h2, h3, h4, q1, K1, h5, h6⟩ := jSc_b hB e
  obtain ⟨M, g1, g2, g3, g4, -⟩ := jT_b h5
  have g5 := hB _ _ _ _ _ _ h6
  have e4 : i4 h' p' = nI N := by rw [i4_ag (a.subA (Nat.le_refl _) (by omega) (by omega)), h2]
  have eN : (i4 h' p').toInt.toNat = N := by rw [e4, nI_toInt hN]; omega
  unfold jSc
  rw [eN, e4, if_neg (by omega), if_neg (by rw [nI_toInt hN]; omega), if_neg (by omega)]
  refine jOk.t (tr_T (K2 := kLen K2 (nI N)) (p' := p' + 4) (w' := p' + N) ⟨K1, h5⟩ (a.subA (by omega) (by omega) (by omega)) (by omega)) (fun K3 => ?_)
  refine jOk.t (hR _ K3 _ _ _ _ (p' + 4 + (q1 - (p + 4))) (p' + N) ⟨_, h6⟩ (a.subA (by omega) (by omega) (by omega)) (by omega)) (fun K4 => ?_)
  rw [if_pos (by omega), show p' + 4 + (q1 - (p + 4)) + (q - q1) = p' + (q - p) by omega]
  exact ⟨_, rfl⟩
theorem tr_Val (hB : okB RD) (hR : tR h h' RD RD') {K K2 : Kt} {t : Int32} {p w q p' w' : Nat} (e : jOk (jVal h RD K t p w) q) (a : ag h h' p p' (q - p)) (hw : p' + (q - p) ≤ w') : jOk (jVal h' RD' K2 t p' w') (p' + (q - p)) := by
  unfold jVal at e ⊢
  by_cases c1 : t = 2 ∨ t = 13 ∨ t = 14
  · rw [if_pos c1] at e ⊢
    exact tr_T e a hw
  · rw [if_neg c1] at e ⊢
    by_cases c2 : t = 3
    · rw [if_pos c2] at e ⊢
      exact hR _ _ _ _ _ _ _ _ e a hw
    · rw [if_neg c2] at e ⊢
      by_cases c3 : t = 4
      · rw [if_pos c3] at e ⊢
        exact hR _ _ _ _ _ _ _ _ e a hw
      · rw [if_neg c3] at e ⊢
        by_cases c4 : t = 5
        · rw [if_pos c4] at e ⊢
          exact tr_Bin e a hw
        · rw [if_neg c4] at e ⊢
          by_cases c5 : t = 8
          · rw [if_pos c5] at e ⊢
            exact tr_Bool e a hw
          · rw [if_neg c5] at e ⊢
            by_cases c6 : t = 11
            · rw [if_pos c6] at e ⊢
              obtain ⟨q1, K1, e5, e6⟩ := e.b
              have g1 := jN_b e5
              obtain ⟨K3, e6⟩ := e6
              have g2 := jN_b e6
              refine jOk.t (tr_N (K2 := K2) (p' := p') (w' := w') ⟨_, e5⟩ (a.subA (by omega) (by omega) (by omega)) (by omega)) (fun K4 => ?_)
              have := tr_N (K2 := K4) (p' := p' + (q1 - p)) (w' := w') ⟨_, e6⟩ (a.subA (by omega) (by omega) (by omega)) (by omega)
              rw [show p' + (q1 - p) + (q - q1) = p' + (q - p) by omega] at this
              exact this
            · rw [if_neg c6] at e ⊢
              by_cases c7 : t = 12
              · rw [if_pos c7] at e ⊢
                obtain ⟨q1, K1, e5, e6⟩ := e.b
                obtain ⟨N, n1, n2, n3, n4, -⟩ := jT_b e5
                obtain ⟨K3, e6⟩ := e6
                have g2 := jB_b e6
                refine jOk.t (tr_T (K2 := K2) (p' := p') (w' := w') ⟨_, e5⟩ (a.subA (by omega) (by omega) (by omega)) (by omega)) (fun K4 => ?_)
                have := tr_B (K2 := K4) (p' := p' + (q1 - p)) (w' := w') ⟨_, e6⟩ (by omega)
                rw [show p' + (q1 - p) + (q - q1) = p' + (q - p) by omega] at this
                exact this
              · rw [if_neg c7] at e ⊢
                by_cases c8 : t = 15
                · rw [if_pos c8] at e ⊢
                  exact tr_Sc hB hR e a hw
                · rw [if_neg c8] at e ⊢
                  exact tr_B e hw
theorem tr_El (hB : okB RD) (hR : tR h h' RD RD') {K K2 : Kt} {p w q p' w' : Nat} {row : Option Nat} (e : jOk (jEl h wt RD K p w row) q) (a : ag h h' p p' (q - p)) (hw : p' + (q - p) ≤ w') : jOk (jEl h' wt' RD' K2 p' w' row) (p' + (q - p)) := by
  obtain ⟨K', e⟩ := e
  obtain ⟨ht, q1, h1, h2, h3, h4, h5, h6⟩ := jEl_s hB e
  have e5 : h' (p' + 0) = h (p + 0) := a 0 (by omega)
  rw [Nat.add_zero, Nat.add_zero] at e5
  unfold jEl
  rw [e5, if_pos ht]
  have g := tr_Nm (K2 := K2) (p' := p' + 1) (w' := w') ⟨_, h5⟩ (a.subA (by omega) (by omega) (by omega)) (by omega)
  refine jOk.t g (fun K3 => ?_)
  have := tr_Val (K2 := kEl K3 (nI (p' + 1 + (q1 - (p + 1)) - p' - 2)) (if h p = wt' then 1 else 0)) (p' := p' + 1 + (q1 - (p + 1))) (w' := w') hB hR ⟨_, h6⟩ (a.subA (by omega) (by omega) (by omega)) (by omega)
  rw [show p' + 1 + (q1 - (p + 1)) + (q - q1) = p' + (q - p) by omega] at this
  exact this
theorem tr_Loop (hB : okB RD) (hR : tR h h' RD RD') : ∀ {f : Nat} {K K2 : Kt} {q last e q' last' v : Nat} {row : Bool}, q ≤ last → jOk (jLoop h wt RD f K q last row v) e → ag h h' q q' (last - q) → last' = q' + (last - q) → jOk (jLoop h' wt' RD' f K2 q' last' row v) (q' + (e - q))
  | 0, K, K2, q, last, e, q', last', v, row, hq, he, a, hl => by
    obtain ⟨K', he⟩ := he
    cases he
    rw [Nat.sub_self, Nat.add_zero]
    exact ⟨K2, rfl⟩
  | f + 1, K, K2, q, last, e, q', last', v, row, hq, he, a, hl => by
    unfold jLoop at he ⊢
    by_cases c : last ≤ q
    · rw [if_pos c] at he
      obtain ⟨K', he⟩ := he
      cases he
      rw [if_pos (by omega), Nat.sub_self, Nat.add_zero]
      exact ⟨K2, rfl⟩
    · rw [if_neg c] at he
      rw [if_neg (by omega)]
      obtain ⟨q1, K1, e5, e6⟩ := he.b
      obtain ⟨-, q2, g1, g2, g3, -⟩ := jEl_s hB e5
      obtain ⟨K6, e7⟩ := e6
      have g4 := jLoop_b hB (by omega) e7
      refine jOk.t (tr_El (wt' := wt') (K2 := K2) (p' := q') (w' := last') hB hR ⟨_, e5⟩ (a.subA (by omega) (by omega) (by omega)) (by omega)) (fun K3 => ?_)
      have := tr_Loop hB hR (K2 := K3) (q' := q' + (q1 - q)) (last' := last') (show q1 ≤ last by omega) ⟨_, e7⟩ (a.subA (by omega) (by omega) (by omega)) (by omega)
      rw [show q' + (q1 - q) + (e - q1) = q' + (e - q) by omega] at this
      exact this
theorem tr_Body (hB : okB RD) (hR : tR h h' RD RD') {d d' : Int32} {K K2 : Kt} {p w q p' w' : Nat} {row : Bool} (e : jOk (jBody h wt RD d K p w row) q) (a : ag h h' p p' (q - p)) (hw : p' + (q - p) ≤ w') : jOk (jBody h' wt' RD' d' K2 p' w' row) (p' + (q - p)) := by
  obtain ⟨K', e⟩ := e
  obtain ⟨N, h1, hN, h2, h3, h4, h5, q1, h6⟩ := jBody_b e
  have e4 : i4 h' p' = nI N := by rw [i4_ag (a.subA (Nat.le_refl _) (by omega) (by omega)), h2]
  have eN : (i4 h' p').toInt.toNat = N := by rw [e4, nI_toInt hN]; omega
  unfold jBody
  rw [eN, e4, if_neg (by omega), if_neg (by rw [nI_toInt hN]; omega), if_neg (by omega)]
  have g := tr_Loop hB hR (wt' := wt') (K2 := kLen (kDoc K2 d') (nI N)) (q' := p' + 4) (last' := p' + N - 1) (by omega) ⟨_, h6⟩ (a.subA (by omega) (by omega) (by omega)) (by omega)
  refine jOk.t g (fun K3 => ?_)
  have e6 : h' (p' + N - 1) = 0 := by
    rw [← h5, ← a.at' (j := p + N - 1) (by omega) (by omega)]
    congr 1
    omega
  rw [if_pos e6, show p' + N = p' + (q - p) by omega]
  exact ⟨_, rfl⟩
theorem tr_Doc : ∀ (e e' : Nat), e ≤ e' → tR h h' (jDoc h wt e) (jDoc h' wt' e')
  | 0, e', _ => fun K K2 p w row q p' w' z a hw => by
    obtain ⟨K', z⟩ := z
    cases z
  | e + 1, 0, he => by omega
  | e + 1, e' + 1, he => fun K K2 p w row q p' w' z a hw => tr_Body (jDoc_b e) (tr_Doc e e' (by omega)) z a hw
end TRS
