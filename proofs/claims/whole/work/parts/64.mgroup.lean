/-! PURE ROWS: the reference judges texts, binaries, VALUES, ELEMENTS, DOCUMENTS as jDoc does. -/
theorem jDoc_0 {h : Nat → Int32} {wt : Int32} {K : Kt} {p w : Nat} {row : Bool} : jDoc h wt 0 K p w row = .inl (8, p) := rfl
section MU4
variable {cy : Nat → ClassId} {iv : Nat → Option Nat} {ad : Nat → Nat} {μ0 : Mem} {I : Nat → Int32} {V : Nat → Value} {A : Nat → Nat → Int32} {n : Nat} {b : Nat → Nat} {wt : Int32} {G : Nat → Int32} {K : Kt} {RD : RDt} {dep : Nat}
theorem RN.bind {M : Int32 → Int32 → (Nat → Int32) → Mem} {J : JR} {f : Nat → Kt → JR} {x : Option (Int32 × Mem)} {k : Int32 → Mem → Option (Int32 × Mem)} (h1 : RN M J x) (h2 : ∀ q K G, J = .inr (q, K) → RN M (f q K) (k (nI q) (M 0 (-1) G))) (h3 : ∀ a b G, k (-1) (M a b G) = some (-1, M a b G)) : RN M (jThen J f) (ob2 x k) := by
  cases J with
  | inl e =>
    obtain ⟨G, h1⟩ := h1
    rw [h1, ob2_some, h3]
    exact ⟨G, rfl⟩
  | inr q =>
    obtain ⟨G, h1⟩ := h1
    rw [h1, ob2_some]
    exact h2 q.1 q.2 G rfl
theorem RN.eta {M : Int32 → Int32 → (Nat → Int32) → Mem} {J : JR} {x : Option (Int32 × Mem)} (h1 : RN M J x) : RN M J (ob2 x fun a b => some (a, b)) := by
  cases J with
  | inl e =>
    obtain ⟨G, h1⟩ := h1
    rw [h1]
    exact ⟨G, rfl⟩
  | inr q =>
    obtain ⟨G, h1⟩ := h1
    rw [h1]
    exact ⟨G, rfl⟩
theorem RN.ifI (F : MF iv ad I A n b) {fk fp : Int32} {J : JR} {x y : Option (Int32 × Mem)} (h1 : RN (MJ cy iv ad μ0 I V A) J x) : RN (MJ cy iv ad μ0 I V A) J (if isO (MJ cy iv ad μ0 I V A fk fp G) (ad 0) 7 = true then x else y) := by
  rw [if_pos (MJ.is F)]
  exact h1
/-- the four bytes of a length: either they are there, or the FAULT is told -/
theorem m_four (F : MF iv ad I A n b) {p w : Nat} (hp : p ≤ w) (hw : w ≤ n) {k : Int32 → Mem → Option (Int32 × Mem)} {J : JR} (h3 : ∀ a b G, k (-1) (MJ cy iv ad μ0 I V A a b G) = some (-1, MJ cy iv ad μ0 I V A a b G)) (h2 : p + 4 ≤ w → RN (MJ cy iv ad μ0 I V A) J (k (nI (p + 4)) (MJ cy iv ad μ0 I V A 0 (-1) G))) (h1 : w < p + 4 → J = .inl (1, p)) : RN (MJ cy iv ad μ0 I V A) J (ob2 (f_X8_some cy (ad 0) (nI p) 4 (nI w) (MJ cy iv ad μ0 I V A 0 (-1) G)) k) := by
  have hn := F.2.2.2.2
  unfold f_X8_some
  rw [show (4 : Int32) = nI 4 by decide +kernel, nI_l (by omega), nI_l (by omega), nI_l (by omega), lN_add]
  have q := lg_le (x := p + 4) (y := w) (by omega) (by omega)
  by_cases h4 : p + 4 ≤ w
  · rw [if_pos (q.mpr h4), ob2_some, nI_p]
    exact h2 h4
  · rw [if_neg (fun z => h4 (q.mp z)), if_pos (MJ.is F), m_wrong F, ob2_some, ob2_some, h3, h1 (by omega)]
    exact ⟨G, rfl⟩
theorem m_wr (F : MF iv ad I A n b) {k p : Nat} {x : Int32} (hx : x = nI k) {y : Option (Int32 × Mem)} : RN (MJ cy iv ad μ0 I V A) (.inl (k, p)) (if isO (MJ cy iv ad μ0 I V A 0 (-1) G) (ad 0) 7 = true then (ob2 (f_X8_wrong cy (ad 0) x (nI p) (MJ cy iv ad μ0 I V A 0 (-1) G)) fun a b => some (a, b)) else y) := by
  rw [if_pos (MJ.is F), m_wrong F, ob2_some, hx]
  exact ⟨G, rfl⟩
theorem m_text (F : MF iv ad I A n b) {p w : Nat} (hp : p ≤ w) (hw : w ≤ n) : RN (MJ cy iv ad μ0 I V A) (jT (hb b) K p w) (f_X8_text cy (ad 0) (nI p) (nI w) (MJ cy iv ad μ0 I V A 0 (-1) G)) := by
  have hn := F.2.2.2.2
  unfold f_X8_text
  rw [if_pos (MJ.is F)]
  refine m_four F hp hw (fun a b G => ?_) (fun h4 => ?_) (fun h4 => ?_)
  · rw [if_neg (show ¬ (0 : Int32) ≤ -1 by decide)]
  · unfold jT
    rw [if_pos (nI_pos' (by omega)), MJ.tp F, Option.bind_some, m_intAt F (by omega), ob2_some, if_neg (show ¬ w < p + 4 by omega)]
    rcases i4_or (i4 (hb b) p) 1 (by decide) with ⟨e1, e2⟩ | ⟨N, e1, e2, e3⟩
    · rw [if_pos (show (i4 (hb b) p).toInt < 1 from e2), if_neg (show ¬ (1 : Int32) ≤ i4 (hb b) p from e1)]
      exact m_wr F rfl
    · have eN : (i4 (hb b) p).toInt.toNat = N := by rw [e3, nI_toInt e2]; omega
      rw [eN, e3, if_neg (show ¬ (nI N).toInt < 1 by rw [nI_toInt e2]; omega), if_pos (show (1 : Int32) ≤ nI N from nI_le (a := 1) e1 e2), nI_l (by omega), nI_l e2, nI_l (by omega), show (4 : Int64) = lN 4 by decide +kernel, lN_add, lN_add]
      have q := lg_le (x := p + 4 + N) (y := w) (by omega) (by omega)
      by_cases h5 : w < p + 4 + N
      · rw [if_pos h5, if_neg (fun z => by have := q.mp z; omega)]
        exact m_wr F rfl
      · rw [if_neg h5, if_pos (q.mpr (by omega)), MJ.tp F, Option.bind_some, nI_a3, nI_p, m_rd F (by omega), Option.bind_some]
        have s0 := sx_0 (b (p + 3 + N)) (F.2.2.2.1 _)
        by_cases h6 : hb b (p + 3 + N) = 0
        · rw [if_neg (Classical.not_not.mpr h6), if_pos (s0.mpr h6), if_pos (MJ.is F), nI_a4, m_signs F (by omega) (by omega), show p + 3 + N - (p + 4) = N - 1 by omega]
          cases eb : bad (hb b) (N - 1) (p + 4) (p + 3 + N) with
          | none =>
            show RN _ (.inr (p + 3 + N + 1, _)) (ob2 (some (1, _)) _)
            rw [ob2_some, if_neg (show ¬ (1 : Int32) = 0 by decide), nI_a1]
            exact ⟨G, rfl⟩
          | some q =>
            show RN _ (.inl (5, q)) (ob2 (some (0, _)) _)
            rw [ob2_some, if_pos rfl]
            exact ⟨G, rfl⟩
        · rw [if_pos h6, if_neg (fun z => h6 (s0.mp z))]
          exact m_wr F rfl
  · unfold jT
    rw [if_pos h4]
theorem m_binary (F : MF iv ad I A n b) {p w : Nat} (hp : p ≤ w) (hw : w ≤ n) : RN (MJ cy iv ad μ0 I V A) (jBin (hb b) K p w) (f_X8_binary cy (ad 0) (nI p) (nI w) (MJ cy iv ad μ0 I V A 0 (-1) G)) := by
  have hn := F.2.2.2.2
  unfold f_X8_binary
  rw [if_pos (MJ.is F)]
  refine m_four F hp hw (fun a b G => ?_) (fun h4 => ?_) (fun h4 => ?_)
  · rw [if_neg (show ¬ (0 : Int32) ≤ -1 by decide)]
  · unfold jBin f_X8_binary_L103
    rw [if_pos (nI_pos' (by omega)), MJ.tp F, Option.bind_some, m_intAt F (by omega), ob2_some, if_neg (show ¬ w < p + 4 by omega)]
    rcases i4_or (i4 (hb b) p) 0 (by decide) with ⟨e1, e2⟩ | ⟨N, e1, e2, e3⟩
    · rw [if_pos (show (i4 (hb b) p).toInt < 0 from e2), if_neg (show ¬ (0 : Int32) ≤ i4 (hb b) p from e1)]
      exact m_wr F rfl
    · have eN : (i4 (hb b) p).toInt.toNat = N := by rw [e3, nI_toInt e2]; omega
      rw [eN, e3, if_neg (show ¬ (nI N).toInt < 0 by rw [nI_toInt e2]; omega), if_pos (show (0 : Int32) ≤ nI N from nI_le (a := 0) e1 e2), nI_l (by omega), nI_l e2, nI_l (by omega), show (5 : Int64) = lN 5 by decide +kernel, lN_add, lN_add]
      have q := lg_le (x := p + 5 + N) (y := w) (by omega) (by omega)
      by_cases h5 : w < p + 5 + N
      · rw [if_pos h5, if_neg (fun z => by have := q.mp z; omega)]
        exact m_wr F rfl
      · rw [if_neg h5, if_pos (q.mpr (by omega)), MJ.tp F, Option.bind_some, nI_a4, m_rd F (by omega), Option.bind_some, nI_a5, nI_p]
        have s2 := sx_2 (b (p + 4)) (F.2.2.2.1 _)
        by_cases h6 : hb b (p + 4) = 2
        · rw [if_pos h6, if_pos (s2.mpr h6)]
          by_cases h7 : N < 4
          · rw [if_pos h7, if_neg (show ¬ (4 : Int32) ≤ nI N from nI_ge (b := 4) h7 (by decide))]
            exact m_wr F rfl
          · rw [if_neg h7, if_pos (show (4 : Int32) ≤ nI N from nI_le (a := 4) (by omega) e2), Option.bind_some, m_intAt F (by omega), ob2_some]
            by_cases h8 : i4 (hb b) (p + 5) = nI N - 4
            · rw [if_pos h8, if_pos h8]
              exact ⟨G, rfl⟩
            · rw [if_neg h8, if_neg h8]
              exact m_wr F rfl
        · rw [if_neg h6, if_neg (fun z => h6 (s2.mp z))]
          exact ⟨G, rfl⟩
  · unfold jBin
    rw [if_pos h4]
/-- rd reads DOCUMENTS of the DEPTH dep as RD does -/
def okM (cy : Nat → ClassId) (iv : Nat → Option Nat) (ad : Nat → Nat) (μ0 : Mem) (I : Nat → Int32) (V : Nat → Value) (A : Nat → Nat → Int32) (n : Nat) (RD : RDt) (dep : Nat) (rd : Nat → Int32 → Int32 → Int32 → Int32 → Mem → Option (Int32 × Mem)) : Prop :=
  ∀ K p w row G, p ≤ w → w ≤ n → RN (MJ cy iv ad μ0 I V A) (RD K p w row) (rd (ad 0) (nI p) (nI w) (nI dep) (bI row) (MJ cy iv ad μ0 I V A 0 (-1) G))
variable {rd : Nat → Int32 → Int32 → Int32 → Int32 → Mem → Option (Int32 × Mem)} {rs : Nat → Int32 → Int32 → Int32 → Mem → Option (Int32 × Mem)} {rv re : Nat → Int32 → Int32 → Int32 → Int32 → Mem → Option (Int32 × Mem)}
theorem m_scoped (F : MF iv ad I A n b) (hD : okM cy iv ad μ0 I V A n RD (dep + 1) rd) (hB : okB RD) {p w : Nat} (hp : p ≤ w) (hw : w ≤ n) : RN (MJ cy iv ad μ0 I V A) (jSc (hb b) RD (jT (hb b)) K p w) (fo_X8_scoped cy rd (ad 0) (nI p) (nI w) (nI dep) (MJ cy iv ad μ0 I V A 0 (-1) G)) := by
  have hn := F.2.2.2.2
  unfold fo_X8_scoped
  rw [if_pos (MJ.is F)]
  refine m_four F hp hw (fun a b G => ?_) (fun h4 => ?_) (fun h4 => ?_)
  · rw [if_neg (show ¬ (0 : Int32) ≤ -1 by decide)]
  · unfold jSc
    rw [if_pos (nI_pos' (by omega)), MJ.tp F, Option.bind_some, m_intAt F (by omega), ob2_some, if_neg (show ¬ w < p + 4 by omega)]
    rcases i4_or (i4 (hb b) p) 14 (by decide) with ⟨e1, e2⟩ | ⟨N, e1, e2, e3⟩
    · rw [if_pos (show (i4 (hb b) p).toInt < 14 from e2), if_neg (show ¬ (14 : Int32) ≤ i4 (hb b) p from e1)]
      exact m_wr F rfl
    · have eN : (i4 (hb b) p).toInt.toNat = N := by rw [e3, nI_toInt e2]; omega
      rw [eN, e3, if_neg (show ¬ (nI N).toInt < 14 by rw [nI_toInt e2]; omega), if_pos (show (14 : Int32) ≤ nI N from nI_le (a := 14) e1 e2), nI_l (by omega), nI_l e2, nI_l (by omega), lN_add]
      have q := lg_le (x := p + N) (y := w) (by omega) (by omega)
      by_cases h5 : w < p + N
      · rw [if_pos h5, if_neg (fun z => by have := q.mp z; omega)]
        exact m_wr F rfl
      · rw [if_neg h5, if_pos (q.mpr (by omega)), if_pos (MJ.is F), nI_a4, nI_p, nI_a1]
        refine RN.bind (m_text F (by omega) (by omega)) (fun q K1 G1 e5 => ?_) (fun a b G1 => ?_)
        · obtain ⟨M, g1, g2, g3, g4, -⟩ := jT_b e5
          rw [if_pos (nI_pos' (by omega)), if_pos (MJ.is F)]
          refine RN.bind (hD K1 q (p + N) false G1 (by omega) (by omega)) (fun q2 K2 G2 e6 => ?_) (fun a b G2 => ?_)
          · have g5 := hB _ _ _ _ _ _ e6
            rw [if_pos (nI_pos' (by omega))]
            by_cases h7 : q2 = p + N
            · rw [if_pos h7, if_pos (by rw [h7])]
              exact ⟨G2, rfl⟩
            · rw [if_neg h7, if_neg (fun z => h7 ((nI_eq (by omega) (by omega)).mp z))]
              exact m_wr F rfl
          · rw [if_neg (show ¬ (0 : Int32) ≤ -1 by decide)]
        · rw [if_neg (show ¬ (0 : Int32) ≤ -1 by decide)]
  · unfold jSc
    rw [if_pos h4]
theorem m_val (F : MF iv ad I A n b) (hD : okM cy iv ad μ0 I V A n RD (dep + 1) rd) (hS : ∀ K p w G, p ≤ w → w ≤ n → RN (MJ cy iv ad μ0 I V A) (jSc (hb b) RD (jT (hb b)) K p w) (rs (ad 0) (nI p) (nI w) (nI dep) (MJ cy iv ad μ0 I V A 0 (-1) G))) {t : Int32} {p w : Nat} (hp : p ≤ w) (hw : w ≤ n) :
    RN (MJ cy iv ad μ0 I V A) (jVal (hb b) RD K t p w) (fo_X8_value cy rd rs (ad 0) t (nI p) (nI w) (nI dep) (MJ cy iv ad μ0 I V A 0 (-1) G)) := by
  have hn := F.2.2.2.2
  have hSm : ∀ (x : Int32) (k : Nat), x = nI k → k ≤ 100 → RN (MJ cy iv ad μ0 I V A) (jB K p k w) (if isO (MJ cy iv ad μ0 I V A 0 (-1) G) (ad 0) 7 = true then (ob2 (f_X8_some cy (ad 0) (nI p) x (nI w) (MJ cy iv ad μ0 I V A 0 (-1) G)) fun a b => some (a, b)) else none) := by
    intro x k hx hk
    rw [if_pos (MJ.is F), hx]
    exact (m_some F (by omega) hk (by omega)).eta
  have hT : RN (MJ cy iv ad μ0 I V A) (jT (hb b) K p w) (if isO (MJ cy iv ad μ0 I V A 0 (-1) G) (ad 0) 7 = true then (ob2 (f_X8_text cy (ad 0) (nI p) (nI w) (MJ cy iv ad μ0 I V A 0 (-1) G)) fun a b => some (a, b)) else none) := by
    rw [if_pos (MJ.is F)]
    exact (m_text F hp hw).eta
  have hDc : ∀ row : Bool, RN (MJ cy iv ad μ0 I V A) (RD K p w row) (f_X8_value_L125 cy rd rs (ad 0) (nI p) (nI w) (nI dep + 1) (bI row) (MJ cy iv ad μ0 I V A 0 (-1) G)) := by
    intro row
    unfold f_X8_value_L125
    rw [if_pos (MJ.is F), nI_a1]
    exact (hD K p w row G hp hw).eta
  have h00 : RN (MJ cy iv ad μ0 I V A) (jB K p 0 w) (some (nI p, MJ cy iv ad μ0 I V A 0 (-1) G)) := by
    unfold jB
    rw [if_pos (by omega)]
    exact ⟨G, rfl⟩
  by_cases hx : t.toInt < 1 ∨ 19 < t.toInt
  · have ne : ∀ k : Nat, 1 ≤ k → k ≤ 19 → ¬ t = nI k := fun k h1 h2 e => by
      rw [e, nI_toInt (by omega)] at hx
      omega
    have e1 : jVal (hb b) RD K t p w = jB K p (wd t) w := by
      unfold jVal
      rw [if_neg (fun q => by rcases q with q | q | q; exact ne 2 (by decide) (by decide) q; exact ne 13 (by decide) (by decide) q; exact ne 14 (by decide) (by decide) q), if_neg (show ¬ t = 3 from ne 3 (by decide) (by decide)), if_neg (show ¬ t = 4 from ne 4 (by decide) (by decide)), if_neg (show ¬ t = 5 from ne 5 (by decide) (by decide)), if_neg (show ¬ t = 8 from ne 8 (by decide) (by decide)), if_neg (show ¬ t = 11 from ne 11 (by decide) (by decide)), if_neg (show ¬ t = 12 from ne 12 (by decide) (by decide)), if_neg (show ¬ t = 15 from ne 15 (by decide) (by decide))]
    unfold fo_X8_value
    rw [if_pos hx, e1, wd_out hx]
    exact h00
  · obtain ⟨k, h1, h2, rfl⟩ := i32_of (x := t) (lo := 1) (hi := 19) (fun q => hx (Or.inl q)) (fun q => hx (Or.inr q)) (by decide)
    match k, h1, h2 with
    | 0, h1, _ => exact absurd h1 (by decide)
    | 1, _, _ => exact hSm 8 8 rfl (by decide)
    | 2, _, _ => exact hT
    | 3, _, _ => exact hDc false
    | 4, _, _ => exact hDc true
    | 5, _, _ =>
      show RN _ (jBin (hb b) K p w) (if isO (MJ cy iv ad μ0 I V A 0 (-1) G) (ad 0) 7 = true then (ob2 (f_X8_binary cy (ad 0) (nI p) (nI w) (MJ cy iv ad μ0 I V A 0 (-1) G)) fun a b => some (a, b)) else none)
      rw [if_pos (MJ.is F)]
      exact (m_binary F hp hw).eta
    | 6, _, _ => exact h00
    | 7, _, _ => exact hSm 12 12 rfl (by decide)
    | 8, _, _ =>
      show RN _ (jBool (hb b) K p w) (if isO (MJ cy iv ad μ0 I V A 0 (-1) G) (ad 0) 7 = true then (ob2 (f_X8_some cy (ad 0) (nI p) (nI 1) (nI w) (MJ cy iv ad μ0 I V A 0 (-1) G)) _) else none)
      have e1 : jBool (hb b) K p w = jThen (jB K p 1 w) (fun _ _ => if hb b p ≤ 1 then .inr (p + 1, K) else .inl (7, p)) := by
        unfold jBool jB
        by_cases h : p + 1 ≤ w
        · rw [if_pos h, if_pos h]
          rfl
        · rw [if_neg h, if_neg h]
          rfl
      rw [if_pos (MJ.is F), e1]
      refine RN.bind (m_some F (by omega) (by decide) (by omega)) (fun q K1 G1 e5 => ?_) (fun a b G1 => ?_)
      · have g := jB_b e5
        have hBp := F.2.2.2.1 p
        have s0 := sx_0 (b p) hBp
        have s1 := sx_1 (b p) hBp
        have s01 : hb b p ≤ 1 ↔ (hb b p = 0 ∨ hb b p = 1) := sx_01 (b p) hBp
        rw [if_pos (nI_pos' (by omega)), MJ.tp F, Option.bind_some, m_rd F (by omega), Option.bind_some]
        unfold f_X8_value_L186
        by_cases z0 : hb b p = 0
        · rw [if_pos (s0.mpr z0), if_pos (s01.mpr (Or.inl z0)), nI_a1]
          exact ⟨G1, rfl⟩
        · rw [if_neg (fun z => z0 (s0.mp z)), Option.bind_some, m_rd F (by omega), Option.bind_some]
          by_cases z1 : hb b p = 1
          · rw [if_pos (s1.mpr z1), if_pos (s01.mpr (Or.inr z1)), nI_a1]
            exact ⟨G1, rfl⟩
          · rw [if_neg (fun z => z1 (s1.mp z)), if_neg (fun z => by rcases s01.mp z with z | z; exact z0 z; exact z1 z)]
            exact m_wr F rfl
      · rw [if_neg (show ¬ (0 : Int32) ≤ -1 by decide)]
    | 9, _, _ => exact hSm 8 8 rfl (by decide)
    | 10, _, _ => exact h00
    | 11, _, _ =>
      show RN _ (jThen (jN (hb b) K p w) (fun q K => jN (hb b) K q w)) (if isO (MJ cy iv ad μ0 I V A 0 (-1) G) (ad 0) 7 = true then (ob2 (f_X8_name cy (ad 0) (nI p) (nI w) (-1) (MJ cy iv ad μ0 I V A 0 (-1) G)) _) else none)
      rw [if_pos (MJ.is F)]
      refine RN.bind (m_name F hp hw (row := none) (fun _ z => by cases z)) (fun q K1 G1 e5 => ?_) (fun a b G1 => ?_)
      · have g := jN_b e5
        rw [if_pos (nI_pos' (by omega)), if_pos (MJ.is F)]
        exact (m_name F (by omega) hw (row := none) (fun _ z => by cases z)).eta
      · rw [if_neg (show ¬ (0 : Int32) ≤ -1 by decide)]
    | 12, _, _ =>
      show RN _ (jThen (jT (hb b) K p w) (fun q K => jB K q 12 w)) (if isO (MJ cy iv ad μ0 I V A 0 (-1) G) (ad 0) 7 = true then (ob2 (f_X8_text cy (ad 0) (nI p) (nI w) (MJ cy iv ad μ0 I V A 0 (-1) G)) _) else none)
      rw [if_pos (MJ.is F)]
      refine RN.bind (m_text F hp hw) (fun q K1 G1 e5 => ?_) (fun a b G1 => ?_)
      · obtain ⟨M, g1, g2, g3, g4, -⟩ := jT_b e5
        rw [if_pos (nI_pos' (by omega)), if_pos (MJ.is F)]
        exact (m_some (k := 12) F (by omega) (by decide) (by omega)).eta
      · rw [if_neg (show ¬ (0 : Int32) ≤ -1 by decide)]
    | 13, _, _ => exact hT
    | 14, _, _ => exact hT
    | 15, _, _ =>
      show RN _ (jSc (hb b) RD (jT (hb b)) K p w) (if isO (MJ cy iv ad μ0 I V A 0 (-1) G) (ad 0) 7 = true then (ob2 (rs (ad 0) (nI p) (nI w) (nI dep) (MJ cy iv ad μ0 I V A 0 (-1) G)) fun a b => some (a, b)) else none)
      rw [if_pos (MJ.is F)]
      exact (hS K p w G hp hw).eta
    | 16, _, _ => exact hSm 4 4 rfl (by decide)
    | 17, _, _ => exact hSm 8 8 rfl (by decide)
    | 18, _, _ => exact hSm 8 8 rfl (by decide)
    | 19, _, _ => exact hSm 16 16 rfl (by decide)
    | k + 20, _, h2 => exact absurd h2 (by omega)
theorem m_isType {x : Int32} {μ : Mem} : (isTy x → f_X8_isType cy x μ = some (1, μ)) ∧ (¬ isTy x → f_X8_isType cy x μ = some (0, μ)) := by
  unfold f_X8_isType f_X8_isType_L11 f_X8_isType_L24
  constructor
  · intro hx
    rcases hx with ⟨h1, h2⟩ | rfl | rfl
    · rw [if_neg h1, if_pos h2]
    · rfl
    · rfl
  · intro hx
    have h127 : ¬ x = 127 := fun e => hx (Or.inr (Or.inl e))
    have h255 : ¬ x = 255 := fun e => hx (Or.inr (Or.inr e))
    by_cases h1 : x < 1
    · rw [if_pos h1, if_neg h127, if_neg h255]
    · by_cases h2 : x ≤ 19
      · exact absurd (Or.inl ⟨h1, h2⟩) hx
      · rw [if_neg h1, if_neg h2, if_neg h127, if_neg h255]
theorem m_elem (F : MF iv ad I A n b) (hV : ∀ K t p w G, p ≤ w → w ≤ n → RN (MJ cy iv ad μ0 I V A) (jVal (hb b) RD K t p w) (rv (ad 0) t (nI p) (nI w) (nI dep) (MJ cy iv ad μ0 I V A 0 (-1) G))) {p w : Nat} {row : Option Nat} (hp : p < w) (hw : w ≤ n) (hv : ∀ v, row = some v → v < 2 ^ 30) :
    RN (MJ cy iv ad μ0 I V A) (jEl (hb b) wt RD K p w row) (fo_X8_element cy rv (ad 0) (nI p) (nI w) (nI dep) (rwI row) (MJ cy iv ad μ0 I V A 0 (-1) G)) := by
  have hn := F.2.2.2.2
  unfold fo_X8_element jEl
  rw [MJ.tp F, Option.bind_some, m_rd F (by omega), Option.bind_some, sx_255 _ (F.2.2.2.1 _)]
  by_cases ht : isTy (hb b p)
  · rw [m_isType.1 (show isTy (nI (b p)) from ht), ob2_some, if_neg (show ¬ (1 : Int32) = 0 by decide), if_pos ht, if_pos (MJ.is F), nI_a1]
    refine RN.bind (m_name F (by omega) hw hv) (fun q K1 G1 e5 => ?_) (fun a b G1 => ?_)
    · have g := jNm_b e5
      rw [if_pos (nI_pos' (by omega)), if_pos (MJ.is F)]
      exact (hV _ _ q w G1 (by omega) hw).eta
    · rw [if_neg (show ¬ (0 : Int32) ≤ -1 by decide)]
  · rw [m_isType.2 (show ¬ isTy (nI (b p)) from ht), ob2_some, if_pos (show (0 : Int32) = 0 from rfl), if_neg ht]
    exact m_wr F rfl
theorem m_last (F : MF iv ad I A n b) {last : Nat} (hl : last < n) : RN (MJ cy iv ad μ0 I V A) (if hb b last = 0 then .inr (last + 1, K) else .inl (4, last)) ((rdR (MJ cy iv ad μ0 I V A 0 (-1) G) (ad 0) 7 1).bind fun q102 => (rdA cy (MJ cy iv ad μ0 I V A 0 (-1) G) 0 q102 (nI last)).bind fun v104 => if v104 = 0 then (some ((nI last + 1), MJ cy iv ad μ0 I V A 0 (-1) G)) else if isO (MJ cy iv ad μ0 I V A 0 (-1) G) (ad 0) 7 = true then (ob2 (f_X8_wrong cy (ad 0) 4 (nI last) (MJ cy iv ad μ0 I V A 0 (-1) G)) fun r110 μ109 => some (r110, μ109)) else none) := by
  have s0 := sx_0 (b last) (F.2.2.2.1 _)
  rw [MJ.tp F, Option.bind_some, m_rd F hl, Option.bind_some]
  by_cases e : hb b last = 0
  · rw [if_pos e, if_pos (s0.mpr e), nI_a1]
    exact ⟨G, rfl⟩
  · rw [if_neg e, if_neg (fun z => e (s0.mp z))]
    exact m_wr F rfl
theorem m_loop (F : MF iv ad I A n b) (hB : okB RD) {last : Nat} (hl : last < n) {row : Bool} (hE : ∀ K p rw G, p < last → (∀ v, rw = some v → v < 2 ^ 30) → RN (MJ cy iv ad μ0 I V A) (jEl (hb b) wt RD K p last rw) (re (ad 0) (nI p) (nI last) (nI dep) (rwI rw) (MJ cy iv ad μ0 I V A 0 (-1) G))) :
    ∀ (f v q Fu : Nat) (K : Kt) (G : Nat → Int32), q ≤ last → last - q < 2 * f → v + f = 1200 → f < Fu → RN (MJ cy iv ad μ0 I V A) (jThen (jLoop (hb b) wt RD f K q last row v) (fun _ K => if hb b last = 0 then .inr (last + 1, K) else .inl (4, last))) (f_X8_document_L84 cy re Fu (ad 0) (nI dep) (bI row) (nI last) (nI q) (nI v) (MJ cy iv ad μ0 I V A 0 (-1) G))
  | f, v, q, 0, K, G, _, _, _, hF => by omega
  | 0, v, q, Fu + 1, K, G, _, hq, _, hF => by omega
  | f + 1, v, q, Fu + 1, K, G, hql, hq, hv, hF => by
    have hn := F.2.2.2.2
    rw [f_X8_document_L84, jLoop]
    by_cases hlq : last ≤ q
    · rw [if_pos hlq, if_pos (nI_le hlq (by omega))]
      exact m_last F hl
    · rw [if_neg hlq, if_neg (nI_ge (by omega) (by omega))]
      have step : ∀ rw : Option Nat, (∀ v, rw = some v → v < 2 ^ 30) → RN (MJ cy iv ad μ0 I V A) (jThen (jThen (jEl (hb b) wt RD K q last rw) (fun q K => jLoop (hb b) wt RD f K q last row (v + 1))) (fun _ K => if hb b last = 0 then .inr (last + 1, K) else .inl (4, last)))
          (f_X8_document_L108 cy re (f_X8_document_L84 cy re Fu) (ad 0) (nI dep) (bI row) (nI last) (nI v) (ad 0) (nI q) (nI last) (nI dep) (rwI rw) (MJ cy iv ad μ0 I V A 0 (-1) G)) := by
        intro rw hrw
        have e1 : jThen (jThen (jEl (hb b) wt RD K q last rw) (fun q K => jLoop (hb b) wt RD f K q last row (v + 1))) (fun _ K => if hb b last = 0 then .inr (last + 1, K) else .inl (4, last)) = jThen (jEl (hb b) wt RD K q last rw) (fun q K => jThen (jLoop (hb b) wt RD f K q last row (v + 1)) (fun _ K => if hb b last = 0 then .inr (last + 1, K) else .inl (4, last))) := by
          cases jEl (hb b) wt RD K q last rw <;> rfl
        rw [e1]
        unfold f_X8_document_L108
        rw [if_pos (MJ.is F)]
        refine RN.bind (hE K q rw G (by omega) hrw) (fun q1 K1 G1 e5 => ?_) (fun a b G1 => ?_)
        · obtain ⟨-, q2, g1, g2, g3, -⟩ := jEl_s hB e5
          rw [if_pos (nI_pos' (by omega)), nI_a1]
          exact m_loop F hB hl hE f (v + 1) q1 Fu K1 G1 (by omega) (by omega) (by omega) (by omega)
        · rw [if_neg (show ¬ (0 : Int32) ≤ -1 by decide)]
      cases row with
      | false =>
        rw [if_pos (show bI false = 0 from rfl)]
        exact step none (fun _ z => by cases z)
      | true =>
        rw [if_neg (show ¬ bI true = 0 by decide)]
        exact step (some v) (fun _ z => by cases z; omega)
theorem m_body (F : MF iv ad I A n b) (hB : okB RD) (hE : ∀ K p last rw G, p < last → last < n → (∀ v, rw = some v → v < 2 ^ 30) → RN (MJ cy iv ad μ0 I V A) (jEl (hb b) wt RD K p last rw) (re (ad 0) (nI p) (nI last) (nI dep) (rwI rw) (MJ cy iv ad μ0 I V A 0 (-1) G))) (hdep : dep ≤ 24) {p w : Nat} {row : Bool} (hp : p ≤ w) (hw : w ≤ n) :
    RN (MJ cy iv ad μ0 I V A) (jBody (hb b) wt RD (nI dep) K p w row) (fo_X8_document cy re (ad 0) (nI p) (nI w) (nI dep) (bI row) (MJ cy iv ad μ0 I V A 0 (-1) G)) := by
  have hn := F.2.2.2.2
  unfold fo_X8_document
  rw [if_pos (show nI dep ≤ (24 : Int32) from nI_le (b := 24) hdep (by decide)), if_pos (MJ.is F)]
  refine m_four F hp hw (fun a b G => ?_) (fun h4 => ?_) (fun h4 => ?_)
  · rw [if_neg (show ¬ (0 : Int32) ≤ -1 by decide)]
  · unfold jBody
    rw [if_pos (nI_pos' (by omega)), MJ.tp F, Option.bind_some, m_intAt F (by omega), ob2_some, if_neg (show ¬ w < p + 4 by omega)]
    rcases i4_or (i4 (hb b) p) 5 (by decide) with ⟨e1, e2⟩ | ⟨N, e1, e2, e3⟩
    · rw [if_pos (show (i4 (hb b) p).toInt < 5 from e2), if_neg (show ¬ (5 : Int32) ≤ i4 (hb b) p from e1)]
      exact m_wr F rfl
    · have eN : (i4 (hb b) p).toInt.toNat = N := by rw [e3, nI_toInt e2]; omega
      rw [eN, e3, if_neg (show ¬ (nI N).toInt < 5 by rw [nI_toInt e2]; omega), if_pos (show (5 : Int32) ≤ nI N from nI_le (a := 5) e1 e2), nI_l (by omega), nI_l e2, nI_l (by omega), lN_add]
      have q := lg_le (x := p + N) (y := w) (by omega) (by omega)
      by_cases h5 : w < p + N
      · rw [if_pos h5, if_neg (fun z => by have := q.mp z; omega)]
        exact m_wr F rfl
      · rw [if_neg h5, if_pos (q.mpr (by omega)), nI_p, show (1 : Int32) = nI 1 by decide +kernel, nI_sub' (show 1 ≤ p + N by omega), nI_a4]
        have := m_loop F hB (last := p + N - 1) (row := row) (by omega) (fun K p rw G h1 h2 => hE K p _ rw G h1 (by omega) h2) 1200 0 (p + 4) FU (kLen (kDoc K (nI dep)) (nI N)) G (by omega) (by omega) rfl (by show 1200 < 100000; decide)
        rw [show p + N - 1 + 1 = p + N by omega] at this
        exact this
  · unfold jBody
    rw [if_pos h4]
/-- the whole group, by the DEPTHS left -/
theorem m_group (F : MF iv ad I A n b) : ∀ (e d : Nat), e ≤ 24 → 4 * e + 1 ≤ d → okM cy iv ad μ0 I V A n (jDoc (hb b) wt e) (25 - e) (f_X8_document cy d)
  | e, 0, _, hd => by omega
  | 0, d + 1, _, hd => by
    rw [f_X8_document_s]
    intro K p w row G hp hw
    unfold fo_X8_document
    rw [if_neg (show ¬ nI (25 - 0) ≤ (24 : Int32) from nI_ge (a := 24) (by omega) (by decide))]
    exact m_wr F rfl
  | e + 1, d + 1, he, hd => by
    match d, hd with
    | 0, hd => omega
    | 1, hd => omega
    | 2, hd => omega
    | d4 + 3, hd =>
      have ih3 := m_group F e (d4 + 1) (by omega) (by omega)
      have ih4 := m_group F e d4 (by omega) (by omega)
      have eq1 : 25 - e = (24 - e) + 1 := by omega
      rw [eq1] at ih3 ih4
      rw [f_X8_document_s]
      intro K p w row G hp hw
      rw [show 25 - (e + 1) = 24 - e by omega]
      refine m_body F (jDoc_b e) (fun K p last rw G h1 h2 h3 => ?_) (by omega) hp hw
      rw [f_X8_element_s]
      refine m_elem F (fun K t p w G h4 h5 => ?_) h1 (by omega) h3
      rw [f_X8_value_s]
      refine m_val F ih3 (fun K p w G h6 h7 => ?_) h4 h5
      rw [f_X8_scoped_s]
      exact m_scoped F ih4 (jDoc_b e) h6 h7
end MU4
