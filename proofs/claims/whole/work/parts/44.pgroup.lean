/-! PURE ROWS: the class Reader judges as jDoc does. -/
section PU6
variable {cy : Nat → ClassId} {μ : Mem} {r sp c cap n : Nat} {h : Nat → Int32} {o vp wt fk fp : Int32} {RD : RDt} {dep : Nat}
variable {rd : Nat → Int32 → Int32 → Int32 → Int32 → Mem → Option (Int32 × Mem)} {rs : Nat → Int32 → Int32 → Int32 → Mem → Option (Int32 × Mem)} {rv re : Nat → Int32 → Int32 → Int32 → Int32 → Mem → Option (Int32 × Mem)}
def bI (b : Bool) : Int32 := if b then 1 else 0
/-- rd reads DOCUMENTS of the DEPTH dep as RD does -/
def okD (cy : Nat → ClassId) (μ : Mem) (r sp n : Nat) (vp wt fk fp : Int32) (RD : RDt) (dep : Nat) (rd : Nat → Int32 → Int32 → Int32 → Int32 → Mem → Option (Int32 × Mem)) : Prop :=
  (∀ K p w row, p ≤ w → w ≤ n → RO (RM μ r sp vp wt) fk fp (RD K p w row) (rd r (nI p) (nI w) (nI dep) (bI row) (RM μ r sp vp wt fk fp K))) ∧ ∀ w d row ν, rd r (-1) w d row ν = some (-1, ν)
theorem q_scoped (S : SP cy μ sp c cap n h o) (hr : r ≠ sp ∧ r ≠ c) (hD : okD cy μ r sp n vp wt fk fp RD (dep + 1) rd) (hB : okB RD) {K : Kt} {p w : Nat} (hp : p ≤ w) (hw : w ≤ n) : RO (RM μ r sp vp wt) fk fp (jSc h RD (jT h) K p w) (fo_X2_readScoped cy rd r (nI p) (nI w) (nI dep) (RM μ r sp vp wt fk fp K)) := by
  have b := S.2.2
  have S1 : ∀ K, SP cy (RM μ r sp vp wt fk fp K) sp c cap n h o := fun K => RM.spn S hr
  unfold fo_X2_readScoped jSc
  rw [if_pos RM.is]
  have q4 := q_bytes (cy := cy) (μ := μ) (r := r) (sp := sp) (vp := vp) (wt := wt) (fk := fk) (fp := fp) (K := K) (m := 4) hp (by omega) (by decide)
  unfold jB at q4
  rw [show nI 4 = (4 : Int32) by decide +kernel] at q4
  by_cases h4 : p + 4 ≤ w
  · rw [if_pos h4] at q4
    rw [if_neg (show ¬ w < p + 4 by omega), show f_X2_readBytes cy r (nI p) 4 (nI w) (RM μ r sp vp wt fk fp K) = some (nI (p + 4), RM μ r sp vp wt fk fp K) from q4, ob2_some, if_neg (nI_m1 (by omega)), RM.fr, Option.bind_some, if_pos (s_is (S1 K)), s_intAt (S1 K) (by omega), ob2_some]
    rcases i4_or (i4 h p) 14 (by decide) with ⟨e1, e2⟩ | ⟨N, e1, e2, e3⟩
    · rw [if_pos (show (i4 h p).toInt < 14 from e2), if_neg (show ¬ (14 : Int32) ≤ i4 h p from e1), if_pos RM.is, q_refuse]
      exact ⟨K, rfl⟩
    · have eN : (i4 h p).toInt.toNat = N := by rw [e3, nI_toInt e2]; omega
      rw [eN, e3, if_neg (show ¬ (nI N).toInt < 14 by rw [nI_toInt e2]; omega), if_pos (show (14 : Int32) ≤ nI N from nI_le (a := 14) e1 e2), nI_sub' hp]
      by_cases h5 : w < p + N
      · rw [if_pos h5, if_neg (nI_ge (by omega) (by omega)), if_pos RM.is, q_refuse]
        exact ⟨K, rfl⟩
      · rw [if_neg h5, if_pos (nI_le (by omega) (by omega)), if_pos RM.is, q_count, Option.bind_some, if_pos RM.is, nI_a4, nI_p, nI_a1]
        refine RO.bind (q_text S hr (by omega) (by omega)) (fun q K1 e5 => ?_) (fun a b K1 => ?_)
        · obtain ⟨M, g1, g2, g3, g4, -⟩ := jT_b e5
          rw [if_pos RM.is]
          refine RO.bind (hD.1 K1 q (p + N) false (by omega) (by omega)) (fun q2 K2 e6 => ?_) (fun a b K2 => ?_)
          · unfold f_X2_readScoped_L107
            by_cases h7 : q2 = p + N
            · rw [if_pos h7, if_neg (by rw [h7]; exact nI_m1 (by omega)), if_pos (by rw [h7])]
              rfl
            · have g5 := hB _ _ _ _ _ _ e6
              rw [if_neg h7, if_neg (nI_m1 (by omega)), if_neg (fun z => h7 ((nI_eq (by omega) (by omega)).mp z)), if_pos RM.is, q_refuse]
              exact ⟨K2, rfl⟩
          · rw [if_pos rfl]
            rfl
        · rw [if_pos RM.is, show nI (dep + 1) = nI (dep + 1) from rfl, hD.2, ob2_some, if_pos rfl]
          rfl
  · rw [if_neg h4] at q4
    obtain ⟨K1, q4⟩ := q4
    rw [if_pos (show w < p + 4 by omega), q4, ob2_some, if_pos (show (-1 : Int32) = -1 from rfl)]
    exact ⟨K1, rfl⟩
theorem q_val (S : SP cy μ sp c cap n h o) (hr : r ≠ sp ∧ r ≠ c) (hD : okD cy μ r sp n vp wt fk fp RD (dep + 1) rd) (hB : okB RD) (hS : ∀ K p w, p ≤ w → w ≤ n → RO (RM μ r sp vp wt) fk fp (jSc h RD (jT h) K p w) (rs r (nI p) (nI w) (nI dep) (RM μ r sp vp wt fk fp K))) {K : Kt} {t : Int32} {p w : Nat} (hp : p ≤ w) (hw : w ≤ n) :
    RO (RM μ r sp vp wt) fk fp (jVal h RD K t p w) (fo_X2_readValue cy rd rs r t (nI p) (nI w) (nI dep) (RM μ r sp vp wt fk fp K)) := by
  have b := S.2.2
  have hwd : ∀ x, wd x ≤ 100 := fun x => by
    unfold wd
    split
    · decide
    · split
      · decide
      · split
        · decide
        · split
          · decide
          · split <;> decide
  by_cases hx : t.toInt < 2 ∨ 15 < t.toInt
  · have ne : ∀ k : Nat, 2 ≤ k → k ≤ 15 → ¬ t = nI k := fun k h1 h2 e => by
      rw [e, nI_toInt (by omega)] at hx
      omega
    have e1 : jVal h RD K t p w = jB K p (wd t) w := by
      unfold jVal
      rw [if_neg (fun q => by rcases q with q | q | q; exact ne 2 (by decide) (by decide) q; exact ne 13 (by decide) (by decide) q; exact ne 14 (by decide) (by decide) q), if_neg (show ¬ t = 3 from ne 3 (by decide) (by decide)), if_neg (show ¬ t = 4 from ne 4 (by decide) (by decide)), if_neg (show ¬ t = 5 from ne 5 (by decide) (by decide)), if_neg (show ¬ t = 8 from ne 8 (by decide) (by decide)), if_neg (show ¬ t = 11 from ne 11 (by decide) (by decide)), if_neg (show ¬ t = 12 from ne 12 (by decide) (by decide)), if_neg (show ¬ t = 15 from ne 15 (by decide) (by decide))]
    unfold fo_X2_readValue
    rw [if_pos hx, p_widthOf, ob2_some, if_pos RM.is, e1]
    exact (q_bytes hp (by omega) (hwd t)).eta
  · obtain ⟨k, h1, h2, rfl⟩ := i32_of (x := t) (lo := 2) (hi := 15) (fun q => hx (Or.inl q)) (fun q => hx (Or.inr q)) (by decide)
    have hT : RO (RM μ r sp vp wt) fk fp (jT h K p w) (if isO (RM μ r sp vp wt fk fp K) r 1 = true then (ob2 (f_X2_readText cy r (nI p) (nI w) (RM μ r sp vp wt fk fp K)) fun a b => some (a, b)) else none) := by
      rw [if_pos RM.is]
      exact (q_text S hr hp hw).eta
    have hWd : ∀ x : Int32, RO (RM μ r sp vp wt) fk fp (jB K p (wd x) w) (ob2 (f_X1_widthOf cy x (RM μ r sp vp wt fk fp K)) fun r32 μ31 => if isO μ31 r 1 = true then (ob2 (f_X2_readBytes cy r (nI p) r32 (nI w) μ31) fun r36 μ35 => some (r36, μ35)) else none) := by
      intro x
      rw [p_widthOf, ob2_some, if_pos RM.is]
      exact (q_bytes hp (by omega) (hwd x)).eta
    have hDc : ∀ row : Bool, RO (RM μ r sp vp wt) fk fp (RD K p w row) (if isO (RM μ r sp vp wt fk fp K) r 1 = true then (ob2 (rd r (nI p) (nI w) (nI dep + 1) (bI row) (RM μ r sp vp wt fk fp K)) fun a b => some (a, b)) else none) := by
      intro row
      rw [if_pos RM.is, nI_a1]
      exact (hD.1 K p w row hp hw).eta
    match k, h1, h2 with
    | 0, h1, _ => exact absurd h1 (by decide)
    | 1, h1, _ => exact absurd h1 (by decide)
    | 2, _, _ => exact hT
    | 3, _, _ => exact hDc false
    | 4, _, _ => exact hDc true
    | 5, _, _ =>
      show RO _ _ _ (jBin h K p w) (if isO (RM μ r sp vp wt fk fp K) r 1 = true then (ob2 (f_X2_readBinary cy r (nI p) (nI w) (RM μ r sp vp wt fk fp K)) fun a b => some (a, b)) else none)
      rw [if_pos RM.is]
      exact (q_binary S hr hp hw).eta
    | 6, _, _ => exact hWd 6
    | 7, _, _ => exact hWd 7
    | 8, _, _ =>
      show RO _ _ _ (jBool h K p w) (if isO (RM μ r sp vp wt fk fp K) r 1 = true then (ob2 (f_X2_readBoolean cy r (nI p) (nI w) (RM μ r sp vp wt fk fp K)) fun a b => some (a, b)) else none)
      rw [if_pos RM.is]
      exact (q_boolean S hr hp hw).eta
    | 9, _, _ => exact hWd 9
    | 10, _, _ => exact hWd 10
    | 11, _, _ =>
      show RO _ _ _ (jThen (jN h K p w) (fun q K => jN h K q w)) (if isO (RM μ r sp vp wt fk fp K) r 1 = true then (ob2 (f_X2_readName cy r (nI p) (nI w) (RM μ r sp vp wt fk fp K)) fun r46 μ45 => if isO μ45 r 1 = true then (ob2 (f_X2_readName cy r r46 (nI w) μ45) fun a b => some (a, b)) else none) else none)
      rw [if_pos RM.is]
      refine RO.bind (q_name S hr hp hw) (fun q K1 e5 => ?_) (fun a b K1 => ?_)
      · have := jN_b e5
        rw [if_pos RM.is]
        exact (q_name S hr (by omega) hw).eta
      · rw [if_pos RM.is]
        unfold f_X2_readName
        rw [if_pos rfl]
        rfl
    | 12, _, _ =>
      show RO _ _ _ (jThen (jT h K p w) (fun q K => jB K q 12 w)) (if isO (RM μ r sp vp wt fk fp K) r 1 = true then (ob2 (f_X2_readText cy r (nI p) (nI w) (RM μ r sp vp wt fk fp K)) fun r55 μ54 => if isO μ54 r 1 = true then (ob2 (f_X2_readBytes cy r r55 12 (nI w) μ54) fun a b => some (a, b)) else none) else none)
      rw [if_pos RM.is]
      refine RO.bind (q_text S hr hp hw) (fun q K1 e5 => ?_) (fun a b K1 => ?_)
      · obtain ⟨M, g1, g2, g3, g4, -⟩ := jT_b e5
        rw [if_pos RM.is]
        exact (q_bytes (m := 12) (by omega) (by omega) (by decide)).eta
      · rw [if_pos RM.is]
        unfold f_X2_readBytes
        rw [if_pos rfl]
        rfl
    | 13, _, _ => exact hT
    | 14, _, _ => exact hT
    | 15, _, _ =>
      show RO _ _ _ (jSc h RD (jT h) K p w) (if isO (RM μ r sp vp wt fk fp K) r 1 = true then (ob2 (rs r (nI p) (nI w) (nI dep) (RM μ r sp vp wt fk fp K)) fun a b => some (a, b)) else none)
      rw [if_pos RM.is]
      exact (hS K p w hp hw).eta
    | k + 16, _, h2 => exact absurd h2 (by omega)
theorem RM_up {K : Kt} {E : va_E} : va_up (RM μ r sp vp wt fk fp K) r E = va_up μ r E := up_up
def rwI (row : Option Nat) : Int32 := match row with
  | none => -1
  | some v => nI v
theorem q_elem (S : SP cy μ sp c cap n h o) (hr : r ≠ sp ∧ r ≠ c) (hV : ∀ K t p w, p ≤ w → w ≤ n → RO (RM μ r sp vp wt) fk fp (jVal h RD K t p w) (rv r t (nI p) (nI w) (nI dep) (RM μ r sp vp wt fk fp K))) {K : Kt} {p w : Nat} {row : Option Nat} (hp : p < w) (hw : w ≤ n) (hv : ∀ v, row = some v → v < 2 ^ 30) :
    RO (RM μ r sp vp wt) fk fp (jEl h wt RD K p w row) (fo_X2_readElement cy rv r (nI p) (nI w) (nI dep) (rwI row) (RM μ r sp vp wt fk fp K)) := by
  have b := S.2.2
  have S1 : ∀ K, SP cy (RM μ r sp vp wt fk fp K) sp c cap n h o := fun K => RM.spn S hr
  unfold fo_X2_readElement jEl
  rw [RM.fr, Option.bind_some, if_pos (s_is (S1 K)), s_at (S1 K) (by omega), ob2_some]
  have hL52 : ∀ q K1, jNm h K (p + 1) w row = .inr (q, K1) → RO (RM μ r sp vp wt) fk fp (jVal h RD (kEl K1 (nI (q - p - 2)) (if h p = wt then 1 else 0)) (h p) q w) (f_X2_readElement_L52 cy rv r (nI p) (nI w) (nI dep) (h p) (nI q) (RM μ r sp vp wt fk fp K1)) := by
    intro q K1 e5
    have g := jNm_b e5
    unfold f_X2_readElement_L52 f_X2_readElement_L106
    rw [if_neg (nI_m1 (by omega)), rdI_mk RM.cl rfl, Option.bind_some, wrF_mk RM.cl (Nat.le_of_ble_eq_true rfl), Option.bind_some, rdI_mk (va_up_self _ _ _) rfl, Option.bind_some, wrF_mk (va_up_self _ _ _) (Nat.le_of_ble_eq_true rfl), Option.bind_some, rdI_mk (va_up_self _ _ _) rfl, Option.bind_some, nI_sub' (show p ≤ q by omega), show (2 : Int32) = nI 2 by decide +kernel, nI_sub' (show 2 ≤ q - p by omega)]
    have key := (hV (kEl K1 (nI (q - p - 2)) (if h p = wt then 1 else 0)) (h p) q w (by omega) hw).eta
    by_cases e : h p = wt
    · rw [if_pos e, rdI_mk (va_up_self _ _ _) rfl, Option.bind_some, wrF_mk (va_up_self _ _ _) (Nat.le_of_ble_eq_true rfl), Option.bind_some, isO_mk (va_up_self _ _ _), if_pos rfl]
      rw [if_pos e] at key ⊢
      rw [up_up, up_up, RM_up]
      exact key
    · rw [if_neg e, isO_mk (va_up_self _ _ _), if_pos rfl]
      rw [if_neg e] at key ⊢
      have e0 : kEl K1 (nI (q - p - 2)) 0 = (K1.1 + 1, K1.2.1, K1.2.2.1, K1.2.2.2.1, K1.2.2.2.2.1, K1.2.2.2.2.2.1 + nI (q - p - 2), K1.2.2.2.2.2.2) := by
        unfold kEl
        rw [Int32.add_zero]
      rw [e0] at key ⊢
      rw [up_up, RM_up]
      exact key
  have hneg : ∀ a b K1, f_X2_readElement_L52 cy rv r (nI p) (nI w) (nI dep) (h p) (-1) (RM μ r sp vp wt a b K1) = some (-1, RM μ r sp vp wt a b K1) := fun a b K1 => by
    unfold f_X2_readElement_L52
    rw [if_pos rfl]
  by_cases ht : isTy (h p)
  · rw [p_isType ht, ob2_some, if_neg (show ¬ (1 : Int32) = 0 by decide), if_pos ht, nI_a1]
    cases row with
    | none =>
      rw [if_pos (show rwI none = -1 from rfl), if_pos RM.is]
      exact RO.bind (q_name S hr (by omega) hw) hL52 hneg
    | some v =>
      have hv1 := hv v rfl
      rw [if_neg (show ¬ rwI (some v) = -1 from nI_m1 (by omega)), if_pos RM.is]
      exact RO.bind (q_rowName S hr (by omega) hw hv1) hL52 hneg
  · rw [p_isTypeN ht, ob2_some, if_pos (show (0 : Int32) = 0 from rfl), if_neg ht, if_pos RM.is, q_refuse]
    exact ⟨K, rfl⟩
theorem q_last (S : SP cy μ sp c cap n h o) (hr : r ≠ sp ∧ r ≠ c) {K : Kt} {last : Nat} (hl : last < n) : RO (RM μ r sp vp wt) fk fp (if h last = 0 then .inr (last + 1, K) else .inl (4, last)) (f_X2_readDocument_L167 cy re r (nI last) (RM μ r sp vp wt fk fp K)) := by
  have S1 : ∀ K, SP cy (RM μ r sp vp wt fk fp K) sp c cap n h o := fun K => RM.spn S hr
  unfold f_X2_readDocument_L167
  rw [RM.fr, Option.bind_some, if_pos (s_is (S1 K)), s_at (S1 K) hl, ob2_some]
  by_cases e : h last = 0
  · rw [if_pos e, if_pos e, nI_a1]
    rfl
  · rw [if_neg e, if_neg e, if_pos RM.is, q_refuse]
    exact ⟨K, rfl⟩
theorem q_loop (S : SP cy μ sp c cap n h o) (hr : r ≠ sp ∧ r ≠ c) (hB : okB RD) {last : Nat} (hl : last < n) {row : Bool} (hE : ∀ K p rw, p < last → (∀ v, rw = some v → v < 2 ^ 30) → RO (RM μ r sp vp wt) fk fp (jEl h wt RD K p last rw) (re r (nI p) (nI last) (nI dep) (rwI rw) (RM μ r sp vp wt fk fp K))) :
    ∀ (f v q F : Nat) (K : Kt), v + f = 1200 → q ≤ last → f < F → RO (RM μ r sp vp wt) fk fp (jThen (jLoop h wt RD f K q last row v) (fun _ K => if h last = 0 then .inr (last + 1, K) else .inl (4, last))) (f_X2_readDocument_L116 cy re F r (nI dep) (bI row) (nI last) (nI q) (nI v) (RM μ r sp vp wt fk fp K))
  | f, v, q, 0, K, _, _, hF => by omega
  | 0, v, q, F + 1, K, hv, hq, hF => by
    unfold f_X2_readDocument_L116 jLoop
    rw [if_pos (show (1200 : Int32) ≤ nI v from nI_le (a := 1200) (by omega) (by omega))]
    exact q_last S hr hl
  | f + 1, v, q, F + 1, K, hv, hq, hF => by
    have b := S.2.2
    rw [f_X2_readDocument_L116, jLoop, if_neg (show ¬ (1200 : Int32) ≤ nI v from nI_ge (b := 1200) (by omega) (by decide))]
    by_cases hlq : last ≤ q
    · rw [if_pos hlq, if_pos (nI_le hlq (by omega))]
      exact q_last S hr hl
    · rw [if_neg hlq, if_neg (nI_ge (by omega) (by omega))]
      have step : ∀ rw : Option Nat, (∀ v, rw = some v → v < 2 ^ 30) → RO (RM μ r sp vp wt) fk fp (jThen (jThen (jEl h wt RD K q last rw) (fun q K => jLoop h wt RD f K q last row (v + 1))) (fun _ K => if h last = 0 then .inr (last + 1, K) else .inl (4, last)))
          (f_X2_readDocument_L148 cy re (f_X2_readDocument_L116 cy re F) r (nI dep) (bI row) (nI last) (nI v) r (nI q) (nI last) (nI dep) (rwI rw) (RM μ r sp vp wt fk fp K)) := by
        intro rw hrw
        have e1 : jThen (jThen (jEl h wt RD K q last rw) (fun q K => jLoop h wt RD f K q last row (v + 1))) (fun _ K => if h last = 0 then .inr (last + 1, K) else .inl (4, last)) = jThen (jEl h wt RD K q last rw) (fun q K => jThen (jLoop h wt RD f K q last row (v + 1)) (fun _ K => if h last = 0 then .inr (last + 1, K) else .inl (4, last))) := by
          cases jEl h wt RD K q last rw <;> rfl
        rw [e1]
        unfold f_X2_readDocument_L148
        rw [if_pos RM.is]
        refine RO.bind (hE K q rw (by omega) hrw) (fun q1 K1 e5 => ?_) (fun a b K1 => ?_)
        · obtain ⟨-, q2, g1, g2, g3, -⟩ := jEl_s hB e5
          rw [if_neg (nI_m1 (by omega)), nI_a1]
          exact q_loop S hr hB hl hE f (v + 1) q1 F K1 (by omega) (by omega) (by omega)
        · rw [if_pos rfl]
      cases row with
      | false =>
        rw [if_pos (show bI false = 0 from rfl)]
        exact step none (fun _ z => by cases z)
      | true =>
        rw [if_neg (show ¬ bI true = 0 by decide)]
        exact step (some v) (fun _ z => by cases z; omega)
theorem q_body (S : SP cy μ sp c cap n h o) (hr : r ≠ sp ∧ r ≠ c) (hB : okB RD) (hE : ∀ K p last rw, p < last → last < n → (∀ v, rw = some v → v < 2 ^ 30) → RO (RM μ r sp vp wt) fk fp (jEl h wt RD K p last rw) (re r (nI p) (nI last) (nI dep) (rwI rw) (RM μ r sp vp wt fk fp K))) (hdep : dep ≤ 24) {K : Kt} {p w : Nat} {row : Bool} (hp : p ≤ w) (hw : w ≤ n) :
    RO (RM μ r sp vp wt) fk fp (jBody h wt RD (nI dep) K p w row) (fo_X2_readDocument cy re r (nI p) (nI w) (nI dep) (bI row) (RM μ r sp vp wt fk fp K)) := by
  have b := S.2.2
  have S1 : ∀ K, SP cy (RM μ r sp vp wt fk fp K) sp c cap n h o := fun K => RM.spn S hr
  unfold fo_X2_readDocument jBody
  rw [if_neg (nI_m1 (by omega)), if_pos (show nI dep ≤ (24 : Int32) from nI_le (b := 24) hdep (by decide)), if_pos RM.is]
  have q4 := q_bytes (cy := cy) (μ := μ) (r := r) (sp := sp) (vp := vp) (wt := wt) (fk := fk) (fp := fp) (K := K) (m := 4) hp (by omega) (by decide)
  unfold jB at q4
  rw [show nI 4 = (4 : Int32) by decide +kernel] at q4
  by_cases h4 : p + 4 ≤ w
  · rw [if_pos h4] at q4
    rw [if_neg (show ¬ w < p + 4 by omega), show f_X2_readBytes cy r (nI p) 4 (nI w) (RM μ r sp vp wt fk fp K) = some (nI (p + 4), RM μ r sp vp wt fk fp K) from q4, ob2_some, if_neg (nI_m1 (by omega)), RM.fr, Option.bind_some, if_pos (s_is (S1 K)), s_intAt (S1 K) (by omega), ob2_some]
    rcases i4_or (i4 h p) 5 (by decide) with ⟨e1, e2⟩ | ⟨N, e1, e2, e3⟩
    · rw [if_pos (show (i4 h p).toInt < 5 from e2), if_neg (show ¬ (5 : Int32) ≤ i4 h p from e1), if_pos RM.is, q_refuse]
      exact ⟨K, rfl⟩
    · have eN : (i4 h p).toInt.toNat = N := by rw [e3, nI_toInt e2]; omega
      rw [eN, e3, if_neg (show ¬ (nI N).toInt < 5 by rw [nI_toInt e2]; omega), if_pos (show (5 : Int32) ≤ nI N from nI_le (a := 5) e1 e2), nI_sub' hp]
      by_cases h5 : w < p + N
      · rw [if_pos h5, if_neg (nI_ge (by omega) (by omega)), if_pos RM.is, q_refuse]
        exact ⟨K, rfl⟩
      · rw [if_neg h5, if_pos (nI_le (by omega) (by omega)), rdI_mk RM.cl rfl, Option.bind_some, wrF_mk RM.cl (Nat.le_of_ble_eq_true rfl), Option.bind_some, rdI_mk (va_up_self _ _ _) rfl, Option.bind_some, wrF_mk (va_up_self _ _ _) (Nat.le_of_ble_eq_true rfl), Option.bind_some, isO_mk (va_up_self _ _ _), if_pos rfl]
        rw [up_up, RM_up]
        show RO _ _ _ _ ((f_X2_countLength cy r (nI N) (RM μ r sp vp wt fk fp (kDoc K (nI dep)))).bind _)
        rw [q_count, Option.bind_some, nI_p, show (1 : Int32) = nI 1 by decide +kernel, nI_sub' (show 1 ≤ p + N by omega), nI_a4]
        have := q_loop S hr hB (last := p + N - 1) (row := row) (by omega) (fun K p rw h1 h2 => hE K p _ rw h1 (by omega) h2) 1200 0 (p + 4) FU (kLen (kDoc K (nI dep)) (nI N)) rfl (by omega) (by show 1200 < 100000; decide)
        rw [show p + N - 1 + 1 = p + N by omega] at this
        exact this
  · rw [if_neg h4] at q4
    obtain ⟨K1, q4⟩ := q4
    rw [if_pos (show w < p + 4 by omega), q4, ob2_some, if_pos (show (-1 : Int32) = -1 from rfl)]
    exact ⟨K1, rfl⟩
/-- the whole group, by the DEPTHS left -/
theorem q_group (S : SP cy μ sp c cap n h o) (hr : r ≠ sp ∧ r ≠ c) : ∀ (e d : Nat), e ≤ 24 → 4 * e + 1 ≤ d → okD cy μ r sp n vp wt fk fp (jDoc h wt e) (25 - e) (f_X2_readDocument cy d)
  | e, 0, _, hd => by omega
  | 0, d + 1, _, hd => by
    rw [f_X2_readDocument_s]
    refine ⟨fun K p w row hp hw => ?_, fun w d2 row ν => ?_⟩
    · have b := S.2.2
      unfold fo_X2_readDocument
      rw [if_neg (nI_m1 (by omega)), if_neg (show ¬ nI (25 - 0) ≤ (24 : Int32) from nI_ge (a := 24) (by omega) (by decide)), if_pos RM.is, q_refuse]
      exact ⟨K, rfl⟩
    · unfold fo_X2_readDocument
      rw [if_pos rfl]
  | e + 1, d + 1, he, hd => by
    match d, hd with
    | 0, hd => omega
    | 1, hd => omega
    | 2, hd => omega
    | d4 + 3, hd =>
      have ih3 := q_group S hr e (d4 + 1) (by omega) (by omega)
      have ih4 := q_group S hr e d4 (by omega) (by omega)
      have eq1 : 25 - e = (24 - e) + 1 := by omega
      rw [eq1] at ih3 ih4
      rw [f_X2_readDocument_s]
      refine ⟨fun K p w row hp hw => ?_, fun w d2 row ν => ?_⟩
      · rw [show 25 - (e + 1) = 24 - e by omega]
        refine q_body S hr (jDoc_b e) (fun K p last rw h1 h2 h3 => ?_) (by omega) hp hw
        rw [f_X2_readElement_s]
        refine q_elem S hr (fun K t p w h4 h5 => ?_) h1 (by omega) h3
        rw [f_X2_readValue_s]
        refine q_val S hr ih3 (jDoc_b e) (fun K p w h6 h7 => ?_) h4 h5
        rw [f_X2_readScoped_s]
        exact q_scoped S hr ih4 (jDoc_b e) h6 h7
      · unfold fo_X2_readDocument
        rw [if_pos rfl]
end PU6
