/-! LEVELS: how deep a VALUE goes, on both sides. -/
def mxI (a b : Int32) : Int32 := if a < b then b else a
theorem mx_as {a : Int32} {x y : Nat} (hx : x < 2 ^ 30) (hy : y < 2 ^ 30) : mxI (mxI a (nI x)) (nI y) = mxI a (nI (max x y)) := by
  have tx := nI_toInt (n := x) (by omega)
  have ty := nI_toInt (n := y) (by omega)
  have lt : ∀ p q : Int32, p < q ↔ p.toInt < q.toInt := fun p q => Int32.lt_iff_toInt_lt
  rcases Nat.le_total x y with h | h
  · rw [Nat.max_eq_right h]
    unfold mxI
    by_cases c : a < nI x
    · rw [if_pos c, if_pos (show a < nI y from (lt _ _).mpr (by have := (lt _ _).mp c; omega))]
      by_cases c2 : nI x < nI y
      · rw [if_pos c2]
      · rw [if_neg c2]
        have : ¬ (nI x).toInt < (nI y).toInt := fun z => c2 ((lt _ _).mpr z)
        rw [show x = y by omega]
    · rw [if_neg c]
  · rw [Nat.max_eq_left h]
    unfold mxI
    by_cases c : a < nI x
    · rw [if_pos c, if_neg (fun z => by have := (lt _ _).mp z; omega)]
    · rw [if_neg c, if_neg (fun z => c ((lt _ _).mpr (by have := (lt _ _).mp z; omega)))]
theorem mx_ge {a b x : Int32} (h : ¬ a < x) : ¬ mxI a b < x := by
  unfold mxI
  by_cases c : a < b
  · rw [if_pos c]
    intro z
    have h1 : ¬ a.toInt < x.toInt := fun q => h (Int32.lt_iff_toInt_lt.mpr q)
    have h2 := Int32.lt_iff_toInt_lt.mp c
    have h3 := Int32.lt_iff_toInt_lt.mp z
    omega
  · rw [if_neg c]; exact h
theorem cn_val3 {h : Nat → Int32} {RD : RDt} {K K' : Kt} {t : Int32} {v w q' : Nat} (ht : hasD t) (hB : okB RD) (z : jVal h RD K t v w = .inr (q', K')) : ∃ K1 w', RD K1 (dcIn h t v) w' (t == 4) = .inr (q', K') ∧ K1.2.1 = K.2.1 := by
  rcases ht with rfl | rfl | rfl
  · exact ⟨K, w, z, rfl⟩
  · exact ⟨K, w, z, rfl⟩
  · have z : jSc h RD (jT h) K v w = .inr (q', K') := z
    obtain ⟨N, h1, hN, h2, h3, h4, q1, K1, h5, h6⟩ := jSc_b hB z
    obtain ⟨M, m1, m2, m3, m4, m5, m6, m7⟩ := jT_b h5
    obtain ⟨M', g1, g2, g3, g4⟩ := (txOk.of ⟨_, h5⟩).le
    have e1 : dcIn h 15 v = q1 := by
      unfold dcIn
      rw [if_pos rfl, g3, nI_toInt g2]
      omega
    exact ⟨K1, v + N, by rw [e1]; exact h6, by rw [m7]; rfl⟩
theorem vOk_nd {h : Nat → Int32} {e e2 : Nat} {t : Int32} {p r : Nat} (ht : ¬ hasD t) (z : vOk h e t p r) : vOk h e2 t p r := by
  obtain ⟨K', z⟩ := z
  refine ⟨K', ?_⟩
  have h3 : ¬ t = 3 := fun q => ht (Or.inl q)
  have h4 : ¬ t = 4 := fun q => ht (Or.inr (Or.inl q))
  have h15 : ¬ t = 15 := fun q => ht (Or.inr (Or.inr q))
  unfold jVal at z ⊢
  rw [if_neg h3, if_neg h4, if_neg h15] at z ⊢
  exact z
/-- a VALUE whose DOCUMENT is good at other levels -/
theorem vOk_lv {h : Nat → Int32} {e e2 : Nat} {t : Int32} {p r : Nat} (ht : hasD t) (z : vOk h e t p r) (d : dOk h e2 (dcIn h t p) r (t == 4)) : vOk h e2 t p r := by
  rcases ht with rfl | rfl | rfl
  · exact vOk.m34 (Or.inl rfl) d
  · exact vOk.m34 (Or.inr rfl) d
  · obtain ⟨M, h1, h2, h3, h4, h5, h6, h7, h8⟩ := z.s15
    have e1 : dcIn h 15 p = p + 8 + M := by
      unfold dcIn
      rw [if_pos rfl, h6, nI_toInt h2]
      omega
    rw [e1] at d
    exact vOk.m15 h3 h4 h5 h7 d
section LV1
variable {cy : Nat → ClassId} {iw : Nat → Option Nat} {aw : Nat → Nat} {μ1 : Mem} {I : Nat → Int32} {V : Nat → Value} {A : Nat → Nat → Int32} {o T sd n N : Nat} {bs : Nat → Nat} {X : Nat → Nat → Int32}
def LVd (cy : Nat → ClassId) (iw : Nat → Option Nat) (aw : Nat → Nat) (μ1 : Mem) (I : Nat → Int32) (V : Nat → Value) (A : Nat → Nat → Int32) (o T N : Nat) (X : Nat → Nat → Int32) (bs : Nat → Nat) (e node D r : Nat) (row : Bool) (L : Nat) : Prop := 1 ≤ L ∧ L ≤ e ∧ (∀ (e' : Nat) (K : Kt) (w r' : Nat) (K' : Kt), e' ≤ 24 → jDoc (hb bs) (-1) e' K D w row = .inr (r', K') → K'.2.1 = mxI K.2.1 (nI (24 - e' + L))) ∧ (∀ d, e + 1 ≤ d → f_X7_below cy d (aw o) (nI node) (MT cy iw aw μ1 I V A T N X) = some (nI L, MT cy iw aw μ1 I V A T N X)) ∧ ∀ e'', L ≤ e'' → dOk (hb bs) e'' D r row
theorem lv_leaf (F : TX iw aw V A o T sd bs n) {k d : Nat} (hk : k < 1300) (h10 : X 10 k = -1) : f_X7_below cy (d + 1) (aw o) (nI k) (MT cy iw aw μ1 I V A T N X) = some (0, MT cy iw aw μ1 I V A T N X) := by
  rw [f_X7_below_s]
  unfold fo_X7_below
  rw [x_r10 F, Option.bind_some, x_ld F 10 (by decide) hk, Option.bind_some, h10, if_neg (by decide)]
theorem lv_loop (F : TX iw aw V A o T sd bs n) {e node D r m dp lo hi : Nat} {row : Bool} {c : Nat → Nat} (he : e ≤ 1000) (Z : NK X (hb bs) n e node D r row dp lo hi m c) (hhi : hi < 1300) (IH : ∀ i, i < m → hasD (hb bs (st (hb bs) n D i)) → ∃ L, LVd cy iw aw μ1 I V A o T N X bs e (c i) (dcIn (hb bs) (hb bs (st (hb bs) n D i)) (vpl (hb bs) n (st (hb bs) n D i))) (st (hb bs) n D (i + 1)) (hb bs (st (hb bs) n D i) == 4) L) : ∀ (j i : Nat), i + j = m → ∃ M, M ≤ e ∧
    (∀ (e' f : Nat) (K K' : Kt) (q' : Nat), e' + 1 ≤ 24 → ¬ K.2.1 < nI (24 - e') → j ≤ f → jLoop (hb bs) (-1) (jDoc (hb bs) (-1) e') f K (st (hb bs) n D i) (r - 1) row i = .inr (q', K') → K'.2.1 = mxI K.2.1 (nI (24 - e' + M))) ∧
    (∀ d f mo, e + 1 ≤ d → mo < 2 ^ 20 → j < f → f_X7_below_L20 cy (f_X7_below cy d) f (aw o) (nI mo) (if i = m then -1 else nI (c i)) (MT cy iw aw μ1 I V A T N X) = some (nI (1 + max mo M), MT cy iw aw μ1 I V A T N X)) ∧
    ∀ i', i ≤ i' → i' < m → ∀ e3, M ≤ e3 → eOk (hb bs) e3 (st (hb bs) n D i') (st (hb bs) n D (i' + 1)) (rwo row i')
  | 0, i, hi' => by
    have : i = m := by omega
    subst this
    refine ⟨0, Nat.zero_le _, fun e' f K K' q' h1 h2 hf z => ?_, fun d f mo h1 h2 hf => ?_, fun i' a1 a2 => by omega⟩
    · have hK : K' = K := by
        match f, z with
        | 0, z => cases z; rfl
        | f + 1, z =>
          unfold jLoop at z
          rw [Z.1.2.2.2.2.1, if_pos (Nat.le_refl _)] at z
          cases z
          rfl
      rw [hK]
      exact (if_neg h2).symm
    · match f, hf with
      | f + 1, _ =>
        rw [f_X7_below_L20, if_pos rfl, if_pos (by decide), nI_ca 1 1 (by decide +kernel), Nat.max_eq_left (Nat.zero_le _)]
  | j + 1, i, hi' => by
    obtain ⟨M', m1, m2, m3, m4⟩ := lv_loop F he Z hhi IH j (i + 1) (by omega)
    have hD := Z.1
    have l1 := hD.le' (i := i) (by omega)
    have l2 := hD.le' (i := i + 1) (by omega)
    have l3 := hD.lt (i := i) (k := m) (by omega) (Nat.le_refl _)
    have hr := hD.2.1
    have hr1 := hD.1
    have hn := F.2.2.2.2.2.2
    rw [hD.2.2.2.2.1] at l3
    obtain ⟨y1, y2, y3, y4, y5⟩ := Z.2.2.2.2.2.2 i (by omega)
    have ki := Z.inc (i := i) (by omega)
    have ci : c i < 1300 := by omega
    have eo := hD.2.2.2.2.2 i (by omega)
    have es := eo.s (n := n) (by omega)
    -- the ELEMENT's own levels
    have el : ∃ Lx, Lx ≤ e ∧ (∀ (e' : Nat) (K K1 : Kt) (q1 w : Nat), e' + 1 ≤ 24 → ¬ K.2.1 < nI (24 - e') → jVal (hb bs) (jDoc (hb bs) (-1) e') K (hb bs (st (hb bs) n D i)) (vpl (hb bs) n (st (hb bs) n D i)) w = .inr (q1, K1) → K1.2.1 = mxI K.2.1 (nI (24 - e' + Lx))) ∧ (∀ d, e + 1 ≤ d → f_X7_below cy d (aw o) (nI (c i)) (MT cy iw aw μ1 I V A T N X) = some (nI Lx, MT cy iw aw μ1 I V A T N X)) ∧ ∀ e3, Lx ≤ e3 → vOk (hb bs) e3 (hb bs (st (hb bs) n D i)) (vpl (hb bs) n (st (hb bs) n D i)) (st (hb bs) n D (i + 1)) := by
      by_cases hd : hasD (hb bs (st (hb bs) n D i))
      · obtain ⟨L, a1, a2, a3, a4, a5⟩ := IH i (by omega) hd
        refine ⟨L, a2, fun e' K K1 q1 w h1 h2 z => ?_, a4, fun e3 h3 => vOk_lv hd es.2.2.2.2.1 (a5 e3 h3)⟩
        obtain ⟨K2, w', z1, z2⟩ := cn_val3 hd (jDoc_b e') z
        rw [a3 e' K2 w' q1 K1 (by omega) z1, z2]
      · refine ⟨0, Nat.zero_le _, fun e' K K1 q1 w h1 h2 z => ?_, fun d hd' => ?_, fun e3 _ => vOk_nd hd es.2.2.2.2.1⟩
        · rw [cn_val1 (dep := 0) hd z, (nv_no hd).1]
          exact (if_neg h2).symm
        · obtain ⟨d', rfl⟩ : ∃ d', d = d' + 1 := ⟨d - 1, by omega⟩
          refine lv_leaf F ci ?_
          rw [y2.2.2.2.2.2.1]
          exact if_neg hd
    obtain ⟨Lx, x1, x2, x3, x4⟩ := el
    refine ⟨max Lx M', by omega, fun e' f K K' q' h1 h2 hf z => ?_, fun d f mo h1 h2 hf => ?_, fun i' a1 a2 e3 h3 => ?_⟩
    · match f, hf, z with
      | f + 1, hf, z =>
        unfold jLoop at z
        rw [if_neg (by omega)] at z
        obtain ⟨q1, K1, e5, e6⟩ := jThen_b z
        obtain ⟨ht, q2, g1, g2, g3, g4, g5, g6⟩ := jEl_s (jDoc_b e') e5
        have eo2 := (eOk.of ⟨K1, e5⟩).s (n := n) (by omega)
        have e1 : st (hb bs) n D (i + 1) = q1 := eo2.2.2.2.2.2
        have gn := jNm_s g5
        have ev : vpl (hb bs) n (st (hb bs) n D i) = q2 := by
          unfold vpl
          rw [bn_of (z := q2 - 1) gn.1.2.1 gn.1.1 (by omega) gn.1.2.2.1]
          omega
        rw [← e1] at e6
        rw [← ev] at g6
        have k1 := x2 e' _ K1 q1 _ h1 (by exact h2) g6
        have k1' : K1.2.1 = mxI K.2.1 (nI (24 - e' + Lx)) := k1
        have k2 := m2 e' f K1 K' q' h1 (by rw [k1']; exact mx_ge h2) (by omega) e6
        rw [k2, k1', mx_as (by omega) (by omega)]
        congr 2
        omega
    · match f, hf with
      | f + 1, hf =>
        have go := m3 d f (max mo Lx) h1 (by omega) (by omega)
        rw [f_X7_below_L20, if_neg (show ¬ i = m by omega), if_neg (show ¬ nI (c i) < 0 from nI_nlt (b := 0) (Nat.zero_le _) (by omega)), if_pos (x_is F), x3 d h1, ob2_some]
        unfold f_X7_below_L43
        rw [x_r5 F, Option.bind_some, Option.bind_some, x_ld F 5 (by decide) ci, Option.bind_some, Option.bind_some, y3]
        have fin : nI (1 + max (max mo Lx) M') = nI (1 + max mo (max Lx M')) := by congr 2; omega
        rw [fin] at go
        by_cases q : Lx ≤ mo
        · rw [if_pos (nI_le q (by omega))]
          rw [Nat.max_eq_left q] at go
          exact go
        · rw [if_neg (nI_ge (by omega) (by omega))]
          rw [Nat.max_eq_right (by omega)] at go
          exact go
    · by_cases q : i' = i
      · subst q
        refine eOk.m (z := vpl (hb bs) n (st (hb bs) n D i') - 1) es.1 es.2.2.2.1 ?_
        rw [show vpl (hb bs) n (st (hb bs) n D i') - 1 + 1 = vpl (hb bs) n (st (hb bs) n D i') by have := es.2.1; omega]
        exact x4 e3 (by omega)
      · exact m4 i' (by omega) a2 e3 (by omega)
theorem lv_doc (F : TX iw aw V A o T sd bs n) : ∀ (e node D r : Nat) (row : Bool) (dp lo hi : Nat), e ≤ 1000 → NDoc X (hb bs) n e node D r row dp lo hi → hi < 1300 → node < 1300 → X 10 node = nI D → ∃ L, LVd cy iw aw μ1 I V A o T N X bs e node D r row L
  | 0, node, D, r, row, dp, lo, hi, _, z, _, _, _ => z.elim
  | e + 1, node, D, r, row, dp, lo, hi, he, z, hhi, hno, h10 => by
    obtain ⟨m, c, Z0⟩ := NDoc_s.mp z
    have Z : NK X (hb bs) n e node D r row dp lo hi m c := Z0
    have hD := Z.1
    have hr1 := hD.1
    have hr2 := hD.2.1
    have hn := F.2.2.2.2.2.2
    have hm := Z.2.1
    obtain ⟨M, m1, m2, m3, m4⟩ := lv_loop (cy := cy) (μ1 := μ1) (I := I) (N := N) F (by omega) Z hhi (fun i hi' hd => by
      obtain ⟨y1, y2, y3, y4, y5⟩ := Z.2.2.2.2.2.2 i hi'
      have ki := Z.inc (i := i + 1) (by omega)
      exact lv_doc F e _ _ _ _ _ _ _ (by omega) (y4 hd) (by omega) (by omega) (by rw [y2.2.2.2.2.2.1]; exact if_pos hd)) m 0 (by omega)
    refine ⟨1 + M, by omega, by omega, fun e' K w r' K' h1 y => ?_, fun d hd => ?_, fun e'' h3 => ?_⟩
    · match e', h1, y with
      | e' + 1, h1, y =>
        have y : jBody (hb bs) (-1) (jDoc (hb bs) (-1) e') (nI (24 - e')) K D w row = .inr (r', K') := y
        obtain ⟨N', n1, hN, n2, n3, n4, n5, q1, n6⟩ := jBody_b y
        have eN : N' = r - D := by
          have := hD.2.2.1
          rw [n2] at this
          exact (nI_eq hN (by omega)).mp this
        have lp := m2 e' 1200 (kLen (kDoc K (nI (24 - e'))) (nI N')) K' q1 h1 (by
          show ¬ mxI K.2.1 (nI (24 - e')) < nI (24 - e')
          unfold mxI
          by_cases q : K.2.1 < nI (24 - e')
          · rw [if_pos q]; exact fun y => Int32.lt_irrefl y
          · rw [if_neg q]; exact q) (by omega) (by
          show jLoop (hb bs) (-1) (jDoc (hb bs) (-1) e') 1200 (kLen (kDoc K (nI (24 - e'))) (nI N')) (D + 4) (r - 1) row 0 = _
          rw [show r - 1 = D + N' - 1 by omega]
          exact n6)
        have lp' : K'.2.1 = mxI (mxI K.2.1 (nI (24 - e'))) (nI (24 - e' + M)) := lp
        rw [lp', mx_as (by omega) (by omega)]
        congr 2
        omega
    · obtain ⟨d', rfl⟩ : ∃ d', d = d' + 1 := ⟨d - 1, by omega⟩
      rw [f_X7_below_s]
      unfold fo_X7_below
      have go := m3 d' FU 0 (by omega) (by decide) (by show m < 100000; omega)
      have e4 : X 4 node = (if 0 = m then -1 else nI (c 0)) := by
        rw [Z.2.2.2.1, Z.2.2.2.2.1]
        by_cases q : m = 0
        · rw [if_pos q, if_pos q.symm]
        · rw [if_neg q, if_neg (fun y => q y.symm)]
      have go' : f_X7_below_L20 cy (f_X7_below cy d') FU (aw o) 0 (if 0 = m then -1 else nI (c 0)) (MT cy iw aw μ1 I V A T N X) = _ := go
      rw [x_r10 F, Option.bind_some, x_ld F 10 (by decide) hno, Option.bind_some, h10, if_pos (show (0 : Int32) ≤ nI D from nI_le (a := 0) (Nat.zero_le _) (by omega)), x_r4 F, Option.bind_some, x_ld F 4 (by decide) hno, Option.bind_some, e4, go', Nat.max_eq_right (Nat.zero_le _)]
    · obtain ⟨e3, rfl⟩ : ∃ e3, e'' = e3 + 1 := ⟨e'' - 1, by omega⟩
      exact dOk.m (st (hb bs) n D) hr1 (by omega) hD.2.2.1 hD.2.2.2.1 (by omega) rfl hD.2.2.2.2.1 (fun i hi' => m4 i (Nat.zero_le _) hi' e3 (by omega))
end LV1
