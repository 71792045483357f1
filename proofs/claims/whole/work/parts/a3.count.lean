/-! COUNTS: what the class counts as it reads is a walk over the reference's nodes. -/
def nv (h : Nat → Int32) (dep t : Int32) (v : Nat) (K : Kt) : Kt := if t = 2 ∨ t = 12 ∨ t = 13 ∨ t = 14 then kLen K (i4 h v) else if t = 3 ∨ t = 4 then kLen (kDoc K dep) (i4 h v) else if t = 5 then (if h (v + 4) = 2 then kLen (kLen K (i4 h v)) (i4 h (v + 5)) else kLen K (i4 h v)) else if t = 15 then kLen (kDoc (kLen (kLen K (i4 h v)) (i4 h (v + 4))) dep) (i4 h (dcIn h 15 v)) else K
def nst (h : Nat → Int32) (n : Nat) (wt dep : Int32) (q : Nat) (K : Kt) : Kt := nv h dep (h q) (vpl h n q) (kEl K (nI (vpl h n q - q - 2)) (if h q = wt then 1 else 0))
def stp (X : Nat → Nat → Int32) (h : Nat → Int32) (n : Nat) (wt : Int32) (k : Nat) (K : Kt) : Kt := nst h n wt (X 12 k) (X 6 k).toInt.toNat K
def fw (f : Nat → Kt → Kt) : Nat → Nat → Kt → Kt
  | _, 0, K => K
  | lo, j + 1, K => fw f (lo + 1) j (f lo K)
theorem fw_add {f : Nat → Kt → Kt} : ∀ (a b lo : Nat) (K : Kt), fw f lo (a + b) K = fw f (lo + a) b (fw f lo a K)
  | 0, b, lo, K => by rw [Nat.zero_add]; rfl
  | a + 1, b, lo, K => by
    rw [show a + 1 + b = a + b + 1 by omega]
    show fw f (lo + 1) (a + b) (f lo K) = fw f (lo + (a + 1)) b (fw f (lo + 1) a (f lo K))
    rw [fw_add a b (lo + 1), show lo + 1 + a = lo + (a + 1) by omega]
section CNT
variable {h : Nat → Int32} {n e : Nat} {wt : Int32} {RD : RDt}
theorem nv_doc {dep t : Int32} {v : Nat} {K : Kt} (hd : hasD t) : (nv h dep t v K).2.1 = (if K.2.1 < dep then dep else K.2.1) ∧ (nv h dep t v K).2.2.1 = K.2.2.1 + 1 := by
  unfold nv
  rcases hd with rfl | rfl | rfl
  · rw [if_neg (by decide), if_pos (by decide)]; exact ⟨rfl, rfl⟩
  · rw [if_neg (by decide), if_pos (by decide)]; exact ⟨rfl, rfl⟩
  · rw [if_neg (by decide), if_neg (by decide), if_neg (by decide), if_pos rfl]; exact ⟨rfl, rfl⟩
theorem nv_no {dep t : Int32} {v : Nat} {K : Kt} (hd : ¬ hasD t) : (nv h dep t v K).2.1 = K.2.1 ∧ (nv h dep t v K).2.2.1 = K.2.2.1 := by
  unfold nv
  have h34 : ¬ (t = 3 ∨ t = 4) := fun q => hd (q.elim Or.inl (fun q => Or.inr (Or.inl q)))
  have h15 : ¬ t = 15 := fun q => hd (Or.inr (Or.inr q))
  rw [if_neg h34, if_neg h15]
  split
  · exact ⟨rfl, rfl⟩
  · split
    · split <;> exact ⟨rfl, rfl⟩
    · exact ⟨rfl, rfl⟩
theorem nv_all {dep t : Int32} {v : Nat} {K : Kt} : (nv h dep t v K).1 = K.1 ∧ (nv h dep t v K).2.2.2.2.2.1 = K.2.2.2.2.2.1 ∧ (nv h dep t v K).2.2.2.2.2.2 = K.2.2.2.2.2.2 := by
  unfold nv
  split
  · exact ⟨rfl, rfl, rfl⟩
  · split
    · exact ⟨rfl, rfl, rfl⟩
    · split
      · split <;> exact ⟨rfl, rfl, rfl⟩
      · split <;> exact ⟨rfl, rfl, rfl⟩
theorem cn_val1 {K K' : Kt} {t dep : Int32} {v w q' : Nat} (ht : ¬ hasD t) (z : jVal h RD K t v w = .inr (q', K')) : K' = nv h dep t v K := by
  unfold nv
  unfold jVal at z
  have h3 : ¬ t = 3 := fun q => ht (Or.inl q)
  have h4 : ¬ t = 4 := fun q => ht (Or.inr (Or.inl q))
  have h15 : ¬ t = 15 := fun q => ht (Or.inr (Or.inr q))
  by_cases c1 : t = 2 ∨ t = 13 ∨ t = 14
  · rw [if_pos c1] at z
    obtain ⟨N, -, h2, -, -, -, -, hK⟩ := jT_b z
    rw [if_pos (by rcases c1 with c | c | c; exact Or.inl c; exact Or.inr (Or.inr (Or.inl c)); exact Or.inr (Or.inr (Or.inr c))), hK, h2]
  · rw [if_neg c1, if_neg h3, if_neg h4] at z
    by_cases c4 : t = 5
    · rw [if_pos c4] at z
      subst c4
      rw [if_neg (by decide), if_neg (by decide), if_pos rfl]
      obtain ⟨N, hN, h2, -, -, hh⟩ := jBin_b z
      rcases hh with ⟨a1, a2, a3, a4⟩ | ⟨a1, a2⟩
      · rw [if_pos a1, a4, h2, a3]
      · rw [if_neg a1, a2, h2]
    · rw [if_neg c4] at z
      by_cases c5 : t = 8
      · rw [if_pos c5] at z
        have := jBool_b z
        subst c5
        rw [if_neg (by decide), if_neg (by decide), if_neg (by decide), if_neg (by decide)]
        exact this.2.2.2
      · rw [if_neg c5] at z
        by_cases c6 : t = 11
        · rw [if_pos c6] at z
          obtain ⟨q1, K1, e5, e6⟩ := jThen_b z
          have g1 := jN_b e5
          have g2 := jN_b e6
          subst c6
          rw [if_neg (by decide), if_neg (by decide), if_neg (by decide), if_neg (by decide), g2.2.2.1, g1.2.2.1]
        · rw [if_neg c6] at z
          by_cases c7 : t = 12
          · rw [if_pos c7] at z
            obtain ⟨q1, K1, e5, e6⟩ := jThen_b z
            obtain ⟨N, -, h2, -, -, -, -, hK⟩ := jT_b e5
            have := jB_b e6
            rw [if_pos (Or.inr (Or.inl c7)), this.2.2, hK, h2]
          · rw [if_neg c7, if_neg h15] at z
            have := jB_b z
            rw [if_neg (fun q => by rcases q with q | q | q | q; exact c1 (Or.inl q); exact c7 q; exact c1 (Or.inr (Or.inl q)); exact c1 (Or.inr (Or.inr q))), if_neg (fun q => q.elim h3 h4), if_neg c4, if_neg h15]
            exact this.2.2
theorem cn_val2 {K K' : Kt} {t : Int32} {v w q' : Nat} (ht : hasD t) (hB : okB RD) (z : jVal h RD K t v w = .inr (q', K')) : ∃ K1 w', RD K1 (dcIn h t v) w' (t == 4) = .inr (q', K') ∧ ∀ dep, kLen (kDoc K1 dep) (i4 h (dcIn h t v)) = nv h dep t v K := by
  rcases ht with rfl | rfl | rfl
  · exact ⟨K, w, z, fun dep => rfl⟩
  · exact ⟨K, w, z, fun dep => rfl⟩
  · have z : jSc h RD (jT h) K v w = .inr (q', K') := z
    obtain ⟨N, h1, hN, h2, h3, h4, q1, K1, h5, h6⟩ := jSc_b hB z
    obtain ⟨M, m1, m2, m3, m4, m5, m6, m7⟩ := jT_b h5
    obtain ⟨M', g1, g2, g3, g4⟩ := (txOk.of ⟨_, h5⟩).le
    have e1 : dcIn h 15 v = q1 := by
      unfold dcIn
      rw [if_pos rfl, g3, nI_toInt g2]
      omega
    refine ⟨K1, v + N, by rw [e1]; exact h6, fun dep => ?_⟩
    show _ = kLen (kDoc (kLen (kLen K (i4 h v)) (i4 h (v + 4))) dep) (i4 h (dcIn h 15 v))
    rw [m7, h2, m2]
end CNT
section CNT2
variable {X : Nat → Nat → Int32} {h : Nat → Int32} {n : Nat} {wt : Int32}
theorem stp_eq {k q par dp : Nat} (N : NEl X h n k q par dp) (hq : q < 2 ^ 31) {K : Kt} : stp X h n wt k K = nst h n wt (nI (dp + 1)) q K := by
  unfold stp
  rw [N.1, N.2.2.2.2.2.2.2, nI_toInt hq]
  rfl
theorem cn_loop {e node D r m dp lo hi : Nat} {row : Bool} {c : Nat → Nat} (hn : n ≤ 2400) (Z : NK X h n e node D r row dp lo hi m c) (IH : ∀ (node D r : Nat) (row : Bool) (lo hi : Nat) (K : Kt) (w r' : Nat) (K' : Kt), NDoc X h n e node D r row (dp + 1) lo hi → jDoc h wt e K D w row = .inr (r', K') → K' = fw (stp X h n wt) lo (hi - lo) (kLen (kDoc K (nI (dp + 1))) (i4 h D))) : ∀ (j i f : Nat) (K K' : Kt) (q' : Nat), i + j = m → j ≤ f → jLoop h wt (jDoc h wt e) f K (st h n D i) (r - 1) row i = .inr (q', K') → K' = fw (stp X h n wt) (c i) (hi - c i) K
  | 0, i, f, K, K', q', hi', hf, z => by
    have : i = m := by omega
    subst this
    have hK : K' = K := by
      match f, z with
      | 0, z => cases z; rfl
      | f + 1, z =>
        unfold jLoop at z
        rw [Z.1.2.2.2.2.1, if_pos (Nat.le_refl _)] at z
        cases z
        rfl
    rw [Z.2.2.2.2.2.1, Nat.sub_self, hK]
    rfl
  | j + 1, i, 0, K, K', q', hi', hf, z => by omega
  | j + 1, i, f + 1, K, K', q', hi', hf, z => by
    unfold jLoop at z
    have hD := Z.1
    have l1 := hD.le' (i := i) (by omega)
    have l2 := hD.le' (i := i + 1) (by omega)
    have l3 := hD.lt (i := i) (k := m) (by omega) (Nat.le_refl _)
    have hr := hD.2.1
    have hr1 := hD.1
    rw [hD.2.2.2.2.1] at l3
    rw [if_neg (by omega)] at z
    obtain ⟨q1, K1, e5, e6⟩ := jThen_b z
    obtain ⟨ht, q2, g1, g2, g3, g4, g5, g6⟩ := jEl_s (jDoc_b e) e5
    have eo := (eOk.of ⟨K1, e5⟩).s (n := n) (by omega)
    have e1 : st h n D (i + 1) = q1 := eo.2.2.2.2.2
    have gn := jNm_s g5
    have ev : vpl h n (st h n D i) = q2 := by
      unfold vpl
      rw [bn_of (z := q2 - 1) gn.1.2.1 gn.1.1 (by omega) gn.1.2.2.1]
      omega
    rw [← e1] at e6
    have rest := cn_loop hn Z IH j (i + 1) f K1 K' q' (by omega) (by omega) e6
    obtain ⟨y1, y2, y3, y4, y5⟩ := Z.2.2.2.2.2.2 i (by omega)
    have ki := Z.inc (i := i + 1) (by omega)
    have sp := stp_eq (wt := wt) y2 (by omega) (K := K)
    have key : K1 = fw (stp X h n wt) (c i) (c (i + 1) - c i) K := by
      rw [← ev] at g6
      have one : fw (stp X h n wt) (c i) (c (i + 1) - c i) K = fw (stp X h n wt) (c i + 1) (c (i + 1) - (c i + 1)) (nst h n wt (nI (dp + 1)) (st h n D i) K) := by
        rw [show c (i + 1) - c i = (c (i + 1) - (c i + 1)) + 1 by omega, ← sp]
        rfl
      rw [one]
      by_cases hd : hasD (h (st h n D i))
      · obtain ⟨K2, w', z1, z2⟩ := cn_val2 hd (jDoc_b e) g6
        have := IH _ _ _ _ _ _ _ _ _ _ (y4 hd) z1
        rw [this, z2]
        rfl
      · have v1 := cn_val1 (dep := nI (dp + 1)) hd g6
        rw [y5 hd, Nat.sub_self]
        exact v1
    rw [rest, key, show hi - c i = (c (i + 1) - c i) + (hi - c (i + 1)) by omega, fw_add, show c i + (c (i + 1) - c i) = c (i + 1) by omega]
theorem cn_doc (hn : n ≤ 2400) : ∀ (e node D r : Nat) (row : Bool) (dp lo hi : Nat) (K : Kt) (w r' : Nat) (K' : Kt), dp + e = 25 → NDoc X h n e node D r row dp lo hi → jDoc h wt e K D w row = .inr (r', K') → K' = fw (stp X h n wt) lo (hi - lo) (kLen (kDoc K (nI dp)) (i4 h D))
  | 0, node, D, r, row, dp, lo, hi, K, w, r', K', hd, z, y => z.elim
  | e + 1, node, D, r, row, dp, lo, hi, K, w, r', K', hd, z, y => by
    obtain ⟨m, c, Z⟩ := NDoc_s.mp z
    have y : jBody h wt (jDoc h wt e) (nI (24 - e)) K D w row = .inr (r', K') := y
    obtain ⟨N, h1, hN, h2, h3, h4, h5, q1, h6⟩ := jBody_b y
    have hD := Z.1
    have hr1 := hD.1
    have hr2 := hD.2.1
    have eN : N = r - D := by
      have := hD.2.2.1
      rw [h2] at this
      exact (nI_eq hN (by omega)).mp this
    have := cn_loop (wt := wt) hn Z (fun node D r row lo hi K w r' K' z y => cn_doc hn e node D r row (dp + 1) lo hi K w r' K' (by omega) z y) m 0 1200 _ K' q1 (by omega) (by have := Z.2.1; omega) (by
      show jLoop h wt (jDoc h wt e) 1200 (kLen (kDoc K (nI (24 - e))) (nI N)) (D + 4) (r - 1) row 0 = _
      rw [show r - 1 = D + N - 1 by omega]
      exact h6)
    rw [this, Z.2.2.2.2.1, h2, show 24 - e = dp by omega]
/-- every node is a good ELEMENT -/
theorem nd_all : ∀ (e node D r : Nat) (row : Bool) (dp lo hi : Nat), NDoc X h n e node D r row dp lo hi → ∀ k, lo ≤ k → k < hi → ∃ q par dp' e' r' rw', NEl X h n k q par dp' ∧ eOk h e' q r' rw' ∧ r' ≤ n
  | 0, node, D, r, row, dp, lo, hi, z, k, k1, k2 => z.elim
  | e + 1, node, D, r, row, dp, lo, hi, z, k, k1, k2 => by
    obtain ⟨m, c, Z⟩ := NDoc_s.mp z
    have key : ∀ i, i ≤ m → k < c i → ∃ q par dp' e' r' rw', NEl X h n k q par dp' ∧ eOk h e' q r' rw' ∧ r' ≤ n := by
      intro i
      induction i with
      | zero =>
        intro _ hk
        rw [Z.2.2.2.2.1] at hk
        omega
      | succ i ih =>
        intro hi' hk
        rcases Nat.lt_or_ge k (c i) with q | q
        · exact ih (by omega) q
        · obtain ⟨y1, y2, y3, y4, y5⟩ := Z.2.2.2.2.2.2 i (by omega)
          rcases Nat.eq_or_lt_of_le q with q2 | q2
          · subst q2
            have l2 := Z.1.le' (i := i + 1) (by omega)
            have hr := Z.1.2.1
            have hr1 := Z.1.1
            exact ⟨_, _, _, _, _, _, y2, Z.1.2.2.2.2.2 i (by omega), by omega⟩
          · by_cases hd : hasD (h (st h n D i))
            · exact nd_all e _ _ _ _ _ _ _ (y4 hd) k q2 hk
            · have := y5 hd
              omega
    exact key m (Nat.le_refl _) (by rw [Z.2.2.2.2.2.1]; exact k2)
theorem fw_1 {X : Nat → Nat → Int32} : ∀ (j lo : Nat) (K : Kt), (fw (stp X h n wt) lo j K).1 = K.1 + nI j
  | 0, lo, K => by
    show K.1 = K.1 + 0
    rw [Int32.add_zero]
  | j + 1, lo, K => by
    show (fw (stp X h n wt) (lo + 1) j (stp X h n wt lo K)).1 = _
    rw [fw_1 j (lo + 1)]
    have : (stp X h n wt lo K).1 = K.1 + 1 := (nv_all).1
    rw [this, Int32.add_assoc, nI_ca 1 1 (by decide +kernel), Nat.add_comm 1 j]
end CNT2
