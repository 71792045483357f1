/-! PURE ROWS: judging DOCUMENTS, by how many DEPTHS are left (e: a DOCUMENT of DEPTH 25 - e). -/
section PU4
variable (h : Nat → Int32) (wt : Int32)
abbrev RDt : Type := Kt → Nat → Nat → Bool → JR
def jSc (RD : RDt) (jTx : Kt → Nat → Nat → JR) (K : Kt) (p w : Nat) : JR :=
  if w < p + 4 then .inl (1, p) else if (i4 h p).toInt < 14 then .inl (2, p) else if w < p + (i4 h p).toInt.toNat then .inl (1, p) else
  jThen (jTx (kLen K (i4 h p)) (p + 4) (p + (i4 h p).toInt.toNat)) fun q K => jThen (RD K q (p + (i4 h p).toInt.toNat) false) fun q K => if q = p + (i4 h p).toInt.toNat then .inr (q, K) else .inl (2, p)
noncomputable def jVal (RD : RDt) (K : Kt) (t : Int32) (p w : Nat) : JR :=
  if t = 2 ∨ t = 13 ∨ t = 14 then jT h K p w else if t = 3 then RD K p w false else if t = 4 then RD K p w true else if t = 5 then jBin h K p w else if t = 8 then jBool h K p w else
  if t = 11 then jThen (jN h K p w) (fun q K => jN h K q w) else if t = 12 then jThen (jT h K p w) (fun q K => jB K q 12 w) else if t = 15 then jSc h RD (jT h) K p w else jB K p (wd t) w
noncomputable def jNm (K : Kt) (p w : Nat) (row : Option Nat) : JR := match row with
  | none => jN h K p w
  | some v => jRN h K p w v
noncomputable def jEl (RD : RDt) (K : Kt) (p w : Nat) (row : Option Nat) : JR :=
  @ite JR (isTy (h p)) (Classical.propDecidable _) (jThen (jNm h K (p + 1) w row) (fun q K => jVal h RD (kEl K (nI (q - p - 2)) (if h p = wt then 1 else 0)) (h p) q w)) (.inl (3, p))
noncomputable def jLoop (RD : RDt) : Nat → Kt → Nat → Nat → Bool → Nat → JR
  | 0, K, q, _, _, _ => .inr (q, K)
  | f + 1, K, q, last, row, v => if last ≤ q then .inr (q, K) else jThen (jEl h wt RD K q last (if row then some v else none)) (fun q K => jLoop RD f K q last row (v + 1))
noncomputable def jBody (RD : RDt) (dep : Int32) (K : Kt) (p w : Nat) (row : Bool) : JR :=
  if w < p + 4 then .inl (1, p) else if (i4 h p).toInt < 5 then .inl (2, p) else if w < p + (i4 h p).toInt.toNat then .inl (1, p) else
  jThen (jLoop h wt RD 1200 (kLen (kDoc K dep) (i4 h p)) (p + 4) (p + (i4 h p).toInt.toNat - 1) row 0) fun _ K => if h (p + (i4 h p).toInt.toNat - 1) = 0 then .inr (p + (i4 h p).toInt.toNat, K) else .inl (4, p + (i4 h p).toInt.toNat - 1)
noncomputable def jDoc : Nat → RDt
  | 0 => fun _ p _ _ => .inl (8, p)
  | e + 1 => fun K p w row => jBody h wt (jDoc e) (nI (24 - e)) K p w row
end PU4
section PU5
variable {h : Nat → Int32} {wt : Int32} {RD : RDt}
/-- a reading of DOCUMENTS ends where it may -/
def okB (RD : RDt) : Prop := ∀ K p w row q K', RD K p w row = .inr (q, K') → p + 5 ≤ q ∧ q ≤ w
theorem jSc_b (hB : okB RD) {K K' : Kt} {p w q : Nat} (e : jSc h RD (jT h) K p w = .inr (q, K')) : ∃ N, 14 ≤ N ∧ N < 2 ^ 31 ∧ i4 h p = nI N ∧ q = p + N ∧ q ≤ w ∧ ∃ q1 K1, jT h (kLen K (nI N)) (p + 4) (p + N) = .inr (q1, K1) ∧ RD K1 q1 (p + N) false = .inr (q, K') := by
  unfold jSc at e
  rcases i4_or (i4 h p) 14 (by decide) with ⟨e1, e2⟩ | ⟨N, e1, e2, e3⟩
  · split at e
    · cases e
    · rw [if_pos (show (i4 h p).toInt < 14 from e2)] at e
      cases e
  · have eN : (i4 h p).toInt.toNat = N := by rw [e3, nI_toInt e2]; omega
    rw [eN] at e
    split at e
    · cases e
    · split at e
      · cases e
      · split at e
        · cases e
        · obtain ⟨q1, K1, e5, e6⟩ := jThen_b e
          obtain ⟨q2, K2, e7, e8⟩ := jThen_b e6
          split at e8
          · cases e8
            rename_i e9
            exact ⟨N, e1, e2, e3, e9, by omega, q1, K1, by rw [← e3]; exact e5, e7⟩
          · cases e8
theorem jVal_b (hB : okB RD) {K K' : Kt} {t : Int32} {p w q : Nat} (e : jVal h RD K t p w = .inr (q, K')) : p ≤ q ∧ q ≤ w := by
  unfold jVal at e
  split at e
  · obtain ⟨N, h1, -, h2, h3, -⟩ := jT_b e
    omega
  · split at e
    · have := hB _ _ _ _ _ _ e; omega
    · split at e
      · have := hB _ _ _ _ _ _ e; omega
      · split at e
        · obtain ⟨N, -, -, h2, h3, -⟩ := jBin_b e
          omega
        · split at e
          · have := jBool_b e; omega
          · split at e
            · obtain ⟨q1, K1, e5, e6⟩ := jThen_b e
              have := jN_b e5
              have := jN_b e6
              omega
            · split at e
              · obtain ⟨q1, K1, e5, e6⟩ := jThen_b e
                obtain ⟨N, h1, -, h2, h3, -⟩ := jT_b e5
                have := jB_b e6
                omega
              · split at e
                · obtain ⟨N, h1, -, -, h2, h3, -⟩ := jSc_b hB e
                  omega
                · have := jB_b e
                  omega
theorem jNm_b {K K' : Kt} {p w q : Nat} {row : Option Nat} (e : jNm h K p w row = .inr (q, K')) : p < q ∧ q ≤ w ∧ K' = K ∧ zf h p (w - p) = some (q - 1) := by
  cases row with
  | none => have := jN_b e; exact ⟨this.1, this.2.1, this.2.2.1, this.2.2.2.1⟩
  | some v => have := jRN_b e; exact ⟨this.1, this.2.1, this.2.2.1, this.2.2.2.1⟩
theorem jEl_s (hB : okB RD) {K K' : Kt} {p w q : Nat} {row : Option Nat} (e : jEl h wt RD K p w row = .inr (q, K')) : isTy (h p) ∧ ∃ q1, p + 2 ≤ q1 ∧ q1 ≤ q ∧ q ≤ w ∧ zf h (p + 1) (w - (p + 1)) = some (q1 - 1) ∧ jNm h K (p + 1) w row = .inr (q1, K) ∧ jVal h RD (kEl K (nI (q1 - p - 2)) (if h p = wt then 1 else 0)) (h p) q1 w = .inr (q, K') := by
  unfold jEl at e
  split at e
  · rename_i ht
    obtain ⟨q1, K1, e5, e6⟩ := jThen_b e
    obtain ⟨h1, h2, rfl, h4⟩ := jNm_b e5
    have := jVal_b hB e6
    exact ⟨ht, q1, by omega, by omega, by omega, h4, e5, e6⟩
  · cases e
theorem jLoop_b (hB : okB RD) : ∀ {f : Nat} {K K' : Kt} {q last v e : Nat} {row : Bool}, q ≤ last → jLoop h wt RD f K q last row v = .inr (e, K') → q ≤ e ∧ e ≤ last
  | 0, K, K', q, last, v, e, row, hq, he => by
    cases he
    omega
  | f + 1, K, K', q, last, v, e, row, hq, he => by
    unfold jLoop at he
    split at he
    · cases he; omega
    · obtain ⟨q1, K1, e5, e6⟩ := jThen_b he
      obtain ⟨-, q2, h1, h2, h3, -⟩ := jEl_s hB e5
      have := jLoop_b hB (by omega) e6
      omega
theorem jBody_b {dep : Int32} {K K' : Kt} {p w q : Nat} {row : Bool} (e : jBody h wt RD dep K p w row = .inr (q, K')) : ∃ N, 5 ≤ N ∧ N < 2 ^ 31 ∧ i4 h p = nI N ∧ q = p + N ∧ q ≤ w ∧ h (p + N - 1) = 0 ∧ ∃ q1, jLoop h wt RD 1200 (kLen (kDoc K dep) (nI N)) (p + 4) (p + N - 1) row 0 = .inr (q1, K') := by
  unfold jBody at e
  rcases i4_or (i4 h p) 5 (by decide) with ⟨e1, e2⟩ | ⟨N, e1, e2, e3⟩
  · split at e
    · cases e
    · rw [if_pos (show (i4 h p).toInt < 5 from e2)] at e
      cases e
  · have eN : (i4 h p).toInt.toNat = N := by rw [e3, nI_toInt e2]; omega
    rw [eN] at e
    split at e
    · cases e
    · split at e
      · cases e
      · split at e
        · cases e
        · obtain ⟨q1, K1, e5, e6⟩ := jThen_b e
          split at e6
          · cases e6
            rename_i h0
            exact ⟨N, e1, e2, e3, rfl, by omega, h0, q1, by rw [← e3]; exact e5⟩
          · cases e6
theorem jDoc_b : ∀ (e : Nat), okB (jDoc h wt e)
  | 0 => fun K p w row q K' z => by cases z
  | e + 1 => fun K p w row q K' z => by
    obtain ⟨N, h1, -, -, h2, h3, -⟩ := jBody_b z
    omega
end PU5
