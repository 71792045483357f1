/-! PURE ROWS: judging, as one function over bytes; the class Reader does it. -/
theorem up_up {μ : Mem} {a : Nat} {x y : va_E} : va_up (va_up μ a x) a y = va_up μ a y := by
  funext q
  unfold va_up
  by_cases h : q = a <;> simp [h]
theorem up_id {μ : Mem} {a : Nat} {x : va_E} (h : μ a = x) : va_up μ a x = μ := by
  funext q
  unfold va_up
  by_cases e : q = a
  · rw [if_pos e, e, h]
  · rw [if_neg e]
/-- what is counted: ELEMENTS, greatest DEPTH, DOCUMENTS, lengths, their sum, bytes of NAMES, ELEMENTS of the wanted TYPE -/
abbrev Kt : Type := Int32 × Int32 × Int32 × Int32 × Int32 × Int32 × Int32
/-- the reader's cell -/
def rc (sp : Nat) (vp wt fk fp : Int32) (K : Kt) : va_E := .inr (1, [.ref sp, .int fk, .int fp, .int vp, .int K.1, .int K.2.1, .int K.2.2.1, .int K.2.2.2.1, .int K.2.2.2.2.1, .int K.2.2.2.2.2.1, .int wt, .int K.2.2.2.2.2.2])
def kLen (K : Kt) (m : Int32) : Kt := (K.1, K.2.1, K.2.2.1, K.2.2.2.1 + 1, K.2.2.2.2.1 + m, K.2.2.2.2.2.1, K.2.2.2.2.2.2)
def kDoc (K : Kt) (d : Int32) : Kt := (K.1, (if K.2.1 < d then d else K.2.1), K.2.2.1 + 1, K.2.2.2)
def kEl (K : Kt) (m : Int32) (w : Int32) : Kt := (K.1 + 1, K.2.1, K.2.2.1, K.2.2.2.1, K.2.2.2.2.1, K.2.2.2.2.2.1 + m, K.2.2.2.2.2.2 + w)
/-- a FAULT (its number, its place), or the place behind and what was counted -/
abbrev JR : Type := (Nat × Nat) ⊕ (Nat × Kt)
def jThen (J : JR) (f : Nat → Kt → JR) : JR := match J with
  | .inl e => .inl e
  | .inr q => f q.1 q.2
/-- what a reading function answers: M holds the reader's cell -/
def RO (M : Int32 → Int32 → Kt → Mem) (fk fp : Int32) (J : JR) (x : Option (Int32 × Mem)) : Prop := match J with
  | .inl f => ∃ K, x = some (-1, M (nI f.1) (nI f.2) K)
  | .inr q => x = some (nI q.1, M fk fp q.2)
section PU3
variable {cy : Nat → ClassId} {μ : Mem} {r sp c cap n : Nat} {h : Nat → Int32} {o vp wt fk fp : Int32} {K : Kt}
/-- the memory μ, with the reader r at bytes sp -/
def RM (μ : Mem) (r sp : Nat) (vp wt : Int32) (fk fp : Int32) (K : Kt) : Mem := va_up μ r (rc sp vp wt fk fp K)
theorem RM.cl : RM μ r sp vp wt fk fp K r = rc sp vp wt fk fp K := va_up_self _ _ _
theorem RM.spn (S : SP cy μ sp c cap n h o) (hr : r ≠ sp ∧ r ≠ c) : SP cy (RM μ r sp vp wt fk fp K) sp c cap n h o := S.fr (L := [r]) (Fr.up (by simp)) (by simpa using hr.1.symm) (by simpa using hr.2.symm)
theorem RM.is : isO (RM μ r sp vp wt fk fp K) r 1 = true := isO_mk RM.cl
theorem RM.fr : rdR (RM μ r sp vp wt fk fp K) r 1 0 = some sp := rdR_mk RM.cl rfl
theorem q_refuse (x y : Int32) : f_X2_refuse cy r x y (RM μ r sp vp wt fk fp K) = some (-1, RM μ r sp vp wt x y K) := by
  unfold f_X2_refuse
  rw [wrF_mk RM.cl (Nat.le_of_ble_eq_true rfl), Option.bind_some, wrF_mk (va_up_self _ _ _) (Nat.le_of_ble_eq_true rfl), Option.bind_some]
  unfold RM
  rw [up_up, up_up]
  rfl
theorem q_count (x : Int32) : f_X2_countLength cy r x (RM μ r sp vp wt fk fp K) = some (RM μ r sp vp wt fk fp (kLen K x)) := by
  unfold f_X2_countLength
  rw [rdI_mk RM.cl rfl, Option.bind_some, wrF_mk RM.cl (Nat.le_of_ble_eq_true rfl), Option.bind_some, rdI_mk (va_up_self _ _ _) rfl, Option.bind_some, wrF_mk (va_up_self _ _ _) (Nat.le_of_ble_eq_true rfl), Option.bind_some]
  unfold RM
  rw [up_up, up_up]
  rfl
def jB (K : Kt) (p m w : Nat) : JR := if p + m ≤ w then .inr (p + m, K) else .inl (1, p)
theorem nI_m1 {p : Nat} (hp : p < 2 ^ 31) : ¬ nI p = -1 := fun e => by
  have h1 := nI_toInt hp
  rw [e] at h1
  have h3 : (-1 : Int32).toInt = -1 := by decide +kernel
  omega
theorem q_bytes {p m w : Nat} (hp : p ≤ w) (hw : w ≤ 20000) (hm : m ≤ 100) : RO (RM μ r sp vp wt) fk fp (jB K p m w) (f_X2_readBytes cy r (nI p) (nI m) (nI w) (RM μ r sp vp wt fk fp K)) := by
  unfold f_X2_readBytes jB
  rw [if_neg (nI_m1 (by omega)), nI_sub' hp]
  by_cases q : p + m ≤ w
  · rw [if_pos q, if_pos (nI_le (by omega) (by omega)), nI_p]
    rfl
  · rw [if_neg q, if_neg (nI_ge (by omega) (by omega)), if_pos RM.is, q_refuse]
    exact ⟨K, rfl⟩
noncomputable def jN (h : Nat → Int32) (K : Kt) (p w : Nat) : JR := match zf h p (w - p) with
  | none => .inl (1, p)
  | some z => match bad h (z - p) p z with
    | some q => .inl (5, q)
    | none => .inr (z + 1, K)
theorem zfI_n (z : Nat) (hz : z < 2 ^ 30) : ¬ zfI (some z) = -1 := fun q => by
  have := (zfI_m1 (r := some z) (fun y hy => by cases hy; exact hz)).mp q
  cases this
theorem q_name (S : SP cy μ sp c cap n h o) (hr : r ≠ sp ∧ r ≠ c) {p w : Nat} (hp : p ≤ w) (hw : w ≤ n) : RO (RM μ r sp vp wt) fk fp (jN h K p w) (f_X2_readName cy r (nI p) (nI w) (RM μ r sp vp wt fk fp K)) := by
  have b := S.2.2
  have S1 : SP cy (RM μ r sp vp wt fk fp K) sp c cap n h o := RM.spn S hr
  unfold f_X2_readName jN
  rw [if_neg (nI_m1 (by omega)), RM.fr, Option.bind_some, if_pos (s_is S1), s_zeroFrom S1 hp hw, ob2_some]
  cases ez : zf h p (w - p) with
  | none =>
    rw [if_pos (show zfI none = -1 from rfl), if_pos RM.is, q_refuse]
    exact ⟨K, rfl⟩
  | some z =>
    have hz := zf_some ez
    rw [if_neg (zfI_n z (by omega)), RM.fr, Option.bind_some]
    show RO _ _ _ (match bad h (z - p) p z with | some q => .inl (5, q) | none => .inr (z + 1, K)) (ob2 (f_X1_firstBadSign cy sp (nI p) (nI z) _) _)
    rw [p_bad S1 (by omega) (by omega), ob2_some]
    cases eb : bad h (z - p) p z with
    | none =>
      rw [if_pos (show zfI none = -1 from rfl)]
      show some (nI z + 1, _) = _
      rw [nI_a1]
    | some q =>
      have hq := bad_in eb
      rw [if_neg (zfI_n q (by omega)), if_pos RM.is, q_refuse]
      exact ⟨K, rfl⟩
noncomputable def jRN (h : Nat → Int32) (K : Kt) (p w v : Nat) : JR := match zf h p (w - p) with
  | none => .inl (1, p)
  | some z => @ite JR (rowN h p z v) (Classical.propDecidable _) (.inr (z + 1, K)) (.inl (6, p))
theorem q_rowName (S : SP cy μ sp c cap n h o) (hr : r ≠ sp ∧ r ≠ c) {p w v : Nat} (hp : p ≤ w) (hw : w ≤ n) (hv : v < 2 ^ 30) : RO (RM μ r sp vp wt) fk fp (jRN h K p w v) (f_X2_readRowName cy r (nI p) (nI w) (nI v) (RM μ r sp vp wt fk fp K)) := by
  have b := S.2.2
  have S1 : SP cy (RM μ r sp vp wt fk fp K) sp c cap n h o := RM.spn S hr
  unfold f_X2_readRowName jRN
  rw [RM.fr, Option.bind_some, if_pos (s_is S1), s_zeroFrom S1 hp hw, ob2_some]
  cases ez : zf h p (w - p) with
  | none =>
    rw [if_pos (show zfI none = -1 from rfl), if_pos RM.is, q_refuse]
    exact ⟨K, rfl⟩
  | some z =>
    have hz := zf_some ez
    rw [if_neg (zfI_n z (by omega)), RM.fr, Option.bind_some]
    have q := p_rowName S1 (p := p) (z := z) (v := v) (by omega) (by omega) hv
    show RO _ _ _ (@ite JR (rowN h p z v) (Classical.propDecidable _) (.inr (z + 1, K)) (.inl (6, p))) (ob2 (f_X1_isRowName cy sp (nI p) (nI z) (nI v) _) _)
    by_cases e : rowN h p z v
    · rw [q.1 e, ob2_some, if_neg (show ¬ (1 : Int32) = 0 by decide), if_pos e]
      show some (nI z + 1, _) = _
      rw [nI_a1]
    · rw [q.2 e, ob2_some, if_pos (show (0 : Int32) = 0 from rfl), if_pos RM.is, q_refuse, if_neg e]
      exact ⟨K, rfl⟩
/-- the int at p is below m, or it is a number from m on -/
theorem i4_or (x : Int32) (m : Nat) (hm : m < 2 ^ 31) : (¬ nI m ≤ x ∧ x.toInt < m) ∨ ∃ N, m ≤ N ∧ N < 2 ^ 31 ∧ x = nI N := by
  by_cases q : nI m ≤ x
  · right
    have h1 := Int32.le_iff_toInt_le.mp q
    rw [nI_toInt hm] at h1
    have h2 := Int32.toInt_lt x
    refine ⟨x.toInt.toNat, by omega, by omega, ?_⟩
    apply Int32.toInt_inj.mp
    rw [nI_toInt (by omega)]
    omega
  · left
    refine ⟨q, ?_⟩
    have h1 : ¬ (nI m).toInt ≤ x.toInt := fun z => q (Int32.le_iff_toInt_le.mpr z)
    rw [nI_toInt hm] at h1
    omega
noncomputable def jT (h : Nat → Int32) (K : Kt) (p w : Nat) : JR :=
  if w < p + 4 then .inl (1, p) else if (i4 h p).toInt < 1 then .inl (2, p) else if w < p + 4 + (i4 h p).toInt.toNat then .inl (1, p) else
  if ¬ h (p + 3 + (i4 h p).toInt.toNat) = 0 then .inl (4, p + 3 + (i4 h p).toInt.toNat) else
  match bad h ((i4 h p).toInt.toNat - 1) (p + 4) (p + 3 + (i4 h p).toInt.toNat) with
  | some q => .inl (5, q)
  | none => .inr (p + 3 + (i4 h p).toInt.toNat + 1, kLen K (i4 h p))
theorem q_text (S : SP cy μ sp c cap n h o) (hr : r ≠ sp ∧ r ≠ c) {p w : Nat} (hp : p ≤ w) (hw : w ≤ n) : RO (RM μ r sp vp wt) fk fp (jT h K p w) (f_X2_readText cy r (nI p) (nI w) (RM μ r sp vp wt fk fp K)) := by
  have b := S.2.2
  have S1 : ∀ K, SP cy (RM μ r sp vp wt fk fp K) sp c cap n h o := fun K => RM.spn S hr
  unfold f_X2_readText jT
  rw [if_pos RM.is]
  have q4 := q_bytes (cy := cy) (μ := μ) (r := r) (sp := sp) (vp := vp) (wt := wt) (fk := fk) (fp := fp) (K := K) (m := 4) hp (by omega) (by decide)
  unfold jB at q4
  rw [show nI 4 = (4 : Int32) by decide +kernel] at q4
  by_cases h4 : p + 4 ≤ w
  · rw [if_pos h4] at q4
    rw [if_neg (show ¬ w < p + 4 by omega), show f_X2_readBytes cy r (nI p) 4 (nI w) (RM μ r sp vp wt fk fp K) = some (nI (p + 4), RM μ r sp vp wt fk fp K) from q4, ob2_some, if_neg (nI_m1 (by omega)), RM.fr, Option.bind_some, if_pos (s_is (S1 K)), s_intAt (S1 K) (by omega), ob2_some]
    rcases i4_or (i4 h p) 1 (by decide) with ⟨e1, e2⟩ | ⟨N, e1, e2, e3⟩
    · rw [if_pos (show (i4 h p).toInt < 1 from e2), if_neg (show ¬ (1 : Int32) ≤ i4 h p from e1), if_pos RM.is, q_refuse]
      exact ⟨K, rfl⟩
    · have eN : (i4 h p).toInt.toNat = N := by rw [e3, nI_toInt e2]; omega
      rw [eN, e3, if_neg (show ¬ (nI N).toInt < 1 by rw [nI_toInt e2]; omega), if_pos (show (1 : Int32) ≤ nI N from nI_le (a := 1) e1 e2), nI_sub' hp, show (4 : Int32) = nI 4 by decide +kernel, nI_sub' (show 4 ≤ w - p by omega)]
      by_cases h5 : w < p + 4 + N
      · rw [if_pos h5, if_neg (nI_ge (by omega) (by omega)), if_pos RM.is, q_refuse]
        exact ⟨K, rfl⟩
      · rw [if_neg h5, if_pos (nI_le (by omega) (by omega)), RM.fr, Option.bind_some, if_pos (s_is (S1 K)), nI_a3, nI_p, s_at (S1 K) (by omega), ob2_some]
        by_cases h6 : h (p + 3 + N) = 0
        · rw [if_neg (Classical.not_not.mpr h6), if_pos h6, RM.fr, Option.bind_some, nI_p, p_bad (S1 K) (by omega) (by omega), ob2_some, show p + 3 + N - (p + 4) = N - 1 by omega]
          cases eb : bad h (N - 1) (p + 4) (p + 3 + N) with
          | none =>
            rw [if_pos (show zfI none = -1 from rfl), if_pos RM.is, q_count, Option.bind_some, nI_a1]
            rfl
          | some q =>
            have hq := bad_in eb
            rw [if_neg (zfI_n q (by omega)), if_pos RM.is, q_refuse]
            exact ⟨K, rfl⟩
        · rw [if_pos h6, if_neg h6, if_pos RM.is, q_refuse]
          exact ⟨K, rfl⟩
  · rw [if_neg h4] at q4
    obtain ⟨K1, q4⟩ := q4
    rw [if_pos (show w < p + 4 by omega), q4, ob2_some, if_pos (show (-1 : Int32) = -1 from rfl)]
    exact ⟨K1, rfl⟩
theorem le_subI {N a b : Nat} (hN : N < 2 ^ 31) (ha : a < 2 ^ 30) (hb : b < 2 ^ 30) : nI N ≤ nI a - nI b ↔ N + b ≤ a := by
  rw [Int32.le_iff_toInt_le, pk_sub_toInt ha hb, nI_toInt hN]
  omega
def jBin (h : Nat → Int32) (K : Kt) (p w : Nat) : JR :=
  if w < p + 4 then .inl (1, p) else if (i4 h p).toInt < 0 then .inl (2, p) else if w < p + 5 + (i4 h p).toInt.toNat then .inl (1, p) else
  if h (p + 4) = 2 then (if (i4 h p).toInt.toNat < 4 then .inl (2, p) else if i4 h (p + 5) = i4 h p - 4 then .inr (p + 5 + (i4 h p).toInt.toNat, kLen (kLen K (i4 h p)) (i4 h p - 4)) else .inl (2, p + 5))
  else .inr (p + 5 + (i4 h p).toInt.toNat, kLen K (i4 h p))
theorem q_binary (S : SP cy μ sp c cap n h o) (hr : r ≠ sp ∧ r ≠ c) {p w : Nat} (hp : p ≤ w) (hw : w ≤ n) : RO (RM μ r sp vp wt) fk fp (jBin h K p w) (f_X2_readBinary cy r (nI p) (nI w) (RM μ r sp vp wt fk fp K)) := by
  have b := S.2.2
  have S1 : ∀ K, SP cy (RM μ r sp vp wt fk fp K) sp c cap n h o := fun K => RM.spn S hr
  unfold f_X2_readBinary jBin
  rw [if_pos RM.is]
  have q4 := q_bytes (cy := cy) (μ := μ) (r := r) (sp := sp) (vp := vp) (wt := wt) (fk := fk) (fp := fp) (K := K) (m := 4) hp (by omega) (by decide)
  unfold jB at q4
  rw [show nI 4 = (4 : Int32) by decide +kernel] at q4
  by_cases h4 : p + 4 ≤ w
  · rw [if_pos h4] at q4
    rw [if_neg (show ¬ w < p + 4 by omega), show f_X2_readBytes cy r (nI p) 4 (nI w) (RM μ r sp vp wt fk fp K) = some (nI (p + 4), RM μ r sp vp wt fk fp K) from q4, ob2_some, if_neg (nI_m1 (by omega)), RM.fr, Option.bind_some, if_pos (s_is (S1 K)), s_intAt (S1 K) (by omega), ob2_some]
    rcases i4_or (i4 h p) 0 (by decide) with ⟨e1, e2⟩ | ⟨N, e1, e2, e3⟩
    · rw [if_pos (show (i4 h p).toInt < 0 from e2), if_neg (show ¬ (0 : Int32) ≤ i4 h p from e1), if_pos RM.is, q_refuse]
      exact ⟨K, rfl⟩
    · have eN : (i4 h p).toInt.toNat = N := by rw [e3, nI_toInt e2]; omega
      rw [eN, e3, if_neg (show ¬ (nI N).toInt < 0 by rw [nI_toInt e2]; omega), if_pos (show (0 : Int32) ≤ nI N from nI_le (a := 0) e1 e2), nI_sub' hp]
      have h5e : nI N ≤ nI (w - p) - 5 ↔ N + 5 ≤ w - p := le_subI (b := 5) e2 (by omega) (by decide)
      by_cases h5 : w < p + 5 + N
      · rw [if_pos h5, if_neg (fun z => by have := h5e.mp z; omega), if_pos RM.is, q_refuse]
        exact ⟨K, rfl⟩
      · rw [if_neg h5, if_pos (h5e.mpr (by omega)), if_pos RM.is, q_count, Option.bind_some, RM.fr, Option.bind_some, if_pos (s_is (S1 _)), nI_a4, s_at (S1 _) (by omega), ob2_some]
        by_cases h6 : h (p + 4) = 2
        · rw [if_pos h6, if_pos h6]
          by_cases h7 : N < 4
          · rw [if_pos h7, if_neg (show ¬ (4 : Int32) ≤ nI N from nI_ge (b := 4) h7 (by decide)), if_pos RM.is, q_refuse]
            exact ⟨_, rfl⟩
          · rw [if_neg h7, if_pos (show (4 : Int32) ≤ nI N from nI_le (a := 4) (by omega) e2), RM.fr, Option.bind_some, if_pos (s_is (S1 _)), nI_a5, s_intAt (S1 _) (by omega), ob2_some]
            by_cases h8 : i4 h (p + 5) = nI N - 4
            · rw [if_pos h8, if_pos h8, if_pos RM.is, q_count, Option.bind_some]
              unfold f_X2_readBinary_L112
              rw [nI_a5, nI_p]
              rfl
            · rw [if_neg h8, if_neg h8, if_pos RM.is, q_refuse]
              exact ⟨_, rfl⟩
        · rw [if_neg h6, if_neg h6]
          unfold f_X2_readBinary_L112
          rw [nI_a5, nI_p]
          rfl
  · rw [if_neg h4] at q4
    obtain ⟨K1, q4⟩ := q4
    rw [if_pos (show w < p + 4 by omega), q4, ob2_some, if_pos (show (-1 : Int32) = -1 from rfl)]
    exact ⟨K1, rfl⟩
def jBool (h : Nat → Int32) (K : Kt) (p w : Nat) : JR := if p + 1 ≤ w then (if h p ≤ 1 then .inr (p + 1, K) else .inl (7, p)) else .inl (1, p)
theorem q_boolean (S : SP cy μ sp c cap n h o) (hr : r ≠ sp ∧ r ≠ c) {p w : Nat} (hp : p ≤ w) (hw : w ≤ n) : RO (RM μ r sp vp wt) fk fp (jBool h K p w) (f_X2_readBoolean cy r (nI p) (nI w) (RM μ r sp vp wt fk fp K)) := by
  have b := S.2.2
  have S1 : ∀ K, SP cy (RM μ r sp vp wt fk fp K) sp c cap n h o := fun K => RM.spn S hr
  unfold f_X2_readBoolean f_X2_readBoolean_L35 jBool
  rw [if_pos RM.is]
  have q4 := q_bytes (cy := cy) (μ := μ) (r := r) (sp := sp) (vp := vp) (wt := wt) (fk := fk) (fp := fp) (K := K) (m := 1) hp (by omega) (by decide)
  unfold jB at q4
  rw [show nI 1 = (1 : Int32) by decide +kernel] at q4
  by_cases h4 : p + 1 ≤ w
  · rw [if_pos h4] at q4
    rw [if_pos h4, show f_X2_readBytes cy r (nI p) 1 (nI w) (RM μ r sp vp wt fk fp K) = some (nI (p + 1), RM μ r sp vp wt fk fp K) from q4, ob2_some, if_neg (nI_m1 (by omega)), RM.fr, Option.bind_some, if_pos (s_is (S1 K)), s_at (S1 K) (by omega), ob2_some]
    by_cases h6 : h p ≤ 1
    · rw [if_pos h6, if_pos h6]
      rfl
    · rw [if_neg h6, if_neg h6, if_pos RM.is, q_refuse]
      exact ⟨_, rfl⟩
  · rw [if_neg h4] at q4
    obtain ⟨K1, q4⟩ := q4
    rw [if_neg h4, q4, ob2_some, if_pos (show (-1 : Int32) = -1 from rfl)]
    exact ⟨K1, rfl⟩
theorem RO.bind {M : Int32 → Int32 → Kt → Mem} {J : JR} {f : Nat → Kt → JR} {x : Option (Int32 × Mem)} {k : Int32 → Mem → Option (Int32 × Mem)} (h1 : RO M fk fp J x) (h2 : ∀ q K, J = .inr (q, K) → RO M fk fp (f q K) (k (nI q) (M fk fp K))) (h3 : ∀ a b K, k (-1) (M a b K) = some (-1, M a b K)) : RO M fk fp (jThen J f) (ob2 x k) := by
  cases J with
  | inl e =>
    obtain ⟨K, h1⟩ := h1
    rw [h1, ob2_some, h3]
    exact ⟨K, rfl⟩
  | inr q =>
    have h1 : x = some (nI q.1, M fk fp q.2) := h1
    rw [h1, ob2_some]
    exact h2 q.1 q.2 rfl
theorem RO.eta {M : Int32 → Int32 → Kt → Mem} {J : JR} {x : Option (Int32 × Mem)} (h1 : RO M fk fp J x) : RO M fk fp J (ob2 x fun a b => some (a, b)) := by
  cases J with
  | inl e =>
    obtain ⟨K, h1⟩ := h1
    rw [h1]
    exact ⟨K, rfl⟩
  | inr q =>
    have h1 : x = some (nI q.1, M fk fp q.2) := h1
    rw [h1]
    rfl
end PU3
/-! where readings end -/
theorem jB_b {K K' : Kt} {p m w q : Nat} (e : jB K p m w = .inr (q, K')) : q = p + m ∧ q ≤ w ∧ K' = K := by
  unfold jB at e
  split at e
  · cases e; exact ⟨rfl, by assumption, rfl⟩
  · cases e
theorem jN_b {h : Nat → Int32} {K K' : Kt} {p w q : Nat} (e : jN h K p w = .inr (q, K')) : p < q ∧ q ≤ w ∧ K' = K ∧ zf h p (w - p) = some (q - 1) ∧ bad h (q - 1 - p) p (q - 1) = none := by
  unfold jN at e
  split at e
  · cases e
  · rename_i z ez
    have hz := zf_some ez
    split at e
    · cases e
    · rename_i eb
      cases e
      exact ⟨by omega, by omega, rfl, ez, eb⟩
theorem jRN_b {h : Nat → Int32} {K K' : Kt} {p w v q : Nat} (e : jRN h K p w v = .inr (q, K')) : p < q ∧ q ≤ w ∧ K' = K ∧ zf h p (w - p) = some (q - 1) ∧ rowN h p (q - 1) v := by
  unfold jRN at e
  split at e
  · cases e
  · rename_i z ez
    have hz := zf_some ez
    split at e
    · rename_i er
      cases e
      exact ⟨by omega, by omega, rfl, ez, er⟩
    · cases e
theorem jT_b {h : Nat → Int32} {K K' : Kt} {p w q : Nat} (e : jT h K p w = .inr (q, K')) : ∃ N, 1 ≤ N ∧ i4 h p = nI N ∧ q = p + 4 + N ∧ q ≤ w ∧ h (p + 3 + N) = 0 ∧ bad h (N - 1) (p + 4) (p + 3 + N) = none ∧ K' = kLen K (nI N) := by
  unfold jT at e
  rcases i4_or (i4 h p) 1 (by decide) with ⟨e1, e2⟩ | ⟨N, e1, e2, e3⟩
  · split at e
    · cases e
    · rw [if_pos (show (i4 h p).toInt < 1 from e2)] at e
      cases e
  · have eN : (i4 h p).toInt.toNat = N := by rw [e3, nI_toInt e2]; omega
    rw [eN] at e
    split at e
    · cases e
    · split at e
      · cases e
      · split at e
        · cases e
        · split at e
          · cases e
          · rename_i h0
            split at e
            · cases e
            · rename_i eb
              cases e
              exact ⟨N, e1, e3, by omega, by omega, Classical.not_not.mp h0, eb, by rw [e3]⟩
theorem jBin_b {h : Nat → Int32} {K K' : Kt} {p w q : Nat} (e : jBin h K p w = .inr (q, K')) : ∃ N, N < 2 ^ 31 ∧ i4 h p = nI N ∧ q = p + 5 + N ∧ q ≤ w ∧ ((h (p + 4) = 2 ∧ 4 ≤ N ∧ i4 h (p + 5) = nI N - 4 ∧ K' = kLen (kLen K (nI N)) (nI N - 4)) ∨ (¬ h (p + 4) = 2 ∧ K' = kLen K (nI N))) := by
  unfold jBin at e
  rcases i4_or (i4 h p) 0 (by decide) with ⟨e1, e2⟩ | ⟨N, e1, e2, e3⟩
  · split at e
    · cases e
    · rw [if_pos (show (i4 h p).toInt < 0 from e2)] at e
      cases e
  · have eN : (i4 h p).toInt.toNat = N := by rw [e3, nI_toInt e2]; omega
    rw [eN] at e
    split at e
    · cases e
    · split at e
      · cases e
      · split at e
        · cases e
        · split at e
          · rename_i h2
            split at e
            · cases e
            · split at e
              · rename_i h8
                cases e
                exact ⟨N, e2, e3, rfl, by omega, Or.inl ⟨h2, by omega, by rw [h8, e3], by rw [e3]⟩⟩
              · cases e
          · rename_i h2
            cases e
            exact ⟨N, e2, e3, rfl, by omega, Or.inr ⟨h2, by rw [e3]⟩⟩
theorem jBool_b {h : Nat → Int32} {K K' : Kt} {p w q : Nat} (e : jBool h K p w = .inr (q, K')) : q = p + 1 ∧ q ≤ w ∧ h p ≤ 1 ∧ K' = K := by
  unfold jBool at e
  split at e
  · split at e
    · cases e; exact ⟨rfl, by assumption, by assumption, rfl⟩
    · cases e
  · cases e
theorem jThen_b {J : JR} {f : Nat → Kt → JR} {q : Nat} {K' : Kt} (e : jThen J f = .inr (q, K')) : ∃ q1 K1, J = .inr (q1, K1) ∧ f q1 K1 = .inr (q, K') := by
  cases J with
  | inl _ => cases e
  | inr z => exact ⟨z.1, z.2, rfl, e⟩
