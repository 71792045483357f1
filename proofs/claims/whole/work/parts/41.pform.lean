/-! PURE ROWS: the class Form. -/
theorem ob2_some {α β γ : Type} {a : α} {b : β} {k : α → β → Option γ} : ob2 (some (a, b)) k = k a b := rfl
section PU2
variable {cy : Nat → ClassId} {μ : Mem} {a c cap n : Nat} {h : Nat → Int32} {o : Int32}
/-- what is a TYPE -/
def isTy (x : Int32) : Prop := (¬ x < 1 ∧ x ≤ 19) ∨ x = 127 ∨ x = 255
theorem isTy_dec (x : Int32) : isTy x ∨ ¬ isTy x := Classical.em _
theorem p_isType {x : Int32} (hx : isTy x) : f_X1_isType cy x μ = some (1, μ) := by
  unfold f_X1_isType f_X1_isType_L11 f_X1_isType_L24
  rcases hx with ⟨h1, h2⟩ | rfl | rfl
  · rw [if_neg h1, if_pos h2]
  · rfl
  · rfl
theorem p_isTypeN {x : Int32} (hx : ¬ isTy x) : f_X1_isType cy x μ = some (0, μ) := by
  unfold f_X1_isType f_X1_isType_L11 f_X1_isType_L24
  have h127 : ¬ x = 127 := fun e => hx (Or.inr (Or.inl e))
  have h255 : ¬ x = 255 := fun e => hx (Or.inr (Or.inr e))
  by_cases h1 : x < 1
  · rw [if_pos h1, if_neg h127, if_neg h255]
  · by_cases h2 : x ≤ 19
    · exact absurd (Or.inl ⟨h1, h2⟩) hx
    · rw [if_neg h1, if_neg h2, if_neg h127, if_neg h255]
/-- TYPES with a DOCUMENT in their VALUES -/
def hasD (x : Int32) : Prop := x = 3 ∨ x = 4 ∨ x = 15
theorem p_hasDocument {x : Int32} (hx : hasD x) : f_X1_hasDocument cy x μ = some (1, μ) := by
  unfold f_X1_hasDocument f_X1_hasDocument_L16
  rcases hx with rfl | rfl | rfl <;> rfl
theorem p_hasDocumentN {x : Int32} (hx : ¬ hasD x) : f_X1_hasDocument cy x μ = some (0, μ) := by
  unfold f_X1_hasDocument f_X1_hasDocument_L16
  rw [if_neg (fun e => hx (Or.inl e)), if_neg (fun e => hx (Or.inr (Or.inl e))), if_neg (fun e => hx (Or.inr (Or.inr e)))]
def isNm (x : Int32) : Prop := x = 1 ∨ x = 8 ∨ x = 9 ∨ (¬ x < 16 ∧ ¬ 18 < x)
theorem p_isNumber {x : Int32} (hx : isNm x) : f_X1_isNumber cy x μ = some (1, μ) := by
  unfold f_X1_isNumber f_X1_isNumber_L29 f_X1_isNumber_L33
  rcases hx with rfl | rfl | rfl | ⟨h1, h2⟩
  · rfl
  · rfl
  · rfl
  · by_cases e1 : x = 1
    · rw [if_pos e1]
    · by_cases e8 : x = 8
      · rw [if_neg e1, if_pos e8]
      · by_cases e9 : x = 9
        · rw [if_neg e1, if_neg e8, if_pos e9]
        · rw [if_neg e1, if_neg e8, if_neg e9, if_neg h1, if_neg h2]
theorem p_isNumberN {x : Int32} (hx : ¬ isNm x) : f_X1_isNumber cy x μ = some (0, μ) := by
  unfold f_X1_isNumber f_X1_isNumber_L29 f_X1_isNumber_L33
  rw [if_neg (fun e => hx (Or.inl e)), if_neg (fun e => hx (Or.inr (Or.inl e))), if_neg (fun e => hx (Or.inr (Or.inr (Or.inl e))))]
  by_cases h1 : x < 16
  · rw [if_pos h1]
  · by_cases h2 : 18 < x
    · rw [if_neg h1, if_pos h2]
    · exact absurd (Or.inr (Or.inr (Or.inr ⟨h1, h2⟩))) hx
/-- how many bytes every VALUE of the TYPE has -/
def wd (x : Int32) : Nat := if x = 1 ∨ x = 9 ∨ x = 17 ∨ x = 18 then 8 else if x = 7 then 12 else if x = 8 then 1 else if x = 16 then 4 else if x = 19 then 16 else 0
theorem i32_of {x : Int32} {lo hi : Nat} (h1 : ¬ x.toInt < lo) (h2 : ¬ (hi : Int) < x.toInt) (hh : hi < 2 ^ 31) : ∃ k, lo ≤ k ∧ k ≤ hi ∧ x = nI k := by
  refine ⟨x.toInt.toNat, by omega, by omega, ?_⟩
  apply Int32.toInt_inj.mp
  rw [nI_toInt (by omega)]
  omega
theorem p_width_in (cy : Nat → ClassId) (μ : Mem) : ∀ k, 1 ≤ k → k ≤ 19 → f_X1_widthOf cy (nI k) μ = some (nI (wd (nI k)), μ)
  | 0, h1, _ => absurd h1 (by decide)
  | 1, _, _ => rfl
  | 2, _, _ => rfl
  | 3, _, _ => rfl
  | 4, _, _ => rfl
  | 5, _, _ => rfl
  | 6, _, _ => rfl
  | 7, _, _ => rfl
  | 8, _, _ => rfl
  | 9, _, _ => rfl
  | 10, _, _ => rfl
  | 11, _, _ => rfl
  | 12, _, _ => rfl
  | 13, _, _ => rfl
  | 14, _, _ => rfl
  | 15, _, _ => rfl
  | 16, _, _ => rfl
  | 17, _, _ => rfl
  | 18, _, _ => rfl
  | 19, _, _ => rfl
  | k + 20, _, h2 => absurd h2 (by omega)
theorem wd_out {x : Int32} (hx : x.toInt < 1 ∨ 19 < x.toInt) : wd x = 0 := by
  have ne : ∀ k : Nat, 1 ≤ k → k ≤ 19 → ¬ x = nI k := fun k h1 h2 e => by
    rw [e, nI_toInt (by omega)] at hx
    omega
  unfold wd
  rw [if_neg (fun q => by rcases q with q | q | q | q; exact ne 1 (by decide) (by decide) q; exact ne 9 (by decide) (by decide) q; exact ne 17 (by decide) (by decide) q; exact ne 18 (by decide) (by decide) q), if_neg (show ¬ x = 7 from ne 7 (by decide) (by decide)), if_neg (show ¬ x = 8 from ne 8 (by decide) (by decide)), if_neg (show ¬ x = 16 from ne 16 (by decide) (by decide)), if_neg (show ¬ x = 19 from ne 19 (by decide) (by decide))]
theorem p_widthOf (x : Int32) : f_X1_widthOf cy x μ = some (nI (wd x), μ) := by
  by_cases hx : x.toInt < 1 ∨ 19 < x.toInt
  · unfold f_X1_widthOf
    rw [if_pos hx, wd_out hx]
    rfl
  · obtain ⟨k, h1, h2, rfl⟩ := i32_of (x := x) (lo := 1) (hi := 19) (fun q => hx (Or.inl q)) (fun q => hx (Or.inr q)) (by decide)
    exact p_width_in cy μ k h1 h2
/-- how many bytes further a sign's first byte asks for -/
def moreOf (x : Int32) : Option Nat := if 128 ≤ x then (if x < 194 then none else if x ≤ 244 then (if 224 ≤ x then (if 240 ≤ x then some 3 else some 2) else some 1) else none) else some 0
theorem p_further (x : Int32) : f_X1_furtherBytes cy x μ = some (zfI (moreOf x), μ) := by
  unfold f_X1_furtherBytes f_X1_furtherBytes_L23 moreOf
  by_cases h1 : 128 ≤ x
  · rw [if_pos h1, if_pos h1]
    by_cases h2 : x < 194
    · rw [if_pos h2, if_pos h2]; rfl
    · rw [if_neg h2, if_neg h2]
      by_cases h3 : x ≤ 244
      · rw [if_pos h3, if_pos h3]
        by_cases h4 : 224 ≤ x
        · rw [if_pos h4, if_pos h4]
          by_cases h5 : 240 ≤ x
          · rw [if_pos h5, if_pos h5]; rfl
          · rw [if_neg h5, if_neg h5]; rfl
        · rw [if_neg h4, if_neg h4]; rfl
      · rw [if_neg h3, if_neg h3]; rfl
  · rw [if_neg h1, if_neg h1]; rfl
theorem moreOf_le {x : Int32} {m : Nat} (e : moreOf x = some m) : m ≤ 3 := by
  unfold moreOf at e
  split at e
  · split at e
    · cases e
    · split at e
      · split at e
        · split at e
          · cases e; decide
          · cases e; decide
        · cases e; decide
      · cases e
  · cases e; decide
/-- the second byte is one that the first one allows -/
def sndOk (x y : Int32) : Prop := if x = 224 then ¬ y < 160 else if x = 237 then ¬ 160 ≤ y else if x = 240 then ¬ y < 144 else if x = 244 then ¬ 144 ≤ y else True
theorem lk_off {x : Int32} (h1 : ¬ x = 224) (h2 : ¬ x = 237) (h3 : ¬ x = 240) (h4 : ¬ x = 244) : Op.lookupswitch.offset [((224 : Int), (43 : Int)), ((237 : Int), (56 : Int)), ((240 : Int), (69 : Int)), ((244 : Int), (82 : Int))] 95 (Int32.toInt x) = 95 := by
  have ne : ∀ k : Nat, k < 300 → ¬ x = nI k → ¬ (k : Int) = x.toInt := fun k hk hq e => hq (Int32.toInt_inj.mp (by rw [nI_toInt (by omega)]; exact e.symm))
  have n1 := ne 224 (by decide) h1
  have n2 := ne 237 (by decide) h2
  have n3 := ne 240 (by decide) h3
  have n4 := ne 244 (by decide) h4
  simp [Op.lookupswitch.offset]
  omega
/-- a good sign at p, of m bytes further -/
def sgOk (h : Nat → Int32) (p m : Nat) : Prop := (∀ k, 1 ≤ k → k ≤ m → (h (p + k) &&& 192) = 128) ∧ (1 ≤ m → sndOk (h p) (h (p + 1)))
theorem p_isSign_end (S : SP cy μ a c cap n h o) {p : Nat} (hp : p < n) {f : Nat} {x y : Int32} (hxy : y < x) (hs : sndOk (h p) (if p + 1 < n then h (p + 1) else 0) ) : f_X1_isSign_L2 cy (f + 1) a (nI p) y x μ = some (1, μ) := by
  have b := S.2.2
  have e1 : f_X5_at cy a (nI p + 1) μ = some ((if p + 1 < n then h (p + 1) else 0), μ) := by
    rw [nI_a1]
    by_cases q : p + 1 < n
    · rw [if_pos q, s_at S q]
    · rw [if_neg q, s_at0 S (Or.inr (nI_le (by omega) (by omega)))]
  unfold f_X1_isSign_L2
  rw [if_pos hxy, if_pos (s_is S), e1]
  show (if isO μ a 4 = true then _ else none) = _
  rw [if_pos (s_is S), s_at S hp]
  show (if h p = 224 then _ else _) = _
  unfold sndOk at hs
  by_cases q1 : h p = 224
  · rw [if_pos q1] at hs ⊢
    show (if (if p + 1 < n then h (p + 1) else 0) < 160 then _ else _) = _
    rw [if_neg hs]
  · rw [if_neg q1] at hs ⊢
    by_cases q2 : h p = 237
    · rw [if_pos q2] at hs ⊢
      show (if 160 ≤ (if p + 1 < n then h (p + 1) else 0) then _ else _) = _
      rw [if_neg hs]
    · rw [if_neg q2] at hs ⊢
      by_cases q3 : h p = 240
      · rw [if_pos q3] at hs ⊢
        show (if (if p + 1 < n then h (p + 1) else 0) < 144 then _ else _) = _
        rw [if_neg hs]
      · rw [if_neg q3] at hs ⊢
        by_cases q4 : h p = 244
        · rw [if_pos q4] at hs ⊢
          show (if 144 ≤ (if p + 1 < n then h (p + 1) else 0) then _ else _) = _
          rw [if_neg hs]
        · rw [if_neg q4, if_pos (lk_off q1 q2 q3 q4)]
theorem p_isSign_endN (S : SP cy μ a c cap n h o) {p : Nat} (hp : p + 1 < n) {f : Nat} {x y : Int32} (hxy : y < x) (hs : ¬ sndOk (h p) (h (p + 1))) : f_X1_isSign_L2 cy (f + 1) a (nI p) y x μ = some (0, μ) := by
  unfold f_X1_isSign_L2
  rw [if_pos hxy, if_pos (s_is S), nI_a1, s_at S hp]
  show (if isO μ a 4 = true then _ else none) = _
  rw [if_pos (s_is S), s_at S (by omega)]
  show (if h p = 224 then _ else _) = _
  unfold sndOk at hs
  by_cases q1 : h p = 224
  · rw [if_pos q1] at hs ⊢
    show (if h (p + 1) < 160 then _ else _) = _
    rw [if_pos (Classical.not_not.mp hs)]
  · rw [if_neg q1] at hs ⊢
    by_cases q2 : h p = 237
    · rw [if_pos q2] at hs ⊢
      show (if 160 ≤ h (p + 1) then _ else _) = _
      rw [if_pos (Classical.not_not.mp hs)]
    · rw [if_neg q2] at hs ⊢
      by_cases q3 : h p = 240
      · rw [if_pos q3] at hs ⊢
        show (if h (p + 1) < 144 then _ else _) = _
        rw [if_pos (Classical.not_not.mp hs)]
      · rw [if_neg q3] at hs ⊢
        by_cases q4 : h p = 244
        · rw [if_pos q4] at hs ⊢
          show (if 144 ≤ h (p + 1) then _ else _) = _
          rw [if_pos (Classical.not_not.mp hs)]
        · rw [if_neg q4] at hs
          exact absurd trivial hs
/-- the further bytes from number k on, then the second byte -/
theorem p_isSign_L (S : SP cy μ a c cap n h o) {p m : Nat} (hp : p + m < n) : ∀ (r k f : Nat), k + r = m + 1 → 1 ≤ k → r < f →
    (((∀ j, k ≤ j → j ≤ m → (h (p + j) &&& 192) = 128) ∧ (1 ≤ m → sndOk (h p) (h (p + 1)))) → (m = 0 → sndOk (h p) (if p + 1 < n then h (p + 1) else 0)) → f_X1_isSign_L2 cy f a (nI p) (nI m) (nI k) μ = some (1, μ)) ∧
    (¬ ((∀ j, k ≤ j → j ≤ m → (h (p + j) &&& 192) = 128) ∧ (1 ≤ m → sndOk (h p) (h (p + 1)))) → f_X1_isSign_L2 cy f a (nI p) (nI m) (nI k) μ = some (0, μ))
  | r, k, 0, _, _, hf => by omega
  | 0, k, f + 1, hk, h1, hf => by
    have b := S.2.2
    have hlt : nI m < nI k := nI_lt (by omega) (by omega)
    refine ⟨fun q q0 => ?_, fun q => ?_⟩
    · refine p_isSign_end S (by omega) hlt ?_
      by_cases hm : 1 ≤ m
      · rw [if_pos (show p + 1 < n by omega)]; exact q.2 hm
      · exact q0 (by omega)
    · have hm : 1 ≤ m ∧ ¬ sndOk (h p) (h (p + 1)) := by
        rcases Classical.em (1 ≤ m → sndOk (h p) (h (p + 1))) with e | e
        · exact absurd ⟨fun j a1 a2 => by omega, e⟩ q
        · rcases Classical.em (1 ≤ m) with e1 | e1
          · exact ⟨e1, fun z => e (fun _ => z)⟩
          · exact absurd (fun z => absurd z e1) e
      exact p_isSign_endN S (by omega) hlt hm.2
  | r + 1, k, f + 1, hk, h1, hf => by
    have b := S.2.2
    have ih := p_isSign_L S hp r (k + 1) f (by omega) (by omega) (by omega)
    have hstep : f_X1_isSign_L2 cy (f + 1) a (nI p) (nI m) (nI k) μ = if (h (p + k) &&& 192) = 128 then f_X1_isSign_L2 cy f a (nI p) (nI m) (nI (k + 1)) μ else some (0, μ) := by
      rw [f_X1_isSign_L2]
      rw [if_neg (nI_nlt (show k ≤ m by omega) (by omega)), if_pos (s_is S), nI_p, s_at S (by omega), nI_a1]
      rfl
    rw [hstep]
    by_cases e : (h (p + k) &&& 192) = 128
    · rw [if_pos e]
      refine ⟨fun q q0 => ih.1 ⟨fun j a1 a2 => q.1 j (by omega) a2, q.2⟩ q0, fun q => ih.2 (fun z => q ⟨fun j a1 a2 => ?_, z.2⟩)⟩
      by_cases hj : j = k
      · rw [hj]; exact e
      · exact z.1 j (by omega) a2
    · rw [if_neg e]
      exact ⟨fun q _ => absurd (q.1 k (Nat.le_refl k) (by omega)) e, fun _ => rfl⟩
/-- how long the sign at p is, if it is one, ahead of e -/
noncomputable def sgn (h : Nat → Int32) (p e : Nat) : Option Nat := match moreOf (h p) with
  | none => none
  | some m => if e - p ≤ m then none else @ite (Option Nat) (sgOk h p m) (Classical.propDecidable _) (some (1 + m)) none
/-- the first sign in p .. e - 1 that is none -/
noncomputable def bad (h : Nat → Int32) : Nat → Nat → Nat → Option Nat
  | 0, _, _ => none
  | f + 1, p, e => if e ≤ p then none else match sgn h p e with
    | none => some p
    | some k => bad h f (p + k) e
theorem snd0 {x y : Int32} (e : moreOf x = some 0) : sndOk x y := by
  have h1 : ¬ 128 ≤ x := fun q => by
    unfold moreOf at e
    rw [if_pos q] at e
    split at e
    · cases e
    · split at e
      · split at e
        · split at e <;> cases e
        · cases e
      · cases e
  unfold sndOk
  rw [if_neg (fun q => h1 (by rw [q]; decide +kernel)), if_neg (fun q => h1 (by rw [q]; decide +kernel)), if_neg (fun q => h1 (by rw [q]; decide +kernel)), if_neg (fun q => h1 (by rw [q]; decide +kernel))]
  trivial
theorem p_isSign (S : SP cy μ a c cap n h o) {p m : Nat} (hp : p + m < n) (hm : m ≤ 3) (h0 : m = 0 → ∀ y, sndOk (h p) y) : (sgOk h p m → f_X1_isSign cy a (nI p) (nI m) μ = some (1, μ)) ∧ (¬ sgOk h p m → f_X1_isSign cy a (nI p) (nI m) μ = some (0, μ)) := by
  unfold f_X1_isSign
  have q := p_isSign_L S hp m 1 FU (by omega) (by omega) (by show m < 100000; omega)
  exact ⟨fun z => q.1 ⟨fun j a1 a2 => z.1 j a1 a2, z.2⟩ (fun e => h0 e _), fun z => q.2 (fun w => z ⟨fun j a1 a2 => w.1 j a1 a2, w.2⟩)⟩
theorem p_bad_L (S : SP cy μ a c cap n h o) {e : Nat} (he : e ≤ n) : ∀ (d p k f : Nat), e - p ≤ d → k ≤ p → p ≤ 30000 → d < f → f_X1_firstBadSign_L5 cy f a (nI e) (nI p) (nI k) μ = some (zfI (bad h d p e), μ)
  | d, p, k, 0, _, _, _, hf => by omega
  | 0, p, k, f + 1, hd, hk, hp, hf => by
    have b := S.2.2
    unfold f_X1_firstBadSign_L5 f_X1_firstBadSign_L65 bad
    by_cases q : e ≤ k
    · rw [if_pos (nI_le q (by omega))]; rfl
    · rw [if_neg (nI_ge (by omega) (by omega)), if_pos (nI_le (by omega) (by omega))]; rfl
  | d + 1, p, k, f + 1, hd, hk, hp, hf => by
    have b := S.2.2
    by_cases hpe : e ≤ p
    · unfold f_X1_firstBadSign_L5 f_X1_firstBadSign_L65 bad
      rw [if_pos hpe]
      by_cases q : e ≤ k
      · rw [if_pos (nI_le q (by omega))]; rfl
      · rw [if_neg (nI_ge (by omega) (by omega)), if_pos (nI_le (by omega) (by omega))]; rfl
    · unfold f_X1_firstBadSign_L5 bad
      rw [if_neg (nI_ge (by omega) (by omega)), if_neg (nI_ge (by omega) (by omega)), if_neg hpe, if_pos (s_is S), s_at S (by omega)]
      rw [ob2_some, p_further, ob2_some]
      unfold sgn
      cases em : moreOf (h p) with
      | none =>
        rw [if_pos (show zfI none = -1 from rfl)]
        rfl
      | some m =>
        have hm3 := moreOf_le em
        rw [if_neg (fun q => by have := (zfI_m1 (r := some m) (fun y hy => by cases hy; omega)).mp q; cases this)]
        show (if nI e - nI p ≤ nI m then _ else _) = _
        rw [nI_sub' (by omega)]
        by_cases hme : e - p ≤ m
        · rw [if_pos (nI_le hme (by omega))]
          show _ = some (zfI (match (if e - p ≤ m then none else _) with | none => some p | some k => bad h d (p + k) e), μ)
          rw [if_pos hme]
          rfl
        · rw [if_neg (nI_ge (by omega) (by omega))]
          have hs := p_isSign S (p := p) (m := m) (by omega) hm3 (fun e0 y => snd0 (by rw [em, e0]))
          show ob2 (f_X1_isSign cy a (nI p) (nI m) μ) _ = some (zfI (match (if e - p ≤ m then none else _) with | none => some p | some k => bad h d (p + k) e), μ)
          rw [if_neg hme]
          by_cases ok : sgOk h p m
          · rw [hs.1 ok, if_pos ok, ob2_some, if_neg (by decide)]
            show f_X1_firstBadSign_L5 cy f a (nI e) (nI p + (1 + nI m)) (nI k + 1) μ = _
            rw [show (1 : Int32) + nI m = nI (1 + m) by rw [show (1 : Int32) = nI 1 by decide +kernel, nI_p], nI_p, nI_a1]
            exact p_bad_L S he d (p + (1 + m)) (k + 1) f (by omega) (by omega) (by omega) (by omega)
          · rw [hs.2 ok, if_neg ok, ob2_some, if_pos rfl]
            rfl
theorem p_bad (S : SP cy μ a c cap n h o) {p e : Nat} (hp : p ≤ e) (he : e ≤ n) : f_X1_firstBadSign cy a (nI p) (nI e) μ = some (zfI (bad h (e - p) p e), μ) := by
  have b := S.2.2
  unfold f_X1_firstBadSign
  exact p_bad_L S he (e - p) p p FU (Nat.le_refl _) (Nat.le_refl _) (by omega) (by show e - p < 100000; omega)
theorem bad_in {h : Nat → Int32} : ∀ {f p e q : Nat}, bad h f p e = some q → p ≤ q ∧ q < e
  | 0, p, e, q, hb => by cases hb
  | f + 1, p, e, q, hb => by
    unfold bad at hb
    by_cases hpe : e ≤ p
    · rw [if_pos hpe] at hb; cases hb
    · rw [if_neg hpe] at hb
      split at hb
      · cases hb; omega
      · rename_i k _
        have := bad_in hb
        omega
/-- how many figures a number has (0: none) -/
def dz : Nat → Nat → Nat
  | 0, _ => 0
  | f + 1, r => if r = 0 then 0 else 1 + dz f (r / 10)
def dg (v : Nat) : Nat := 1 + dz 9 (v / 10)
theorem p_digits_L (cy : Nat → ClassId) (μ : Mem) : ∀ (f r k D F : Nat), k + f = 10 → r < 2 ^ 30 → f < F → f_X1_digitsOf_L9 cy F (nI D) (nI r) (nI k) μ = some (nI (D + dz f r), μ)
  | f, r, k, D, 0, _, _, hF => by omega
  | 0, r, k, D, F + 1, hk, hr, hF => by
    unfold f_X1_digitsOf_L9 f_X1_digitsOf_L33 dz
    rw [show (10 : Int32) = nI 10 by decide +kernel, if_pos (nI_le (by omega) (by omega))]
    rfl
  | f + 1, r, k, D, F + 1, hk, hr, hF => by
    unfold f_X1_digitsOf_L9 f_X1_digitsOf_L33 dz
    rw [show (10 : Int32) = nI 10 by decide +kernel, if_neg (nI_ge (show k < 10 by omega) (by decide)), show (0 : Int32) = nI 0 by decide +kernel]
    by_cases h0 : r = 0
    · rw [if_pos (nI_le (by omega) (by decide)), if_pos h0]; rfl
    · rw [if_neg (nI_ge (by omega) (by omega)), if_neg h0, pk_div (by omega) (by decide) (by decide), nI_a1, nI_a1, p_digits_L cy μ f (r / 10) (k + 1) (D + 1) F (by omega) (by omega) (by omega), Nat.add_assoc]
theorem p_digits {v : Nat} (hv : v < 2 ^ 30) : f_X1_digitsOf cy (nI v) μ = some (nI (dg v), μ) := by
  unfold f_X1_digitsOf
  rw [show (10 : Int32) = nI 10 by decide +kernel, pk_div (by omega) (by decide) (by decide)]
  exact p_digits_L cy μ 9 (v / 10) 1 1 FU rfl (by omega) (by show 9 < 100000; decide)
theorem dz_le : ∀ (f r : Nat), dz f r ≤ f
  | 0, _ => Nat.le_refl _
  | f + 1, r => by
    unfold dz
    split
    · omega
    · have := dz_le f (r / 10); omega
theorem dg_le (v : Nat) : 1 ≤ dg v ∧ dg v ≤ 10 := by
  have := dz_le 9 (v / 10)
  unfold dg
  omega
/-- figure k of a number, from the last one on -/
def fig (v k : Nat) : Nat := 48 + v / 10 ^ k % 10
/-- the bytes p .. z - 1 are the decimals of v -/
def rowN (h : Nat → Int32) (p z v : Nat) : Prop := z = p + dg v ∧ ∀ k, 1 ≤ k → k ≤ dg v → h (z - k) = nI (fig v (k - 1))
theorem p_rowName_L (S : SP cy μ a c cap n h o) {p z v d : Nat} (hz : z < n) (hd : d ≤ z) (hd10 : d ≤ 10) (hv : v < 2 ^ 30) : ∀ (r k f : Nat), k + r = d + 1 → 1 ≤ k → r < f →
    ((∀ j, k ≤ j → j ≤ d → h (z - j) = nI (fig v (j - 1))) → f_X1_isRowName_L22 cy f a (nI z) (nI d) (nI (v / 10 ^ (k - 1))) (nI k) μ = some (1, μ)) ∧
    (¬ (∀ j, k ≤ j → j ≤ d → h (z - j) = nI (fig v (j - 1))) → f_X1_isRowName_L22 cy f a (nI z) (nI d) (nI (v / 10 ^ (k - 1))) (nI k) μ = some (0, μ))
  | r, k, 0, _, _, hf => by omega
  | 0, k, f + 1, hk, h1, hf => by
    have b := S.2.2
    unfold f_X1_isRowName_L22
    rw [if_pos (nI_lt (by omega) (by omega))]
    exact ⟨fun _ => rfl, fun q => absurd (fun j a1 a2 => by omega) q⟩
  | r + 1, k, f + 1, hk, h1, hf => by
    have b := S.2.2
    have hvk : v / 10 ^ (k - 1) < 2 ^ 30 := Nat.lt_of_le_of_lt (Nat.div_le_self _ _) hv
    have ih := p_rowName_L S (p := p) hz hd hd10 hv r (k + 1) f (by omega) (by omega) (by omega)
    have hstep : f_X1_isRowName_L22 cy (f + 1) a (nI z) (nI d) (nI (v / 10 ^ (k - 1))) (nI k) μ = if h (z - k) = nI (fig v (k - 1)) then f_X1_isRowName_L22 cy f a (nI z) (nI d) (nI (v / 10 ^ (k + 1 - 1))) (nI (k + 1)) μ else some (0, μ) := by
      rw [f_X1_isRowName_L22]
      rw [if_neg (nI_nlt (show k ≤ d by omega) (by omega)), if_pos (s_is S), nI_sub' (by omega), s_at S (by omega), ob2_some, show (10 : Int32) = nI 10 by decide +kernel, pk_rem (by omega) (by decide) (by decide), pk_div (by omega) (by decide) (by decide), nI_a1, show (48 : Int32) = nI 48 by decide +kernel, nI_p, Nat.div_div_eq_div_mul, show 10 ^ (k - 1) * 10 = 10 ^ (k + 1 - 1) by rw [← Nat.pow_succ]; congr 1; omega]
      rfl
    rw [hstep]
    by_cases e : h (z - k) = nI (fig v (k - 1))
    · rw [if_pos e]
      refine ⟨fun q => ih.1 (fun j a1 a2 => q j (by omega) a2), fun q => ih.2 (fun w => q (fun j a1 a2 => ?_))⟩
      by_cases hj : j = k
      · rw [hj]; exact e
      · exact w j (by omega) a2
    · rw [if_neg e]
      exact ⟨fun q => absurd (q k (Nat.le_refl k) (by omega)) e, fun _ => rfl⟩
theorem p_rowName (S : SP cy μ a c cap n h o) {p z v : Nat} (hp : p ≤ z) (hz : z < n) (hv : v < 2 ^ 30) : (rowN h p z v → f_X1_isRowName cy a (nI p) (nI z) (nI v) μ = some (1, μ)) ∧ (¬ rowN h p z v → f_X1_isRowName cy a (nI p) (nI z) (nI v) μ = some (0, μ)) := by
  have b := S.2.2
  have hd := dg_le v
  unfold f_X1_isRowName
  rw [p_digits hv, ob2_some, nI_sub' hp]
  by_cases e : z - p = dg v
  · rw [if_pos (by rw [e])]
    have q := p_rowName_L S (p := p) (d := dg v) hz (by omega) hd.2 hv (dg v) 1 FU (by omega) (by omega) (by show dg v < 100000; omega)
    rw [show 1 - 1 = 0 from rfl, Nat.pow_zero, Nat.div_one] at q
    exact ⟨fun w => q.1 w.2, fun w => q.2 (fun u => w ⟨by omega, u⟩)⟩
  · rw [if_neg (fun w => e ((nI_eq (by omega) (by omega)).mp w))]
    exact ⟨fun w => absurd (by have := w.1; omega) e, fun _ => rfl⟩
end PU2
