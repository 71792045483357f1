/-! PURE ROWS: the reference judges by the same function. Its TAPE: bytes b, of which n count. -/
def hb (b : Nat → Nat) : Nat → Int32 := fun j => nI (b j)
def sx (x : Nat) : Int32 := (nI x).toInt8.toInt32
theorem sx_255 : ∀ x, x < 256 → sx x &&& 255 = nI x := by decide +kernel
theorem sx_24 : ∀ x, x < 256 → sx x <<< ((24 : Int32) &&& 31) = nI x <<< ((24 : Int32) &&& 31) := by decide +kernel
theorem sx_0 : ∀ x, x < 256 → (sx x = 0 ↔ nI x = 0) := by decide +kernel
theorem sx_1 : ∀ x, x < 256 → (sx x = 1 ↔ nI x = 1) := by decide +kernel
theorem sx_2 : ∀ x, x < 256 → (sx x = 2 ↔ nI x = 2) := by decide +kernel
theorem sx_01 : ∀ x, x < 256 → (nI x ≤ 1 ↔ (nI x = 0 ∨ nI x = 1)) := by decide +kernel
theorem sx_inj {x y : Nat} (hx : x < 256) (hy : y < 256) (h : sx x = sx y) : x = y := by
  have h1 := sx_255 x hx
  have h2 := sx_255 y hy
  rw [h, h2] at h1
  exact ((nI_eq (by omega) (by omega)).mp h1).symm
theorem nb_cont : ∀ x, x < 256 → ((nI x &&& 192) = 128 ↔ 128 ≤ x ∧ x ≤ 191) := by decide +kernel
theorem nb_63 : ∀ x, x < 256 → nI x &&& 63 = nI (x % 64) := by decide +kernel
theorem nb_31 : ∀ x, x < 256 → nI x &&& 31 = nI (x % 32) := by decide +kernel
theorem nb_15 : ∀ x, x < 256 → nI x &&& 15 = nI (x % 16) := by decide +kernel
theorem nb_7 : ∀ x, x < 256 → nI x &&& 7 = nI (x % 8) := by decide +kernel
/-- what holds of the reference while it judges -/
def MF (iv : Nat → Option Nat) (ad : Nat → Nat) (I : Nat → Int32) (A : Nat → Nat → Int32) (n : Nat) (b : Nat → Nat) : Prop :=
  Lay iv ad ∧ I 2 = nI n ∧ (∀ j, j < n → A 1 j = sx (b j)) ∧ (∀ j, b j < 256) ∧ n ≤ 2000
abbrev MJ (cy : Nat → ClassId) (iv : Nat → Option Nat) (ad : Nat → Nat) (μ0 : Mem) (I : Nat → Int32) (V : Nat → Value) (A : Nat → Nat → Int32) (fk fp : Int32) (G : Nat → Int32) : Mem := MR cy iv ad μ0 (upd (upd I 3 fk) 4 fp) V (updG A 20 G)
/-- what a judging function of the reference answers -/
def RN (M : Int32 → Int32 → (Nat → Int32) → Mem) (J : JR) (x : Option (Int32 × Mem)) : Prop := match J with
  | .inl f => ∃ G, x = some (-1, M (nI f.1) (nI f.2) G)
  | .inr q => ∃ G, x = some (nI q.1, M 0 (-1) G)
theorem n4I {a b : Nat} {x : Int32} (ha : a < 2 ^ 31) (hx : x = nI b) (hb : b < 2 ^ 31) : (x ≤ nI a ↔ b ≤ a) ∧ (nI a ≤ x ↔ a ≤ b) ∧ (x < nI a ↔ b < a) ∧ (nI a < x ↔ a < b) ∧ (nI a = x ↔ a = b) := by
  subst hx
  exact ⟨nI_leI hb ha, nI_leI ha hb, nI_ltI hb ha, nI_ltI ha hb, nI_eq ha hb⟩
section MU1
variable {cy : Nat → ClassId} {iv : Nat → Option Nat} {ad : Nat → Nat} {μ0 : Mem} {I : Nat → Int32} {V : Nat → Value} {A : Nat → Nat → Int32} {n : Nat} {b : Nat → Nat} {fk fp : Int32} {G : Nat → Int32} {K : Kt}
theorem MJ.is (F : MF iv ad I A n b) : isO (MJ cy iv ad μ0 I V A fk fp G) (ad 0) 7 = true := m_is F.1
theorem MJ.tp (F : MF iv ad I A n b) : rdR (MJ cy iv ad μ0 I V A fk fp G) (ad 0) 7 1 = some (ad 1) := m_ref F.1 rfl
theorem MJ.rn (F : MF iv ad I A n b) : rdI (MJ cy iv ad μ0 I V A fk fp G) (ad 0) 7 2 = some (nI n) := by
  rw [← F.2.1]
  exact m_int F.1 rfl
theorem MJ.fg (F : MF iv ad I A n b) : rdR (MJ cy iv ad μ0 I V A fk fp G) (ad 0) 7 20 = some (ad 20) := m_ref F.1 rfl
theorem MJ.rfk (F : MF iv ad I A n b) : rdI (MJ cy iv ad μ0 I V A fk fp G) (ad 0) 7 3 = some fk := m_int F.1 rfl
theorem MJ.rfp (F : MF iv ad I A n b) : rdI (MJ cy iv ad μ0 I V A fk fp G) (ad 0) 7 4 = some fp := m_int F.1 rfl
theorem m_rd (F : MF iv ad I A n b) {j : Nat} (hj : j < n) : rdA cy (MJ cy iv ad μ0 I V A fk fp G) 0 (ad 1) (nI j) = some (sx (b j)) := by
  have h := m_ld (cy := cy) (μ0 := μ0) (I := upd (upd I 3 fk) 4 fp) (V := V) (A := updG A 20 G) (i := j) F.1 1 rfl (by have := F.2.2.2.2; show j < 2000; omega)
  rw [updG_ne (by decide), F.2.2.1 j hj] at h
  exact h
theorem m_wrong (F : MF iv ad I A n b) (x y : Int32) : f_X8_wrong cy (ad 0) x y (MJ cy iv ad μ0 I V A 0 (-1) G) = some (-1, MJ cy iv ad μ0 I V A x y G) := by
  unfold f_X8_wrong f_X8_wrong_L17
  rw [MJ.rfk F, Option.bind_some, if_pos rfl, m_put F.1 rfl (by decide), Option.bind_some, m_put F.1 rfl (by decide), Option.bind_some]
  rw [upd_cm (show (4 : Nat) ≠ 3 by decide), upd_upd, upd_upd]
theorem m_intAt (F : MF iv ad I A n b) {j : Nat} (hj : j + 4 ≤ n) : f_X8_intAt cy (ad 1) (nI j) (MJ cy iv ad μ0 I V A fk fp G) = some (i4 (hb b) j, MJ cy iv ad μ0 I V A fk fp G) := by
  have hB := F.2.2.2.1
  unfold f_X8_intAt
  rw [m_rd F (by omega), Option.bind_some, nI_a1, m_rd F (by omega), Option.bind_some, nI_a2, m_rd F (by omega), Option.bind_some, nI_a3, m_rd F (by omega), Option.bind_some, sx_255 _ (hB _), sx_255 _ (hB _), sx_255 _ (hB _), sx_24 _ (hB _)]
  rfl
theorem lg_le {x y : Nat} (hx : x < 2 ^ 40) (hy : y < 2 ^ 40) : lg_cmp (lN x) (lN y) ≤ 0 ↔ x ≤ y := by
  unfold lg_cmp
  have h1 := pk_lLT (a := y) (b := x) (by omega) (by omega)
  have h2 := pk_lEQ (a := x) (b := y) (by omega) (by omega)
  by_cases q : y < x
  · rw [if_pos (h1.mpr q)]
    constructor
    · intro z; exact absurd z (by decide)
    · intro z; omega
  · rw [if_neg (fun z => q (h1.mp z))]
    by_cases e : x = y
    · rw [if_pos (h2.mpr e)]
      exact ⟨fun _ => by omega, fun _ => by decide⟩
    · rw [if_neg (fun z => e (h2.mp z))]
      exact ⟨fun _ => by omega, fun _ => by decide⟩
theorem m_some (F : MF iv ad I A n b) {p k w : Nat} (hp : p ≤ 30000) (hk : k ≤ 100) (hw : w ≤ 30000) : RN (MJ cy iv ad μ0 I V A) (jB K p k w) (f_X8_some cy (ad 0) (nI p) (nI k) (nI w) (MJ cy iv ad μ0 I V A 0 (-1) G)) := by
  unfold f_X8_some jB
  rw [nI_l (by omega), nI_l (by omega), nI_l (by omega), lN_add]
  have q := lg_le (x := p + k) (y := w) (by omega) (by omega)
  by_cases e : p + k ≤ w
  · rw [if_pos (q.mpr e), if_pos e, nI_p]
    exact ⟨G, rfl⟩
  · rw [if_neg (fun z => e (q.mp z)), if_neg e, if_pos (MJ.is F), m_wrong F, ob2_some]
    exact ⟨G, rfl⟩
theorem m_zero_L (F : MF iv ad I A n b) : ∀ (k p f : Nat), p + k ≤ n → k < f → f_X8_zero_L2 cy f (ad 0) (nI (p + k)) (nI p) (MJ cy iv ad μ0 I V A fk fp G) = some (zfI (zf (hb b) p k), MJ cy iv ad μ0 I V A fk fp G)
  | k, p, 0, _, hf => by omega
  | 0, p, f + 1, hp, _ => by
    have hn := F.2.2.2.2
    unfold f_X8_zero_L2 f_X8_zero_L22 zf
    rw [Nat.add_zero, if_pos (nI_le (Nat.le_refl p) (by omega)), if_pos (nI_le (Nat.le_refl p) (by omega))]
    rfl
  | k + 1, p, f + 1, hp, hf => by
    have hn := F.2.2.2.2
    unfold f_X8_zero_L2 f_X8_zero_L22 zf
    rw [if_neg (nI_ge (by omega) (by omega)), MJ.tp F, Option.bind_some, m_rd F (by omega), Option.bind_some]
    have e := sx_0 (b p) (F.2.2.2.1 _)
    by_cases h0 : hb b p = 0
    · rw [if_pos (e.mpr h0), if_neg (nI_ge (by omega) (by omega)), if_pos h0]
      rfl
    · rw [if_neg (fun z => h0 (e.mp z)), if_neg h0, nI_a1]
      have := m_zero_L F k (p + 1) f (by omega) (by omega)
      rw [show p + 1 + k = p + (k + 1) by omega] at this
      exact this
theorem m_zero (F : MF iv ad I A n b) {p w : Nat} (hp : p ≤ w) (hw : w ≤ n) : f_X8_zero cy (ad 0) (nI p) (nI w) (MJ cy iv ad μ0 I V A fk fp G) = some (zfI (zf (hb b) p (w - p)), MJ cy iv ad μ0 I V A fk fp G) := by
  have hn := F.2.2.2.2
  unfold f_X8_zero
  have := m_zero_L (fk := fk) (fp := fp) (G := G) (cy := cy) (μ0 := μ0) (V := V) F (w - p) p FU (by omega) (by show w - p < 100000; omega)
  rw [show p + (w - p) = w by omega] at this
  exact this
/-! signs -/
theorem m_fin {N v l : Nat} {μ : Mem} (hv : v < 2 ^ 31) (hl : l < 2 ^ 31) : f_X8_sign_L212 cy (nI N) (nI v) (nI l) μ = some ((if l ≤ v ∧ v ≤ 1114111 ∧ (v < 55296 ∨ 57343 < v) then nI N else 0), μ) := by
  unfold f_X8_sign_L212 f_X8_sign_L246 f_X8_sign_L242 f_X8_sign_L247
  rw [if_pos rfl, if_neg (show ¬ (1 : Int32) = 0 by decide), show (1114111 : Int32) = nI 1114111 by decide +kernel, show (55296 : Int32) = nI 55296 by decide +kernel, show (57343 : Int32) = nI 57343 by decide +kernel]
  by_cases h1 : v < l
  · rw [if_pos ((nI_ltI hv hl).mpr h1), if_neg (fun z => by omega)]
  · rw [if_neg (fun z => h1 ((nI_ltI hv hl).mp z))]
    by_cases h2 : 1114111 < v
    · rw [if_pos ((nI_ltI (by decide) hv).mpr h2), if_neg (fun z => by omega)]
    · rw [if_neg (fun z => h2 ((nI_ltI (by decide) hv).mp z))]
      by_cases h3 : v < 55296
      · rw [if_pos ((nI_ltI hv (by decide)).mpr h3), if_pos ⟨by omega, by omega, Or.inl h3⟩]
      · rw [if_neg (fun z => h3 ((nI_ltI hv (by decide)).mp z))]
        by_cases h4 : v ≤ 57343
        · rw [if_pos ((nI_leI hv (by decide)).mpr h4), if_neg (fun z => by omega)]
        · rw [if_neg (fun z => h4 ((nI_leI hv (by decide)).mp z)), if_pos ⟨by omega, by omega, Or.inr (by omega)⟩]
theorem m_sg_step (F : MF iv ad I A n b) {f p N v k : Nat} (hk : k < N) (hN : N ≤ 4) (hp : p + k < n) : f_X8_sign_L127 cy (f + 1) (ad 0) (nI p) (nI N) (nI v) (nI k) (MJ cy iv ad μ0 I V A fk fp G) =
    if 128 ≤ b (p + k) ∧ b (p + k) ≤ 191 then f_X8_sign_L127 cy f (ad 0) (nI p) (nI N) (nI (64 * v + b (p + k) % 64)) (nI (k + 1)) (MJ cy iv ad μ0 I V A fk fp G) else some (0, MJ cy iv ad μ0 I V A fk fp G) := by
  have hn := F.2.2.2.2
  have hB := F.2.2.2.1 (p + k)
  rw [f_X8_sign_L127, if_neg (nI_ge hk (by omega)), MJ.tp F, Option.bind_some, nI_p, m_rd F hp, Option.bind_some, sx_255 _ hB, show (128 : Int32) = nI 128 by decide +kernel, show (191 : Int32) = nI 191 by decide +kernel, nb_63 _ hB, show (64 : Int32) = nI 64 by decide +kernel, pk_mul, nI_p, nI_a1]
  unfold f_X8_sign_L165
  by_cases h1 : b (p + k) < 128
  · rw [if_pos ((nI_ltI (by omega) (by decide)).mpr h1), if_neg (fun z => by omega)]
  · rw [if_neg (fun z => h1 ((nI_ltI (by omega) (by decide)).mp z))]
    by_cases h2 : b (p + k) ≤ 191
    · rw [if_pos ((nI_leI (by omega) (by decide)).mpr h2), if_pos ⟨by omega, h2⟩]
    · rw [if_neg (fun z => h2 ((nI_leI (by omega) (by decide)).mp z)), if_neg (fun z => h2 z.2)]
theorem m_sg_end {f p N v m : Nat} {μ : Mem} (hN : 2 ≤ N ∧ N ≤ 4) (hv : v < 2 ^ 31) : f_X8_sign_L127 cy (f + 1) m (nI p) (nI N) (nI v) (nI N) μ = some ((if (if N = 2 then 128 else if N = 3 then 2048 else 65536) ≤ v ∧ v ≤ 1114111 ∧ (v < 55296 ∨ 57343 < v) then nI N else 0), μ) := by
  rw [f_X8_sign_L127, if_pos (nI_le (Nat.le_refl N) (by omega)), show (2 : Int32) = nI 2 by decide +kernel, show (3 : Int32) = nI 3 by decide +kernel, show (128 : Int32) = nI 128 by decide +kernel, show (2048 : Int32) = nI 2048 by decide +kernel, show (65536 : Int32) = nI 65536 by decide +kernel, m_fin hv (by decide), m_fin hv (by decide), m_fin hv (by decide)]
  by_cases h2 : N = 2
  · rw [if_pos (by rw [h2]), if_pos h2]
  · rw [if_neg (fun z => h2 ((nI_eq (by omega) (by decide)).mp z)), if_neg h2]
    by_cases h3 : N = 3
    · rw [if_pos (by rw [h3]), if_pos h3]
    · rw [if_neg (fun z => h3 ((nI_eq (by omega) (by decide)).mp z)), if_neg h3]
end MU1
theorem moreOf_n {X : Nat} (hX : X < 256) : moreOf (nI X) = if X < 128 then some 0 else if X < 194 then none else if X ≤ 244 then (if 224 ≤ X then (if 240 ≤ X then some 3 else some 2) else some 1) else none := by
  revert X
  decide +kernel
theorem sndOk_n {X Y : Nat} (hX : X < 256) (hY : Y < 256) : sndOk (nI X) (nI Y) ↔ (X = 224 → 160 ≤ Y) ∧ (X = 237 → Y < 160) ∧ (X = 240 → 144 ≤ Y) ∧ (X = 244 → Y < 144) := by
  unfold sndOk
  have e1 : (nI X = 224) ↔ X = 224 := nI_eq (b := 224) (by omega) (by decide)
  have e2 : (nI X = 237) ↔ X = 237 := nI_eq (b := 237) (by omega) (by decide)
  have e3 : (nI X = 240) ↔ X = 240 := nI_eq (b := 240) (by omega) (by decide)
  have e4 : (nI X = 244) ↔ X = 244 := nI_eq (b := 244) (by omega) (by decide)
  have f1 : (nI Y < 160) ↔ Y < 160 := nI_ltI (b := 160) (by omega) (by decide)
  have f2 : (160 ≤ nI Y) ↔ 160 ≤ Y := nI_leI (a := 160) (by decide) (by omega)
  have f3 : (nI Y < 144) ↔ Y < 144 := nI_ltI (b := 144) (by omega) (by decide)
  have f4 : (144 ≤ nI Y) ↔ 144 ≤ Y := nI_leI (a := 144) (by decide) (by omega)
  rw [f1, f2, f3, f4]
  by_cases h1 : X = 224
  · rw [if_pos (e1.mpr h1)]; omega
  · rw [if_neg (fun z => h1 (e1.mp z))]
    by_cases h2 : X = 237
    · rw [if_pos (e2.mpr h2)]; omega
    · rw [if_neg (fun z => h2 (e2.mp z))]
      by_cases h3 : X = 240
      · rw [if_pos (e3.mpr h3)]; omega
      · rw [if_neg (fun z => h3 (e3.mp z))]
        by_cases h4 : X = 244
        · rw [if_pos (e4.mpr h4)]; omega
        · rw [if_neg (fun z => h4 (e4.mp z))]
          exact ⟨fun _ => by omega, fun _ => trivial⟩
def sgI (r : Option Nat) : Int32 := match r with
  | some k => nI k
  | none => 0
