/-! PURE ROWS: the reference's signs, names, texts. -/
section MU2
variable {cy : Nat → ClassId} {iv : Nat → Option Nat} {ad : Nat → Nat} {μ0 : Mem} {I : Nat → Int32} {V : Nat → Value} {A : Nat → Nat → Int32} {n : Nat} {b : Nat → Nat} {fk fp : Int32} {G : Nat → Int32} {K : Kt}
theorem sgOk_n {p m : Nat} (hB : ∀ j, b j < 256) : sgOk (hb b) p m ↔ (∀ k, 1 ≤ k → k ≤ m → 128 ≤ b (p + k) ∧ b (p + k) ≤ 191) ∧ (1 ≤ m → (b p = 224 → 160 ≤ b (p + 1)) ∧ (b p = 237 → b (p + 1) < 160) ∧ (b p = 240 → 144 ≤ b (p + 1)) ∧ (b p = 244 → b (p + 1) < 144)) := by
  unfold sgOk
  constructor
  · intro h
    exact ⟨fun k h1 h2 => (nb_cont _ (hB _)).mp (h.1 k h1 h2), fun h1 => (sndOk_n (hB _) (hB _)).mp (h.2 h1)⟩
  · intro h
    exact ⟨fun k h1 h2 => (nb_cont _ (hB _)).mpr (h.1 k h1 h2), fun h1 => (sndOk_n (hB _) (hB _)).mpr (h.2 h1)⟩
def fin8 (N v l : Nat) : Int32 := if l ≤ v ∧ v ≤ 1114111 ∧ (v < 55296 ∨ 57343 < v) then nI N else 0
theorem m_L75_2 (F : MF iv ad I A n b) {p e : Nat} (hp : p < e) (he : e ≤ n) : f_X8_sign_L75 cy (ad 0) (nI p) (nI e) (nI (b p)) 2 (MJ cy iv ad μ0 I V A fk fp G) =
    some ((if p + 2 ≤ e then (if 128 ≤ b (p + 1) ∧ b (p + 1) ≤ 191 then fin8 2 (64 * (b p % 32) + b (p + 1) % 64) 128 else 0) else 0), MJ cy iv ad μ0 I V A fk fp G) := by
  have hn := F.2.2.2.2
  have hB := F.2.2.2.1
  unfold f_X8_sign_L75 f_X8_sign_L122 f_X8_sign_L90
  rw [if_neg (show ¬ (2 : Int32) = 0 by decide), nI_a2]
  by_cases h : p + 2 ≤ e
  · rw [if_pos (nI_le h (by omega)), if_pos rfl, if_pos h, nb_31 _ (hB _), show (2 : Int32) = nI 2 by decide +kernel, show (1 : Int32) = nI 1 by decide +kernel, show FU = 99997 + 1 + 1 + 1 from rfl, m_sg_step F (by decide) (by decide) (by omega)]
    by_cases h1 : 128 ≤ b (p + 1) ∧ b (p + 1) ≤ 191
    · rw [if_pos h1, if_pos h1, m_sg_end (by decide) (by have := hB p; omega)]
      rfl
    · rw [if_neg h1, if_neg h1]
  · rw [if_neg (nI_ge (by omega) (by omega)), if_neg h]
theorem m_L75_3 (F : MF iv ad I A n b) {p e : Nat} (hp : p < e) (he : e ≤ n) : f_X8_sign_L75 cy (ad 0) (nI p) (nI e) (nI (b p)) 3 (MJ cy iv ad μ0 I V A fk fp G) =
    some ((if p + 3 ≤ e then (if 128 ≤ b (p + 1) ∧ b (p + 1) ≤ 191 then (if 128 ≤ b (p + 2) ∧ b (p + 2) ≤ 191 then fin8 3 (64 * (64 * (b p % 16) + b (p + 1) % 64) + b (p + 2) % 64) 2048 else 0) else 0) else 0), MJ cy iv ad μ0 I V A fk fp G) := by
  have hn := F.2.2.2.2
  have hB := F.2.2.2.1
  unfold f_X8_sign_L75 f_X8_sign_L122 f_X8_sign_L90
  rw [if_neg (show ¬ (3 : Int32) = 0 by decide), nI_a3]
  by_cases h : p + 3 ≤ e
  · rw [if_pos (nI_le h (by omega)), if_neg (show ¬ (3 : Int32) = 2 by decide), if_pos rfl, if_pos h, nb_15 _ (hB _), show (3 : Int32) = nI 3 by decide +kernel, show (1 : Int32) = nI 1 by decide +kernel, show FU = 99996 + 1 + 1 + 1 + 1 from rfl, m_sg_step F (by decide) (by decide) (by omega)]
    by_cases h1 : 128 ≤ b (p + 1) ∧ b (p + 1) ≤ 191
    · rw [if_pos h1, if_pos h1, m_sg_step F (by decide) (by decide) (by omega)]
      by_cases h2 : 128 ≤ b (p + 2) ∧ b (p + 2) ≤ 191
      · rw [if_pos h2, if_pos h2, m_sg_end (by decide) (by have := hB p; omega)]
        rfl
      · rw [if_neg h2, if_neg h2]
    · rw [if_neg h1, if_neg h1]
  · rw [if_neg (nI_ge (by omega) (by omega)), if_neg h]
theorem m_L75_4 (F : MF iv ad I A n b) {p e : Nat} (hp : p < e) (he : e ≤ n) : f_X8_sign_L75 cy (ad 0) (nI p) (nI e) (nI (b p)) 4 (MJ cy iv ad μ0 I V A fk fp G) =
    some ((if p + 4 ≤ e then (if 128 ≤ b (p + 1) ∧ b (p + 1) ≤ 191 then (if 128 ≤ b (p + 2) ∧ b (p + 2) ≤ 191 then (if 128 ≤ b (p + 3) ∧ b (p + 3) ≤ 191 then fin8 4 (64 * (64 * (64 * (b p % 8) + b (p + 1) % 64) + b (p + 2) % 64) + b (p + 3) % 64) 65536 else 0) else 0) else 0) else 0), MJ cy iv ad μ0 I V A fk fp G) := by
  have hn := F.2.2.2.2
  have hB := F.2.2.2.1
  unfold f_X8_sign_L75 f_X8_sign_L122 f_X8_sign_L90
  rw [if_neg (show ¬ (4 : Int32) = 0 by decide), nI_a4]
  by_cases h : p + 4 ≤ e
  · rw [if_pos (nI_le h (by omega)), if_neg (show ¬ (4 : Int32) = 2 by decide), if_neg (show ¬ (4 : Int32) = 3 by decide), if_pos h, nb_7 _ (hB _), show (4 : Int32) = nI 4 by decide +kernel, show (1 : Int32) = nI 1 by decide +kernel, show FU = 99995 + 1 + 1 + 1 + 1 + 1 from rfl, m_sg_step F (by decide) (by decide) (by omega)]
    by_cases h1 : 128 ≤ b (p + 1) ∧ b (p + 1) ≤ 191
    · rw [if_pos h1, if_pos h1, m_sg_step F (by decide) (by decide) (by omega)]
      by_cases h2 : 128 ≤ b (p + 2) ∧ b (p + 2) ≤ 191
      · rw [if_pos h2, if_pos h2, m_sg_step F (by decide) (by decide) (by omega)]
        by_cases h3 : 128 ≤ b (p + 3) ∧ b (p + 3) ≤ 191
        · rw [if_pos h3, if_pos h3, m_sg_end (by decide) (by have := hB p; omega)]
          rfl
        · rw [if_neg h3, if_neg h3]
      · rw [if_neg h2, if_neg h2]
    · rw [if_neg h1, if_neg h1]
  · rw [if_neg (nI_ge (by omega) (by omega)), if_neg h]
/-- the sign at p, in numbers -/
theorem sgn_n {p e : Nat} (hB : ∀ j, b j < 256) (m : Nat) (hm : moreOf (nI (b p)) = some m) : sgI (sgn (hb b) p e) = @ite Int32 (p + m < e ∧ sgOk (hb b) p m) (Classical.propDecidable _) (nI (1 + m)) 0 := by
  unfold sgn
  have e1 : moreOf (hb b p) = some m := hm
  rw [e1]
  show sgI (if e - p ≤ m then none else @ite (Option Nat) (sgOk (hb b) p m) (Classical.propDecidable _) (some (1 + m)) none) = _
  by_cases h1 : e - p ≤ m
  · rw [if_pos h1, if_neg (fun z => by omega)]
    rfl
  · rw [if_neg h1]
    by_cases h2 : sgOk (hb b) p m
    · rw [if_pos h2, if_pos ⟨by omega, h2⟩]
      rfl
    · rw [if_neg h2, if_neg (fun z => h2 z.2)]
      rfl
theorem sgn_0 {p e : Nat} (hm : moreOf (nI (b p)) = none) : sgI (sgn (hb b) p e) = 0 := by
  unfold sgn
  have e1 : moreOf (hb b p) = none := hm
  rw [e1]
  rfl
theorem ite_to {α : Type} {c d : Prop} {_ : Decidable c} {_ : Decidable d} {x y : α} (h : c ↔ d) : (if c then x else y) = if d then x else y := by
  by_cases q : c
  · rw [if_pos q, if_pos (h.mp q)]
  · rw [if_neg q, if_neg (fun z => q (h.mpr z))]
theorem ite_and {α : Type} {c d : Prop} [Decidable c] [Decidable d] {x y : α} : (if c then (if d then x else y) else y) = if c ∧ d then x else y := by
  by_cases q : c
  · rw [if_pos q]
    exact ite_to ⟨fun z => ⟨q, z⟩, fun z => z.2⟩
  · rw [if_neg q, if_neg (fun z => q z.1)]
theorem m_sign (F : MF iv ad I A n b) {p e : Nat} (hp : p < e) (he : e ≤ n) : f_X8_sign cy (ad 0) (nI p) (nI e) (MJ cy iv ad μ0 I V A fk fp G) = some (sgI (sgn (hb b) p e), MJ cy iv ad μ0 I V A fk fp G) := by
  have hn := F.2.2.2.2
  have hB := F.2.2.2.1
  have hX := hB p
  unfold f_X8_sign f_X8_sign_L38 f_X8_sign_L56 f_X8_sign_L74
  rw [MJ.tp F, Option.bind_some, m_rd F (by omega), Option.bind_some, sx_255 _ hX, m_L75_2 F hp he, m_L75_3 F hp he, m_L75_4 F hp he]
  unfold f_X8_sign_L75 f_X8_sign_L90
  rw [if_pos (show (0 : Int32) = 0 from rfl)]
  have c1 : (128 ≤ nI (b p)) ↔ 128 ≤ b p := nI_leI (a := 128) (by decide) (by omega)
  have c2 : (nI (b p) < 240) ↔ b p < 240 := nI_ltI (b := 240) (by omega) (by decide)
  have c3 : (248 ≤ nI (b p)) ↔ 248 ≤ b p := nI_leI (a := 248) (by decide) (by omega)
  have c4 : (nI (b p) < 224) ↔ b p < 224 := nI_ltI (b := 224) (by omega) (by decide)
  have c5 : (240 ≤ nI (b p)) ↔ 240 ≤ b p := nI_leI (a := 240) (by decide) (by omega)
  have c6 : (nI (b p) < 192) ↔ b p < 192 := nI_ltI (b := 192) (by omega) (by decide)
  have c7 : (224 ≤ nI (b p)) ↔ 224 ≤ b p := nI_leI (a := 224) (by decide) (by omega)
  have hmo := moreOf_n hX
  by_cases h1 : b p < 128
  · rw [if_neg (fun z => by have := c1.mp z; omega)]
    rw [if_pos h1] at hmo
    rw [sgn_n hB 0 hmo, if_pos ⟨by omega, fun k a1 a2 => by omega, fun a1 => by omega⟩]
    rfl
  · rw [if_pos (c1.mpr (by omega))]
    rw [if_neg h1] at hmo
    by_cases h2 : 240 ≤ b p ∧ b p < 248
    · rw [if_neg (fun z => by have := c2.mp z; omega), if_neg (fun z => by have := c3.mp z; omega)]
      rw [if_neg (show ¬ b p < 194 by omega)] at hmo
      by_cases h3 : b p ≤ 244
      · rw [if_pos h3, if_pos (by omega), if_pos h2.1] at hmo
        rw [sgn_n hB 3 hmo]
        unfold fin8
        rw [ite_and, ite_and, ite_and, ite_and]
        congr 2
        refine ite_to ?_
        rw [sgOk_n hB]
        constructor
        · intro z
          refine ⟨by omega, fun k a1 a2 => ?_, fun _ => by omega⟩
          match k, a1, a2 with
          | 1, _, _ => exact z.1.1.1.2
          | 2, _, _ => exact z.1.1.2
          | 3, _, _ => exact z.1.2
        · intro z
          have k1 := z.2.1 1 (by omega) (by omega)
          have k2 := z.2.1 2 (by omega) (by omega)
          have k3 := z.2.1 3 (by omega) (by omega)
          have k4 := z.2.2 (by omega)
          exact ⟨⟨⟨⟨by omega, k1⟩, k2⟩, k3⟩, by omega⟩
      · rw [if_neg h3] at hmo
        rw [sgn_0 hmo]
        unfold fin8
        rw [ite_and, ite_and, ite_and, ite_and, if_neg (fun z => by omega)]
    · by_cases h4 : 224 ≤ b p ∧ b p < 240
      · rw [if_pos (c2.mpr h4.2), if_neg (fun z => by have := c4.mp z; omega), if_neg (fun z => by have := c5.mp z; omega)]
        rw [if_neg (show ¬ b p < 194 by omega), if_pos (by omega), if_pos h4.1, if_neg (by omega)] at hmo
        rw [sgn_n hB 2 hmo]
        unfold fin8
        rw [ite_and, ite_and, ite_and]
        congr 2
        refine ite_to ?_
        rw [sgOk_n hB]
        constructor
        · intro z
          refine ⟨by omega, fun k a1 a2 => ?_, fun _ => by omega⟩
          match k, a1, a2 with
          | 1, _, _ => exact z.1.1.2
          | 2, _, _ => exact z.1.2
        · intro z
          have k1 := z.2.1 1 (by omega) (by omega)
          have k2 := z.2.1 2 (by omega) (by omega)
          have k4 := z.2.2 (by omega)
          exact ⟨⟨⟨by omega, k1⟩, k2⟩, by omega⟩
      · by_cases h5 : 192 ≤ b p ∧ b p < 224
        · rw [if_pos (c2.mpr (by omega)), if_pos (c4.mpr (by omega)), if_neg (fun z => by have := c6.mp z; omega), if_neg (fun z => by have := c7.mp z; omega)]
          by_cases h6 : b p < 194
          · rw [if_pos h6] at hmo
            rw [sgn_0 hmo]
            unfold fin8
            rw [ite_and, ite_and, if_neg (fun z => by omega)]
          · rw [if_neg h6, if_pos (by omega), if_neg (by omega)] at hmo
            rw [sgn_n hB 1 hmo]
            unfold fin8
            rw [ite_and, ite_and]
            congr 2
            refine ite_to ?_
            rw [sgOk_n hB]
            constructor
            · intro z
              refine ⟨by omega, fun k a1 a2 => ?_, fun _ => by omega⟩
              match k, a1, a2 with
              | 1, _, _ => exact z.1.2
            · intro z
              have k1 := z.2.1 1 (by omega) (by omega)
              exact ⟨⟨by omega, k1⟩, by omega⟩
        · have h0 : sgI (sgn (hb b) p e) = 0 := by
            refine sgn_0 ?_
            rw [hmo]
            by_cases h6 : b p < 194
            · rw [if_pos h6]
            · rw [if_neg h6, if_neg (by omega)]
          rw [h0]
          by_cases h7 : b p < 240
          · rw [if_pos (c2.mpr h7), if_pos (c4.mpr (by omega)), if_pos (c6.mpr (by omega))]
          · rw [if_neg (fun z => h7 (c2.mp z)), if_pos (c3.mpr (by omega)), if_neg (fun z => by have := c4.mp z; omega), if_pos (c5.mpr (by omega)), if_neg (fun z => by have := c6.mp z; omega), if_pos (c7.mpr (by omega))]
end MU2
