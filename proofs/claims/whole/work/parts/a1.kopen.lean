/-! THE CALLS: open. -/
theorem jOp_0 {h : Nat → Int32} {n : Nat} {named : Bool} {t : Int32} (he : jEnd (jOp h n named t) n = none) : hasD t ∧ ∃ q K1, jHd h n named = .inr (q, K1) ∧ q ≤ n ∧ (t = 15 → txOk h q n) ∧ (¬ t = 15 → q = n) := by
  unfold jOp at he
  by_cases ht : hasD t
  · rw [if_pos ht] at he
    refine ⟨ht, ?_⟩
    cases eh : jHd h n named with
    | inl f =>
      rw [eh] at he
      cases he
    | inr q =>
      obtain ⟨q, K1⟩ := q
      rw [eh] at he
      have he : jEnd (if t = 15 then jT h K1 q n else .inr (q, K1)) n = none := he
      have hb' := jHd_b eh
      refine ⟨q, K1, rfl, hb'.1, fun h15 => ?_, fun h15 => ?_⟩
      · rw [if_pos h15] at he
        cases ej : jT h K1 q n with
        | inl f => rw [ej] at he; cases he
        | inr y =>
          obtain ⟨y, K2⟩ := y
          rw [ej] at he
          have he : (if y < n then some (9, y) else none) = none := he
          by_cases c : y < n
          · rw [if_pos c] at he; cases he
          · obtain ⟨N, h1, h2, h3, h4, -⟩ := jT_b ej
            have : y = n := by omega
            subst this
            exact txOk.of ⟨_, ej⟩
      · rw [if_neg h15] at he
        have he : (if q < n then some (9, q) else none) = none := he
        by_cases c : q < n
        · rw [if_pos c] at he; cases he
        · have := hb'.1
          omega
  · rw [if_neg ht] at he
    cases he
theorem jOp_f {h : Nat → Int32} {n : Nat} {named : Bool} {t : Int32} : okF (jOp h n named t) := by
  unfold jOp
  by_cases ht : hasD t
  · rw [if_pos ht]
    exact okF.t jHd_f2 (fun q K => okF.i jT_f okF.r)
  · rw [if_neg ht]
    exact okF.l (by decide)
section CHS4
variable {z o : Nat} {D v c : Nat → Nat} {t : Nat → Int32} {b b' : Nat → Nat}
theorem CHN.opn (C : CHN (hb b) z (o + 1) D t v c) (ho : o + 1 < 24) (a : ∀ j, j < z → hb b' j = hb b j) {ty : Int32} {vn Dn : Nat} (ht : isTy ty) (hd : hasD ty) (hz0 : hb b' z = ty) (hnm : nmZ (hb b') (z + 1) (vn - 1) (rwo (t o == 4) (c o))) (hvn : z + 2 ≤ vn) (hD : (ty = 15 ∧ vn + 8 < Dn ∧ txOk (hb b') (vn + 4) Dn) ∨ (ty ≠ 15 ∧ Dn = vn)) : CHN (hb b') (Dn + 4) (o + 2) (updG D (o + 1) Dn) (updG t (o + 1) ty) (updG v (o + 1) vn) (updG (updG c o (c o + 1)) (o + 1) 0) := by
  have e1 := C.2.2.1 (by omega)
  have vD : vn ≤ Dn := by rcases hD with ⟨-, h, -⟩ | ⟨-, h⟩ <;> omega
  have tl := C.2.2.2.1 o (by omega)
  refine ⟨by omega, fun q => by omega, fun _ => ⟨?_, ?_, ?_⟩, fun k hk => ?_, fun k hk => ?_⟩
  · rw [updG_ne (by omega)]; exact e1.1
  · rw [updG_ne (by omega)]; exact e1.2.1
  · rw [show o + 2 - 1 = o + 1 by omega, updG_self, updG_self, updG_self]
    exact ⟨fun _ => Dn + 4, rfl, rfl, fun i hi => absurd hi (Nat.not_lt_zero i)⟩
  · by_cases q : k = o + 1
    · subst q; rw [updG_self]; exact Nat.le_refl _
    · rw [updG_ne q]
      have := C.2.2.2.1 k (by omega)
      omega
  · by_cases q : k = o
    · subst q
      rw [updG_ne (show k ≠ k + 1 by omega), updG_ne (show k ≠ k + 1 by omega), updG_ne (show k ≠ k + 1 by omega), updG_self, updG_self, updG_self, updG_self]
      refine ⟨⟨z, by omega, ?_, ht, hz0, hd, ?_, hvn, hD⟩, by omega⟩
      · rw [Nat.add_sub_cancel]; exact C.top.go (fun j _ j2 => a j j2)
      · rw [Nat.add_sub_cancel]; exact hnm
    · rw [updG_ne (show k ≠ o + 1 by omega), updG_ne (show k ≠ o + 1 by omega), updG_ne (show k ≠ o + 1 by omega), updG_ne q, updG_ne (show k + 1 ≠ o + 1 by omega), updG_ne (show k + 1 ≠ o + 1 by omega), updG_ne (show k + 1 ≠ o + 1 by omega)]
      obtain ⟨M, dl⟩ := C.2.2.2.2 k (by omega)
      have := C.2.2.2.1 (k + 1) (by omega)
      exact ⟨M.go (fun j _ j2 => a j (by omega)), dl⟩
end CHS4
section KO1
variable {cy : Nat → ClassId} {iv : Nat → Option Nat} {ad : Nat → Nat} {μ0 : Mem} {J : Nat → Int32} {w : Nat} {B : Nat → Nat → Int32} {iw : Nat → Option Nat} {aw : Nat → Nat} {μ1 : Mem} {I : Nat → Int32} {V : Nat → Value} {A : Nat → Nat → Int32}
theorem k_jOp (hL : Lay6 iv ad) {j n : Nat} {b : Nat → Nat} (hj : span6 j = true) (h1 : J (100 * j + 1) = nI n) (hn : n ≤ len6 (j + 1)) (h2 : B (j + 1) = hb b) (named : Bool) (t : Int32) {dep : Nat} (hd : dep ≤ 24) : ∃ vp K, f_X2_judgeOpening cy (ad 1) (ad j) (bI named) t (nI dep) (MC cy iv ad μ0 J w B) = some (MC cy iv ad μ0 (upR J vp (-1) (fkI (jOpE (hb b) n named t dep)) (fpI (jOpE (hb b) n named t dep)) K) (ad j) B) ∧ ∀ q K1, jHd (hb b) n named = .inr (q, K1) → hasD t → vp = nI q := by
  have S := SP6 (cy := cy) (μ0 := μ0) (w := w) (B := B) hL hj h1 hn
  rw [h2] at S
  obtain ⟨vp, K, e, hv⟩ := q_judgeOpening S (k_r1 hL hj) (c_rc hL) named t hd
  rw [c_RM hL] at e
  exact ⟨vp, K, e, hv⟩
/-- what stands behind an opened ELEMENT's name, ahead of the DOCUMENT -/
def opT (ty : Int32) (tb : Nat → Nat) (q tn : Nat) : List Nat := (if ty = 15 then [0, 0, 0, 0] else []) ++ sl tb q tn
def opX (ty : Int32) : Nat := if ty = 15 then 9 else 5
theorem opT_len {ty : Int32} {tb : Nat → Nat} {q tn : Nat} : (opT ty tb q tn).length + 5 = opX ty + (tn - q) := by
  unfold opT opX
  rw [List.length_append, sl_len]
  by_cases h : ty = 15
  · rw [if_pos h, if_pos h]
    show 4 + (tn - q) + 5 = _
    omega
  · rw [if_neg h, if_neg h]
    show 0 + (tn - q) + 5 = _
    omega
theorem h_open {z o c : Nat} {b : Nat → Nat} {t : Int32} (hL : Lay6 iv ad) (h305 : J 305 = nI (o + 1)) (ho : o + 1 < 24) (h5 : B 5 o = t) (h7 : B 7 o = nI c) (hc : c < 2 ^ 30) (h1 : J 3601 = nI z) (h2 : B 37 = hb b) (hB : bB b) (hz : z + (o + 1) ≤ 2400) (ty : Int32) {tn q : Nat} {tb : Nat → Nat} (g1 : J 2201 = nI tn) (g2 : B 23 = hb tb) (g3 : bB tb) (g4 : tn ≤ 2000) (hq : q ≤ tn) (hq0 : (t == 4) = true → q = 0) :
    (2400 < z + (if (t == 4) then 2 + dg c else 1) + tn + opX ty + (o + 1) → f_X3_openElement cy (ad 3) ty (ad 22) (nI q) (MC cy iv ad μ0 J w B) = some (0, MC cy iv ad μ0 J w B)) ∧
    (z + (if (t == 4) then 2 + dg c else 1) + tn + opX ty + (o + 1) ≤ 2400 → ∃ J' B' b', f_X3_openElement cy (ad 3) ty (ad 22) (nI q) (MC cy iv ad μ0 J w B) = some (1, MC cy iv ad μ0 J' w B') ∧ J' 305 = nI (o + 2) ∧ J' 3601 = nI (z + ([b8 ty] ++ (if (t == 4) then rnl c else sl tb 0 q)).length + (opT ty tb q tn).length + 4) ∧ B' 37 = hb b' ∧ bB b' ∧ EX b z ([b8 ty] ++ (if (t == 4) then rnl c else sl tb 0 q) ++ opT ty tb q tn ++ [0, 0, 0, 0]) b' ∧ B' 4 = upd (B 4) (o + 1) (nI (z + ([b8 ty] ++ (if (t == 4) then rnl c else sl tb 0 q)).length + (opT ty tb q tn).length)) ∧ B' 5 = upd (B 5) (o + 1) ty ∧ B' 6 = upd (B 6) (o + 1) (nI (z + ([b8 ty] ++ (if (t == 4) then rnl c else sl tb 0 q)).length)) ∧ B' 7 = upd (upd (B 7) o (nI (c + 1))) (o + 1) 0 ∧ (∀ k, k ≠ 305 → k ≠ 3601 → k ≠ 3602 → J' k = J k) ∧ ∀ k, k < 4 ∨ 7 < k → k ≠ 37 → B' k = B k) := by
  have hdg := dg_le c
  have hh : (if (t == 4) then 2 + dg c else 1) ≤ 12 := by split <;> omega
  have ox : opX ty ≤ 9 := by unfold opX; split <;> omega
  have hlen : ([b8 ty] ++ (if (t == 4) then rnl c else sl tb 0 q)).length + (tn - q) = (if (t == 4) then 2 + dg c else 1) + tn := by
    rw [List.length_append]
    show 1 + _ + _ = _
    cases et : (t == 4) with
    | true =>
      have := hq0 et
      show 1 + (rnl c).length + (tn - q) = 2 + dg c + tn
      rw [rnl_len]
      omega
    | false =>
      show 1 + (sl tb 0 q).length + (tn - q) = 1 + tn
      rw [sl_len]
      omega
  have tl := opT_len (ty := ty) (tb := tb) (q := q) (tn := tn)
  have pre : f_X3_openElement cy (ad 3) ty (ad 22) (nI q) (MC cy iv ad μ0 J w B) = f_X3_openElement_L24 cy (ad 3) ty (ad 22) (nI q) (if ty = 15 then 1 else 0) (nI (opX ty)) (MC cy iv ad μ0 J w B) := by
    unfold f_X3_openElement f_X3_openElement_L11 opX
    by_cases h : ty = 15
    · rw [if_pos h, if_pos h, if_pos h, if_neg (by decide)]; rfl
    · rw [if_neg h, if_neg h, if_neg h, if_pos rfl]; rfl
  rw [pre]
  unfold f_X3_openElement_L24
  rw [if_pos (h_is hL), h_ahead hL h305 (by omega) h5 h7 hc, ob2_some, P_size (j := 22) (n := tn) hL rfl g1, Option.bind_some, if_pos (h_is hL), h_room hL h305 h1 hz, ob2_some, nI_p, nI_p]
  refine ⟨fun h => ?_, fun h => ?_⟩
  · rw [if_neg (nI_ge (by omega) (by omega))]
  · obtain ⟨J1, B1, b1, e1, k1, k2, k3, k4, k5, k6, k7⟩ := h_start (cy := cy) (μ0 := μ0) (w := w) hL h305 (by omega) h5 h7 hc h1 h2 hB ty g1 g2 g3 g4 hq (by omega)
    rw [if_pos (nI_le (by omega) (by omega)), if_pos (h_is hL), e1, Option.bind_some, h_ref hL (k := 0) rfl, Option.bind_some, P_size (j := 36) hL rfl k1, Option.bind_some, Option.bind_some, if_pos (P_is hL rfl)]
    -- the bytes ahead of the DOCUMENT
    have mid : ∃ J2 B2 b2, (if (if ty = 15 then (1 : Int32) else 0) = 0 then f_X3_openElement_L77 cy (ad 3) ty (ad 22) (nI q) (nI (z + ([b8 ty] ++ (if (t == 4) then rnl c else sl tb 0 q)).length)) (MC cy iv ad μ0 J1 w B1) else (f_X5_appendLowestFirst cy (ad 36) (0 : Int64) 4 (MC cy iv ad μ0 J1 w B1)).bind fun μ124 => f_X3_openElement_L77 cy (ad 3) ty (ad 22) (nI q) (nI (z + ([b8 ty] ++ (if (t == 4) then rnl c else sl tb 0 q)).length)) μ124) = ((if isO (MC cy iv ad μ0 J2 w B2) (ad 3) 2 = true then ((f_X3_openDocument cy (ad 3) ty (nI (z + ([b8 ty] ++ (if (t == 4) then rnl c else sl tb 0 q)).length)) (MC cy iv ad μ0 J2 w B2)).bind fun μ110 => some (1, μ110)) else none)) ∧ GR J1 B1 b1 (z + ([b8 ty] ++ (if (t == 4) then rnl c else sl tb 0 q)).length) (opT ty tb q tn) J2 B2 b2 := by
      unfold f_X3_openElement_L77
      by_cases h15 : ty = 15
      · have ox' : opX ty = 9 := if_pos h15
        have et : opT ty tb q tn = [0, 0, 0, 0] ++ sl tb q tn := by unfold opT; rw [if_pos h15]
        rw [if_pos h15, if_neg (show ¬ (1 : Int32) = 0 by decide)]
        obtain ⟨J2, B2, b2, e2, G2⟩ := h_zero (cy := cy) (μ0 := μ0) (w := w) (J := J1) (B := B1) hL k1 k2 k3 (by omega)
        obtain ⟨J3, B3, b3, e3, G3⟩ := h_part (cy := cy) (μ0 := μ0) (w := w) (J := J2) (B := B2) (k := 22) (m := tn) (p := q) (q := tn) (b1 := tb) hL G2.1 G2.2.1 G2.2.2.1 rfl (by decide) (by rw [G2.2.2.2.2.1 _ (by decide) (by decide), k6 _ (by decide) (by decide)]; exact g1) (by rw [G2.2.2.2.2.2 _ (by decide), k7 _ (by decide) (by decide)]; exact g2) g3 g4 hq (Nat.le_refl _) (by show _ + 4 + _ ≤ _; omega)
        rw [e2, Option.bind_some, h_ref hL (k := 0) rfl, Option.bind_some, P_size (j := 22) (n := tn) hL rfl (by rw [G2.2.2.2.2.1 _ (by decide) (by decide), k6 _ (by decide) (by decide)]; exact g1), Option.bind_some, if_pos (P_is hL rfl), e3, Option.bind_some, et]
        exact ⟨J3, B3, b3, rfl, G2.cat G3⟩
      · have ox' : opX ty = 5 := if_neg h15
        have et : opT ty tb q tn = sl tb q tn := by unfold opT; rw [if_neg h15]; rfl
        rw [if_neg h15, if_pos (show (0 : Int32) = 0 from rfl)]
        obtain ⟨J3, B3, b3, e3, G3⟩ := h_part (cy := cy) (μ0 := μ0) (w := w) (J := J1) (B := B1) (k := 22) (m := tn) (p := q) (q := tn) (b1 := tb) hL k1 k2 k3 rfl (by decide) (by rw [k6 _ (by decide) (by decide)]; exact g1) (by rw [k7 _ (by decide) (by decide)]; exact g2) g3 g4 hq (Nat.le_refl _) (by omega)
        rw [h_ref hL (k := 0) rfl, Option.bind_some, P_size (j := 22) (n := tn) hL rfl (by rw [k6 _ (by decide) (by decide)]; exact g1), Option.bind_some, if_pos (P_is hL rfl), e3, Option.bind_some, et]
        exact ⟨J3, B3, b3, rfl, G3⟩
    obtain ⟨J2, B2, b2, e2, m1, m2, m3, m4, m5, m6⟩ := mid
    rw [e2, if_pos (h_is hL)]
    obtain ⟨J3, B3, b3, e3, n1, n2, n3, n4, n5, n6, n7, n8, n9, n10, n11⟩ := h_openDoc (cy := cy) (μ0 := μ0) (w := w) (J := J2) (B := B2) (o := o + 1) hL (by rw [m5 _ (by decide) (by decide), k6 _ (by decide) (by decide)]; exact h305) ho m1 m2 m3 (by omega) ty (nI (z + ([b8 ty] ++ (if (t == 4) then rnl c else sl tb 0 q)).length))
    rw [e3, Option.bind_some]
    refine ⟨J3, B3, b3, rfl, n1, n2, n3, n4, ?_, by rw [n6, m6 4 (by decide), k7 4 (by decide) (by decide)], by rw [n7, m6 5 (by decide), k7 5 (by decide) (by decide)], by rw [n8, m6 6 (by decide), k7 6 (by decide) (by decide)], by rw [n9, m6 7 (by decide), k5], fun k q1 q2 q3 => by rw [n10 k q1 q2 q3, m5 k q2 q3, k6 k q2 q3], fun k q1 q2 => by rw [n11 k q1 q2, m6 k q2, k7 k q2 (by omega)]⟩
    have x1 := (k4.cat m4)
    rw [Nat.add_assoc, ← List.length_append] at n5
    exact x1.cat n5
/-! the reference -/
theorem z_227 {tb : Nat → Nat} (hW : Lay iw aw) {tn : Nat} (hB : bB tb) (htn : tn ≤ 2000) (hA : ∀ j, j < tn → A 1 j = sx (tb j)) {ty va : Int32} : ∀ (j k f z : Nat) (a : Nat → Int32), k + j = tn → j < f → z + j ≤ 2416 → ∃ a', f_X8_open_L227 cy f (aw 0) ty (nI tn) va (nI k) (MZ cy iw aw μ1 I V A z a) = f_X8_open_L250 cy (aw 0) ty va (MZ cy iw aw μ1 I V A (z + j) a') ∧ EXR a z (sl tb k tn) a'
  | j, k, 0, z, a, _, hf, _ => by omega
  | 0, k, f + 1, z, a, hk, _, hz => by
    have : k = tn := by omega
    subst this
    rw [f_X8_open_L227, if_pos (nI_le (Nat.le_refl _) (by omega)), sl_nil]
    exact ⟨a, rfl, EXR.nil⟩
  | j + 1, k, f + 1, z, a, hk, hf, hz => by
    obtain ⟨a', e1, e2⟩ := z_227 hW hB htn hA j (k + 1) f (z + 1) (upd a z (sx (tb k))) (by omega) (by omega) (by omega)
    have l := m_ld (cy := cy) (μ0 := μ1) (I := upd I 11 (nI z)) (V := V) (A := updG A 10 a) (i := k) hW 1 rfl (by show k < 2000; omega)
    rw [updG_ne (by decide), hA k (by omega)] at l
    rw [f_X8_open_L227, if_neg (nI_ge (by omega) (by omega)), m_ref hW rfl, Option.bind_some, show rdA cy (MR cy iw aw μ1 (upd I 11 (nI z)) V (updG A 10 a)) 0 (aw 1) (nI k) = _ from l, Option.bind_some, if_pos (m_is hW), z_adds hW (by omega), Option.bind_some, nI_a1, b8_sx _ (hB k), e1]
    refine ⟨a', by rw [show z + 1 + j = z + (j + 1) by omega], ?_⟩
    rw [sl_hd (by omega)]
    exact EXR.cat EXR.one e2
theorem z_204 (hW : Lay iw aw) {ty va x2 : Int32} {q : Nat} (h42 : I 42 = nI q) : ∀ (j k f z : Nat) (a : Nat → Int32), k + j = 4 → j < f → z + j ≤ 2416 → ∃ a', f_X8_open_L204 cy f (aw 0) ty x2 va (nI k) (MZ cy iw aw μ1 I V A z a) = f_X8_open_L227 cy FU (aw 0) ty x2 va (nI q) (MZ cy iw aw μ1 I V A (z + j) a') ∧ EXR a z (List.replicate j 0) a'
  | j, k, 0, z, a, _, hf, _ => by omega
  | 0, k, f + 1, z, a, hk, _, _ => by
    have : k = 4 := by omega
    subst this
    have i42 : rdI (MZ cy iw aw μ1 I V A z a) (aw 0) 7 42 = some (nI q) := by rw [← h42]; exact m_int hW rfl
    rw [f_X8_open_L204, if_pos (by decide), i42, Option.bind_some]
    exact ⟨a, rfl, EXR.nil⟩
  | j + 1, k, f + 1, z, a, hk, hf, hz => by
    obtain ⟨a', e1, e2⟩ := z_204 hW h42 j (k + 1) f (z + 1) (upd a z (sx 0)) (by omega) (by omega) (by omega)
    have e0 : b8 0 = 0 := b8_nI (v := 0) (by decide)
    rw [f_X8_open_L204, if_neg (show ¬ (4 : Int32) ≤ nI k from nI_ge (b := 4) (by omega) (by decide)), if_pos (m_is hW), z_adds hW (by omega), Option.bind_some, nI_a1, e0, e1]
    refine ⟨a', by rw [show z + 1 + j = z + (j + 1) by omega], ?_⟩
    have := EXR.cat (EXR.one (a := a) (z := z) (v := 0)) e2
    exact this
theorem z_193 {tb : Nat → Nat} (hW : Lay iw aw) {tn q z : Nat} {a : Nat → Int32} (hB : bB tb) (htn : tn ≤ 2000) (hq : q ≤ tn) (hA : ∀ j, j < tn → A 1 j = sx (tb j)) (h42 : I 42 = nI q) {ty : Int32} (va : Int32) (hn : ¬ ty = 15 → q = tn) (hz : z + (opT ty tb q tn).length ≤ 2416) : ∃ a', f_X8_open_L193 cy (aw 0) ty (nI tn) va (MZ cy iw aw μ1 I V A z a) = f_X8_open_L250 cy (aw 0) ty va (MZ cy iw aw μ1 I V A (z + (opT ty tb q tn).length) a') ∧ EXR a z (opT ty tb q tn) a' := by
  unfold f_X8_open_L193
  by_cases h15 : ty = 15
  · have et : opT ty tb q tn = [0, 0, 0, 0] ++ sl tb q tn := by unfold opT; rw [if_pos h15]
    rw [et] at hz ⊢
    have el : ([0, 0, 0, 0] ++ sl tb q tn).length = 4 + (tn - q) := by rw [List.length_append, sl_len]; rfl
    rw [el] at hz ⊢
    obtain ⟨a1, e1, x1⟩ := z_204 (cy := cy) (μ1 := μ1) (I := I) (V := V) (A := A) (ty := ty) (va := va) (x2 := nI tn) hW h42 4 0 FU z a (by omega) (by decide) (by omega)
    obtain ⟨a2, e2, x2⟩ := z_227 (cy := cy) (μ1 := μ1) (I := I) (V := V) (A := A) (ty := ty) (va := va) hW hB htn hA (tn - q) q FU (z + 4) a1 (by omega) (by show tn - q < 100000; omega) (by omega)
    have e1' : f_X8_open_L204 cy FU (aw 0) ty (nI tn) va 0 (MZ cy iw aw μ1 I V A z a) = _ := e1
    rw [if_pos h15, e1', e2]
    refine ⟨a2, by rw [show z + 4 + (tn - q) = z + (4 + (tn - q)) by omega], ?_⟩
    exact EXR.cat (L1 := [0, 0, 0, 0]) x1 x2
  · have et : opT ty tb q tn = [] := by unfold opT; rw [if_neg h15, hn h15, sl_nil]; rfl
    rw [et, if_neg h15]
    exact ⟨a, rfl, EXR.nil⟩
end KO1
