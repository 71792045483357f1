/-! THE SHEET: an ELEMENT's head and its VALUE are written. -/
section KH4
variable {cy : Nat → ClassId} {iv : Nat → Option Nat} {ad : Nat → Nat} {μ0 : Mem} {J : Nat → Int32} {w : Nat} {B : Nat → Nat → Int32} {z o c : Nat} {b : Nat → Nat} {t : Int32}
theorem h_inRow (hL : Lay6 iv ad) (h305 : J 305 = nI (o + 1)) (ho : o < 24) (h5 : B 5 o = t) : f_X3_isInRow cy (ad 3) (MC cy iv ad μ0 J w B) = some (bI (t == 4), MC cy iv ad μ0 J w B) := by
  unfold f_X3_isInRow f_X3_isInRow_L26
  have l5 := c_ld (cy := cy) (μ0 := μ0) (J := J) (w := w) (B := B) (i := o) hL 5 rfl (by exact ho)
  rw [h5] at l5
  rw [h_o hL, Option.bind_some, h305, if_neg (show ¬ nI (o + 1) ≤ 0 from nI_ge (a := 0) (by omega) (by omega)), h_ref hL (k := 2) rfl, Option.bind_some, Option.bind_some, nI_pr, l5, Option.bind_some]
  by_cases q : t = 4
  · rw [if_pos q, q]; rfl
  · rw [if_neg q, show (t == 4) = false from by rw [beq_eq_false_iff_ne]; exact q]; rfl
theorem h_count (hL : Lay6 iv ad) (h305 : J 305 = nI (o + 1)) (ho : o < 24) (h7 : B 7 o = nI c) : f_X3_innermostCount cy (ad 3) (MC cy iv ad μ0 J w B) = some (nI c, MC cy iv ad μ0 J w B) := by
  unfold f_X3_innermostCount
  have l7 := c_ld (cy := cy) (μ0 := μ0) (J := J) (w := w) (B := B) (i := o) hL 7 rfl (by exact ho)
  rw [h7] at l7
  rw [h_o hL, Option.bind_some, h305, if_neg (show ¬ nI (o + 1) ≤ 0 from nI_ge (a := 0) (by omega) (by omega)), h_ref hL (k := 4) rfl, Option.bind_some, Option.bind_some, nI_pr, l7, Option.bind_some]
theorem h_ahead (hL : Lay6 iv ad) (h305 : J 305 = nI (o + 1)) (ho : o < 24) (h5 : B 5 o = t) (h7 : B 7 o = nI c) (hc : c < 2 ^ 30) : f_X3_bytesAheadOfGiven cy (ad 3) (MC cy iv ad μ0 J w B) = some (nI (if (t == 4) then 2 + dg c else 1), MC cy iv ad μ0 J w B) := by
  unfold f_X3_bytesAheadOfGiven
  rw [if_pos (h_is hL), h_inRow hL h305 ho h5, ob2_some, if_pos (h_is hL), h_count hL h305 ho h7, ob2_some, p_digits hc, ob2_some]
  cases (t == 4) with
  | true => rw [if_neg (show ¬ bI true = 0 by decide), nI_ca 2 2 (by decide +kernel)]; rfl
  | false => rw [if_pos (show bI false = 0 from rfl)]; rfl
theorem h_room (hL : Lay6 iv ad) (h305 : J 305 = nI (o + 1)) (h1 : J 3601 = nI z) (hz : z + (o + 1) ≤ 2400) : f_X3_room cy (ad 3) (MC cy iv ad μ0 J w B) = some (nI (2400 - z - (o + 1)), MC cy iv ad μ0 J w B) := by
  unfold f_X3_room
  rw [h_ref hL (k := 0) rfl, Option.bind_some, P_size (j := 36) (n := z) hL rfl h1, Option.bind_some, h_o hL, Option.bind_some, h305, show (2400 : Int32) = nI 2400 by decide +kernel, nI_sub' (by omega), nI_sub' (by omega)]
/-- an ELEMENT's head: type, name; one more is counted -/
theorem h_start (hL : Lay6 iv ad) (h305 : J 305 = nI (o + 1)) (ho : o < 24) (h5 : B 5 o = t) (h7 : B 7 o = nI c) (hc : c < 2 ^ 30) (h1 : J 3601 = nI z) (h2 : B 37 = hb b) (hB : bB b) (ty : Int32) {tn q : Nat} {tb : Nat → Nat} (g1 : J 2201 = nI tn) (g2 : B 23 = hb tb) (g3 : bB tb) (g4 : tn ≤ 2000) (hq : q ≤ tn) (hz : z + ([b8 ty] ++ (if (t == 4) then rnl c else sl tb 0 q)).length ≤ 2400) :
    ∃ J' B' b', f_X3_startElement cy (ad 3) ty (ad 22) (nI q) (MC cy iv ad μ0 J w B) = some (MC cy iv ad μ0 J' w B') ∧ J' 3601 = nI (z + ([b8 ty] ++ (if (t == 4) then rnl c else sl tb 0 q)).length) ∧ B' 37 = hb b' ∧ bB b' ∧ EX b z ([b8 ty] ++ (if (t == 4) then rnl c else sl tb 0 q)) b' ∧ B' 7 = upd (B 7) o (nI (c + 1)) ∧ (∀ k, k ≠ 3601 → k ≠ 3602 → J' k = J k) ∧ ∀ k, k ≠ 37 → k ≠ 7 → B' k = B k := by
  rw [List.length_append] at hz
  have hz1 : z + 1 ≤ 2400 := by have : [b8 ty].length = 1 := rfl; omega
  unfold f_X3_startElement
  obtain ⟨J1, B1, b1, e1, G1⟩ := h_append (cy := cy) (μ0 := μ0) (w := w) hL h1 h2 hB (by omega) ty
  have a305 : J1 305 = nI (o + 1) := by rw [G1.2.2.2.2.1 _ (by decide) (by decide)]; exact h305
  rw [h_ref hL (k := 0) rfl, Option.bind_some, if_pos (P_is hL rfl), e1, Option.bind_some, if_pos (h_is hL), h_inRow (t := t) hL a305 ho (by rw [G1.2.2.2.2.2 5 (by decide)]; exact h5), ob2_some, h_ref hL (k := 0) rfl, Option.bind_some, Option.bind_some, if_pos (P_is hL rfl), if_pos (h_is hL), h_count (c := c) hL a305 ho (by rw [G1.2.2.2.2.2 7 (by decide)]; exact h7), ob2_some, if_pos (P_is hL rfl)]
  have key : ∃ J2 B2 b2, (if bI (t == 4) = 0 then (f_X5_appendPart cy (ad 36) (ad 22) 0 (nI q) (MC cy iv ad μ0 J1 w B1)).bind (fun μ15 => f_X3_startElement_L39 cy (ad 3) μ15) else (f_X5_appendRowName cy (ad 36) (nI c) (MC cy iv ad μ0 J1 w B1)).bind fun μ24 => f_X3_startElement_L39 cy (ad 3) μ24) = f_X3_startElement_L39 cy (ad 3) (MC cy iv ad μ0 J2 w B2) ∧ GR J B b z ([b8 ty] ++ (if (t == 4) then rnl c else sl tb 0 q)) J2 B2 b2 := by
    have l1 : [b8 ty].length = 1 := rfl
    cases et : (t == 4) with
    | true =>
      rw [et] at hz
      have hz : z + (1 + (rnl c).length) ≤ 2400 := hz
      rw [rnl_len] at hz
      obtain ⟨J2, B2, b2, e2, G2⟩ := h_row (cy := cy) (μ0 := μ0) (w := w) (z := z + 1) hL G1.1 G1.2.1 G1.2.2.1 hc (by omega)
      rw [if_neg (show ¬ bI true = 0 by decide), e2, Option.bind_some]
      exact ⟨J2, B2, b2, rfl, G1.cat G2⟩
    | false =>
      rw [et] at hz
      have hz : z + (1 + (sl tb 0 q).length) ≤ 2400 := hz
      rw [sl_len] at hz
      obtain ⟨J2, B2, b2, e2, G2⟩ := h_part (cy := cy) (μ0 := μ0) (w := w) (z := z + 1) (k := 22) (m := tn) (p := 0) (q := q) (b1 := tb) hL G1.1 G1.2.1 G1.2.2.1 rfl (by decide) (by rw [G1.2.2.2.2.1 _ (by decide) (by decide)]; exact g1) (by rw [G1.2.2.2.2.2 _ (by decide)]; exact g2) g3 g4 (Nat.zero_le _) hq (by omega)
      have e2' : f_X5_appendPart cy (ad 36) (ad 22) 0 (nI q) (MC cy iv ad μ0 J1 w B1) = _ := e2
      rw [if_pos (show bI false = 0 from rfl), e2', Option.bind_some]
      exact ⟨J2, B2, b2, rfl, G1.cat G2⟩
  obtain ⟨J2, B2, b2, e2, G2⟩ := key
  rw [e2]
  obtain ⟨k1, k2, k3, k4, k5, k6⟩ := G2
  unfold f_X3_startElement_L39
  have c305 : J2 305 = nI (o + 1) := by rw [k5 _ (by decide) (by decide)]; exact h305
  have l7 := c_ld (cy := cy) (μ0 := μ0) (J := J2) (w := w) (B := B2) (i := o) hL 7 rfl (by exact ho)
  rw [k6 7 (by decide), h7] at l7
  have s7 := c_st (cy := cy) (μ0 := μ0) (J := J2) (w := w) (B := B2) (i := o) hL 7 rfl (by exact ho) (nI (c + 1))
  rw [k6 7 (by decide)] at s7
  rw [h_o hL, Option.bind_some, c305, if_neg (show ¬ nI (o + 1) ≤ 0 from nI_ge (a := 0) (by omega) (by omega)), h_ref hL (k := 4) rfl, Option.bind_some, Option.bind_some, nI_pr, l7, Option.bind_some, nI_a1, s7, Option.bind_some]
  exact ⟨J2, _, b2, rfl, k1, by rw [updG_ne (by decide)]; exact k2, k3, k4, updG_self, k5, fun k q1 q2 => by rw [updG_ne q2, k6 k q1]⟩
/-- an ELEMENT is written, or there is no room -/
theorem h_add (hL : Lay6 iv ad) (h305 : J 305 = nI (o + 1)) (ho : o < 24) (h5 : B 5 o = t) (h7 : B 7 o = nI c) (hc : c < 2 ^ 30) (h1 : J 3601 = nI z) (h2 : B 37 = hb b) (hB : bB b) (hz : z + (o + 1) ≤ 2400) (ty : Int32) {tn q : Nat} {tb : Nat → Nat} (g1 : J 2201 = nI tn) (g2 : B 23 = hb tb) (g3 : bB tb) (g4 : tn ≤ 2000) (hq : q ≤ tn) (hq0 : (t == 4) = true → q = 0) :
    (2400 < z + (if (t == 4) then 2 + dg c else 1) + tn + (o + 1) → f_X3_addElement cy (ad 3) ty (ad 22) (nI q) (MC cy iv ad μ0 J w B) = some (0, MC cy iv ad μ0 J w B)) ∧
    (z + (if (t == 4) then 2 + dg c else 1) + tn + (o + 1) ≤ 2400 → ∃ J' B' b', f_X3_addElement cy (ad 3) ty (ad 22) (nI q) (MC cy iv ad μ0 J w B) = some (1, MC cy iv ad μ0 J' w B') ∧ J' 3601 = nI (z + (if (t == 4) then 2 + dg c else 1) + tn) ∧ B' 37 = hb b' ∧ bB b' ∧ EX b z ([b8 ty] ++ (if (t == 4) then rnl c else sl tb 0 q) ++ sl tb q tn) b' ∧ B' 7 = upd (B 7) o (nI (c + 1)) ∧ (∀ k, k ≠ 3601 → k ≠ 3602 → J' k = J k) ∧ ∀ k, k ≠ 37 → k ≠ 7 → B' k = B k) := by
  have hdg := dg_le c
  have hh : (if (t == 4) then 2 + dg c else 1) ≤ 12 := by split <;> omega
  unfold f_X3_addElement
  rw [if_pos (h_is hL), h_ahead hL h305 ho h5 h7 hc, ob2_some, P_size (j := 22) (n := tn) hL rfl g1, Option.bind_some, if_pos (h_is hL), h_room hL h305 h1 hz, ob2_some, nI_p]
  refine ⟨fun h => ?_, fun h => ?_⟩
  · rw [if_neg (nI_ge (by omega) (by omega))]
  · have len : ([b8 ty] ++ (if (t == 4) then rnl c else sl tb 0 q)).length + (tn - q) = (if (t == 4) then 2 + dg c else 1) + tn := by
      rw [List.length_append]
      show 1 + _ + _ = _
      cases et : (t == 4) with
      | true =>
        have := hq0 et
        show 1 + (rnl c).length + (tn - q) = 2 + dg c + tn
        rw [rnl_len]
        omega
      | false =>
        show 1 + (sl tb 0 q).length + (tn - q) = 1 + tn
        rw [sl_len]
        omega
    obtain ⟨J1, B1, b1, e1, k1, k2, k3, k4, k5, k6, k7⟩ := h_start (cy := cy) (μ0 := μ0) (w := w) hL h305 ho h5 h7 hc h1 h2 hB ty g1 g2 g3 g4 hq (by omega)
    obtain ⟨J2, B2, b2, e2, m1, m2, m3, m4, m5, m6⟩ := h_part (cy := cy) (μ0 := μ0) (w := w) (J := J1) (B := B1) (k := 22) (m := tn) (p := q) (q := tn) (b1 := tb) hL k1 k2 k3 rfl (by decide) (by rw [k6 _ (by decide) (by decide)]; exact g1) (by rw [k7 _ (by decide) (by decide)]; exact g2) g3 g4 hq (Nat.le_refl _) (by omega)
    rw [if_pos (nI_le (by omega) (by omega)), if_pos (h_is hL), e1, Option.bind_some, h_ref hL (k := 0) rfl, Option.bind_some, P_size (j := 22) (n := tn) hL rfl (by rw [k6 _ (by decide) (by decide)]; exact g1), Option.bind_some, if_pos (P_is hL rfl), e2, Option.bind_some]
    refine ⟨J2, B2, b2, rfl, ?_, m2, m3, k4.cat m4, by rw [m6 7 (by decide)]; exact k5, fun k q1 q2 => by rw [m5 k q1 q2, k6 k q1 q2], fun k q1 q2 => by rw [m6 k q1, k7 k q1 q2]⟩
    rw [m1, sl_len]
    congr 1
    omega
end KH4
section KH5
variable {cy : Nat → ClassId} {iw : Nat → Option Nat} {aw : Nat → Nat} {μ1 : Mem} {I : Nat → Int32} {V : Nat → Value} {A : Nat → Nat → Int32} {o c : Nat} {t : Int32} {tb : Nat → Nat}
theorem sl_hd {f : Nat → Nat} {p q : Nat} (h : p < q) : sl f p q = [f p] ++ sl f (p + 1) q := by
  rw [← sl_one, sl_cat (by omega) (by omega)]
theorem z_93 (hW : Lay iw aw) (ho : o < 25) {z : Nat} {a : Nat → Int32} (h16 : A 16 o = nI c) : f_X8_heads_L93 cy (aw 0) (nI o) (MZ cy iw aw μ1 I V A z a) = some (MZ cy iw aw μ1 I V (updG A 16 (upd (A 16) o (nI (c + 1)))) z a) := by
  unfold f_X8_heads_L93
  have l := m_ld (cy := cy) (μ0 := μ1) (I := upd I 11 (nI z)) (V := V) (A := updG A 10 a) (i := o) hW 16 rfl ho
  rw [updG_ne (by decide), h16] at l
  have st := m_st (cy := cy) (μ0 := μ1) (I := upd I 11 (nI z)) (V := V) (A := updG A 10 a) (i := o) hW 16 rfl ho (nI (c + 1))
  rw [updG_ne (by decide), updG_cm (show 10 ≠ 16 by decide)] at st
  rw [m_ref hW rfl, Option.bind_some, show rdA cy (MR cy iw aw μ1 (upd I 11 (nI z)) V (updG A 10 a)) 1 (aw 16) (nI o) = _ from l, Option.bind_some, nI_a1, show wrA cy (MR cy iw aw μ1 (upd I 11 (nI z)) V (updG A 10 a)) 1 (aw 16) (nI o) (nI (c + 1)) = _ from st, Option.bind_some]
theorem z_36 (hW : Lay iw aw) {g : Nat → Nat} {d : Nat} (hg : bB g) (hd : d ≤ 12) (h20 : ∀ j, j < d → A 20 j = sx (g j)) : ∀ (j k f z : Nat) (a : Nat → Int32), k + j = d → j < f → z + j < 2416 → ∃ a', f_X8_heads_L36 cy f (aw 0) (nI o) (nI d) (nI k) (MZ cy iw aw μ1 I V A z a) = f_X8_heads_L93 cy (aw 0) (nI o) (MZ cy iw aw μ1 I V A (z + j + 1) a') ∧ EXR a z (sl g k d ++ [0]) a'
  | j, k, 0, z, a, _, hf, _ => by omega
  | 0, k, f + 1, z, a, hk, _, hz => by
    have : k = d := by omega
    subst this
    have e0 : b8 0 = 0 := b8_nI (v := 0) (by decide)
    rw [f_X8_heads_L36, if_pos (nI_le (Nat.le_refl _) (by omega)), if_pos (m_is hW), z_adds hW (by omega), Option.bind_some, e0, sl_nil]
    exact ⟨_, rfl, EXR.one⟩
  | j + 1, k, f + 1, z, a, hk, hf, hz => by
    obtain ⟨a', e1, e2⟩ := z_36 hW hg hd h20 j (k + 1) f (z + 1) (upd a z (sx (g k))) (by omega) (by omega) (by omega)
    have l := m_ld (cy := cy) (μ0 := μ1) (I := upd I 11 (nI z)) (V := V) (A := updG A 10 a) (i := k) hW 20 rfl (by show k < 12; omega)
    rw [updG_ne (by decide), h20 k (by omega)] at l
    rw [f_X8_heads_L36, if_neg (nI_ge (by omega) (by omega)), m_ref hW rfl, Option.bind_some, show rdA cy (MR cy iw aw μ1 (upd I 11 (nI z)) V (updG A 10 a)) 0 (aw 20) (nI k) = _ from l, Option.bind_some, if_pos (m_is hW), z_adds hW (by omega), Option.bind_some, nI_a1, b8_sx _ (hg k), e1]
    refine ⟨a', by rw [show z + 1 + j + 1 = z + (j + 1) + 1 by omega], ?_⟩
    rw [sl_hd (by omega), List.append_assoc]
    exact EXR.cat EXR.one e2
theorem z_69 (hW : Lay iw aw) {q tn : Nat} (hB : bB tb) (htn : tn ≤ 2000) (hq : q ≤ tn) (hA : ∀ j, j < tn → A 1 j = sx (tb j)) (h42 : I 42 = nI q) : ∀ (j k f z : Nat) (a : Nat → Int32), k + j = q → j < f → z + j ≤ 2416 → ∃ a', f_X8_heads_L69 cy f (aw 0) (nI o) (nI k) (MZ cy iw aw μ1 I V A z a) = f_X8_heads_L93 cy (aw 0) (nI o) (MZ cy iw aw μ1 I V A (z + j) a') ∧ EXR a z (sl tb k q) a'
  | j, k, 0, z, a, _, hf, _ => by omega
  | 0, k, f + 1, z, a, hk, _, hz => by
    have : k = q := by omega
    subst this
    have i42 : rdI (MZ cy iw aw μ1 I V A z a) (aw 0) 7 42 = some (nI k) := by rw [← h42]; exact m_int hW rfl
    rw [f_X8_heads_L69, i42, Option.bind_some, if_pos (nI_le (Nat.le_refl _) (by omega)), sl_nil]
    exact ⟨a, rfl, EXR.nil⟩
  | j + 1, k, f + 1, z, a, hk, hf, hz => by
    obtain ⟨a', e1, e2⟩ := z_69 hW hB htn hq hA h42 j (k + 1) f (z + 1) (upd a z (sx (tb k))) (by omega) (by omega) (by omega)
    have i42 : rdI (MZ cy iw aw μ1 I V A z a) (aw 0) 7 42 = some (nI q) := by rw [← h42]; exact m_int hW rfl
    have l := m_ld (cy := cy) (μ0 := μ1) (I := upd I 11 (nI z)) (V := V) (A := updG A 10 a) (i := k) hW 1 rfl (by show k < 2000; omega)
    rw [updG_ne (by decide), hA k (by omega)] at l
    rw [f_X8_heads_L69, i42, Option.bind_some, if_neg (nI_ge (by omega) (by omega)), m_ref hW rfl, Option.bind_some, show rdA cy (MR cy iw aw μ1 (upd I 11 (nI z)) V (updG A 10 a)) 0 (aw 1) (nI k) = _ from l, Option.bind_some, if_pos (m_is hW), z_adds hW (by omega), Option.bind_some, nI_a1, b8_sx _ (hB k), e1]
    refine ⟨a', by rw [show z + 1 + j = z + (j + 1) by omega], ?_⟩
    rw [sl_hd (by omega)]
    exact EXR.cat EXR.one e2
theorem z_dec (hW : Lay iw aw) {v : Nat} (hv : v < 2 ^ 30) (I : Nat → Int32) (A : Nat → Nat → Int32) : ∃ G', f_X8_decimals cy (aw 0) (nI v) (MR cy iw aw μ1 I V A) = some (nI (dg v), MR cy iw aw μ1 I V (updG A 20 G')) ∧ ∀ j, j < dg v → G' j = sx (fig v (dg v - 1 - j)) := by
  have := m_decimals (cy := cy) (μ0 := μ1) (I := I) (V := V) (A := A) hW hv (A 20)
  rw [updG_id] at this
  exact this
/-- the reference writes an ELEMENT's head -/
theorem z_heads (hW : Lay iw aw) (h13 : I 13 = nI (o + 1)) (ho : o < 25) (h15 : A 15 o = t) (h16 : A 16 o = nI c) (hc : c < 2 ^ 30) {q tn z : Nat} {a : Nat → Int32} (hB : bB tb) (htn : tn ≤ 2000) (hq : q ≤ tn) (hA : ∀ j, j < tn → A 1 j = sx (tb j)) (h42 : I 42 = nI q) (ty : Int32) (hz : z + ([b8 ty] ++ (if (t == 4) then rnl c else sl tb 0 q)).length ≤ 2416) :
    ∃ G' a', f_X8_heads cy (aw 0) ty (MZ cy iw aw μ1 I V A z a) = some (MZ cy iw aw μ1 I V (updG (updG A 20 G') 16 (upd (A 16) o (nI (c + 1)))) (z + ([b8 ty] ++ (if (t == 4) then rnl c else sl tb 0 q)).length) a') ∧ EXR a z ([b8 ty] ++ (if (t == 4) then rnl c else sl tb 0 q)) a' := by
  rw [List.length_append] at hz ⊢
  have l1 : [b8 ty].length = 1 := rfl
  rw [l1] at hz ⊢
  unfold f_X8_heads
  have i13 : rdI (MZ cy iw aw μ1 I V A (z + 1) (upd a z (sx (b8 ty)))) (aw 0) 7 13 = some (nI (o + 1)) := by rw [← h13]; exact m_int hW rfl
  have l15 := m_ld (cy := cy) (μ0 := μ1) (I := upd I 11 (nI (z + 1))) (V := V) (A := updG A 10 (upd a z (sx (b8 ty)))) (i := o) hW 15 rfl ho
  rw [updG_ne (by decide), h15] at l15
  have l16 := m_ld (cy := cy) (μ0 := μ1) (I := upd I 11 (nI (z + 1))) (V := V) (A := updG A 10 (upd a z (sx (b8 ty)))) (i := o) hW 16 rfl ho
  rw [updG_ne (by decide), h16] at l16
  rw [if_pos (m_is hW), z_adds hW (by omega), Option.bind_some, i13, Option.bind_some, m_ref hW (k := 15) rfl, Option.bind_some, nI_pr, show rdA cy (MR cy iw aw μ1 (upd I 11 (nI (z + 1))) V (updG A 10 (upd a z (sx (b8 ty))))) 1 (aw 15) (nI o) = _ from l15, Option.bind_some]
  by_cases q4 : t = 4
  · have et : (t == 4) = true := by rw [q4]; rfl
    rw [et] at hz ⊢
    have hz : z + (1 + (rnl c).length) ≤ 2416 := hz
    rw [rnl_len] at hz
    have hdg := dg_le c
    obtain ⟨G', d1, d2⟩ := z_dec (cy := cy) (μ1 := μ1) (V := V) hW hc (upd I 11 (nI (z + 1))) (updG A 10 (upd a z (sx (b8 ty))))
    rw [updG_cm (show 10 ≠ 20 by decide)] at d1
    obtain ⟨a', e1, e2⟩ := z_36 (cy := cy) (μ1 := μ1) (I := I) (V := V) (A := updG A 20 G') (o := o) (g := rnm c) (d := dg c) hW (rnm_bB c) (by omega) (fun j hj => by
      rw [updG_self, d2 j hj]
      unfold rnm
      rw [if_pos hj]) (dg c) 0 FU (z + 1) (upd a z (sx (b8 ty))) (by omega) (by show dg c < 100000; omega) (by omega)
    have e1' : f_X8_heads_L36 cy FU (aw 0) (nI o) (nI (dg c)) 0 (MR cy iw aw μ1 (upd I 11 (nI (z + 1))) V (updG (updG A 20 G') 10 (upd a z (sx (b8 ty))))) = _ := e1
    rw [if_pos q4, m_ref hW (k := 16) rfl, Option.bind_some, show rdA cy (MR cy iw aw μ1 (upd I 11 (nI (z + 1))) V (updG A 10 (upd a z (sx (b8 ty))))) 1 (aw 16) (nI o) = _ from l16, Option.bind_some, if_pos (m_is hW), d1, ob2_some, e1', z_93 hW ho (c := c) (by rw [updG_ne (by decide)]; exact h16), updG_ne (show 16 ≠ 20 by decide)]
    have er : sl (rnm c) 0 (dg c) ++ [0] = rnl c := by
      have : sl (rnm c) (dg c) (dg c + 1) = [0] := by
        rw [sl_one]
        unfold rnm
        rw [if_neg (by omega)]
      rw [← this, sl_cat (by omega) (by omega)]
      unfold sl rnl
      refine List.map_congr_left (fun i hi => ?_)
      rw [Nat.zero_add]
    rw [er] at e2
    refine ⟨G', a', ?_, EXR.cat EXR.one e2⟩
    show some (MZ cy iw aw μ1 I V (updG (updG A 20 G') 16 (upd (A 16) o (nI (c + 1)))) (z + 1 + dg c + 1) a') = some (MZ cy iw aw μ1 I V (updG (updG A 20 G') 16 (upd (A 16) o (nI (c + 1)))) (z + (1 + (rnl c).length)) a')
    rw [rnl_len, show z + 1 + dg c + 1 = z + (1 + (dg c + 1)) by omega]
  · have et : (t == 4) = false := by rw [beq_eq_false_iff_ne]; exact q4
    rw [et] at hz ⊢
    have hz : z + (1 + (sl tb 0 q).length) ≤ 2416 := hz
    rw [sl_len] at hz
    obtain ⟨a', e1, e2⟩ := z_69 (cy := cy) (μ1 := μ1) (I := I) (V := V) (A := A) (o := o) hW hB htn hq hA h42 q 0 FU (z + 1) (upd a z (sx (b8 ty))) (by omega) (by show q < 100000; omega) (by omega)
    have e1' : f_X8_heads_L69 cy FU (aw 0) (nI o) 0 (MR cy iw aw μ1 (upd I 11 (nI (z + 1))) V (updG A 10 (upd a z (sx (b8 ty))))) = _ := e1
    rw [if_neg q4, e1', z_93 hW ho h16]
    refine ⟨A 20, a', ?_, EXR.cat EXR.one e2⟩
    rw [updG_id]
    show some (MZ cy iw aw μ1 I V (updG A 16 (upd (A 16) o (nI (c + 1)))) (z + 1 + q) a') = some (MZ cy iw aw μ1 I V (updG A 16 (upd (A 16) o (nI (c + 1)))) (z + (1 + (sl tb 0 q).length)) a')
    rw [sl_len, show z + 1 + q = z + (1 + (q - 0)) by omega]
theorem z_headSize (hW : Lay iw aw) (h13 : I 13 = nI (o + 1)) (ho : o < 25) (h15 : A 15 o = t) (h16 : A 16 o = nI c) (hc : c < 2 ^ 30) {q : Nat} (h42 : I 42 = nI q) : ∃ G', f_X8_headSize cy (aw 0) (MR cy iw aw μ1 I V A) = some (nI (1 + (if (t == 4) then dg c + 1 else q)), MR cy iw aw μ1 I V (updG A 20 G')) := by
  unfold f_X8_headSize f_X8_headSize_L40
  have i13 : rdI (MR cy iw aw μ1 I V A) (aw 0) 7 13 = some (nI (o + 1)) := by rw [← h13]; exact m_int hW rfl
  have i42 : rdI (MR cy iw aw μ1 I V A) (aw 0) 7 42 = some (nI q) := by rw [← h42]; exact m_int hW rfl
  have l15 := m_ld (cy := cy) (μ0 := μ1) (I := I) (V := V) (A := A) (i := o) hW 15 rfl ho
  rw [h15] at l15
  have l16 := m_ld (cy := cy) (μ0 := μ1) (I := I) (V := V) (A := A) (i := o) hW 16 rfl ho
  rw [h16] at l16
  rw [m_ref hW (k := 15) rfl, Option.bind_some, i13, Option.bind_some, nI_pr, show rdA cy (MR cy iw aw μ1 I V A) 1 (aw 15) (nI o) = _ from l15, Option.bind_some]
  by_cases q4 : t = 4
  · have et : (t == 4) = true := by rw [q4]; rfl
    obtain ⟨G', d1, d2⟩ := z_dec (cy := cy) (μ1 := μ1) (V := V) hW hc I A
    rw [if_pos q4, m_ref hW (k := 16) rfl, Option.bind_some, Option.bind_some, nI_pr, show rdA cy (MR cy iw aw μ1 I V A) 1 (aw 16) (nI o) = _ from l16, Option.bind_some, if_pos (m_is hW), d1, ob2_some, nI_a1, nI_ca 1 1 (by decide +kernel), et]
    exact ⟨G', rfl⟩
  · have et : (t == 4) = false := by rw [beq_eq_false_iff_ne]; exact q4
    rw [if_neg q4, i42, Option.bind_some, nI_ca 1 1 (by decide +kernel), et]
    exact ⟨A 20, by rw [updG_id]; rfl⟩
theorem z_160 (hW : Lay iw aw) {tn : Nat} (hB : bB tb) (htn : tn ≤ 2000) (hA : ∀ j, j < tn → A 1 j = sx (tb j)) : ∀ (j k f z : Nat) (a : Nat → Int32), k + j = tn → j < f → z + j ≤ 2416 → ∃ a', f_X8_write_L160 cy f (aw 0) (nI tn) (nI k) (MZ cy iw aw μ1 I V A z a) = some (nI (z + j), MZ cy iw aw μ1 I V A (z + j) a') ∧ EXR a z (sl tb k tn) a'
  | j, k, 0, z, a, _, hf, _ => by omega
  | 0, k, f + 1, z, a, hk, _, hz => by
    have : k = tn := by omega
    subst this
    have i11 : rdI (MZ cy iw aw μ1 I V A z a) (aw 0) 7 11 = some (nI z) := m_int hW rfl
    rw [f_X8_write_L160, if_pos (nI_le (Nat.le_refl _) (by omega)), i11, Option.bind_some, sl_nil]
    exact ⟨a, rfl, EXR.nil⟩
  | j + 1, k, f + 1, z, a, hk, hf, hz => by
    obtain ⟨a', e1, e2⟩ := z_160 hW hB htn hA j (k + 1) f (z + 1) (upd a z (sx (tb k))) (by omega) (by omega) (by omega)
    have l := m_ld (cy := cy) (μ0 := μ1) (I := upd I 11 (nI z)) (V := V) (A := updG A 10 a) (i := k) hW 1 rfl (by show k < 2000; omega)
    rw [updG_ne (by decide), hA k (by omega)] at l
    rw [f_X8_write_L160, if_neg (nI_ge (by omega) (by omega)), m_ref hW rfl, Option.bind_some, show rdA cy (MR cy iw aw μ1 (upd I 11 (nI z)) V (updG A 10 a)) 0 (aw 1) (nI k) = _ from l, Option.bind_some, if_pos (m_is hW), z_adds hW (by omega), Option.bind_some, nI_a1, b8_sx _ (hB k), e1]
    refine ⟨a', by rw [show z + 1 + j = z + (j + 1) by omega], ?_⟩
    rw [sl_hd (by omega)]
    exact EXR.cat EXR.one e2
end KH5
