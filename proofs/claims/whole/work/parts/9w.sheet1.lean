/-! THE CALLS: sheet, sheetAt; the sheet's pieces. -/
section KH1
variable {cy : Nat → ClassId} {iv : Nat → Option Nat} {ad : Nat → Nat} {μ0 : Mem} {J : Nat → Int32} {w : Nat} {B : Nat → Nat → Int32} {iw : Nat → Option Nat} {aw : Nat → Nat} {μ1 : Mem} {I : Nat → Int32} {V : Nat → Value} {A : Nat → Nat → Int32}
theorem h_is (hL : Lay6 iv ad) : isO (MC cy iv ad μ0 J w B) (ad 3) 2 = true := isO_mk (c_h hL)
theorem h_ref (hL : Lay6 iv ad) {k x : Nat} (h : (fH ad J)[k]? = some (.ref x)) : rdR (MC cy iv ad μ0 J w B) (ad 3) 2 k = some x := rdR_mk (c_h hL) h
theorem h_int (hL : Lay6 iv ad) {k : Nat} {x : Int32} (h : (fH ad J)[k]? = some (.int x)) : rdI (MC cy iv ad μ0 J w B) (ad 3) 2 k = some x := rdI_mk (c_h hL) h
theorem h_o (hL : Lay6 iv ad) : rdI (MC cy iv ad μ0 J w B) (ad 3) 2 5 = some (J 305) := h_int hL rfl
theorem h_t (hL : Lay6 iv ad) : rdI (MC cy iv ad μ0 J w B) (ad 3) 2 6 = some (J 306) := h_int hL rfl
theorem r_i (hW : Lay iw aw) (k : Nat) (h : (fl8 aw I V)[k]? = some (.int (I k))) : rdI (MR cy iw aw μ1 I V A) (aw 0) 7 k = some (I k) := m_int hW h
theorem k_sheet (hL : Lay6 iv ad) (hW : Lay iw aw) (R : REL J B I A) (x : Int32) : ANZ cy iv ad μ0 iw aw μ1 (f_X6_sheet cy (ad 0) x (MC cy iv ad μ0 J w B)) (f_X8_sheet cy (aw 0) x (MR cy iw aw μ1 I V A)) := by
  obtain ⟨z, b, a1, a2, a3, a4⟩ := R.2.2.2.2.2.2.2.2
  unfold f_X6_sheet f_X8_sheet f_X8_sheet_L14
  rw [m_put hW rfl (by decide), Option.bind_some]
  by_cases hx : x.toInt < 0 ∨ 3 < x.toInt
  · rw [if_pos hx]
    by_cases c1 : x < 0
    · rw [if_pos c1]
      exact ⟨_, _, _, _, _, _, _, rfl, rfl, R.i0⟩
    · have c1' : ¬ x.toInt < 0 := fun q => c1 (Int32.lt_iff_toInt_lt.mpr q)
      rw [if_neg c1, if_neg (fun q => by
        have q1 : x.toInt ≤ 3 := Int32.le_iff_toInt_le.mp q
        omega)]
      exact ⟨_, _, _, _, _, _, _, rfl, rfl, R.i0⟩
  · obtain ⟨k, k1, k2, rfl⟩ := i32_of (x := x) (lo := 0) (hi := 3) (fun q => hx (Or.inl q)) (fun q => hx (Or.inr q)) (by decide)
    have i12 : rdI (MR cy iw aw μ1 (upd I 0 0) V A) (aw 0) 7 12 = some (I 12) := m_int hW rfl
    rw [if_neg hx, if_neg (show ¬ nI k < 0 from nI_nlt (b := 0) (Nat.zero_le _) (by omega)), if_pos (show nI k ≤ 3 from nI_le (b := 3) k2 (by decide)), i12, Option.bind_some, g_ref hL (k := 6) rfl, Option.bind_some, Option.bind_some, Option.bind_some, Option.bind_some, if_pos (h_is hL), if_pos (h_is hL)]
    rcases a4 with ⟨b1, b2, b3, b4⟩ | ⟨b1, b2, o, D, t, v, c, b3, b4, b5, b6, b7, b8, b9⟩
    · rw [if_pos b4]
      match k, k2 with
      | 0, _ =>
        unfold f_X3_state
        rw [if_pos (show nI 0 = 0 from rfl), h_t hL, Option.bind_some, if_pos b1, ob2_some]
        exact ⟨_, _, _, _, _, _, _, rfl, rfl, R.i0⟩
      | 1, _ =>
        rw [if_neg (show ¬ nI 1 = 0 by decide), if_pos (show nI 1 = 1 from rfl), h_ref hL (k := 0) rfl, Option.bind_some, P_size (j := 36) (n := z) hL rfl a1, Option.bind_some, b3]
        exact ⟨_, _, _, _, _, _, _, rfl, rfl, R.i0⟩
      | 2, _ =>
        rw [if_neg (show ¬ nI 2 = 0 by decide), if_neg (show ¬ nI 2 = 1 by decide), if_pos (show nI 2 = 2 from rfl), h_o hL, Option.bind_some, b2]
        exact ⟨_, _, _, _, _, _, _, rfl, rfl, R.i0⟩
      | 3, _ =>
        unfold f_X3_innermostCount
        rw [if_neg (show ¬ nI 3 = 0 by decide), if_neg (show ¬ nI 3 = 1 by decide), if_neg (show ¬ nI 3 = 2 by decide), if_pos (show nI 3 = 3 from rfl), h_o hL, Option.bind_some, b2, if_pos (by decide), ob2_some]
        exact ⟨_, _, _, _, _, _, _, rfl, rfl, R.i0⟩
    · have i13 : rdI (MR cy iw aw μ1 (upd I 0 0) V A) (aw 0) 7 13 = some (nI o) := by rw [← b4]; exact m_int hW rfl
      have i11 : rdI (MR cy iw aw μ1 (upd I 0 0) V A) (aw 0) 7 11 = some (nI z) := by rw [← b5]; exact m_int hW rfl
      have ho := b9.1
      rw [if_neg (show ¬ I 12 = 0 by rw [b2]; decide)]
      match k, k2 with
      | 0, _ =>
        unfold f_X3_state
        rw [if_pos (show nI 0 = 0 from rfl), if_neg (show ¬ ((nI 0).toInt < 0 ∨ 2 < (nI 0).toInt) by decide), if_pos (show nI 0 = 0 from rfl), h_t hL, Option.bind_some, if_neg (by rw [b1]; decide), h_o hL, Option.bind_some, b3, i13, Option.bind_some]
        by_cases q : nI o ≤ 0
        · rw [if_pos q, if_pos q, ob2_some]
          exact ⟨_, _, _, _, _, _, _, rfl, rfl, R.i0⟩
        · rw [if_neg q, if_neg q, ob2_some]
          exact ⟨_, _, _, _, _, _, _, rfl, rfl, R.i0⟩
      | 1, _ =>
        rw [if_neg (show ¬ nI 1 = 0 by decide), if_pos (show nI 1 = 1 from rfl), if_neg (show ¬ ((nI 1).toInt < 0 ∨ 2 < (nI 1).toInt) by decide), if_neg (show ¬ nI 1 = 0 by decide), if_pos (show nI 1 = 1 from rfl), h_ref hL (k := 0) rfl, Option.bind_some, P_size (j := 36) (n := z) hL rfl a1, Option.bind_some, i11, Option.bind_some]
        exact ⟨_, _, _, _, _, _, _, rfl, rfl, R.i0⟩
      | 2, _ =>
        rw [if_neg (show ¬ nI 2 = 0 by decide), if_neg (show ¬ nI 2 = 1 by decide), if_pos (show nI 2 = 2 from rfl), if_neg (show ¬ ((nI 2).toInt < 0 ∨ 2 < (nI 2).toInt) by decide), if_neg (show ¬ nI 2 = 0 by decide), if_neg (show ¬ nI 2 = 1 by decide), if_pos (show nI 2 = 2 from rfl), h_o hL, Option.bind_some, b3, i13, Option.bind_some]
        exact ⟨_, _, _, _, _, _, _, rfl, rfl, R.i0⟩
      | 3, _ =>
        unfold f_X3_innermostCount
        rw [if_neg (show ¬ nI 3 = 0 by decide), if_neg (show ¬ nI 3 = 1 by decide), if_neg (show ¬ nI 3 = 2 by decide), if_pos (show nI 3 = 3 from rfl), if_pos (show ((nI 3).toInt < 0 ∨ 2 < (nI 3).toInt) by decide), h_o hL, Option.bind_some, b3, i13, Option.bind_some]
        match o, ho, b8, i13 with
        | 0, _, _, _ =>
          rw [if_pos (show nI 0 ≤ 0 by decide), if_pos (show nI 0 ≤ 0 by decide), ob2_some]
          exact ⟨_, _, _, _, _, _, _, rfl, rfl, R.i0⟩
        | o + 1, ho, b8, i13 =>
          have q : ¬ nI (o + 1) ≤ 0 := nI_ge (a := 0) (by omega) (by omega)
          have l7 := c_ld (cy := cy) (μ0 := μ0) (J := J) (w := w) (B := B) (i := o) hL 7 rfl (by show o < 24; omega)
          have l16 := m_ld (cy := cy) (μ0 := μ1) (I := upd I 0 0) (V := V) (A := A) (i := o) hW 16 rfl (by show o < 25; omega)
          have e := b8 o (by omega)
          rw [if_neg q, if_neg q, h_ref hL (k := 4) rfl, Option.bind_some, Option.bind_some, nI_pr, l7, Option.bind_some, ob2_some, m_ref hW rfl, Option.bind_some, Option.bind_some, nI_pr, show rdA cy (MR cy iw aw μ1 (upd I 0 0) V A) 1 (aw 16) (nI o) = _ from l16, Option.bind_some, e.2.2.2.2.1, e.2.2.2.2.2.1]
          exact ⟨_, _, _, _, _, _, _, rfl, rfl, R.i0⟩
theorem k_sheetAt (hL : Lay6 iv ad) (hW : Lay iw aw) (R : REL J B I A) (x : Int32) : ANZ cy iv ad μ0 iw aw μ1 (f_X6_sheetAt cy (ad 0) x (MC cy iv ad μ0 J w B)) (f_X8_sheetAt cy (aw 0) x (MR cy iw aw μ1 I V A)) := by
  obtain ⟨z, b, a1, a2, a3, a4⟩ := R.2.2.2.2.2.2.2.2
  unfold f_X6_sheetAt f_X8_sheetAt f_X8_sheetAt_L24 f_X6_sheetAt_L18
  have i12 : rdI (MR cy iw aw μ1 (upd I 0 0) V A) (aw 0) 7 12 = some (I 12) := m_int hW rfl
  rw [m_put hW rfl (by decide), Option.bind_some, i12, Option.bind_some]
  by_cases c1 : x < 0
  · rw [if_pos c1, if_pos c1]
    by_cases q : I 12 = 0
    · rw [if_pos q]
      exact ⟨_, _, _, _, _, _, _, rfl, rfl, R.i0⟩
    · rw [if_neg q]
      exact ⟨_, _, _, _, _, _, _, rfl, rfl, R.i0⟩
  · rw [if_neg c1, if_neg c1, g_ref hL (k := 6) rfl, Option.bind_some, h_ref hL (k := 0) rfl, Option.bind_some, P_size (j := 36) (n := z) hL rfl a1, Option.bind_some, Option.bind_some, h_ref hL (k := 0) rfl, Option.bind_some, if_pos (P_is hL rfl)]
    rcases a4 with ⟨b1, b2, b3, b4⟩ | ⟨b1, b2, o, D, t, v, c, b3, b4, b5, b6, b7, b8, b9⟩
    · subst b3
      rw [if_pos b4, if_neg (show ¬ x < nI 0 from c1)]
      exact ⟨_, _, _, _, _, _, _, rfl, rfl, R.i0⟩
    · have i11 : rdI (MR cy iw aw μ1 (upd I 0 0) V A) (aw 0) 7 11 = some (nI z) := by rw [← b5]; exact m_int hW rfl
      rw [if_neg (show ¬ I 12 = 0 by rw [b2]; decide), i11, Option.bind_some]
      by_cases c2 : nI z ≤ x
      · rw [if_neg (fun q => Int32.not_lt.mpr c2 q), if_neg (fun q => Int32.not_lt.mpr c2 q)]
        exact ⟨_, _, _, _, _, _, _, rfl, rfl, R.i0⟩
      · obtain ⟨i, hi', rfl⟩ := nI_ex c1 c2 (by omega)
        have rd := m_ld (cy := cy) (μ0 := μ1) (I := upd I 0 0) (V := V) (A := A) (i := i) hW 10 rfl (by show i < 2416; omega)
        rw [b7 i hi'] at rd
        have at' := P_at (cy := cy) (μ0 := μ0) (J := J) (w := w) (B := B) (j := 36) (n := z) (i := i) hL rfl a1 (by show z ≤ 2400; omega) hi'
        rw [show B (36 + 1) = hb b from a2] at at'
        rw [if_pos (nI_lt hi' (by omega)), if_pos (nI_lt hi' (by omega)), at', ob2_some, m_ref hW rfl, Option.bind_some, show rdA cy (MR cy iw aw μ1 (upd I 0 0) V A) 0 (aw 10) (nI i) = _ from rd, Option.bind_some, sx_255 _ (a3 i)]
        exact ⟨_, _, _, _, _, _, _, rfl, rfl, R.i0⟩
end KH1
