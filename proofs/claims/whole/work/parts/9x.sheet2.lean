/-! THE SHEET: what is written on both sides, piece by piece; begin. -/
/-- bytes L come behind the first z -/
def EX (b : Nat → Nat) (z : Nat) (L : List Nat) (b' : Nat → Nat) : Prop := (∀ j, j < z → b' j = b j) ∧ ∀ i, i < L.length → b' (z + i) = L.getD i 0
theorem EX.cat {b b1 b2 : Nat → Nat} {z : Nat} {L1 L2 : List Nat} (h1 : EX b z L1 b1) (h2 : EX b1 (z + L1.length) L2 b2) : EX b z (L1 ++ L2) b2 := by
  refine ⟨fun j hj => by rw [h2.1 j (by omega), h1.1 j hj], fun i hi => ?_⟩
  rw [List.length_append] at hi
  rcases Nat.lt_or_ge i L1.length with q | q
  · rw [h2.1 _ (by omega), h1.2 i q, gd_lo q]
  · rw [gd_hi q, ← h2.2 (i - L1.length) (by omega)]
    congr 1
    omega
/-- the same in the reference's bytes -/
def EXR (a : Nat → Int32) (z : Nat) (L : List Nat) (a' : Nat → Int32) : Prop := (∀ j, j < z → a' j = a j) ∧ ∀ i, i < L.length → a' (z + i) = sx (L.getD i 0)
theorem EXR.cat {a a1 a2 : Nat → Int32} {z : Nat} {L1 L2 : List Nat} (h1 : EXR a z L1 a1) (h2 : EXR a1 (z + L1.length) L2 a2) : EXR a z (L1 ++ L2) a2 := by
  refine ⟨fun j hj => by rw [h2.1 j (by omega), h1.1 j hj], fun i hi => ?_⟩
  rw [List.length_append] at hi
  rcases Nat.lt_or_ge i L1.length with q | q
  · rw [h2.1 _ (by omega), h1.2 i q, gd_lo q]
  · rw [gd_hi q, ← h2.2 (i - L1.length) (by omega)]
    congr 1
    omega
theorem EXR.one {a : Nat → Int32} {z v : Nat} : EXR a z [v] (upd a z (sx v)) := ⟨fun j hj => upd_ne' (by omega), fun i hi => by
  have : i = 0 := by simpa using hi
  subst this
  rw [Nat.add_zero, upd_self']
  rfl⟩
theorem EXR.nil {a : Nat → Int32} {z : Nat} : EXR a z [] a := ⟨fun _ _ => rfl, fun i hi => by cases hi⟩
/-- both sides hold the same -/
theorem EX.same {b b' : Nat → Nat} {a a' : Nat → Int32} {z : Nat} {L : List Nat} (h1 : EX b z L b') (h2 : EXR a z L a') (h : ∀ j, j < z → a j = sx (b j)) : ∀ j, j < z + L.length → a' j = sx (b' j) := fun j hj => by
  rcases Nat.lt_or_ge j z with q | q
  · rw [h2.1 j q, h1.1 j q, h j q]
  · obtain ⟨i, rfl⟩ : ∃ i, j = z + i := ⟨j - z, by omega⟩
    rw [h1.2 i (by omega), h2.2 i (by omega)]
section KH2
variable {cy : Nat → ClassId} {iv : Nat → Option Nat} {ad : Nat → Nat} {μ0 : Mem} {J : Nat → Int32} {w : Nat} {B : Nat → Nat → Int32} {iw : Nat → Option Nat} {aw : Nat → Nat} {μ1 : Mem} {I : Nat → Int32} {V : Nat → Value} {A : Nat → Nat → Int32} {z : Nat} {b : Nat → Nat}
/-- the class's sheet grows by L -/
def GR (J : Nat → Int32) (B : Nat → Nat → Int32) (b : Nat → Nat) (z : Nat) (L : List Nat) (J' : Nat → Int32) (B' : Nat → Nat → Int32) (b' : Nat → Nat) : Prop := J' 3601 = nI (z + L.length) ∧ B' 37 = hb b' ∧ bB b' ∧ EX b z L b' ∧ (∀ k, k ≠ 3601 → k ≠ 3602 → J' k = J k) ∧ ∀ k, k ≠ 37 → B' k = B k
theorem GR.cat {J1 J2 : Nat → Int32} {B1 B2 : Nat → Nat → Int32} {b1 b2 : Nat → Nat} {L1 L2 : List Nat} (h1 : GR J B b z L1 J1 B1 b1) (h2 : GR J1 B1 b1 (z + L1.length) L2 J2 B2 b2) : GR J B b z (L1 ++ L2) J2 B2 b2 :=
  ⟨by rw [h2.1, List.length_append]; congr 1; omega, h2.2.1, h2.2.2.1, h1.2.2.2.1.cat h2.2.2.2.1, fun k k1 k2 => by rw [h2.2.2.2.2.1 k k1 k2, h1.2.2.2.2.1 k k1 k2], fun k k1 => by rw [h2.2.2.2.2.2 k k1, h1.2.2.2.2.2 k k1]⟩
theorem h_mp {n : Nat} {b' : Nat → Nat} {o : Int32} {L : List Nat} (hB : bB b') (hn : n = z + L.length) (hE : EX b z L b') : GR J B b z L (upd (upd J (100 * 36 + 1) (nI n)) (100 * 36 + 2) o) (updG B (36 + 1) (hb b')) b' :=
  ⟨by rw [hn]; exact MP_J1 (j := 36), updG_self, hB, hE, fun k k1 k2 => by rw [upd_ne' k2, upd_ne' k1], fun k k1 => updG_ne k1⟩
theorem h_mid (h1 : J 3601 = nI z) (h2 : B 37 = hb b) : MC cy iv ad μ0 J w B = MP cy iv ad μ0 J w B 36 z (hb b) (J (100 * 36 + 2)) := by
  have := MP_id (cy := cy) (iv := iv) (ad := ad) (μ0 := μ0) (w := w) (B := B) (j := 36) (n := z) h1
  rw [show B (36 + 1) = hb b from h2] at this
  exact this
theorem h_append (hL : Lay6 iv ad) (h1 : J 3601 = nI z) (h2 : B 37 = hb b) (hB : bB b) (hz : z < 2400) (x : Int32) : ∃ J' B' b', f_X5_append cy (ad 36) x (MC cy iv ad μ0 J w B) = some (MC cy iv ad μ0 J' w B') ∧ GR J B b z [b8 x] J' B' b' := by
  rw [h_mid h1 h2, P_appendB hL rfl hz x]
  exact ⟨_, _, _, rfl, h_mp (hB.upd (b8_lt x)) rfl ⟨fun j hj => updG_ne (by omega), fun i hi => by
    have : i = 0 := by simpa using hi
    subst this
    rw [Nat.add_zero, updG_self]
    rfl⟩⟩
theorem h_row (hL : Lay6 iv ad) (h1 : J 3601 = nI z) (h2 : B 37 = hb b) (hB : bB b) {v : Nat} (hv : v < 2 ^ 30) (hz : z + (dg v + 1) ≤ 2400) : ∃ J' B' b', f_X5_appendRowName cy (ad 36) (nI v) (MC cy iv ad μ0 J w B) = some (MC cy iv ad μ0 J' w B') ∧ GR J B b z (rnl v) J' B' b' := by
  rw [h_mid h1 h2, P_row hL rfl hv (by show z + dg v + 1 ≤ 2400; omega)]
  exact ⟨_, _, _, rfl, h_mp (apn_bB hB (rnm_bB v)) (by rw [rnl_len]; omega) ⟨fun j hj => apn_lo hj, fun i hi => by rw [rnl_len] at hi; rw [apn_in hi, gd_rnl hi]⟩⟩
theorem h_part (hL : Lay6 iv ad) (h1 : J 3601 = nI z) (h2 : B 37 = hb b) (hB : bB b) {k m p q : Nat} {b1 : Nat → Nat} (hk : span6 k = true) (hkj : k ≠ 36) (hk1 : J (100 * k + 1) = nI m) (hb1 : B (k + 1) = hb b1) (hB1 : bB b1) (hm : m ≤ len6 (k + 1)) (hpq : p ≤ q) (hq : q ≤ m) (hz : z + (q - p) ≤ 2400) : ∃ J' B' b', f_X5_appendPart cy (ad 36) (ad k) (nI p) (nI q) (MC cy iv ad μ0 J w B) = some (MC cy iv ad μ0 J' w B') ∧ GR J B b z (sl b1 p q) J' B' b' := by
  rw [h_mid h1 h2, P_part hL rfl hk hkj hk1 hm hpq hq (by exact hz), hb1, hb_cpy]
  exact ⟨_, _, _, rfl, h_mp (hB.cpy hB1) (by rw [sl_len]) ⟨fun j hj => pk_cpy_out (by omega), fun i hi => by
    rw [sl_len] at hi
    rw [pk_cpy_in (by omega) (by omega), gd_sl hi]
    congr 1
    omega⟩⟩
theorem by8_0 : ∀ k, k < 4 → by8 0 k = 0 := by decide +kernel
theorem h_zero (hL : Lay6 iv ad) (h1 : J 3601 = nI z) (h2 : B 37 = hb b) (hB : bB b) (hz : z + 4 ≤ 2400) : ∃ J' B' b', f_X5_appendLowestFirst cy (ad 36) (0 : Int64) 4 (MC cy iv ad μ0 J w B) = some (MC cy iv ad μ0 J' w B') ∧ GR J B b z [0, 0, 0, 0] J' B' b' := by
  have e := P_low (cy := cy) (μ0 := μ0) (J := J) (w := w) (B := B) (j := 36) (n := z) (o := J (100 * 36 + 2)) hL rfl 0 (m := 4) (by decide) (b := b) hz
  rw [← h_mid h1 h2] at e
  refine ⟨_, _, _, e, h_mp (apn_bB hB (by8_bB 0)) rfl ⟨fun j hj => apn_lo hj, fun i hi => ?_⟩⟩
  have hi : i < 4 := hi
  rw [apn_in hi, by8_0 i hi]
  match i, hi with
  | 0, _ => rfl
  | 1, _ => rfl
  | 2, _ => rfl
  | 3, _ => rfl
theorem h_putInt (hL : Lay6 iv ad) (h1 : J 3601 = nI z) (h2 : B 37 = hb b) {p : Nat} (hp : p + 4 ≤ z) (hz : z ≤ 2400) (v : Int32) : f_X5_putInt cy (ad 36) (nI p) v (MC cy iv ad μ0 J w B) = some (MC cy iv ad μ0 J w (updG B 37 (hb (pI b p v)))) := by
  have e := P_putInt (cy := cy) (μ0 := μ0) (J := J) (w := w) (B := B) (j := 36) (n := z) (o := J (100 * 36 + 2)) hL rfl (b := b) hp hz v
  rw [← h_mid h1 h2] at e
  rw [e]
  show some (MC cy iv ad μ0 (upd (upd J 3601 (nI z)) 3602 (J 3602)) w (updG B 37 (hb (pI b p v)))) = _
  rw [← h1, upd_id, upd_id]
/-- a DOCUMENT is opened -/
theorem h_openDoc (hL : Lay6 iv ad) {o : Nat} (h305 : J 305 = nI o) (ho : o < 24) (h1 : J 3601 = nI z) (h2 : B 37 = hb b) (hB : bB b) (hz : z + 4 ≤ 2400) (t v : Int32) : ∃ J' B' b', f_X3_openDocument cy (ad 3) t v (MC cy iv ad μ0 J w B) = some (MC cy iv ad μ0 J' w B') ∧ J' 305 = nI (o + 1) ∧ J' 3601 = nI (z + 4) ∧ B' 37 = hb b' ∧ bB b' ∧ EX b z [0, 0, 0, 0] b' ∧ B' 4 = upd (B 4) o (nI z) ∧ B' 5 = upd (B 5) o t ∧ B' 6 = upd (B 6) o v ∧ B' 7 = upd (B 7) o 0 ∧ (∀ k, k ≠ 305 → k ≠ 3601 → k ≠ 3602 → J' k = J k) ∧ ∀ k, k < 4 ∨ 7 < k → k ≠ 37 → B' k = B k := by
  unfold f_X3_openDocument
  have s4 := c_st (cy := cy) (μ0 := μ0) (J := J) (w := w) (B := B) (i := o) hL 4 rfl (by exact ho) (nI z)
  have s5 := c_st (cy := cy) (μ0 := μ0) (J := J) (w := w) (B := updG B 4 (upd (B 4) o (nI z))) (i := o) hL 5 rfl (by exact ho) t
  have s6 := c_st (cy := cy) (μ0 := μ0) (J := J) (w := w) (B := updG (updG B 4 (upd (B 4) o (nI z))) 5 (upd (B 5) o t)) (i := o) hL 6 rfl (by exact ho) v
  have s7 := c_st (cy := cy) (μ0 := μ0) (J := J) (w := w) (B := updG (updG (updG B 4 (upd (B 4) o (nI z))) 5 (upd (B 5) o t)) 6 (upd (B 6) o v)) (i := o) hL 7 rfl (by exact ho) 0
  rw [updG_ne (show 5 ≠ 4 by decide)] at s5
  rw [updG_ne (show 6 ≠ 5 by decide), updG_ne (show 6 ≠ 4 by decide)] at s6
  rw [updG_ne (show 7 ≠ 6 by decide), updG_ne (show 7 ≠ 5 by decide), updG_ne (show 7 ≠ 4 by decide)] at s7
  rw [h_o hL, Option.bind_some, h305, if_pos (show nI o < 24 from nI_lt (b := 24) ho (by decide)), h_ref hL (k := 1) rfl, Option.bind_some, Option.bind_some, h_ref hL (k := 0) rfl, Option.bind_some, P_size (j := 36) (n := z) hL rfl h1, Option.bind_some, s4, Option.bind_some]
  rw [h_ref hL (k := 2) rfl, Option.bind_some, h_o hL, Option.bind_some, h305, s5, Option.bind_some, h_ref hL (k := 3) rfl, Option.bind_some, h_o hL, Option.bind_some, h305, s6, Option.bind_some, h_ref hL (k := 4) rfl, Option.bind_some, h_o hL, Option.bind_some, h305, s7, Option.bind_some, h_o hL, Option.bind_some, h305, nI_a1, c_putH hL 5 rfl (by decide), Option.bind_some, h_ref hL (k := 0) rfl, Option.bind_some, if_pos (P_is hL rfl)]
  obtain ⟨J', B', b', e, g⟩ := h_zero (cy := cy) (μ0 := μ0) (w := w) (J := upd J (300 + 5) (nI (o + 1))) (B := updG (updG (updG (updG B 4 (upd (B 4) o (nI z))) 5 (upd (B 5) o t)) 6 (upd (B 6) o v)) 7 (upd (B 7) o 0)) (z := z) (b := b) hL (by rw [upd_ne' (by decide)]; exact h1) (by rw [updG_ne (by decide), updG_ne (by decide), updG_ne (by decide), updG_ne (by decide)]; exact h2) hB hz
  rw [e, Option.bind_some]
  obtain ⟨g1, g2, g3, g4, g5, g6⟩ := g
  refine ⟨J', B', b', rfl, by rw [g5 _ (by decide) (by decide)]; exact upd_self', g1, g2, g3, g4, ?_, ?_, ?_, ?_, fun k k1 k2 k3 => by rw [g5 k k2 k3, upd_ne' k1], fun k k1 k2 => by rw [g6 k k2, updG_ne (by omega), updG_ne (by omega), updG_ne (by omega), updG_ne (by omega)]⟩
  · rw [g6 _ (by decide), updG_ne (by decide), updG_ne (by decide), updG_ne (by decide), updG_self]
  · rw [g6 _ (by decide), updG_ne (by decide), updG_ne (by decide), updG_self]
  · rw [g6 _ (by decide), updG_ne (by decide), updG_self]
  · rw [g6 _ (by decide), updG_self]
theorem h_away (hL : Lay6 iv ad) (h1 : J 3601 = nI z) (hz : z ≤ 2400) : ∃ J', f_X3_takeAway cy (ad 3) (MC cy iv ad μ0 J w B) = some (MC cy iv ad μ0 J' w B) ∧ J' 3601 = 0 ∧ J' 305 = 0 ∧ J' 306 = 0 ∧ ∀ k, k ≠ 305 → k ≠ 306 → k ≠ 3601 → k ≠ 3602 → J' k = J k := by
  unfold f_X3_takeAway
  have e := P_clear (cy := cy) (μ0 := μ0) (J := J) (w := w) (B := B) (j := 36) (n := z) (h := B (36 + 1)) (o := J (100 * 36 + 2)) hL rfl hz
  rw [← MP_id (show J (100 * 36 + 1) = nI z from h1)] at e
  rw [h_ref hL (k := 0) rfl, Option.bind_some, if_pos (P_is hL rfl), e, Option.bind_some, c_putH hL 5 rfl (by decide), Option.bind_some, c_putH hL 6 rfl (by decide), Option.bind_some]
  refine ⟨upd (upd (upd (upd J (100 * 36 + 1) (nI 0)) (100 * 36 + 2) 0) (300 + 5) 0) (300 + 6) 0, by rw [updG_id], ?_, ?_, ?_, fun k k1 k2 k3 k4 => ?_⟩
  · rw [upd_ne' (by decide), upd_ne' (by decide), upd_ne' (by decide)]; exact upd_self'
  · rw [upd_ne' (by decide)]; exact upd_self'
  · exact upd_self'
  · rw [upd_ne' k2, upd_ne' k1, upd_ne' k4, upd_ne' k3]
/-! the reference -/
abbrev MZ (cy : Nat → ClassId) (iw : Nat → Option Nat) (aw : Nat → Nat) (μ1 : Mem) (I : Nat → Int32) (V : Nat → Value) (A : Nat → Nat → Int32) (z : Nat) (a : Nat → Int32) : Mem := MR cy iw aw μ1 (upd I 11 (nI z)) V (updG A 10 a)
theorem z_id (h : I 11 = nI z) : MR cy iw aw μ1 I V A = MZ cy iw aw μ1 I V A z (A 10) := by
  unfold MZ
  rw [← h, upd_id, updG_id]
theorem z_adds (hW : Lay iw aw) {a : Nat → Int32} (hz : z < 2416) (x : Int32) : f_X8_adds cy (aw 0) x (MZ cy iw aw μ1 I V A z a) = some (MZ cy iw aw μ1 I V A (z + 1) (upd a z (sx (b8 x)))) := by
  unfold f_X8_adds
  have i11 : ∀ A', rdI (MR cy iw aw μ1 (upd I 11 (nI z)) V A') (aw 0) 7 11 = some (nI z) := fun A' => m_int hW rfl
  have st := m_st (cy := cy) (μ0 := μ1) (I := upd I 11 (nI z)) (V := V) (A := updG A 10 a) (i := z) hW 10 rfl hz (sx (b8 x))
  rw [updG_self, updG_updG] at st
  have e : vp_nar .byte ((Int32.toInt8 x).toInt32) = sx (b8 x) := by rw [sx_b8]; exact bB_of (b8_lt _)
  rw [m_ref hW rfl, Option.bind_some, i11, Option.bind_some, e, show wrA cy (MR cy iw aw μ1 (upd I 11 (nI z)) V (updG A 10 a)) 0 (aw 10) (nI z) (sx (b8 x)) = _ from st, Option.bind_some, i11, Option.bind_some, nI_a1, m_put hW rfl (by decide), Option.bind_some, upd_upd]
theorem z_55 (hW : Lay iw aw) : ∀ (j k f z : Nat) (a : Nat → Int32), k + j = 4 → j < f → z + j ≤ 2416 → ∃ a', f_X8_opens_L55 cy f (aw 0) (nI k) (MZ cy iw aw μ1 I V A z a) = some (MZ cy iw aw μ1 I V A (z + j) a') ∧ EXR a z (List.replicate j 0) a'
  | j, k, 0, z, a, _, hf, _ => by omega
  | 0, k, f + 1, z, a, hk, _, _ => by
    have : k = 4 := by omega
    subst this
    rw [f_X8_opens_L55, if_pos (by decide)]
    exact ⟨a, rfl, EXR.nil⟩
  | j + 1, k, f + 1, z, a, hk, hf, hz => by
    obtain ⟨a', e1, e2⟩ := z_55 hW j (k + 1) f (z + 1) (upd a z (sx 0)) (by omega) (by omega) (by omega)
    rw [f_X8_opens_L55, if_neg (show ¬ (4 : Int32) ≤ nI k from nI_ge (b := 4) (by omega) (by decide)), if_pos (m_is hW), z_adds hW (by omega), Option.bind_some, nI_a1]
    have e0 : b8 0 = 0 := b8_nI (v := 0) (by decide)
    rw [e0, e1]
    refine ⟨a', by rw [show z + 1 + j = z + (j + 1) by omega], ?_⟩
    have := EXR.cat (EXR.one (a := a) (z := z) (v := 0)) e2
    exact this
theorem z_opens (hW : Lay iw aw) {o : Nat} {a : Nat → Int32} (h13 : I 13 = nI o) (ho : o < 25) (hz : z + 4 ≤ 2416) (t v : Int32) : ∃ I' A' a', f_X8_opens cy (aw 0) t v (MZ cy iw aw μ1 I V A z a) = some (MZ cy iw aw μ1 I' V A' (z + 4) a') ∧ EXR a z [0, 0, 0, 0] a' ∧ I' 13 = nI (o + 1) ∧ (∀ k, k ≠ 13 → I' k = I k) ∧ A' 14 = upd (A 14) o (nI z) ∧ A' 15 = upd (A 15) o t ∧ A' 16 = upd (A 16) o 0 ∧ A' 17 = upd (A 17) o v ∧ ∀ j, j < 14 ∨ 17 < j → A' j = A j := by
  unfold f_X8_opens
  have i13 : ∀ A', rdI (MR cy iw aw μ1 (upd I 11 (nI z)) V A') (aw 0) 7 13 = some (nI o) := fun A' => by rw [← h13]; exact m_int hW rfl
  have i11 : ∀ A', rdI (MR cy iw aw μ1 (upd I 11 (nI z)) V A') (aw 0) 7 11 = some (nI z) := fun A' => m_int hW rfl
  have s14 := m_st (cy := cy) (μ0 := μ1) (I := upd I 11 (nI z)) (V := V) (A := updG A 10 a) (i := o) hW 14 rfl ho (nI z)
  rw [updG_ne (show 14 ≠ 10 by decide), updG_cm (show 10 ≠ 14 by decide)] at s14
  have s15 := m_st (cy := cy) (μ0 := μ1) (I := upd I 11 (nI z)) (V := V) (A := updG (updG A 14 (upd (A 14) o (nI z))) 10 a) (i := o) hW 15 rfl ho t
  rw [updG_ne (show 15 ≠ 10 by decide), updG_ne (show 15 ≠ 14 by decide), updG_cm (show 10 ≠ 15 by decide)] at s15
  have s16 := m_st (cy := cy) (μ0 := μ1) (I := upd I 11 (nI z)) (V := V) (A := updG (updG (updG A 14 (upd (A 14) o (nI z))) 15 (upd (A 15) o t)) 10 a) (i := o) hW 16 rfl ho 0
  rw [updG_ne (show 16 ≠ 10 by decide), updG_ne (show 16 ≠ 15 by decide), updG_ne (show 16 ≠ 14 by decide), updG_cm (show 10 ≠ 16 by decide)] at s16
  have s17 := m_st (cy := cy) (μ0 := μ1) (I := upd I 11 (nI z)) (V := V) (A := updG (updG (updG (updG A 14 (upd (A 14) o (nI z))) 15 (upd (A 15) o t)) 16 (upd (A 16) o 0)) 10 a) (i := o) hW 17 rfl ho v
  rw [updG_ne (show 17 ≠ 10 by decide), updG_ne (show 17 ≠ 16 by decide), updG_ne (show 17 ≠ 15 by decide), updG_ne (show 17 ≠ 14 by decide), updG_cm (show 10 ≠ 17 by decide)] at s17
  obtain ⟨a', e1, e2⟩ := z_55 (cy := cy) (μ1 := μ1) (I := upd I 13 (nI (o + 1))) (V := V) (A := updG (updG (updG (updG A 14 (upd (A 14) o (nI z))) 15 (upd (A 15) o t)) 16 (upd (A 16) o 0)) 17 (upd (A 17) o v)) hW 4 0 FU z a (by omega) (by decide) hz
  have e1' : f_X8_opens_L55 cy FU (aw 0) 0 (MR cy iw aw μ1 (upd (upd I 13 (nI (o + 1))) 11 (nI z)) V (updG (updG (updG (updG (updG A 14 (upd (A 14) o (nI z))) 15 (upd (A 15) o t)) 16 (upd (A 16) o 0)) 17 (upd (A 17) o v)) 10 a)) = _ := e1
  rw [m_ref hW rfl, Option.bind_some, i13, Option.bind_some, i11, Option.bind_some, show wrA cy (MR cy iw aw μ1 (upd I 11 (nI z)) V (updG A 10 a)) 1 (aw 14) (nI o) (nI z) = _ from s14, Option.bind_some, m_ref hW rfl, Option.bind_some, i13, Option.bind_some, show wrA cy (MR cy iw aw μ1 (upd I 11 (nI z)) V (updG (updG A 14 (upd (A 14) o (nI z))) 10 a)) 1 (aw 15) (nI o) t = _ from s15, Option.bind_some, m_ref hW rfl, Option.bind_some, i13, Option.bind_some, show wrA cy (MR cy iw aw μ1 (upd I 11 (nI z)) V (updG (updG (updG A 14 (upd (A 14) o (nI z))) 15 (upd (A 15) o t)) 10 a)) 1 (aw 16) (nI o) 0 = _ from s16, Option.bind_some, m_ref hW rfl, Option.bind_some, i13, Option.bind_some, show wrA cy (MR cy iw aw μ1 (upd I 11 (nI z)) V (updG (updG (updG (updG A 14 (upd (A 14) o (nI z))) 15 (upd (A 15) o t)) 16 (upd (A 16) o 0)) 10 a)) 1 (aw 17) (nI o) v = _ from s17, Option.bind_some, i13, Option.bind_some, nI_a1, m_put hW rfl (by decide), Option.bind_some, upd_cm (show 11 ≠ 13 by decide), e1']
  refine ⟨_, _, a', rfl, e2, upd_self', fun k hk => upd_ne' hk, ?_, ?_, ?_, updG_self, fun j hj => ?_⟩
  · rw [updG_ne (by decide), updG_ne (by decide), updG_ne (by decide), updG_self]
  · rw [updG_ne (by decide), updG_ne (by decide), updG_self]
  · rw [updG_ne (by decide), updG_self]
  · rw [updG_ne (by omega), updG_ne (by omega), updG_ne (by omega), updG_ne (by omega)]
/-- only the sheet has changed -/
theorem REL.ht {J' : Nat → Int32} {B' : Nat → Nat → Int32} {I' : Nat → Int32} {A' : Nat → Nat → Int32} (R : REL J B I A) (H : HTr J' B' I' A') (h1 : ∀ k, k ≠ 305 → k ≠ 306 → k ≠ 3601 → k ≠ 3602 → k / 100 ≠ 1 → k / 100 ≠ 80 → J' k = J k) (h2 : ∀ k, k < 4 ∨ 7 < k → k ≠ 37 → k ≤ 80 ∨ 85 < k → B' k = B k) (h3 : ∀ k, 0 < k → k < 11 → I' k = I k) (h4 : ∀ j, rlv j → j ≠ 10 → (j < 14 ∨ 17 < j) → A' j = A j) : REL J' B' I' A' := by
  obtain ⟨r1, r2, r3, r4, r5, r6, r7, r8, r9⟩ := R
  have a := fun j (h : rlv j) => h4 j h
  unfold rlv at a
  refine ⟨r1.fr (h1 _ (by omega) (by omega) (by omega) (by omega) (by omega) (by omega)) (h2 _ (by omega) (by omega) (by omega)) (h3 _ (by decide) (by decide)) (a _ (by omega) (by omega) (by omega)), r2.fr (h1 _ (by omega) (by omega) (by omega) (by omega) (by omega) (by omega)) (h1 _ (by omega) (by omega) (by omega) (by omega) (by omega) (by omega)) (h3 _ (by decide) (by decide)) (h3 _ (by decide) (by decide)), fun s hs => (r3 s hs).fr hs (fun k hk => h1 k (by omega) (by omega) (by omega) (by omega) (by omega) (by omega)) (fun k hk => h2 k (by omega) (by omega) (by omega)) (a _ (by omega) (by omega) (by omega)) (by rw [a _ (by omega) (by omega) (by omega)]) (a _ (by omega) (by omega) (by omega)) (by rw [a _ (by omega) (by omega) (by omega)]) (by rw [a _ (by omega) (by omega) (by omega)]), r4.fr (h1 _ (by omega) (by omega) (by omega) (by omega) (by omega) (by omega)) (fun s hs f hf => h1 _ (by omega) (by omega) (by omega) (by omega) (by omega) (by omega)) (a _ (by omega) (by omega) (by omega)), r5.fr (h1 _ (by omega) (by omega) (by omega) (by omega) (by omega) (by omega)) (h2 _ (by omega) (by omega) (by omega)), r6.fr (h1 _ (by omega) (by omega) (by omega) (by omega) (by omega) (by omega)) (h2 _ (by omega) (by omega) (by omega)), r7.fr (h1 _ (by omega) (by omega) (by omega) (by omega) (by omega) (by omega)) (h2 _ (by omega) (by omega) (by omega)), r8.fr (a _ (by omega) (by omega) (by omega)), H⟩
def ANV (cy : Nat → ClassId) (iv : Nat → Option Nat) (ad : Nat → Nat) (μ0 : Mem) (iw : Nat → Option Nat) (aw : Nat → Nat) (μ1 : Mem) (x y : Option Mem) : Prop := ∃ J' w' B' I' V' A', x = some (MC cy iv ad μ0 J' w' B') ∧ y = some (MR cy iw aw μ1 I' V' A') ∧ REL J' B' I' A'
theorem HTr.zl (h : HTr J B I A) : ∃ z b, J 3601 = nI z ∧ B 37 = hb b ∧ bB b ∧ z ≤ 2400 := by
  obtain ⟨z, b, a1, a2, a3, a4⟩ := h
  refine ⟨z, b, a1, a2, a3, ?_⟩
  rcases a4 with ⟨b1, b2, b3, b4⟩ | ⟨b1, b2, o, D, t, v, c, b3, b4, b5, b6, -⟩
  · omega
  · omega
theorem k_begin (hL : Lay6 iv ad) (hW : Lay iw aw) (R : REL J B I A) : ANV cy iv ad μ0 iw aw μ1 (f_X6_begin cy (ad 0) (MC cy iv ad μ0 J w B)) (f_X8_begin cy (aw 0) (MR cy iw aw μ1 I V A)) := by
  obtain ⟨z, b, a1, a2, a3, a4⟩ := R.2.2.2.2.2.2.2.2.zl
  unfold f_X6_begin f_X8_begin f_X3_restart
  obtain ⟨J1, e1, j1, j2, j3, j4⟩ := h_away (cy := cy) (μ0 := μ0) (w := w) (B := B) hL a1 a4
  obtain ⟨J2, B2, b2, e2, f1, f2, f3, f4, f5, f6, f7, f8, f9, f10, f11⟩ := h_openDoc (cy := cy) (μ0 := μ0) (w := w) (J := upd J1 (300 + 6) 1) (B := B) (z := 0) (b := b) (o := 0) hL (by rw [upd_ne' (by decide)]; exact j2) (by decide) (by rw [upd_ne' (by decide)]; exact j1) a2 a3 (by decide) 0 0
  rw [g_ref hL (k := 6) rfl, Option.bind_some, if_pos (h_is hL), if_pos (h_is hL), e1, Option.bind_some, c_putH hL 6 rfl (by decide), Option.bind_some, if_pos (h_is hL), e2, Option.bind_some, Option.bind_some]
  obtain ⟨I2, A2, s2, g1, g2, g3, g4, g5, g6, g7, g8, g9⟩ := z_opens (cy := cy) (μ1 := μ1) (I := upd (upd (upd (upd I 0 0) 12 1) 11 0) 13 0) (V := V) (A := A) (z := 0) (a := A 10) (o := 0) hW rfl (by decide) (by decide) 0 (-1)
  have g1' : f_X8_opens cy (aw 0) 0 (-1) (MR cy iw aw μ1 (upd (upd (upd (upd I 0 0) 12 1) 11 0) 13 0) V A) = some (MZ cy iw aw μ1 I2 V A2 (0 + 4) s2) := by
    rw [z_id (z := 0) (I := upd (upd (upd (upd I 0 0) 12 1) 11 0) 13 0) rfl]
    exact g1
  rw [m_put hW rfl (by decide), Option.bind_some, m_put hW rfl (by decide), Option.bind_some, m_put hW rfl (by decide), Option.bind_some, m_put hW rfl (by decide), Option.bind_some, if_pos (m_is hW), g1', Option.bind_some]
  have a0 : ∀ j, j < 0 + [0, 0, 0, 0].length → s2 j = sx (b2 j) := f5.same g2 (fun j hj => by omega)
  refine ⟨J2, w, B2, _, V, _, rfl, rfl, R.ht ⟨4, b2, f2, f3, f4, Or.inr ⟨?_, ?_, 1, fun _ => 0, fun _ => 0, fun _ => 0, fun _ => 0, f1, ?_, upd_self', by decide, fun j hj => ?_, fun k hk => ?_, ?_⟩⟩ (fun k k1 k2 k3 k4 k5 k6 => by rw [f10 k k1 k3 k4, upd_ne' k2, j4 k k1 k2 k3 k4]) (fun k k1 k2 k3 => f11 k k1 k2) (fun k k1 k2 => by rw [upd_ne' (by omega), g4 k (by omega), upd_ne' (by omega), upd_ne' (by omega), upd_ne' (by omega), upd_ne' (by omega)]) (fun j hj j1 j2 => by rw [updG_ne j1, g9 j j2])⟩
  · rw [f10 306 (by decide) (by decide) (by decide)]; exact upd_self'
  · rw [upd_ne' (by decide), g4 12 (by decide)]; rfl
  · rw [upd_ne' (by decide)]; exact g3
  · rw [updG_self]; exact a0 j hj
  · have : k = 0 := by omega
    subst this
    refine ⟨by rw [f6]; exact upd_self', by rw [updG_ne (by decide), g5]; exact upd_self', by rw [f7]; exact upd_self', by rw [updG_ne (by decide), g6]; exact upd_self', by rw [f9]; exact upd_self', by rw [updG_ne (by decide), g7]; exact upd_self', fun q => absurd q (by decide), fun _ => by rw [updG_ne (by decide), g8]; exact upd_self'⟩
  · refine ⟨by decide, fun q => absurd q (by decide), fun _ => ⟨rfl, rfl, fun _ => 4, rfl, rfl, fun i hi => absurd hi (Nat.not_lt_zero i)⟩, fun k _ => Nat.le_refl 4, fun k hk => by omega⟩
end KH2
