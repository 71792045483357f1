/-! THE CALLS: feed. -/
theorem sh_24 : ∀ r, r < 4 → (24 : Int32) - 8 * nI r = 8 * nI (3 - r) := by decide +kernel
theorem nI_md {k : Nat} (hk : k < 1000) : nI k / 4 = nI (k / 4) ∧ nI k - nI k / 4 * 4 = nI (k % 4) := by
  have e : nI k / 4 = nI (k / 4) := by
    rw [show (4 : Int32) = nI 4 by decide +kernel, pk_div (by omega) (by decide) (by decide)]
  refine ⟨e, ?_⟩
  rw [e, show (4 : Int32) = nI 4 by decide +kernel, pk_mul, nI_sub' (by omega)]
  congr 1
  omega
section KF1
variable {cy : Nat → ClassId} {iv : Nat → Option Nat} {ad : Nat → Nat} {μ0 : Mem} {J : Nat → Int32} {w : Nat} {B : Nat → Nat → Int32} {iw : Nat → Option Nat} {aw : Nat → Nat} {μ1 : Mem} {I : Nat → Int32} {V : Nat → Value} {A : Nat → Nat → Int32}
theorem by4h_bB (v : Int32) : bB (by4h v) := fun k => by4_lt _ _
theorem y_56 (hW : Lay iw aw) {n : Nat} {fv : Nat → Int32} (hn : n ≤ 1980) (h2 : I 2 = nI n) (h19 : ∀ i, i < 5 → A 19 i = fv i) : ∀ (j k f : Nat) (tp : Nat → Int32), k + j = 20 → j < f → (∀ i, i < k → tp (n + i) = sx (by4h (fv (i / 4)) (i % 4))) → (∀ i, i < n → tp i = A 1 i) → ∃ tp', f_X8_feed_L56 cy f (aw 0) (aw 19) (nI k) (MR cy iw aw μ1 I V (updG A 1 tp)) = some (nI (n + 20), MR cy iw aw μ1 (upd I 2 (nI (n + 20))) V (updG A 1 tp')) ∧ (∀ i, i < 20 → tp' (n + i) = sx (by4h (fv (i / 4)) (i % 4))) ∧ (∀ i, i < n → tp' i = A 1 i)
  | j, k, 0, tp, _, hf, _, _ => by omega
  | 0, k, f + 1, tp, hk, _, h1, h3 => by
    have : k = 20 := by omega
    subst this
    refine ⟨tp, ?_, h1, h3⟩
    have i2 : rdI (MR cy iw aw μ1 I V (updG A 1 tp)) (aw 0) 7 2 = some (nI n) := by rw [← h2]; exact m_int hW rfl
    have i2' : rdI (MR cy iw aw μ1 (upd I 2 (nI (n + 20))) V (updG A 1 tp)) (aw 0) 7 2 = some (nI (n + 20)) := m_int hW rfl
    rw [f_X8_feed_L56, if_pos (show (20 : Int32) ≤ nI 20 by decide), i2, Option.bind_some, nI_c 20 20 (by decide +kernel), m_put hW rfl (by decide), Option.bind_some, i2', Option.bind_some]
  | j + 1, k, f + 1, tp, hk, hf, h1, h3 => by
    obtain ⟨tp', e1, e2, e3⟩ := y_56 hW hn h2 h19 j (k + 1) f (upd tp (n + k) (sx (by4h (fv (k / 4)) (k % 4)))) (by omega) (by omega) (fun i hi => by
      by_cases q : i = k
      · subst q; exact upd_self'
      · rw [upd_ne' (by omega)]; exact h1 i (by omega)) (fun i hi => by rw [upd_ne' (by omega)]; exact h3 i hi)
    refine ⟨tp', ?_, e2, e3⟩
    have i2 : rdI (MR cy iw aw μ1 I V (updG A 1 tp)) (aw 0) 7 2 = some (nI n) := by rw [← h2]; exact m_int hW rfl
    have r19 := m_ld (cy := cy) (μ0 := μ1) (I := I) (V := V) (A := updG A 1 tp) (i := k / 4) hW 19 rfl (by show k / 4 < 5; omega)
    rw [updG_ne (show 19 ≠ 1 by decide), h19 _ (by omega)] at r19
    have st := m_st (cy := cy) (μ0 := μ1) (I := I) (V := V) (A := updG A 1 tp) (i := n + k) hW 1 rfl (by show n + k < 2000; omega) (sx (by4h (fv (k / 4)) (k % 4)))
    rw [updG_self, updG_updG] at st
    have md := nI_md (k := k) (by omega)
    have e : vp_nar .byte ((Int32.toInt8 (fv (k / 4) >>> (((24 : Int32) - 8 * nI (k % 4)) &&& 31))).toInt32) = sx (by4h (fv (k / 4)) (k % 4)) := by
      rw [sh_24 _ (by omega)]
      unfold by4h by4
      rw [sx_b8]
      exact bB_of (b8_lt _)
    rw [f_X8_feed_L56, if_neg (show ¬ (20 : Int32) ≤ nI k from nI_ge (b := 20) (by omega) (by decide)), m_ref hW rfl, Option.bind_some, i2, Option.bind_some, md.2, md.1, show rdA cy (MR cy iw aw μ1 I V (updG A 1 tp)) 1 (aw 19) (nI (k / 4)) = _ from r19, Option.bind_some, e, nI_p, show wrA cy (MR cy iw aw μ1 I V (updG A 1 tp)) 0 (aw 1) (nI (n + k)) (sx (by4h (fv (k / 4)) (k % 4))) = _ from st, Option.bind_some, nI_a1]
    exact e1
theorem k_feed (hL : Lay6 iv ad) (hW : Lay iw aw) (R : REL J B I A) (x0 x1 x2 x3 x4 : Int32) : ANZ cy iv ad μ0 iw aw μ1 (f_X6_feed cy (ad 0) x0 x1 x2 x3 x4 (MC cy iv ad μ0 J w B)) (f_X8_feed cy (aw 0) x0 x1 x2 x3 x4 (MR cy iw aw μ1 I V A)) := by
  have R' := R
  obtain ⟨⟨n, b, a1, a2, a3, a4, a5, a6⟩, r2, r3, r4, r5, r6, r7, r8, r9⟩ := R
  unfold f_X6_feed f_X8_feed
  have i2 : rdI (MR cy iw aw μ1 (upd I 0 0) V A) (aw 0) 7 2 = some (nI n) := by rw [← a5]; exact m_int hW rfl
  rw [g_ref hL (k := 0) rfl, Option.bind_some, P_size (j := 20) (n := n) hL rfl a1, Option.bind_some, m_put hW rfl (by decide), Option.bind_some, Option.bind_some, i2, Option.bind_some, nI_c 20 20 (by decide +kernel)]
  by_cases c : n ≤ 1980
  · have l20 : len6 (20 + 1) = 2000 := rfl
    have e0 := MP_id (cy := cy) (iv := iv) (ad := ad) (μ0 := μ0) (w := w) (B := B) (j := 20) (n := n) a1
    rw [show B (20 + 1) = hb b from a2] at e0
    rw [if_pos (show nI n ≤ 1980 from nI_le (b := 1980) c (by decide)), if_pos (show nI (n + 20) ≤ 2000 from nI_le (b := 2000) (by omega) (by decide)), if_pos (P_is hL rfl), e0]
    rw [P_high hL rfl x0 (by rw [l20]; omega), Option.bind_some, g_ref hL (k := 0) rfl, Option.bind_some, if_pos (P_is hL rfl), P_high hL rfl x1 (by rw [l20]; omega), Option.bind_some, g_ref hL (k := 0) rfl, Option.bind_some, if_pos (P_is hL rfl), P_high hL rfl x2 (by rw [l20]; omega), Option.bind_some, g_ref hL (k := 0) rfl, Option.bind_some, if_pos (P_is hL rfl), P_high hL rfl x3 (by rw [l20]; omega), Option.bind_some, g_ref hL (k := 0) rfl, Option.bind_some, if_pos (P_is hL rfl), P_high hL rfl x4 (by rw [l20]; omega), Option.bind_some, g_ref hL (k := 0) rfl, Option.bind_some, P_size (j := 20) (n := n + 4 + 4 + 4 + 4 + 4) hL rfl (MP_J1 (j := 20)), Option.bind_some]
    have st0 := fun (A0 : Nat → Nat → Int32) (i : Nat) (hi : i < 5) (x : Int32) => m_st (cy := cy) (μ0 := μ1) (I := upd I 0 0) (V := V) (A := A0) (i := i) hW 19 rfl hi x
    have s0 : wrA cy (MR cy iw aw μ1 (upd I 0 0) V A) 1 (aw 19) 0 x0 = _ := st0 A 0 (by decide) x0
    have s1 : ∀ f x, wrA cy (MR cy iw aw μ1 (upd I 0 0) V (updG A 19 f)) 1 (aw 19) 1 x = some (MR cy iw aw μ1 (upd I 0 0) V (updG A 19 (upd f 1 x))) := fun f x => by
      have := st0 (updG A 19 f) 1 (by decide) x
      rw [updG_self, updG_updG] at this
      exact this
    have s2 : ∀ f x, wrA cy (MR cy iw aw μ1 (upd I 0 0) V (updG A 19 f)) 1 (aw 19) 2 x = some (MR cy iw aw μ1 (upd I 0 0) V (updG A 19 (upd f 2 x))) := fun f x => by
      have := st0 (updG A 19 f) 2 (by decide) x
      rw [updG_self, updG_updG] at this
      exact this
    have s3 : ∀ f x, wrA cy (MR cy iw aw μ1 (upd I 0 0) V (updG A 19 f)) 1 (aw 19) 3 x = some (MR cy iw aw μ1 (upd I 0 0) V (updG A 19 (upd f 3 x))) := fun f x => by
      have := st0 (updG A 19 f) 3 (by decide) x
      rw [updG_self, updG_updG] at this
      exact this
    have s4 : ∀ f x, wrA cy (MR cy iw aw μ1 (upd I 0 0) V (updG A 19 f)) 1 (aw 19) 4 x = some (MR cy iw aw μ1 (upd I 0 0) V (updG A 19 (upd f 4 x))) := fun f x => by
      have := st0 (updG A 19 f) 4 (by decide) x
      rw [updG_self, updG_updG] at this
      exact this
    rw [m_ref hW rfl, Option.bind_some, s0, Option.bind_some, s1, Option.bind_some, s2, Option.bind_some, s3, Option.bind_some, s4, Option.bind_some]
    obtain ⟨tp', l1, l2, l3⟩ := y_56 (cy := cy) (μ1 := μ1) (I := upd I 0 0) (V := V) (A := updG A 19 (upd (upd (upd (upd (upd (A 19) 0 x0) 1 x1) 2 x2) 3 x3) 4 x4)) (n := n) (fv := upd (upd (upd (upd (upd (A 19) 0 x0) 1 x1) 2 x2) 3 x3) 4 x4) hW c (by rw [upd_ne' (by decide)]; exact a5) (fun i hi => by rw [updG_self]) 20 0 FU (A 1) (by omega) (by decide) (fun i hi => by omega) (fun i hi => by rw [updG_ne (by decide)])
    have eA : updG (updG A 19 (upd (upd (upd (upd (upd (A 19) 0 x0) 1 x1) 2 x2) 3 x3) 4 x4)) 1 (A 1) = updG A 19 (upd (upd (upd (upd (upd (A 19) 0 x0) 1 x1) 2 x2) 3 x3) 4 x4) := by
      rw [updG_cm (show 19 ≠ 1 by decide), updG_id]
    rw [eA] at l1
    have l1' : f_X8_feed_L56 cy FU (aw 0) (aw 19) 0 (MR cy iw aw μ1 (upd I 0 0) V (updG A 19 (upd (upd (upd (upd (upd (A 19) 0 x0) 1 x1) 2 x2) 3 x3) 4 x4))) = _ := l1
    rw [l1', show n + 4 + 4 + 4 + 4 + 4 = n + 20 by omega]
    have bB5 := apn_bB (n := n + 4 + 4 + 4 + 4) (k := 4) (apn_bB (n := n + 4 + 4 + 4) (k := 4) (apn_bB (n := n + 4 + 4) (k := 4) (apn_bB (n := n + 4) (k := 4) (apn_bB (n := n) (k := 4) a3 (by4h_bB x0)) (by4h_bB x1)) (by4h_bB x2)) (by4h_bB x3)) (by4h_bB x4)
    refine ⟨_, _, _, _, _, _, _, rfl, rfl, ⟨n + 20, _, MP_J1 (j := 20), updG_self, bB5, by omega, upd_self', fun j hj => ?_⟩, r2.fr ?_ ?_ ?_ ?_, fun s hs => (r3 s hs).fr hs (fun k hk => ?_) (fun k hk => updG_ne (by omega)) ?_ ?_ ?_ ?_ ?_, r4.fr ?_ (fun s hs f hf => ?_) ?_, r5.fr ?_ (updG_ne (by decide)), r6.fr ?_ (updG_ne (by decide)), r7.fr ?_ (updG_ne (by decide)), r8.fr ?_, r9.fr (fun k hk => ?_) (fun k hk => updG_ne (by omega)) (fun k k1 k2 => ?_) (fun k hk => ?_)⟩
    · rw [updG_self]
      rcases Nat.lt_or_ge j n with q | q
      · rw [l3 j q, updG_ne (by decide), a6 j q]
        congr 1
        rw [apn_lo (by omega), apn_lo (by omega), apn_lo (by omega), apn_lo (by omega), apn_lo q]
      · obtain ⟨i, rfl⟩ : ∃ i, j = n + i := ⟨j - n, by omega⟩
        rw [l2 i (by omega)]
        congr 1
        have lo : i < 4 ∨ (4 ≤ i ∧ i < 8) ∨ (8 ≤ i ∧ i < 12) ∨ (12 ≤ i ∧ i < 16) ∨ (16 ≤ i ∧ i < 20) := by omega
        rcases lo with h | h | h | h | h
        · rw [show i / 4 = 0 by omega, show i % 4 = i by omega, apn_lo (by omega), apn_lo (by omega), apn_lo (by omega), apn_lo (by omega), apn_in h]
          rfl
        · obtain ⟨r, rfl⟩ : ∃ r, i = 4 + r := ⟨i - 4, by omega⟩
          rw [show (4 + r) / 4 = 1 by omega, show (4 + r) % 4 = r by omega, apn_lo (by omega), apn_lo (by omega), apn_lo (by omega), show n + (4 + r) = n + 4 + r by omega, apn_in (by omega)]
          rfl
        · obtain ⟨r, rfl⟩ : ∃ r, i = 8 + r := ⟨i - 8, by omega⟩
          rw [show (8 + r) / 4 = 2 by omega, show (8 + r) % 4 = r by omega, apn_lo (by omega), apn_lo (by omega), show n + (8 + r) = n + 4 + 4 + r by omega, apn_in (by omega)]
          rfl
        · obtain ⟨r, rfl⟩ : ∃ r, i = 12 + r := ⟨i - 12, by omega⟩
          rw [show (12 + r) / 4 = 3 by omega, show (12 + r) % 4 = r by omega, apn_lo (by omega), show n + (12 + r) = n + 4 + 4 + 4 + r by omega, apn_in (by omega)]
          rfl
        · obtain ⟨r, rfl⟩ : ∃ r, i = 16 + r := ⟨i - 16, by omega⟩
          rw [show (16 + r) / 4 = 4 by omega, show (16 + r) % 4 = r by omega, show n + (16 + r) = n + 4 + 4 + 4 + 4 + r by omega, apn_in (by omega)]
          rfl
    · rw [upd_ne' (by decide), upd_ne' (by decide)]
    · rw [upd_ne' (by decide), upd_ne' (by decide)]
    · rw [upd_ne' (by decide), upd_ne' (by decide)]
    · rw [upd_ne' (by decide), upd_ne' (by decide)]
    · rw [upd_ne' (by omega), upd_ne' (by omega)]
    · rw [updG_ne (by omega), updG_ne (by omega)]
    · rw [updG_ne (by omega), updG_ne (by omega)]
    · rw [updG_ne (by omega), updG_ne (by omega)]
    · rw [updG_ne (by omega), updG_ne (by omega)]
    · rw [updG_ne (by omega), updG_ne (by omega)]
    · rw [upd_ne' (by decide), upd_ne' (by decide)]
    · rw [upd_ne' (by omega), upd_ne' (by omega)]
    · rw [updG_ne (by decide), updG_ne (by decide)]
    · rw [upd_ne' (by decide), upd_ne' (by decide)]
    · rw [upd_ne' (by decide), upd_ne' (by decide)]
    · rw [upd_ne' (by decide), upd_ne' (by decide)]
    · rw [updG_ne (by decide), updG_ne (by decide)]
    · rw [upd_ne' (by omega), upd_ne' (by omega)]
    · rw [upd_ne' (by omega), upd_ne' (by omega)]
    · rw [updG_ne (by omega), updG_ne (by omega)]
  · rw [if_neg (show ¬ nI n ≤ 1980 from nI_ge (a := 1980) (by omega) (by omega)), if_neg (show ¬ nI (n + 20) ≤ 2000 from nI_ge (a := 2000) (by omega) (by omega))]
    exact ⟨_, _, _, _, _, _, _, rfl, rfl, R'.i0⟩
end KF1
