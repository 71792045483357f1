/-! PURE ROWS: the reference's runs of signs, figures, names, texts, binaries. -/
theorem bB_of {x : Nat} (h : x < 256) : vp_nar .byte ((Int32.toInt8 (nI x)).toInt32) = sx x := pk_vb _
theorem sgn_le {h : Nat → Int32} {p e k : Nat} (hs : sgn h p e = some k) : 1 ≤ k ∧ k ≤ 4 ∧ p + k ≤ e := by
  unfold sgn at hs
  split at hs
  · cases hs
  · rename_i m em
    have hm := moreOf_le em
    split at hs
    · cases hs
    · split at hs
      · cases hs
        omega
      · cases hs
theorem fig_lt (v k : Nat) : fig v k < 58 ∧ 48 ≤ fig v k := by
  unfold fig
  have : v / 10 ^ k % 10 < 10 := Nat.mod_lt _ (by decide)
  omega
section MU3
variable {cy : Nat → ClassId} {iv : Nat → Option Nat} {ad : Nat → Nat} {μ0 : Mem} {I : Nat → Int32} {V : Nat → Value} {A : Nat → Nat → Int32} {n : Nat} {b : Nat → Nat} {fk fp : Int32} {G : Nat → Int32} {K : Kt}
theorem m_signs_L (F : MF iv ad I A n b) {e : Nat} (he : e ≤ n) : ∀ (d p f : Nat), e - p ≤ d → p ≤ 30000 → d < f → f_X8_signs_L2 cy f (ad 0) (nI e) (nI p) (MJ cy iv ad μ0 I V A 0 (-1) G) = match bad (hb b) d p e with
    | none => some (1, MJ cy iv ad μ0 I V A 0 (-1) G)
    | some q => some (0, MJ cy iv ad μ0 I V A 5 (nI q) G)
  | d, p, 0, _, _, hf => by omega
  | 0, p, f + 1, hd, hp, hf => by
    have hn := F.2.2.2.2
    unfold f_X8_signs_L2 bad
    rw [if_pos (nI_le (by omega) (by omega))]
  | d + 1, p, f + 1, hd, hp, hf => by
    have hn := F.2.2.2.2
    unfold f_X8_signs_L2 bad
    by_cases hpe : e ≤ p
    · rw [if_pos (nI_le hpe (by omega)), if_pos hpe]
    · rw [if_neg (nI_ge (by omega) (by omega)), if_neg hpe, if_pos (MJ.is F), m_sign F (by omega) he, ob2_some]
      cases es : sgn (hb b) p e with
      | none =>
        rw [if_pos (show sgI none = 0 from rfl), if_pos (MJ.is F), m_wrong F, ob2_some]
      | some k =>
        have hk := sgn_le es
        rw [if_neg (show ¬ sgI (some k) = 0 from nI_ne0 (by omega) (by omega))]
        show f_X8_signs_L2 cy f (ad 0) (nI e) (nI p + nI k) _ = match bad (hb b) d (p + k) e with | none => _ | some q => _
        rw [nI_p]
        exact m_signs_L F he d (p + k) f (by omega) (by omega) (by omega)
theorem m_signs (F : MF iv ad I A n b) {p e : Nat} (hp : p ≤ e) (he : e ≤ n) : f_X8_signs cy (ad 0) (nI p) (nI e) (MJ cy iv ad μ0 I V A 0 (-1) G) = match bad (hb b) (e - p) p e with
    | none => some (1, MJ cy iv ad μ0 I V A 0 (-1) G)
    | some q => some (0, MJ cy iv ad μ0 I V A 5 (nI q) G) := by
  have hn := F.2.2.2.2
  unfold f_X8_signs
  exact m_signs_L F he (e - p) p FU (Nat.le_refl _) (by omega) (by show e - p < 100000; omega)
/-! figures: any memory with the reference's slots -/
theorem m_fgst (hL : Lay iv ad) {k : Nat} (hk : k < 12) (x : Int32) : wrA cy (MR cy iv ad μ0 I V (updG A 20 G)) 0 (ad 20) (nI k) x = some (MR cy iv ad μ0 I V (updG A 20 (upd G k x))) := by
  have h := m_st (cy := cy) (μ0 := μ0) (I := I) (V := V) (A := updG A 20 G) (i := k) hL 20 rfl hk x
  rw [updG_self, updG_updG] at h
  exact h
theorem m_dec28 (hL : Lay iv ad) {N : Int32} : ∀ (k v f : Nat) (G : Nat → Int32), k < 12 → v < 2 ^ 30 → k + 1 < f → ∃ G', f_X8_decimals_L28 cy f (ad 0) N (nI v) (nI k) (MR cy iv ad μ0 I V (updG A 20 G)) = some (N, MR cy iv ad μ0 I V (updG A 20 G')) ∧ (∀ j, j ≤ k → G' j = sx (fig v (k - j))) ∧ ∀ j, k < j → G' j = G j
  | k, v, 0, G, _, _, hf => by omega
  | 0, v, f + 1, G, hk, hv, hf => by
    match f, hf with
    | 0, hf => omega
    | f + 1, hf =>
      have hd : v % 10 < 10 := Nat.mod_lt _ (by decide)
      rw [f_X8_decimals_L28, if_neg (nI_pos (by omega)), m_ref hL rfl, Option.bind_some, show (10 : Int32) = nI 10 by decide +kernel, pk_rem (by omega) (by decide) (by decide), show (48 : Int32) = nI 48 by decide +kernel, nI_p, bB_of (by omega), m_fgst hL (by decide), Option.bind_some, f_X8_decimals_L28, if_pos (by decide)]
      refine ⟨_, rfl, fun j hj => ?_, fun j hj => upd_ne' (by omega)⟩
      have e0 : j = 0 := by omega
      subst e0
      rw [upd_self']
      unfold fig
      rw [Nat.pow_zero, Nat.div_one]
  | k + 1, v, f + 1, G, hk, hv, hf => by
    have hd : v % 10 < 10 := Nat.mod_lt _ (by decide)
    rw [f_X8_decimals_L28, if_neg (nI_pos (by omega)), m_ref hL rfl, Option.bind_some, show (10 : Int32) = nI 10 by decide +kernel, pk_rem (by omega) (by decide) (by decide), show (48 : Int32) = nI 48 by decide +kernel, nI_p, bB_of (by omega), m_fgst hL hk, Option.bind_some, pk_div (by omega) (by decide) (by decide), pk_m1]
    obtain ⟨G', h1, h2, h3⟩ := m_dec28 hL (N := N) k (v / 10) f (upd G (k + 1) (sx (48 + v % 10))) (by omega) (by omega) (by omega)
    refine ⟨G', h1, fun j hj => ?_, fun j hj => ?_⟩
    · by_cases e : j = k + 1
      · subst e
        rw [h3 _ (by omega), upd_self', Nat.sub_self]
        unfold fig
        rw [Nat.pow_zero, Nat.div_one]
      · rw [h2 j (by omega)]
        unfold fig
        rw [Nat.div_div_eq_div_mul, show k + 1 - j = (k - j) + 1 by omega, Nat.pow_succ, Nat.mul_comm 10]
    · rw [h3 j (by omega), upd_ne' (by omega)]
theorem m_dec4 {v : Int32} {m : Nat} {μ : Mem} : ∀ (g r D F : Nat), r / 10 < 10 ^ g → r < 2 ^ 30 → g < F → f_X8_decimals_L4 cy F m v (nI D) (nI r) μ = f_X8_decimals_L28 cy FU m (nI (D + dz g (r / 10))) v (nI (D + dz g (r / 10)) - 1) μ
  | g, r, D, 0, _, _, hF => by omega
  | 0, r, D, F + 1, hr, h3, hF => by
    have : r / 10 = 0 := by simpa using hr
    rw [f_X8_decimals_L4, show (9 : Int32) = nI 9 by decide +kernel, if_pos (nI_le (by omega) (by decide))]
    rfl
  | g + 1, r, D, F + 1, hr, h3, hF => by
    rw [f_X8_decimals_L4, show (9 : Int32) = nI 9 by decide +kernel, dz]
    by_cases h : r ≤ 9
    · rw [if_pos (nI_le h (by decide)), if_pos (by omega)]
      rfl
    · rw [if_neg (nI_ge (by omega) (by omega)), if_neg (by omega), show (10 : Int32) = nI 10 by decide +kernel, pk_div (by omega) (by decide) (by decide), nI_a1]
      have hlt : r / 10 / 10 < 10 ^ g := by
        rw [Nat.pow_succ] at hr
        exact Nat.div_lt_of_lt_mul (by omega)
      rw [m_dec4 g (r / 10) (D + 1) F hlt (by omega) (by omega), Nat.add_assoc]
/-- the decimals of v are its figures -/
theorem m_decimals (hL : Lay iv ad) {v : Nat} (hv : v < 2 ^ 30) (G : Nat → Int32) : ∃ G', f_X8_decimals cy (ad 0) (nI v) (MR cy iv ad μ0 I V (updG A 20 G)) = some (nI (dg v), MR cy iv ad μ0 I V (updG A 20 G')) ∧ ∀ j, j < dg v → G' j = sx (fig v (dg v - 1 - j)) := by
  have hd := dg_le v
  unfold f_X8_decimals
  rw [show (1 : Int32) = nI 1 by decide +kernel, m_dec4 9 v 1 FU (Nat.div_lt_of_lt_mul (by omega)) hv (by show 9 < 100000; decide)]
  have e1 : 1 + dz 9 (v / 10) = dg v := rfl
  rw [e1, show (1 : Int32) = nI 1 by decide +kernel, nI_sub' hd.1]
  obtain ⟨G', h1, h2, -⟩ := m_dec28 (cy := cy) (μ0 := μ0) (I := I) (V := V) (A := A) hL (N := nI (dg v)) (dg v - 1) v FU G (by omega) hv (by show dg v - 1 + 1 < 100000; omega)
  exact ⟨G', h1, fun j hj => h2 j (by omega)⟩
theorem m_num_L (F : MF iv ad I A n b) {p d v : Nat} (hd : p + d ≤ n) (hd10 : d ≤ 10) (hG : ∀ j, j < d → G j = sx (fig v (d - 1 - j))) : ∀ (r k f : Nat), k + r = d → r < f → ∃ x : Int32, f_X8_isNumber_L25 cy f (ad 0) (nI p) (nI d) 1 (nI k) (MJ cy iv ad μ0 I V A fk fp G) = some (x, MJ cy iv ad μ0 I V A fk fp G) ∧ ((∀ j, k ≤ j → j < d → b (p + j) = fig v (d - 1 - j)) → x = 1) ∧ (¬ (∀ j, k ≤ j → j < d → b (p + j) = fig v (d - 1 - j)) → x = 0)
  | r, k, 0, _, hf => by omega
  | 0, k, f + 1, hk, hf => by
    rw [f_X8_isNumber_L25, if_neg (show ¬ (1 : Int32) = 0 by decide), if_pos (nI_le (by omega) (by omega))]
    unfold f_X8_isNumber_L69
    rw [if_pos (Or.inr rfl)]
    exact ⟨1, rfl, fun _ => rfl, fun z => absurd (fun j a1 a2 => by omega) z⟩
  | r + 1, k, f + 1, hk, hf => by
    have hn := F.2.2.2.2
    have hB := F.2.2.2.1
    have hfg : rdA cy (MJ cy iv ad μ0 I V A fk fp G) 0 (ad 20) (nI k) = some (G k) := by
      have h := m_ld (cy := cy) (μ0 := μ0) (I := upd (upd I 3 fk) 4 fp) (V := V) (A := updG A 20 G) (i := k) F.1 20 rfl (by show k < 12; omega)
      rw [updG_self] at h
      exact h
    have hf9 := fig_lt v (d - 1 - k)
    rw [f_X8_isNumber_L25, if_neg (show ¬ (1 : Int32) = 0 by decide), if_neg (nI_ge (by omega) (by omega)), MJ.tp F, Option.bind_some, nI_p, m_rd F (by omega), Option.bind_some, MJ.fg F, Option.bind_some, hfg, Option.bind_some, hG k (by omega)]
    unfold f_X8_isNumber_L61
    rw [nI_a1]
    by_cases e : b (p + k) = fig v (d - 1 - k)
    · rw [if_pos (by rw [e])]
      obtain ⟨x, h1, h2, h3⟩ := m_num_L F hd hd10 hG r (k + 1) f (by omega) (by omega)
      refine ⟨x, h1, fun z => h2 (fun j a1 a2 => z j (by omega) a2), fun z => h3 (fun w => z (fun j a1 a2 => ?_))⟩
      by_cases hj : j = k
      · rw [hj]; exact e
      · exact w j (by omega) a2
    · rw [if_neg (fun z => e (sx_inj (hB _) (by omega) z))]
      match f, hf with
      | 0, hf => omega
      | f + 1, hf =>
        rw [f_X8_isNumber_L25, if_pos rfl]
        unfold f_X8_isNumber_L69
        rw [if_pos (Or.inl rfl)]
        exact ⟨0, rfl, fun z => absurd (z k (Nat.le_refl k) (by omega)) e, fun _ => rfl⟩
theorem rowN_n {p z v : Nat} (hB : ∀ j, b j < 256) : rowN (hb b) p z v ↔ z = p + dg v ∧ ∀ j, 0 ≤ j → j < dg v → b (p + j) = fig v (dg v - 1 - j) := by
  unfold rowN hb
  constructor
  · rintro ⟨h1, h2⟩
    refine ⟨h1, fun j _ hj => ?_⟩
    have := h2 (dg v - j) (by omega) (by omega)
    rw [show z - (dg v - j) = p + j by omega, show dg v - j - 1 = dg v - 1 - j by omega] at this
    exact (nI_eq (by have := hB (p + j); omega) (by have := fig_lt v (dg v - 1 - j); omega)).mp this
  · rintro ⟨h1, h2⟩
    refine ⟨h1, fun k a1 a2 => ?_⟩
    have := h2 (dg v - k) (by omega) (by omega)
    rw [show p + (dg v - k) = z - k by omega, show dg v - 1 - (dg v - k) = k - 1 by omega] at this
    rw [this]
theorem m_isNumber (F : MF iv ad I A n b) {p z v : Nat} (hp : p ≤ z) (hz : z ≤ n) (hv : v < 2 ^ 30) : ∃ (x : Int32) (G' : Nat → Int32), f_X8_isNumber cy (ad 0) (nI p) (nI z) (nI v) (MJ cy iv ad μ0 I V A fk fp G) = some (x, MJ cy iv ad μ0 I V A fk fp G') ∧ (rowN (hb b) p z v → x = 1) ∧ (¬ rowN (hb b) p z v → x = 0) := by
  have hn := F.2.2.2.2
  have hd := dg_le v
  unfold f_X8_isNumber
  obtain ⟨G', h1, h2⟩ := m_decimals (cy := cy) (μ0 := μ0) (I := upd (upd I 3 fk) 4 fp) (V := V) (A := A) F.1 hv G
  rw [if_pos (MJ.is F), h1, ob2_some, nI_sub' hp, rowN_n F.2.2.2.1]
  unfold f_X8_isNumber_L20
  by_cases e : dg v = z - p
  · rw [if_pos (by rw [e])]
    obtain ⟨x, g1, g2, g3⟩ := m_num_L (cy := cy) (μ0 := μ0) (V := V) (fk := fk) (fp := fp) (p := p) (d := dg v) (v := v) F (by omega) hd.2 h2 (dg v) 0 FU (by omega) (by show dg v < 100000; omega)
    exact ⟨x, G', g1, fun w => g2 w.2, fun w => g3 (fun u => w ⟨by omega, u⟩)⟩
  · rw [if_neg (fun w => e ((nI_eq (by omega) (by omega)).mp w))]
    refine ⟨0, G', ?_, fun w => absurd (by have := w.1; omega) e, fun _ => rfl⟩
    show f_X8_isNumber_L25 cy (99999 + 1) _ _ _ _ _ _ = _
    rw [f_X8_isNumber_L25, if_pos rfl]
    unfold f_X8_isNumber_L69
    rw [if_pos (Or.inl rfl)]
theorem bad_ascii {h : Nat → Int32} : ∀ (f p e : Nat), (∀ j, p ≤ j → j < e → moreOf (h j) = some 0) → bad h f p e = none
  | 0, p, e, _ => rfl
  | f + 1, p, e, hh => by
    unfold bad
    by_cases hpe : e ≤ p
    · rw [if_pos hpe]
    · rw [if_neg hpe]
      have h1 : sgn h p e = some 1 := by
        unfold sgn
        rw [hh p (Nat.le_refl p) (by omega)]
        show (if e - p ≤ 0 then none else @ite (Option Nat) (sgOk h p 0) (Classical.propDecidable _) (some (1 + 0)) none) = _
        rw [if_neg (by omega), if_pos ⟨fun k a1 a2 => by omega, fun a1 => by omega⟩]
      rw [h1]
      exact bad_ascii f (p + 1) e (fun j a1 a2 => hh j (by omega) a2)
theorem rowN_bad {p z v f : Nat} (hB : ∀ j, b j < 256) (h : rowN (hb b) p z v) : bad (hb b) f p z = none := by
  refine bad_ascii f p z (fun j a1 a2 => ?_)
  obtain ⟨h1, h2⟩ := (rowN_n hB).mp h
  have h3 := h2 (j - p) (by omega) (by omega)
  rw [show p + (j - p) = j by omega] at h3
  have h4 := fig_lt v (dg v - 1 - (j - p))
  show moreOf (nI (b j)) = _
  rw [moreOf_n (hB j), if_pos (by omega)]
theorem m_name (F : MF iv ad I A n b) {p w : Nat} (hp : p ≤ w) (hw : w ≤ n) {row : Option Nat} (hv : ∀ v, row = some v → v < 2 ^ 30) : RN (MJ cy iv ad μ0 I V A) (jNm (hb b) K p w row) (f_X8_name cy (ad 0) (nI p) (nI w) (rwI row) (MJ cy iv ad μ0 I V A 0 (-1) G)) := by
  have hn := F.2.2.2.2
  unfold f_X8_name
  rw [if_pos (MJ.is F), m_zero F hp hw, ob2_some]
  have hL : ∀ (z : Nat) (G : Nat → Int32), p ≤ z → z < n → RN (MJ cy iv ad μ0 I V A) (match bad (hb b) (z - p) p z with | some q => .inl (5, q) | none => .inr (z + 1, K)) (f_X8_name_L43 cy (ad 0) (nI p) (nI z) (MJ cy iv ad μ0 I V A 0 (-1) G)) := by
    intro z G h1 h2
    unfold f_X8_name_L43
    rw [if_pos (MJ.is F), m_signs F h1 (by omega)]
    cases eb : bad (hb b) (z - p) p z with
    | none =>
      show RN _ (.inr (z + 1, K)) (ob2 (some (1, _)) _)
      rw [ob2_some, if_neg (show ¬ (1 : Int32) = 0 by decide), nI_a1]
      exact ⟨G, rfl⟩
    | some q =>
      show RN _ (.inl (5, q)) (ob2 (some (0, _)) _)
      rw [ob2_some, if_pos rfl]
      exact ⟨G, rfl⟩
  cases row with
  | none =>
    unfold jNm jN
    cases ez : zf (hb b) p (w - p) with
    | none =>
      rw [if_neg (show ¬ (0 : Int32) ≤ zfI none by decide), if_pos (MJ.is F), m_wrong F, ob2_some]
      exact ⟨G, rfl⟩
    | some z =>
      have hz := zf_some ez
      rw [if_pos (show (0 : Int32) ≤ zfI (some z) from nI_pos' (by omega)), if_pos (show rwI none < 0 by decide)]
      exact hL z G (by omega) (by omega)
  | some v =>
    unfold jNm jRN
    have hv1 := hv v rfl
    cases ez : zf (hb b) p (w - p) with
    | none =>
      rw [if_neg (show ¬ (0 : Int32) ≤ zfI none by decide), if_pos (MJ.is F), m_wrong F, ob2_some]
      exact ⟨G, rfl⟩
    | some z =>
      have hz := zf_some ez
      rw [if_pos (show (0 : Int32) ≤ zfI (some z) from nI_pos' (by omega)), if_neg (show ¬ rwI (some v) < 0 from nI_pos (by omega)), if_pos (MJ.is F)]
      obtain ⟨x, G', h1, h2, h3⟩ := m_isNumber (cy := cy) (μ0 := μ0) (V := V) (fk := 0) (fp := -1) (G := G) (p := p) (z := z) F (by omega) (by omega) hv1
      show RN _ (@ite JR (rowN (hb b) p z v) (Classical.propDecidable _) (.inr (z + 1, K)) (.inl (6, p))) (ob2 (f_X8_isNumber cy (ad 0) (nI p) (nI z) (nI v) _) _)
      rw [h1, ob2_some]
      by_cases e : rowN (hb b) p z v
      · rw [h2 e, if_neg (show ¬ (1 : Int32) = 0 by decide), if_pos e]
        have := hL z G' (by omega) (by omega)
        rw [rowN_bad F.2.2.2.1 e] at this
        exact this
      · rw [h3 e, if_pos (show (0 : Int32) = 0 from rfl), if_neg e, if_pos (MJ.is F), m_wrong F, ob2_some]
        exact ⟨G', rfl⟩
end MU3
