/-! THE CLASS'S SPANS in the memory written out. -/
abbrev MP (cy : Nat → ClassId) (iv : Nat → Option Nat) (ad : Nat → Nat) (μ0 : Mem) (J : Nat → Int32) (w : Nat) (B : Nat → Nat → Int32) (j n : Nat) (h : Nat → Int32) (o : Int32) : Mem := MC cy iv ad μ0 (upd (upd J (100 * j + 1) (nI n)) (100 * j + 2) o) w (updG B (j + 1) h)
theorem span_arr {j : Nat} (h : span6 j = true) : arr6 (j + 1) = true ∧ slot6 j = true ∧ len6 (j + 1) ≤ 2400 := by
  rcases span6_c h with rfl | rfl | rfl | rfl | rfl | rfl | rfl | rfl | rfl <;> exact ⟨rfl, rfl, len6_lt _⟩
section CS1
variable {cy : Nat → ClassId} {iv : Nat → Option Nat} {ad : Nat → Nat} {μ0 : Mem} {J : Nat → Int32} {w : Nat} {B : Nat → Nat → Int32} {j n : Nat} {h : Nat → Int32} {o : Int32}
theorem MP_id (h1 : J (100 * j + 1) = nI n) : MC cy iv ad μ0 J w B = MP cy iv ad μ0 J w B j n (B (j + 1)) (J (100 * j + 2)) := by
  show _ = MC cy iv ad μ0 (upd (upd J (100 * j + 1) (nI n)) (100 * j + 2) (J (100 * j + 2))) w (updG B (j + 1) (B (j + 1)))
  rw [updG_id, ← h1, upd_id, upd_id]
theorem SP6 (hL : Lay6 iv ad) (hj : span6 j = true) (h1 : J (100 * j + 1) = nI n) (hn : n ≤ len6 (j + 1)) : SP cy (MC cy iv ad μ0 J w B) (ad j) (ad (j + 1)) (len6 (j + 1)) n (B (j + 1)) (J (100 * j + 2)) := by
  have a := span_arr hj
  refine ⟨?_, c_a hL a.1, hn, by omega⟩
  rw [c_s hL hj, ← h1]
  rfl
theorem SPP (hL : Lay6 iv ad) (hj : span6 j = true) (hn : n ≤ len6 (j + 1)) : SP cy (MP cy iv ad μ0 J w B j n h o) (ad j) (ad (j + 1)) (len6 (j + 1)) n h o := by
  have := SP6 (cy := cy) (μ0 := μ0) (J := upd (upd J (100 * j + 1) (nI n)) (100 * j + 2) o) (w := w) (B := updG B (j + 1) h) (n := n) hL hj (by rw [upd_ne' (by omega), upd_self']) hn
  rw [updG_self, upd_self'] at this
  exact this
/-- another span, beside -/
theorem SPO (hL : Lay6 iv ad) {k m : Nat} (hk : span6 k = true) (hkj : k ≠ j) (hj : span6 j = true) (h1 : J (100 * k + 1) = nI m) (hm : m ≤ len6 (k + 1)) : SP cy (MP cy iv ad μ0 J w B j n h o) (ad k) (ad (k + 1)) (len6 (k + 1)) m (B (k + 1)) (J (100 * k + 2)) := by
  have := SP6 (cy := cy) (μ0 := μ0) (J := upd (upd J (100 * j + 1) (nI n)) (100 * j + 2) o) (w := w) (B := updG B (j + 1) h) (n := m) hL hk (by rw [upd_ne' (by omega), upd_ne' (by omega), h1]) hm
  rw [updG_ne (by omega), upd_ne' (by omega), upd_ne' (by omega)] at this
  exact this
theorem span_sl {j k : Nat} (hj : span6 j = true) (hk : span6 k = true) (h : k ≠ j) : slot6 (k + 1) = true ∧ slot6 (j + 1) = true ∧ k + 1 ≠ j + 1 ∧ k ≠ j + 1 ∧ k + 1 ≠ j := by
  have a := span6_c hj
  have b := span6_c hk
  exact ⟨(arr6_s (span_arr hk).1).1, (arr6_s (span_arr hj).1).1, by omega, by omega, by omega⟩
/-- a memory that differs at a span alone -/
theorem MP_conv (hL : Lay6 iv ad) (hj : span6 j = true) {μ' : Mem} {cap n' : Nat} {h' : Nat → Int32} {o' : Int32} (hc : cap = len6 (j + 1)) (S : SP cy μ' (ad j) (ad (j + 1)) cap n' h' o') (F : Fr [ad j, ad (j + 1)] (MP cy iv ad μ0 J w B j n h o) μ') : μ' = MP cy iv ad μ0 J w B j n' h' o' := by
  have a := span_arr hj
  have S2 := SPP (cy := cy) (μ0 := μ0) (J := J) (w := w) (B := B) (n := n') (h := h') (o := o') hL hj (by rw [← hc]; exact S.2.2.1)
  funext q
  by_cases h1 : q = ad j
  · rw [h1, S.1, S2.1]
  · by_cases h2 : q = ad (j + 1)
    · rw [h2, S.2.1, S2.2.1, hc]
    · rw [F q (by simp [h1, h2])]
      show ML iv μ0 _ q = ML iv μ0 _ q
      unfold ML
      cases e : iv q with
      | none => rfl
      | some i =>
        have hi := hL.2 q i e
        have i1 : i ≠ j := fun z => h1 (by rw [hi.1, z])
        have i2 : i ≠ j + 1 := fun z => h2 (by rw [hi.1, z])
        show c6 cy ad _ w (updG B (j + 1) h) i = c6 cy ad _ w (updG B (j + 1) h') i
        rw [c6_J (by decide) a.2.1 i i1 hi.2, c6_J (by decide) a.2.1 i i1 hi.2, c6_J (by decide) a.2.1 i i1 hi.2, c6_J (by decide) a.2.1 i i1 hi.2]
        unfold c6
        rw [updG_ne i2, updG_ne i2]
theorem P_is (hL : Lay6 iv ad) (hj : span6 j = true) : isO (MC cy iv ad μ0 J w B) (ad j) 4 = true := isO_mk (c_s hL hj)
theorem P_size (hL : Lay6 iv ad) (hj : span6 j = true) (h1 : J (100 * j + 1) = nI n) : rdI (MC cy iv ad μ0 J w B) (ad j) 4 1 = some (nI n) := by
  rw [← h1]
  exact rdI_mk (c_s hL hj) rfl
theorem P_over (hL : Lay6 iv ad) (hj : span6 j = true) : rdI (MC cy iv ad μ0 J w B) (ad j) 4 2 = some (J (100 * j + 2)) := rdI_mk (c_s hL hj) rfl
theorem MP_J1 : (upd (upd J (100 * j + 1) (nI n)) (100 * j + 2) o) (100 * j + 1) = nI n := by rw [upd_ne' (by omega), upd_self']
theorem MP_J2 : (upd (upd J (100 * j + 1) (nI n)) (100 * j + 2) o) (100 * j + 2) = o := upd_self'
theorem P_append (hL : Lay6 iv ad) (hj : span6 j = true) (hn : n < len6 (j + 1)) (x : Int32) : f_X5_append cy (ad j) x (MP cy iv ad μ0 J w B j n h o) = some (MP cy iv ad μ0 J w B j (n + 1) (upd h n (nI (b8 x))) o) := by
  obtain ⟨μ', e, S, F⟩ := s_append (SPP hL hj (Nat.le_of_lt hn)) hn x
  rw [e, MP_conv hL hj rfl S F, b8_eq]
theorem P_appendO (hL : Lay6 iv ad) (hj : span6 j = true) (hn : n = len6 (j + 1)) (x : Int32) : f_X5_append cy (ad j) x (MP cy iv ad μ0 J w B j n h o) = some (MP cy iv ad μ0 J w B j n h 1) := by
  obtain ⟨μ', e, S, F⟩ := s_appendO (SPP hL hj (Nat.le_of_eq hn)) hn x
  rw [e, MP_conv hL hj rfl S F]
theorem P_clear (hL : Lay6 iv ad) (hj : span6 j = true) (hn : n ≤ len6 (j + 1)) : f_X5_clear cy (ad j) (MP cy iv ad μ0 J w B j n h o) = some (MP cy iv ad μ0 J w B j 0 h 0) := by
  obtain ⟨μ', e, S, F⟩ := s_clear (SPP hL hj hn)
  rw [e, MP_conv hL hj rfl S (F.mono (fun q hq => by rw [List.mem_singleton] at hq; rw [hq]; exact List.mem_cons_self))]
theorem P_part (hL : Lay6 iv ad) (hj : span6 j = true) {k m p q : Nat} (hk : span6 k = true) (hkj : k ≠ j) (h1 : J (100 * k + 1) = nI m) (hm : m ≤ len6 (k + 1)) (hpq : p ≤ q) (hq : q ≤ m) (hroom : n + (q - p) ≤ len6 (j + 1)) : f_X5_appendPart cy (ad j) (ad k) (nI p) (nI q) (MP cy iv ad μ0 J w B j n h o) = some (MP cy iv ad μ0 J w B j (n + (q - p)) (va_cpy (B (k + 1)) h p n (q - p)) o) := by
  have sl := span_sl hj hk hkj
  obtain ⟨μ', e, S, F⟩ := s_appendPart (SPP hL hj (by omega)) (SPO hL hk hkj hj h1 hm) ⟨L6_ne hL (span_arr hj).2.1 (span_arr hk).2.1 (Ne.symm hkj), L6_ne hL sl.2.1 sl.1 (Ne.symm sl.2.2.1)⟩ hpq hq hroom
  rw [e, MP_conv hL hj rfl S F]
/-- no room: it is over -/
theorem P_partO (hL : Lay6 iv ad) (hj : span6 j = true) {k m p q : Nat} (hk : span6 k = true) (hkj : k ≠ j) (h1 : J (100 * k + 1) = nI m) (hm : m ≤ len6 (k + 1)) (hpq : p ≤ q) (hq : q ≤ m) (hn : n ≤ len6 (j + 1)) (hroom : len6 (j + 1) < n + (q - p)) : f_X5_appendPart cy (ad j) (ad k) (nI p) (nI q) (MP cy iv ad μ0 J w B j n h o) = some (MP cy iv ad μ0 J w B j n h 1) := by
  have a := span_arr hj
  have a2 := span_arr hk
  have S1 := SPO (cy := cy) (μ0 := μ0) (w := w) (B := B) (n := n) (h := h) (o := o) hL hk hkj hj h1 hm
  have S := SPP (cy := cy) (μ0 := μ0) (J := J) (w := w) (B := B) (n := n) (h := h) (o := o) hL hj hn
  unfold f_X5_appendPart
  rw [if_neg (nI_pos (by omega)), s_size S1, Option.bind_some, if_neg (nI_nlt hq (by omega)), if_pos (nI_le hpq (by omega)), s_cells S, Option.bind_some, lnA_mk S.2.1, Option.bind_some, s_size S, Option.bind_some, nI_sub' hpq, nI_sub' hn, if_neg (nI_ge (by omega) (by omega)), c_putS hL hj 2 (Or.inr rfl), Option.bind_some, upd_upd]
theorem P_at (hL : Lay6 iv ad) (hj : span6 j = true) (h1 : J (100 * j + 1) = nI n) (hn : n ≤ len6 (j + 1)) {i : Nat} (hi : i < n) : f_X5_at cy (ad j) (nI i) (MC cy iv ad μ0 J w B) = some (B (j + 1) i, MC cy iv ad μ0 J w B) := s_at (SP6 hL hj h1 hn) hi
theorem P_intAt (hL : Lay6 iv ad) (hj : span6 j = true) (h1 : J (100 * j + 1) = nI n) (hn : n ≤ len6 (j + 1)) {i : Nat} (hi : i + 4 ≤ n) : f_X5_intAt cy (ad j) (nI i) (MC cy iv ad μ0 J w B) = some (i4 (B (j + 1)) i, MC cy iv ad μ0 J w B) := s_intAt (SP6 hL hj h1 hn) hi
theorem P_longAt (hL : Lay6 iv ad) (hj : span6 j = true) (h1 : J (100 * j + 1) = nI n) (hn : n ≤ len6 (j + 1)) {i : Nat} (hi : i + 8 ≤ n) : f_X5_longAt cy (ad j) (nI i) (MC cy iv ad μ0 J w B) = some (i8 (B (j + 1)) i, MC cy iv ad μ0 J w B) := s_longAt (SP6 hL hj h1 hn) hi
theorem P_behindName (hL : Lay6 iv ad) (hj : span6 j = true) (h1 : J (100 * j + 1) = nI n) (hn : n ≤ len6 (j + 1)) {i : Nat} (hi : i ≤ n) : f_X5_behindName cy (ad j) (nI i) (MC cy iv ad μ0 J w B) = some (nI (bn (B (j + 1)) n i), MC cy iv ad μ0 J w B) := s_behindName (SP6 hL hj h1 hn) hi
theorem P_zeroFrom (hL : Lay6 iv ad) (hj : span6 j = true) (h1 : J (100 * j + 1) = nI n) (hn : n ≤ len6 (j + 1)) {p q : Nat} (hp : p ≤ q) (hq : q ≤ n) : f_X5_zeroFrom cy (ad j) (nI p) (nI q) (MC cy iv ad μ0 J w B) = some (zfI (zf (B (j + 1)) p (q - p)), MC cy iv ad μ0 J w B) := s_zeroFrom (SP6 hL hj h1 hn) hp hq
/-- it becomes another one -/
theorem P_become (hL : Lay6 iv ad) (hj : span6 j = true) {k m : Nat} (hk : span6 k = true) (hkj : k ≠ j) (h1 : J (100 * k + 1) = nI m) (hm : m ≤ len6 (k + 1)) (hm2 : m ≤ len6 (j + 1)) (hn : n ≤ len6 (j + 1)) : f_X5_become cy (ad j) (ad k) (MP cy iv ad μ0 J w B j n h o) = some (MP cy iv ad μ0 J w B j m (va_cpy (B (k + 1)) h 0 0 m) 0) := by
  unfold f_X5_become
  rw [if_pos (P_is hL hj), P_clear hL hj hn, Option.bind_some, s_size (SPO hL hk hkj hj h1 hm), Option.bind_some, if_pos (P_is hL hj)]
  have := P_part (cy := cy) (μ0 := μ0) (w := w) (B := B) (n := 0) (h := h) (o := 0) (p := 0) (q := m) hL hj hk hkj h1 hm (Nat.zero_le _) (Nat.le_refl _) (by omega)
  rw [show f_X5_appendPart cy (ad j) (ad k) 0 (nI m) (MP cy iv ad μ0 J w B j 0 h 0) = _ from this, Option.bind_some, show 0 + (m - 0) = m by omega, Nat.sub_zero]
/-- an int, lowest byte first, at p -/
def pI (b : Nat → Nat) (p : Nat) (v : Int32) : Nat → Nat := fun i => if p ≤ i ∧ i < p + 4 then by4 v (i - p) else b i
theorem pI_in {b : Nat → Nat} {p k : Nat} {v : Int32} (hk : k < 4) : pI b p v (p + k) = by4 v k := by
  unfold pI
  rw [if_pos (by omega), show p + k - p = k by omega]
theorem pI_out {b : Nat → Nat} {p i : Nat} {v : Int32} (h : i < p ∨ p + 4 ≤ i) : pI b p v i = b i := if_neg (by omega)
theorem pI_i4 {b : Nat → Nat} {p : Nat} {v : Int32} : i4 (hb (pI b p v)) p = v := i4_by (fun k hk => by show nI (pI b p v (p + k)) = _; rw [pI_in hk])
theorem pI_bB {b : Nat → Nat} {p : Nat} {v : Int32} (h : bB b) : bB (pI b p v) := fun i => by
  unfold pI
  by_cases c : p ≤ i ∧ i < p + 4
  · rw [if_pos c]; exact by4_lt _ _
  · rw [if_neg c]; exact h i
theorem pI_4 {b : Nat → Nat} {p : Nat} {v : Int32} : updG (updG (updG (updG b p (by4 v 0)) (p + 1) (by4 v 1)) (p + 2) (by4 v 2)) (p + 3) (by4 v 3) = pI b p v := by
  funext i
  unfold pI updG
  by_cases c3 : i = p + 3
  · rw [if_pos c3, if_pos (by omega), show i - p = 3 by omega]
  · rw [if_neg c3]
    by_cases c2 : i = p + 2
    · rw [if_pos c2, if_pos (by omega), show i - p = 2 by omega]
    · rw [if_neg c2]
      by_cases c1 : i = p + 1
      · rw [if_pos c1, if_pos (by omega), show i - p = 1 by omega]
      · rw [if_neg c1]
        by_cases c0 : i = p
        · rw [if_pos c0, if_pos (by omega), show i - p = 0 by omega]
        · rw [if_neg c0, if_neg (by omega)]
theorem P_put1 (hL : Lay6 iv ad) (hj : span6 j = true) {b : Nat → Nat} {i : Nat} (hi : i < len6 (j + 1)) (x : Int32) : wrA cy (MP cy iv ad μ0 J w B j n (hb b) o) 1 (ad (j + 1)) (nI i) (x &&& 255) = some (MP cy iv ad μ0 J w B j n (hb (updG b i (b8 x))) o) := by
  rw [c_st hL (j + 1) (span_arr hj).1 hi, updG_self, updG_updG, b8_eq, hb_upd]
theorem P_putInt (hL : Lay6 iv ad) (hj : span6 j = true) {b : Nat → Nat} {p : Nat} (hp : p + 4 ≤ n) (hn : n ≤ len6 (j + 1)) (v : Int32) : f_X5_putInt cy (ad j) (nI p) v (MP cy iv ad μ0 J w B j n (hb b) o) = some (MP cy iv ad μ0 J w B j n (hb (pI b p v)) o) := by
  have a := span_arr hj
  have hc : ∀ b, rdR (MP cy iv ad μ0 J w B j n (hb b) o) (ad j) 4 0 = some (ad (j + 1)) := fun b => s_cells (SPP hL hj hn)
  unfold f_X5_putInt
  rw [if_neg (nI_pos (by omega)), s_size (SPP hL hj hn), Option.bind_some, show (4 : Int32) = nI 4 by decide +kernel, nI_sub' (by omega), if_pos (nI_le (by omega) (by omega))]
  show f_X5_putInt_L17 cy (99995 + 1 + 1 + 1 + 1 + 1) (ad j) (nI p) v 0 _ = _
  have e0 : (0 : Int32) = nI 0 := rfl
  rw [e0, f_X5_putInt_L17, if_neg (by decide), hc, Option.bind_some, nI_p, P_put1 hL hj (by omega), Option.bind_some, nI_a1, f_X5_putInt_L17, if_neg (by decide), hc, Option.bind_some, nI_p, P_put1 hL hj (by omega), Option.bind_some, nI_a1, f_X5_putInt_L17, if_neg (by decide), hc, Option.bind_some, nI_p, P_put1 hL hj (by omega), Option.bind_some, nI_a1, f_X5_putInt_L17, if_neg (by decide), hc, Option.bind_some, nI_p, P_put1 hL hj (by omega), Option.bind_some, nI_a1, f_X5_putInt_L17, if_pos (by decide)]
  congr 4
  exact pI_4
/-- bytes by number: the state with n bytes b -/
theorem P_appendB (hL : Lay6 iv ad) (hj : span6 j = true) {b : Nat → Nat} (hn : n < len6 (j + 1)) (x : Int32) : f_X5_append cy (ad j) x (MP cy iv ad μ0 J w B j n (hb b) o) = some (MP cy iv ad μ0 J w B j (n + 1) (hb (updG b n (b8 x))) o) := by
  rw [P_append hL hj hn, hb_upd]
/-- k bytes more, by a rule -/
def apn (b : Nat → Nat) (n : Nat) (f : Nat → Nat) (k : Nat) : Nat → Nat := fun i => if n ≤ i ∧ i < n + k then f (i - n) else b i
theorem apn_0 {b f : Nat → Nat} : apn b n f 0 = b := by
  funext i
  exact if_neg (by omega)
theorem apn_s {b f : Nat → Nat} {k : Nat} : updG (apn b n f k) (n + k) (f k) = apn b n f (k + 1) := by
  funext i
  unfold apn updG
  by_cases c : i = n + k
  · rw [if_pos c, if_pos (by omega), show i - n = k by omega]
  · rw [if_neg c]
    show (if n ≤ i ∧ i < n + k then f (i - n) else b i) = _
    by_cases c2 : n ≤ i ∧ i < n + k
    · rw [if_pos c2, if_pos (by omega)]
    · rw [if_neg c2, if_neg (by omega)]
theorem apn_in {b f : Nat → Nat} {k i : Nat} (h : i < k) : apn b n f k (n + i) = f i := by
  unfold apn
  rw [if_pos (by omega), show n + i - n = i by omega]
theorem apn_lo {b f : Nat → Nat} {k i : Nat} (h : i < n) : apn b n f k i = b i := if_neg (by omega)
theorem apn_bB {b f : Nat → Nat} {k : Nat} (h : bB b) (hf : bB f) : bB (apn b n f k) := fun i => by
  unfold apn
  by_cases c : n ≤ i ∧ i < n + k
  · rw [if_pos c]; exact hf _
  · rw [if_neg c]; exact h i
def by8 (v : Int64) (k : Nat) : Nat := b8 (Int64.toInt32 (v >>> (Int32.toInt64 (8 * nI k) &&& 63)))
theorem P_low_L (hL : Lay6 iv ad) (hj : span6 j = true) (v : Int64) (m : Nat) (hm : m ≤ 8) (b : Nat → Nat) : ∀ (r k f : Nat), k + r = m → r < f → n + m ≤ len6 (j + 1) → f_X5_appendLowestFirst_L3 cy f (ad j) v (nI m) (nI k) (MP cy iv ad μ0 J w B j (n + k) (hb (apn b n (by8 v) k)) o) = some (MP cy iv ad μ0 J w B j (n + m) (hb (apn b n (by8 v) m)) o)
  | r, k, 0, _, hf, _ => by omega
  | 0, k, f + 1, hk, hf, hn => by
    have : k = m := by omega
    subst this
    rw [f_X5_appendLowestFirst_L3, if_pos (nI_le (Nat.le_refl _) (by omega))]
  | r + 1, k, f + 1, hk, hf, hn => by
    rw [f_X5_appendLowestFirst_L3, if_neg (nI_ge (by omega) (by omega)), if_neg (show ¬ (8 : Int32) ≤ nI k from nI_ge (b := 8) (by omega) (by decide)), if_pos (P_is hL hj), P_appendB hL hj (by omega), Option.bind_some, nI_a1]
    have e1 : b8 (Int64.toInt32 (v >>> (Int32.toInt64 (8 * nI k) &&& 63))) = by8 v k := rfl
    rw [e1, apn_s]
    exact P_low_L hL hj v m hm b r (k + 1) f (by omega) (by omega) hn
theorem P_low (hL : Lay6 iv ad) (hj : span6 j = true) (v : Int64) {m : Nat} (hm : m ≤ 8) {b : Nat → Nat} (hn : n + m ≤ len6 (j + 1)) : f_X5_appendLowestFirst cy (ad j) v (nI m) (MP cy iv ad μ0 J w B j n (hb b) o) = some (MP cy iv ad μ0 J w B j (n + m) (hb (apn b n (by8 v) m)) o) := by
  unfold f_X5_appendLowestFirst
  have := P_low_L (cy := cy) (μ0 := μ0) (J := J) (w := w) (B := B) (n := n) (o := o) hL hj v m hm b m 0 FU (by omega) (by show m < 100000; omega) hn
  rw [apn_0] at this
  exact this
/-- an int, highest byte first -/
def by4h (v : Int32) (k : Nat) : Nat := by4 v (3 - k)
theorem P_high (hL : Lay6 iv ad) (hj : span6 j = true) (v : Int32) {b : Nat → Nat} (hn : n + 4 ≤ len6 (j + 1)) : f_X5_appendHighestFirst cy (ad j) v (MP cy iv ad μ0 J w B j n (hb b) o) = some (MP cy iv ad μ0 J w B j (n + 4) (hb (apn b n (by4h v) 4)) o) := by
  unfold f_X5_appendHighestFirst
  show f_X5_appendHighestFirst_L2 cy (99995 + 1 + 1 + 1 + 1 + 1) (ad j) v (nI 3) _ = _
  rw [f_X5_appendHighestFirst_L2, if_neg (by decide), if_pos (P_is hL hj), P_appendB hL hj (by omega), Option.bind_some, show nI 3 + (-1) = nI 2 by decide, f_X5_appendHighestFirst_L2, if_neg (by decide), if_pos (P_is hL hj), P_appendB hL hj (by omega), Option.bind_some, show nI 2 + (-1) = nI 1 by decide, f_X5_appendHighestFirst_L2, if_neg (by decide), if_pos (P_is hL hj), P_appendB hL hj (by omega), Option.bind_some, show nI 1 + (-1) = nI 0 by decide, f_X5_appendHighestFirst_L2, if_neg (by decide), if_pos (P_is hL hj), P_appendB hL hj (by omega), Option.bind_some, show nI 0 + (-1) = -1 by decide, f_X5_appendHighestFirst_L2, if_pos (by decide)]
  have e3 : b8 (v >>> ((8 * nI 3) &&& 31)) = by4h v 0 := rfl
  have e2 : b8 (v >>> ((8 * nI 2) &&& 31)) = by4h v 1 := rfl
  have e1 : b8 (v >>> ((8 * nI 1) &&& 31)) = by4h v 2 := rfl
  have e0 : b8 (v >>> ((8 * nI 0) &&& 31)) = by4h v 3 := rfl
  rw [e3, e2, e1, e0]
  have a0 : updG b n (by4h v 0) = apn b n (by4h v) 1 := by
    have := apn_s (n := n) (b := b) (f := by4h v) (k := 0)
    rw [apn_0] at this
    exact this
  rw [a0, apn_s, show n + 1 + 1 = n + 2 from rfl, apn_s, show n + 2 + 1 = n + 3 from rfl, apn_s]
end CS1
