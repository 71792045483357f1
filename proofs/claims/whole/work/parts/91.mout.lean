/-! THE REFERENCE WRITES: bytes go out. -/
def hs (b : Nat → Nat) : Nat → Int32 := fun j => sx (b j)
theorem hs_upd {b : Nat → Nat} {i v : Nat} : upd (hs b) i (sx v) = hs (updG b i v) := by
  funext j
  unfold upd hs updG
  by_cases c : j = i
  · rw [if_pos c, if_pos c]
  · rw [if_neg c, if_neg c]
theorem b8_sx : ∀ v, v < 256 → b8 (sx v) = v := by decide +kernel
/-- behind s the bytes l come out -/
def AP (ob : Nat → Nat) (s : Nat) (ob' : Nat → Nat) (l : List Nat) : Prop := (∀ j, j < s → ob' j = ob j) ∧ (∀ i, i < l.length → ob' (s + i) = l.getD i 0) ∧ bB ob'
theorem AP.nil {ob : Nat → Nat} {s : Nat} (h : bB ob) : AP ob s ob [] := ⟨fun _ _ => rfl, fun i hi => (by cases hi), h⟩
theorem AP.app {ob ob1 ob2 : Nat → Nat} {s s1 : Nat} {l1 l2 : List Nat} (h1 : AP ob s ob1 l1) (h2 : AP ob1 s1 ob2 l2) (hs : s1 = s + l1.length) : AP ob s ob2 (l1 ++ l2) := by
  subst hs
  refine ⟨fun j hj => by rw [h2.1 j (by omega), h1.1 j hj], fun i hi => ?_, h2.2.2⟩
  rw [List.length_append] at hi
  rcases Nat.lt_or_ge i l1.length with c | c
  · rw [h2.1 _ (by omega), h1.2.1 i c, gd_lo c]
  · rw [gd_hi c, ← h2.2.1 (i - l1.length) (by omega)]
    congr 1
    omega
theorem AP.one {ob : Nat → Nat} {s v : Nat} (h : bB ob) (hv : v < 256) : AP ob s (updG ob s v) [v] := by
  refine ⟨fun j hj => updG_ne (by omega), fun i hi => ?_, h.upd hv⟩
  have : i = 0 := by simpa using hi
  subst this
  exact updG_self
abbrev MW (cy : Nat → ClassId) (iv : Nat → Option Nat) (ad : Nat → Nat) (μ0 : Mem) (I : Nat → Int32) (V : Nat → Value) (A : Nat → Nat → Int32) (N : Nat) (X : Nat → Nat → Int32) (s : Nat) (ob : Nat → Nat) (Fg : Nat → Int32) : Mem := MT cy iv ad μ0 (upd I 27 (nI s)) V (updG (updG A 26 (hs ob)) 20 Fg) 60 N X
section WO1
variable {cy : Nat → ClassId} {iv : Nat → Option Nat} {ad : Nat → Nat} {μ0 : Mem} {I : Nat → Int32} {V : Nat → Value} {A : Nat → Nat → Int32} {sd n N : Nat} {bs : Nat → Nat} {X : Nat → Nat → Int32} {s : Nat} {ob : Nat → Nat} {Fg : Nat → Int32}
theorem TX.w (F : TX iv ad V A 21 60 sd bs n) (ob : Nat → Nat) (Fg : Nat → Int32) : TX iv ad V (updG (updG A 26 (hs ob)) 20 Fg) 21 60 sd bs n := by
  have t := F.tt
  obtain ⟨f1, f2, f3, f4, f5, f6, f7⟩ := F
  exact ⟨f1, f2, f3, f4, fun j hj => by rw [updG_ne (by omega), updG_ne (by omega)]; exact f5 j hj, f6, f7⟩
theorem w_o (F : TX iv ad V A 21 60 sd bs n) : isO (MW cy iv ad μ0 I V A N X s ob Fg) (ad 0) 7 = true := m_is F.1
theorem w_sz (F : TX iv ad V A 21 60 sd bs n) : rdI (MW cy iv ad μ0 I V A N X s ob Fg) (ad 0) 7 27 = some (nI s) := m_int F.1 rfl
theorem w_26 (F : TX iv ad V A 21 60 sd bs n) : rdR (MW cy iv ad μ0 I V A N X s ob Fg) (ad 0) 7 26 = some (ad 26) := m_ref F.1 rfl
theorem w_21 (F : TX iv ad V A 21 60 sd bs n) : rdR (MW cy iv ad μ0 I V A N X s ob Fg) (ad 0) 7 21 = some (ad 21) := m_ref F.1 rfl
theorem w_20 (F : TX iv ad V A 21 60 sd bs n) : rdR (MW cy iv ad μ0 I V A N X s ob Fg) (ad 0) 7 20 = some (ad 20) := m_ref F.1 rfl
theorem w_set (F : TX iv ad V A 21 60 sd bs n) (s' : Nat) : wrF (MW cy iv ad μ0 I V A N X s ob Fg) (ad 0) 7 27 (.int (nI s')) = some (MW cy iv ad μ0 I V A N X s' ob Fg) := by
  rw [m_put F.1 rfl (by decide), upd_cm (show 60 + 1 ≠ 27 by decide), upd_upd]
theorem w_st (F : TX iv ad V A 21 60 sd bs n) {i v : Nat} (hi : i < 12000) : wrA cy (MW cy iv ad μ0 I V A N X s ob Fg) 0 (ad 26) (nI i) (sx v) = some (MW cy iv ad μ0 I V A N X s (updG ob i v) Fg) := by
  have := m_st (cy := cy) (μ0 := μ0) (I := upd (upd I 27 (nI s)) (60 + 1) (nI N)) (V := V) (A := tA 60 (updG (updG A 26 (hs ob)) 20 Fg) X) (i := i) F.1 26 rfl hi (sx v)
  rw [tA_out (Or.inl (by decide)), updG_ne (show 26 ≠ 20 by decide), updG_self, hs_upd, tA_o (Or.inl (by decide)), updG_cm (show 20 ≠ 26 by decide), updG_updG] at this
  exact this
theorem w_puts (F : TX iv ad V A 21 60 sd bs n) (hs' : s < 12000) (x : Int32) : f_X8_puts cy (ad 0) x (MW cy iv ad μ0 I V A N X s ob Fg) = some (MW cy iv ad μ0 I V A N X (s + 1) (updG ob s (b8 x)) Fg) := by
  unfold f_X8_puts
  have e : vp_nar .byte ((Int32.toInt8 x).toInt32) = sx (b8 x) := by
    rw [sx_b8]
    exact bB_of (b8_lt x)
  rw [w_26 F, Option.bind_some, w_sz F, Option.bind_some, e, w_st F hs', Option.bind_some, w_sz F, Option.bind_some, nI_a1, w_set F, Option.bind_some]
/-- bytes vb, L of them, lie at a -/
def BS (cy : Nat → ClassId) (iv : Nat → Option Nat) (ad : Nat → Nat) (μ0 : Mem) (I : Nat → Int32) (V : Nat → Value) (A : Nat → Nat → Int32) (N : Nat) (X : Nat → Nat → Int32) (Fg : Nat → Int32) (a : Nat) (vb : Nat → Nat) (L : Nat) : Prop := bB vb ∧ L < 2 ^ 30 ∧ ∀ s ob j, j < L → rdA cy (MW cy iv ad μ0 I V A N X s ob Fg) 0 a (nI j) = some (sx (vb j))
theorem w_allL (F : TX iv ad V A 21 60 sd bs n) {a p k L : Nat} {vb : Nat → Nat} (hv : BS cy iv ad μ0 I V A N X Fg a vb L) (hp : p + k ≤ L) : ∀ (r j f s : Nat) (ob : Nat → Nat), bB ob → j + r = k → r < f → s + r ≤ 12000 → ∃ ob', f_X8_putsAll_L3 cy f (ad 0) a (nI p) (nI k) (nI j) (MW cy iv ad μ0 I V A N X s ob Fg) = some (MW cy iv ad μ0 I V A N X (s + r) ob' Fg) ∧ AP ob s ob' (sl vb (p + j) (p + k))
  | r, j, 0, s, ob, _, _, hf, _ => by omega
  | 0, j, f + 1, s, ob, hB, hj, _, _ => by
    have hL := hv.2.1
    have : j = k := by omega
    subst this
    rw [f_X8_putsAll_L3, if_pos (nI_le (Nat.le_refl _) (by omega)), sl_nil]
    exact ⟨ob, rfl, AP.nil hB⟩
  | r + 1, j, f + 1, s, ob, hB, hj, hf, hs => by
    have hL := hv.2.1
    have hvb := hv.1 (p + j)
    obtain ⟨ob', e1, e2⟩ := w_allL F hv hp r (j + 1) f (s + 1) (updG ob s (vb (p + j))) (hB.upd hvb) (by omega) (by omega) (by omega)
    refine ⟨ob', ?_, ?_⟩
    · rw [f_X8_putsAll_L3, if_neg (nI_ge (by omega) (by omega)), nI_p, hv.2.2 s ob (p + j) (by omega), Option.bind_some, if_pos (w_o F), w_puts F (by omega), Option.bind_some, b8_sx _ hvb, nI_a1, show s + (r + 1) = s + 1 + r by omega]
      exact e1
    · have := (AP.one (s := s) hB hvb).app e2 rfl
      rw [show p + (j + 1) = p + j + 1 by omega, ← sl_one, sl_cat (by omega) (by omega)] at this
      exact this
theorem w_all (F : TX iv ad V A 21 60 sd bs n) {a p k L : Nat} {vb : Nat → Nat} (hv : BS cy iv ad μ0 I V A N X Fg a vb L) (hp : p + k ≤ L) (hB : bB ob) (hs : s + k ≤ 12000) : ∃ ob', f_X8_putsAll cy (ad 0) a (nI p) (nI k) (MW cy iv ad μ0 I V A N X s ob Fg) = some (MW cy iv ad μ0 I V A N X (s + k) ob' Fg) ∧ AP ob s ob' (sl vb p (p + k)) := by
  unfold f_X8_putsAll
  have := w_allL F hv hp k 0 FU s ob hB (by omega) (by show k < 100000; omega) hs
  rw [Nat.add_zero] at this
  exact this
/-- an int, lowest byte first: its first k bytes -/
def pIk (b : Nat → Nat) (p : Nat) (v : Int32) (k : Nat) : Nat → Nat := fun i => if p ≤ i ∧ i < p + k then by4 v (i - p) else b i
theorem pIk_s {b : Nat → Nat} {p k : Nat} {v : Int32} : updG (pIk b p v k) (p + k) (by4 v k) = pIk b p v (k + 1) := by
  funext i
  unfold updG pIk
  by_cases c : i = p + k
  · subst c
    rw [if_pos rfl, if_pos (by omega), show p + k - p = k by omega]
  · rw [if_neg c]
    by_cases c2 : p ≤ i ∧ i < p + k
    · rw [if_pos c2, if_pos (by omega)]
    · rw [if_neg c2, if_neg (by omega)]
theorem w_lenL (F : TX iv ad V A 21 60 sd bs n) {p : Nat} {v : Int32} (hp : p + 4 ≤ 12000) : ∀ (j k f : Nat), k + j = 4 → j < f → f_X8_lengthAt_L3 cy f (ad 26) (nI p) v (nI k) (MW cy iv ad μ0 I V A N X s (pIk ob p v k) Fg) = some (MW cy iv ad μ0 I V A N X s (pI ob p v) Fg)
  | j, k, 0, _, hf => by omega
  | 0, k, f + 1, hk, _ => by
    have : k = 4 := by omega
    subst this
    rw [f_X8_lengthAt_L3, if_pos (by decide)]
    rfl
  | j + 1, k, f + 1, hk, hf => by
    have e : vp_nar .byte ((Int32.toInt8 (v >>> ((8 * nI k) &&& 31))).toInt32) = sx (by4 v k) := by
      unfold by4
      rw [sx_b8]
      exact bB_of (b8_lt _)
    rw [f_X8_lengthAt_L3, if_neg (show ¬ (4 : Int32) ≤ nI k from nI_ge (b := 4) (by omega) (by decide)), nI_p, e, w_st F (by omega), Option.bind_some, pIk_s, nI_a1]
    exact w_lenL F hp j (k + 1) f (by omega) (by omega)
theorem w_len (F : TX iv ad V A 21 60 sd bs n) {p : Nat} {v : Int32} (hp : p + 4 ≤ 12000) : f_X8_lengthAt cy (ad 0) (ad 26) (nI p) v (MW cy iv ad μ0 I V A N X s ob Fg) = some (MW cy iv ad μ0 I V A N X s (pI ob p v) Fg) := by
  unfold f_X8_lengthAt
  have := w_lenL (cy := cy) (μ0 := μ0) (I := I) (N := N) (X := X) (s := s) (ob := ob) (Fg := Fg) (v := v) F hp 4 0 FU (by omega) (by decide)
  rw [show pIk ob p v 0 = ob by funext i; unfold pIk; rw [if_neg (by omega)]] at this
  exact this
/-- four bytes of a length -/
def l4 (v : Nat) : List Nat := (List.range 4).map (by4 (nI v))
theorem l4_len {v : Nat} : (l4 v).length = 4 := rfl
theorem l4_gd {v i : Nat} (h : i < 4) : (l4 v).getD i 0 = by4 (nI v) i := by
  unfold l4
  rw [List.getD_eq_getElem?_getD, List.getElem?_map, List.getElem?_range h]
  rfl
/-- four bytes, then E: the four are made a length -/
theorem AP.len {ob ob1 : Nat → Nat} {s v : Nat} {z E : List Nat} (h : AP ob s ob1 (z ++ E)) (hz : z.length = 4) : AP ob s (pI ob1 s (nI v)) (l4 v ++ E) := by
  refine ⟨fun j hj => by rw [pI_out (by omega), h.1 j hj], fun i hi => ?_, pI_bB h.2.2⟩
  rw [List.length_append, l4_len] at hi
  rcases Nat.lt_or_ge i 4 with c | c
  · rw [pI_in c, gd_lo (by rw [l4_len]; exact c), l4_gd c]
  · rw [pI_out (by omega), h.2.1 i (by rw [List.length_append]; omega), gd_hi (by omega), gd_hi (by rw [l4_len]; exact c), hz, l4_len]
/-- a DOCUMENT of the ELEMENTS E -/
def DW (E : List Nat) : List Nat := l4 (E.length + 5) ++ (E ++ [0])
theorem DW_len {E : List Nat} : (DW E).length = E.length + 5 := by
  unfold DW
  rw [List.length_append, List.length_append, l4_len]
  show 4 + (E.length + 1) = _
  omega
end WO1
