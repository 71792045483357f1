/-! THE REFERENCE WRITES: ELEMENTS, VALUES, DOCUMENTS, each by what its parts are. -/
section WO2
variable {cy : Nat → ClassId} {iv : Nat → Option Nat} {ad : Nat → Nat} {μ0 : Mem} {I : Nat → Int32} {V : Nat → Value} {A : Nat → Nat → Int32} {sd n N : Nat} {bs : Nat → Nat} {X : Nat → Nat → Int32} {s : Nat} {ob : Nat → Nat} {Fg : Nat → Int32}
def WVal (cy : Nat → ClassId) (iv : Nat → Option Nat) (ad : Nat → Nat) (μ0 : Mem) (I : Nat → Int32) (V : Nat → Value) (A : Nat → Nat → Int32) (N : Nat) (X : Nat → Nat → Int32) (d : Nat) (k : Int32) (L : List Nat) : Prop := ∀ s ob Fg, bB ob → s + L.length ≤ 11000 → ∃ ob' Fg', f_X8_writeValue cy d (ad 0) k (MW cy iv ad μ0 I V A N X s ob Fg) = some (MW cy iv ad μ0 I V A N X (s + L.length) ob' Fg') ∧ AP ob s ob' L
def WDoc (cy : Nat → ClassId) (iv : Nat → Option Nat) (ad : Nat → Nat) (μ0 : Mem) (I : Nat → Int32) (V : Nat → Value) (A : Nat → Nat → Int32) (N : Nat) (X : Nat → Nat → Int32) (d node : Nat) (L : List Nat) : Prop := ∀ s ob Fg, bB ob → s + L.length ≤ 11000 → ∃ ob' Fg', f_X8_writeDoc cy d (ad 0) (nI node) (MW cy iv ad μ0 I V A N X s ob Fg) = some (MW cy iv ad μ0 I V A N X (s + L.length) ob' Fg') ∧ AP ob s ob' L
def WEl (cy : Nat → ClassId) (iv : Nat → Option Nat) (ad : Nat → Nat) (μ0 : Mem) (I : Nat → Int32) (V : Nat → Value) (A : Nat → Nat → Int32) (N : Nat) (X : Nat → Nat → Int32) (d : Nat) (k : Int32) (v : Nat) (row : Bool) (L : List Nat) : Prop := ∀ s ob Fg, bB ob → s + L.length ≤ 11000 → ∃ ob' Fg', f_X8_writeElement cy d (ad 0) k (nI v) (bI row) (MW cy iv ad μ0 I V A N X s ob Fg) = some (MW cy iv ad μ0 I V A N X (s + L.length) ob' Fg') ∧ AP ob s ob' L
theorem bs_sd (F : TX iv ad V A 21 60 sd bs n) : BS cy iv ad μ0 I V A N X Fg (ad sd) bs n := ⟨F.2.2.2.2.2.1, by have := F.2.2.2.2.2.2; omega, fun s ob j hj => x_by (F.w ob Fg) hj⟩
theorem w_dec (F : TX iv ad V A 21 60 sd bs n) {v : Nat} (hv : v < 2 ^ 30) : ∃ G', f_X8_decimals cy (ad 0) (nI v) (MW cy iv ad μ0 I V A N X s ob Fg) = some (nI (dg v), MW cy iv ad μ0 I V A N X s ob G') ∧ ∀ j, j < dg v → G' j = sx (fig v (dg v - 1 - j)) := by
  obtain ⟨G', e1, e2⟩ := m_decimals (cy := cy) (μ0 := μ0) (I := upd (upd I 27 (nI s)) (60 + 1) (nI N)) (V := V) (A := tA 60 (updG A 26 (hs ob)) X) F.1 hv Fg
  rw [tA_o (Or.inl (by decide)), tA_o (Or.inl (by decide))] at e1
  exact ⟨G', e1, e2⟩
theorem rnl_sl {v : Nat} : rnl v = sl (rnm v) 0 (dg v) ++ [0] := by
  have e : rnl v = sl (rnm v) 0 (dg v + 1) := by
    unfold rnl sl
    rw [Nat.sub_zero]
    refine List.map_congr_left (fun i _ => by rw [Nat.zero_add])
  have z : rnm v (dg v) = 0 := if_neg (by omega)
  rw [e, ← sl_cat (q := dg v) (Nat.zero_le _) (by omega), sl_one, z]
theorem bs_fig (F : TX iv ad V A 21 60 sd bs n) {v : Nat} {G' : Nat → Int32} (h : ∀ j, j < dg v → G' j = sx (fig v (dg v - 1 - j))) : BS cy iv ad μ0 I V A N X G' (ad 20) (rnm v) (dg v) := by
  have hd := dg_le v
  refine ⟨rnm_bB v, by omega, fun s ob j hj => ?_⟩
  have := m_ld (cy := cy) (μ0 := μ0) (I := upd (upd I 27 (nI s)) (60 + 1) (nI N)) (V := V) (A := tA 60 (updG (updG A 26 (hs ob)) 20 G') X) (i := j) F.1 20 rfl (by show j < 12; omega)
  rw [tA_out (Or.inl (by decide)), updG_self, h j hj] at this
  rw [show rnm v j = fig v (dg v - 1 - j) from if_pos hj]
  exact this
/-- behind an ELEMENT's name: its 0, then the VALUE of node k -/
theorem w_130 (F : TX iv ad V A 21 60 sd bs n) {d : Nat} {k : Int32} {L : List Nat} (H : WVal cy iv ad μ0 I V A N X d k L) (hB : bB ob) (hs : s + 1 + L.length ≤ 11000) : ∃ ob' Fg', f_X8_writeElement_L130 cy (f_X8_writeValue cy d) (ad 0) k 0 (MW cy iv ad μ0 I V A N X s ob Fg) = some (MW cy iv ad μ0 I V A N X (s + 1 + L.length) ob' Fg') ∧ AP ob s ob' ([0] ++ L) := by
  unfold f_X8_writeElement_L130 f_X8_writeElement_L166
  have o1 : AP ob s (updG ob s 0) [0] := AP.one hB (by decide)
  obtain ⟨ob', Fg', e1, e2⟩ := H (s + 1) (updG ob s 0) Fg o1.2.2 hs
  refine ⟨ob', Fg', ?_, o1.app e2 rfl⟩
  rw [if_pos (w_o F), w_puts F (by omega), Option.bind_some, if_pos rfl, if_pos (w_o F), show b8 0 = 0 by decide +kernel, e1, Option.bind_some]
/-- the names of an ELEMENT that are not new: from L44 on -/
theorem w_44 (F : TX iv ad V A 21 60 sd bs n) {d k q v : Nat} {t : Int32} {row : Bool} {L : List Nat} (h6 : X 6 k = nI q) (h7 : X 7 k = nI (vpl (hb bs) n q - q - 2)) (hk : k < 1300) (hq : q + 2 ≤ vpl (hb bs) n q) (hq2 : vpl (hb bs) n q ≤ n) (hz : bs (vpl (hb bs) n q - 1) = 0) (hv : v < 2 ^ 30) {a4 : Int32}
    (H : ∀ s ob Fg, bB ob → s + 1 + L.length ≤ 11000 → ∃ ob' Fg', f_X8_writeElement_L130 cy (f_X8_writeValue cy d) (ad 0) (nI k) a4 (MW cy iv ad μ0 I V A N X s ob Fg) = some (MW cy iv ad μ0 I V A N X (s + 1 + L.length) ob' Fg') ∧ AP ob s ob' ([0] ++ L)) (ha4 : a4 = 0 ∨ I 33 = 0) (hB : bB ob) (hs : s + ([b8 t] ++ (if row then rnl v else sl bs (q + 1) (vpl (hb bs) n q)) ++ L).length ≤ 11000) : ∃ ob' Fg', f_X8_writeElement_L44 cy (f_X8_writeValue cy d) (ad 0) (nI k) (nI v) (bI row) a4 (ad 0) t (MW cy iv ad μ0 I V A N X s ob Fg) = some (MW cy iv ad μ0 I V A N X (s + ([b8 t] ++ (if row then rnl v else sl bs (q + 1) (vpl (hb bs) n q)) ++ L).length) ob' Fg') ∧ AP ob s ob' ([b8 t] ++ (if row then rnl v else sl bs (q + 1) (vpl (hb bs) n q)) ++ L) := by
  have hn := F.2.2.2.2.2.2
  unfold f_X8_writeElement_L44
  have o1 : AP ob s (updG ob s (b8 t)) [b8 t] := AP.one hB (b8_lt t)
  rw [if_pos (w_o F)]
  cases row with
  | false =>
    have esl : sl bs (q + 1) (vpl (hb bs) n q) = sl bs (q + 1) (q + 1 + (vpl (hb bs) n q - q - 2)) ++ [0] := by
      rw [← hz, ← sl_one, show q + 1 + (vpl (hb bs) n q - q - 2) = vpl (hb bs) n q - 1 by omega, sl_cat (by omega) (by omega), show vpl (hb bs) n q - 1 + 1 = vpl (hb bs) n q by omega]
    have elen : (sl bs (q + 1) (vpl (hb bs) n q)).length = vpl (hb bs) n q - q - 1 := by rw [sl_len]; omega
    have hs' : s + (1 + (vpl (hb bs) n q - q - 1) + L.length) ≤ 11000 := by
      have : ([b8 t] ++ (if false = true then rnl v else sl bs (q + 1) (vpl (hb bs) n q)) ++ L).length = 1 + (vpl (hb bs) n q - q - 1) + L.length := by
        rw [List.length_append, List.length_append, if_neg (by decide), elen]
        rfl
      omega
    obtain ⟨ob1, e1, a1⟩ := w_all (s := s + 1) (p := q + 1) (k := vpl (hb bs) n q - q - 2) F (bs_sd (cy := cy) (μ0 := μ0) (I := I) (N := N) (X := X) (Fg := Fg) F) (by omega) o1.2.2 (by omega)
    obtain ⟨ob2, Fg2, e2, a2⟩ := H (s + 1 + (vpl (hb bs) n q - q - 2)) ob1 Fg a1.2.2 (by omega)
    have L99 : f_X8_writeElement_L99 cy (f_X8_writeValue cy d) (ad 0) (nI k) a4 (MW cy iv ad μ0 I V A N X (s + 1) (updG ob s (b8 t)) Fg) = some (MW cy iv ad μ0 I V A N X (s + 1 + (vpl (hb bs) n q - q - 2) + 1 + L.length) ob2 Fg2) := by
      unfold f_X8_writeElement_L99
      rw [w_21 F, Option.bind_some, x_of (F.w _ _), Option.bind_some, Option.bind_some, x_r6 (F.w _ _), Option.bind_some, x_ld (F.w _ _) 6 (by decide) hk, Option.bind_some, Option.bind_some, x_r7 (F.w _ _), Option.bind_some, x_ld (F.w _ _) 7 (by decide) hk, Option.bind_some, if_pos (w_o F), h6, h7, nI_a1, e1, Option.bind_some, e2]
    refine ⟨ob2, Fg2, ?_, ?_⟩
    · rw [w_puts F (by omega), Option.bind_some, if_pos (show bI false = 0 from rfl)]
      have elast : s + ([b8 t] ++ (if false = true then rnl v else sl bs (q + 1) (vpl (hb bs) n q)) ++ L).length = s + 1 + (vpl (hb bs) n q - q - 2) + 1 + L.length := by
        rw [List.length_append, List.length_append, if_neg (by decide), elen]
        show s + (1 + (vpl (hb bs) n q - q - 1) + L.length) = _
        omega
      rw [elast]
      by_cases c : a4 = 0
      · rw [if_pos c]; exact L99
      · rw [if_neg c, show rdI (MW cy iv ad μ0 I V A N X (s + 1) (updG ob s (b8 t)) Fg) (ad 0) 7 33 = some (I 33) from m_int F.1 rfl, Option.bind_some, if_pos (ha4.resolve_left c)]
        exact L99
    · rw [if_neg (show ¬ false = true by decide), esl]
      have := (o1.app a1 rfl).app a2 (by rw [List.length_append, sl_len]; show _ = s + (1 + _); omega)
      simp only [List.append_assoc] at this ⊢
      exact this
  | true =>
    have hd := dg_le v
    have elen : (rnl v).length = dg v + 1 := rnl_len
    have hs' : s + (1 + (dg v + 1) + L.length) ≤ 11000 := by
      have : ([b8 t] ++ (if true = true then rnl v else sl bs (q + 1) (vpl (hb bs) n q)) ++ L).length = 1 + (dg v + 1) + L.length := by
        rw [List.length_append, List.length_append, if_pos rfl, elen]
        rfl
      omega
    obtain ⟨G', d1, d2⟩ := w_dec (cy := cy) (μ0 := μ0) (I := I) (N := N) (X := X) (s := s + 1) (ob := updG ob s (b8 t)) (Fg := Fg) F hv
    obtain ⟨ob1, e1, a1⟩ := w_all (s := s + 1) (p := 0) (k := dg v) F (bs_fig (cy := cy) (μ0 := μ0) (I := I) (N := N) (X := X) F d2) (by omega) o1.2.2 (by omega)
    rw [Nat.zero_add] at a1
    obtain ⟨ob2, Fg2, e2, a2⟩ := H (s + 1 + dg v) ob1 G' a1.2.2 (by omega)
    refine ⟨ob2, Fg2, ?_, ?_⟩
    · have elast : s + ([b8 t] ++ (if true = true then rnl v else sl bs (q + 1) (vpl (hb bs) n q)) ++ L).length = s + 1 + dg v + 1 + L.length := by
        rw [List.length_append, List.length_append, if_pos rfl, elen]
        show s + (1 + (dg v + 1) + L.length) = _
        omega
      have e1' : f_X8_putsAll cy (ad 0) (ad 20) 0 (nI (dg v)) (MW cy iv ad μ0 I V A N X (s + 1) (updG ob s (b8 t)) G') = some (MW cy iv ad μ0 I V A N X (s + 1 + dg v) ob1 G') := e1
      rw [elast, w_puts F (by omega), Option.bind_some, if_neg (show ¬ bI true = 0 by decide), w_20 F, Option.bind_some, if_pos (w_o F), d1, ob2_some, if_pos (w_o F), e1', Option.bind_some, e2]
    · rw [if_pos rfl, rnl_sl]
      have := (o1.app a1 rfl).app a2 (by rw [List.length_append, sl_len]; show _ = s + (1 + _); omega)
      simp only [List.append_assoc] at this ⊢
      exact this
/-- an ELEMENT that isn't the changed one -/
theorem w_el (F : TX iv ad V A 21 60 sd bs n) {d k q v par dp e r : Nat} {row : Bool} {rw : Option Nat} {L : List Nat} (E : NEl X (hb bs) n k q par dp) (hE : eOk (hb bs) e q r rw) (hr : r ≤ n) (hk : k < 1300) (hch : nI k ≠ I 29) (hv : v < 2 ^ 30) (H : WVal cy iv ad μ0 I V A N X d (nI k) L) : WEl cy iv ad μ0 I V A N X (d + 1) (nI k) v row ([bs q] ++ (if row then rnl v else sl bs (q + 1) (vpl (hb bs) n q)) ++ L) := by
  intro s ob Fg hB hs
  have hn := F.2.2.2.2.2.2
  have hbB := F.2.2.2.2.2.1
  obtain ⟨e6, e2, e7, e8, e9, e10, e3, e12⟩ := E
  obtain ⟨s1, s2, s3, s4, s5, s6⟩ := hE.s (n := n) hr
  have hz : bs (vpl (hb bs) n q - 1) = 0 := by
    have z := s4.2.1
    have hh := hbB (vpl (hb bs) n q - 1)
    exact (nI_eq (b := 0) (by omega) (by decide)).mp z
  have b8q : b8 (hb bs q) = bs q := b8_nI (hbB q)
  rw [f_X8_writeElement_s]
  unfold fo_X8_writeElement f_X8_writeElement_L13 f_X8_writeElement_L35
  rw [show rdI (MW cy iv ad μ0 I V A N X s ob Fg) (ad 0) 7 29 = some (I 29) from m_int F.1 rfl, Option.bind_some, if_neg hch, if_pos rfl, w_21 F, Option.bind_some, x_r2 (F.w _ _), Option.bind_some, x_ld (F.w _ _) 2 (by decide) hk, Option.bind_some, e2]
  rw [← b8q] at hs ⊢
  exact w_44 (cy := cy) (μ0 := μ0) (I := I) (N := N) F e6 e7 hk s2 (by omega) hz hv (fun s ob Fg hB hs => w_130 F H hB hs) (Or.inl rfl) hB hs
theorem w_valN (F : TX iv ad V A 21 60 sd bs n) {d k q par dp e r : Nat} {rw : Option Nat} (E : NEl X (hb bs) n k q par dp) (hE : eOk (hb bs) e q r rw) (hr : r ≤ n) (hk : k < 1300) (hd : ¬ hasD (hb bs q)) : WVal cy iv ad μ0 I V A N X (d + 1) (nI k) (sl bs (vpl (hb bs) n q) r) := by
  intro s ob Fg hB hs
  obtain ⟨e6, e2, e7, e8, e9, e10, e3, e12⟩ := E
  obtain ⟨s1, s2, s3, s4, s5, s6⟩ := hE.s (n := n) hr
  rw [sl_len] at hs ⊢
  rw [s6] at e9
  have ed : dAt (hb bs) n q = -1 := if_neg hd
  rw [f_X8_writeValue_s]
  unfold fo_X8_writeValue
  obtain ⟨ob1, e1, a1⟩ := w_all (s := s) (p := vpl (hb bs) n q) (k := r - vpl (hb bs) n q) F (bs_sd (cy := cy) (μ0 := μ0) (I := I) (N := N) (X := X) (Fg := Fg) F) (by omega) hB (by omega)
  rw [show vpl (hb bs) n q + (r - vpl (hb bs) n q) = r by omega] at a1
  refine ⟨ob1, Fg, ?_, a1⟩
  rw [w_21 F, Option.bind_some, x_r10 (F.w _ _), Option.bind_some, x_ld (F.w _ _) 10 (by decide) hk, Option.bind_some, e10, ed, if_neg (by decide), Option.bind_some, x_of (F.w _ _), Option.bind_some, Option.bind_some, x_r8 (F.w _ _), Option.bind_some, x_ld (F.w _ _) 8 (by decide) hk, Option.bind_some, Option.bind_some, x_r9 (F.w _ _), Option.bind_some, x_ld (F.w _ _) 9 (by decide) hk, Option.bind_some, if_pos (w_o F), e8, e9, e1, Option.bind_some]
/-- what stands around a DOCUMENT L in a VALUE -/
def VW (bs : Nat → Nat) (t : Int32) (p D : Nat) (L : List Nat) : List Nat := if t = 15 then l4 (D - p + L.length) ++ (sl bs (p + 4) D ++ L) else L
theorem w_valD (F : TX iv ad V A 21 60 sd bs n) {d k q par dp e r : Nat} {rw : Option Nat} {L : List Nat} (E : NEl X (hb bs) n k q par dp) (hE : eOk (hb bs) e q r rw) (hr : r ≤ n) (hk : k < 1300) (hd : hasD (hb bs q)) (H : WDoc cy iv ad μ0 I V A N X d k L) : WVal cy iv ad μ0 I V A N X (d + 1) (nI k) (VW bs (hb bs q) (vpl (hb bs) n q) (dcIn (hb bs) (hb bs q) (vpl (hb bs) n q)) L) := by
  intro s ob Fg hB hs
  obtain ⟨e6, e2, e7, e8, e9, e10, e3, e12⟩ := E
  obtain ⟨s1, s2, s3, s4, s5, s6⟩ := hE.s (n := n) hr
  have hn := F.2.2.2.2.2.2
  obtain ⟨dd, dle⟩ := s5.doc hd
  have ddl := dd.le
  have ed : dAt (hb bs) n q = nI (dcIn (hb bs) (hb bs q) (vpl (hb bs) n q)) := if_pos hd
  rw [f_X8_writeValue_s]
  unfold fo_X8_writeValue
  rw [w_21 F, Option.bind_some, x_r10 (F.w _ _), Option.bind_some, x_ld (F.w _ _) 10 (by decide) hk, Option.bind_some, e10, ed, if_pos (show (0 : Int32) ≤ _ from nI_le (a := 0) (Nat.zero_le _) (by omega)), w_sz F, Option.bind_some, Option.bind_some, x_r2 (F.w _ _), Option.bind_some, x_ld (F.w _ _) 2 (by decide) hk, Option.bind_some, e2]
  unfold f_X8_writeValue_L100
  by_cases c15 : hb bs q = 15
  · have eVW : VW bs (hb bs q) (vpl (hb bs) n q) (dcIn (hb bs) (hb bs q) (vpl (hb bs) n q)) L = l4 (dcIn (hb bs) (hb bs q) (vpl (hb bs) n q) - vpl (hb bs) n q + L.length) ++ (sl bs (vpl (hb bs) n q + 4) (dcIn (hb bs) (hb bs q) (vpl (hb bs) n q)) ++ L) := if_pos c15
    rw [eVW] at hs ⊢
    rw [c15] at s5
    obtain ⟨Mx, m1, m2, m3, m4, m5, m6, m7, m8⟩ := s5.s15
    have edc : dcIn (hb bs) (hb bs q) (vpl (hb bs) n q) = vpl (hb bs) n q + 8 + Mx := by
      unfold dcIn
      rw [if_pos c15, m6, nI_toInt m2]
      rfl
    rw [List.length_append, List.length_append, sl_len, l4_len] at hs ⊢
    obtain ⟨ob1, e1, a1⟩ := w_all (s := s) (p := vpl (hb bs) n q) (k := dcIn (hb bs) (hb bs q) (vpl (hb bs) n q) - vpl (hb bs) n q) F (bs_sd (cy := cy) (μ0 := μ0) (I := I) (N := N) (X := X) (Fg := Fg) F) (by omega) hB (by omega)
    rw [show vpl (hb bs) n q + (dcIn (hb bs) (hb bs q) (vpl (hb bs) n q) - vpl (hb bs) n q) = dcIn (hb bs) (hb bs q) (vpl (hb bs) n q) by omega] at a1
    obtain ⟨ob2, Fg2, e2', a2⟩ := H (s + (dcIn (hb bs) (hb bs q) (vpl (hb bs) n q) - vpl (hb bs) n q)) ob1 Fg a1.2.2 (by omega)
    have a3 := a1.app a2 (by rw [sl_len])
    rw [← sl_cat (q := vpl (hb bs) n q + 4) (by omega) (by omega), List.append_assoc] at a3
    have a4 := a3.len (v := dcIn (hb bs) (hb bs q) (vpl (hb bs) n q) - vpl (hb bs) n q + L.length) (by rw [sl_len]; omega)
    refine ⟨_, Fg2, ?_, a4⟩
    rw [if_pos c15, Option.bind_some, x_of (F.w _ _), Option.bind_some, Option.bind_some, x_r8 (F.w _ _), Option.bind_some, x_ld (F.w _ _) 8 (by decide) hk, Option.bind_some, Option.bind_some, x_r10 (F.w _ _), Option.bind_some, x_ld (F.w _ _) 10 (by decide) hk, Option.bind_some, Option.bind_some, x_r8 (F.w _ _), Option.bind_some, x_ld (F.w _ _) 8 (by decide) hk, Option.bind_some, if_pos (w_o F), e8, e10, ed, nI_sub' (by omega), e1, Option.bind_some, if_pos (w_o F), e2', Option.bind_some, w_21 F, Option.bind_some, x_r2 (F.w _ _), Option.bind_some, x_ld (F.w _ _) 2 (by decide) hk, Option.bind_some, e2, if_pos c15, w_26 F, Option.bind_some, w_sz F, Option.bind_some, if_pos (w_o F), nI_sub' (by omega), show s + (dcIn (hb bs) (hb bs q) (vpl (hb bs) n q) - vpl (hb bs) n q) + L.length - s = dcIn (hb bs) (hb bs q) (vpl (hb bs) n q) - vpl (hb bs) n q + L.length by omega, w_len F (by omega), Option.bind_some, show s + (dcIn (hb bs) (hb bs q) (vpl (hb bs) n q) - vpl (hb bs) n q) + L.length = s + (4 + (dcIn (hb bs) (hb bs q) (vpl (hb bs) n q) - (vpl (hb bs) n q + 4) + L.length)) by omega]
  · have eVW : VW bs (hb bs q) (vpl (hb bs) n q) (dcIn (hb bs) (hb bs q) (vpl (hb bs) n q)) L = L := if_neg c15
    rw [eVW] at hs ⊢
    obtain ⟨ob2, Fg2, e2', a2⟩ := H s ob Fg hB hs
    refine ⟨ob2, Fg2, ?_, a2⟩
    rw [if_neg c15, if_pos (w_o F), e2', Option.bind_some, w_21 F, Option.bind_some, x_r2 (F.w _ _), Option.bind_some, x_ld (F.w _ _) 2 (by decide) hk, Option.bind_some, e2, if_neg c15]
theorem w_145 (F : TX iv ad V A 21 60 sd bs n) {rE : Nat → Int32 → Int32 → Int32 → Mem → Option Mem} {s0 s1 : Nat} {z E : List Nat} {ob0 : Nat → Nat} (h : AP ob0 s0 ob (z ++ E)) (hz : z.length = 4) (hs1 : s1 = s0 + 4 + E.length) (hs2 : s1 + 1 ≤ 11000) : ∃ ob', f_X8_writeDoc_L145 cy rE (ad 0) (nI s0) (MW cy iv ad μ0 I V A N X s1 ob Fg) = some (MW cy iv ad μ0 I V A N X (s0 + (DW E).length) ob' Fg) ∧ AP ob0 s0 ob' (DW E) := by
  unfold f_X8_writeDoc_L145
  have o1 : AP ob s1 (updG ob s1 0) [0] := AP.one h.2.2 (by decide)
  have a := h.app o1 (by rw [List.length_append]; omega)
  rw [List.append_assoc] at a
  refine ⟨_, ?_, a.len (v := E.length + 5) hz⟩
  rw [if_pos (w_o F), w_puts F (by omega), Option.bind_some, show b8 0 = 0 by decide +kernel, w_26 F, Option.bind_some, w_sz F, Option.bind_some, if_pos (w_o F), nI_sub' (by omega), w_len F (by omega), Option.bind_some, show s1 + 1 - s0 = E.length + 5 by omega, show s1 + 1 = s0 + (DW E).length by rw [DW_len]; omega]
theorem z4_AP (hB : bB ob) : AP ob s (pI ob s 0) (l4 0) := by
  refine ⟨fun j hj => pI_out (by omega), fun i hi => ?_, pI_bB hB⟩
  rw [l4_len] at hi
  rw [pI_in hi, l4_gd hi]
  rfl
/-- a DOCUMENT whose ELEMENTS stay -/
theorem w_dU_L (F : TX iv ad V A 21 60 sd bs n) {d e node D r dp lo hi m : Nat} {row : Bool} {c : Nat → Nat} {P : Nat → List Nat} (K : NK X (hb bs) n e node D r row dp lo hi m c) (hhi : hi < 1300) (hno : node < 1300) (htr : (X 2 node == 4) = row) (H : ∀ i, i < m → WEl cy iv ad μ0 I V A N X d (nI (c i)) i row (P i)) {s0 : Nat} {ob0 : Nat → Nat} (hs : s0 + (DW (cat P m)).length ≤ 11000) : ∀ (j i f : Nat) (ob : Nat → Nat) (Fg : Nat → Int32), i + j = m → j < f → AP ob0 s0 ob (l4 0 ++ cat P i) → ∃ ob' Fg', f_X8_writeDoc_L97 cy (f_X8_writeElement cy d) f (ad 0) (nI node) (nI s0) (nI i) (if i = m then -1 else nI (c i)) (MW cy iv ad μ0 I V A N X (s0 + 4 + (cat P i).length) ob Fg) = some (MW cy iv ad μ0 I V A N X (s0 + (DW (cat P m)).length) ob' Fg') ∧ AP ob0 s0 ob' (DW (cat P m))
  | j, i, 0, ob, Fg, _, hf, _ => by omega
  | 0, i, f + 1, ob, Fg, hi', _, h => by
    have : i = m := by omega
    subst this
    rw [DW_len] at hs
    rw [f_X8_writeDoc_L97, if_pos rfl, if_pos (by decide)]
    obtain ⟨ob', e1, a1⟩ := w_145 (cy := cy) (μ0 := μ0) (I := I) (N := N) (X := X) (Fg := Fg) (rE := f_X8_writeElement cy d) (s1 := s0 + 4 + (cat P i).length) F h l4_len rfl (by omega)
    exact ⟨ob', Fg, e1, a1⟩
  | j + 1, i, f + 1, ob, Fg, hi', hf, h => by
    have hm := K.2.1
    have him : i < m := by omega
    have ic := K.inc (i := i) (by omega)
    have k5 := (K.2.2.2.2.2.2 i him).2.2.1
    have hlen : (cat P (i + 1)).length = (cat P i).length + (P i).length := List.length_append
    have hmono := cat_len_mono (P := P) (i + 1) (m - (i + 1))
    rw [show i + 1 + (m - (i + 1)) = m by omega] at hmono
    have hs' := hs
    rw [DW_len] at hs'
    obtain ⟨ob1, Fg1, e1, a1⟩ := H i him (s0 + 4 + (cat P i).length) ob Fg h.2.2 (by omega)
    have a2 := h.app a1 (by rw [List.length_append, l4_len]; omega)
    rw [List.append_assoc] at a2
    obtain ⟨ob', Fg', e2, a3⟩ := w_dU_L F K hhi hno htr H hs j (i + 1) f ob1 Fg1 (by omega) (by omega) a2
    refine ⟨ob', Fg', ?_, a3⟩
    have enx : (if i + 1 = m then (-1 : Int32) else nI (c (i + 1))) = X 5 (c i) := k5.symm
    have go : ∀ t3, t3 = bI row → f_X8_writeDoc_L124 cy (f_X8_writeElement cy d) (f_X8_writeDoc_L97 cy (f_X8_writeElement cy d) f) (ad 0) (nI node) (nI s0) (nI i) (nI (c i)) (ad 0) (nI (c i)) (nI i) t3 (MW cy iv ad μ0 I V A N X (s0 + 4 + (cat P i).length) ob Fg) = some (MW cy iv ad μ0 I V A N X (s0 + (DW (cat P m)).length) ob' Fg') := fun t3 ht => by
      subst ht
      unfold f_X8_writeDoc_L124
      rw [if_pos (w_o F), e1, Option.bind_some, w_21 F, Option.bind_some, x_r5 (F.w _ _), Option.bind_some, x_ld (F.w _ _) 5 (by decide) (by omega), Option.bind_some, nI_a1, ← enx, show s0 + 4 + (cat P i).length + (P i).length = s0 + 4 + (cat P (i + 1)).length by omega]
      exact e2
    rw [f_X8_writeDoc_L97, if_neg (show ¬ i = m by omega), if_neg (show ¬ nI (c i) < 0 from nI_nlt (b := 0) (Nat.zero_le _) (by omega)), w_21 F, Option.bind_some, x_r2 (F.w _ _), Option.bind_some, x_ld (F.w _ _) 2 (by decide) hno, Option.bind_some]
    by_cases c4 : X 2 node = 4
    · rw [if_pos c4]
      exact go 1 (by rw [← htr, c4]; rfl)
    · rw [if_neg c4]
      exact go 0 (by rw [← htr]; simp [c4, bI])
theorem w_head (F : TX iv ad V A 21 60 sd bs n) {rE : Nat → Int32 → Int32 → Int32 → Mem → Option Mem} {node : Nat} (hs : s + 4 ≤ 11000) : fo_X8_writeDoc cy rE (ad 0) (nI node) (MW cy iv ad μ0 I V A N X s ob Fg) = if nI node = I 28 then f_X8_writeDoc_L38 cy rE FU (ad 0) (nI node) (nI s) 0 (MW cy iv ad μ0 I V A N X (s + 4) (pI ob s 0) Fg) else (rdA cy (MW cy iv ad μ0 I V A N X (s + 4) (pI ob s 0) Fg) 1 (ad (60 + 4)) (nI node)).bind fun v21 => f_X8_writeDoc_L97 cy rE FU (ad 0) (nI node) (nI s) 0 v21 (MW cy iv ad μ0 I V A N X (s + 4) (pI ob s 0) Fg) := by
  unfold fo_X8_writeDoc
  rw [w_sz F, Option.bind_some, w_26 F, Option.bind_some, Option.bind_some, if_pos (w_o F), w_len F (by omega), Option.bind_some, w_sz F, Option.bind_some, nI_a4, w_set F, Option.bind_some, show rdI (MW cy iv ad μ0 I V A N X (s + 4) (pI ob s 0) Fg) (ad 0) 7 28 = some (I 28) from m_int F.1 rfl, Option.bind_some, w_21 F, Option.bind_some, x_r4 (F.w _ _), Option.bind_some]
theorem w_dU (F : TX iv ad V A 21 60 sd bs n) {d e node D r dp lo hi m : Nat} {row : Bool} {c : Nat → Nat} {P : Nat → List Nat} (K : NK X (hb bs) n e node D r row dp lo hi m c) (hhi : hi < 1300) (hno : node < 1300) (htr : (X 2 node == 4) = row) (hcd : nI node ≠ I 28) (H : ∀ i, i < m → WEl cy iv ad μ0 I V A N X d (nI (c i)) i row (P i)) : WDoc cy iv ad μ0 I V A N X (d + 1) node (DW (cat P m)) := by
  intro s ob Fg hB hs
  have hs' := hs
  rw [DW_len] at hs'
  have hm := K.2.1
  have k4 := K.2.2.2.1
  have eq0 : X 4 node = (if 0 = m then (-1 : Int32) else nI (c 0)) := by
    rw [k4, K.2.2.2.2.1]
    by_cases z : m = 0
    · rw [if_pos z, if_pos z.symm]
    · rw [if_neg z, if_neg (fun y => z y.symm)]
  obtain ⟨ob', Fg', e1, a1⟩ := w_dU_L (s0 := s) (ob0 := ob) F K hhi hno htr H hs m 0 FU (pI ob s 0) Fg (by omega) (by show m < 100000; omega) (by show AP ob s _ (l4 0 ++ []); rw [List.append_nil]; exact z4_AP hB)
  refine ⟨ob', Fg', ?_, a1⟩
  rw [f_X8_writeDoc_s, w_head F (by omega), if_neg hcd, x_ld (F.w _ _) 4 (by decide) hno, Option.bind_some, eq0]
  exact e1
/-- the changed DOCUMENT: its ELEMENTS by their order -/
theorem w_dC_L (F : TX iv ad V A 21 60 sd bs n) {d node m : Nat} {row : Bool} {oc : Nat → Int32} {P : Nat → List Nat} (hno : node < 1300) (htr : (X 2 node == 4) = row) (hm : m ≤ 1300) (hI : I 31 = nI m) (ho : ∀ i, i < m → A 30 i = oc i) (H : ∀ i, i < m → WEl cy iv ad μ0 I V A N X d (oc i) i row (P i)) {s0 : Nat} {ob0 : Nat → Nat} (hs : s0 + (DW (cat P m)).length ≤ 11000) : ∀ (j i f : Nat) (ob : Nat → Nat) (Fg : Nat → Int32), i + j = m → j < f → AP ob0 s0 ob (l4 0 ++ cat P i) → ∃ ob' Fg', f_X8_writeDoc_L38 cy (f_X8_writeElement cy d) f (ad 0) (nI node) (nI s0) (nI i) (MW cy iv ad μ0 I V A N X (s0 + 4 + (cat P i).length) ob Fg) = some (MW cy iv ad μ0 I V A N X (s0 + (DW (cat P m)).length) ob' Fg') ∧ AP ob0 s0 ob' (DW (cat P m))
  | j, i, 0, ob, Fg, _, hf, _ => by omega
  | 0, i, f + 1, ob, Fg, hi', _, h => by
    have : i = m := by omega
    subst this
    rw [DW_len] at hs
    rw [f_X8_writeDoc_L38, show rdI (MW cy iv ad μ0 I V A N X (s0 + 4 + (cat P i).length) ob Fg) (ad 0) 7 31 = some (I 31) from m_int F.1 rfl, Option.bind_some, hI, if_pos (nI_le (Nat.le_refl _) (by omega))]
    obtain ⟨ob', e1, a1⟩ := w_145 (cy := cy) (μ0 := μ0) (I := I) (N := N) (X := X) (Fg := Fg) (rE := f_X8_writeElement cy d) (s1 := s0 + 4 + (cat P i).length) F h l4_len rfl (by omega)
    exact ⟨ob', Fg, e1, a1⟩
  | j + 1, i, f + 1, ob, Fg, hi', hf, h => by
    have him : i < m := by omega
    have hlen : (cat P (i + 1)).length = (cat P i).length + (P i).length := List.length_append
    have hmono := cat_len_mono (P := P) (i + 1) (m - (i + 1))
    rw [show i + 1 + (m - (i + 1)) = m by omega] at hmono
    have hs' := hs
    rw [DW_len] at hs'
    obtain ⟨ob1, Fg1, e1, a1⟩ := H i him (s0 + 4 + (cat P i).length) ob Fg h.2.2 (by omega)
    have a2 := h.app a1 (by rw [List.length_append, l4_len]; omega)
    rw [List.append_assoc] at a2
    obtain ⟨ob', Fg', e2, a3⟩ := w_dC_L F hno htr hm hI ho H hs j (i + 1) f ob1 Fg1 (by omega) (by omega) a2
    refine ⟨ob', Fg', ?_, a3⟩
    have go : ∀ t3, t3 = bI row → f_X8_writeDoc_L72 cy (f_X8_writeElement cy d) (f_X8_writeDoc_L38 cy (f_X8_writeElement cy d) f) (ad 0) (nI node) (nI s0) (nI i) (ad 0) (oc i) (nI i) t3 (MW cy iv ad μ0 I V A N X (s0 + 4 + (cat P i).length) ob Fg) = some (MW cy iv ad μ0 I V A N X (s0 + (DW (cat P m)).length) ob' Fg') := fun t3 ht => by
      subst ht
      unfold f_X8_writeDoc_L72
      rw [if_pos (w_o F), e1, Option.bind_some, nI_a1, show s0 + 4 + (cat P i).length + (P i).length = s0 + 4 + (cat P (i + 1)).length by omega]
      exact e2
    have r30 : rdA cy (MW cy iv ad μ0 I V A N X (s0 + 4 + (cat P i).length) ob Fg) 1 (ad 30) (nI i) = some (oc i) := by
      have := x_al (cy := cy) (μ0 := μ0) (I := upd I 27 (nI (s0 + 4 + (cat P i).length))) (N := N) (X := X) (i := i) (F.w ob Fg) 30 rfl (by decide) (by show i < 1301; omega)
      rw [updG_ne (by decide), updG_ne (by decide), ho i him] at this
      exact this
    rw [f_X8_writeDoc_L38, show rdI (MW cy iv ad μ0 I V A N X (s0 + 4 + (cat P i).length) ob Fg) (ad 0) 7 31 = some (I 31) from m_int F.1 rfl, Option.bind_some, hI, if_neg (nI_ge him (by omega)), show rdR (MW cy iv ad μ0 I V A N X (s0 + 4 + (cat P i).length) ob Fg) (ad 0) 7 30 = some (ad 30) from m_ref F.1 rfl, Option.bind_some, r30, Option.bind_some, w_21 F, Option.bind_some, x_r2 (F.w _ _), Option.bind_some, x_ld (F.w _ _) 2 (by decide) hno, Option.bind_some]
    by_cases c4 : X 2 node = 4
    · rw [if_pos c4]
      exact go 1 (by rw [← htr, c4]; rfl)
    · rw [if_neg c4]
      exact go 0 (by rw [← htr]; simp [c4, bI])
theorem w_dC (F : TX iv ad V A 21 60 sd bs n) {d node m : Nat} {row : Bool} {oc : Nat → Int32} {P : Nat → List Nat} (hno : node < 1300) (htr : (X 2 node == 4) = row) (hcd : nI node = I 28) (hm : m ≤ 1300) (hI : I 31 = nI m) (ho : ∀ i, i < m → A 30 i = oc i) (H : ∀ i, i < m → WEl cy iv ad μ0 I V A N X d (oc i) i row (P i)) : WDoc cy iv ad μ0 I V A N X (d + 1) node (DW (cat P m)) := by
  intro s ob Fg hB hs
  have hs' := hs
  rw [DW_len] at hs'
  obtain ⟨ob', Fg', e1, a1⟩ := w_dC_L (s0 := s) (ob0 := ob) F hno htr hm hI ho H hs m 0 FU (pI ob s 0) Fg (by omega) (by show m < 100000; omega) (by show AP ob s _ (l4 0 ++ []); rw [List.append_nil]; exact z4_AP hB)
  refine ⟨ob', Fg', ?_, a1⟩
  rw [f_X8_writeDoc_s, w_head F (by omega), if_pos hcd]
  exact e1
end WO2
