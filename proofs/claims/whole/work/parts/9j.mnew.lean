/-! THE REFERENCE WRITES: the changed ELEMENT. -/
section WN1
variable {cy : Nat → ClassId} {iv : Nat → Option Nat} {ad : Nat → Nat} {μ0 : Mem} {I : Nat → Int32} {V : Nat → Value} {A : Nat → Nat → Int32} {sd n N : Nat} {bs : Nat → Nat} {X : Nat → Nat → Int32} {s : Nat} {ob : Nat → Nat} {Fg : Nat → Int32}
/-- behind the name: its 0, then the new VALUE -/
theorem w_130v (F : TX iv ad V A 21 60 sd bs n) {rV : Nat → Int32 → Mem → Option Mem} {k : Int32} {a vf vl L : Nat} {vb : Nat → Nat} (h32 : I 32 = 1) (h36 : V 36 = .ref a) (h39 : I 39 = nI vf) (h40 : I 40 = nI vl) (hv : BS cy iv ad μ0 I V A N X Fg a vb L) (hL : vf + vl ≤ L) (hB : bB ob) (hs : s + 1 + (sl vb vf (vf + vl)).length ≤ 11000) : ∃ ob' Fg', f_X8_writeElement_L130 cy rV (ad 0) k 1 (MW cy iv ad μ0 I V A N X s ob Fg) = some (MW cy iv ad μ0 I V A N X (s + 1 + (sl vb vf (vf + vl)).length) ob' Fg') ∧ AP ob s ob' ([0] ++ sl vb vf (vf + vl)) := by
  unfold f_X8_writeElement_L130
  have o1 : AP ob s (updG ob s 0) [0] := AP.one hB (by decide)
  have el : (sl vb vf (vf + vl)).length = vl := by rw [sl_len]; omega
  rw [el] at hs ⊢
  obtain ⟨ob', e1, e2⟩ := w_all (s := s + 1) F hv hL o1.2.2 (by omega)
  refine ⟨ob', Fg, ?_, o1.app e2 rfl⟩
  rw [if_pos (w_o F), w_puts F (by omega), Option.bind_some, if_neg (show ¬ (1 : Int32) = 0 by decide), show b8 0 = 0 by decide +kernel, show rdI (MW cy iv ad μ0 I V A N X (s + 1) (updG ob s 0) Fg) (ad 0) 7 32 = some (I 32) from m_int F.1 rfl, Option.bind_some, h32, if_neg (show ¬ (1 : Int32) = 0 by decide), show rdR (MW cy iv ad μ0 I V A N X (s + 1) (updG ob s 0) Fg) (ad 0) 7 36 = some a from m_ref F.1 (by show some (V 36) = _; rw [h36]), Option.bind_some, show rdI (MW cy iv ad μ0 I V A N X (s + 1) (updG ob s 0) Fg) (ad 0) 7 39 = some (I 39) from m_int F.1 rfl, Option.bind_some, show rdI (MW cy iv ad μ0 I V A N X (s + 1) (updG ob s 0) Fg) (ad 0) 7 40 = some (I 40) from m_int F.1 rfl, Option.bind_some, if_pos (w_o F), h39, h40, e1, Option.bind_some]
/-- another VALUE, the same name -/
theorem w_newV (F : TX iv ad V A 21 60 sd bs n) {d k q v par dp e r a vf vl L : Nat} {t : Int32} {row : Bool} {rw : Option Nat} {vb : Nat → Nat} (E : NEl X (hb bs) n k q par dp) (hE : eOk (hb bs) e q r rw) (hr : r ≤ n) (hk : k < 1300) (h29 : I 29 = nI k) (h32 : I 32 = 1) (h33 : I 33 = 0) (h34 : I 34 = t) (h36 : V 36 = .ref a) (h39 : I 39 = nI vf) (h40 : I 40 = nI vl) (hv : ∀ Fg, BS cy iv ad μ0 I V A N X Fg a vb L) (hL : vf + vl ≤ L) (hvv : v < 2 ^ 30) : WEl cy iv ad μ0 I V A N X (d + 1) (nI k) v row ([b8 t] ++ (if row then rnl v else sl bs (q + 1) (vpl (hb bs) n q)) ++ sl vb vf (vf + vl)) := by
  intro s ob Fg hB hs
  have hbB := F.2.2.2.2.2.1
  obtain ⟨e6, e2, e7, e8, e9, e10, e3, e12⟩ := E
  obtain ⟨s1, s2, s3, s4, s5, s6⟩ := hE.s (n := n) hr
  have hz : bs (vpl (hb bs) n q - 1) = 0 := by
    have z := s4.2.1
    have hh := hbB (vpl (hb bs) n q - 1)
    exact (nI_eq (b := 0) (by omega) (by decide)).mp z
  rw [f_X8_writeElement_s]
  unfold fo_X8_writeElement f_X8_writeElement_L13
  rw [show rdI (MW cy iv ad μ0 I V A N X s ob Fg) (ad 0) 7 29 = some (I 29) from m_int F.1 rfl, Option.bind_some, h29, if_pos rfl, if_neg (show ¬ (1 : Int32) = 0 by decide), show rdI (MW cy iv ad μ0 I V A N X s ob Fg) (ad 0) 7 32 = some (I 32) from m_int F.1 rfl, Option.bind_some, h32, if_neg (show ¬ (1 : Int32) = 0 by decide), show rdI (MW cy iv ad μ0 I V A N X s ob Fg) (ad 0) 7 34 = some (I 34) from m_int F.1 rfl, Option.bind_some, h34]
  exact w_44 (cy := cy) (μ0 := μ0) (I := I) (N := N) F e6 e7 hk s2 (by omega) hz hvv (fun s ob Fg hB hs => w_130v F h32 h36 h39 h40 (hv Fg) hL hB hs) (Or.inr h33) hB hs
/-- the new name, or the number -/
theorem w_44n (F : TX iv ad V A 21 60 sd bs n) {rV : Nat → Int32 → Mem → Option Mem} {k : Int32} {v a L pf : Nat} {t : Int32} {row : Bool} {tb : Nat → Nat} {VL : List Nat} (h33 : I 33 = 1) (h35 : V 35 = .ref a) (h37 : I 37 = nI 0) (h38 : row = false → I 38 = nI (pf - 1)) (hpf : row = false → 1 ≤ pf ∧ pf ≤ L ∧ tb (pf - 1) = 0) (hv : ∀ Fg, BS cy iv ad μ0 I V A N X Fg a tb L) (hvv : v < 2 ^ 30)
    (H : ∀ s ob Fg, bB ob → s + 1 + VL.length ≤ 11000 → ∃ ob' Fg', f_X8_writeElement_L130 cy rV (ad 0) k 1 (MW cy iv ad μ0 I V A N X s ob Fg) = some (MW cy iv ad μ0 I V A N X (s + 1 + VL.length) ob' Fg') ∧ AP ob s ob' ([0] ++ VL)) (hB : bB ob) (hs : s + ([b8 t] ++ (if row then rnl v else sl tb 0 pf) ++ VL).length ≤ 11000) : ∃ ob' Fg', f_X8_writeElement_L44 cy rV (ad 0) k (nI v) (bI row) 1 (ad 0) t (MW cy iv ad μ0 I V A N X s ob Fg) = some (MW cy iv ad μ0 I V A N X (s + ([b8 t] ++ (if row then rnl v else sl tb 0 pf) ++ VL).length) ob' Fg') ∧ AP ob s ob' ([b8 t] ++ (if row then rnl v else sl tb 0 pf) ++ VL) := by
  unfold f_X8_writeElement_L44
  have o1 : AP ob s (updG ob s (b8 t)) [b8 t] := AP.one hB (b8_lt t)
  rw [if_pos (w_o F)]
  cases row with
  | false =>
    obtain ⟨p1, p2, p3⟩ := hpf rfl
    have esl : sl tb 0 pf = sl tb 0 (0 + (pf - 1)) ++ [0] := by
      have q := sl_one (f := tb) (p := pf - 1)
      rw [p3] at q
      rw [← q, Nat.zero_add, sl_cat (by omega) (by omega), show pf - 1 + 1 = pf by omega]
    have elast : ([b8 t] ++ (if false = true then rnl v else sl tb 0 pf) ++ VL).length = 1 + pf + VL.length := by
      rw [List.length_append, List.length_append, if_neg (by decide), sl_len]
      show 1 + (pf - 0) + VL.length = _
      omega
    rw [elast] at hs ⊢
    obtain ⟨ob1, e1, a1⟩ := w_all (s := s + 1) (p := 0) (k := pf - 1) F (hv Fg) (by omega) o1.2.2 (by omega)
    obtain ⟨ob2, Fg2, e2, a2⟩ := H (s + 1 + (pf - 1)) ob1 Fg a1.2.2 (by omega)
    refine ⟨ob2, Fg2, ?_, ?_⟩
    · rw [w_puts F (by omega), Option.bind_some, if_pos (show bI false = 0 from rfl), if_neg (show ¬ (1 : Int32) = 0 by decide), show rdI (MW cy iv ad μ0 I V A N X (s + 1) (updG ob s (b8 t)) Fg) (ad 0) 7 33 = some (I 33) from m_int F.1 rfl, Option.bind_some, h33, if_neg (show ¬ (1 : Int32) = 0 by decide), show rdR (MW cy iv ad μ0 I V A N X (s + 1) (updG ob s (b8 t)) Fg) (ad 0) 7 35 = some a from m_ref F.1 (by show some (V 35) = _; rw [h35]), Option.bind_some, show rdI (MW cy iv ad μ0 I V A N X (s + 1) (updG ob s (b8 t)) Fg) (ad 0) 7 37 = some (I 37) from m_int F.1 rfl, Option.bind_some, show rdI (MW cy iv ad μ0 I V A N X (s + 1) (updG ob s (b8 t)) Fg) (ad 0) 7 38 = some (I 38) from m_int F.1 rfl, Option.bind_some, if_pos (w_o F), h37, h38 rfl, e1, Option.bind_some, e2, show s + 1 + (pf - 1) + 1 + VL.length = s + (1 + pf + VL.length) by omega]
    · rw [if_neg (show ¬ false = true by decide), esl]
      have := (o1.app a1 rfl).app a2 (by rw [List.length_append, sl_len]; show _ = s + (1 + _); omega)
      simp only [List.append_assoc] at this ⊢
      exact this
  | true =>
    have hd := dg_le v
    have elast : ([b8 t] ++ (if true = true then rnl v else sl tb 0 pf) ++ VL).length = 1 + (dg v + 1) + VL.length := by
      rw [List.length_append, List.length_append, if_pos rfl, rnl_len]
      rfl
    rw [elast] at hs ⊢
    obtain ⟨G', d1, d2⟩ := w_dec (cy := cy) (μ0 := μ0) (I := I) (N := N) (X := X) (s := s + 1) (ob := updG ob s (b8 t)) (Fg := Fg) F hvv
    obtain ⟨ob1, e1, a1⟩ := w_all (s := s + 1) (p := 0) (k := dg v) F (bs_fig (cy := cy) (μ0 := μ0) (I := I) (N := N) (X := X) F d2) (by omega) o1.2.2 (by omega)
    rw [Nat.zero_add] at a1
    obtain ⟨ob2, Fg2, e2, a2⟩ := H (s + 1 + dg v) ob1 G' a1.2.2 (by omega)
    refine ⟨ob2, Fg2, ?_, ?_⟩
    · have e1' : f_X8_putsAll cy (ad 0) (ad 20) 0 (nI (dg v)) (MW cy iv ad μ0 I V A N X (s + 1) (updG ob s (b8 t)) G') = some (MW cy iv ad μ0 I V A N X (s + 1 + dg v) ob1 G') := e1
      rw [w_puts F (by omega), Option.bind_some, if_neg (show ¬ bI true = 0 by decide), w_20 F, Option.bind_some, if_pos (w_o F), d1, ob2_some, if_pos (w_o F), e1', Option.bind_some, e2, show s + 1 + dg v + 1 + VL.length = s + (1 + (dg v + 1) + VL.length) by omega]
    · rw [if_pos rfl, rnl_sl]
      have := (o1.app a1 rfl).app a2 (by rw [List.length_append, sl_len]; show _ = s + (1 + _); omega)
      simp only [List.append_assoc] at this ⊢
      exact this
/-- a new ELEMENT -/
theorem w_newP (F : TX iv ad V A 21 60 sd bs n) {d v a L pf vl : Nat} {t : Int32} {row : Bool} {tb : Nat → Nat} (h29 : I 29 = -1) (h32 : I 32 = 1) (h34 : I 34 = t) (h33 : I 33 = 1) (h35 : V 35 = .ref a) (h36 : V 36 = .ref a) (h37 : I 37 = nI 0) (h38 : row = false → I 38 = nI (pf - 1)) (hpf : row = false → 1 ≤ pf ∧ pf ≤ L ∧ tb (pf - 1) = 0) (h39 : I 39 = nI pf) (h40 : I 40 = nI vl) (hv : ∀ Fg, BS cy iv ad μ0 I V A N X Fg a tb L) (hL : pf + vl ≤ L) (hvv : v < 2 ^ 30) : WEl cy iv ad μ0 I V A N X (d + 1) (-1) v row ([b8 t] ++ (if row then rnl v else sl tb 0 pf) ++ sl tb pf (pf + vl)) := by
  intro s ob Fg hB hs
  rw [f_X8_writeElement_s]
  unfold fo_X8_writeElement f_X8_writeElement_L13
  rw [show rdI (MW cy iv ad μ0 I V A N X s ob Fg) (ad 0) 7 29 = some (I 29) from m_int F.1 rfl, Option.bind_some, h29, if_pos rfl, if_neg (show ¬ (1 : Int32) = 0 by decide), show rdI (MW cy iv ad μ0 I V A N X s ob Fg) (ad 0) 7 32 = some (I 32) from m_int F.1 rfl, Option.bind_some, h32, if_neg (show ¬ (1 : Int32) = 0 by decide), show rdI (MW cy iv ad μ0 I V A N X s ob Fg) (ad 0) 7 34 = some (I 34) from m_int F.1 rfl, Option.bind_some, h34]
  exact w_44n F h33 h35 h37 h38 hpf hv hvv (fun s ob Fg hB hs => w_130v F h32 h36 h39 h40 (hv Fg) hL hB hs) hB hs
/-- another name, the same VALUE -/
theorem w_newN (F : TX iv ad V A 21 60 sd bs n) {d k q v par dp a L pf : Nat} {tb : Nat → Nat} {VL : List Nat} (E : NEl X (hb bs) n k q par dp) (hk : k < 1300) (h29 : I 29 = nI k) (h32 : I 32 = 0) (h33 : I 33 = 1) (h35 : V 35 = .ref a) (h37 : I 37 = nI 0) (h38 : I 38 = nI (pf - 1)) (hpf : 1 ≤ pf ∧ pf ≤ L ∧ tb (pf - 1) = 0) (hv : ∀ Fg, BS cy iv ad μ0 I V A N X Fg a tb L) (hvv : v < 2 ^ 30) (H : WVal cy iv ad μ0 I V A N X d (nI k) VL) : WEl cy iv ad μ0 I V A N X (d + 1) (nI k) v false ([bs q] ++ sl tb 0 pf ++ VL) := by
  intro s ob Fg hB hs
  have hbB := F.2.2.2.2.2.1
  have b8q : b8 (hb bs q) = bs q := b8_nI (hbB q)
  rw [f_X8_writeElement_s]
  unfold fo_X8_writeElement f_X8_writeElement_L13 f_X8_writeElement_L35
  rw [show rdI (MW cy iv ad μ0 I V A N X s ob Fg) (ad 0) 7 29 = some (I 29) from m_int F.1 rfl, Option.bind_some, h29, if_pos rfl, if_neg (show ¬ (1 : Int32) = 0 by decide), show rdI (MW cy iv ad μ0 I V A N X s ob Fg) (ad 0) 7 32 = some (I 32) from m_int F.1 rfl, Option.bind_some, h32, if_pos rfl, w_21 F, Option.bind_some, x_r2 (F.w _ _), Option.bind_some, x_ld (F.w _ _) 2 (by decide) hk, Option.bind_some, E.2.1]
  have := w_44n (cy := cy) (μ0 := μ0) (N := N) (X := X) (s := s) (ob := ob) (Fg := Fg) (rV := f_X8_writeValue cy d) (k := nI k) (v := v) (t := hb bs q) (row := false) (VL := VL) F h33 h35 h37 (fun _ => h38) (fun _ => hpf) hv hvv (fun s ob Fg hB hs => by
    unfold f_X8_writeElement_L130 f_X8_writeElement_L166
    have o1 : AP ob s (updG ob s 0) [0] := AP.one hB (by decide)
    obtain ⟨ob', Fg', e1, e2⟩ := H (s + 1) (updG ob s 0) Fg o1.2.2 hs
    refine ⟨ob', Fg', ?_, o1.app e2 rfl⟩
    rw [if_pos (w_o F), w_puts F (by omega), Option.bind_some, if_neg (show ¬ (1 : Int32) = 0 by decide), show b8 0 = 0 by decide +kernel, show rdI (MW cy iv ad μ0 I V A N X (s + 1) (updG ob s 0) Fg) (ad 0) 7 32 = some (I 32) from m_int F.1 rfl, Option.bind_some, h32, if_pos rfl, if_pos (w_o F), e1, Option.bind_some]) hB (by rw [b8q]; exact hs)
  rw [b8q] at this
  exact this
end WN1
