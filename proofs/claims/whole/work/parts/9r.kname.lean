/-! THE CALLS: name. -/
theorem ob2_k {c : Nat} {a : Nat} {x : Option (Int32 × Mem)} {g : Int32 → Mem → Option (Int32 × Mem)} {r : Int32} {M : Mem} (h : (ob2 x fun r10 μ9 => if isO μ9 a c = true then (ob2 (g r10 μ9) fun r14 μ13 => if r14 = 0 ∨ r14 = 1 then some (r14, μ13) else none) else none) = some (r, M)) (k : Int32 → Mem → Option (Int32 × Mem)) : (ob2 x fun r10 μ9 => if isO μ9 a c = true then (ob2 (g r10 μ9) k) else none) = k r M := by
  cases x with
  | none => cases h
  | some q =>
    have h : (if isO q.2 a c = true then (ob2 (g q.1 q.2) fun r14 μ13 => if r14 = 0 ∨ r14 = 1 then some (r14, μ13) else none) else none) = some (r, M) := h
    show (if isO q.2 a c = true then ob2 (g q.1 q.2) k else none) = k r M
    by_cases c1 : isO q.2 a c = true
    · rw [if_pos c1] at h ⊢
      cases eg : g q.1 q.2 with
      | none => rw [eg] at h; cases h
      | some y =>
        rw [eg] at h
        have h : (if y.1 = 0 ∨ y.1 = 1 then some (y.1, y.2) else none) = some (r, M) := h
        by_cases c2 : y.1 = 0 ∨ y.1 = 1
        · rw [if_pos c2] at h
          cases h
          rfl
        · rw [if_neg c2] at h
          cases h
    · rw [if_neg c1] at h
      cases h
section KN1
variable {cy : Nat → ClassId} {iv : Nat → Option Nat} {ad : Nat → Nat} {μ0 : Mem} {J : Nat → Int32} {w : Nat} {B : Nat → Nat → Int32} {iw : Nat → Option Nat} {aw : Nat → Nat} {μ1 : Mem} {I : Nat → Int32} {V : Nat → Value} {A : Nat → Nat → Int32} {s : Nat} {bs : Nat → Nat} {n : Nat} {G : Nat → Nat} {d m : Nat} {at' : Int32} {μ : Mem} {N : Nat} {X : Nat → Nat → Int32} {ν hi c : Nat → Nat}
theorem k_jNm (hL : Lay6 iv ad) {j n : Nat} {b : Nat → Nat} (hj : span6 j = true) (h1 : J (100 * j + 1) = nI n) (hn : n ≤ len6 (j + 1)) (h2 : B (j + 1) = hb b) : ∃ K, f_X2_judgeName cy (ad 1) (ad j) (MC cy iv ad μ0 J w B) = some (MC cy iv ad μ0 (upR J 0 (-1) (fkI (jEnd (jN (hb b) K0 0 n) n)) (fpI (jEnd (jN (hb b) K0 0 n) n)) K) (ad j) B) := by
  have S := SP6 (cy := cy) (μ0 := μ0) (w := w) (B := B) hL hj h1 hn
  rw [h2] at S
  obtain ⟨K, e⟩ := q_judgeName S (k_r1 hL hj) (c_rc hL)
  rw [c_RM hL] at e
  exact ⟨K, e⟩
/-- the VALUE of an ELEMENT of the changed DOCUMENT, as it was -/
theorem w_valK (F : TX iw aw V A 21 60 (50 + s) bs n) (W : WV (hb bs) n G d) (tw : TWy X bs n G d N ν hi m c) (h28 : I 28 = nI (ν d)) {x : Nat} (hx : x < m) (h29 : ∀ y, c x < y → y < c (x + 1) → nI y ≠ I 29) : WVal cy iw aw μ1 I V A N X (118 - 3 * d) (nI (c x)) (sl bs (vpl (hb bs) n (st (hb bs) n (wD (hb bs) n G d) x)) (st (hb bs) n (wD (hb bs) n G d) (x + 1))) := by
  have wn := tw.wn
  have d23 := (W.dc d (Nat.le_refl _)).1
  have K := tw.2.2.2.2
  have hm := K.2.1
  have ic := K.inc (i := x) (by omega)
  have ic1 := K.inc (i := x + 1) (by omega)
  obtain ⟨y1, y2, y3, y4, y5⟩ := K.2.2.2.2.2.2 x hx
  have hD := K.1
  have le := hD.le' (i := x + 1) (by omega)
  have hD1 := hD.1
  have hD2 := hD.2.1
  have hE := hD.2.2.2.2.2 x hx
  have hB := F.2.2.2.2.2.1
  obtain ⟨s1, s2, s3, s4, s5, s6⟩ := hE.s (n := n) (by omega)
  have out : ∀ y, c x ≤ y → y < c (x + 1) → nI y ≠ I 28 := fun y a1 a2 z => by
    rw [h28] at z
    have := (nI_eq (by omega) (by omega)).mp z
    omega
  rw [show 118 - 3 * d = 117 - 3 * d + 1 by omega]
  by_cases hd : hasD (hb bs (st (hb bs) n (wD (hb bs) n G d) x))
  · have := w_valD (cy := cy) (μ0 := μ1) (I := I) (N := N) (d := 117 - 3 * d) F y2 hE (by omega) (by omega) hd (w_docU F (23 - d) (117 - 3 * d) (by omega) (y4 hd) (by omega) (by omega) (by omega) (by rw [y2.2.1]) (out _ (Nat.le_refl _) (by omega)) (fun y a1 a2 => ⟨out y (by omega) a2, h29 y (by omega) a2⟩))
    rw [VW_sl hB hd s5] at this
    exact this
  · exact w_valN F y2 hE (by omega) (by omega) hd
theorem n_ed (hL : Lay6 iv ad) (hW : Lay iw aw) (R : REL J B I A) (hs4 : s < 4) (S : SH J B (90 + s) bs n G d m at') (Rs : RSh A s bs n G d at') (W : WV (hb bs) n G d) (hrow : (wT (hb bs) n G d == 4) = false) {i : Nat} (hi' : i < m) (hat : at' = nI i) {tn : Nat} {tb : Nat → Nat} (g1 : J 2201 = nI tn) (g2 : B 23 = hb tb) (g3 : bB tb) (g4 : tn ≤ 2000) (hnm : 1 ≤ tn ∧ nmZ (hb tb) 0 (tn - 1) none)
    (F : TX iw aw V A 21 60 (50 + s) bs n) (tw : TWy X bs n G d N ν hi m c) (h28 : I 28 = nI (ν d)) (h29 : I 29 = nI (c i)) (h31 : I 31 = nI m) (h32 : I 32 = 0) (h33 : I 33 = 1) (h35 : V 35 = .ref (aw 1)) (h37 : I 37 = nI 0) (h38 : I 38 = nI (tn - 1)) (ho : ∀ x, x < m → A 30 x = nI (c x)) (hA1 : ∀ j, j < tn → A 1 j = sx (tb j)) :
    ∃ tl, (((f_X4_startDraft cy (ad (90 + s)) (MC cy iv ad μ0 J w B)).bind fun μ47 => if isO μ47 (ad (90 + s)) 3 = true then ((f_X4_keepElements cy (ad (90 + s)) 0 (nI i) μ47).bind fun μ50 => if isO μ50 (ad (90 + s)) 3 = true then (ob2 (f_X4_elementType cy (ad (90 + s)) μ50) fun r54 μ53 => (rdR μ53 (ad 0) 5 1).bind fun q55 => (rdR μ53 (ad (90 + s)) 3 0).bind fun q57 => if isO μ53 (ad (90 + s)) 3 = true then (ob2 (f_X4_valuePlace cy (ad (90 + s)) μ53) fun r62 μ61 => if isO μ61 (ad (90 + s)) 3 = true then (ob2 (f_X4_valueEnd cy (ad (90 + s)) μ61) fun r66 μ65 => if isO μ65 (ad (90 + s)) 3 = true then ((f_X4_addElement cy (ad (90 + s)) r54 q55 0 q57 r62 r66 μ65).bind fun μ69 => (rdR μ69 (ad (90 + s)) 3 1).bind fun q70 => (rdI μ69 q70 0 7).bind fun v72 => if isO μ69 (ad (90 + s)) 3 = true then ((f_X4_keepElements cy (ad (90 + s)) (nI i + 1) v72 μ69).bind fun μ76 => if isO μ76 (ad 0) 5 = true then (obX2 (f_X6_finishChange cy (ad 0) (nI s) (nI i) μ76) fun r82 μ79 => some (.inr (r82, μ79))) else none) else none) else none) else none) else none) else none) else none) = tl) ∧
    ((∃ J' B' I' V' A', tl = some (.inl ("java/lang/UnsupportedOperationException", MC cy iv ad μ0 J' w B')) ∧ f_X8_lays cy (aw 0) (nI s) (MT cy iw aw μ1 I V A 60 N X) = some (0, MR cy iw aw μ1 I' V' A') ∧ REL J' B' I' A' ∧ I' 0 = I 0) ∨
    (∃ J' B' I' V' A' n', tl = some (.inr (nI n', MC cy iv ad μ0 J' w B')) ∧ f_X8_lays cy (aw 0) (nI s) (MT cy iw aw μ1 I V A 60 N X) = some (1, MR cy iw aw μ1 I' V' A') ∧ A' 6 s = nI n' ∧ REL J' B' I' A' ∧ I' 0 = I 0)) := by
  have z := sS_s hs4
  have a := shf_sp z.1
  have C := S.2.2.2.2
  have hm := C.2.2.2.2.2.2.2.2.1
  have hn := S.2.2.2.1
  have wn := tw.wn
  have K := tw.2.2.2.2
  have hD := K.1
  have hD1 := hD.1
  have hD2 := hD.2.1
  have d23 := (W.dc d (Nat.le_refl _)).1
  have hE := hD.2.2.2.2.2 i hi'
  have leE := hD.le' (i := i + 1) (by omega)
  obtain ⟨s1, s2, s3, s4, s5, s6⟩ := hE.s (n := n) (by omega)
  have hbB := S.2.2.1
  have b8q : b8 (hb bs (st (hb bs) n (wD (hb bs) n G d) i)) = bs (st (hb bs) n (wD (hb bs) n G d) i) := b8_nI (hbB _)
  have tz : tb (tn - 1) = 0 := by
    have zz := hnm.2.2.1
    have hh := g3 (tn - 1)
    exact (nI_eq (b := 0) (by omega) (by decide)).mp zz
  have ebn : bn (hb tb) tn 0 = tn := by
    rw [bn_of (z := tn - 1) hnm.2.2.1 hnm.2.1 (by omega) hnm.2.2.2.1]
    omega
  -- the class's draft
  obtain ⟨μa, ea, Ga⟩ := F_startDraft (cy := cy) (μ0 := μ0) (w := w) hL z.1 S R.2.2.2.2.2.2.1
  have S0 := S.up z.1 (x := 0)
  obtain ⟨μb, eb, Gb⟩ := F_keep (i := 0) (j := i) (dr := 0) hL z.1 S0 Ga (Nat.zero_le _) (by omega) upd_self' (by decide)
  rw [upd_upd, Nat.zero_add, Nat.sub_zero] at Gb
  have S2 := S.up z.1 (x := nI i)
  obtain ⟨μc, ec, Gc⟩ := F_addElement (t := hb bs (st (hb bs) n (wD (hb bs) n G d) i)) (np := 0) (ne := tn) (kn := 22) (nn := tn) (bn' := tb) (kv := sS (90 + s)) (nv := n) (bv' := bs) (vs := vpl (hb bs) n (st (hb bs) n (wD (hb bs) n G d) i)) (ve := st (hb bs) n (wD (hb bs) n G d) (i + 1)) (dr := i) hL z.1 S2 Gb upd_self' (by omega) ⟨rfl, by decide, by rw [upd_ne' (by omega)]; exact g1, g2, g3, g4⟩ (fun _ => ⟨Nat.zero_le _, Nat.le_refl _, ebn⟩) ⟨a.1, by omega, by rw [upd_ne' (by omega)]; exact S.1, S.2.1, S.2.2.1, by rw [a.2.2.1]; exact hn⟩ ⟨s3, by omega⟩
  rw [upd_upd] at Gc
  have S3 := S.up z.1 (x := nI (i + 1))
  obtain ⟨μd, ed', Gd⟩ := F_keep (i := i + 1) (j := m) (dr := i + 1) hL z.1 S3 Gc (by omega) (Nat.le_refl _) upd_self' (by omega)
  rw [upd_upd, show i + 1 + (m - (i + 1)) = m by omega] at Gd
  refine ⟨(obX2 (f_X6_finishChange cy (ad 0) (nI s) (nI i) μd) fun r82 μ79 => some (.inr (r82, μ79))), ?_, ?_⟩
  · obtain ⟨J1, B1, f1, T1, -, -⟩ := S0.dg z.1 Ga
    obtain ⟨J2, B2, f2, T2, -, -⟩ := S2.dg z.1 Gb
    obtain ⟨J3, B3, f3, T3, -, -⟩ := S3.dg z.1 Gc
    have od : isO μd (ad 0) 5 = true := by
      obtain ⟨Jg, Bg, eg, -, -⟩ := Gd.mem
      rw [eg]
      exact g_is hL
    rw [ea, Option.bind_some]
    rw [f1] at eb ⊢
    have eb' : f_X4_keepElements cy (ad (90 + s)) 0 (nI i) (MC cy iv ad μ0 J1 w B1) = some μb := eb
    rw [if_pos (F_is hL z.1), eb', Option.bind_some]
    rw [f2] at ec ⊢
    have ec' : f_X4_addElement cy (ad (90 + s)) (hb bs (st (hb bs) n (wD (hb bs) n G d) i)) (ad 22) 0 (ad (sS (90 + s))) (nI (vpl (hb bs) n (st (hb bs) n (wD (hb bs) n G d) i))) (nI (st (hb bs) n (wD (hb bs) n G d) (i + 1))) (MC cy iv ad μ0 J2 w B2) = some μc := ec
    rw [if_pos (F_is hL z.1), F_elementType hL z.1 T2 hi' hat, ob2_some, g_ref hL (k := 1) rfl, Option.bind_some, F_r0 hL z.1, Option.bind_some, if_pos (F_is hL z.1), F_valuePlace hL z.1 T2 hi' hat, ob2_some, if_pos (F_is hL z.1), F_valueEnd hL z.1 T2 hi' hat, ob2_some, if_pos (F_is hL z.1), ec', Option.bind_some]
    rw [f3] at ed' ⊢
    rw [F_r1 hL z.1, Option.bind_some, C_cnt hL a.2.1, Option.bind_some, T3.2.2.2.2.2.2.1, if_pos (F_is hL z.1), nI_a1, ed', Option.bind_some, if_pos od]
  · -- the pieces
    have eM : cat (fun x => if x = i then [bs (st (hb bs) n (wD (hb bs) n G d) i)] ++ sl tb 0 tn ++ sl bs (vpl (hb bs) n (st (hb bs) n (wD (hb bs) n G d) i)) (st (hb bs) n (wD (hb bs) n G d) (i + 1)) else pce bs n (wD (hb bs) n G d) (wT (hb bs) n G d == 4) x x) m = [] ++ cat (fun x => pce bs n (wD (hb bs) n G d) (wT (hb bs) n G d == 4) (0 + x) (0 + x)) i ++ ([b8 (hb bs (st (hb bs) n (wD (hb bs) n G d) i))] ++ (if (wT (hb bs) n G d == 4) then rnl i else sl tb 0 tn) ++ sl bs (vpl (hb bs) n (st (hb bs) n (wD (hb bs) n G d) i)) (st (hb bs) n (wD (hb bs) n G d) (i + 1))) ++ cat (fun x => pce bs n (wD (hb bs) n G d) (wT (hb bs) n G d == 4) (i + 1 + x) (i + 1 + x)) (m - (i + 1)) := by
      have em : m = i + 1 + (m - (i + 1)) := by omega
      conv => lhs; rw [em, cat_split]
      show (cat _ i ++ (if i = i then _ else _)) ++ cat _ _ = _
      rw [if_pos rfl, List.nil_append, b8q, hrow, if_neg (show ¬ false = true by decide)]
      congr 1
      · congr 1
        refine cat_congr (fun x hx => ?_)
        rw [if_neg (by omega), Nat.zero_add]
      · refine cat_congr (fun x hx => ?_)
        rw [if_neg (by omega)]
    rw [← eM] at Gd
    have nz : nmZ (hl (sl tb 0 tn)) 0 ((sl tb 0 tn).length - 1) none := by
      have := nm_bs (bs := tb) hnm.2
      rw [show tn - 1 + 1 = tn by omega] at this
      rw [sl_len]
      exact this
    have hP : ∀ x, x < m → eOk (hl (if x = i then [bs (st (hb bs) n (wD (hb bs) n G d) i)] ++ sl tb 0 tn ++ sl bs (vpl (hb bs) n (st (hb bs) n (wD (hb bs) n G d) i)) (st (hb bs) n (wD (hb bs) n G d) (i + 1)) else pce bs n (wD (hb bs) n G d) (wT (hb bs) n G d == 4) x x)) (23 - d) 0 (if x = i then [bs (st (hb bs) n (wD (hb bs) n G d) i)] ++ sl tb 0 tn ++ sl bs (vpl (hb bs) n (st (hb bs) n (wD (hb bs) n G d) i)) (st (hb bs) n (wD (hb bs) n G d) (i + 1)) else pce bs n (wD (hb bs) n G d) (wT (hb bs) n G d == 4) x x).length (rwo (wT (hb bs) n G d == 4) x) := fun x hx => by
      by_cases cx : x = i
      · rw [if_pos cx, hrow]
        exact pc_ok s1 (by rw [sl_len]; omega) nz (vl_bs s5)
      · rw [if_neg cx]
        exact pce_ok hD hx
    have hM : nLen bs n G d (cat (fun x => if x = i then [bs (st (hb bs) n (wD (hb bs) n G d) i)] ++ sl tb 0 tn ++ sl bs (vpl (hb bs) n (st (hb bs) n (wD (hb bs) n G d) i)) (st (hb bs) n (wD (hb bs) n G d) (i + 1)) else pce bs n (wD (hb bs) n G d) (wT (hb bs) n G d == 4) x x) m) ≤ 11000 := by
      have cs := cat_sum (P := fun x => if x = i then [bs (st (hb bs) n (wD (hb bs) n G d) i)] ++ sl tb 0 tn ++ sl bs (vpl (hb bs) n (st (hb bs) n (wD (hb bs) n G d) i)) (st (hb bs) n (wD (hb bs) n G d) (i + 1)) else pce bs n (wD (hb bs) n G d) (wT (hb bs) n G d == 4) x x) (a := fun x => st (hb bs) n (wD (hb bs) n G d) x + (if i < x then 2400 else 0)) (k := 3) m (fun x hx => by
        have pl := pce_len (v := x) hD hx (by omega)
        show (if x = i then [bs (st (hb bs) n (wD (hb bs) n G d) i)] ++ sl tb 0 tn ++ sl bs (vpl (hb bs) n (st (hb bs) n (wD (hb bs) n G d) i)) (st (hb bs) n (wD (hb bs) n G d) (i + 1)) else pce bs n (wD (hb bs) n G d) (wT (hb bs) n G d == 4) x x).length + (st (hb bs) n (wD (hb bs) n G d) x + (if i < x then 2400 else 0)) ≤ st (hb bs) n (wD (hb bs) n G d) (x + 1) + (if i < x + 1 then 2400 else 0) + 3
        by_cases cx : x = i
        · subst cx
          rw [if_pos rfl, if_neg (by omega), if_pos (by omega)]
          have l1 : ([bs (st (hb bs) n (wD (hb bs) n G d) x)] ++ sl tb 0 tn ++ sl bs (vpl (hb bs) n (st (hb bs) n (wD (hb bs) n G d) x)) (st (hb bs) n (wD (hb bs) n G d) (x + 1))).length = 1 + (tn - 0) + (st (hb bs) n (wD (hb bs) n G d) (x + 1) - vpl (hb bs) n (st (hb bs) n (wD (hb bs) n G d) x)) := by
            rw [List.length_append, List.length_append, sl_len, sl_len]
            rfl
          rw [l1]
          omega
        · rw [if_neg cx]
          by_cases c2 : i < x
          · rw [if_pos c2, if_pos (by omega)]; omega
          · rw [if_neg c2, if_neg (by omega)]; omega)
      have e0 : st (hb bs) n (wD (hb bs) n G d) 0 + (if i < 0 then 2400 else 0) = wD (hb bs) n G d + 4 := by
        rw [if_neg (by omega)]
        rfl
      have em : st (hb bs) n (wD (hb bs) n G d) m + (if i < m then 2400 else 0) = wR (hb bs) n G d - 1 + 2400 := by
        rw [if_pos hi', hD.2.2.2.2.1]
      rw [e0, em] at cs
      unfold nLen
      omega
    have inc : ∀ x, x < m → c x < c (x + 1) := fun x hx => (K.2.2.2.2.2.2 x hx).1
    have ki := K.inc (i := i) (by omega)
    have ki1 := K.inc (i := i + 1) (by omega)
    have ed := k_edit (cy := cy) (μ0 := μ0) (μ1 := μ1) (x := nI i) (oc := fun x => nI (c x)) hL hW R hs4 S Rs W Gd hP hM F tw h28 (Or.inr ⟨c i, h29, by omega, by omega, Or.inl (by have := inc i hi'; omega)⟩) (by omega) h31 ho (fun x hx => by
      have kx := K.inc (i := x) (by omega)
      have kx1 := K.inc (i := x + 1) (by omega)
      by_cases cx : x = i
      · subst cx
        rw [if_pos rfl, hrow]
        have := w_newN (cy := cy) (μ0 := μ1) (N := N) (X := X) (d := 118 - 3 * d) (v := x) (tb := tb) (pf := tn) (L := tn) F (K.2.2.2.2.2.2 x hx).2.1 (by omega) h29 h32 h33 h35 h37 h38 ⟨hnm.1, Nat.le_refl _, tz⟩ (bs_tape hW g3 g4 hA1 I V) (by omega) (w_valK F W tw h28 hx (fun y a1 a2 q => by
          rw [h29] at q
          have := (nI_eq (by omega) (by omega)).mp q
          omega))
        rw [show 118 - 3 * d + 1 = 119 - 3 * d by omega] at this
        exact this
      · rw [if_neg cx]
        refine w_keep F W tw h28 hx (by omega) (fun y a1 a2 q => ?_)
        rw [h29] at q
        have := (nI_eq (by omega) (by omega)).mp q
        rcases Nat.lt_or_ge x i with r | r
        · have := c_le inc (i := x + 1) (k := i) (by omega) (by omega)
          omega
        · have := c_le inc (i := i + 1) (k := x) (by omega) (by omega)
          have := inc i hi'
          omega)
    rcases Nat.lt_or_ge 2400 (nLen bs n G d (cat (fun x => if x = i then [bs (st (hb bs) n (wD (hb bs) n G d) i)] ++ sl tb 0 tn ++ sl bs (vpl (hb bs) n (st (hb bs) n (wD (hb bs) n G d) i)) (st (hb bs) n (wD (hb bs) n G d) (i + 1)) else pce bs n (wD (hb bs) n G d) (wT (hb bs) n G d == 4) x x) m)) with q | q
    · obtain ⟨J', B', I', V', A', f1, f2, f3, f4⟩ := ed.1 q
      exact Or.inl ⟨J', B', I', V', A', by rw [f1]; rfl, f2, f3, f4⟩
    · obtain ⟨J', B', I', V', A', f1, f2, f3, f4, f5, f6, f7⟩ := ed.2 q
      refine Or.inr ⟨J', B', I', V', A', _, by rw [f1]; rfl, f2, f3, ?_, f5⟩
      have nl := numL_i hi' (by omega)
      have := f7 (by rw [nl]; exact Or.inr ⟨i, hi', rfl⟩)
      rw [nl, show nI i = A' 9 s by rw [f4, Rs.2.2.2.2, hat], upd_id, updG_id] at this
      exact this
end KN1
