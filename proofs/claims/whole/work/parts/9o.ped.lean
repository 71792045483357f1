/-! A NEW ELEMENT, on both sides. -/
section KP1
variable {cy : Nat → ClassId} {iv : Nat → Option Nat} {ad : Nat → Nat} {μ0 : Mem} {J : Nat → Int32} {w : Nat} {B : Nat → Nat → Int32} {iw : Nat → Option Nat} {aw : Nat → Nat} {μ1 : Mem} {I : Nat → Int32} {V : Nat → Value} {A : Nat → Nat → Int32} {s : Nat} {bs : Nat → Nat} {n : Nat} {G : Nat → Nat} {d m : Nat} {at' : Int32} {μ : Mem} {N : Nat} {X : Nat → Nat → Int32} {ν hi c : Nat → Nat}
theorem y_nameIs (F : TX iw aw V A 21 60 (50 + s) bs n) (a : Nat) (x y : Int32) : f_X8_nameIs cy (aw 0) a x y (MT cy iw aw μ1 I V A 60 N X) = some (MT cy iw aw μ1 (upd (upd (upd I 33 1) 37 x) 38 y) (updG V 35 (.ref a)) A 60 N X) := by
  unfold f_X8_nameIs
  have F35 : TX iw aw (updG V 35 (.ref a)) A 21 60 (50 + s) bs n := ⟨F.1, F.2.1, by rw [updG_ne (by decide)]; exact F.2.2.1, F.2.2.2⟩
  rw [x_put F 33 rfl (by decide), Option.bind_some, m_putV F.1 rfl (by decide), Option.bind_some]
  have e : MR cy iw aw μ1 (upd (upd I 33 1) (60 + 1) (nI N)) (updG V 35 (.ref a)) (tA 60 A X) = MT cy iw aw μ1 (upd I 33 1) (updG V 35 (.ref a)) A 60 N X := rfl
  rw [e, x_put F35 37 rfl (by decide), Option.bind_some, x_put F35 38 rfl (by decide), Option.bind_some]
/-- the pieces with a new one at i -/
def pIns (bs : Nat → Nat) (n D : Nat) (row : Bool) (i : Nat) (L : List Nat) (x : Nat) : List Nat := if x < i then pce bs n D row x x else if x = i then L else pce bs n D row (x - 1) x
theorem cat_ins {D i m : Nat} {row : Bool} {L : List Nat} (hi : i ≤ m) : cat (pIns bs n D row i L) (m + 1) = [] ++ cat (fun t => pce bs n D row (0 + t) (0 + t)) i ++ L ++ cat (fun t => pce bs n D row (i + t) (i + 1 + t)) (m - i) := by
  have em : m + 1 = i + 1 + (m - i) := by omega
  rw [em, cat_split]
  show (cat _ i ++ pIns bs n D row i L i) ++ cat _ _ = _
  rw [List.nil_append]
  have e1 : pIns bs n D row i L i = L := by unfold pIns; rw [if_neg (by omega), if_pos rfl]
  rw [e1]
  congr 1
  · congr 1
    refine cat_congr (fun x hx => ?_)
    show (if x < i then _ else _) = _
    rw [if_pos hx, Nat.zero_add]
  · refine cat_congr (fun x hx => ?_)
    show (if i + 1 + x < i then _ else _) = _
    rw [if_neg (by omega), if_neg (by omega), show i + 1 + x - 1 = i + x by omega]
theorem F_put (hL : Lay6 iv ad) (hs4 : s < 4) (S : SH J B (90 + s) bs n G d m at') (R : DRF J B) {i : Nat} (hi : i ≤ m) {t : Int32} {tn pf : Nat} {tb : Nat → Nat} (g1 : J 2201 = nI tn) (g2 : B 23 = hb tb) (g3 : bB tb) (g4 : tn ≤ 2000) (j3 : J 103 = nI pf) (hne : (wT (hb bs) n G d == 4) = false → bn (hb tb) tn 0 = pf) (hpf : pf ≤ tn) {x : Int32} :
    ∃ μ', DG cy iv ad μ0 (upd J (100 * (90 + s) + 3) (nI (m + 1))) w B bs (wD (hb bs) n G d + 4) (cat (pIns bs n (wD (hb bs) n G d) (wT (hb bs) n G d == 4) i ([b8 t] ++ (if (wT (hb bs) n G d == 4) then rnl i else sl tb 0 pf) ++ sl tb pf tn)) (m + 1)) μ' ∧ ∀ (k : Mem → Option ((String × Mem) ⊕ (Int32 × Mem))), ((f_X4_startDraft cy (ad (90 + s)) (MC cy iv ad μ0 J w B)).bind fun μ123 => if isO μ123 (ad (90 + s)) 3 = true then ((f_X4_keepElements cy (ad (90 + s)) 0 (nI i) μ123).bind fun μ126 => (rdR μ126 (ad 0) 5 1).bind fun q127 => (rdR μ126 (ad 0) 5 1).bind fun q129 => (rdR μ126 (ad 0) 5 3).bind fun q131 => (rdI μ126 q131 1 3).bind fun v133 => (rdR μ126 (ad 0) 5 1).bind fun q135 => (rdI μ126 q135 4 1).bind fun v137 => if isO μ126 (ad (90 + s)) 3 = true then ((f_X4_addElement cy (ad (90 + s)) t q127 0 q129 v133 v137 μ126).bind fun μ141 => (rdI μ141 (ad (sC (90 + s))) 0 7).bind fun v142 => if isO μ141 (ad (90 + s)) 3 = true then ((f_X4_keepElements cy (ad (90 + s)) (nI i) v142 μ141).bind fun μ146 => k μ146) else none) else none) else none) = k μ' := by
  have z := sS_s hs4
  have a := shf_sp z.1
  have hm := S.2.2.2.2.2.2.2.2.2.2.2.2.1
  obtain ⟨μ1, e1, G1⟩ := F_startDraft (cy := cy) (μ0 := μ0) (w := w) hL z.1 S R
  have S0 := S.up z.1 (x := 0)
  obtain ⟨μ2, e2, G2⟩ := F_keep (i := 0) (j := i) (dr := 0) hL z.1 S0 G1 (Nat.zero_le _) (by omega) upd_self' (by decide)
  rw [upd_upd, Nat.zero_add, Nat.sub_zero] at G2
  have S2 := S.up z.1 (x := nI i)
  have sp22 : ∀ v, span6 22 = true ∧ 22 ≠ 34 ∧ (upd J (100 * (90 + s) + 3) v) (100 * 22 + 1) = nI tn ∧ B (22 + 1) = hb tb ∧ bB tb ∧ tn ≤ len6 (22 + 1) := fun v => ⟨rfl, by decide, by rw [upd_ne' (by omega)]; exact g1, g2, g3, g4⟩
  obtain ⟨μ3, e3, G3⟩ := F_addElement (t := t) (np := 0) (ne := pf) (kn := 22) (nn := tn) (bn' := tb) (kv := 22) (nv := tn) (bv' := tb) (vs := pf) (ve := tn) (dr := i) hL z.1 S2 G2 upd_self' (by omega) (sp22 _) (fun h => ⟨Nat.zero_le _, hpf, hne h⟩) (sp22 _) ⟨hpf, Nat.le_refl _⟩
  rw [upd_upd] at G3
  have S3 := S.up z.1 (x := nI (i + 1))
  obtain ⟨μ4, e4, G4⟩ := F_keep (i := i) (j := m) (dr := i + 1) hL z.1 S3 G3 hi (Nat.le_refl _) upd_self' (by omega)
  rw [upd_upd, show i + 1 + (m - i) = m + 1 by omega] at G4
  refine ⟨μ4, ?_, fun k => ?_⟩
  · rw [cat_ins hi]
    exact G4
  · obtain ⟨J1, B1, f1, T1, -, -⟩ := S0.dg z.1 G1
    obtain ⟨J2, B2, f2, T2, hJ2, hB2⟩ := S2.dg z.1 G2
    obtain ⟨J3, B3, f3, T3, -, -⟩ := S3.dg z.1 G3
    rw [e1, Option.bind_some]
    rw [f1] at e2 ⊢
    have e2' : f_X4_keepElements cy (ad (90 + s)) 0 (nI i) (MC cy iv ad μ0 J1 w B1) = some μ2 := e2
    rw [if_pos (F_is hL z.1), e2', Option.bind_some]
    rw [f2] at e3 ⊢
    have j3' : J2 103 = nI pf := by rw [hJ2 _ (by decide) (by decide), upd_ne' (by omega)]; exact j3
    have g1' : J2 (100 * 22 + 1) = nI tn := by rw [hJ2 _ (by decide) (by decide), upd_ne' (by omega)]; exact g1
    have e3' : f_X4_addElement cy (ad (90 + s)) t (ad 22) 0 (ad 22) (nI pf) (nI tn) (MC cy iv ad μ0 J2 w B2) = some μ3 := e3
    rw [g_ref hL (k := 1) rfl, Option.bind_some, Option.bind_some, g_ref hL (k := 3) rfl, Option.bind_some, k_rd hL 3 rfl, Option.bind_some, j3', Option.bind_some, P_size (j := 22) (n := tn) hL rfl g1', Option.bind_some, if_pos (F_is hL z.1), e3', Option.bind_some]
    rw [f3] at e4 ⊢
    rw [C_cnt hL a.2.1, Option.bind_some, T3.2.2.2.2.2.2.1, if_pos (F_is hL z.1), e4, Option.bind_some]
theorem p_ed (hL : Lay6 iv ad) (hW : Lay iw aw) (R : REL J B I A) (hs4 : s < 4) (S : SH J B (90 + s) bs n G d m at') (Rs : RSh A s bs n G d at') (W : WV (hb bs) n G d) {i : Nat} (hi' : i ≤ m) {t : Int32} {tn pf : Nat} {tb : Nat → Nat} (g3 : bB tb) (g4 : tn ≤ 2000) (hpf : pf ≤ tn) (hnm : (wT (hb bs) n G d == 4) = false → 1 ≤ pf ∧ nmZ (hb tb) 0 (pf - 1) none) (ht : isTy t) (ht8 : nI (b8 t) = t) (hvo : vOk (hb tb) (23 - d) t pf tn)
    (DG' : DG cy iv ad μ0 (upd J (100 * (90 + s) + 3) (nI (m + 1))) w B bs (wD (hb bs) n G d + 4) (cat (pIns bs n (wD (hb bs) n G d) (wT (hb bs) n G d == 4) i ([b8 t] ++ (if (wT (hb bs) n G d == 4) then rnl i else sl tb 0 pf) ++ sl tb pf tn)) (m + 1)) μ)
    (F : TX iw aw V A 21 60 (50 + s) bs n) (tw : TWy X bs n G d N ν hi m c) (h28 : I 28 = nI (ν d)) (h29 : I 29 = -1) (h31 : I 31 = nI (m + 1)) (h32 : I 32 = 1) (h33 : I 33 = 1) (h34 : I 34 = t) (h35 : V 35 = .ref (aw 1)) (h36 : V 36 = .ref (aw 1)) (h37 : I 37 = nI 0) (h38 : (wT (hb bs) n G d == 4) = false → I 38 = nI (pf - 1)) (h39 : I 39 = nI pf) (h40 : I 40 = nI (tn - pf)) (ho : ∀ x, x < m + 1 → A 30 x = (if x < i then nI (c x) else if x = i then -1 else nI (c (x - 1)))) (hA1 : ∀ j, j < tn → A 1 j = sx (tb j)) :
    (∃ J' B' I' V' A', f_X6_finishChange cy (ad 0) (nI s) (nI i) μ = some (.inl ("java/lang/UnsupportedOperationException", MC cy iv ad μ0 J' w B')) ∧ f_X8_lays cy (aw 0) (nI s) (MT cy iw aw μ1 I V A 60 N X) = some (0, MR cy iw aw μ1 I' V' A') ∧ REL J' B' I' A' ∧ I' 0 = I 0) ∨
    (∃ J' B' I' V' A' n', f_X6_finishChange cy (ad 0) (nI s) (nI i) μ = some (.inr (nI n', MC cy iv ad μ0 J' w B')) ∧ f_X8_lays cy (aw 0) (nI s) (MT cy iw aw μ1 I V A 60 N X) = some (1, MR cy iw aw μ1 I' V' A') ∧ A' 6 s = nI n' ∧ REL J' B' I' (updG A' 9 (upd (A' 9) s (nI i))) ∧ I' 0 = I 0) := by
  have z := sS_s hs4
  have C := S.2.2.2.2
  have hm := C.2.2.2.2.2.2.2.2.1
  have hn := S.2.2.2.1
  have wn := tw.wn
  have K := tw.2.2.2.2
  have hD := K.1
  have hD1 := hD.1
  have hD2 := hD.2.1
  have d23 := (W.dc d (Nat.le_refl _)).1
  have tz : (wT (hb bs) n G d == 4) = false → tb (pf - 1) = 0 := fun h => by
    have zz := (hnm h).2.2.1
    have hh := g3 (pf - 1)
    exact (nI_eq (b := 0) (by omega) (by decide)).mp zz
  have nmL : 1 ≤ (if (wT (hb bs) n G d == 4) = true then rnl i else sl tb 0 pf).length ∧ nmZ (hl (if (wT (hb bs) n G d == 4) = true then rnl i else sl tb 0 pf)) 0 ((if (wT (hb bs) n G d == 4) = true then rnl i else sl tb 0 pf).length - 1) (rwo (wT (hb bs) n G d == 4) i) := by
    cases er : (wT (hb bs) n G d == 4) with
    | true =>
      show 1 ≤ (rnl i).length ∧ nmZ (hl (rnl i)) 0 ((rnl i).length - 1) (some i)
      rw [rnl_len]
      exact ⟨by omega, nm_rn⟩
    | false =>
      show 1 ≤ (sl tb 0 pf).length ∧ nmZ (hl (sl tb 0 pf)) 0 ((sl tb 0 pf).length - 1) none
      obtain ⟨p1, p2⟩ := hnm er
      have := nm_bs (bs := tb) p2
      rw [show pf - 1 + 1 = pf by omega] at this
      rw [sl_len]
      exact ⟨by omega, this⟩
  have nl : (if (wT (hb bs) n G d == 4) = true then rnl i else sl tb 0 pf).length ≤ pf + 11 := by
    cases er : (wT (hb bs) n G d == 4) with
    | true =>
      show (rnl i).length ≤ _
      have := dg_le i
      rw [rnl_len]
      omega
    | false =>
      show (sl tb 0 pf).length ≤ _
      rw [sl_len]
      omega
  have hP : ∀ x, x < m + 1 → eOk (hl (pIns bs n (wD (hb bs) n G d) (wT (hb bs) n G d == 4) i ([b8 t] ++ (if (wT (hb bs) n G d == 4) then rnl i else sl tb 0 pf) ++ sl tb pf tn) x)) (23 - d) 0 (pIns bs n (wD (hb bs) n G d) (wT (hb bs) n G d == 4) i ([b8 t] ++ (if (wT (hb bs) n G d == 4) then rnl i else sl tb 0 pf) ++ sl tb pf tn) x).length (rwo (wT (hb bs) n G d == 4) x) := fun x hx => by
    unfold pIns
    by_cases c1 : x < i
    · rw [if_pos c1]
      exact pce_ok hD (by omega)
    · rw [if_neg c1]
      by_cases c2 : x = i
      · rw [if_pos c2, c2]
        exact pc_ok (by rw [ht8]; exact ht) nmL.1 nmL.2 (by rw [ht8]; exact vl_bs hvo)
      · rw [if_neg c2]
        exact pce_ok hD (by omega)
  have hM : nLen bs n G d (cat (pIns bs n (wD (hb bs) n G d) (wT (hb bs) n G d == 4) i ([b8 t] ++ (if (wT (hb bs) n G d == 4) then rnl i else sl tb 0 pf) ++ sl tb pf tn)) (m + 1)) ≤ 11000 := by
    have cs := cat_sum (P := pIns bs n (wD (hb bs) n G d) (wT (hb bs) n G d == 4) i ([b8 t] ++ (if (wT (hb bs) n G d == 4) then rnl i else sl tb 0 pf) ++ sl tb pf tn)) (a := fun x => if x ≤ i then st (hb bs) n (wD (hb bs) n G d) x else st (hb bs) n (wD (hb bs) n G d) (x - 1) + 2020) (k := 3) (m + 1) (fun x hx => by
      show (pIns bs n (wD (hb bs) n G d) (wT (hb bs) n G d == 4) i ([b8 t] ++ (if (wT (hb bs) n G d == 4) then rnl i else sl tb 0 pf) ++ sl tb pf tn) x).length + (if x ≤ i then st (hb bs) n (wD (hb bs) n G d) x else st (hb bs) n (wD (hb bs) n G d) (x - 1) + 2020) ≤ (if x + 1 ≤ i then st (hb bs) n (wD (hb bs) n G d) (x + 1) else st (hb bs) n (wD (hb bs) n G d) (x + 1 - 1) + 2020) + 3
      unfold pIns
      by_cases c1 : x < i
      · have pl := pce_len (v := x) hD (i := x) (by omega) (by omega)
        rw [if_pos c1, if_pos (by omega), if_pos (by omega)]
        exact pl
      · rw [if_neg c1]
        by_cases c2 : x = i
        · subst c2
          rw [if_pos rfl, if_pos (Nat.le_refl _), if_neg (show ¬ x + 1 ≤ x by omega), show x + 1 - 1 = x from rfl]
          have lL : ([b8 t] ++ (if (wT (hb bs) n G d == 4) then rnl x else sl tb 0 pf) ++ sl tb pf tn).length = 1 + (if (wT (hb bs) n G d == 4) then rnl x else sl tb 0 pf).length + (tn - pf) := by
            rw [List.length_append, List.length_append, sl_len (f := tb) (p := pf) (q := tn)]
            rfl
          rw [lL]
          omega
        · have pl := pce_len (v := x) hD (i := x - 1) (by omega) (by omega)
          rw [show x - 1 + 1 = x by omega] at pl
          rw [if_neg c2, if_neg (by omega), if_neg (by omega), show x + 1 - 1 = x from rfl]
          omega)
    have e0 : (if 0 ≤ i then st (hb bs) n (wD (hb bs) n G d) 0 else st (hb bs) n (wD (hb bs) n G d) (0 - 1) + 2020) = wD (hb bs) n G d + 4 := by
      rw [if_pos (Nat.zero_le _)]
      rfl
    have em : (if m + 1 ≤ i then st (hb bs) n (wD (hb bs) n G d) (m + 1) else st (hb bs) n (wD (hb bs) n G d) (m + 1 - 1) + 2020) = wR (hb bs) n G d - 1 + 2020 := by
      rw [if_neg (by omega), show m + 1 - 1 = m from rfl, hD.2.2.2.2.1]
    rw [e0, em] at cs
    unfold nLen
    omega
  have ed := k_edit (cy := cy) (μ0 := μ0) (μ1 := μ1) (x := nI i) (oc := fun x => if x < i then nI (c x) else if x = i then -1 else nI (c (x - 1))) hL hW R hs4 S Rs W DG' hP hM F tw h28 (Or.inl h29) (by omega) h31 ho (fun x hx => by
    show WEl cy iw aw μ1 I V A N X (119 - 3 * d) (if x < i then nI (c x) else if x = i then -1 else nI (c (x - 1))) x _ (pIns bs n (wD (hb bs) n G d) (wT (hb bs) n G d == 4) i ([b8 t] ++ (if (wT (hb bs) n G d == 4) then rnl i else sl tb 0 pf) ++ sl tb pf tn) x)
    unfold pIns
    by_cases c1 : x < i
    · rw [if_pos c1, if_pos c1]
      have kx1 := K.inc (i := x + 1) (by omega)
      exact w_keep F W tw h28 (by omega) (by omega) (fun y a1 a2 q => nI_m1 (p := y) (by omega) (by rw [q]; exact h29))
    · rw [if_neg c1, if_neg c1]
      by_cases c2 : x = i
      · subst c2
        rw [if_pos rfl, if_pos rfl]
        have := w_newP (cy := cy) (μ0 := μ1) (N := N) (X := X) (d := 118 - 3 * d) (v := x) (row := (wT (hb bs) n G d == 4)) (tb := tb) (pf := pf) (vl := tn - pf) (L := tn) F h29 h32 h34 h33 h35 h36 h37 h38 (fun h => ⟨(hnm h).1, hpf, tz h⟩) h39 h40 (bs_tape hW g3 g4 hA1 I V) (by omega) (by omega)
        rw [show pf + (tn - pf) = tn by omega, show 118 - 3 * d + 1 = 119 - 3 * d by omega] at this
        exact this
      · rw [if_neg c2, if_neg c2]
        have kx1 := K.inc (i := x - 1 + 1) (by omega)
        exact w_keep F W tw h28 (by omega) (by omega) (fun y a1 a2 q => nI_m1 (p := y) (by omega) (by rw [q]; exact h29)))
  rcases Nat.lt_or_ge 2400 (nLen bs n G d (cat (pIns bs n (wD (hb bs) n G d) (wT (hb bs) n G d == 4) i ([b8 t] ++ (if (wT (hb bs) n G d == 4) then rnl i else sl tb 0 pf) ++ sl tb pf tn)) (m + 1))) with q | q
  · exact Or.inl (ed.1 q)
  · obtain ⟨J', B', I', V', A', f1, f2, f3, f4, f5, f6, f7⟩ := ed.2 q
    refine Or.inr ⟨J', B', I', V', A', _, f1, f2, f3, ?_, f5⟩
    have nl := numL_i (m := m + 1) (i := i) (by omega) (by omega)
    have := f7 (by rw [nl]; exact Or.inr ⟨i, by omega, rfl⟩)
    rw [nl] at this
    exact this
end KP1
