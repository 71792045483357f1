/-! THE CALLS: write. -/
section CHS3
variable {z o : Nat} {D v c : Nat → Nat} {t : Nat → Int32} {b b' : Nat → Nat} {L : List Nat}
theorem EX.ag (hE : EX b z L b') : ∀ j, j < z → hb b' j = hb b j := fun j hj => by show nI (b' j) = nI (b j); rw [hE.1 j hj]
theorem EX.agL (hE : EX b z L b') : ∀ i, i < L.length → hb b' (z + i) = hl L i := fun i hi => by show nI (b' (z + i)) = nI (L.getD i 0); rw [hE.2 i hi]
theorem CHN.add (C : CHN (hb b) z (o + 1) D t v c) (hE : EX b z L b') (e : eOk (hl L) (23 - o) 0 L.length (rwo (t o == 4) (c o))) : CHN (hb b') (z + L.length) (o + 1) D t v (fun k => if k = o then c o + 1 else c k) := by
  have e1 := C.2.2.1 (by omega)
  have T : TOPk (hb b') (z + L.length) o (D o) (t o) (c o + 1) := C.top.add (fun j _ j2 => hE.ag j j2) (e.go (Nat.le_refl _) (fun i hi => by rw [Nat.zero_add]; exact hE.agL i (by omega)) (by omega))
  refine ⟨C.1, fun q => by omega, fun _ => ⟨e1.1, e1.2.1, ?_⟩, fun k hk => by have := C.2.2.2.1 k hk; omega, fun k hk => ?_⟩
  · show TOPk _ _ (o + 1 - 1) (D (o + 1 - 1)) (t (o + 1 - 1)) (if o + 1 - 1 = o then c o + 1 else c (o + 1 - 1))
    rw [Nat.add_sub_cancel, if_pos rfl]
    exact T
  · obtain ⟨M, dl⟩ := C.2.2.2.2 k hk
    have := C.2.2.2.1 (k + 1) hk
    show MIDk _ _ _ _ (if k = o then c o + 1 else c k) _ _ _ ∧ _
    rw [if_neg (by omega)]
    exact ⟨M.go (fun j _ j2 => hE.ag j (by omega)), dl⟩
/-- a judged ELEMENT is a good one -/
theorem pc_jd {row : Bool} {ty : Int32} {tb : Nat → Nat} {tn q c e : Nat} {K1 : Kt} (ht : isTy ty) (hh : jHd (hb tb) tn (!row) = .inr (q, K1)) (hv : vOk (hb tb) e ty q tn) : eOk (hl ([b8 ty] ++ (if row then rnl c else sl tb 0 q) ++ sl tb q tn)) e 0 ([b8 ty] ++ (if row then rnl c else sl tb 0 q) ++ sl tb q tn).length (rwo row c) := by
  refine pc_ok (by rw [ty8 ht]; exact ht) ?_ ?_ (by rw [ty8 ht]; exact vl_bs hv)
  · cases row with
    | true => show 1 ≤ (rnl c).length; rw [rnl_len]; omega
    | false =>
      have := jN_b (show jN (hb tb) K0 0 tn = .inr (q, K1) from hh)
      show 1 ≤ (sl tb 0 q).length
      rw [sl_len]
      omega
  · cases row with
    | true =>
      show nmZ (hl (rnl c)) 0 ((rnl c).length - 1) (some c)
      rw [rnl_len, Nat.add_sub_cancel]
      exact nm_rn
    | false =>
      have g := jNm_s (rw := none) (show jNm (hb tb) K0 0 tn none = .inr (q, K1) from hh)
      show nmZ (hl (sl tb 0 q)) 0 ((sl tb 0 q).length - 1) none
      rw [sl_len]
      have := nm_bs g.1
      rw [show q - 1 + 1 = q by omega] at this
      exact this
theorem hd_row {row : Bool} {tb : Nat → Nat} {tn q : Nat} {K1 : Kt} (hh : jHd (hb tb) tn (!row) = .inr (q, K1)) (hr : row = true) : q = 0 := by
  subst hr
  have : (Sum.inr (0, K0) : JR) = .inr (q, K1) := hh
  cases this
  rfl
end CHS3
section KW1
variable {cy : Nat → ClassId} {iv : Nat → Option Nat} {ad : Nat → Nat} {μ0 : Mem} {J : Nat → Int32} {w : Nat} {B : Nat → Nat → Int32} {iw : Nat → Option Nat} {aw : Nat → Nat} {μ1 : Mem} {I : Nat → Int32} {V : Nat → Value} {A : Nat → Nat → Int32}
/-- what a judged piece leaves -/
theorem REL.jd {J1 : Nat → Int32} {B1 : Nat → Nat → Int32} (R : REL J1 B1 (upd I 2 0) A) {vp wt fk fp pf : Int32} {K : Kt} {G' : Nat → Int32} {x : Int32} : REL (upd (upd (upR J1 vp wt fk fp K) 7 fk) 8 fp) B1 (upd (upd (upd (upd (upd (upd I 0 0) 2 x) 2 0) 42 pf) 3 fk) 4 fp) (updG A 20 G') :=
  (R.ft (fk := fk) (fp := fp) (J' := upR J1 vp wt fk fp K) (G := G') (fun k hk => upR_ne (by omega))).fr (fun _ _ _ => rfl) (fun _ _ => rfl) (fun k k1 k2 => by
    by_cases c4 : k = 4
    · subst c4; rfl
    · rw [upd_ne' c4, upd_ne' c4]
      by_cases c3 : k = 3
      · subst c3; rfl
      · rw [upd_ne' c3, upd_ne' c3, upd_ne' (by omega)]
        by_cases c2 : k = 2
        · subst c2; rfl
        · rw [upd_ne' c2, upd_ne' c2, upd_ne' (by omega), upd_ne' c2]) (fun _ _ => rfl)
theorem k_write (hL : Lay6 iv ad) (hW : Lay iw aw) (R0 : REL J B I A) (ty : Int32) : ANS cy iv ad μ0 iw aw μ1 ["java/lang/IllegalStateException", "java/lang/IllegalArgumentException", "java/lang/UnsupportedOperationException"] (f_X6_write cy (ad 0) ty (MC cy iv ad μ0 J w B)) (f_X8_write cy (aw 0) ty (MR cy iw aw μ1 I V A)) := by
  obtain ⟨J1, B1, tn, tb, e1, R, g1, g2, g3, g4, i2, tA1⟩ := k_tape (cy := cy) (μ0 := μ0) (w := w) hL R0
  obtain ⟨z, b, a1, a2, a3, a4⟩ := R.2.2.2.2.2.2.2.2
  unfold f_X6_write f_X8_write f_X6_refuseNothingOpen f_X8_write_L30
  have r2 : rdI (MR cy iw aw μ1 (upd I 0 0) V A) (aw 0) 7 2 = some (nI tn) := by rw [← i2]; exact m_int hW rfl
  have i12 : rdI (MR cy iw aw μ1 (upd (upd I 0 0) 2 0) V A) (aw 0) 7 12 = some (I 12) := m_int hW rfl
  rw [if_pos (g_is hL), e1, Option.bind_some, if_pos (g_is hL), g_ref hL (k := 6) rfl, Option.bind_some, h_o hL, Option.bind_some, m_put hW rfl (by decide), Option.bind_some, r2, Option.bind_some, m_put hW rfl (by decide), Option.bind_some, i12, Option.bind_some]
  have RT : REL J1 B1 (upd (upd (upd I 0 0) 2 0) 0 1) A := R.fr (fun _ _ _ => rfl) (fun _ _ => rfl) (fun k k1 k2 => by
    rw [upd_ne' (by omega)]
    by_cases c2 : k = 2
    · subst c2; rfl
    · rw [upd_ne' c2, upd_ne' c2, upd_ne' (by omega)]) (fun _ _ => rfl)
  rcases a4 with ⟨b1, b2, b3, b4⟩ | ⟨b1, b2, o, D, t, v, c, b3, b4, b5, b6, b7, b8', b9⟩
  · unfold f_X8_write_L35
    rw [b2, if_neg (by decide), obX_l, if_pos (show I 12 = 0 from b4), if_pos (r_is hW), r_thr1 hW, ob2_some, if_neg (show ¬ (1 : Int32) = 0 by decide)]
    exact ans_th 1 (by decide) (by decide) rfl rfl rfl rfl RT
  · have i13 : rdI (MR cy iw aw μ1 (upd (upd I 0 0) 2 0) V A) (aw 0) 7 13 = some (nI o) := by rw [← b4]; exact m_int hW rfl
    rw [if_neg (show ¬ I 12 = 0 by rw [show I 12 = 1 from b2]; decide), i13, Option.bind_some, b3]
    match o, b9, b3, b4, b6, b8' with
    | 0, b9, b3, b4, b6, b8' =>
      unfold f_X8_write_L35
      rw [if_neg (by decide), obX_l, if_pos (show nI 0 = 0 from rfl), if_pos (r_is hW), r_thr1 hW, ob2_some, if_neg (show ¬ (1 : Int32) = 0 by decide)]
      exact ans_th 1 (by decide) (by decide) rfl rfl rfl rfl RT
    | o + 1, b9, b3, b4, b6, b8' =>
      have ho := b9.1
      have e8 := b8' o (by omega)
      have tl := b9.top.le
      have q2 : (1 : Int32) ≤ nI (o + 1) := nI_le (a := 1) (by omega) (by omega)
      have q3 : ¬ nI (o + 1) = 0 := fun q => by have := (nI_eq (b := 0) (by omega) (by decide)).mp q; omega
      obtain ⟨vp, K, e3, hvp⟩ := k_jEl (cy := cy) (μ0 := μ0) (w := w) (j := 22) (n := tn) (b := tb) hL rfl g1 g4 g2 (!(t o == 4)) ty (dep := o + 1) (by omega)
      have MFF : MF iw aw (upd (upd (upd I 0 0) 2 0) 2 (nI tn)) A tn tb := ⟨hW, upd_self', tA1, g3, g4⟩
      obtain ⟨pf, G', e4, hpf⟩ := m_isPiece (cy := cy) (μ0 := μ1) (V := V) (G := A 20) MFF (dep := o + 1) (by omega) ty (t o == 4)
      have e24 : 24 - (o + 1) = 23 - o := by omega
      rw [e24] at e3 e4
      obtain ⟨fk, hfk⟩ : ∃ fk, fk = fkI (jEnd (jPc (hb tb) tn (!(t o == 4)) ty (23 - o)) tn) := ⟨_, rfl⟩
      obtain ⟨fp, hfp⟩ : ∃ fp, fp = fpI (jEnd (jPc (hb tb) tn (!(t o == 4)) ty (23 - o)) tn) := ⟨_, rfl⟩
      rw [← hfk, ← hfp] at e3 e4
      have upF : ∀ (J0 : Nat → Int32) (a b c d : Int32) (K : Kt), upR J0 a b c d K 101 = c ∧ upR J0 a b c d K 102 = d ∧ upR J0 a b c d K 103 = a := fun J0 a b c d K => ⟨rfl, rfl, rfl⟩
      have cls : (if bI (t o == 4) = 0 then f_X6_write_L31 cy (ad 0) ty (ad 1) (ad 22) 1 (MC cy iv ad μ0 J1 w B1) else f_X6_write_L31 cy (ad 0) ty (ad 1) (ad 22) 0 (MC cy iv ad μ0 J1 w B1)) = f_X6_write_L31 cy (ad 0) ty (ad 1) (ad 22) (bI (!(t o == 4))) (MC cy iv ad μ0 J1 w B1) := by
        cases (t o == 4) with
        | true => rw [if_neg (show ¬ bI true = 0 by decide)]; rfl
        | false => rw [if_pos (show bI false = 0 from rfl)]; rfl
      have RF : REL (upd (upd (upR J1 vp (-1) fk fp K) 7 fk) 8 fp) B1 (upd (upd (upd (upd (upd (upd I 0 0) 2 0) 2 0) 42 pf) 3 fk) 4 fp) (updG A 20 G') := R.jd
      have l15 := m_ld (cy := cy) (μ0 := μ1) (I := upd (upd (upd (upd (upd I 0 0) 2 0) 2 (nI tn)) 3 0) 4 (-1)) (V := V) (A := updG A 20 (A 20)) (i := o) hW 15 rfl (by show o < 25; omega)
      rw [updG_ne (by decide), e8.2.2.2.1] at l15
      have j13 : rdI (MJ cy iw aw μ1 (upd (upd (upd I 0 0) 2 0) 2 (nI tn)) V A 0 (-1) (A 20)) (aw 0) 7 13 = some (nI (o + 1)) := by rw [← b4]; exact m_int hW rfl
      have ref0 : ∀ (x y : Option (Int32 × Mem)), (if t o = 4 then x else y) = if (t o == 4) then x else y := fun x y => by
        by_cases q4 : t o = 4
        · rw [if_pos q4, q4]; rfl
        · rw [if_neg q4, show (t o == 4) = false from by rw [beq_eq_false_iff_ne]; exact q4]; rfl
      have ref1 : (if (t o == 4) then f_X8_write_L75 cy (aw 0) ty (nI tn) (aw 0) ty 1 (MJ cy iw aw μ1 (upd (upd (upd I 0 0) 2 0) 2 (nI tn)) V A 0 (-1) (A 20)) else f_X8_write_L75 cy (aw 0) ty (nI tn) (aw 0) ty 0 (MJ cy iw aw μ1 (upd (upd (upd I 0 0) 2 0) 2 (nI tn)) V A 0 (-1) (A 20))) = f_X8_write_L75 cy (aw 0) ty (nI tn) (aw 0) ty (bI (t o == 4)) (MJ cy iw aw μ1 (upd (upd (upd I 0 0) 2 0) 2 (nI tn)) V A 0 (-1) (A 20)) := by
        cases (t o == 4) <;> rfl
      rw [if_pos q2, obX_r, g_ref hL (k := 3) rfl, Option.bind_some, g_ref hL (k := 1) rfl, Option.bind_some, g_ref hL (k := 6) rfl, Option.bind_some, if_pos (h_is hL), h_inRow hL b3 (by omega) e8.2.2.1, ob2_some, cls]
      unfold f_X6_write_L31 f_X8_write_L35
      rw [g_ref hL (k := 6) rfl, Option.bind_some, h_o hL, Option.bind_some, b3, if_pos (k_rdI hL), e3, Option.bind_some, g_ref hL (k := 3) rfl, Option.bind_some, k_rd hL 1 rfl, Option.bind_some, Option.bind_some, k_rd hL 2 rfl, Option.bind_some, if_pos (g_is hL), (upF _ _ _ _ _ _).1, (upF _ _ _ _ _ _).2.1]
      rw [if_neg q3, if_pos (r_is hW), r_thr0, ob2_some, if_pos (show (0 : Int32) = 0 from rfl), if_pos (r_is hW), m_judges hW, Option.bind_some, r_js1 hW, Option.bind_some, m_ref hW (k := 15) rfl, Option.bind_some, j13, Option.bind_some, nI_pr, show rdA cy (MJ cy iw aw μ1 (upd (upd (upd I 0 0) 2 0) 2 (nI tn)) V A 0 (-1) (A 20)) 1 (aw 15) (nI o) = _ from l15, Option.bind_some, ref0, ref1]
      unfold f_X8_write_L75
      rw [j13, Option.bind_some, if_pos (r_is hW), e4, ob2_some, r_js3 hW, Option.bind_some]
      unfold f_X8_write_L98
      by_cases c0 : fk = 0
      · obtain ⟨ht, q, K1, ehd, hq, hvo⟩ := jPc_0 (h := hb tb) (n := tn) (e := 23 - o) (named := !(t o == 4)) (t := ty) (by rw [← hfk]; exact c0)
        have ok := okI_0 (f := jEnd (jPc (hb tb) tn (!(t o == 4)) ty (23 - o)) tn) (by rw [← hfk]; exact c0) (jEnd_F jPc_f)
        have hv1 := hvp q K1 ehd ht
        have hp1 := hpf q K1 ehd ht
        subst hv1
        subst hp1
        have hq0 := fun h => hd_row ehd h
        generalize hJ5 : upd (upd (upR J1 (nI q) (-1) fk fp K) 7 fk) 8 fp = J5 at *
        generalize hI5 : upd (upd (upd (upd (upd (upd I 0 0) 2 0) 2 0) 42 (nI q)) 3 fk) 4 fp = I5 at *
        have k5 : ∀ k, k / 100 ≠ 1 → k ≠ 7 → k ≠ 8 → J5 k = J1 k := fun k k1 k2 k3 => by rw [← hJ5, upd_ne' k3, upd_ne' k2, upR_ne (by omega)]
        have v103 : J5 103 = nI q := by rw [← hJ5]; rfl
        have i5 : ∀ k, 4 < k → k < 42 → I5 k = I k := fun k k1 k2 => by rw [← hI5, upd_ne' (by omega), upd_ne' (by omega), upd_ne' (by omega), upd_ne' (by omega), upd_ne' (by omega), upd_ne' (by omega)]
        have i542 : I5 42 = nI q := by rw [← hI5]; rfl
        have i50 : I5 0 = 0 := by rw [← hI5]; rfl
        have i513 : I5 13 = nI (o + 1) := by rw [i5 13 (by decide) (by decide)]; exact b4
        have i511 : I5 11 = nI z := by rw [i5 11 (by decide) (by decide)]; exact b5
        have hc30 : c o < 2 ^ 30 := by omega
        have hdg := dg_le (c o)
        obtain ⟨ad0, ad1⟩ := h_add (cy := cy) (μ0 := μ0) (w := ad 22) (J := J5) (B := B1) (z := z) (o := o) (c := c o) (b := b) (t := t o) hL (by rw [k5 _ (by decide) (by decide) (by decide)]; exact b3) (by omega) e8.2.2.1 e8.2.2.2.2.1 hc30 (by rw [k5 _ (by decide) (by decide) (by decide)]; exact a1) a2 a3 b6 ty (tn := tn) (q := q) (tb := tb) (by rw [k5 _ (by decide) (by decide) (by decide)]; exact g1) g2 g3 g4 hq hq0
        obtain ⟨G2, hs1⟩ := z_headSize (cy := cy) (μ1 := μ1) (I := I5) (V := V) (A := updG A 20 G') (o := o) (c := c o) (t := t o) (q := q) hW i513 (by omega) (by rw [updG_ne (by decide)]; exact e8.2.2.2.1) (by rw [updG_ne (by decide)]; exact e8.2.2.2.2.2.1) hc30 i542
        rw [updG_updG] at hs1
        have x11 : rdI (MR cy iw aw μ1 I5 V (updG A 20 G')) (aw 0) 7 11 = some (nI z) := by rw [← i511]; exact m_int hW rfl
        have x42 : rdI (MR cy iw aw μ1 I5 V (updG A 20 G2)) (aw 0) 7 42 = some (nI q) := by rw [← i542]; exact m_int hW rfl
        have x13 : rdI (MR cy iw aw μ1 I5 V (updG A 20 G2)) (aw 0) 7 13 = some (nI (o + 1)) := by rw [← i513]; exact m_int hW rfl
        rw [g_fault hL, if_pos c0, obX_r, hJ5, g_ref hL (k := 6) rfl, Option.bind_some, g_ref hL (k := 1) rfl, Option.bind_some, g_ref hL (k := 3) rfl, Option.bind_some, k_rd hL 3 rfl, Option.bind_some, v103, if_pos (h_is hL), ok.1, if_neg (show ¬ (1 : Int32) = 0 by decide), if_pos (r_is hW), r_thr0, ob2_some, if_pos (show (0 : Int32) = 0 from rfl), x11, Option.bind_some, if_pos (r_is hW), hs1, ob2_some, x42, Option.bind_some, x13, Option.bind_some, nI_p, nI_p, nI_sub' (by omega), nI_p]
        have hds : z + (1 + (if (t o == 4) then dg (c o) + 1 else q)) + tn - q + (o + 1) = z + (if (t o == 4) then 2 + dg (c o) else 1) + tn + (o + 1) := by
          cases er : (t o == 4) with
          | true =>
            have := hq0 er
            show z + (1 + (dg (c o) + 1)) + tn - q + (o + 1) = z + (2 + dg (c o)) + tn + (o + 1)
            omega
          | false =>
            show z + (1 + q) + tn - q + (o + 1) = z + 1 + tn + (o + 1)
            omega
        have hhd : (if (t o == 4) then 2 + dg (c o) else 1) ≤ 12 := by split <;> omega
        rw [hds]
        unfold f_X8_write_L140
        rcases Nat.lt_or_ge 2400 (z + (if (t o == 4) then 2 + dg (c o) else 1) + tn + (o + 1)) with big | fit
        · rw [ad0 big, ob2_some, if_pos (show (0 : Int32) = 0 from rfl), if_neg (show ¬ nI (z + (if (t o == 4) then 2 + dg (c o) else 1) + tn + (o + 1)) ≤ 2400 from nI_ge (a := 2400) big (by omega)), if_pos (r_is hW), r_thr1 hW, ob2_some, if_neg (show ¬ (1 : Int32) = 0 by decide)]
          exact ans_th 3 (by decide) (by decide) rfl rfl rfl rfl (RF.fr (fun _ _ _ => rfl) (fun _ _ => rfl) (fun k k1 k2 => upd_ne' (by omega)) (fun j hj => by unfold rlv at hj; rw [updG_ne (by omega), updG_ne (by omega)]))
        · obtain ⟨J6, B6, b6', f1, f2, f3, f4, f5, f6, f7, f8⟩ := ad1 fit
          have len : ([b8 ty] ++ (if (t o == 4) then rnl (c o) else sl tb 0 q)).length + (tn - q) = (if (t o == 4) then 2 + dg (c o) else 1) + tn := by
            rw [List.length_append]
            show 1 + _ + _ = _
            cases et : (t o == 4) with
            | true =>
              have := hq0 et
              show 1 + (rnl (c o)).length + (tn - q) = 2 + dg (c o) + tn
              rw [rnl_len]
              omega
            | false =>
              show 1 + (sl tb 0 q).length + (tn - q) = 1 + tn
              rw [sl_len]
              omega
          obtain ⟨G3, a6, hd1, hd2⟩ := z_heads (cy := cy) (μ1 := μ1) (I := I5) (V := V) (A := updG A 20 G2) (o := o) (c := c o) (t := t o) (tb := tb) (q := q) (tn := tn) (z := z) (a := A 10) hW i513 (by omega) (by rw [updG_ne (by decide)]; exact e8.2.2.2.1) (by rw [updG_ne (by decide)]; exact e8.2.2.2.2.2.1) hc30 g3 g4 hq (by rw [updG_ne (by decide)]; exact tA1) i542 ty (by omega)
          have hd1' : f_X8_heads cy (aw 0) ty (MR cy iw aw μ1 I5 V (updG A 20 G2)) = some (MZ cy iw aw μ1 I5 V (updG (updG A 20 G3) 16 (upd (A 16) o (nI (c o + 1)))) (z + ([b8 ty] ++ (if (t o == 4) then rnl (c o) else sl tb 0 q)).length) a6) := by
            rw [z_id (z := z) i511, updG_ne (show 10 ≠ 20 by decide), hd1, updG_updG, updG_ne (show 16 ≠ 20 by decide)]
          obtain ⟨a7, w1, w2⟩ := z_160 (cy := cy) (μ1 := μ1) (I := I5) (V := V) (A := updG (updG A 20 G3) 16 (upd (A 16) o (nI (c o + 1)))) (tb := tb) hW g3 g4 (by rw [updG_ne (by decide), updG_ne (by decide)]; exact tA1) (tn - q) q FU (z + ([b8 ty] ++ (if (t o == 4) then rnl (c o) else sl tb 0 q)).length) a6 (by omega) (by show tn - q < 100000; omega) (by omega)
          have x42b : rdI (MZ cy iw aw μ1 I5 V (updG (updG A 20 G3) 16 (upd (A 16) o (nI (c o + 1)))) (z + ([b8 ty] ++ (if (t o == 4) then rnl (c o) else sl tb 0 q)).length) a6) (aw 0) 7 42 = some (nI q) := by rw [← i542]; exact m_int hW rfl
          have zl : z + ([b8 ty] ++ (if (t o == 4) then rnl (c o) else sl tb 0 q)).length + (tn - q) = z + (if (t o == 4) then 2 + dg (c o) else 1) + tn := by omega
          rw [f1, ob2_some, if_neg (show ¬ (1 : Int32) = 0 by decide), g_ref hL (k := 6) rfl, Option.bind_some, h_ref hL (k := 0) rfl, Option.bind_some, P_size (j := 36) (n := z + (if (t o == 4) then 2 + dg (c o) else 1) + tn) hL rfl f2, Option.bind_some, if_pos (show nI (z + (if (t o == 4) then 2 + dg (c o) else 1) + tn + (o + 1)) ≤ 2400 from nI_le (b := 2400) fit (by decide)), if_pos (r_is hW), r_thr0, ob2_some, if_pos (show (0 : Int32) = 0 from rfl), if_pos (r_is hW), hd1', Option.bind_some, x42b, Option.bind_some, w1, zl]
          have J6f : ∀ k, k ≠ 3601 → k ≠ 3602 → k / 100 ≠ 1 → k ≠ 7 → k ≠ 8 → J6 k = J1 k := fun k k1 k2 k3 k4 k6 => by rw [f7 k k1 k2, k5 k k3 k4 k6]
          have ext := hd2.cat w2
          have eo := pc_jd (row := (t o == 4)) (ty := ty) (tb := tb) (tn := tn) (q := q) (c := c o) (e := 23 - o) ht ehd hvo
          have lenL : ([b8 ty] ++ (if (t o == 4) then rnl (c o) else sl tb 0 q) ++ sl tb q tn).length = (if (t o == 4) then 2 + dg (c o) else 1) + tn := by
            rw [List.length_append, sl_len]
            exact len
          have cn := b9.add f5 eo
          rw [lenL, ← Nat.add_assoc] at cn
          refine ans_ok rfl rfl i50 (RF.ht ⟨_, b6', f2, f3, f4, Or.inr ⟨?_, ?_, o + 1, D, t, v, fun k => if k = o then c o + 1 else c k, ?_, ?_, upd_self', by omega, fun j hj => ?_, fun k hk => ?_, cn⟩⟩ (fun k k1 k2 k3 k4 k6 k7 => f7 k k3 k4) (fun k k1 k2 k3 => f8 k k2 (by omega)) (fun k k1 k2 => upd_ne' (by omega)) (fun j hj j1 j2 => by unfold rlv at hj; rw [updG_ne j1, updG_ne (by omega), updG_ne (by omega), updG_ne (by omega)]))
          · rw [J6f _ (by decide) (by decide) (by decide) (by decide) (by decide)]; exact b1
          · rw [upd_ne' (by decide), i5 12 (by decide) (by decide)]; exact b2
          · rw [J6f _ (by decide) (by decide) (by decide) (by decide) (by decide)]; exact b3
          · rw [upd_ne' (by decide)]; exact i513
          · rw [updG_self]
            exact f5.same ext b7 j (by rw [lenL, ← Nat.add_assoc]; exact hj)
          · have ek := b8' k hk
            rw [f8 4 (by decide) (by decide), f8 5 (by decide) (by decide), f8 6 (by decide) (by decide), f6, updG_ne (by decide), updG_ne (by decide), updG_ne (by decide), updG_ne (by decide), updG_ne (by decide), updG_ne (by decide), updG_ne (by decide), updG_self, updG_ne (by decide), updG_ne (by decide), updG_ne (by decide)]
            refine ⟨ek.1, ek.2.1, ek.2.2.1, ek.2.2.2.1, ?_, ?_, ek.2.2.2.2.2.2.1, ek.2.2.2.2.2.2.2⟩
            · show upd (B1 7) o (nI (c o + 1)) k = nI (if k = o then c o + 1 else c k)
              by_cases qk : k = o
              · subst qk; rw [upd_self', if_pos rfl]
              · rw [upd_ne' qk, if_neg qk]; exact ek.2.2.2.2.1
            · show upd (A 16) o (nI (c o + 1)) k = nI (if k = o then c o + 1 else c k)
              by_cases qk : k = o
              · subst qk; rw [upd_self', if_pos rfl]
              · rw [upd_ne' qk, if_neg qk]; exact ek.2.2.2.2.2.1
      · have ok := okI_1 (f := jEnd (jPc (hb tb) tn (!(t o == 4)) ty (23 - o)) tn) (by rw [← hfk]; exact c0)
        rw [g_fault hL, if_neg c0, obX_l, ok, if_pos (show (0 : Int32) = 0 from rfl), if_pos (r_is hW), r_thr1 hW, ob2_some, if_neg (show ¬ (1 : Int32) = 0 by decide)]
        exact ans_th 2 (by decide) (by decide) rfl rfl rfl rfl RF.i0
end KW1
