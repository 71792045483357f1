/-! THE CALLS: open. -/
section KO2
variable {cy : Nat → ClassId} {iv : Nat → Option Nat} {ad : Nat → Nat} {μ0 : Mem} {J : Nat → Int32} {w : Nat} {B : Nat → Nat → Int32} {iw : Nat → Option Nat} {aw : Nat → Nat} {μ1 : Mem} {I : Nat → Int32} {V : Nat → Value} {A : Nat → Nat → Int32}
theorem k_open (hL : Lay6 iv ad) (hW : Lay iw aw) (R0 : REL J B I A) (ty : Int32) : ANS cy iv ad μ0 iw aw μ1 ["java/lang/IllegalStateException", "java/lang/IllegalArgumentException", "java/lang/UnsupportedOperationException"] (f_X6_open cy (ad 0) ty (MC cy iv ad μ0 J w B)) (f_X8_open cy (aw 0) ty (MR cy iw aw μ1 I V A)) := by
  obtain ⟨J1, B1, tn, tb, e1, R, g1, g2, g3, g4, i2, tA1⟩ := k_tape (cy := cy) (μ0 := μ0) (w := w) hL R0
  obtain ⟨z, b, a1, a2, a3, a4⟩ := R.2.2.2.2.2.2.2.2
  unfold f_X6_open f_X8_open f_X6_refuseNothingOpen f_X8_open_L30
  have r2 : rdI (MR cy iw aw μ1 (upd I 0 0) V A) (aw 0) 7 2 = some (nI tn) := by rw [← i2]; exact m_int hW rfl
  have i12 : rdI (MR cy iw aw μ1 (upd (upd I 0 0) 2 0) V A) (aw 0) 7 12 = some (I 12) := m_int hW rfl
  rw [if_pos (g_is hL), e1, Option.bind_some, if_pos (g_is hL), g_ref hL (k := 6) rfl, Option.bind_some, h_o hL, Option.bind_some, m_put hW rfl (by decide), Option.bind_some, r2, Option.bind_some, m_put hW rfl (by decide), Option.bind_some, i12, Option.bind_some]
  have RT : REL J1 B1 (upd (upd (upd I 0 0) 2 0) 0 1) A := R.fr (fun _ _ _ => rfl) (fun _ _ => rfl) (fun k k1 k2 => by
    rw [upd_ne' (by omega)]
    by_cases c2 : k = 2
    · subst c2; rfl
    · rw [upd_ne' c2, upd_ne' c2, upd_ne' (by omega)]) (fun _ _ => rfl)
  rcases a4 with ⟨b1, b2, b3, b4⟩ | ⟨b1, b2, o, D, t, v, c, b3, b4, b5, b6, b7, b8', b9⟩
  · unfold f_X8_open_L35
    rw [b2, if_neg (by decide), obX_l, if_pos (show I 12 = 0 from b4), if_pos (r_is hW), r_thr1 hW, ob2_some, if_neg (show ¬ (1 : Int32) = 0 by decide)]
    exact ans_th 1 (by decide) (by decide) rfl rfl rfl rfl RT
  · have i13 : rdI (MR cy iw aw μ1 (upd (upd I 0 0) 2 0) V A) (aw 0) 7 13 = some (nI o) := by rw [← b4]; exact m_int hW rfl
    rw [if_neg (show ¬ I 12 = 0 by rw [show I 12 = 1 from b2]; decide), i13, Option.bind_some, b3]
    match o, b9, b3, b4, b6, b8' with
    | 0, b9, b3, b4, b6, b8' =>
      unfold f_X8_open_L35
      rw [if_neg (by decide), obX_l, if_pos (show nI 0 = 0 from rfl), if_pos (r_is hW), r_thr1 hW, ob2_some, if_neg (show ¬ (1 : Int32) = 0 by decide)]
      exact ans_th 1 (by decide) (by decide) rfl rfl rfl rfl RT
    | o + 1, b9, b3, b4, b6, b8' =>
      have ho := b9.1
      have e8 := b8' o (by omega)
      have tl := b9.top.le
      have q2 : (1 : Int32) ≤ nI (o + 1) := nI_le (a := 1) (by omega) (by omega)
      have q3 : ¬ nI (o + 1) = 0 := fun q => by have := (nI_eq (b := 0) (by omega) (by decide)).mp q; omega
      obtain ⟨vp, K, e3, hvp⟩ := k_jOp (cy := cy) (μ0 := μ0) (w := w) (j := 22) (n := tn) (b := tb) hL rfl g1 g4 g2 (!(t o == 4)) ty (dep := o + 1) (by omega)
      have MFF : MF iw aw (upd (upd (upd I 0 0) 2 0) 2 (nI tn)) A tn tb := ⟨hW, upd_self', tA1, g3, g4⟩
      obtain ⟨pf, G', e4, hpf⟩ := m_isOpening (cy := cy) (μ0 := μ1) (V := V) (G := A 20) MFF ty (o := o) b4 (by omega) (t o == 4) (by rw [e8.2.2.2.1, beq_iff_eq])
      have upF : ∀ (J0 : Nat → Int32) (a b c d : Int32) (K : Kt), upR J0 a b c d K 101 = c ∧ upR J0 a b c d K 102 = d ∧ upR J0 a b c d K 103 = a := fun J0 a b c d K => ⟨rfl, rfl, rfl⟩
      have cls : (if bI (t o == 4) = 0 then f_X6_open_L31 cy (ad 0) ty (ad 1) (ad 22) 1 (MC cy iv ad μ0 J1 w B1) else f_X6_open_L31 cy (ad 0) ty (ad 1) (ad 22) 0 (MC cy iv ad μ0 J1 w B1)) = f_X6_open_L31 cy (ad 0) ty (ad 1) (ad 22) (bI (!(t o == 4))) (MC cy iv ad μ0 J1 w B1) := by
        cases (t o == 4) with
        | true => rw [if_neg (show ¬ bI true = 0 by decide)]; rfl
        | false => rw [if_pos (show bI false = 0 from rfl)]; rfl
      rw [if_pos q2, obX_r, g_ref hL (k := 3) rfl, Option.bind_some, g_ref hL (k := 1) rfl, Option.bind_some, g_ref hL (k := 6) rfl, Option.bind_some, if_pos (h_is hL), h_inRow hL b3 (by omega) e8.2.2.1, ob2_some, cls]
      unfold f_X6_open_L31 f_X8_open_L35
      rw [g_ref hL (k := 6) rfl, Option.bind_some, h_o hL, Option.bind_some, b3, if_pos (k_rdI hL), e3, Option.bind_some, g_ref hL (k := 3) rfl, Option.bind_some, k_rd hL 1 rfl, Option.bind_some, Option.bind_some, k_rd hL 2 rfl, Option.bind_some, if_pos (g_is hL), (upF _ _ _ _ _ _).1, (upF _ _ _ _ _ _).2.1]
      rw [if_neg q3, if_pos (r_is hW), r_thr0, ob2_some, if_pos (show (0 : Int32) = 0 from rfl), if_pos (r_is hW), m_judges hW, Option.bind_some, r_js1 hW, Option.bind_some, if_pos (r_is hW), e4, ob2_some, r_js3 hW, Option.bind_some]
      unfold f_X8_open_L92 f_X8_open_L93 f_X8_open_L103
      cases ej : jEnd (jOp (hb tb) tn (!(t o == 4)) ty) tn with
      | some f =>
        have hE : jOpE (hb tb) tn (!(t o == 4)) ty (o + 1) = some f := by unfold jOpE; rw [ej]
        have fb := jEnd_F jOp_f f ej
        have f0 : ¬ fkI (some f) = 0 := fun h => by
          have h : nI f.1 = 0 := h
          have := (nI_eq (b := 0) (by omega) (by decide)).mp h
          omega
        have RF : REL (upd (upd (upR J1 vp (-1) (fkI (some f)) (fpI (some f)) K) 7 (fkI (some f))) 8 (fpI (some f))) B1 (upd (upd (upd (upd (upd (upd I 0 0) 2 0) 2 0) 42 pf) 3 (fkI (some f))) 4 (fpI (some f))) (updG A 20 G') := R.jd
        rw [hE, g_fault hL, if_neg f0, obX_l, show okI (some f) = 0 from rfl, if_pos (show (0 : Int32) = 0 from rfl), if_pos (show (0 : Int32) = 0 from rfl), if_pos (r_is hW), r_thr1 hW, ob2_some, if_neg (show ¬ (1 : Int32) = 0 by decide)]
        exact ans_th 2 (by decide) (by decide) rfl rfl rfl rfl RF.i0
      | none =>
        have j13 : rdI (MR cy iw aw μ1 (upd (upd (upd (upd (upd (upd I 0 0) 2 0) 2 0) 42 pf) 3 (fkI none)) 4 (fpI none)) V (updG A 20 G')) (aw 0) 7 13 = some (nI (o + 1)) := by rw [← b4]; exact m_int hW rfl
        rw [show okI none = 1 from rfl, if_neg (show ¬ (1 : Int32) = 0 by decide), if_neg (show ¬ (1 : Int32) = 0 by decide), j13, Option.bind_some]
        by_cases c24 : o + 1 < 24
        · have hE : jOpE (hb tb) tn (!(t o == 4)) ty (o + 1) = none := by unfold jOpE; rw [ej]; exact if_pos c24
          obtain ⟨hD, q, K1, ehd, hq, h15, hn15⟩ := jOp_0 ej
          have hv1 := hvp q K1 ehd hD
          have hp1 := hpf q K1 ehd hD
          subst hv1
          subst hp1
          have ht : isTy ty := by rcases hD with rfl | rfl | rfl <;> exact Or.inl ⟨by decide, by decide⟩
          have hq0 := fun h => hd_row ehd h
          have RF : REL (upd (upd (upR J1 (nI q) (-1) (fkI none) (fpI none) K) 7 (fkI none)) 8 (fpI none)) B1 (upd (upd (upd (upd (upd (upd I 0 0) 2 0) 2 0) 42 (nI q)) 3 (fkI none)) 4 (fpI none)) (updG A 20 G') := R.jd
          rw [hE, g_fault hL, if_pos (show fkI none = 0 from rfl), obX_r, if_neg (show ¬ nI (o + 1) = 24 from fun h => by have := (nI_eq (b := 24) (by omega) (by decide)).mp h; omega)]
          generalize hJ5 : upd (upd (upR J1 (nI q) (-1) (fkI none) (fpI none) K) 7 (fkI none)) 8 (fpI none) = J5 at *
          generalize hI5 : upd (upd (upd (upd (upd (upd I 0 0) 2 0) 2 0) 42 (nI q)) 3 (fkI none)) 4 (fpI none) = I5 at *
          have k5 : ∀ k, k / 100 ≠ 1 → k ≠ 7 → k ≠ 8 → J5 k = J1 k := fun k k1 k2 k3 => by rw [← hJ5, upd_ne' k3, upd_ne' k2, upR_ne (by omega)]
          have v103 : J5 103 = nI q := by rw [← hJ5]; rfl
          have i5 : ∀ k, 4 < k → k < 42 → I5 k = I k := fun k k1 k2 => by rw [← hI5, upd_ne' (by omega), upd_ne' (by omega), upd_ne' (by omega), upd_ne' (by omega), upd_ne' (by omega), upd_ne' (by omega)]
          have i542 : I5 42 = nI q := by rw [← hI5]; rfl
          have i50 : I5 0 = 0 := by rw [← hI5]; rfl
          have i513 : I5 13 = nI (o + 1) := by rw [i5 13 (by decide) (by decide)]; exact b4
          have i511 : I5 11 = nI z := by rw [i5 11 (by decide) (by decide)]; exact b5
          have hc30 : c o < 2 ^ 30 := by omega
          have hdg := dg_le (c o)
          have ox : opX ty ≤ 9 := by unfold opX; split <;> omega
          have hhd : (if (t o == 4) then 2 + dg (c o) else 1) ≤ 12 := by split <;> omega
          have tlen := opT_len (ty := ty) (tb := tb) (q := q) (tn := tn)
          have hln : ([b8 ty] ++ (if (t o == 4) then rnl (c o) else sl tb 0 q)).length + (tn - q) = (if (t o == 4) then 2 + dg (c o) else 1) + tn := by
            rw [List.length_append]
            show 1 + _ + _ = _
            cases et : (t o == 4) with
            | true =>
              have := hq0 et
              show 1 + (rnl (c o)).length + (tn - q) = 2 + dg (c o) + tn
              rw [rnl_len]
              omega
            | false =>
              show 1 + (sl tb 0 q).length + (tn - q) = 1 + tn
              rw [sl_len]
              omega
          obtain ⟨ad0, ad1⟩ := h_open (cy := cy) (μ0 := μ0) (w := ad 22) (J := J5) (B := B1) (z := z) (o := o) (c := c o) (b := b) (t := t o) hL (by rw [k5 _ (by decide) (by decide) (by decide)]; exact b3) c24 e8.2.2.1 e8.2.2.2.2.1 hc30 (by rw [k5 _ (by decide) (by decide) (by decide)]; exact a1) a2 a3 b6 ty (tn := tn) (q := q) (tb := tb) (by rw [k5 _ (by decide) (by decide) (by decide)]; exact g1) g2 g3 g4 hq hq0
          obtain ⟨G2, hs1⟩ := z_headSize (cy := cy) (μ1 := μ1) (I := I5) (V := V) (A := updG A 20 G') (o := o) (c := c o) (t := t o) (q := q) hW i513 (by omega) (by rw [updG_ne (by decide)]; exact e8.2.2.2.1) (by rw [updG_ne (by decide)]; exact e8.2.2.2.2.2.1) hc30 i542
          rw [updG_updG] at hs1
          have x42 : rdI (MR cy iw aw μ1 I5 V (updG A 20 G2)) (aw 0) 7 42 = some (nI q) := by rw [← i542]; exact m_int hW rfl
          have x13 : rdI (MR cy iw aw μ1 I5 V (updG A 20 G2)) (aw 0) 7 13 = some (nI (o + 1)) := by rw [← i513]; exact m_int hW rfl
          have x11 : rdI (MR cy iw aw μ1 I5 V (updG A 20 G2)) (aw 0) 7 11 = some (nI z) := by rw [← i511]; exact m_int hW rfl
          rw [g_ref hL (k := 6) rfl, Option.bind_some, g_ref hL (k := 1) rfl, Option.bind_some, g_ref hL (k := 3) rfl, Option.bind_some, k_rd hL 3 rfl, Option.bind_some, v103, if_pos (h_is hL), if_pos (r_is hW), r_thr0, ob2_some, if_pos (show (0 : Int32) = 0 from rfl), if_pos (r_is hW), hs1, ob2_some, x42, Option.bind_some]
          have fitE : (if ty = 15 then f_X8_open_L134 cy (aw 0) ty (nI tn) (nI (1 + (if (t o == 4) then dg (c o) + 1 else q))) ((4 + nI tn) - nI q) (MR cy iw aw μ1 I5 V (updG A 20 G2)) else f_X8_open_L134 cy (aw 0) ty (nI tn) (nI (1 + (if (t o == 4) then dg (c o) + 1 else q))) 0 (MR cy iw aw μ1 I5 V (updG A 20 G2))) = if nI (z + (if (t o == 4) then 2 + dg (c o) else 1) + tn + opX ty + (o + 1)) ≤ 2400 then f_X8_open_L165 cy (aw 0) ty (nI tn) (aw 0) 0 (MR cy iw aw μ1 I5 V (updG A 20 G2)) else f_X8_open_L165 cy (aw 0) ty (nI tn) (aw 0) 1 (MR cy iw aw μ1 I5 V (updG A 20 G2)) := by
            unfold f_X8_open_L134
            rw [x11, Option.bind_some, Option.bind_some, x13, Option.bind_some, Option.bind_some]
            have hd2 : 1 + (if (t o == 4) then dg (c o) + 1 else q) = (if (t o == 4) then 2 + dg (c o) else 1) + q := by
              cases er : (t o == 4) with
              | true =>
                have := hq0 er
                show 1 + (dg (c o) + 1) = 2 + dg (c o) + q
                omega
              | false => show 1 + q = 1 + q; rfl
            by_cases h : ty = 15
            · have ex : opX ty = 9 := if_pos h
              rw [if_pos h, nI_ca 4 4 (by decide +kernel), nI_sub' (by omega), nI_p, nI_a4, nI_p, nI_p, nI_a1, hd2, show z + ((if (t o == 4) then 2 + dg (c o) else 1) + q + (4 + tn - q) + 4) + (o + 1) + 1 = z + (if (t o == 4) then 2 + dg (c o) else 1) + tn + opX ty + (o + 1) by omega]
            · have ex : opX ty = 5 := if_neg h
              have := hn15 h
              rw [if_neg h, show (0 : Int32) = nI 0 from rfl, nI_p, nI_a4, nI_p, nI_p, nI_a1, hd2, show z + ((if (t o == 4) then 2 + dg (c o) else 1) + q + 0 + 4) + (o + 1) + 1 = z + (if (t o == 4) then 2 + dg (c o) else 1) + tn + opX ty + (o + 1) by omega]
          rw [fitE]
          unfold f_X8_open_L165
          rcases Nat.lt_or_ge 2400 (z + (if (t o == 4) then 2 + dg (c o) else 1) + tn + opX ty + (o + 1)) with big | fit
          · rw [ad0 big, ob2_some, if_pos (show (0 : Int32) = 0 from rfl), if_neg (show ¬ nI (z + (if (t o == 4) then 2 + dg (c o) else 1) + tn + opX ty + (o + 1)) ≤ 2400 from nI_ge (a := 2400) big (by omega)), if_pos (r_is hW), r_thr1 hW, ob2_some, if_neg (show ¬ (1 : Int32) = 0 by decide)]
            exact ans_th 3 (by decide) (by decide) rfl rfl rfl rfl (RF.fr (fun _ _ _ => rfl) (fun _ _ => rfl) (fun k k1 k2 => upd_ne' (by omega)) (fun j hj => by unfold rlv at hj; rw [updG_ne (by omega), updG_ne (by omega)]))
          · obtain ⟨J6, B6, b6', f1, f2, f3, f4, f5, f6, f7, f8, f9, f10, f11, f12⟩ := ad1 fit
            obtain ⟨G3, a6, hd1, hd2⟩ := z_heads (cy := cy) (μ1 := μ1) (I := I5) (V := V) (A := updG A 20 G2) (o := o) (c := c o) (t := t o) (tb := tb) (q := q) (tn := tn) (z := z) (a := A 10) hW i513 (by omega) (by rw [updG_ne (by decide)]; exact e8.2.2.2.1) (by rw [updG_ne (by decide)]; exact e8.2.2.2.2.2.1) hc30 g3 g4 hq (by rw [updG_ne (by decide)]; exact tA1) i542 ty (by omega)
            generalize hH : ([b8 ty] ++ (if (t o == 4) then rnl (c o) else sl tb 0 q)) = H at *
            have hd1' : f_X8_heads cy (aw 0) ty (MR cy iw aw μ1 I5 V (updG A 20 G2)) = some (MZ cy iw aw μ1 I5 V (updG (updG A 20 G3) 16 (upd (A 16) o (nI (c o + 1)))) (z + H.length) a6) := by
              rw [z_id (z := z) i511, updG_ne (show 10 ≠ 20 by decide), hd1, updG_updG, updG_ne (show 16 ≠ 20 by decide)]
            obtain ⟨va, hva⟩ : ∃ va : Int32, va = (if ty = 15 then nI (z + H.length) else -1) := ⟨_, rfl⟩
            have y11 : rdI (MZ cy iw aw μ1 I5 V (updG (updG A 20 G3) 16 (upd (A 16) o (nI (c o + 1)))) (z + H.length) a6) (aw 0) 7 11 = some (nI (z + H.length)) := m_int hW rfl
            have sel : (if ty = 15 then ((rdI (MZ cy iw aw μ1 I5 V (updG (updG A 20 G3) 16 (upd (A 16) o (nI (c o + 1)))) (z + H.length) a6) (aw 0) 7 11).bind fun v110 => f_X8_open_L193 cy (aw 0) ty (nI tn) v110 (MZ cy iw aw μ1 I5 V (updG (updG A 20 G3) 16 (upd (A 16) o (nI (c o + 1)))) (z + H.length) a6)) else f_X8_open_L193 cy (aw 0) ty (nI tn) (-1) (MZ cy iw aw μ1 I5 V (updG (updG A 20 G3) 16 (upd (A 16) o (nI (c o + 1)))) (z + H.length) a6)) = f_X8_open_L193 cy (aw 0) ty (nI tn) va (MZ cy iw aw μ1 I5 V (updG (updG A 20 G3) 16 (upd (A 16) o (nI (c o + 1)))) (z + H.length) a6) := by
              rw [hva, y11, Option.bind_some]
              by_cases h : ty = 15
              · rw [if_pos h, if_pos h]
              · rw [if_neg h, if_neg h]
            obtain ⟨a7, w1, w2⟩ := z_193 (cy := cy) (μ1 := μ1) (I := I5) (V := V) (A := updG (updG A 20 G3) 16 (upd (A 16) o (nI (c o + 1)))) (tb := tb) (z := z + H.length) (a := a6) hW g3 g4 hq (by rw [updG_ne (by decide), updG_ne (by decide)]; exact tA1) i542 (ty := ty) va hn15 (by omega)
            obtain ⟨I8, A8, a8, p1, p2, p3, p4, p5, p6, p7, p8, p9⟩ := z_opens (cy := cy) (μ1 := μ1) (I := I5) (V := V) (A := updG (updG A 20 G3) 16 (upd (A 16) o (nI (c o + 1)))) (z := z + H.length + (opT ty tb q tn).length) (a := a7) (o := o + 1) hW i513 (by omega) (by omega) ty va
            have y11' : rdI (MZ cy iw aw μ1 I8 V A8 (z + H.length + (opT ty tb q tn).length + 4) a8) (aw 0) 7 11 = some (nI (z + H.length + (opT ty tb q tn).length + 4)) := m_int hW rfl
            rw [f1, ob2_some, if_neg (show ¬ (1 : Int32) = 0 by decide), g_ref hL (k := 6) rfl, Option.bind_some, h_ref hL (k := 0) rfl, Option.bind_some, P_size (j := 36) (n := z + H.length + (opT ty tb q tn).length + 4) hL rfl f3, Option.bind_some, if_pos (show nI (z + (if (t o == 4) then 2 + dg (c o) else 1) + tn + opX ty + (o + 1)) ≤ 2400 from nI_le (b := 2400) fit (by decide)), if_pos (r_is hW), r_thr0, ob2_some, if_pos (show (0 : Int32) = 0 from rfl), if_pos (r_is hW), hd1', Option.bind_some, sel, w1]
            unfold f_X8_open_L250
            rw [if_pos (r_is hW), p1, Option.bind_some, y11', Option.bind_some]
            have ext := (hd2.cat w2).cat (L2 := [0, 0, 0, 0]) (a2 := a8) (by rw [List.length_append, ← Nat.add_assoc]; exact p2)
            have J6f : ∀ k, k ≠ 305 → k ≠ 3601 → k ≠ 3602 → k / 100 ≠ 1 → k ≠ 7 → k ≠ 8 → J6 k = J1 k := fun k k1 k2 k3 k4 k6 k7 => by rw [f11 k k1 k2 k3, k5 k k4 k6 k7]
            have lenL : (H ++ opT ty tb q tn ++ [0, 0, 0, 0]).length = H.length + (opT ty tb q tn).length + 4 := by rw [List.length_append, List.length_append]; rfl
            have atH : ∀ i, i < H.length → hb b6' (z + i) = hl H i := fun i hi => by
              rw [f6.agL i (by omega)]
              show nI ((H ++ opT ty tb q tn ++ [0, 0, 0, 0]).getD i 0) = nI (H.getD i 0)
              rw [List.append_assoc, gd_lo hi]
            have atT : ∀ i, i < (opT ty tb q tn).length → hb b6' (z + H.length + i) = nI ((opT ty tb q tn).getD i 0) := fun i hi => by
              rw [Nat.add_assoc, f6.agL (H.length + i) (by omega)]
              show nI ((H ++ opT ty tb q tn ++ [0, 0, 0, 0]).getD (H.length + i) 0) = _
              rw [List.append_assoc, gd_hi (by omega), Nat.add_sub_cancel_left, gd_lo hi]
            have nmlen : 1 ≤ (if (t o == 4) then rnl (c o) else sl tb 0 q).length ∧ nmZ (hl (if (t o == 4) then rnl (c o) else sl tb 0 q)) 0 ((if (t o == 4) then rnl (c o) else sl tb 0 q).length - 1) (rwo (t o == 4) (c o)) := by
              generalize hrow : (t o == 4) = row at *
              cases row with
              | true =>
                refine ⟨by show 1 ≤ (rnl (c o)).length; rw [rnl_len]; omega, ?_⟩
                show nmZ (hl (rnl (c o))) 0 ((rnl (c o)).length - 1) (some (c o))
                rw [rnl_len, Nat.add_sub_cancel]
                exact nm_rn
              | false =>
                have g := jNm_s (rw := none) (show jNm (hb tb) K0 0 tn none = .inr (q, K1) from ehd)
                refine ⟨by show 1 ≤ (sl tb 0 q).length; rw [sl_len]; omega, ?_⟩
                show nmZ (hl (sl tb 0 q)) 0 ((sl tb 0 q).length - 1) none
                rw [sl_len]
                have := nm_bs g.1
                rw [show q - 1 + 1 = q by omega] at this
                exact this
            have Hlen : H.length = 1 + (if (t o == 4) then rnl (c o) else sl tb 0 q).length := by rw [← hH, List.length_append]; rfl
            have cn := b9.opn (b' := b6') c24 f6.ag (ty := ty) (vn := z + H.length) (Dn := z + H.length + (opT ty tb q tn).length) ht hD (by
                have := atH 0 (by omega)
                rw [Nat.add_zero] at this
                rw [this, ← hH]
                exact ty8 ht) (nmlen.2.go (fun i hi => by
                  have := nmlen.1
                  rw [Nat.add_assoc, Nat.zero_add, atH (1 + i) (by omega), ← hH]
                  show nI (([b8 ty] ++ (if (t o == 4) then rnl (c o) else sl tb 0 q)).getD (1 + i) 0) = nI _
                  rw [gd_hi (by show 1 ≤ 1 + i; omega), show 1 + i - [b8 ty].length = i by show 1 + i - 1 = i; omega]) (by have := nmlen.1; omega)) (by have := nmlen.1; omega) (by
                by_cases h : ty = 15
                · have ex : opX ty = 9 := if_pos h
                  have tx := h15 h
                  obtain ⟨N, n1, n2, n3, n4⟩ := tx.le
                  refine Or.inl ⟨h, by omega, tx.go (fun i hi => ?_) (by omega)⟩
                  rw [Nat.add_assoc, atT (4 + i) (by omega)]
                  show nI ((opT ty tb q tn).getD (4 + i) 0) = nI (tb (q + i))
                  unfold opT
                  rw [if_pos h, gd_hi (by show 4 ≤ 4 + i; omega), show 4 + i - [0, 0, 0, 0].length = i by show 4 + i - 4 = i; omega, gd_sl hi]
                · refine Or.inr ⟨h, ?_⟩
                  have et : opT ty tb q tn = [] := by unfold opT; rw [if_neg h, hn15 h, sl_nil]; rfl
                  rw [et]
                  rfl)
            have p4' : ∀ k, k ≠ 13 → k ≠ 11 → upd I8 11 (nI (z + H.length + (opT ty tb q tn).length + 4)) k = I5 k := fun k k1 k2 => by rw [upd_ne' k2, p4 k k1]
            refine ans_ok rfl rfl (by rw [p4' 0 (by decide) (by decide)]; exact i50) (RF.ht ⟨_, b6', f3, f4, f5, Or.inr ⟨?_, ?_, o + 2, _, _, _, _, f2, ?_, upd_self', by omega, fun j hj => ?_, fun k hk => ?_, cn⟩⟩ (fun k k1 k2 k3 k4 k6 k7 => f11 k k1 k3 k4) (fun k k1 k2 k3 => f12 k k1 k2) (fun k k1 k2 => p4' k (by omega) (by omega)) (fun j hj j1 j2 => by unfold rlv at hj; rw [updG_ne j1, p9 j j2, updG_ne (by omega), updG_ne (by omega), updG_ne (by omega)]))
            · rw [J6f _ (by decide) (by decide) (by decide) (by decide) (by decide) (by decide)]; exact b1
            · rw [p4' 12 (by decide) (by decide), i5 12 (by decide) (by decide)]; exact b2
            · rw [upd_ne' (by decide)]; exact p3
            · rw [updG_self]
              exact f6.same ext b7 j (by rw [lenL, ← Nat.add_assoc, ← Nat.add_assoc]; exact hj)
            · rw [f7, f8, f9, f10, updG_ne (show 14 ≠ 10 by decide), updG_ne (show 15 ≠ 10 by decide), updG_ne (show 16 ≠ 10 by decide), updG_ne (show 17 ≠ 10 by decide), p5, p6, p7, p8, updG_ne (show 14 ≠ 16 by decide), updG_ne (show 15 ≠ 16 by decide), updG_ne (show 17 ≠ 16 by decide), updG_self, updG_ne (show 14 ≠ 20 by decide), updG_ne (show 15 ≠ 20 by decide), updG_ne (show 17 ≠ 20 by decide)]
              by_cases qk : k = o + 1
              · subst qk
                rw [upd_self', upd_self', upd_self', upd_self', upd_self', upd_self', upd_self', upd_self', updG_self, updG_self, updG_self, updG_self]
                exact ⟨rfl, rfl, rfl, rfl, rfl, rfl, fun h => ⟨rfl, by rw [hva, if_pos h]⟩, fun h => by rw [hva, if_neg h]⟩
              · have ek := b8' k (by omega)
                rw [upd_ne' qk, upd_ne' qk, upd_ne' qk, upd_ne' qk, upd_ne' qk, upd_ne' qk, upd_ne' qk, upd_ne' qk, updG_ne qk, updG_ne qk, updG_ne qk, updG_ne qk]
                refine ⟨ek.1, ek.2.1, ek.2.2.1, ek.2.2.2.1, ?_, ?_, ek.2.2.2.2.2.2.1, ek.2.2.2.2.2.2.2⟩
                · by_cases qo : k = o
                  · subst qo; rw [upd_self', updG_self]
                  · rw [upd_ne' qo, updG_ne qo]; exact ek.2.2.2.2.1
                · by_cases qo : k = o
                  · subst qo; rw [upd_self', updG_self]
                  · rw [upd_ne' qo, updG_ne qo]; exact ek.2.2.2.2.2.1
        · have e24 : o + 1 = 24 := by omega
          have hE : jOpE (hb tb) tn (!(t o == 4)) ty (o + 1) = some (8, tn) := by unfold jOpE; rw [ej]; exact if_neg c24
          have MF0 : MF iw aw (upd (upd (upd (upd I 0 0) 2 0) 2 0) 42 pf) A 0 tb := ⟨hW, rfl, fun j hj => by omega, g3, by decide⟩
          have wr := m_wrong (cy := cy) (μ0 := μ1) (V := V) (G := G') MF0 8 (nI tn)
          have wr' : f_X8_wrong cy (aw 0) 8 (nI tn) (MR cy iw aw μ1 (upd (upd (upd (upd (upd (upd I 0 0) 2 0) 2 0) 42 pf) 3 (fkI none)) 4 (fpI none)) V (updG A 20 G')) = some (-1, MJ cy iw aw μ1 (upd (upd (upd (upd I 0 0) 2 0) 2 0) 42 pf) V A 8 (nI tn) G') := wr
          have RF : REL (upd (upd (upR J1 vp (-1) (fkI (some (8, tn))) (fpI (some (8, tn))) K) 7 (fkI (some (8, tn)))) 8 (fpI (some (8, tn)))) B1 (upd (upd (upd (upd (upd (upd I 0 0) 2 0) 2 0) 42 pf) 3 8) 4 (nI tn)) (updG A 20 G') := R.jd
          rw [hE, g_fault hL, if_neg (show ¬ fkI (some (8, tn)) = 0 from (show ¬ nI 8 = 0 by decide)), obX_l, if_pos (show nI (o + 1) = 24 by rw [e24]; rfl), if_pos (r_is hW), wr', ob2_some, if_pos (show (-1 : Int32) < 0 by decide), if_pos (show (0 : Int32) = 0 from rfl), if_pos (r_is hW), r_thr1 hW, ob2_some, if_neg (show ¬ (1 : Int32) = 0 by decide)]
          exact ans_th 2 (by decide) (by decide) rfl rfl rfl rfl RF.i0
end KO2
