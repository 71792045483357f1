/-! THE CALLS: copy. -/
section KC1
variable {cy : Nat → ClassId} {iv : Nat → Option Nat} {ad : Nat → Nat} {μ0 : Mem} {J : Nat → Int32} {w : Nat} {B : Nat → Nat → Int32} {iw : Nat → Option Nat} {aw : Nat → Nat} {μ1 : Mem} {I : Nat → Int32} {V : Nat → Value} {A : Nat → Nat → Int32} {s : Nat}
theorem MT_id {T N : Nat} {X : Nat → Nat → Int32} (h1 : I (T + 1) = nI N) (h2 : ∀ k, 2 ≤ k → k ≤ 12 → A (T + k) = X k) : MR cy iw aw μ1 I V A = MT cy iw aw μ1 I V A T N X := by
  unfold MT
  have e : tA T A X = A := by
    funext j
    unfold tA
    by_cases c : T + 2 ≤ j ∧ j ≤ T + 12
    · rw [if_pos c, ← h2 (j - T) (by omega) (by omega), show T + (j - T) = j by omega]
    · rw [if_neg c]
  rw [← h1, upd_id, e]
/-- a shelf as a source of bytes -/
theorem bs_doc {f n N : Nat} {b : Nat → Nat} {X : Nat → Nat → Int32} (hW : Lay iw aw) (hf : f < 4) (hB : bB b) (hn : n ≤ 2400) (hA : ∀ j, j < n → A (50 + f) j = sx (b j)) : ∀ I2 V2 Fg, BS cy iw aw μ1 I2 V2 A N X Fg (aw (50 + f)) b n := fun I2 V2 Fg => by
  refine ⟨hB, by omega, fun s ob j hj => ?_⟩
  obtain ⟨a1, a2, a3⟩ := arr_doc hf
  have := m_ld (cy := cy) (μ0 := μ1) (I := upd (upd I2 27 (nI s)) (60 + 1) (nI N)) (V := V2) (A := tA 60 (updG (updG A 26 (hs ob)) 20 Fg) X) (i := j) hW (50 + f) a1 (by rw [a3]; omega)
  rw [tA_out (by omega), updG_ne (by omega), updG_ne (by omega), hA j hj, a2] at this
  exact this
theorem k_copy (hL : Lay6 iv ad) (hW : Lay iw aw) (R : REL J B I A) (x y : Int32) : ANS cy iv ad μ0 iw aw μ1 ["java/lang/IndexOutOfBoundsException", "java/util/NoSuchElementException", "java/lang/IllegalArgumentException", "java/lang/UnsupportedOperationException"] (f_X6_copy cy (ad 0) x y (MC cy iv ad μ0 J w B)) (f_X8_copy cy (aw 0) x y (MR cy iw aw μ1 I V A)) := by
  unfold f_X6_copy f_X8_copy f_X8_copy_L16
  rw [if_pos (g_is hL), if_pos (r_is hW)]
  rcases sh4 x with ⟨s, hs4, rfl⟩ | hx
  · rw [g_shelf hL hs4, obX2_r, if_pos (g_is hL), r_shelf hW hs4, ob2_some, if_pos (show (0 : Int32) = 0 from rfl), if_pos (r_is hW)]
    rcases sh4 y with ⟨f, hf4, rfl⟩ | hy
    · rw [g_shelf hL hf4, obX2_r, r_shelf hW hf4, ob2_some, if_pos (show (0 : Int32) = 0 from rfl), upd_upd]
      obtain ⟨bs, n, G, d, m, at', S, hat, Rs⟩ := R.2.2.1 s hs4
      obtain ⟨bs2, n2, G2, d2, m2, at2, S2, hat2, Rs2⟩ := R.2.2.1 f hf4
      have z := sS_s hs4
      have a := shf_sp z.1
      have z2 := sS_s hf4
      have aa2 := shf_sp z2.1
      have C := S.2.2.2.2
      have hn := S.2.2.2.1
      have hlv := C.lvl
      have W := C.2.2.2.2.2.2.2.2.2.1
      have hm := C.2.2.2.2.2.2.2.2.1
      obtain ⟨r, hD⟩ := C.2.2.2.2.2.2.2.2.2.2
      have C2 := S2.2.2.2.2
      have hn2 := S2.2.2.2.1
      have hlv2 := C2.lvl
      have W2 := C2.2.2.2.2.2.2.2.2.2.1
      have hm2 := C2.2.2.2.2.2.2.2.2.1
      obtain ⟨r2, hD2⟩ := C2.2.2.2.2.2.2.2.2.2.2
      have r9 := m_ld (cy := cy) (μ0 := μ1) (I := upd I 0 0) (V := V) (A := A) (i := s) hW 9 rfl hs4
      rw [Rs.2.2.2.2] at r9
      have r9b := m_ld (cy := cy) (μ0 := μ1) (I := upd I 0 0) (V := V) (A := A) (i := f) hW 9 rfl hf4
      rw [Rs2.2.2.2.2] at r9b
      unfold f_X8_copy_L37
      rw [g_noEl hL hs4 S, m_ref hW (k := 9) rfl, Option.bind_some, show rdA cy (MR cy iw aw μ1 (upd I 0 0) V A) 1 (aw 9) (nI s) = _ from r9, Option.bind_some, Option.bind_some, show rdA cy (MR cy iw aw μ1 (upd I 0 0) V A) 1 (aw 9) (nI f) = _ from r9b, Option.bind_some]
      have no : ANS cy iv ad μ0 iw aw μ1 ["java/lang/IndexOutOfBoundsException", "java/util/NoSuchElementException", "java/lang/IllegalArgumentException", "java/lang/UnsupportedOperationException"] (some (.inl ("java/util/NoSuchElementException", MC cy iv ad μ0 J w B))) (f_X8_copy_L42 cy (aw 0) (nI s) (nI f) (aw 0) 1 (MR cy iw aw μ1 (upd I 0 0) V A)) := by
        unfold f_X8_copy_L42
        rw [if_pos (r_is hW), r_thr1 hW, ob2_some, if_neg (show ¬ (1 : Int32) = 0 by decide)]
        exact ans_th 2 (by decide) (by decide) rfl rfl rfl rfl R.i0.i0
      rcases hat.i (by omega) with ⟨h1, h2⟩ | ⟨i, hi', h1, h2, h3⟩
      · rw [if_pos h1, obX_l, if_pos (show at' < 0 by rw [h1]; decide)]
        exact no
      · rw [if_neg h2, obX_r, g_noEl hL hf4 S2, if_neg (show ¬ at' < 0 from Int32.not_lt.mpr h3)]
        rcases hat2.i (by omega) with ⟨k1, k2⟩ | ⟨i2, hi2', k1, k2, k3⟩
        · rw [if_pos k1, obX_l, if_neg k2]
          exact no
        · rw [if_neg k2, obX_r, if_pos k3]
          -- the source
          obtain ⟨N2, X2, ν2, hi2, m2', c2, e1, tw2, F2⟩ := x_sr (cy := cy) (μ0 := μ1) (I := upd I 0 0) (V := V) hW (Or.inr ⟨rfl, rfl⟩ : isT 22 80) hf4 Rs2 S2.2.2.1 W2
          have em2 := tw2.m W2 hD2
          subst em2
          obtain ⟨t1, t2, t3, t4, tK⟩ := tw2
          have hwn2 := (TWy.wn ⟨t1, t2, t3, t4, tK⟩)
          have kid := x_kid (cy := cy) (μ1 := μ1) (I := upd I 0 0) F2 (⟨t1, t2, t3, t4, tK⟩ : TWy X2 bs2 n2 G2 d2 N2 ν2 hi2 m2' c2) hi2'
          have st2 := x_stands (cy := cy) (μ0 := μ1) (I := upd I 0 0) F2 hf4 Rs2 W2 t2 t3 t4
          have at2r := x_at (cy := cy) (μ0 := μ1) (I := upd I 0 0) (N := N2) (X := X2) F2 hf4 Rs2
          rw [k1] at at2r
          obtain ⟨q1, q2, q3, q4, q5⟩ := tK.2.2.2.2.2.2 i2 hi2'
          have ki := tK.inc (i := i2 + 1) (by omega)
          have eo := tK.1.2.2.2.2.2 i2 hi2'
          have le2 := tK.1.le' (i := i2 + 1) (by omega)
          have dr1 := tK.1.1
          have dr2 := tK.1.2.1
          have es := eo.s (n := n2) (by omega)
          generalize hq : st (hb bs2) n2 (wD (hb bs2) n2 G2 d2) i2 = q at *
          generalize hq' : st (hb bs2) n2 (wD (hb bs2) n2 G2 d2) (i2 + 1) = qe at *
          generalize ht : hb bs2 q = t at *
          generalize hv : vpl (hb bs2) n2 q = v at *
          -- the change
          have Rs' : RSh (tA 80 A X2) s bs n G d at' := Rs.fr (tA_out (by omega)) (by rw [tA_out (by omega)]) (tA_out (by omega)) (by rw [tA_out (by omega)]) (by rw [tA_out (by omega)])
          obtain ⟨N, X, ν, hi, mm, c, I', oc, e2, tw, F, oc1, j28, j29, j31, j32, j33, jo⟩ := y_changes (cy := cy) (μ0 := μ1) (I := upd (upd I 0 0) (80 + 1) (nI N2)) (V := updG V 80 (.ref (aw (50 + f)))) (A := tA 80 A X2) hW hs4 Rs' S.2.2.1 W
          have em := tw.m W hD
          subst em
          have wn := tw.wn
          have j0 : I' 0 = 0 := by rw [jo 0 (by decide) (by decide) (by decide) (by decide) (by decide), upd_ne' (by decide)]; rfl
          have j81 : I' 81 = nI N2 := by rw [jo 81 (by decide) (by decide) (by decide) (by decide) (by decide)]; exact upd_self'
          have A80 : ∀ k, 2 ≤ k → k ≤ 12 → (updG (tA 80 A X2) 30 oc) (80 + k) = X2 k := fun k a1 a2 => by rw [updG_ne (by omega), tA_in ⟨a1, a2⟩]
          -- the levels
          have F5 : TX iw aw (updG (updG V 80 (.ref (aw (50 + f)))) 60 (.ref (aw (50 + s)))) (tA 60 (updG (tA 80 A X2) 30 oc) X) 22 80 (50 + f) bs2 n2 := ⟨hW, Or.inr ⟨rfl, rfl⟩, by rw [updG_ne (by decide), updG_self], ⟨f, hf4, rfl⟩, fun j hj => by rw [tA_out (by omega), updG_ne (by omega), tA_out (by omega)]; exact Rs2.1 j hj, S2.2.2.1, hn2⟩
          have m80 : ∀ I6 : Nat → Int32, I6 81 = nI N2 → MT cy iw aw μ1 I6 (updG (updG V 80 (.ref (aw (50 + f)))) 60 (.ref (aw (50 + s)))) (updG (tA 80 A X2) 30 oc) 60 N X = MT cy iw aw μ1 (upd I6 (60 + 1) (nI N)) (updG (updG V 80 (.ref (aw (50 + f)))) 60 (.ref (aw (50 + s)))) (tA 60 (updG (tA 80 A X2) 30 oc) X) 80 N2 X2 := fun I6 h => MT_id (T := 80) (by rw [upd_ne' (by decide)]; exact h) (fun k a1 a2 => by rw [tA_out (by omega)]; exact A80 k a1 a2)
          have lv : ∃ Lx, Lx ≤ 24 ∧ (∀ K qv, jVal (hb bs2) (jDoc (hb bs2) (-1) 24) K0 t v n2 = .inr (qv, K) → K.2.1 = nI Lx) ∧ f_X7_below cy DP (aw 22) (nI (c2 i2)) (MT cy iw aw μ1 (upd (upd (upd I' 3 0) 4 (-1)) (60 + 1) (nI N)) (updG (updG V 80 (.ref (aw (50 + f)))) 60 (.ref (aw (50 + s)))) (tA 60 (updG (tA 80 A X2) 30 oc) X) 80 N2 X2) = some (nI Lx, MT cy iw aw μ1 (upd (upd (upd I' 3 0) 4 (-1)) (60 + 1) (nI N)) (updG (updG V 80 (.ref (aw (50 + f)))) 60 (.ref (aw (50 + s)))) (tA 60 (updG (tA 80 A X2) 30 oc) X) 80 N2 X2) ∧ ∀ e3, Lx ≤ e3 → vOk (hb bs2) e3 t v qe := by
            by_cases hd : hasD t
            · obtain ⟨L, a1, a2, a3, a4, a5⟩ := lv_doc (cy := cy) (μ1 := μ1) (I := upd (upd (upd I' 3 0) 4 (-1)) (60 + 1) (nI N)) (N := N2) F5 (23 - d2) _ _ _ _ _ _ _ (by omega) (q4 hd) (by omega) (by omega) (by
                rw [q2.2.2.2.2.2.1]
                unfold dAt
                rw [ht, hv]
                exact if_pos hd)
              refine ⟨L, by omega, fun K qv zz => ?_, a4 DP (by show 23 - d2 + 1 ≤ 120; omega), fun e3 h3 => vOk_lv hd es.2.2.2.2.1 (a5 e3 h3)⟩
              obtain ⟨K2, w', y1, y2⟩ := cn_val3 hd (jDoc_b 24) zz
              have := a3 24 K2 w' qv K (Nat.le_refl _) y1
              rw [this, y2]
              show mxI 0 (nI (24 - 24 + L)) = nI L
              rw [show 24 - 24 + L = L by omega]
              exact if_pos (nI_lt (a := 0) (by omega) (by omega))
            · refine ⟨0, by decide, fun K qv zz => ?_, lv_leaf (d := 119) F5 (by omega) ?_, fun e3 _ => vOk_nd hd es.2.2.2.2.1⟩
              · rw [cn_val1 (dep := 0) hd zz, (nv_no hd).1]
                rfl
              · rw [q2.2.2.2.2.2.1]
                unfold dAt
                rw [ht]
                exact if_neg hd
          obtain ⟨Lx, lx1, lx2, lx3, lx4⟩ := lv
          have tv := tr_Val (h := hb bs2) (h' := hb bs2) (K2 := K0) (p' := v) (w' := n2) (jDoc_b (23 - d2)) (tr_Doc (wt := -1) (wt' := -1) (23 - d2) 24 (by omega)) es.2.2.2.2.1 ag.rf (by omega)
          rw [show v + (qe - v) = qe by omega] at tv
          obtain ⟨K, jv⟩ := tv
          have hK := lx2 K qe jv
          have Sp := SP6 (cy := cy) (μ0 := μ0) (w := w) (J := J) (B := B) hL aa2.1 S2.1 (by rw [aa2.2.2.1]; exact hn2)
          rw [S2.2.1] at Sp
          have li := q_levelsIn Sp (k_r1 hL aa2.1) (c_rc hL) (show v ≤ n2 by omega) jv
          rw [c_RM hL, hK] at li
          have C' : CUR (upR J 0 (-1) 0 (-1) K) B (sC (90 + s)) (hb bs) n G d mm at' := C.fr (fun k hk => upR_ne (by omega)) (fun _ _ _ => rfl)
          have fT := F_elementType (cy := cy) (μ0 := μ0) (w := w) hL z2.1 S2 hi2' k1
          have fV := F_valuePlace (cy := cy) (μ0 := μ0) (w := w) hL z2.1 S2 hi2' k1
          rw [hq, ht] at fT
          rw [hq, hv] at fV
          rw [if_pos (F_is hL z2.1), fT, ob2_some, g_ref hL (k := 3) rfl, Option.bind_some, F_r0 hL z2.1, Option.bind_some, if_pos (F_is hL z2.1), fV, ob2_some, if_pos (k_rdI hL), li, ob2_some, F_r1 hL z.1, Option.bind_some, if_pos (C_is hL a.2.1), C_depth hL a.2.1 C', ob2_some, nI_p]
          -- the reference, up to the levels
          have emem : MR cy iw aw μ1 (upd (upd (upd I' (60 + 1) (nI N)) 3 0) 4 (-1)) (updG (updG V 80 (.ref (aw (50 + f)))) 60 (.ref (aw (50 + s)))) (tA 60 (updG (tA 80 A X2) 30 oc) X) = MT cy iw aw μ1 (upd (upd I' 3 0) 4 (-1)) (updG (updG V 80 (.ref (aw (50 + f)))) 60 (.ref (aw (50 + s)))) (updG (tA 80 A X2) 30 oc) 60 N X := by
            rw [upd_cm (show 60 + 1 ≠ 3 by decide), upd_cm (show 60 + 1 ≠ 4 by decide)]
          have jm : f_X8_judges cy (aw 0) (MT cy iw aw μ1 I' (updG (updG V 80 (.ref (aw (50 + f)))) 60 (.ref (aw (50 + s)))) (updG (tA 80 A X2) 30 oc) 60 N X) = some (MT cy iw aw μ1 (upd (upd I' 3 0) 4 (-1)) (updG (updG V 80 (.ref (aw (50 + f)))) 60 (.ref (aw (50 + s)))) (updG (tA 80 A X2) 30 oc) 60 N X) := by
            rw [m_judges hW]
            show some (MR cy iw aw μ1 (upd (upd (upd I' (60 + 1) (nI N)) 3 0) 4 (-1)) (updG (updG V 80 (.ref (aw (50 + f)))) 60 (.ref (aw (50 + s)))) (updG (tA 60 (updG (tA 80 A X2) 30 oc) X) 20 (tA 60 (updG (tA 80 A X2) 30 oc) X 20))) = _
            rw [updG_id, emem]
          unfold f_X8_copy_L42
          rw [if_pos (r_is hW), r_thr0, ob2_some, if_pos (show (0 : Int32) = 0 from rfl), m_ref hW (k := 22) rfl, Option.bind_some, m_ref hW (k := 5) rfl, Option.bind_some, m_docs hW hf4, Option.bind_some, if_pos (m_tis hW (Or.inr ⟨rfl, rfl⟩)), e1, Option.bind_some, x_ref F2 (k := 22) rfl, Option.bind_some, Option.bind_some, if_pos (x_o F2), st2, ob2_some, x_ref F2 (k := 9) rfl, Option.bind_some, at2r, Option.bind_some, if_pos (x_is F2), kid.1, ob2_some, if_pos (x_o F2)]
          have e2' : f_X8_changes cy (aw 0) (nI s) (MT cy iw aw μ1 (upd I 0 0) (updG V 80 (.ref (aw (50 + f)))) A 80 N2 X2) = _ := e2
          rw [e2', ob2_some, if_pos (x_o F), jm, Option.bind_some, x_ref F (k := 21) rfl, Option.bind_some, x_r12 F, Option.bind_some, x_ld F 12 (by decide) wn.1, Option.bind_some, wn.2.2.2.2.1, x_ref F (k := 22) rfl, Option.bind_some, if_pos (m_tis hW (Or.inr ⟨rfl, rfl⟩)), m80 _ (by rw [upd_ne' (by decide), upd_ne' (by decide)]; exact j81), lx3, ob2_some, ← m80 _ (by rw [upd_ne' (by decide), upd_ne' (by decide)]; exact j81), nI_p]
          have R1 : REL J B I' (updG (tA 80 A X2) 30 oc) := (R.i0 (x := 0)).fr (fun _ _ _ => rfl) (fun _ _ => rfl) (fun k a1 a2 => by rw [jo k (by omega) (by omega) (by omega) (by omega) (by omega), upd_ne' (by omega)]) (fun j hj => by unfold rlv at hj; rw [updG_ne (by omega), tA_out (by omega)])
          have RF : ∀ fk fp, REL (upd (upd (upR J 0 (-1) 0 (-1) K) 7 fk) 8 fp) B (upd (upd I' 3 fk) 4 fp) (updG (tA 80 A X2) 30 oc) := fun fk fp => by
            have := R1.ft (fk := fk) (fp := fp) (J' := upR J 0 (-1) 0 (-1) K) (G := (updG (tA 80 A X2) 30 oc) 20) (fun k hk => upR_ne (by omega))
            rw [updG_id] at this
            exact this
          unfold f_X6_copy_L70 f_X6_copy_L84 f_X6_copy_L94
          by_cases cD : d + 1 + Lx ≤ 24
          · have RF0 := RF 0 (-1)
            have S5 : SH (upd (upd (upR J 0 (-1) 0 (-1) K) 7 0) 8 (-1)) B (90 + s) bs n G d mm at' := S.fr (fun k hk => by rw [upd_ne' (by omega), upd_ne' (by omega), upR_ne (by omega)]) (fun _ _ => rfl)
            have S6 : SH (upd (upd (upR J 0 (-1) 0 (-1) K) 7 0) 8 (-1)) B (90 + f) bs2 n2 G2 d2 m2' at2 := S2.fr (fun k hk => by rw [upd_ne' (by omega), upd_ne' (by omega), upR_ne (by omega)]) (fun _ _ => rfl)
            have fV2 := F_valuePlace (cy := cy) (μ0 := μ0) (w := ad (sS (90 + f))) hL z2.1 S6 hi2' k1
            have fE2 := F_valueEnd (cy := cy) (μ0 := μ0) (w := ad (sS (90 + f))) hL z2.1 S6 hi2' k1
            rw [hq, hv] at fV2
            rw [hq'] at fE2
            have Rs5 : RSh (updG (tA 80 A X2) 30 oc) s bs n G d at' := Rs'.fr (updG_ne (by omega)) (by rw [updG_ne (by decide)]) (updG_ne (by omega)) (by rw [updG_ne (by decide)]) (by rw [updG_ne (by decide)])
            have ed := v_ed (cy := cy) (μ0 := μ0) (w := ad (sS (90 + f))) (μ1 := μ1) (kv := sS (90 + f)) (nv := n2) (vs := v) (ve := qe) (bv' := bs2) (a := aw (50 + f)) (vf := v) (vl := qe - v) (L := n2) (vb := bs2) (t := t) hL hW RF0 hs4 S5 Rs5 W hi' h1 ⟨aa2.1, by omega, S6.1, S6.2.1, S6.2.2.1, by rw [aa2.2.2.1]; exact hn2⟩ ⟨by omega, by omega⟩ es.1 (ty8 es.1) (lx4 (23 - d) (by omega)) F tw (by rw [upd_ne' (by decide), upd_ne' (by decide)]; exact j28) (by rw [upd_ne' (by decide), upd_ne' (by decide)]; exact j31) (by rw [upd_ne' (by decide), upd_ne' (by decide)]; exact j33) (fun x hx => by rw [updG_self]; exact oc1 x hx) (bs_doc hW hf4 S2.2.2.1 hn2 (fun j hj => by rw [updG_ne (by omega), tA_out (by omega)]; exact Rs2.1 j hj)) (by omega) (by rw [show v + (qe - v) = qe by omega])
            have i30 := x_al (cy := cy) (μ0 := μ1) (I := upd (upd I' 3 0) 4 (-1)) (N := N) (X := X) (i := i) F 30 rfl (by decide) (by show i < 1301; omega)
            rw [updG_self, oc1 i hi'] at i30
            have hT22 : isT 22 80 := Or.inr ⟨rfl, rfl⟩
            have tr := fun k (hk : 2 ≤ k ∧ k ≤ 12) => m_tld (cy := cy) (μ0 := μ1) (I := upd (upd (upd (upd I' 3 0) 4 (-1)) 29 (nI (c i))) (60 + 1) (nI N)) (V := updG (updG V 80 (.ref (aw (50 + f)))) 60 (.ref (aw (50 + s)))) (A := tA 60 (updG (tA 80 A X2) 30 oc) X) hW hT22 k hk (i := c2 i2) (by omega)
            have t2r := tr 2 (by decide)
            have t8r := tr 8 (by decide)
            have t9r := tr 9 (by decide)
            rw [tA_out (by omega), A80 2 (by decide) (by decide), q2.2.1, ht] at t2r
            rw [tA_out (by omega), A80 8 (by decide) (by decide), q2.2.2.2.1, hv] at t8r
            rw [tA_out (by omega), A80 9 (by decide) (by decide), q2.2.2.2.2.1, hv] at t9r
            have of22 : rdR (MT cy iw aw μ1 (upd (upd (upd I' 3 0) 4 (-1)) 29 (nI (c i))) (updG (updG V 80 (.ref (aw (50 + f)))) 60 (.ref (aw (50 + s)))) (updG (tA 80 A X2) 30 oc) 60 N X) (aw 22) 6 0 = some (aw (50 + f)) := rdR_mk (m_to hW hT22) (by show some (updG (updG V 80 (.ref (aw (50 + f)))) 60 (.ref (aw (50 + s))) 80) = _; rw [updG_ne (by decide), updG_self])
            have enx : nx (hb bs2) n2 q = qe := es.2.2.2.2.2
            rw [enx] at t9r
            rw [if_pos (show nI (d + 1 + Lx) ≤ 24 from nI_le (b := 24) cD (by decide)), if_pos (show (0 : Int32) = 0 from rfl), if_pos (show (0 : Int32) = 0 from rfl), if_pos (g_is hL), g_fault hL, if_pos (show (0 : Int32) = 0 from rfl), obX_r, F_r0 hL z2.1, Option.bind_some, if_pos (F_is hL z2.1), fV2, ob2_some, if_pos (F_is hL z2.1), fE2, ob2_some, if_pos (F_is hL z.1)]
            rw [if_pos (show nI (d + 1 + Lx) ≤ 24 from nI_le (b := 24) cD (by decide)), x_ref F (k := 30) rfl, Option.bind_some, x_ref F (k := 9) rfl, Option.bind_some, x_at F hs4 Rs5, Option.bind_some, h1, show rdA cy (MT cy iw aw μ1 (upd (upd I' 3 0) 4 (-1)) (updG (updG V 80 (.ref (aw (50 + f)))) 60 (.ref (aw (50 + s)))) (updG (tA 80 A X2) 30 oc) 60 N X) 1 (aw 30) (nI i) = _ from i30, Option.bind_some, x_put F 29 rfl (by decide), Option.bind_some, x_ref F (k := 22) rfl, Option.bind_some, m_tr hW hT22 (k := 2) rfl, Option.bind_some, t2r, Option.bind_some, Option.bind_some, of22, Option.bind_some, Option.bind_some, m_tr hW hT22 (k := 8) rfl, Option.bind_some, t8r, Option.bind_some, Option.bind_some, m_tr hW hT22 (k := 9) rfl, Option.bind_some, t9r, Option.bind_some, if_pos (x_o F), y_valueIs F, Option.bind_some]
            have F36 : TX iw aw (updG (updG (updG V 80 (.ref (aw (50 + f)))) 60 (.ref (aw (50 + s)))) 36 (.ref (aw (50 + f)))) (updG (tA 80 A X2) 30 oc) 21 60 (50 + s) bs n := ⟨F.1, F.2.1, by rw [updG_ne (by decide)]; exact F.2.2.1, F.2.2.2⟩
            rw [if_pos (x_o F36)]
            unfold f_X8_copy_L205
            rcases ed with ⟨J', B', I2, V2, A2, f1, f2, f3, f4⟩ | ⟨J', B', I2, V2, A2, n', f1, f2, f3, f4, f5⟩
            · rw [f1, f2, ob2_some, if_pos (show (0 : Int32) = 0 from rfl), if_pos (r_is hW), r_thr1 hW, ob2_some, if_neg (show ¬ (1 : Int32) = 0 by decide)]
              exact ans_th 4 (by decide) (by decide) rfl rfl rfl rfl f3.i0
            · have r6 := m_ld (cy := cy) (μ0 := μ1) (I := I2) (V := V2) (A := A2) (i := s) hW 6 rfl hs4
              rw [f3] at r6
              rw [f1, f2, ob2_some, if_neg (show ¬ (1 : Int32) = 0 by decide), if_pos (r_is hW), r_thr0, ob2_some, if_pos (show (0 : Int32) = 0 from rfl), m_ref hW rfl, Option.bind_some, show rdA cy (MR cy iw aw μ1 I2 V2 A2) 1 (aw 6) (nI s) = _ from r6, Option.bind_some]
              exact ans_ok rfl rfl (by rw [f5]; exact j0) f4
          · have wr : f_X8_wrong cy (aw 0) 8 0 (MT cy iw aw μ1 (upd (upd I' 3 0) 4 (-1)) (updG (updG V 80 (.ref (aw (50 + f)))) 60 (.ref (aw (50 + s)))) (updG (tA 80 A X2) 30 oc) 60 N X) = some (-1, MT cy iw aw μ1 (upd (upd I' 3 8) 4 0) (updG (updG V 80 (.ref (aw (50 + f)))) 60 (.ref (aw (50 + s)))) (updG (tA 80 A X2) 30 oc) 60 N X) := by
              unfold f_X8_wrong
              have i3 : rdI (MT cy iw aw μ1 (upd (upd I' 3 0) 4 (-1)) (updG (updG V 80 (.ref (aw (50 + f)))) 60 (.ref (aw (50 + s)))) (updG (tA 80 A X2) 30 oc) 60 N X) (aw 0) 7 3 = some 0 := x_i F 3 rfl
              rw [i3, Option.bind_some, if_pos rfl, x_put F 3 rfl (by decide), Option.bind_some, x_put F 4 rfl (by decide), Option.bind_some, upd_cm (show 4 ≠ 3 by decide), upd_upd, upd_upd]
              rfl
            rw [if_neg (show ¬ nI (d + 1 + Lx) ≤ 24 from nI_ge (a := 24) (by omega) (by omega)), if_neg (show ¬ (1 : Int32) = 0 by decide), if_neg (show ¬ (1 : Int32) = 0 by decide), if_pos (g_is hL), g_fault hL, if_neg (show ¬ (8 : Int32) = 0 by decide), obX_l]
            rw [if_neg (show ¬ nI (d + 1 + Lx) ≤ 24 from nI_ge (a := 24) (by omega) (by omega)), if_pos (x_o F), wr, ob2_some, x_put F 0 rfl (by decide), Option.bind_some]
            exact ans_th 3 (by decide) (by decide) rfl rfl rfl rfl (((RF 8 0).i0 (x := 3)).t (by decide))
    · rw [g_noShelf hy, obX2_l, r_noShelf hW hy, ob2_some, if_neg (by decide)]
      exact ans_th 1 (by decide) (by decide) rfl rfl rfl rfl R.i0.i0
  · rw [g_noShelf hx, obX2_l, r_noShelf hW hx, ob2_some, if_neg (by decide)]
    exact ans_th 1 (by decide) (by decide) rfl rfl rfl rfl R.i0
end KC1
