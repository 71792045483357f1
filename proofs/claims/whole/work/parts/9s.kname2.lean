/-! THE CALLS: name, put together. -/
section KN2
variable {cy : Nat → ClassId} {iv : Nat → Option Nat} {ad : Nat → Nat} {μ0 : Mem} {J : Nat → Int32} {w : Nat} {B : Nat → Nat → Int32} {iw : Nat → Option Nat} {aw : Nat → Nat} {μ1 : Mem} {I : Nat → Int32} {V : Nat → Value} {A : Nat → Nat → Int32}
theorem jN_0 {h : Nat → Int32} {n : Nat} (hk : fkI (jEnd (jN h K0 0 n) n) = 0) : 1 ≤ n ∧ nmZ h 0 (n - 1) none := by
  obtain ⟨q, K, ej, hq⟩ := jEnd_0 jN_f hk
  have g := jNm_s (rw := none) (h := h) ej
  have : q = n := by omega
  subst this
  exact ⟨by omega, g.1⟩
theorem k_name (hL : Lay6 iv ad) (hW : Lay iw aw) (R0 : REL J B I A) (x : Int32) : ANS cy iv ad μ0 iw aw μ1 ["java/lang/IndexOutOfBoundsException", "java/util/NoSuchElementException", "java/lang/IllegalStateException", "java/lang/IllegalArgumentException", "java/lang/UnsupportedOperationException"] (f_X6_name cy (ad 0) x (MC cy iv ad μ0 J w B)) (f_X8_name_ cy (aw 0) x (MR cy iw aw μ1 I V A)) := by
  unfold f_X6_name f_X8_name_ f_X8_name__L35
  obtain ⟨J1, B1, tn, tb, e1, R, g1, g2, g3, g4, i2, tA1⟩ := k_tape (cy := cy) (μ0 := μ0) (w := w) hL R0
  rw [if_pos (g_is hL), e1, Option.bind_some, if_pos (g_is hL), show rdI (MR cy iw aw μ1 I V A) (aw 0) 7 2 = some (I 2) from m_int hW rfl, Option.bind_some, m_put hW rfl (by decide), Option.bind_some, if_pos (r_is hW)]
  rcases sh4 x with ⟨s, hs4, rfl⟩ | hx
  · obtain ⟨bs, n, G, d, m, at', S, hat, Rs⟩ := R.2.2.1 s hs4
    have z := sS_s hs4
    have a := shf_sp z.1
    have C := S.2.2.2.2
    have hn := S.2.2.2.1
    have hlv := C.lvl
    have W := C.2.2.2.2.2.2.2.2.2.1
    have hm := C.2.2.2.2.2.2.2.2.1
    obtain ⟨r, hD⟩ := C.2.2.2.2.2.2.2.2.2.2
    have r9 := m_ld (cy := cy) (μ0 := μ1) (I := upd (upd I 2 0) 0 0) (V := V) (A := A) (i := s) hW 9 rfl hs4
    rw [Rs.2.2.2.2] at r9
    rw [g_shelf hL hs4, obX2_r, g_noEl hL hs4 S, r_shelf hW hs4, ob2_some, if_pos (show (0 : Int32) = 0 from rfl), m_ref hW rfl, Option.bind_some, show rdA cy (MR cy iw aw μ1 (upd (upd I 2 0) 0 0) V A) 1 (aw 9) (nI s) = _ from r9, Option.bind_some]
    rcases hat.i (by omega) with ⟨h1, h2⟩ | ⟨i, hi', h1, h2, h3⟩
    · rw [if_pos h1, obX_l, if_neg h2, if_pos (r_is hW), r_thr1 hW, ob2_some, if_neg (show ¬ (1 : Int32) = 0 by decide)]
      exact ans_th 2 (by decide) (by decide) rfl rfl rfl rfl R.i0.i0
    · obtain ⟨N, X, ν, hi, m2, c, I', oc, e2, tw, F, oc1, j28, j29, j31, j32, j33, jo⟩ := y_changes (cy := cy) (μ0 := μ1) (I := upd (upd I 2 0) 0 0) (V := V) hW hs4 Rs S.2.2.1 W
      have em := tw.m W hD
      subst em
      have wn := tw.wn
      have R1 : REL J1 B1 I' (updG A 30 oc) := (R.i0 (x := 0)).fr (fun _ _ _ => rfl) (fun _ _ => rfl) (fun k k1 k2 => jo k (by omega) (by omega) (by omega) (by omega) (by omega)) (fun j hj => by unfold rlv at hj; exact updG_ne (by omega))
      have j0 : I' 0 = 0 := by rw [jo 0 (by decide) (by decide) (by decide) (by decide) (by decide)]; rfl
      rw [if_neg h2, obX_r, F_r1 hL z.1, Option.bind_some, if_pos (C_is hL a.2.1), C_inRow hL a.2.1 C, ob2_some, if_pos h3, if_pos (r_is hW), r_thr0, ob2_some, if_pos (show (0 : Int32) = 0 from rfl), if_pos (r_is hW), e2, ob2_some, x_ref F (k := 21) rfl, Option.bind_some, x_r2 F, Option.bind_some, x_ld F 2 (by decide) wn.1, Option.bind_some, wn.2.2.1]
      unfold f_X8_name__L69
      by_cases q4 : wT (hb bs) n G d = 4
      · have e4 : (wT (hb bs) n G d == 4) = true := by rw [q4]; rfl
        rw [e4, if_neg (show ¬ bI true = 0 by decide), if_pos q4, if_pos (x_o F), r_thr1 hW, ob2_some, if_neg (show ¬ (1 : Int32) = 0 by decide)]
        exact ans_th 3 (by decide) (by decide) rfl rfl rfl rfl (R1.t (by decide)).i0
      · have e4 : (wT (hb bs) n G d == 4) = false := by simp [q4]
        obtain ⟨K, e3⟩ := k_jNm (cy := cy) (μ0 := μ0) (w := w) (j := 22) (n := tn) (b := tb) hL rfl g1 g4 g2
        have MFF : MF iw aw (upd (upd I' (60 + 1) (nI N)) 2 (nI tn)) (tA 60 (updG A 30 oc) X) tn tb := ⟨hW, upd_self', fun j hj => by rw [tA_out (by omega), updG_ne (by decide)]; exact tA1 j hj, g3, g4⟩
        obtain ⟨G', e5⟩ := m_isName (cy := cy) (μ0 := μ1) (V := updG V 60 (.ref (aw (50 + s)))) (G := tA 60 (updG A 30 oc) X 20) MFF
        rw [e4, if_pos (show bI false = 0 from rfl), if_neg q4, g_ref hL (k := 3) rfl, Option.bind_some, g_ref hL (k := 1) rfl, Option.bind_some, if_pos (k_rdI hL), e3, Option.bind_some, g_ref hL (k := 3) rfl, Option.bind_some, k_rd hL 1 rfl, Option.bind_some, Option.bind_some, k_rd hL 2 rfl, Option.bind_some, if_pos (g_is hL), if_pos (x_o F), r_thr0, ob2_some, if_pos (show (0 : Int32) = 0 from rfl), if_pos (x_o F), m_judges hW, Option.bind_some, i2, r_js1 hW, Option.bind_some, if_pos (m_is hW), ob2_k e5, r_js2 hW, Option.bind_some]
        have upF : ∀ (J0 : Nat → Int32) (a b c d : Int32) (K : Kt), upR J0 a b c d K 101 = c ∧ upR J0 a b c d K 102 = d := fun J0 a b c d K => ⟨rfl, rfl⟩
        rw [(upF _ _ _ _ _ _).1, (upF _ _ _ _ _ _).2]
        have emem : ∀ (fk fp : Int32), MR cy iw aw μ1 (upd (upd (upd (upd I' (60 + 1) (nI N)) 2 0) 3 fk) 4 fp) (updG V 60 (.ref (aw (50 + s)))) (updG (tA 60 (updG A 30 oc) X) 20 G') = MT cy iw aw μ1 (upd (upd (upd I' 2 0) 3 fk) 4 fp) (updG V 60 (.ref (aw (50 + s)))) (updG (updG A 30 oc) 20 G') 60 N X := fun fk fp => by
          rw [upd_cm (show 60 + 1 ≠ 2 by decide), upd_cm (show 60 + 1 ≠ 3 by decide), upd_cm (show 60 + 1 ≠ 4 by decide), tA_o (Or.inl (by decide))]
        rw [emem]
        generalize hfk : fkI (jEnd (jN (hb tb) K0 0 tn) tn) = fk at *
        generalize hfp : fpI (jEnd (jN (hb tb) K0 0 tn) tn) = fp at *
        have RF : REL (upd (upd (upR J1 0 (-1) fk fp K) 7 fk) 8 fp) B1 (upd (upd (upd I' 2 0) 3 fk) 4 fp) (updG (updG A 30 oc) 20 G') := (R1.ft (fk := fk) (fp := fp) (J' := upR J1 0 (-1) fk fp K) (G := G') (fun k hk => upR_ne (by omega))).fr (fun _ _ _ => rfl) (fun _ _ => rfl) (fun k k1 k2 => by
          by_cases c4 : k = 4
          · subst c4; rfl
          · rw [upd_ne' c4, upd_ne' c4]
            by_cases c3 : k = 3
            · subst c3; rfl
            · rw [upd_ne' c3, upd_ne' c3]
              by_cases c2 : k = 2
              · subst c2
                rw [upd_self', jo 2 (by decide) (by decide) (by decide) (by decide) (by decide)]
                rfl
              · rw [upd_ne' c2]) (fun _ _ => rfl)
        have F2 : TX iw aw (updG V 60 (.ref (aw (50 + s)))) (updG (updG A 30 oc) 20 G') 21 60 (50 + s) bs n := F.a (by omega)
        unfold f_X8_name__L116
        by_cases c0 : fk = 0
        · have hnm := jN_0 (h := hb tb) (n := tn) (by rw [hfk]; exact c0)
          have ok := okI_0 (f := jEnd (jN (hb tb) K0 0 tn) tn) (by rw [hfk]; exact c0) (jEnd_F jN_f)
          have S2 : SH (upd (upd (upR J1 0 (-1) fk fp K) 7 fk) 8 fp) B1 (90 + s) bs n G d m2 at' := S.fr (fun k hk => by rw [upd_ne' (by omega), upd_ne' (by omega), upR_ne (by omega)]) (fun _ _ => rfl)
          have Rs2 : RSh (updG (updG A 30 oc) 20 G') s bs n G d at' := Rs.fr (by rw [updG_ne (by omega), updG_ne (by omega)]) (by rw [updG_ne (by decide), updG_ne (by decide)]) (by rw [updG_ne (by omega), updG_ne (by omega)]) (by rw [updG_ne (by decide), updG_ne (by decide)]) (by rw [updG_ne (by decide), updG_ne (by decide)])
          have F35 : TX iw aw (updG (updG V 60 (.ref (aw (50 + s)))) 35 (.ref (aw 1))) (updG (updG A 30 oc) 20 G') 21 60 (50 + s) bs n := ⟨F2.1, F2.2.1, by rw [updG_ne (by decide)]; exact F2.2.2.1, F2.2.2.2⟩
          have ptn : nI tn - 1 = nI (tn - 1) := by
            obtain ⟨k, rfl⟩ : ∃ k, tn = k + 1 := ⟨tn - 1, by omega⟩
            exact nI_pr
          obtain ⟨tl, t1, ed⟩ := n_ed (cy := cy) (μ0 := μ0) (w := ad 22) (μ1 := μ1) (I := upd (upd (upd (upd (upd (upd (upd I' 2 0) 3 fk) 4 fp) 29 (nI (c i))) 33 1) 37 0) 38 (nI (tn - 1))) (V := updG (updG V 60 (.ref (aw (50 + s)))) 35 (.ref (aw 1))) (N := N) (X := X) (tb := tb) (tn := tn) (i := i) hL hW (RF.fr (fun _ _ _ => rfl) (fun _ _ => rfl) (fun k k1 k2 => by rw [upd_ne' (by omega), upd_ne' (by omega), upd_ne' (by omega), upd_ne' (by omega)]) (fun _ _ => rfl)) hs4 S2 Rs2 W e4 hi' h1 (by rw [upd_ne' (by decide), upd_ne' (by decide), upR_ne (by decide)]; exact g1) g2 g3 g4 hnm F35 tw (by simp only [upd]; exact j28) (by simp [upd]) (by simp only [upd]; exact j31) (by simp only [upd]; exact j32) (by simp [upd]) updG_self (by simp [upd]; rfl) upd_self' (fun x hx => by rw [updG_ne (by decide), updG_self]; exact oc1 x hx) (fun j hj => by rw [updG_ne (by decide), updG_ne (by decide)]; exact tA1 j hj)
          have i30 := x_al (cy := cy) (μ0 := μ1) (I := upd (upd (upd I' 2 0) 3 fk) 4 fp) (N := N) (X := X) (i := i) F2 30 rfl (by decide) (by show i < 1301; omega)
          rw [updG_ne (show 30 ≠ 20 by decide), updG_self, oc1 i hi'] at i30
          rw [g_fault hL, if_pos c0, obX_r, F_r1 hL z.1, Option.bind_some, C_num hL a.2.1, Option.bind_some, S2.2.2.2.2.2.1, h1, if_pos (F_is hL z.1), t1, ok.1, if_neg (show ¬ (1 : Int32) = 0 by decide), if_pos (x_o F2), r_thr0, ob2_some, if_pos (show (0 : Int32) = 0 from rfl), x_ref F2 (k := 30) rfl, Option.bind_some, x_ref F2 (k := 9) rfl, Option.bind_some, x_at F2 hs4 Rs2, Option.bind_some, h1, show rdA cy (MT cy iw aw μ1 (upd (upd (upd I' 2 0) 3 fk) 4 fp) (updG V 60 (.ref (aw (50 + s)))) (updG (updG A 30 oc) 20 G') 60 N X) 1 (aw 30) (nI i) = _ from i30, Option.bind_some, x_put F2 29 rfl (by decide), Option.bind_some, x_ref F2 (k := 1) rfl, Option.bind_some, if_pos (x_o F2), ptn, y_nameIs F2, Option.bind_some, if_pos (x_o F35)]
          unfold f_X8_name__L166
          rcases ed with ⟨J', B', I2, V2, A2, f1, f2, f3, f4⟩ | ⟨J', B', I2, V2, A2, n', f1, f2, f3, f4, f5⟩
          · rw [f1, f2, ob2_some, if_pos (show (0 : Int32) = 0 from rfl), if_pos (r_is hW), r_thr1 hW, ob2_some, if_neg (show ¬ (1 : Int32) = 0 by decide)]
            exact ans_th 5 (by decide) (by decide) rfl rfl rfl rfl f3.i0
          · have r6 := m_ld (cy := cy) (μ0 := μ1) (I := I2) (V := V2) (A := A2) (i := s) hW 6 rfl hs4
            rw [f3] at r6
            rw [f1, f2, ob2_some, if_neg (show ¬ (1 : Int32) = 0 by decide), if_pos (r_is hW), r_thr0, ob2_some, if_pos (show (0 : Int32) = 0 from rfl), m_ref hW rfl, Option.bind_some, show rdA cy (MR cy iw aw μ1 I2 V2 A2) 1 (aw 6) (nI s) = _ from r6, Option.bind_some]
            exact ans_ok rfl rfl (by rw [f5]; exact j0) f4
        · have ok := okI_1 (f := jEnd (jN (hb tb) K0 0 tn) tn) (by rw [hfk]; exact c0)
          rw [g_fault hL, if_neg c0, obX_l, ok, if_pos (show (0 : Int32) = 0 from rfl), if_pos (x_o F2), r_thr1 hW, ob2_some, if_neg (show ¬ (1 : Int32) = 0 by decide)]
          exact ans_th 4 (by decide) (by decide) rfl rfl rfl rfl (RF.t (by decide)).i0
  · rw [g_noShelf hx, obX2_l, r_noShelf hW hx, ob2_some, if_neg (show ¬ (1 : Int32) = 0 by decide)]
    exact ans_th 1 (by decide) (by decide) rfl rfl rfl rfl R.i0
end KN2
