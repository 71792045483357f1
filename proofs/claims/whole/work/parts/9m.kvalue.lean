/-! THE CALLS: value. -/
theorem ty_ex {t : Int32} (h : isTy t) : ∃ k, k < 256 ∧ 1 ≤ k ∧ t = nI k := by
  rcases h with h | h | h
  · have a1 : ¬ t.toInt < 1 := fun y => h.1 (Int32.lt_iff_toInt_lt.mpr y)
    have a2 : t.toInt ≤ 19 := Int32.le_iff_toInt_le.mp h.2
    obtain ⟨k, k1, k2, k3⟩ := i32_of (x := t) (lo := 1) (hi := 19) (fun y => a1 y) (fun y => by omega) (by decide)
    exact ⟨k, by omega, k1, k3⟩
  · exact ⟨127, by decide, by decide, h⟩
  · exact ⟨255, by decide, by decide, h⟩
theorem ty8 {t : Int32} (h : isTy t) : nI (b8 t) = t := by
  obtain ⟨k, h1, h2, rfl⟩ := ty_ex h
  rw [b8_nI h1]
theorem jHd_f2 {h : Nat → Int32} {n : Nat} {named : Bool} : okF (jHd h n named) := by
  cases named with
  | true => exact jN_f
  | false => exact okF.r
theorem jPc_f {h : Nat → Int32} {n e : Nat} {named : Bool} {t : Int32} : okF (jPc h n named t e) := by
  unfold jPc
  by_cases ht : isTy t
  · rw [if_pos ht]
    exact okF.t jHd_f2 (fun q K => jVal_f (jDoc_f e))
  · rw [if_neg ht]
    exact okF.l (by decide)
section KV2
variable {cy : Nat → ClassId} {iv : Nat → Option Nat} {ad : Nat → Nat} {μ0 : Mem} {J : Nat → Int32} {w : Nat} {B : Nat → Nat → Int32} {iw : Nat → Option Nat} {aw : Nat → Nat} {μ1 : Mem} {I : Nat → Int32} {V : Nat → Value} {A : Nat → Nat → Int32} {s : Nat}
/-- an ELEMENT's bytes are judged -/
theorem k_jEl (hL : Lay6 iv ad) {j n : Nat} {b : Nat → Nat} (hj : span6 j = true) (h1 : J (100 * j + 1) = nI n) (hn : n ≤ len6 (j + 1)) (h2 : B (j + 1) = hb b) (named : Bool) (t : Int32) {dep : Nat} (hd : dep ≤ 24) : ∃ vp K, f_X2_judgeElement cy (ad 1) (ad j) (bI named) t (nI dep) (MC cy iv ad μ0 J w B) = some (MC cy iv ad μ0 (upR J vp (-1) (fkI (jEnd (jPc (hb b) n named t (24 - dep)) n)) (fpI (jEnd (jPc (hb b) n named t (24 - dep)) n)) K) (ad j) B) ∧ ∀ q K1, jHd (hb b) n named = .inr (q, K1) → isTy t → vp = nI q := by
  have S := SP6 (cy := cy) (μ0 := μ0) (w := w) (B := B) hL hj h1 hn
  rw [h2] at S
  obtain ⟨vp, K, e, hv⟩ := q_judgeElement S (k_r1 hL hj) (c_rc hL) named t hd
  rw [c_RM hL] at e
  exact ⟨vp, K, e, hv⟩
theorem r_js1 (hW : Lay iw aw) (v : Int32) {G : Nat → Int32} : wrF (MJ cy iw aw μ1 I V A 0 (-1) G) (aw 0) 7 2 (.int v) = some (MJ cy iw aw μ1 (upd I 2 v) V A 0 (-1) G) := by
  rw [m_put hW rfl (by decide), upd_cm (show 4 ≠ 2 by decide), upd_cm (show 3 ≠ 2 by decide)]
theorem r_js2 (hW : Lay iw aw) {v fk fp : Int32} {G : Nat → Int32} : wrF (MJ cy iw aw μ1 (upd I 2 v) V A fk fp G) (aw 0) 7 2 (.int 0) = some (MR cy iw aw μ1 (upd (upd (upd I 2 0) 3 fk) 4 fp) V (updG A 20 G)) := by
  rw [m_put hW rfl (by decide), upd_cm (show 4 ≠ 2 by decide), upd_cm (show 3 ≠ 2 by decide), upd_upd]
/-- judged pieces: what success says -/
theorem jPc_0 {h : Nat → Int32} {n e : Nat} {named : Bool} {t : Int32} (hk : fkI (jEnd (jPc h n named t e) n) = 0) : isTy t ∧ ∃ q K1, jHd h n named = .inr (q, K1) ∧ q ≤ n ∧ vOk h e t q n := by
  have hF : okF (jPc h n named t e) := jPc_f
  obtain ⟨q, K, ej, hq⟩ := jEnd_0 hF hk
  unfold jPc at ej
  by_cases ht : isTy t
  · rw [if_pos ht] at ej
    obtain ⟨q1, K1, e1, e2⟩ := jThen_b ej
    have b1 := jHd_b e1
    have b2 := jVal_b (jDoc_b e) e2
    have : q = n := by omega
    subst this
    exact ⟨ht, q1, K1, e1, b1.1, vOk.of ⟨_, e2⟩⟩
  · rw [if_neg ht] at ej
    cases ej
/-- the tape as a source of bytes -/
theorem bs_tape (hW : Lay iw aw) {n N : Nat} {b : Nat → Nat} {X : Nat → Nat → Int32} (hB : bB b) (hn : n ≤ 2000) (hA : ∀ j, j < n → A 1 j = sx (b j)) : ∀ I2 V2 Fg, BS cy iw aw μ1 I2 V2 A N X Fg (aw 1) b n := fun I2 V2 Fg => by
  refine ⟨hB, by omega, fun s ob j hj => ?_⟩
  have := m_ld (cy := cy) (μ0 := μ1) (I := upd (upd I2 27 (nI s)) (60 + 1) (nI N)) (V := V2) (A := tA 60 (updG (updG A 26 (hs ob)) 20 Fg) X) (i := j) hW 1 rfl (by show j < 2000; omega)
  rw [tA_out (Or.inl (by decide)), updG_ne (by decide), updG_ne (by decide), hA j hj] at this
  exact this
theorem k_value (hL : Lay6 iv ad) (hW : Lay iw aw) (R0 : REL J B I A) (x t : Int32) : ANS cy iv ad μ0 iw aw μ1 ["java/lang/IndexOutOfBoundsException", "java/util/NoSuchElementException", "java/lang/IllegalArgumentException", "java/lang/UnsupportedOperationException"] (f_X6_value cy (ad 0) x t (MC cy iv ad μ0 J w B)) (f_X8_value_ cy (aw 0) x t (MR cy iw aw μ1 I V A)) := by
  unfold f_X6_value f_X8_value_ f_X8_value__L35
  obtain ⟨J1, B1, tn, tb, e1, R, g1, g2, g3, g4, i2, tA1⟩ := k_tape (cy := cy) (μ0 := μ0) (w := w) hL R0
  rw [if_pos (g_is hL), e1, Option.bind_some, if_pos (g_is hL), show rdI (MR cy iw aw μ1 I V A) (aw 0) 7 2 = some (I 2) from m_int hW rfl, Option.bind_some, m_put hW rfl (by decide), Option.bind_some, if_pos (r_is hW)]
  rcases sh4 x with ⟨s, hs4, rfl⟩ | hx
  · obtain ⟨bs, n, G, d, m, at', S, hat, Rs⟩ := R.2.2.1 s hs4
    have z := sS_s hs4
    have a := shf_sp z.1
    have C := S.2.2.2.2
    have hn := S.2.2.2.1
    have hlv := C.lvl
    have W := C.2.2.2.2.2.2.2.2.2.1
    have hm := C.2.2.2.2.2.2.2.2.1
    obtain ⟨r, hD⟩ := C.2.2.2.2.2.2.2.2.2.2
    have r9 := m_ld (cy := cy) (μ0 := μ1) (I := upd (upd I 2 0) 0 0) (V := V) (A := A) (i := s) hW 9 rfl hs4
    rw [Rs.2.2.2.2] at r9
    rw [g_shelf hL hs4, obX2_r, g_noEl hL hs4 S, r_shelf hW hs4, ob2_some, if_pos (show (0 : Int32) = 0 from rfl), m_ref hW rfl, Option.bind_some, show rdA cy (MR cy iw aw μ1 (upd (upd I 2 0) 0 0) V A) 1 (aw 9) (nI s) = _ from r9, Option.bind_some]
    rcases hat.i (by omega) with ⟨h1, h2⟩ | ⟨i, hi', h1, h2, h3⟩
    · rw [if_pos h1, obX_l, if_neg h2, if_pos (r_is hW), r_thr1 hW, ob2_some, if_neg (show ¬ (1 : Int32) = 0 by decide)]
      exact ans_th 2 (by decide) (by decide) rfl rfl rfl rfl R.i0.i0
    · obtain ⟨N, X, ν, hi, m2, c, I', oc, e2, tw, F, oc1, j28, j29, j31, j32, j33, jo⟩ := y_changes (cy := cy) (μ0 := μ1) (I := upd (upd I 2 0) 0 0) (V := V) hW hs4 Rs S.2.2.1 W
      have em := tw.m W hD
      subst em
      have wn := tw.wn
      obtain ⟨vp, K, e3, hvp⟩ := k_jEl (cy := cy) (μ0 := μ0) (w := w) (j := 22) (n := tn) (b := tb) hL rfl g1 g4 g2 false t (dep := d + 1) (by omega)
      have e3' : f_X2_judgeElement cy (ad 1) (ad 22) 0 t (nI (d + 1)) (MC cy iv ad μ0 J1 w B1) = _ := e3
      have MFF : MF iw aw (upd (upd I' (60 + 1) (nI N)) 2 (nI tn)) (tA 60 (updG A 30 oc) X) tn tb := ⟨hW, upd_self', fun j hj => by rw [tA_out (by omega), updG_ne (by decide)]; exact tA1 j hj, g3, g4⟩
      obtain ⟨G', e4⟩ := m_isValue0 (cy := cy) (μ0 := μ1) (V := updG V 60 (.ref (aw (50 + s)))) (G := tA 60 (updG A 30 oc) X 20) MFF (dep := d + 1) (by omega) t
      have dep := m_tld (cy := cy) (μ0 := μ1) (I := upd (upd (upd (upd I' (60 + 1) (nI N)) 2 (nI tn)) 3 0) 4 (-1)) (V := updG V 60 (.ref (aw (50 + s)))) (A := updG (tA 60 (updG A 30 oc) X) 20 (tA 60 (updG A 30 oc) X 20)) hW (Or.inl ⟨rfl, rfl⟩ : isT 21 60) 12 (by decide) (i := ν d) wn.1
      rw [updG_ne (show 60 + 12 ≠ 20 by decide), tA_in (by decide), wn.2.2.2.2.1] at dep
      rw [if_neg h2, obX_r, g_ref hL (k := 3) rfl, Option.bind_some, g_ref hL (k := 1) rfl, Option.bind_some, F_r1 hL z.1, Option.bind_some, if_pos (C_is hL a.2.1), C_depth hL a.2.1 C, ob2_some, if_pos (k_rdI hL), e3', Option.bind_some, g_ref hL (k := 3) rfl, Option.bind_some, k_rd hL 1 rfl, Option.bind_some, Option.bind_some, k_rd hL 2 rfl, Option.bind_some, if_pos (g_is hL), if_pos h3, if_pos (r_is hW), r_thr0, ob2_some, if_pos (show (0 : Int32) = 0 from rfl), if_pos (r_is hW), e2, ob2_some, if_pos (x_o F), m_judges hW, Option.bind_some, i2, r_js1 hW, Option.bind_some, m_ref hW rfl, Option.bind_some, m_tr hW (Or.inl ⟨rfl, rfl⟩ : isT 21 60) rfl, Option.bind_some, dep, Option.bind_some, if_pos (m_is hW), e4, ob2_some, r_js2 hW, Option.bind_some]
      have upF : ∀ (J0 : Nat → Int32) (a b c d : Int32) (K : Kt), upR J0 a b c d K 101 = c ∧ upR J0 a b c d K 102 = d := fun J0 a b c d K => ⟨rfl, rfl⟩
      rw [(upF _ _ _ _ _ _).1, (upF _ _ _ _ _ _).2]
      have emem : ∀ (fk fp : Int32), MR cy iw aw μ1 (upd (upd (upd (upd I' (60 + 1) (nI N)) 2 0) 3 fk) 4 fp) (updG V 60 (.ref (aw (50 + s)))) (updG (tA 60 (updG A 30 oc) X) 20 G') = MT cy iw aw μ1 (upd (upd (upd I' 2 0) 3 fk) 4 fp) (updG V 60 (.ref (aw (50 + s)))) (updG (updG A 30 oc) 20 G') 60 N X := fun fk fp => by
        rw [upd_cm (show 60 + 1 ≠ 2 by decide), upd_cm (show 60 + 1 ≠ 3 by decide), upd_cm (show 60 + 1 ≠ 4 by decide), tA_o (Or.inl (by decide))]
      rw [emem]
      have e24 : 24 - (d + 1) = 23 - d := by omega
      rw [e24] at *
      generalize hfk : fkI (jEnd (jPc (hb tb) tn false t (23 - d)) tn) = fk at *
      generalize hfp : fpI (jEnd (jPc (hb tb) tn false t (23 - d)) tn) = fp at *
      have R1 : REL J1 B1 I' (updG A 30 oc) := (R.i0 (x := 0)).fr (fun _ _ _ => rfl) (fun _ _ => rfl) (fun k k1 k2 => jo k (by omega) (by omega) (by omega) (by omega) (by omega)) (fun j hj => by unfold rlv at hj; exact updG_ne (by omega))
      have RF : REL (upd (upd (upR J1 vp (-1) fk fp K) 7 fk) 8 fp) B1 (upd (upd (upd I' 2 0) 3 fk) 4 fp) (updG (updG A 30 oc) 20 G') := (R1.ft (fk := fk) (fp := fp) (J' := upR J1 vp (-1) fk fp K) (G := G') (fun k hk => upR_ne (by omega))).fr (fun _ _ _ => rfl) (fun _ _ => rfl) (fun k k1 k2 => by
        by_cases c4 : k = 4
        · subst c4; rfl
        · rw [upd_ne' c4, upd_ne' c4]
          by_cases c3 : k = 3
          · subst c3; rfl
          · rw [upd_ne' c3, upd_ne' c3]
            by_cases c2 : k = 2
            · subst c2
              rw [upd_self', jo 2 (by decide) (by decide) (by decide) (by decide) (by decide)]
              rfl
            · rw [upd_ne' c2]) (fun _ _ => rfl)
      have j0 : I' 0 = 0 := by rw [jo 0 (by decide) (by decide) (by decide) (by decide) (by decide)]; rfl
      unfold f_X8_value__L94
      by_cases c0 : fk = 0
      · obtain ⟨ht, q, K1, ehd, hq, hvo⟩ := jPc_0 (h := hb tb) (n := tn) (e := 23 - d) (named := false) (t := t) (by rw [hfk]; exact c0)
        have hq0 : q = 0 := by
          have : (Sum.inr (0, K0) : JR) = .inr (q, K1) := ehd
          cases this
          rfl
        subst hq0
        have ok := okI_0 (f := jEnd (jPc (hb tb) tn false t (23 - d)) tn) (by rw [hfk]; exact c0) (jEnd_F jPc_f)
        have S2 : SH (upd (upd (upR J1 vp (-1) fk fp K) 7 fk) 8 fp) B1 (90 + s) bs n G d m2 at' := S.fr (fun k hk => by rw [upd_ne' (by omega), upd_ne' (by omega), upR_ne (by omega)]) (fun _ _ => rfl)
        have Rs2 : RSh (updG (updG A 30 oc) 20 G') s bs n G d at' := Rs.fr (by rw [updG_ne (by omega), updG_ne (by omega)]) (by rw [updG_ne (by decide), updG_ne (by decide)]) (by rw [updG_ne (by omega), updG_ne (by omega)]) (by rw [updG_ne (by decide), updG_ne (by decide)]) (by rw [updG_ne (by decide), updG_ne (by decide)])
        have F2 : TX iw aw (updG V 60 (.ref (aw (50 + s)))) (updG (updG A 30 oc) 20 G') 21 60 (50 + s) bs n := F.a (by omega)
        have ed := v_ed (cy := cy) (μ0 := μ0) (w := ad 22) (μ1 := μ1) (kv := 22) (nv := tn) (vs := 0) (ve := tn) (bv' := tb) (a := aw 1) (vf := 0) (vl := tn) (L := tn) (vb := tb) hL hW RF hs4 S2 Rs2 W hi' h1 ⟨rfl, by decide, by rw [upd_ne' (by decide), upd_ne' (by decide), upR_ne (by decide)]; exact g1, g2, g3, g4⟩ ⟨Nat.zero_le _, Nat.le_refl _⟩ ht (ty8 ht) hvo F2 tw (by rw [upd_ne' (by decide), upd_ne' (by decide), upd_ne' (by decide)]; exact j28) (by rw [upd_ne' (by decide), upd_ne' (by decide), upd_ne' (by decide)]; exact j31) (by rw [upd_ne' (by decide), upd_ne' (by decide), upd_ne' (by decide)]; exact j33) (fun x hx => by rw [updG_ne (by decide), updG_self]; exact oc1 x hx) (bs_tape hW g3 g4 (fun j hj => by rw [updG_ne (by decide), updG_ne (by decide)]; exact tA1 j hj)) (by omega) (by rw [Nat.zero_add])
        have i30 := x_al (cy := cy) (μ0 := μ1) (I := upd (upd (upd I' 2 0) 3 fk) 4 fp) (N := N) (X := X) (i := i) F2 30 rfl (by decide) (by show i < 1301; omega)
        rw [updG_ne (show 30 ≠ 20 by decide), updG_self, oc1 i hi'] at i30
        have sz22 : (upd (upd (upR J1 vp (-1) fk fp K) 7 fk) 8 fp) (100 * 22 + 1) = nI tn := by rw [upd_ne' (by decide), upd_ne' (by decide), upR_ne (by decide)]; exact g1
        rw [g_fault hL, if_pos c0, obX_r, g_ref hL (k := 1) rfl, Option.bind_some, Option.bind_some, P_size (j := 22) (n := tn) hL rfl sz22, Option.bind_some, if_pos (F_is hL z.1), ok.1, if_neg (show ¬ (1 : Int32) = 0 by decide), if_pos (x_o F2), r_thr0, ob2_some, if_pos (show (0 : Int32) = 0 from rfl), x_ref F2 (k := 30) rfl, Option.bind_some, x_ref F2 (k := 9) rfl, Option.bind_some, x_at F2 hs4 Rs2, Option.bind_some, h1, show rdA cy (MT cy iw aw μ1 (upd (upd (upd I' 2 0) 3 fk) 4 fp) (updG V 60 (.ref (aw (50 + s)))) (updG (updG A 30 oc) 20 G') 60 N X) 1 (aw 30) (nI i) = _ from i30, Option.bind_some, x_put F2 29 rfl (by decide), Option.bind_some, x_ref F2 (k := 1) rfl, Option.bind_some, if_pos (x_o F2), y_valueIs F2, Option.bind_some]
        have F36 : TX iw aw (updG (updG V 60 (.ref (aw (50 + s)))) 36 (.ref (aw 1))) (updG (updG A 30 oc) 20 G') 21 60 (50 + s) bs n := ⟨F2.1, F2.2.1, by rw [updG_ne (by decide)]; exact F2.2.2.1, F2.2.2.2⟩
        rw [if_pos (x_o F36)]
        unfold f_X8_value__L143
        rcases ed with ⟨J', B', I2, V2, A2, f1, f2, f3, f4⟩ | ⟨J', B', I2, V2, A2, n', f1, f2, f3, f4, f5⟩
        · have f1' : ((f_X4_draftValue cy (ad (90 + s)) t (ad 22) 0 (nI tn) (MC cy iv ad μ0 (upd (upd (upR J1 vp (-1) fk fp K) 7 fk) 8 fp) (ad 22) B1)).bind fun μ48 => (rdR μ48 (ad (90 + s)) 3 1).bind fun q49 => (rdI μ48 q49 0 5).bind fun v51 => if isO μ48 (ad 0) 5 = true then (obX2 (f_X6_finishChange cy (ad 0) (nI s) v51 μ48) fun r58 μ55 => some (.inr (r58, μ55))) else none) = _ := f1
          have f2' : f_X8_lays cy (aw 0) (nI s) (MT cy iw aw μ1 (upd (upd (upd (upd (upd (upd (upd (upd I' 2 0) 3 fk) 4 fp) 29 (nI (c i))) 32 1) 34 t) 39 0) 40 (nI tn)) (updG (updG V 60 (.ref (aw (50 + s)))) 36 (.ref (aw 1))) (updG (updG A 30 oc) 20 G') 60 N X) = _ := f2
          rw [f1', f2', ob2_some, if_pos (show (0 : Int32) = 0 from rfl), if_pos (r_is hW), r_thr1 hW, ob2_some, if_neg (show ¬ (1 : Int32) = 0 by decide)]
          exact ans_th 4 (by decide) (by decide) rfl rfl rfl rfl f3.i0
        · have f1' : ((f_X4_draftValue cy (ad (90 + s)) t (ad 22) 0 (nI tn) (MC cy iv ad μ0 (upd (upd (upR J1 vp (-1) fk fp K) 7 fk) 8 fp) (ad 22) B1)).bind fun μ48 => (rdR μ48 (ad (90 + s)) 3 1).bind fun q49 => (rdI μ48 q49 0 5).bind fun v51 => if isO μ48 (ad 0) 5 = true then (obX2 (f_X6_finishChange cy (ad 0) (nI s) v51 μ48) fun r58 μ55 => some (.inr (r58, μ55))) else none) = _ := f1
          have f2' : f_X8_lays cy (aw 0) (nI s) (MT cy iw aw μ1 (upd (upd (upd (upd (upd (upd (upd (upd I' 2 0) 3 fk) 4 fp) 29 (nI (c i))) 32 1) 34 t) 39 0) 40 (nI tn)) (updG (updG V 60 (.ref (aw (50 + s)))) 36 (.ref (aw 1))) (updG (updG A 30 oc) 20 G') 60 N X) = _ := f2
          have r6 := m_ld (cy := cy) (μ0 := μ1) (I := I2) (V := V2) (A := A2) (i := s) hW 6 rfl hs4
          rw [f3] at r6
          rw [f1', f2', ob2_some, if_neg (show ¬ (1 : Int32) = 0 by decide), if_pos (r_is hW), r_thr0, ob2_some, if_pos (show (0 : Int32) = 0 from rfl), m_ref hW rfl, Option.bind_some, show rdA cy (MR cy iw aw μ1 I2 V2 A2) 1 (aw 6) (nI s) = _ from r6, Option.bind_some]
          exact ans_ok rfl rfl (by rw [f5]; exact j0) f4
      · have ok := okI_1 (f := jEnd (jPc (hb tb) tn false t (23 - d)) tn) (by rw [hfk]; exact c0)
        have F2 : TX iw aw (updG V 60 (.ref (aw (50 + s)))) (updG (updG A 30 oc) 20 G') 21 60 (50 + s) bs n := F.a (by omega)
        rw [g_fault hL, if_neg c0, obX_l, ok, if_pos (show (0 : Int32) = 0 from rfl), if_pos (x_o F2), r_thr1 hW, ob2_some, if_neg (show ¬ (1 : Int32) = 0 by decide)]
        exact ans_th 3 (by decide) (by decide) rfl rfl rfl rfl (RF.t (by decide)).i0
  · rw [g_noShelf hx, obX2_l, r_noShelf hW hx, ob2_some, if_neg (show ¬ (1 : Int32) = 0 by decide)]
    exact ans_th 1 (by decide) (by decide) rfl rfl rfl rfl R.i0
end KV2
