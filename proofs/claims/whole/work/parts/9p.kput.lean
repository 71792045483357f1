/-! THE CALLS: put. -/
theorem nI_m {k : Nat} : nI (k + 1) + -1 = nI k := by
  rw [← Int32.sub_eq_add_neg]
  exact nI_pr
section KP2
variable {cy : Nat → ClassId} {iv : Nat → Option Nat} {ad : Nat → Nat} {μ0 : Mem} {J : Nat → Int32} {w : Nat} {B : Nat → Nat → Int32} {iw : Nat → Option Nat} {aw : Nat → Nat} {μ1 : Mem} {I : Nat → Int32} {V : Nat → Value} {A : Nat → Nat → Int32} {s : Nat}
theorem r_js3 (hW : Lay iw aw) {v fk fp pf : Int32} {G : Nat → Int32} : wrF (MJ cy iw aw μ1 (upd (upd I 2 v) 42 pf) V A fk fp G) (aw 0) 7 2 (.int 0) = some (MR cy iw aw μ1 (upd (upd (upd (upd I 2 0) 42 pf) 3 fk) 4 fp) V (updG A 20 G)) := by
  rw [m_put hW rfl (by decide), upd_cm (show 4 ≠ 2 by decide), upd_cm (show 3 ≠ 2 by decide), upd_cm (show 42 ≠ 2 by decide), upd_upd]
theorem y_132 {n N : Nat} {bs c : Nat → Nat} {X : Nat → Nat → Int32} (F : TX iw aw V A 21 60 (50 + s) bs n) {t v1 : Int32} {i m : Nat} (hi : i ≤ m) (hm : m < 1300) : ∀ (j k f : Nat) (oc : Nat → Int32), i + j = k → k ≤ m → j < f → (∀ x, x < k → oc x = nI (c x)) → (∀ x, k < x → x ≤ m → oc x = nI (c (x - 1))) → ∃ oc', f_X8_put_L132 cy f (aw 0) (nI s) (nI i) t v1 (nI k) (MT cy iw aw μ1 I V (updG A 30 oc) 60 N X) = f_X8_put_L132 cy 1 (aw 0) (nI s) (nI i) t v1 (nI i) (MT cy iw aw μ1 I V (updG A 30 oc') 60 N X) ∧ (∀ x, x < i → oc' x = nI (c x)) ∧ (∀ x, i < x → x ≤ m → oc' x = nI (c (x - 1)))
  | j, k, 0, oc, _, _, hf, _, _ => by omega
  | 0, k, f + 1, oc, hk, _, _, h1, h2 => by
    have : k = i := by omega
    subst this
    refine ⟨oc, ?_, h1, h2⟩
    rw [f_X8_put_L132, f_X8_put_L132, if_pos (nI_le (Nat.le_refl _) (by omega)), if_pos (nI_le (Nat.le_refl _) (by omega))]
  | j + 1, k, f + 1, oc, hk, hkm, hf, h1, h2 => by
    have t1 := F.tt
    have F' := F.a (j := 30) (f := oc) (by omega)
    obtain ⟨k', rfl⟩ : ∃ k', k = k' + 1 := ⟨k - 1, by omega⟩
    obtain ⟨oc', e1, e2, e3⟩ := y_132 F hi hm j k' f (upd oc (k' + 1) (nI (c k'))) (by omega) (by omega) (by omega) (fun x hx => by rw [upd_ne' (by omega)]; exact h1 x (by omega)) (fun x x1 x2 => by
      by_cases q : x = k' + 1
      · subst q; exact upd_self'
      · rw [upd_ne' q]; exact h2 x (by omega) x2)
    refine ⟨oc', ?_, e2, e3⟩
    have rd := x_al (cy := cy) (μ0 := μ1) (I := I) (N := N) (X := X) (i := k') F' 30 rfl (by decide) (by show k' < 1301; omega)
    rw [updG_self, h1 k' (by omega)] at rd
    have st := x_as (cy := cy) (μ0 := μ1) (I := I) (N := N) (X := X) (i := k' + 1) F' 30 rfl (by decide) (by show k' + 1 < 1301; omega) (nI (c k'))
    rw [updG_self, updG_updG] at st
    conv => lhs; rw [f_X8_put_L132, if_neg (nI_ge (by omega) (by omega)), x_ref F' (k := 30) rfl, Option.bind_some, Option.bind_some, nI_pr, show rdA cy (MT cy iw aw μ1 I V (updG A 30 oc) 60 N X) 1 (aw 30) (nI k') = _ from rd, Option.bind_some, show wrA cy (MT cy iw aw μ1 I V (updG A 30 oc) 60 N X) 1 (aw 30) (nI (k' + 1)) (nI (c k')) = _ from st, Option.bind_some, nI_m]
    exact e1
theorem k_put (hL : Lay6 iv ad) (hW : Lay iw aw) (R0 : REL J B I A) (x y t : Int32) : ANS cy iv ad μ0 iw aw μ1 ["java/lang/IndexOutOfBoundsException", "java/util/NoSuchElementException", "java/lang/IllegalArgumentException", "java/lang/UnsupportedOperationException"] (f_X6_put cy (ad 0) x y t (MC cy iv ad μ0 J w B)) (f_X8_put cy (aw 0) x y t (MR cy iw aw μ1 I V A)) := by
  unfold f_X6_put f_X8_put f_X6_put_L31 f_X8_put_L41 f_X8_put_L46
  obtain ⟨J1, B1, tn, tb, e1, R, g1, g2, g3, g4, i2, tA1⟩ := k_tape (cy := cy) (μ0 := μ0) (w := w) hL R0
  rw [if_pos (g_is hL), e1, Option.bind_some, if_pos (g_is hL), show rdI (MR cy iw aw μ1 I V A) (aw 0) 7 2 = some (I 2) from m_int hW rfl, Option.bind_some, m_put hW rfl (by decide), Option.bind_some, if_pos (r_is hW)]
  rcases sh4 x with ⟨s, hs4, rfl⟩ | hx
  · obtain ⟨bs, n, G, d, m, at', S, hat, Rs⟩ := R.2.2.1 s hs4
    have z := sS_s hs4
    have a := shf_sp z.1
    have C := S.2.2.2.2
    have hn := S.2.2.2.1
    have hlv := C.lvl
    have W := C.2.2.2.2.2.2.2.2.2.1
    have hm := C.2.2.2.2.2.2.2.2.1
    obtain ⟨r, hD⟩ := C.2.2.2.2.2.2.2.2.2.2
    obtain ⟨N, X, ν, hi, m2, c, I', oc, e2, tw, F, oc1, j28, j29, j31, j32, j33, jo⟩ := y_changes (cy := cy) (μ0 := μ1) (I := upd (upd I 2 0) 0 0) (V := V) hW hs4 Rs S.2.2.1 W
    have em := tw.m W hD
    subst em
    have wn := tw.wn
    have R1 : REL J1 B1 I' (updG A 30 oc) := (R.i0 (x := 0)).fr (fun _ _ _ => rfl) (fun _ _ => rfl) (fun k k1 k2 => jo k (by omega) (by omega) (by omega) (by omega) (by omega)) (fun j hj => by unfold rlv at hj; exact updG_ne (by omega))
    have j0 : I' 0 = 0 := by rw [jo 0 (by decide) (by decide) (by decide) (by decide) (by decide)]; rfl
    have i31 : rdI (MT cy iw aw μ1 I' (updG V 60 (.ref (aw (50 + s)))) (updG A 30 oc) 60 N X) (aw 0) 7 31 = some (nI m2) := by rw [← j31]; exact m_int hW rfl
    rw [g_shelf hL hs4, obX2_r, F_r1 hL z.1, Option.bind_some, r_shelf hW hs4, ob2_some, if_pos (show (0 : Int32) = 0 from rfl), if_pos (r_is hW), e2, ob2_some]
    have no : ANS cy iv ad μ0 iw aw μ1 ["java/lang/IndexOutOfBoundsException", "java/util/NoSuchElementException", "java/lang/IllegalArgumentException", "java/lang/UnsupportedOperationException"] (some (.inl ("java/util/NoSuchElementException", MC cy iv ad μ0 J1 w B1))) (some (0, MR cy iw aw μ1 (upd (upd I' (60 + 1) (nI N)) 0 2) (updG V 60 (.ref (aw (50 + s)))) (tA 60 (updG A 30 oc) X))) := ans_th 2 (by decide) (by decide) rfl rfl rfl rfl (R1.t (by decide)).i0
    by_cases c1 : y < 0
    · rw [if_pos c1, if_pos c1, if_pos (x_o F), r_thr1 hW, ob2_some, if_neg (show ¬ (1 : Int32) = 0 by decide)]
      exact no
    · rw [if_neg c1, if_neg c1, C_cnt hL a.2.1, Option.bind_some, C.2.2.1, i31, Option.bind_some]
      by_cases c2 : nI (m2 + 1) ≤ y
      · have c3 : ¬ y ≤ nI m2 := fun q => by
          have q1 : y.toInt ≤ (nI m2).toInt := Int32.le_iff_toInt_le.mp q
          have q2 : (nI (m2 + 1)).toInt ≤ y.toInt := Int32.le_iff_toInt_le.mp c2
          rw [nI_toInt (by omega)] at q1 q2
          omega
        rw [if_neg c3, if_neg c3, if_pos (x_o F), r_thr1 hW, ob2_some, if_neg (show ¬ (1 : Int32) = 0 by decide)]
        exact no
      · obtain ⟨i, hi', rfl⟩ := nI_ex c1 c2 (by omega)
        obtain ⟨vp, K, e3, hvp⟩ := k_jEl (cy := cy) (μ0 := μ0) (w := w) (j := 22) (n := tn) (b := tb) hL rfl g1 g4 g2 (!(wT (hb bs) n G d == 4)) t (dep := d + 1) (by omega)
        have MFF : MF iw aw (upd (upd I' (60 + 1) (nI N)) 2 (nI tn)) (tA 60 (updG A 30 oc) X) tn tb := ⟨hW, upd_self', fun j hj => by rw [tA_out (by omega), updG_ne (by decide)]; exact tA1 j hj, g3, g4⟩
        obtain ⟨pfI, G', e4, hpfI⟩ := m_isPiece (cy := cy) (μ0 := μ1) (V := updG V 60 (.ref (aw (50 + s)))) (G := tA 60 (updG A 30 oc) X 20) MFF (dep := d + 1) (by omega) t (wT (hb bs) n G d == 4)
        have tr := fun k (hk : 2 ≤ k ∧ k ≤ 12) => m_tld (cy := cy) (μ0 := μ1) (I := upd (upd (upd (upd I' (60 + 1) (nI N)) 2 (nI tn)) 3 0) 4 (-1)) (V := updG V 60 (.ref (aw (50 + s)))) (A := updG (tA 60 (updG A 30 oc) X) 20 (tA 60 (updG A 30 oc) X 20)) hW (Or.inl ⟨rfl, rfl⟩ : isT 21 60) k hk (i := ν d) wn.1
        have t12 := tr 12 (by decide)
        have t2 := tr 2 (by decide)
        rw [updG_ne (show 60 + 12 ≠ 20 by decide), tA_in (by decide), wn.2.2.2.2.1] at t12
        rw [updG_ne (show 60 + 2 ≠ 20 by decide), tA_in (by decide), wn.2.2.1] at t2
        have e24 : 24 - (d + 1) = 23 - d := by omega
        rw [e24] at e3 e4
        have hfk : ∃ fk, fk = fkI (jEnd (jPc (hb tb) tn (!(wT (hb bs) n G d == 4)) t (23 - d)) tn) := ⟨_, rfl⟩
        obtain ⟨fk, hfk⟩ := hfk
        have hfp : ∃ fp, fp = fpI (jEnd (jPc (hb tb) tn (!(wT (hb bs) n G d == 4)) t (23 - d)) tn) := ⟨_, rfl⟩
        obtain ⟨fp, hfp⟩ := hfp
        rw [← hfk, ← hfp] at e3 e4
        have cls : (if (bI (wT (hb bs) n G d == 4)) = 0 then f_X6_put_L62 cy (ad 0) (nI s) (nI i) t (ad (90 + s)) (ad (sC (90 + s))) (ad 1) (ad 22) 1 (MC cy iv ad μ0 J1 w B1) else f_X6_put_L62 cy (ad 0) (nI s) (nI i) t (ad (90 + s)) (ad (sC (90 + s))) (ad 1) (ad 22) 0 (MC cy iv ad μ0 J1 w B1)) = f_X6_put_L62 cy (ad 0) (nI s) (nI i) t (ad (90 + s)) (ad (sC (90 + s))) (ad 1) (ad 22) (bI (!(wT (hb bs) n G d == 4))) (MC cy iv ad μ0 J1 w B1) := by
          cases (wT (hb bs) n G d == 4) with
          | true => rw [if_neg (show ¬ bI true = 0 by decide)]; rfl
          | false => rw [if_pos (show bI false = 0 from rfl)]; rfl
        have emem : ∀ (pf : Int32), MR cy iw aw μ1 (upd (upd (upd (upd (upd I' (60 + 1) (nI N)) 2 0) 42 pf) 3 fk) 4 fp) (updG V 60 (.ref (aw (50 + s)))) (updG (tA 60 (updG A 30 oc) X) 20 G') = MT cy iw aw μ1 (upd (upd (upd (upd I' 2 0) 42 pf) 3 fk) 4 fp) (updG V 60 (.ref (aw (50 + s)))) (updG (updG A 30 oc) 20 G') 60 N X := fun pf => by
          rw [upd_cm (show 60 + 1 ≠ 2 by decide), upd_cm (show 60 + 1 ≠ 42 by decide), upd_cm (show 60 + 1 ≠ 3 by decide), upd_cm (show 60 + 1 ≠ 4 by decide), tA_o (Or.inl (by decide))]
        have ref86 : ∀ q, (q = bI (wT (hb bs) n G d == 4)) → f_X8_put_L86 cy (aw 0) (nI s) (nI i) t (nI tn) (nI (ν d)) (aw 0) t q (MJ cy iw aw μ1 (upd (upd I' (60 + 1) (nI N)) 2 (nI tn)) (updG V 60 (.ref (aw (50 + s)))) (tA 60 (updG A 30 oc) X) 0 (-1) (tA 60 (updG A 30 oc) X 20)) = (if okI (jEnd (jPc (hb tb) tn (!(wT (hb bs) n G d == 4)) t (23 - d)) tn) = 0 then f_X8_put_L117 cy (aw 0) (nI s) (nI i) t (nI tn) (aw 0) 1 (MT cy iw aw μ1 (upd (upd (upd (upd I' 2 0) 42 pfI) 3 fk) 4 fp) (updG V 60 (.ref (aw (50 + s)))) (updG (updG A 30 oc) 20 G') 60 N X) else f_X8_put_L117 cy (aw 0) (nI s) (nI i) t (nI tn) (aw 0) 0 (MT cy iw aw μ1 (upd (upd (upd (upd I' 2 0) 42 pfI) 3 fk) 4 fp) (updG V 60 (.ref (aw (50 + s)))) (updG (updG A 30 oc) 20 G') 60 N X)) := fun q hq => by
          subst hq
          unfold f_X8_put_L86
          rw [m_ref hW rfl, Option.bind_some, m_tr hW (Or.inl ⟨rfl, rfl⟩ : isT 21 60) rfl, Option.bind_some, t12, Option.bind_some, if_pos (m_is hW), e4, ob2_some, r_js3 hW, Option.bind_some, emem]
        have upF : ∀ (J0 : Nat → Int32) (a b c d : Int32) (K : Kt), upR J0 a b c d K 101 = c ∧ upR J0 a b c d K 102 = d ∧ upR J0 a b c d K 103 = a := fun J0 a b c d K => ⟨rfl, rfl, rfl⟩
        have RF : REL (upd (upd (upR J1 vp (-1) fk fp K) 7 fk) 8 fp) B1 (upd (upd (upd (upd I' 2 0) 42 pfI) 3 fk) 4 fp) (updG (updG A 30 oc) 20 G') := (R1.ft (fk := fk) (fp := fp) (J' := upR J1 vp (-1) fk fp K) (G := G') (fun k hk => upR_ne (by omega))).fr (fun _ _ _ => rfl) (fun _ _ => rfl) (fun k k1 k2 => by
          by_cases c4 : k = 4
          · subst c4; rfl
          · rw [upd_ne' c4, upd_ne' c4]
            by_cases c3 : k = 3
            · subst c3; rfl
            · rw [upd_ne' c3, upd_ne' c3, upd_ne' (by omega)]
              by_cases c2 : k = 2
              · subst c2
                rw [upd_self', jo 2 (by decide) (by decide) (by decide) (by decide) (by decide)]
                rfl
              · rw [upd_ne' c2]) (fun _ _ => rfl)
        have F2 : TX iw aw (updG V 60 (.ref (aw (50 + s)))) (updG (updG A 30 oc) 20 G') 21 60 (50 + s) bs n := F.a (by omega)
        rw [if_pos (nI_le (by omega) (by omega)), if_pos (nI_le (by omega) (by omega)), g_ref hL (k := 3) rfl, Option.bind_some, g_ref hL (k := 1) rfl, Option.bind_some, if_pos (C_is hL a.2.1), C_inRow hL a.2.1 C, ob2_some, cls, if_pos (x_o F), r_thr0, ob2_some, if_pos (show (0 : Int32) = 0 from rfl), if_pos (x_o F), m_judges hW, Option.bind_some, i2, r_js1 hW, Option.bind_some, m_ref hW rfl, Option.bind_some, m_tr hW (Or.inl ⟨rfl, rfl⟩ : isT 21 60) rfl, Option.bind_some, t2, Option.bind_some]
        have ref0 : (if wT (hb bs) n G d = 4 then f_X8_put_L86 cy (aw 0) (nI s) (nI i) t (nI tn) (nI (ν d)) (aw 0) t 1 (MJ cy iw aw μ1 (upd (upd I' (60 + 1) (nI N)) 2 (nI tn)) (updG V 60 (.ref (aw (50 + s)))) (tA 60 (updG A 30 oc) X) 0 (-1) (tA 60 (updG A 30 oc) X 20)) else f_X8_put_L86 cy (aw 0) (nI s) (nI i) t (nI tn) (nI (ν d)) (aw 0) t 0 (MJ cy iw aw μ1 (upd (upd I' (60 + 1) (nI N)) 2 (nI tn)) (updG V 60 (.ref (aw (50 + s)))) (tA 60 (updG A 30 oc) X) 0 (-1) (tA 60 (updG A 30 oc) X 20))) = f_X8_put_L86 cy (aw 0) (nI s) (nI i) t (nI tn) (nI (ν d)) (aw 0) t (bI (wT (hb bs) n G d == 4)) (MJ cy iw aw μ1 (upd (upd I' (60 + 1) (nI N)) 2 (nI tn)) (updG V 60 (.ref (aw (50 + s)))) (tA 60 (updG A 30 oc) X) 0 (-1) (tA 60 (updG A 30 oc) X 20)) := by
          by_cases q4 : wT (hb bs) n G d = 4
          · rw [if_pos q4, q4]; rfl
          · rw [if_neg q4]
            have : (wT (hb bs) n G d == 4) = false := by simp [q4]
            rw [this]
            rfl
        rw [ref0, ref86 _ rfl]
        unfold f_X6_put_L62
        rw [if_pos (C_is hL a.2.1), C_depth hL a.2.1 C, ob2_some, if_pos (k_rdI hL), e3, Option.bind_some, g_ref hL (k := 3) rfl, Option.bind_some, k_rd hL 1 rfl, Option.bind_some, Option.bind_some, k_rd hL 2 rfl, Option.bind_some, if_pos (g_is hL), (upF _ _ _ _ _ _).1, (upF _ _ _ _ _ _).2.1]
        unfold f_X8_put_L117
        by_cases c0 : fk = 0
        · obtain ⟨ht, q, K1, ehd, hq, hvo⟩ := jPc_0 (h := hb tb) (n := tn) (e := 23 - d) (named := !(wT (hb bs) n G d == 4)) (t := t) (by rw [← hfk]; exact c0)
          have ok := okI_0 (f := jEnd (jPc (hb tb) tn (!(wT (hb bs) n G d == 4)) t (23 - d)) tn) (by rw [← hfk]; exact c0) (jEnd_F jPc_f)
          have pq : pfI = nI q := hpfI q K1 ehd ht
          have vq : vp = nI q := hvp q K1 ehd ht
          subst pq
          subst vq
          have hnm : (wT (hb bs) n G d == 4) = false → 1 ≤ q ∧ nmZ (hb tb) 0 (q - 1) none := fun h => by
            rw [h] at ehd
            have ehd : jN (hb tb) K0 0 tn = .inr (q, K1) := ehd
            have g := jNm_s (rw := none) (h := hb tb) ehd
            exact ⟨by omega, g.1⟩
          have hne : (wT (hb bs) n G d == 4) = false → bn (hb tb) tn 0 = q := fun h => by
            obtain ⟨p1, p2⟩ := hnm h
            rw [bn_of (z := q - 1) p2.2.1 p2.1 (by omega) p2.2.2.1]
            omega
          have S2 : SH (upd (upd (upR J1 (nI q) (-1) fk fp K) 7 fk) 8 fp) B1 (90 + s) bs n G d m2 at' := S.fr (fun k hk => by rw [upd_ne' (by omega), upd_ne' (by omega), upR_ne (by omega)]) (fun _ _ => rfl)
          obtain ⟨μ', DG', tail⟩ := F_put (cy := cy) (μ0 := μ0) (w := ad 22) (t := t) (i := i) (tn := tn) (pf := q) (tb := tb) (x := 0) hL hs4 S2 RF.2.2.2.2.2.2.1 (by omega) (by rw [upd_ne' (by decide), upd_ne' (by decide), upR_ne (by decide)]; exact g1) g2 g3 g4 (by rw [upd_ne' (by decide), upd_ne' (by decide)]; exact (upF _ _ _ _ _ _).2.2) hne hq
          obtain ⟨oc', l1, l2, l3⟩ := y_132 (cy := cy) (μ1 := μ1) (I := upd (upd (upd (upd I' 2 0) 42 (nI q)) 3 fk) 4 fp) (N := N) (X := X) (t := t) (v1 := nI tn) (c := c) F2 (show i ≤ m2 by omega) (by omega) (m2 - i) m2 FU oc (by omega) (Nat.le_refl _) (by show m2 - i < 100000; omega) oc1 (fun x x1 x2 => by omega)
          have e30 : updG (updG (updG A 30 oc) 20 G') 30 oc = updG (updG A 30 oc) 20 G' := by rw [updG_cm (show 20 ≠ 30 by decide), updG_updG]
          rw [e30] at l1
          have F3 := fun f => F2.a (j := 30) (f := f) (by omega)
          have F5 : ∀ (f : Nat → Int32), TX iw aw (updG (updG V 60 (.ref (aw (50 + s)))) 35 (.ref (aw 1))) (updG (updG (updG A 30 oc) 20 G') 30 f) 21 60 (50 + s) bs n := fun f => ⟨F2.1, F2.2.1, by rw [updG_ne (by decide)]; exact F2.2.2.1, (F3 f).2.2.2⟩
          have F6 : ∀ (f : Nat → Int32), TX iw aw (updG (updG (updG V 60 (.ref (aw (50 + s)))) 35 (.ref (aw 1))) 36 (.ref (aw 1))) (updG (updG (updG A 30 oc) 20 G') 30 f) 21 60 (50 + s) bs n := fun f => ⟨F2.1, F2.2.1, by rw [updG_ne (by decide), updG_ne (by decide)]; exact F2.2.2.1, (F3 f).2.2.2⟩
          have st := x_as (cy := cy) (μ0 := μ1) (I := upd (upd (upd (upd I' 2 0) 42 (nI q)) 3 fk) 4 fp) (N := N) (X := X) (i := i) (F3 oc') 30 rfl (by decide) (by show i < 1301; omega) (-1)
          rw [updG_self, updG_updG] at st
          have v31 : ∀ f, rdI (MT cy iw aw μ1 (upd (upd (upd (upd I' 2 0) 42 (nI q)) 3 fk) 4 fp) (updG V 60 (.ref (aw (50 + s)))) (updG (updG (updG A 30 oc) 20 G') 30 f) 60 N X) (aw 0) 7 31 = some (nI m2) := fun f => by rw [← j31]; exact m_int hW rfl
          have v31' : rdI (MT cy iw aw μ1 (upd (upd (upd (upd I' 2 0) 42 (nI q)) 3 fk) 4 fp) (updG V 60 (.ref (aw (50 + s)))) (updG (updG A 30 oc) 20 G') 60 N X) (aw 0) 7 31 = some (nI m2) := by rw [← j31]; exact m_int hW rfl
          have v42 : rdI (MT cy iw aw μ1 (upd (upd (upd (upd (upd I' 2 0) 42 (nI q)) 3 fk) 4 fp) 31 (nI (m2 + 1))) (updG V 60 (.ref (aw (50 + s)))) (updG (updG (updG A 30 oc) 20 G') 30 (upd oc' i (-1))) 60 N X) (aw 0) 7 42 = some (nI q) := m_int hW rfl
          have v42' : ∀ x, rdI (MT cy iw aw μ1 (upd (upd (upd (upd (upd (upd (upd (upd I' 2 0) 42 (nI q)) 3 fk) 4 fp) 31 (nI (m2 + 1))) 33 1) 37 0) 38 x) (updG (updG V 60 (.ref (aw (50 + s)))) 35 (.ref (aw 1))) (updG (updG (updG A 30 oc) 20 G') 30 (upd oc' i (-1))) 60 N X) (aw 0) 7 42 = some (nI q) := fun x => m_int hW rfl
          have Rs3 : RSh (updG (updG (updG A 30 oc) 20 G') 30 (upd oc' i (-1))) s bs n G d at' := Rs.fr (by rw [updG_ne (by omega), updG_ne (by omega), updG_ne (by omega)]) (by rw [updG_ne (by decide), updG_ne (by decide), updG_ne (by decide)]) (by rw [updG_ne (by omega), updG_ne (by omega), updG_ne (by omega)]) (by rw [updG_ne (by decide), updG_ne (by decide), updG_ne (by decide)]) (by rw [updG_ne (by decide), updG_ne (by decide), updG_ne (by decide)])
          have ed := p_ed (cy := cy) (μ0 := μ0) (w := ad 22) (μ1 := μ1) (I := upd (upd (upd (upd (upd (upd (upd (upd (upd (upd (upd (upd I' 2 0) 42 (nI q)) 3 fk) 4 fp) 31 (nI (m2 + 1))) 33 1) 37 0) 38 (nI q - 1)) 32 1) 34 t) 39 (nI q)) 40 (nI (tn - q))) (V := updG (updG (updG V 60 (.ref (aw (50 + s)))) 35 (.ref (aw 1))) 36 (.ref (aw 1))) (A := updG (updG (updG A 30 oc) 20 G') 30 (upd oc' i (-1))) (N := N) (X := X) (tb := tb) (pf := q) (tn := tn) (t := t) (i := i) hL hW (RF.fr (fun _ _ _ => rfl) (fun _ _ => rfl) (fun k k1 k2 => by rw [upd_ne' (by omega), upd_ne' (by omega), upd_ne' (by omega), upd_ne' (by omega), upd_ne' (by omega), upd_ne' (by omega), upd_ne' (by omega), upd_ne' (by omega)]) (fun j hj => by unfold rlv at hj; exact updG_ne (by omega))) hs4 S2 Rs3 W (by omega) g3 g4 hq hnm ht (ty8 ht) hvo DG' (F6 _) tw (by simp only [upd]; exact j28) (by simp only [upd]; exact j29) (by simp [upd]) (by simp [upd]) (by simp [upd]) (by simp [upd]) (by rw [updG_ne (by decide), updG_self]) updG_self (by simp [upd]; rfl) (fun h => by
              have h38 : (upd (upd (upd (upd (upd (upd (upd (upd (upd (upd (upd (upd I' 2 0) 42 (nI q)) 3 fk) 4 fp) 31 (nI (m2 + 1))) 33 1) 37 0) 38 (nI q - 1)) 32 1) 34 t) 39 (nI q)) 40 (nI (tn - q))) 38 = nI q - 1 := rfl
              rw [h38]
              obtain ⟨q', rfl⟩ : ∃ q', q = q' + 1 := ⟨q - 1, by have := (hnm h).1; omega⟩
              exact nI_pr) (by simp [upd]) (by simp [upd]) (fun x hx => by
              rw [updG_self]
              by_cases x1 : x < i
              · rw [if_pos x1, upd_ne' (by omega)]; exact l2 x x1
              · rw [if_neg x1]
                by_cases x2 : x = i
                · rw [if_pos x2, x2, upd_self']
                · rw [if_neg x2, upd_ne' x2]; exact l3 x (by omega) (by omega)) (fun j hj => by rw [updG_ne (by decide), updG_ne (by decide), updG_ne (by decide)]; exact tA1 j hj)
          rw [g_fault hL, if_pos c0, obX_r, if_pos (F_is hL z.1), ok.1, if_neg (show ¬ (1 : Int32) = 0 by decide), if_pos (x_o F2), r_thr0, ob2_some, if_pos (show (0 : Int32) = 0 from rfl), v31', Option.bind_some, l1, f_X8_put_L132, if_pos (nI_le (Nat.le_refl _) (by omega)), x_ref (F3 _) (k := 30) rfl, Option.bind_some, show wrA cy (MT cy iw aw μ1 (upd (upd (upd (upd I' 2 0) 42 (nI q)) 3 fk) 4 fp) (updG V 60 (.ref (aw (50 + s)))) (updG (updG (updG A 30 oc) 20 G') 30 oc') 60 N X) 1 (aw 30) (nI i) (-1) = _ from st, Option.bind_some, v31, Option.bind_some, nI_a1, x_put (F3 _) 31 rfl (by decide), Option.bind_some, x_ref (F3 _) (k := 1) rfl, Option.bind_some, v42, Option.bind_some, if_pos (x_o (F3 _)), y_nameIs (F3 _), Option.bind_some, x_ref (F5 _) (k := 1) rfl, Option.bind_some, v42', Option.bind_some, Option.bind_some, if_pos (x_o (F5 _)), nI_sub' hq, y_valueIs (F5 _), Option.bind_some, if_pos (x_o (F6 _))]
          have tl := tail (fun μ146 => if isO μ146 (ad 0) 5 = true then (obX2 (f_X6_finishChange cy (ad 0) (nI s) (nI i) μ146) fun r152 μ149 => some (.inr (r152, μ149))) else none)
          have oc0 : isO μ' (ad 0) 5 = true := by
            obtain ⟨Jg, Bg, eg, -, -⟩ := DG'.mem
            rw [eg]
            exact g_is hL
          rw [if_pos oc0] at tl
          unfold f_X8_put_L226
          rcases ed with ⟨J', B', I2, V2, A2, f1, f2, f3, f4⟩ | ⟨J', B', I2, V2, A2, n', f1, f2, f3, f4, f5⟩
          · rw [f1, obX2_l] at tl
            rw [tl, f2, ob2_some, if_pos (show (0 : Int32) = 0 from rfl), if_pos (r_is hW), r_thr1 hW, ob2_some, if_neg (show ¬ (1 : Int32) = 0 by decide)]
            exact ans_th 4 (by decide) (by decide) rfl rfl rfl rfl f3.i0
          · rw [f1, obX2_r] at tl
            have st9 := m_st (cy := cy) (μ0 := μ1) (I := I2) (V := V2) (A := A2) (i := s) hW 9 rfl hs4 (nI i)
            have r6 := m_ld (cy := cy) (μ0 := μ1) (I := I2) (V := V2) (A := updG A2 9 (upd (A2 9) s (nI i))) (i := s) hW 6 rfl hs4
            rw [updG_ne (show 6 ≠ 9 by decide), f3] at r6
            rw [tl, f2, ob2_some, if_neg (show ¬ (1 : Int32) = 0 by decide), if_pos (r_is hW), r_thr0, ob2_some, if_pos (show (0 : Int32) = 0 from rfl), m_ref hW rfl, Option.bind_some, show wrA cy (MR cy iw aw μ1 I2 V2 A2) 1 (aw 9) (nI s) (nI i) = _ from st9, Option.bind_some, m_ref hW rfl, Option.bind_some, show rdA cy (MR cy iw aw μ1 I2 V2 (updG A2 9 (upd (A2 9) s (nI i)))) 1 (aw 6) (nI s) = _ from r6, Option.bind_some]
            refine ans_ok rfl rfl ?_ f4
            rw [f5]
            show I' 0 = 0
            exact j0
        · have ok := okI_1 (f := jEnd (jPc (hb tb) tn (!(wT (hb bs) n G d == 4)) t (23 - d)) tn) (by rw [← hfk]; exact c0)
          rw [g_fault hL, if_neg c0, obX_l, ok, if_pos (show (0 : Int32) = 0 from rfl), if_pos (x_o F2), r_thr1 hW, ob2_some, if_neg (show ¬ (1 : Int32) = 0 by decide)]
          exact ans_th 3 (by decide) (by decide) rfl rfl rfl rfl (RF.t (by decide)).i0
  · rw [g_noShelf hx, obX2_l, r_noShelf hW hx, ob2_some, if_neg (show ¬ (1 : Int32) = 0 by decide)]
    exact ans_th 1 (by decide) (by decide) rfl rfl rfl rfl R.i0
end KP2
