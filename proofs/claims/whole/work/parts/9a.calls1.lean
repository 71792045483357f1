/-! THE CALLS: go, in, out, byteAt. -/
theorem nI_ex {y : Int32} {m : Nat} (h1 : ¬ y < 0) (h2 : ¬ nI m ≤ y) (hm : m < 2 ^ 31) : ∃ i, i < m ∧ y = nI i := by
  have a1 : ¬ y.toInt < 0 := fun z => h1 (Int32.lt_iff_toInt_lt.mpr z)
  have a2 : y.toInt < m := by
    have h3 : ¬ (nI m).toInt ≤ y.toInt := fun z => h2 (Int32.le_iff_toInt_le.mpr z)
    rw [nI_toInt hm] at h3
    omega
  rcases Nat.eq_zero_or_pos m with q | q
  · subst q
    omega
  · obtain ⟨k, k1, k2, k3⟩ := i32_of (x := y) (lo := 0) (hi := m - 1) (fun z => a1 (by omega)) (fun z => by omega) (by omega)
    exact ⟨k, by omega, k3⟩
section KA1
variable {cy : Nat → ClassId} {iv : Nat → Option Nat} {ad : Nat → Nat} {μ0 : Mem} {J : Nat → Int32} {w : Nat} {B : Nat → Nat → Int32} {iw : Nat → Option Nat} {aw : Nat → Nat} {μ1 : Mem} {I : Nat → Int32} {V : Nat → Value} {A : Nat → Nat → Int32}
theorem SH.at {fs n : Nat} {bs : Nat → Nat} {G : Nat → Nat} {d m : Nat} {at' x : Int32} (S : SH J B fs bs n G d m at') (hf : shf6 fs = true) : SH (upd J (100 * sC fs + 5) x) B fs bs n G d m x := by
  have a := shf_sp hf
  obtain ⟨s1, s2, s3, s4, c1, c2, c3, c4, c5, c6, c7, c8, c9⟩ := S
  exact ⟨by rw [upd_ne' (by omega)]; exact s1, s2, s3, s4, by rw [upd_ne' (by omega)]; exact c1, upd_self', by rw [upd_ne' (by omega)]; exact c3, c4, c5, c6, c7, c8, c9⟩
theorem C_has (hL : Lay6 iv ad) {cs : Nat} (hc : cur6 cs = true) {h : Nat → Int32} {n : Nat} {G : Nat → Nat} {d m : Nat} {at' : Int32} (C : CUR J B cs h n G d m at') (y : Int32) : f_X0_hasElement cy (ad cs) y (MC cy iv ad μ0 J w B) = some ((if y < 0 ∨ nI m ≤ y then 0 else 1), MC cy iv ad μ0 J w B) := by
  unfold f_X0_hasElement f_X0_hasElement_L16
  by_cases c1 : y < 0
  · rw [if_pos c1, if_pos (Or.inl c1)]
  · rw [if_neg c1, C_cnt hL hc, Option.bind_some, C.2.2.1]
    by_cases c2 : nI m ≤ y
    · rw [if_pos c2, if_pos (Or.inr c2)]
    · rw [if_neg c2, if_neg (fun z => z.elim c1 c2)]
theorem k_go (hL : Lay6 iv ad) (hW : Lay iw aw) (R : REL J B I A) (x y : Int32) : ANS cy iv ad μ0 iw aw μ1 ["java/lang/IndexOutOfBoundsException"] (f_X6_go cy (ad 0) x y (MC cy iv ad μ0 J w B)) (f_X8_go cy (aw 0) x y (MR cy iw aw μ1 I V A)) := by
  unfold f_X6_go f_X8_go f_X8_go_L48
  rw [if_pos (g_is hL), if_pos (r_is hW)]
  rcases sh4 x with ⟨s, hs, rfl⟩ | hx
  · obtain ⟨bs, n, G, d, m, at', S, hat, Rs⟩ := R.2.2.1 s hs
    have z := sS_s hs
    have a := shf_sp z.1
    have C := S.2.2.2.2
    have W := C.2.2.2.2.2.2.2.2.2.1
    have hm := C.2.2.2.2.2.2.2.2.1
    obtain ⟨r, hD⟩ := C.2.2.2.2.2.2.2.2.2.2
    obtain ⟨N, X, ν, hi, m2, c, e1, tw, F⟩ := x_sr (cy := cy) (μ0 := μ1) (I := upd I 0 0) (V := V) hW (Or.inl ⟨rfl, rfl⟩ : isT 21 60) hs Rs S.2.2.1 W
    have em := tw.m W hD
    subst em
    obtain ⟨t1, t2, t3, t4, K⟩ := tw
    have wn := (t4 d (Nat.le_refl _)).1
    have wn1 := wn.2.1
    have wn2 := wn.2.2.1
    rw [g_shelf hL hs, obX2_r, F_r1 hL z.1, Option.bind_some, if_pos (C_is hL a.2.1), C_has hL a.2.1 C, ob2_some, r_shelf hW hs, ob2_some, if_pos (show (0 : Int32) = 0 from rfl), m_ref hW rfl, Option.bind_some, m_ref hW rfl, Option.bind_some, m_docs hW hs, Option.bind_some, if_pos (m_tis hW (Or.inl ⟨rfl, rfl⟩)), e1, Option.bind_some]
    by_cases c1 : y < 0
    · rw [if_pos (Or.inl c1), if_pos (show (0 : Int32) = 0 from rfl), if_pos c1]
      exact ans_ok rfl rfl rfl (R.i0.t (by decide))
    · rw [if_neg c1, x_ref F (k := 21) rfl, Option.bind_some, x_r11 F, Option.bind_some, Option.bind_some, if_pos (x_o F), x_stands F hs Rs W t2 t3 t4, ob2_some, x_ld F 11 (by decide) (by omega), Option.bind_some, K.2.2.1]
      by_cases c2 : nI m2 ≤ y
      · rw [if_pos (Or.inr c2), if_pos (show (0 : Int32) = 0 from rfl), if_neg (fun q => Int32.not_lt.mpr c2 q)]
        exact ans_ok rfl rfl rfl (R.i0.t (by decide))
      · obtain ⟨i, hi', rfl⟩ := nI_ex c1 c2 (by omega)
        have st := x_as (cy := cy) (μ0 := μ1) (I := upd I 0 0) (N := N) (X := X) (i := s) F 9 rfl (by decide) hs (nI i)
        rw [if_neg (show ¬ (nI i < 0 ∨ nI m2 ≤ nI i) from fun q => q.elim c1 c2), if_neg (show ¬ (1 : Int32) = 0 by decide), c_putC hL a.2.1 5 (Or.inr (Or.inl rfl)), Option.bind_some, if_pos (nI_lt hi' (by omega)), x_ref F (k := 9) rfl, Option.bind_some, show wrA cy (MT cy iw aw μ1 (upd I 0 0) (updG V 60 (.ref (aw (50 + s)))) A 60 N X) 1 (aw 9) (nI s) (nI i) = _ from st, Option.bind_some]
        refine ans_ok rfl rfl rfl (R.sh hs ⟨bs, n, G, d, m2, nI i, S.at z.1, Or.inr ⟨i, hi', rfl⟩, by rw [tA_out (by omega), updG_ne (by omega)]; exact Rs.1, ?_, ?_, ?_, ?_⟩ (fun k k1 k2 k3 k4 => upd_ne' (by omega)) (fun _ _ _ _ => rfl) (fun k k1 k2 => by rw [upd_ne' (by omega), upd_ne' (by omega)]) (fun j hj j1 j2 j3 j4 j5 => by unfold rlv at hj; rw [tA_out (by omega), updG_ne j3]) (fun j t hj ht => ?_))
        · rw [tA_out (by omega), updG_ne (by decide)]; exact Rs.2.1
        · intro k hk; rw [tA_out (by omega), updG_ne (by omega)]; exact Rs.2.2.1 k hk
        · rw [tA_out (by omega), updG_ne (by decide)]; exact Rs.2.2.2.1
        · rw [tA_out (by omega), updG_self, upd_self']
        · rw [tA_out (by omega)]
          by_cases j9 : j = 9
          · subst j9; rw [updG_self, upd_ne' ht]
          · rw [updG_ne j9]
  · rw [g_noShelf hx, obX2_l, r_noShelf hW hx, ob2_some, if_neg (by decide)]
    exact ans_th 1 (by decide) (by decide) rfl rfl rfl rfl R.i0
theorem k_byteAt (hL : Lay6 iv ad) (hW : Lay iw aw) (R : REL J B I A) (x y : Int32) : ANS cy iv ad μ0 iw aw μ1 ["java/lang/IndexOutOfBoundsException"] (f_X6_byteAt cy (ad 0) x y (MC cy iv ad μ0 J w B)) (f_X8_byteAt cy (aw 0) x y (MR cy iw aw μ1 I V A)) := by
  unfold f_X6_byteAt f_X8_byteAt f_X8_byteAt_L24 f_X6_byteAt_L21
  rw [if_pos (g_is hL), if_pos (r_is hW)]
  rcases sh4 x with ⟨s, hs, rfl⟩ | hx
  · obtain ⟨bs, n, G, d, m, at', S, hat, Rs⟩ := R.2.2.1 s hs
    have z := sS_s hs
    have a := shf_sp z.1
    have hn := S.2.2.2.1
    have r6 := m_ld (cy := cy) (μ0 := μ1) (I := upd I 0 0) (V := V) (A := A) (i := s) hW 6 rfl hs
    rw [Rs.2.1] at r6
    rw [g_shelf hL hs, obX2_r, r_shelf hW hs, ob2_some, if_pos (show (0 : Int32) = 0 from rfl)]
    by_cases c1 : y < 0
    · rw [if_pos c1, if_pos c1]
      exact ans_ok rfl rfl rfl R.i0
    · rw [if_neg c1, if_neg c1, F_r0 hL z.1, Option.bind_some, P_size (n := n) hL a.1 S.1, Option.bind_some, m_ref hW rfl, Option.bind_some, Option.bind_some, show rdA cy (MR cy iw aw μ1 (upd I 0 0) V A) 1 (aw 6) (nI s) = _ from r6, Option.bind_some]
      by_cases c2 : nI n ≤ y
      · rw [if_neg (fun q => Int32.not_lt.mpr c2 q), if_neg (fun q => Int32.not_lt.mpr c2 q)]
        exact ans_ok rfl rfl rfl R.i0
      · obtain ⟨i, hi', rfl⟩ := nI_ex c1 c2 (by omega)
        obtain ⟨a1, a2, a3⟩ := arr_doc hs
        have rd := m_ld (cy := cy) (μ0 := μ1) (I := upd I 0 0) (V := V) (A := A) (i := i) hW (50 + s) a1 (by rw [a3]; omega)
        rw [a2, Rs.1 i hi'] at rd
        rw [if_pos (nI_lt hi' (by omega)), if_pos (nI_lt hi' (by omega)), if_pos (P_is hL a.1), s_at (S.sp hL z.1) hi', ob2_some, m_ref hW rfl, Option.bind_some, m_docs hW hs, Option.bind_some, rd, Option.bind_some, sx_255 _ (S.2.2.1 i)]
        exact ans_ok rfl rfl rfl R.i0
  · rw [g_noShelf hx, obX2_l, r_noShelf hW hx, ob2_some, if_neg (by decide)]
    exact ans_th 1 (by decide) (by decide) rfl rfl rfl rfl R.i0
theorem nI_pr {k : Nat} : nI (k + 1) - 1 = nI k := by
  rw [show (1 : Int32) = nI 1 by decide +kernel, nI_sub' (by omega)]
  rfl
theorem k_out (hL : Lay6 iv ad) (hW : Lay iw aw) (R : REL J B I A) (x : Int32) : ANS cy iv ad μ0 iw aw μ1 ["java/lang/IndexOutOfBoundsException"] (f_X6_out cy (ad 0) x (MC cy iv ad μ0 J w B)) (f_X8_out cy (aw 0) x (MR cy iw aw μ1 I V A)) := by
  unfold f_X6_out f_X8_out
  rw [if_pos (g_is hL), if_pos (r_is hW)]
  rcases sh4 x with ⟨s, hs, rfl⟩ | hx
  · obtain ⟨bs, n, G, d, m, at', S, hat, Rs⟩ := R.2.2.1 s hs
    have z := sS_s hs
    have a := shf_sp z.1
    have C := S.2.2.2.2
    have hn := S.2.2.2.1
    have hlv := C.lvl
    have r8 := m_ld (cy := cy) (μ0 := μ1) (I := upd I 0 0) (V := V) (A := A) (i := s) hW 8 rfl hs
    rw [Rs.2.2.2.1] at r8
    rw [g_shelf hL hs, obX2_r, r_shelf hW hs, ob2_some, if_pos (show (0 : Int32) = 0 from rfl), F_r1 hL z.1, Option.bind_some, F_r0 hL z.1, Option.bind_some, if_pos (C_is hL a.2.1), m_ref hW rfl, Option.bind_some, show rdA cy (MR cy iw aw μ1 (upd I 0 0) V A) 1 (aw 8) (nI s) = _ from r8, Option.bind_some]
    match d, C, r8, hlv, S, Rs with
    | 0, C, r8, hlv, S, Rs =>
      rw [C_stepOut0 hL a.2.1 C, ob2_some, if_pos (Or.inl rfl), if_pos (show nI 0 = 0 from rfl)]
      exact ans_ok rfl rfl rfl R.i0
    | d + 1, C, r8, hlv, S, Rs =>
      obtain ⟨J', B', m', e1, C', hG, fr⟩ := C_stepOut (cy := cy) (μ0 := μ0) (w := w) (sp := sS (90 + s)) hL a.2.1 a.1 S.1 (by rw [a.2.2.1]; exact hn) S.2.1 C
      have st1 := m_st (cy := cy) (μ0 := μ1) (I := upd I 0 0) (V := V) (A := A) (i := s) hW 8 rfl hs (nI d)
      have r8b := m_ld (cy := cy) (μ0 := μ1) (I := upd I 0 0) (V := V) (A := updG A 8 (upd (A 8) s (nI d))) (i := s) hW 8 rfl hs
      rw [updG_self, upd_self'] at r8b
      obtain ⟨w1, w2, w3⟩ := arr_way hs
      have rw' := m_ld (cy := cy) (μ0 := μ1) (I := upd I 0 0) (V := V) (A := updG A 8 (upd (A 8) s (nI d))) (i := d) hW (54 + s) w1 (by rw [w3]; omega)
      rw [w2, updG_ne (show 54 + s ≠ 8 by omega), Rs.2.2.1 d (by omega)] at rw'
      have st2 := m_st (cy := cy) (μ0 := μ1) (I := upd I 0 0) (V := V) (A := updG A 8 (upd (A 8) s (nI d))) (i := s) hW 9 rfl hs (nI (G d))
      rw [e1, ob2_some, if_pos (Or.inr rfl), if_neg (fun q => by have := (nI_eq (b := 0) (by omega) (by decide)).mp q; omega), Option.bind_some, show rdA cy (MR cy iw aw μ1 (upd I 0 0) V A) 1 (aw 8) (nI s) = _ from r8, Option.bind_some, nI_pr, show wrA cy (MR cy iw aw μ1 (upd I 0 0) V A) 1 (aw 8) (nI s) (nI d) = _ from st1, Option.bind_some, m_ref hW rfl, Option.bind_some, m_ref hW rfl, Option.bind_some, m_ways hW hs, Option.bind_some, m_ref hW rfl, Option.bind_some, show rdA cy (MR cy iw aw μ1 (upd I 0 0) V (updG A 8 (upd (A 8) s (nI d)))) 1 (aw 8) (nI s) = _ from r8b, Option.bind_some, rw', Option.bind_some, show wrA cy (MR cy iw aw μ1 (upd I 0 0) V (updG A 8 (upd (A 8) s (nI d)))) 1 (aw 9) (nI s) (nI (G d)) = _ from st2, Option.bind_some]
      have nm := csp_ne a.2.1 a.1
      refine ans_ok rfl rfl rfl (R.sh hs ⟨bs, n, G, d, m', nI (G d), ⟨by rw [fr.1 _ (nm.2 1 (by decide))]; exact S.1, by rw [fr.2 _ nm.1]; exact S.2.1, S.2.2.1, hn, C'⟩, Or.inr ⟨G d, hG, rfl⟩, ?_, ?_, ?_, ?_, ?_⟩ (fun k k1 k2 k3 k4 => fr.1 k (by omega)) (fun k k1 k2 k3 => fr.2 k (by omega)) (fun k k1 k2 => upd_ne' (by omega)) (fun j hj j1 j2 j3 j4 j5 => by rw [updG_ne j3, updG_ne j2]) (fun j t hj ht => ?_))
      · rw [updG_ne (by omega), updG_ne (by omega)]; exact Rs.1
      · rw [updG_ne (by decide), updG_ne (by decide)]; exact Rs.2.1
      · intro k hk; rw [updG_ne (by omega), updG_ne (by omega)]; exact Rs.2.2.1 k (by omega)
      · rw [updG_ne (by decide), updG_self, upd_self']
      · rw [updG_self, upd_self']
      · by_cases j9 : j = 9
        · subst j9; rw [updG_self, upd_ne' ht, updG_ne (by decide)]
        · rw [updG_ne j9]
          by_cases j8 : j = 8
          · subst j8; rw [updG_self, upd_ne' ht]
          · rw [updG_ne j8]
  · rw [g_noShelf hx, obX2_l, r_noShelf hW hx, ob2_some, if_neg (by decide)]
    exact ans_th 1 (by decide) (by decide) rfl rfl rfl rfl R.i0
end KA1
