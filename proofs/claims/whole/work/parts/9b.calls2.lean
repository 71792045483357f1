/-! THE CALLS: in, look, number. -/
section KA2
variable {cy : Nat → ClassId} {iv : Nat → Option Nat} {ad : Nat → Nat} {μ0 : Mem} {J : Nat → Int32} {w : Nat} {B : Nat → Nat → Int32} {iw : Nat → Option Nat} {aw : Nat → Nat} {μ1 : Mem} {I : Nat → Int32} {V : Nat → Value} {A : Nat → Nat → Int32}
theorem TWy.wn {X : Nat → Nat → Int32} {bs : Nat → Nat} {n d N m : Nat} {G ν hi c : Nat → Nat} (tw : TWy X bs n G d N ν hi m c) : ν d < 1300 ∧ hi d < 1300 ∧ X 2 (ν d) = wT (hb bs) n G d ∧ X 10 (ν d) = nI (wD (hb bs) n G d) ∧ X 12 (ν d) = nI (d + 1) ∧ X 11 (ν d) = nI m := by
  obtain ⟨t1, t2, t3, t4, K⟩ := tw
  obtain ⟨-, x2, x3, x4, x5, x6, -⟩ := (t4 d (Nat.le_refl _)).1
  exact ⟨by omega, by omega, x4, x5, x6, K.2.2.1⟩
theorem x_kid {o T sd n d N m : Nat} {bs G ν hi c : Nat → Nat} {X : Nat → Nat → Int32} (F : TX iw aw V A o T sd bs n) (tw : TWy X bs n G d N ν hi m c) {i : Nat} (hi' : i < m) : f_X7_child cy (aw o) (nI (ν d)) (nI i) (MT cy iw aw μ1 I V A T N X) = some (nI (c i), MT cy iw aw μ1 I V A T N X) ∧ c i < 1300 ∧ NEl X (hb bs) n (c i) (st (hb bs) n (wD (hb bs) n G d) i) (ν d) (d + 1) := by
  have wn := tw.wn
  have K := tw.2.2.2.2
  have ic := K.inc (i := i) (by omega)
  exact ⟨x_child F K wn.2.1 wn.1 hi', by omega, (K.2.2.2.2.2.2 i hi').2.1⟩
theorem atOk.i {at' : Int32} {m : Nat} (h : atOk at' m) (hm : m < 2 ^ 31) : (at' = -1 ∧ ¬ 0 ≤ at') ∨ ∃ i, i < m ∧ at' = nI i ∧ ¬ at' = -1 ∧ 0 ≤ at' := by
  rcases h with h | ⟨i, h1, h2⟩
  · exact Or.inl ⟨h, by rw [h]; decide⟩
  · refine Or.inr ⟨i, h1, h2, ?_, ?_⟩
    · rw [h2]; exact nI_m1 (by omega)
    · rw [h2]; exact nI_le (a := 0) (Nat.zero_le _) (by omega)
theorem k_in (hL : Lay6 iv ad) (hW : Lay iw aw) (R : REL J B I A) (x : Int32) : ANS cy iv ad μ0 iw aw μ1 ["java/lang/IndexOutOfBoundsException"] (f_X6_in cy (ad 0) x (MC cy iv ad μ0 J w B)) (f_X8_in cy (aw 0) x (MR cy iw aw μ1 I V A)) := by
  unfold f_X6_in f_X8_in f_X8_in_L122
  rw [if_pos (g_is hL), if_pos (r_is hW)]
  rcases sh4 x with ⟨s, hs, rfl⟩ | hx
  · obtain ⟨bs, n, G, d, m, at', S, hat, Rs⟩ := R.2.2.1 s hs
    have z := sS_s hs
    have a := shf_sp z.1
    have C := S.2.2.2.2
    have hn := S.2.2.2.1
    have hlv := C.lvl
    have W := C.2.2.2.2.2.2.2.2.2.1
    have hm := C.2.2.2.2.2.2.2.2.1
    obtain ⟨r, hD⟩ := C.2.2.2.2.2.2.2.2.2.2
    have r9 := m_ld (cy := cy) (μ0 := μ1) (I := upd I 0 0) (V := V) (A := A) (i := s) hW 9 rfl hs
    rw [Rs.2.2.2.2] at r9
    rw [g_shelf hL hs, obX2_r, r_shelf hW hs, ob2_some, if_pos (show (0 : Int32) = 0 from rfl), F_r1 hL z.1, Option.bind_some, F_r0 hL z.1, Option.bind_some, if_pos (C_is hL a.2.1), m_ref hW rfl, Option.bind_some, show rdA cy (MR cy iw aw μ1 (upd I 0 0) V A) 1 (aw 9) (nI s) = _ from r9, Option.bind_some]
    have sn : n ≤ len6 (sS (90 + s) + 1) := by rw [a.2.2.1]; exact hn
    rcases hat.i (by omega) with ⟨h1, h2⟩ | ⟨i, hi', h1, h2, h3⟩
    · rw [C_stepInN (sp := sS (90 + s)) hL a.2.1 a.1 S.1 sn S.2.1 C (Or.inl h1), ob2_some, if_pos (Or.inl rfl), if_neg h2]
      exact ans_ok rfl rfl rfl R.i0
    · obtain ⟨N, X, ν, hi, m2, c, e1, tw, F⟩ := x_sr (cy := cy) (μ0 := μ1) (I := upd I 0 0) (V := V) hW (Or.inl ⟨rfl, rfl⟩ : isT 21 60) hs Rs S.2.2.1 W
      have em := tw.m W hD
      subst em
      have wn := tw.wn
      obtain ⟨q1, q2, q3⟩ := x_kid (cy := cy) (μ1 := μ1) (I := upd I 0 0) F tw hi'
      have K := tw.2.2.2.2
      have ic := K.inc (i := i) (by omega)
      rw [if_pos h3, m_ref hW rfl, Option.bind_some, m_ref hW rfl, Option.bind_some, m_docs hW hs, Option.bind_some, if_pos (m_tis hW (Or.inl ⟨rfl, rfl⟩)), e1, Option.bind_some, x_ref F (k := 21) rfl, Option.bind_some, Option.bind_some, if_pos (x_o F), x_stands F hs Rs W tw.2.1 tw.2.2.1 tw.2.2.2.1, ob2_some, x_ref F (k := 9) rfl, Option.bind_some, x_at F hs Rs, Option.bind_some, if_pos (x_is F), h1, q1, ob2_some, x_ref F (k := 21) rfl, Option.bind_some, x_r10 F, Option.bind_some, x_ld F 10 (by decide) q2, Option.bind_some, q3.2.2.2.2.2.1]
      obtain ⟨hE, hlt, -⟩ := C.el hi'
      have hE2 := hE.s (n := n) (by omega)
      by_cases hd : hasD (hb bs (st (hb bs) n (wD (hb bs) n G d) i))
      · obtain ⟨J', B', m', f1, C', fr⟩ := C_stepIn (cy := cy) (μ0 := μ0) (w := w) (sp := sS (90 + s)) hL a.2.1 a.1 S.1 sn S.2.1 C hi' h1 hd
        obtain ⟨dd, dle⟩ := hE2.2.2.2.2.1.doc hd
        have ddl := dd.le
        have ed : dAt (hb bs) n (st (hb bs) n (wD (hb bs) n G d) i) = nI (dcIn (hb bs) (hb bs (st (hb bs) n (wD (hb bs) n G d) i)) (vpl (hb bs) n (st (hb bs) n (wD (hb bs) n G d) i))) := if_pos hd
        obtain ⟨w1, w2, w3⟩ := arr_way hs
        have x8 := x_al (cy := cy) (μ0 := μ1) (I := upd I 0 0) (N := N) (X := X) (i := s) F 8 rfl (by decide) hs
        rw [Rs.2.2.2.1] at x8
        have st1 := x_as (cy := cy) (μ0 := μ1) (I := upd I 0 0) (N := N) (X := X) (i := d) F (54 + s) w1 (by omega) (by rw [w3]; omega) (nI i)
        rw [w2] at st1
        have F1 := F.a (j := 54 + s) (f := upd (A (54 + s)) d (nI i)) (by omega)
        have x8b := x_al (cy := cy) (μ0 := μ1) (I := upd I 0 0) (N := N) (X := X) (i := s) F1 8 rfl (by decide) hs
        rw [updG_ne (show 8 ≠ 54 + s by omega), Rs.2.2.2.1] at x8b
        have st2 := x_as (cy := cy) (μ0 := μ1) (I := upd I 0 0) (N := N) (X := X) (i := s) F1 8 rfl (by decide) hs (nI (d + 1))
        rw [updG_ne (show 8 ≠ 54 + s by omega)] at st2
        have F2 := F1.a (j := 8) (f := upd (A 8) s (nI (d + 1))) (by omega)
        have st3 := fun v => x_as (cy := cy) (μ0 := μ1) (I := upd I 0 0) (N := N) (X := X) (i := s) F2 9 rfl (by decide) hs v
        -- the count below
        have y4 := (K.2.2.2.2.2.2 i hi').2.2.2.1 hd
        obtain ⟨e', he'⟩ : ∃ e', 23 - d = e' + 1 := by
          obtain ⟨e', m0, he, -, -⟩ := dd.s (n := n) (by omega) hn
          exact ⟨e', he⟩
        rw [he'] at y4
        obtain ⟨mm, cc, KK⟩ := NDoc.k y4
        have W' := C'.2.2.2.2.2.2.2.2.2.1
        obtain ⟨r3, hD3⟩ := C'.2.2.2.2.2.2.2.2.2.2
        have eD : wD (hb bs) n (updG G d i) (d + 1) = dcIn (hb bs) (hb bs (st (hb bs) n (wD (hb bs) n G d) i)) (vpl (hb bs) n (st (hb bs) n (wD (hb bs) n G d) i)) := by
          show dcIn (hb bs) (hb bs (st (hb bs) n (wy (hb bs) n (updG G d i) d).1 (updG G d i d))) (vpl (hb bs) n (st (hb bs) n (wy (hb bs) n (updG G d i) d).1 (updG G d i d))) = _
          rw [wy_congr d (fun j hj => updG_ne (by omega)), updG_self]
        rw [eD] at hD3
        obtain ⟨-, emm⟩ := KK.1.uniq hD3 hn
        subst emm
        have hmm := KK.2.1
        have k11 : X 11 (c i) = nI mm := KK.2.2.1
        have z8 : (if nI mm ≤ 0 then (-1 : Int32) else 0) = num0 mm := by
          unfold num0
          by_cases q : mm = 0
          · subst q; rfl
          · rw [if_neg q, if_neg (show ¬ nI mm ≤ 0 from nI_ge (a := 0) (by omega) (by omega))]
        have nm := csp_ne a.2.1 a.1
        have fin : ∀ v, v = num0 mm → ANS cy iv ad μ0 iw aw μ1 ["java/lang/IndexOutOfBoundsException"] (some (.inr (1, MC cy iv ad μ0 J' w B'))) (some (1, MT cy iw aw μ1 (upd I 0 0) (updG V 60 (.ref (aw (50 + s)))) (updG (updG (updG A (54 + s) (upd (A (54 + s)) d (nI i))) 8 (upd (A 8) s (nI (d + 1)))) 9 (upd (A 9) s v)) 60 N X)) := fun v hv => by
          subst hv
          refine ans_ok rfl rfl rfl (R.sh hs ⟨bs, n, updG G d i, d + 1, mm, num0 mm, ⟨by rw [fr.1 _ (nm.2 1 (by decide))]; exact S.1, by rw [fr.2 _ nm.1]; exact S.2.1, S.2.2.1, hn, C'⟩, ?_, ?_, ?_, ?_, ?_, ?_⟩ (fun k k1 k2 k3 k4 => fr.1 k (by omega)) (fun k k1 k2 k3 => fr.2 k (by omega)) (fun k k1 k2 => by rw [upd_ne' (by omega), upd_ne' (by omega)]) (fun j hj j1 j2 j3 j4 j5 => by unfold rlv at hj; rw [tA_out (by omega), updG_ne j3, updG_ne j2, updG_ne j5]) (fun j t hj ht => ?_))
          · unfold num0 atOk
            by_cases q : mm = 0
            · rw [if_pos q]; exact Or.inl rfl
            · rw [if_neg q]; exact Or.inr ⟨0, by omega, rfl⟩
          · rw [tA_out (by omega), updG_ne (by omega), updG_ne (by omega), updG_ne (by omega)]; exact Rs.1
          · rw [tA_out (by omega), updG_ne (by decide), updG_ne (by decide), updG_ne (by omega)]; exact Rs.2.1
          · intro k hk
            rw [tA_out (by omega), updG_ne (by omega), updG_ne (by omega), updG_self]
            by_cases q : k = d
            · subst q; rw [upd_self', updG_self]
            · rw [upd_ne' q, updG_ne q]; exact Rs.2.2.1 k (by omega)
          · rw [tA_out (by omega), updG_ne (by decide), updG_self, upd_self']
          · rw [tA_out (by omega), updG_self, upd_self']
          · rw [tA_out (by omega)]
            by_cases j9 : j = 9
            · subst j9; rw [updG_self, upd_ne' ht]
            · rw [updG_ne j9]
              by_cases j8 : j = 8
              · subst j8; rw [updG_self, upd_ne' ht]
              · rw [updG_ne j8, updG_ne (by omega)]
        rw [f1, ob2_some, if_pos (Or.inr rfl), ed, if_pos (show (0 : Int32) ≤ _ from nI_le (a := 0) (Nat.zero_le _) (by omega)), x_ref F (k := 7) rfl, Option.bind_some, show rdQ cy (MT cy iw aw μ1 (upd I 0 0) (updG V 60 (.ref (aw (50 + s)))) A 60 N X) 6 (aw 7) (nI s) = some (aw (54 + s)) from m_ways hW hs, Option.bind_some, x_ref F (k := 8) rfl, Option.bind_some, show rdA cy (MT cy iw aw μ1 (upd I 0 0) (updG V 60 (.ref (aw (50 + s)))) A 60 N X) 1 (aw 8) (nI s) = _ from x8, Option.bind_some, x_ref F (k := 9) rfl, Option.bind_some, x_at F hs Rs, Option.bind_some, h1, st1, Option.bind_some, x_ref F1 (k := 8) rfl, Option.bind_some, show rdA cy (MT cy iw aw μ1 (upd I 0 0) (updG V 60 (.ref (aw (50 + s)))) (updG A (54 + s) (upd (A (54 + s)) d (nI i))) 60 N X) 1 (aw 8) (nI s) = _ from x8b, Option.bind_some, nI_a1, show wrA cy (MT cy iw aw μ1 (upd I 0 0) (updG V 60 (.ref (aw (50 + s)))) (updG A (54 + s) (upd (A (54 + s)) d (nI i))) 60 N X) 1 (aw 8) (nI s) (nI (d + 1)) = _ from st2, Option.bind_some, x_ref F2 (k := 9) rfl, Option.bind_some, x_ref F2 (k := 21) rfl, Option.bind_some, x_r11 F2, Option.bind_some, x_ld F2 11 (by decide) q2, Option.bind_some, k11]
        have st3' := fun v => st3 v
        rw [updG_ne (show 9 ≠ 8 by decide), updG_ne (show 9 ≠ 54 + s by omega)] at st3'
        by_cases q : nI mm ≤ 0
        · rw [if_pos q] at z8 ⊢
          rw [show wrA cy (MT cy iw aw μ1 (upd I 0 0) (updG V 60 (.ref (aw (50 + s)))) (updG (updG A (54 + s) (upd (A (54 + s)) d (nI i))) 8 (upd (A 8) s (nI (d + 1)))) 60 N X) 1 (aw 9) (nI s) (-1) = _ from st3' _, Option.bind_some]
          exact fin _ z8
        · rw [if_neg q] at z8 ⊢
          rw [show wrA cy (MT cy iw aw μ1 (upd I 0 0) (updG V 60 (.ref (aw (50 + s)))) (updG (updG A (54 + s) (upd (A (54 + s)) d (nI i))) 8 (upd (A 8) s (nI (d + 1)))) 60 N X) 1 (aw 9) (nI s) 0 = _ from st3' _, Option.bind_some]
          exact fin _ z8
      · have ed : dAt (hb bs) n (st (hb bs) n (wD (hb bs) n G d) i) = -1 := if_neg hd
        rw [C_stepInN (sp := sS (90 + s)) hL a.2.1 a.1 S.1 sn S.2.1 C (Or.inr ⟨i, hi', h1, hd⟩), ob2_some, if_pos (Or.inl rfl), ed, if_neg (by decide)]
        exact ans_ok rfl rfl rfl (R.i0.t (by decide))
  · rw [g_noShelf hx, obX2_l, r_noShelf hW hx, ob2_some, if_neg (by decide)]
    exact ans_th 1 (by decide) (by decide) rfl rfl rfl rfl R.i0
end KA2
