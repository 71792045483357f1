/-! THE CALLS: look, number. -/
section KA3
variable {cy : Nat → ClassId} {iv : Nat → Option Nat} {ad : Nat → Nat} {μ0 : Mem} {J : Nat → Int32} {w : Nat} {B : Nat → Nat → Int32} {iw : Nat → Option Nat} {aw : Nat → Nat} {μ1 : Mem} {I : Nat → Int32} {V : Nat → Value} {A : Nat → Nat → Int32}
/-- what class and reference say of the ELEMENT -/
def lkE (h : Nat → Int32) (n q r : Nat) (at' : Int32) (k : Nat) : Int32 := if k = 5 then at' else if k = 6 then nI q else if k = 7 then h q else if k = 8 then nI (vpl h n q - q - 2) else if k = 9 then nI (vpl h n q) else nI (r - vpl h n q)
theorem g_look (hL : Lay6 iv ad) {s : Nat} (hs : s < 4) {bs : Nat → Nat} {n : Nat} {G : Nat → Nat} {d m : Nat} {at' : Int32} (S : SH J B (90 + s) bs n G d m at') {i : Nat} (hi' : i < m) (h1 : at' = nI i) (y : Int32) : f_X6_lookAtElement cy (ad (90 + s)) y (MC cy iv ad μ0 J w B) = some ((if y.toInt < 5 ∨ 10 < y.toInt then -1 else lkE (hb bs) n (st (hb bs) n (wD (hb bs) n G d) i) (st (hb bs) n (wD (hb bs) n G d) (i + 1)) at' y.toInt.toNat), MC cy iv ad μ0 J w B) := by
  have z := sS_s hs
  have a := shf_sp z.1
  have C := S.2.2.2.2
  have SS := S.sp (cy := cy) (μ0 := μ0) (w := w) hL z.1
  obtain ⟨hE, hlt, hn⟩ := C.el hi'
  obtain ⟨s1, s2, s3, s4, s5, s6⟩ := hE.s (n := n) (by omega)
  have two : (2 : Int32) = nI 2 := by decide +kernel
  unfold f_X6_lookAtElement
  rw [if_pos (F_is hL z.1), F_elementPlace hL z.1 S hi' h1, ob2_some, F_r0 hL z.1, Option.bind_some, if_pos (s_is SS), s_at SS (by omega), ob2_some, F_r0 hL z.1, Option.bind_some, if_pos (s_is SS), nI_a1, s_behindName SS (by omega), ob2_some]
  have ev : bn (hb bs) n (st (hb bs) n (wD (hb bs) n G d) i + 1) = vpl (hb bs) n (st (hb bs) n (wD (hb bs) n G d) i) := rfl
  rw [ev]
  by_cases hy : y.toInt < 5 ∨ 10 < y.toInt
  · rw [if_pos hy, if_pos hy]
  · rw [if_neg hy, if_neg hy]
    obtain ⟨k, k1, k2, rfl⟩ := i32_of (x := y) (lo := 5) (hi := 10) (fun q => hy (Or.inl q)) (fun q => hy (Or.inr q)) (by decide)
    rw [nI_toInt (by omega)]
    match k, k1, k2 with
    | 0, k1, _ => omega
    | 1, k1, _ => omega
    | 2, k1, _ => omega
    | 3, k1, _ => omega
    | 4, k1, _ => omega
    | 5, _, _ =>
      rw [if_pos (show nI 5 = 5 from rfl), F_r1 hL z.1, Option.bind_some, C_num hL a.2.1, Option.bind_some, C.2.1]
      rfl
    | 6, _, _ =>
      rw [if_neg (show ¬ nI 6 = 5 by decide), if_pos (show nI 6 = 6 from rfl)]
      rfl
    | 7, _, _ =>
      rw [if_neg (show ¬ nI 7 = 5 by decide), if_neg (show ¬ nI 7 = 6 by decide), if_pos (show nI 7 = 7 from rfl)]
      rfl
    | 8, _, _ =>
      rw [if_neg (show ¬ nI 8 = 5 by decide), if_neg (show ¬ nI 8 = 6 by decide), if_neg (show ¬ nI 8 = 7 by decide), if_pos (show nI 8 = 8 from rfl), nI_sub' (by omega), two, nI_sub' (by omega)]
      rfl
    | 9, _, _ =>
      rw [if_neg (show ¬ nI 9 = 5 by decide), if_neg (show ¬ nI 9 = 6 by decide), if_neg (show ¬ nI 9 = 7 by decide), if_neg (show ¬ nI 9 = 8 by decide), if_pos (show nI 9 = 9 from rfl)]
      rfl
    | 10, _, _ =>
      rw [if_neg (show ¬ nI 10 = 5 by decide), if_neg (show ¬ nI 10 = 6 by decide), if_neg (show ¬ nI 10 = 7 by decide), if_neg (show ¬ nI 10 = 8 by decide), if_neg (show ¬ nI 10 = 9 by decide), if_pos (show nI 10 = 10 from rfl), F_r0 hL z.1, Option.bind_some, p_behindValue SS s5 (by omega), ob2_some, nI_sub' (by omega)]
      rfl
    | k + 11, _, k2 => omega
theorem k_look (hL : Lay6 iv ad) (hW : Lay iw aw) (R : REL J B I A) (x y : Int32) : ANS cy iv ad μ0 iw aw μ1 ["java/lang/IndexOutOfBoundsException"] (f_X6_look cy (ad 0) x y (MC cy iv ad μ0 J w B)) (f_X8_look cy (aw 0) x y (MR cy iw aw μ1 I V A)) := by
  unfold f_X6_look f_X8_look f_X8_look_L134
  rw [if_pos (g_is hL), if_pos (r_is hW)]
  rcases sh4 x with ⟨s, hs, rfl⟩ | hx
  · obtain ⟨bs, n, G, d, m, at', S, hat, Rs⟩ := R.2.2.1 s hs
    have z := sS_s hs
    have a := shf_sp z.1
    have C := S.2.2.2.2
    have hn := S.2.2.2.1
    have hlv := C.lvl
    have W := C.2.2.2.2.2.2.2.2.2.1
    have hm := C.2.2.2.2.2.2.2.2.1
    obtain ⟨r, hD⟩ := C.2.2.2.2.2.2.2.2.2.2
    obtain ⟨N, X, ν, hi, m2, c, e1, tw, F⟩ := x_sr (cy := cy) (μ0 := μ1) (I := upd I 0 0) (V := V) hW (Or.inl ⟨rfl, rfl⟩ : isT 21 60) hs Rs S.2.2.1 W
    have em := tw.m W hD
    subst em
    have wn := tw.wn
    have RR : REL J B (upd (upd I 0 0) (60 + 1) (nI N)) (tA 60 A X) := R.i0.t (by decide)
    rw [g_shelf hL hs, obX2_r, r_shelf hW hs, ob2_some, if_pos (show (0 : Int32) = 0 from rfl), F_r1 hL z.1, Option.bind_some, m_ref hW rfl, Option.bind_some, m_ref hW rfl, Option.bind_some, m_docs hW hs, Option.bind_some, if_pos (m_tis hW (Or.inl ⟨rfl, rfl⟩)), e1, Option.bind_some, x_ref F (k := 21) rfl, Option.bind_some, if_pos (x_o F), x_stands F hs Rs W tw.2.1 tw.2.2.1 tw.2.2.2.1, ob2_some]
    by_cases hy : y.toInt < 0 ∨ 4 < y.toInt
    · rw [if_pos hy, if_pos hy, if_pos (C_is hL a.2.1), C_atEl hL a.2.1 C, ob2_some]
      rcases hat.i (by omega) with ⟨h1, h2⟩ | ⟨i, hi', h1, h2, h3⟩
      · rw [if_pos h1, if_pos (show (0 : Int32) = 0 from rfl)]
        have e : ∀ (q : Option (Int32 × Mem)), q = some (-1, MT cy iw aw μ1 (upd I 0 0) (updG V 60 (.ref (aw (50 + s)))) A 60 N X) → ANS cy iv ad μ0 iw aw μ1 ["java/lang/IndexOutOfBoundsException"] (some (.inr (-1, MC cy iv ad μ0 J w B))) q := fun q hq => ans_ok rfl hq rfl RR
        apply e
        by_cases y1 : y < 0
        · rw [if_pos y1]
        · rw [if_neg y1]
          by_cases y2 : 10 < y
          · rw [if_pos y2]
          · rw [if_neg y2, x_ref F (k := 9) rfl, Option.bind_some, x_at F hs Rs, Option.bind_some, if_neg h2]
      · rw [if_neg h2, if_neg (show ¬ (1 : Int32) = 0 by decide), g_look hL hs S hi' h1, ob2_some]
        obtain ⟨q1, q2, q3⟩ := x_kid (cy := cy) (μ1 := μ1) (I := upd I 0 0) F tw hi'
        obtain ⟨v1, v2, v3, v4, v5, v6, v7, v8⟩ := q3
        obtain ⟨hE, hlt, -⟩ := C.el hi'
        have hE2 := hE.s (n := n) (by omega)
        rw [hE2.2.2.2.2.2] at v5
        by_cases y1 : y < 0
        · have y1' : y.toInt < 0 := Int32.lt_iff_toInt_lt.mp y1
          rw [if_pos (Or.inl (by omega)), if_pos y1]
          exact ans_ok rfl rfl rfl RR
        · have y1' : ¬ y.toInt < 0 := fun q => y1 (Int32.lt_iff_toInt_lt.mpr q)
          rw [if_neg y1]
          by_cases y2 : 10 < y
          · have y2' : 10 < y.toInt := Int32.lt_iff_toInt_lt.mp y2
            rw [if_pos (Or.inr y2'), if_pos y2]
            exact ans_ok rfl rfl rfl RR
          · have y2' : ¬ 10 < y.toInt := fun q => y2 (Int32.lt_iff_toInt_lt.mpr q)
            rw [if_neg (by omega), if_neg y2, x_ref F (k := 9) rfl, Option.bind_some, x_at F hs Rs, Option.bind_some, if_pos h3, x_ref F (k := 21) rfl, Option.bind_some, Option.bind_some, x_at F hs Rs, Option.bind_some, if_pos (x_is F), h1, q1, ob2_some]
            obtain ⟨k, k1, k2, rfl⟩ := i32_of (x := y) (lo := 5) (hi := 10) (fun q => by omega) (fun q => by omega) (by decide)
            have e : ∀ (q : Option (Int32 × Mem)), q = some (lkE (hb bs) n (st (hb bs) n (wD (hb bs) n G d) i) (st (hb bs) n (wD (hb bs) n G d) (i + 1)) (nI i) k, MT cy iw aw μ1 (upd I 0 0) (updG V 60 (.ref (aw (50 + s)))) A 60 N X) → ANS cy iv ad μ0 iw aw μ1 ["java/lang/IndexOutOfBoundsException"] (some (.inr (lkE (hb bs) n (st (hb bs) n (wD (hb bs) n G d) i) (st (hb bs) n (wD (hb bs) n G d) (i + 1)) (nI i) (nI k).toInt.toNat, MC cy iv ad μ0 J w B))) q := fun q hq => by
              rw [nI_toInt (by omega)]
              exact ans_ok rfl hq rfl RR
            apply e
            match k, k1, k2 with
            | 0, k1, _ => omega
            | 1, k1, _ => omega
            | 2, k1, _ => omega
            | 3, k1, _ => omega
            | 4, k1, _ => omega
            | 5, _, _ =>
              rw [if_neg (by decide), if_pos (show nI 5 = 5 from rfl), x_ref F (k := 9) rfl, Option.bind_some, x_at F hs Rs, Option.bind_some, h1]
              rfl
            | 6, _, _ =>
              rw [if_neg (by decide), if_neg (show ¬ nI 6 = 5 by decide), if_pos (show nI 6 = 6 from rfl), x_ref F (k := 21) rfl, Option.bind_some, x_r6 F, Option.bind_some, x_ld F 6 (by decide) q2, Option.bind_some, v1]
              rfl
            | 7, _, _ =>
              rw [if_neg (by decide), if_neg (show ¬ nI 7 = 5 by decide), if_neg (show ¬ nI 7 = 6 by decide), if_pos (show nI 7 = 7 from rfl), x_ref F (k := 21) rfl, Option.bind_some, x_r2 F, Option.bind_some, x_ld F 2 (by decide) q2, Option.bind_some, v2]
              rfl
            | 8, _, _ =>
              rw [if_neg (by decide), if_neg (show ¬ nI 8 = 5 by decide), if_neg (show ¬ nI 8 = 6 by decide), if_neg (show ¬ nI 8 = 7 by decide), if_pos (show nI 8 = 8 from rfl), x_ref F (k := 21) rfl, Option.bind_some, x_r7 F, Option.bind_some, x_ld F 7 (by decide) q2, Option.bind_some, v3]
              rfl
            | 9, _, _ =>
              rw [if_neg (by decide), if_neg (show ¬ nI 9 = 5 by decide), if_neg (show ¬ nI 9 = 6 by decide), if_neg (show ¬ nI 9 = 7 by decide), if_neg (show ¬ nI 9 = 8 by decide), if_pos (show nI 9 = 9 from rfl), x_ref F (k := 21) rfl, Option.bind_some, x_r8 F, Option.bind_some, x_ld F 8 (by decide) q2, Option.bind_some, v4]
              rfl
            | 10, _, _ =>
              rw [if_pos (by decide), x_ref F (k := 21) rfl, Option.bind_some, x_r9 F, Option.bind_some, x_ld F 9 (by decide) q2, Option.bind_some, v5]
              rfl
            | k + 11, _, k2 => omega
    · rw [if_neg hy, if_neg hy]
      obtain ⟨k, k1, k2, rfl⟩ := i32_of (x := y) (lo := 0) (hi := 4) (fun q => hy (Or.inl q)) (fun q => hy (Or.inr q)) (by decide)
      match k, k1, k2 with
      | 0, _, _ =>
        have r6 := x_al (cy := cy) (μ0 := μ1) (I := upd I 0 0) (N := N) (X := X) (i := s) F 6 rfl (by decide) hs
        rw [Rs.2.1] at r6
        rw [if_pos (show nI 0 = 0 from rfl), if_pos (show nI 0 = 0 from rfl), F_r0 hL z.1, Option.bind_some, P_size (n := n) hL a.1 S.1, Option.bind_some, x_ref F (k := 6) rfl, Option.bind_some, show rdA cy (MT cy iw aw μ1 (upd I 0 0) (updG V 60 (.ref (aw (50 + s)))) A 60 N X) 1 (aw 6) (nI s) = _ from r6, Option.bind_some]
        exact ans_ok rfl rfl rfl RR
      | 1, _, _ =>
        rw [if_neg (show ¬ nI 1 = 0 by decide), if_neg (show ¬ nI 1 = 0 by decide), if_pos (show nI 1 = 1 from rfl), if_pos (show nI 1 = 1 from rfl), if_pos (C_is hL a.2.1), C_depth hL a.2.1 C, ob2_some, x_ref F (k := 21) rfl, Option.bind_some, x_r12 F, Option.bind_some, x_ld F 12 (by decide) wn.1, Option.bind_some, wn.2.2.2.2.1]
        exact ans_ok rfl rfl rfl RR
      | 2, _, _ =>
        rw [if_neg (show ¬ nI 2 = 0 by decide), if_neg (show ¬ nI 2 = 0 by decide), if_neg (show ¬ nI 2 = 1 by decide), if_neg (show ¬ nI 2 = 1 by decide), if_pos (show nI 2 = 2 from rfl), if_pos (show nI 2 = 2 from rfl), C_cnt hL a.2.1, Option.bind_some, C.2.2.1, x_ref F (k := 21) rfl, Option.bind_some, x_r11 F, Option.bind_some, x_ld F 11 (by decide) wn.1, Option.bind_some, wn.2.2.2.2.2]
        exact ans_ok rfl rfl rfl RR
      | 3, _, _ =>
        rw [if_neg (show ¬ nI 3 = 0 by decide), if_neg (show ¬ nI 3 = 0 by decide), if_neg (show ¬ nI 3 = 1 by decide), if_neg (show ¬ nI 3 = 1 by decide), if_neg (show ¬ nI 3 = 2 by decide), if_neg (show ¬ nI 3 = 2 by decide), if_pos (show nI 3 = 3 from rfl), if_pos (show nI 3 = 3 from rfl), if_pos (C_is hL a.2.1), C_doc hL a.2.1 C, ob2_some, x_ref F (k := 21) rfl, Option.bind_some, x_r10 F, Option.bind_some, x_ld F 10 (by decide) wn.1, Option.bind_some, wn.2.2.2.1]
        exact ans_ok rfl rfl rfl RR
      | 4, _, _ =>
        rw [if_neg (show ¬ nI 4 = 0 by decide), if_neg (show ¬ nI 4 = 0 by decide), if_neg (show ¬ nI 4 = 1 by decide), if_neg (show ¬ nI 4 = 1 by decide), if_neg (show ¬ nI 4 = 2 by decide), if_neg (show ¬ nI 4 = 2 by decide), if_neg (show ¬ nI 4 = 3 by decide), if_neg (show ¬ nI 4 = 3 by decide), if_pos (show nI 4 = 4 from rfl), if_pos (show nI 4 = 4 from rfl), if_pos (C_is hL a.2.1), C_documentType hL a.2.1 C.1 hlv, ob2_some, C.2.2.2.2.1 d (Nat.le_refl _), x_ref F (k := 21) rfl, Option.bind_some, x_r2 F, Option.bind_some, x_ld F 2 (by decide) wn.1, Option.bind_some, wn.2.2.1]
        exact ans_ok rfl rfl rfl RR
      | k + 5, _, k2 => omega
  · rw [g_noShelf hx, obX2_l, r_noShelf hW hx, ob2_some, if_neg (by decide)]
    exact ans_th 1 (by decide) (by decide) rfl rfl rfl rfl R.i0
end KA3
