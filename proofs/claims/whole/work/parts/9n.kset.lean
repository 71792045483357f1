/-! THE CALLS: set. -/
theorem lg_0 {v x : Int64} : lg_cmp v x = 0 ↔ v = x := by
  unfold lg_cmp
  constructor
  · intro h
    by_cases c1 : x < v
    · rw [if_pos c1] at h
      exact absurd h (by decide)
    · rw [if_neg c1] at h
      by_cases c2 : v = x
      · exact c2
      · rw [if_neg c2] at h
        exact absurd h (by decide)
  · intro h
    subst h
    rw [if_neg (fun z => Int64.lt_irrefl z), if_pos rfl]
theorem wd_nm {t : Int32} (h : isNm t) : (t = 8 ∧ wd t = 1) ∨ (t = 16 ∧ wd t = 4) ∨ ((t = 1 ∨ t = 9 ∨ t = 17 ∨ t = 18) ∧ wd t = 8) := by
  rcases h with h | h | h | h
  · subst h; exact Or.inr (Or.inr ⟨Or.inl rfl, rfl⟩)
  · subst h; exact Or.inl ⟨rfl, rfl⟩
  · subst h; exact Or.inr (Or.inr ⟨Or.inr (Or.inl rfl), rfl⟩)
  · have a1 : ¬ t.toInt < 16 := fun y => h.1 (Int32.lt_iff_toInt_lt.mpr y)
    have a2 : ¬ 18 < t.toInt := fun y => h.2 (Int32.lt_iff_toInt_lt.mpr y)
    obtain ⟨k, k1, k2, k3⟩ := i32_of (x := t) (lo := 16) (hi := 18) (fun y => a1 y) (fun y => a2 y) (by decide)
    have : k = 16 ∨ k = 17 ∨ k = 18 := by omega
    rcases this with q | q | q <;> subst q <;> subst k3
    · exact Or.inr (Or.inl ⟨rfl, rfl⟩)
    · exact Or.inr (Or.inr ⟨Or.inr (Or.inr (Or.inl rfl)), rfl⟩)
    · exact Or.inr (Or.inr ⟨Or.inr (Or.inr (Or.inr rfl)), rfl⟩)
theorem nm_ty {t : Int32} (h : isNm t) : isTy t := by
  rcases wd_nm h with ⟨q, -⟩ | ⟨q, -⟩ | ⟨q, -⟩
  · subst q; exact Or.inl ⟨by decide, by decide⟩
  · subst q; exact Or.inl ⟨by decide, by decide⟩
  · rcases q with q | q | q | q <;> subst q <;> exact Or.inl ⟨by decide, by decide⟩
theorem vOk.w {h : Nat → Int32} {e : Nat} {t : Int32} (hN : isNm t) (h8 : t = 8 → h 0 ≤ 1) : vOk h e t 0 (wd t) := by
  rcases wd_nm hN with ⟨q, -⟩ | ⟨q, -⟩ | ⟨q, -⟩
  · subst q
    refine ⟨K0, ?_⟩
    show jBool h K0 0 1 = _
    unfold jBool
    rw [if_pos (by decide), if_pos (h8 rfl)]
    rfl
  · subst q
    exact ⟨K0, rfl⟩
  · rcases q with q | q | q | q <;> subst q <;> exact ⟨K0, rfl⟩
section KV3
variable {cy : Nat → ClassId} {iv : Nat → Option Nat} {ad : Nat → Nat} {μ0 : Mem} {J : Nat → Int32} {w : Nat} {B : Nat → Nat → Int32} {iw : Nat → Option Nat} {aw : Nat → Nat} {μ1 : Mem} {I : Nat → Int32} {V : Nat → Value} {A : Nat → Nat → Int32} {s : Nat}
theorem y_162 {n N : Nat} {bs : Nat → Nat} {X : Nat → Nat → Int32} (F : TX iw aw V A 21 60 (50 + s) bs n) {t : Int32} {v : Int64} {W : Nat} (hW8 : W ≤ 8) : ∀ (j k f : Nat) (nb : Nat → Int32), k + j = W → j < f → (∀ i, i < k → nb i = sx (by8 v i)) → ∃ nb', f_X8_set_L162 cy f (aw 0) (nI s) t v (nI W) (nI k) (MT cy iw aw μ1 I V (updG A 43 nb) 60 N X) = f_X8_set_L162 cy 1 (aw 0) (nI s) t v (nI W) (nI W) (MT cy iw aw μ1 I V (updG A 43 nb') 60 N X) ∧ ∀ i, i < W → nb' i = sx (by8 v i)
  | j, k, 0, nb, _, hf, _ => by omega
  | 0, k, f + 1, nb, hk, _, h => by
    have : k = W := by omega
    subst this
    refine ⟨nb, ?_, h⟩
    rw [f_X8_set_L162, f_X8_set_L162, if_pos (nI_le (Nat.le_refl _) (by omega)), if_pos (nI_le (Nat.le_refl _) (by omega))]
  | j + 1, k, f + 1, nb, hk, hf, h => by
    have t1 := F.tt
    have F' := F.a (j := 43) (f := nb) (by omega)
    obtain ⟨nb', e1, e2⟩ := y_162 F hW8 j (k + 1) f (upd nb k (sx (by8 v k))) (by omega) (by omega) (fun i hi => by
      by_cases c : i = k
      · subst c; exact upd_self'
      · rw [upd_ne' c]; exact h i (by omega))
    refine ⟨nb', ?_, e2⟩
    have st := x_as (cy := cy) (μ0 := μ1) (I := I) (N := N) (X := X) (i := k) F' 43 rfl (by decide) (by show k < 8; omega) (sx (by8 v k))
    rw [updG_self, updG_updG] at st
    have e : vp_nar .byte ((Int32.toInt8 (Int64.toInt32 (v >>> (Int32.toInt64 (8 * nI k) &&& 63)))).toInt32) = sx (by8 v k) := by
      unfold by8
      rw [sx_b8]
      exact bB_of (b8_lt _)
    conv => lhs; rw [f_X8_set_L162, if_neg (nI_ge (by omega) (by omega)), x_ref F' (k := 43) rfl, Option.bind_some, e, show wrA cy (MT cy iw aw μ1 I V (updG A 43 nb) 60 N X) 0 (aw 43) (nI k) (sx (by8 v k)) = _ from st, Option.bind_some, nI_a1]
    exact e1
theorem by8_bB (v : Int64) : bB (by8 v) := fun k => b8_lt _
theorem k_set (hL : Lay6 iv ad) (hW : Lay iw aw) (R : REL J B I A) (x t : Int32) (v : Int64) : ANS cy iv ad μ0 iw aw μ1 ["java/lang/IndexOutOfBoundsException", "java/util/NoSuchElementException", "java/lang/IllegalArgumentException", "java/lang/UnsupportedOperationException"] (f_X6_set cy (ad 0) x t v (MC cy iv ad μ0 J w B)) (f_X8_set cy (aw 0) x t v (MR cy iw aw μ1 I V A)) := by
  unfold f_X6_set f_X8_set f_X8_set_L25
  rw [if_pos (g_is hL), if_pos (r_is hW)]
  rcases sh4 x with ⟨s, hs4, rfl⟩ | hx
  · obtain ⟨bs, n, G, d, m, at', S, hat, Rs⟩ := R.2.2.1 s hs4
    have z := sS_s hs4
    have a := shf_sp z.1
    have C := S.2.2.2.2
    have hn := S.2.2.2.1
    have hlv := C.lvl
    have W := C.2.2.2.2.2.2.2.2.2.1
    have hm := C.2.2.2.2.2.2.2.2.1
    obtain ⟨r, hD⟩ := C.2.2.2.2.2.2.2.2.2.2
    have r9 := m_ld (cy := cy) (μ0 := μ1) (I := upd I 0 0) (V := V) (A := A) (i := s) hW 9 rfl hs4
    rw [Rs.2.2.2.2] at r9
    rw [g_shelf hL hs4, obX2_r, g_noEl hL hs4 S, r_shelf hW hs4, ob2_some, if_pos (show (0 : Int32) = 0 from rfl), m_ref hW rfl, Option.bind_some, show rdA cy (MR cy iw aw μ1 (upd I 0 0) V A) 1 (aw 9) (nI s) = _ from r9, Option.bind_some]
    rcases hat.i (by omega) with ⟨h1, h2⟩ | ⟨i, hi', h1, h2, h3⟩
    · rw [if_pos h1, obX_l, if_neg h2, if_pos (r_is hW), r_thr1 hW, ob2_some, if_neg (show ¬ (1 : Int32) = 0 by decide)]
      exact ans_th 2 (by decide) (by decide) rfl rfl rfl rfl R.i0.i0
    · obtain ⟨N, X, ν, hi, m2, c, I', oc, e2, tw, F, oc1, j28, j29, j31, j32, j33, jo⟩ := y_changes (cy := cy) (μ0 := μ1) (I := upd I 0 0) (V := V) hW hs4 Rs S.2.2.1 W
      have em := tw.m W hD
      subst em
      have wn := tw.wn
      have R1 : REL J B I' (updG A 30 oc) := (R.i0 (x := 0)).fr (fun _ _ _ => rfl) (fun _ _ => rfl) (fun k k1 k2 => jo k (by omega) (by omega) (by omega) (by omega) (by omega)) (fun j hj => by unfold rlv at hj; exact updG_ne (by omega))
      have j0 : I' 0 = 0 := by rw [jo 0 (by decide) (by decide) (by decide) (by decide) (by decide)]; rfl
      obtain ⟨tn, tb, q1, q2, q3, q4, q5, q6⟩ := R1.1
      have MFF : MF iw aw (upd I' (60 + 1) (nI N)) (tA 60 (updG A 30 oc) X) tn tb := ⟨hW, by rw [upd_ne' (by decide)]; exact q5, fun j hj => by rw [tA_out (by omega)]; exact q6 j hj, q3, q4⟩
      have emem : ∀ (fk fp : Int32), MJ cy iw aw μ1 (upd I' (60 + 1) (nI N)) (updG V 60 (.ref (aw (50 + s)))) (tA 60 (updG A 30 oc) X) fk fp (tA 60 (updG A 30 oc) X 20) = MT cy iw aw μ1 (upd (upd I' 3 fk) 4 fp) (updG V 60 (.ref (aw (50 + s)))) (updG A 30 oc) 60 N X := fun fk fp => by
        show MR cy iw aw μ1 (upd (upd (upd I' (60 + 1) (nI N)) 3 fk) 4 fp) _ (updG (tA 60 (updG A 30 oc) X) 20 (tA 60 (updG A 30 oc) X 20)) = _
        rw [updG_id, upd_cm (show 60 + 1 ≠ 3 by decide), upd_cm (show 60 + 1 ≠ 4 by decide)]
      have RF : ∀ fk fp, REL (upd (upd J 7 fk) 8 fp) B (upd (upd I' 3 fk) 4 fp) (updG A 30 oc) := fun fk fp => by
        have := R1.ft (fk := fk) (fp := fp) (J' := J) (G := updG A 30 oc 20) (fun _ _ => rfl)
        rw [updG_id] at this
        exact this
      rw [if_neg h2, obX_r, if_pos h3, if_pos (r_is hW), r_thr0, ob2_some, if_pos (show (0 : Int32) = 0 from rfl), if_pos (r_is hW), e2, ob2_some, if_pos (x_o F), m_judges hW, Option.bind_some]
      have wr := fun (k p : Int32) => m_wrong (cy := cy) (μ0 := μ1) (V := updG V 60 (.ref (aw (50 + s)))) (G := tA 60 (updG A 30 oc) X 20) MFF k p
      -- refused
      have bad : ∀ (fk : Int32), fk ≠ 0 → ANS cy iv ad μ0 iw aw μ1 ["java/lang/IndexOutOfBoundsException", "java/util/NoSuchElementException", "java/lang/IllegalArgumentException", "java/lang/UnsupportedOperationException"] (f_X6_set_L50 cy (ad 0) (nI s) t v (ad (90 + s)) fk (MC cy iv ad μ0 J w B)) (f_X8_set_L139 cy (aw 0) (nI s) t v (-1) (MJ cy iw aw μ1 (upd I' (60 + 1) (nI N)) (updG V 60 (.ref (aw (50 + s)))) (tA 60 (updG A 30 oc) X) fk 0 (tA 60 (updG A 30 oc) X 20))) := fun fk hfk => by
        unfold f_X6_set_L50 f_X6_set_L63 f_X8_set_L139 f_X8_set_L150
        rw [emem, if_neg hfk, if_pos (g_is hL), g_fault hL, if_neg hfk, obX_l, if_neg (show ¬ (0 : Int32) ≤ -1 by decide), if_pos (x_o F), r_thr1 hW, ob2_some, if_neg (show ¬ (1 : Int32) = 0 by decide)]
        exact ans_th 3 (by decide) (by decide) rfl rfl rfl rfl ((RF fk 0).t (by decide)).i0
      -- taken
      have good : ∀ (hN : isNm t) (h8 : t = 8 → by8 v 0 ≤ 1), ANS cy iv ad μ0 iw aw μ1 ["java/lang/IndexOutOfBoundsException", "java/util/NoSuchElementException", "java/lang/IllegalArgumentException", "java/lang/UnsupportedOperationException"] (f_X6_set_L50 cy (ad 0) (nI s) t v (ad (90 + s)) 0 (MC cy iv ad μ0 J w B)) (f_X8_set_L139 cy (aw 0) (nI s) t v (nI (wd t)) (MJ cy iw aw μ1 (upd I' (60 + 1) (nI N)) (updG V 60 (.ref (aw (50 + s)))) (tA 60 (updG A 30 oc) X) 0 (-1) (tA 60 (updG A 30 oc) X 20))) := fun hN h8 => by
        have w8 : wd t ≤ 8 := by rcases wd_nm hN with ⟨-, q⟩ | ⟨-, q⟩ | ⟨-, q⟩ <;> omega
        unfold f_X6_set_L50 f_X6_set_L63 f_X8_set_L139 f_X8_set_L150
        obtain ⟨pn, pb, p1, p2, p3, p4⟩ := (RF 0 (-1)).2.2.2.2.2.1
        have l24 : len6 (24 + 1) = 8 := rfl
        have c1 := P_clear (cy := cy) (μ0 := μ0) (w := w) (J := upd (upd J 7 0) 8 (-1)) (B := B) (j := 24) (n := pn) (h := B (24 + 1)) (o := (upd (upd J 7 0) 8 (-1)) (100 * 24 + 2)) hL rfl (by rw [l24]; exact p4)
        rw [← MP_id p1, show B (24 + 1) = hb pb from p2] at c1
        have c2 := P_low (cy := cy) (μ0 := μ0) (w := w) (J := upd (upd J 7 0) 8 (-1)) (B := B) (j := 24) (n := 0) (o := 0) (b := pb) hL rfl v w8 (by rw [l24]; omega)
        rw [Nat.zero_add] at c2
        have bp : ∀ k, k < wd t → apn pb 0 (by8 v) (wd t) k = by8 v k := fun k hk => by
          have q : apn pb 0 (by8 v) (wd t) (0 + k) = by8 v k := apn_in hk
          rw [Nat.zero_add] at q
          exact q
        have bpB : bB (apn pb 0 (by8 v) (wd t)) := apn_bB p3 (by8_bB v)
        -- the class's memory behind plain
        have RP : REL (upd (upd (upd (upd J 7 0) 8 (-1)) (100 * 24 + 1) (nI (wd t))) (100 * 24 + 2) 0) (updG B (24 + 1) (hb (apn pb 0 (by8 v) (wd t)))) (upd (upd I' 3 0) 4 (-1)) (updG A 30 oc) := by
          obtain ⟨r1, r2, r3, r4, r5, r6, r7, r8, r9⟩ := RF 0 (-1)
          have hJ : ∀ k, k / 100 ≠ 24 → (upd (upd (upd (upd J 7 0) 8 (-1)) (100 * 24 + 1) (nI (wd t))) (100 * 24 + 2) 0) k = (upd (upd J 7 0) 8 (-1)) k := fun k hk => by rw [upd_ne' (by omega), upd_ne' (by omega)]
          have hB : ∀ k, k ≠ 25 → updG B (24 + 1) (hb (apn pb 0 (by8 v) (wd t))) k = B k := fun k hk => updG_ne hk
          exact ⟨r1.fr (hJ _ (by decide)) (hB _ (by decide)) rfl rfl, r2.fr (hJ _ (by decide)) (hJ _ (by decide)) rfl rfl, fun t ht => (r3 t ht).fr ht (fun k hk => hJ k (by omega)) (fun k hk => hB k (by omega)) rfl rfl rfl rfl rfl, r4.fr (hJ _ (by decide)) (fun t ht f hf => hJ _ (by omega)) rfl, r5.fr (hJ _ (by decide)) (hB _ (by decide)), ⟨wd t, apn pb 0 (by8 v) (wd t), MP_J1 (j := 24), updG_self, bpB, w8⟩, r7.fr (hJ _ (by decide)) (hB _ (by decide)), r8, r9.fr (fun k hk => hJ k (by omega)) (fun k hk => hB k (by omega)) (fun _ _ _ => rfl) (fun _ _ => rfl)⟩
        rw [emem, if_pos (show (0 : Int32) = 0 from rfl), if_pos (g_is hL), g_fault hL, if_pos rfl, obX_r, g_ref hL (k := 2) rfl, Option.bind_some, if_pos (P_is hL rfl), c1, Option.bind_some, g_ref hL (k := 2) rfl, Option.bind_some, p_widthOf, ob2_some, if_pos (P_is hL rfl), c2, Option.bind_some, g_ref hL (k := 2) rfl, Option.bind_some, Option.bind_some, P_size (j := 24) (n := wd t) hL rfl (MP_J1 (j := 24)), Option.bind_some, if_pos (F_is hL z.1), if_pos (show (0 : Int32) ≤ nI (wd t) from nI_le (a := 0) (Nat.zero_le _) (by omega)), if_pos (x_o F), r_thr0, ob2_some, if_pos (show (0 : Int32) = 0 from rfl)]
        obtain ⟨nb', l1, l2⟩ := y_162 (cy := cy) (μ1 := μ1) (I := upd (upd I' 3 0) 4 (-1)) (N := N) (X := X) (t := t) (v := v) F w8 (wd t) 0 FU (updG A 30 oc 43) (by omega) (by show wd t < 100000; omega) (fun i hi => by omega)
        rw [updG_id] at l1
        have l1' : f_X8_set_L162 cy FU (aw 0) (nI s) t v (nI (wd t)) 0 (MT cy iw aw μ1 (upd (upd I' 3 0) 4 (-1)) (updG V 60 (.ref (aw (50 + s)))) (updG A 30 oc) 60 N X) = _ := l1
        have F2 : TX iw aw (updG V 60 (.ref (aw (50 + s)))) (updG (updG A 30 oc) 43 nb') 21 60 (50 + s) bs n := F.a (by omega)
        have S2 : SH (upd (upd (upd (upd J 7 0) 8 (-1)) (100 * 24 + 1) (nI (wd t))) (100 * 24 + 2) 0) (updG B (24 + 1) (hb (apn pb 0 (by8 v) (wd t)))) (90 + s) bs n G d m2 at' := S.fr (fun k hk => by rw [upd_ne' (by omega), upd_ne' (by omega), upd_ne' (by omega), upd_ne' (by omega)]) (fun k hk => updG_ne (by omega))
        have Rs2 : RSh (updG (updG A 30 oc) 43 nb') s bs n G d at' := Rs.fr (by rw [updG_ne (by omega), updG_ne (by omega)]) (by rw [updG_ne (by decide), updG_ne (by decide)]) (by rw [updG_ne (by omega), updG_ne (by omega)]) (by rw [updG_ne (by decide), updG_ne (by decide)]) (by rw [updG_ne (by decide), updG_ne (by decide)])
        have vo : vOk (hb (apn pb 0 (by8 v) (wd t))) (23 - d) t 0 (wd t) := vOk.w hN (fun q => by
          have h8' := h8 q
          have w1 : wd t = 1 := by rw [q]; rfl
          show nI (apn pb 0 (by8 v) (wd t) 0) ≤ 1
          rw [bp 0 (by omega)]
          exact nI_le (b := 1) h8' (by decide))
        have ed := v_ed (cy := cy) (μ0 := μ0) (w := w) (μ1 := μ1) (kv := 24) (nv := wd t) (vs := 0) (ve := wd t) (bv' := apn pb 0 (by8 v) (wd t)) (a := aw 43) (vf := 0) (vl := wd t) (L := wd t) (vb := by8 v) (A := updG (updG A 30 oc) 43 nb') hL hW (RP.fr (fun _ _ _ => rfl) (fun _ _ => rfl) (fun _ _ _ => rfl) (fun j hj => by unfold rlv at hj; exact updG_ne (by omega))) hs4 S2 Rs2 W hi' h1 ⟨rfl, by decide, MP_J1 (j := 24), updG_self, bpB, by rw [l24]; exact w8⟩ ⟨Nat.zero_le _, Nat.le_refl _⟩ (nm_ty hN) (ty8 (nm_ty hN)) vo F2 tw (by rw [upd_ne' (by decide), upd_ne' (by decide)]; exact j28) (by rw [upd_ne' (by decide), upd_ne' (by decide)]; exact j31) (by rw [upd_ne' (by decide), upd_ne' (by decide)]; exact j33) (fun x hx => by rw [updG_ne (by decide), updG_self]; exact oc1 x hx) (fun I2 V2 Fg => ⟨by8_bB v, by omega, fun s' ob j hj => by
            have := m_ld (cy := cy) (μ0 := μ1) (I := upd (upd I2 27 (nI s')) (60 + 1) (nI N)) (V := V2) (A := tA 60 (updG (updG (updG (updG A 30 oc) 43 nb') 26 (hs ob)) 20 Fg) X) (i := j) hW 43 rfl (by show j < 8; omega)
            rw [tA_out (Or.inl (by decide)), updG_ne (by decide), updG_ne (by decide), updG_self, l2 j hj] at this
            exact this⟩) (by omega) (sl_ag (by omega) (fun k hk => by rw [Nat.zero_add, bp k (by omega)]))
        have i30 := x_al (cy := cy) (μ0 := μ1) (I := upd (upd I' 3 0) 4 (-1)) (N := N) (X := X) (i := i) F2 30 rfl (by decide) (by show i < 1301; omega)
        rw [updG_ne (show 30 ≠ 43 by decide), updG_self, oc1 i hi'] at i30
        have F36 : TX iw aw (updG (updG V 60 (.ref (aw (50 + s)))) 36 (.ref (aw 43))) (updG (updG A 30 oc) 43 nb') 21 60 (50 + s) bs n := ⟨F2.1, F2.2.1, by rw [updG_ne (by decide)]; exact F2.2.2.1, F2.2.2.2⟩
        rw [l1', f_X8_set_L162, if_pos (nI_le (Nat.le_refl _) (by omega)), x_ref F2 (k := 30) rfl, Option.bind_some, x_ref F2 (k := 9) rfl, Option.bind_some, x_at F2 hs4 Rs2, Option.bind_some, h1, show rdA cy (MT cy iw aw μ1 (upd (upd I' 3 0) 4 (-1)) (updG V 60 (.ref (aw (50 + s)))) (updG (updG A 30 oc) 43 nb') 60 N X) 1 (aw 30) (nI i) = _ from i30, Option.bind_some, x_put F2 29 rfl (by decide), Option.bind_some, x_ref F2 (k := 43) rfl, Option.bind_some, if_pos (x_o F2), y_valueIs F2, Option.bind_some, if_pos (x_o F36)]
        unfold f_X8_set_L232
        rcases ed with ⟨J', B', I2, V2, A2, f1, f2, f3, f4⟩ | ⟨J', B', I2, V2, A2, n', f1, f2, f3, f4, f5⟩
        · have f1' : ((f_X4_draftValue cy (ad (90 + s)) t (ad 24) 0 (nI (wd t)) (MP cy iv ad μ0 (upd (upd J 7 0) 8 (-1)) w B 24 (wd t) (hb (apn pb 0 (by8 v) (wd t))) 0)).bind fun μ48 => (rdR μ48 (ad (90 + s)) 3 1).bind fun q49 => (rdI μ48 q49 0 5).bind fun v51 => if isO μ48 (ad 0) 5 = true then (obX2 (f_X6_finishChange cy (ad 0) (nI s) v51 μ48) fun r58 μ55 => some (.inr (r58, μ55))) else none) = _ := f1
          have f2' : f_X8_lays cy (aw 0) (nI s) (MT cy iw aw μ1 (upd (upd (upd (upd (upd (upd (upd I' 3 0) 4 (-1)) 29 (nI (c i))) 32 1) 34 t) 39 0) 40 (nI (wd t))) (updG (updG V 60 (.ref (aw (50 + s)))) 36 (.ref (aw 43))) (updG (updG A 30 oc) 43 nb') 60 N X) = _ := f2
          rw [f1', f2', ob2_some, if_pos (show (0 : Int32) = 0 from rfl), if_pos (r_is hW), r_thr1 hW, ob2_some, if_neg (show ¬ (1 : Int32) = 0 by decide)]
          exact ans_th 4 (by decide) (by decide) rfl rfl rfl rfl f3.i0
        · have f1' : ((f_X4_draftValue cy (ad (90 + s)) t (ad 24) 0 (nI (wd t)) (MP cy iv ad μ0 (upd (upd J 7 0) 8 (-1)) w B 24 (wd t) (hb (apn pb 0 (by8 v) (wd t))) 0)).bind fun μ48 => (rdR μ48 (ad (90 + s)) 3 1).bind fun q49 => (rdI μ48 q49 0 5).bind fun v51 => if isO μ48 (ad 0) 5 = true then (obX2 (f_X6_finishChange cy (ad 0) (nI s) v51 μ48) fun r58 μ55 => some (.inr (r58, μ55))) else none) = _ := f1
          have f2' : f_X8_lays cy (aw 0) (nI s) (MT cy iw aw μ1 (upd (upd (upd (upd (upd (upd (upd I' 3 0) 4 (-1)) 29 (nI (c i))) 32 1) 34 t) 39 0) 40 (nI (wd t))) (updG (updG V 60 (.ref (aw (50 + s)))) 36 (.ref (aw 43))) (updG (updG A 30 oc) 43 nb') 60 N X) = _ := f2
          have r6 := m_ld (cy := cy) (μ0 := μ1) (I := I2) (V := V2) (A := A2) (i := s) hW 6 rfl hs4
          rw [f3] at r6
          rw [f1', f2', ob2_some, if_neg (show ¬ (1 : Int32) = 0 by decide), if_pos (r_is hW), r_thr0, ob2_some, if_pos (show (0 : Int32) = 0 from rfl), m_ref hW rfl, Option.bind_some, show rdA cy (MR cy iw aw μ1 I2 V2 A2) 1 (aw 6) (nI s) = _ from r6, Option.bind_some]
          exact ans_ok rfl rfl (by rw [f5]; exact j0) f4
      have goodR : ∀ q, q = nI (wd t) → ∀ y, f_X8_set_L139 cy (aw 0) (nI s) t v (nI (wd t)) (MJ cy iw aw μ1 (upd I' (60 + 1) (nI N)) (updG V 60 (.ref (aw (50 + s)))) (tA 60 (updG A 30 oc) X) 0 (-1) (tA 60 (updG A 30 oc) X 20)) = y → f_X8_set_L139 cy (aw 0) (nI s) t v q (MJ cy iw aw μ1 (upd I' (60 + 1) (nI N)) (updG V 60 (.ref (aw (50 + s)))) (tA 60 (updG A 30 oc) X) 0 (-1) (tA 60 (updG A 30 oc) X 20)) = y := fun q hq y hy => by rw [hq]; exact hy
      by_cases hN : isNm t
      · rw [p_isNumber hN, ob2_some, if_neg (show ¬ (1 : Int32) = 0 by decide)]
        rcases wd_nm hN with ⟨q, qw⟩ | ⟨q, qw⟩ | ⟨q, qw⟩
        · rw [if_pos q, if_neg (show ¬ t = 1 by rw [q]; decide), if_neg (show ¬ t = 9 by rw [q]; decide), if_neg (show ¬ t = 17 by rw [q]; decide), if_neg (show ¬ t = 18 by rw [q]; decide), if_pos q]
          unfold f_X8_set_L94
          rw [if_neg (show ¬ (1 : Int32) = 0 by decide), if_pos q]
          have gd := good hN
          rw [qw] at gd
          by_cases v0 : lg_cmp v 0 = 0
          · rw [if_pos v0, if_pos v0]
            refine gd (fun _ => ?_)
            rw [lg_0.mp v0]
            decide +kernel
          · rw [if_neg v0, if_neg v0]
            by_cases v1 : lg_cmp v 1 = 0
            · rw [if_pos v1, if_pos v1]
              refine gd (fun _ => ?_)
              rw [lg_0.mp v1]
              decide +kernel
            · rw [if_neg v1, if_neg v1, if_pos (m_is hW), wr 7 0, ob2_some]
              exact bad 7 (by decide)
        · rw [if_neg (show ¬ t = 8 by rw [q]; decide), if_neg (show ¬ t = 1 by rw [q]; decide), if_neg (show ¬ t = 9 by rw [q]; decide), if_neg (show ¬ t = 17 by rw [q]; decide), if_neg (show ¬ t = 18 by rw [q]; decide), if_neg (show ¬ t = 8 by rw [q]; decide), if_pos q]
          unfold f_X8_set_L94
          rw [if_neg (show ¬ (4 : Int32) = 0 by decide), if_neg (show ¬ t = 8 by rw [q]; decide)]
          have gd := good hN (fun z => by rw [q] at z; exact absurd z (by decide))
          rw [qw] at gd
          exact gd
        · have n8 : ¬ t = 8 := by rcases q with q | q | q | q <;> (rw [q]; decide)
          have gd := good hN (fun z => absurd z n8)
          rw [qw] at gd
          have L68 : f_X8_set_L68 cy (aw 0) (nI s) t v (MJ cy iw aw μ1 (upd I' (60 + 1) (nI N)) (updG V 60 (.ref (aw (50 + s)))) (tA 60 (updG A 30 oc) X) 0 (-1) (tA 60 (updG A 30 oc) X 20)) = f_X8_set_L139 cy (aw 0) (nI s) t v (nI 8) (MJ cy iw aw μ1 (upd I' (60 + 1) (nI N)) (updG V 60 (.ref (aw (50 + s)))) (tA 60 (updG A 30 oc) X) 0 (-1) (tA 60 (updG A 30 oc) X 20)) := by
            unfold f_X8_set_L68 f_X8_set_L94
            rw [if_neg (show ¬ (8 : Int32) = 0 by decide), if_neg n8]
            rfl
          rw [if_neg n8]
          rcases q with q | q | q | q
          · rw [if_pos q, L68]; exact gd
          · rw [if_neg (show ¬ t = 1 by rw [q]; decide), if_pos q, L68]; exact gd
          · rw [if_neg (show ¬ t = 1 by rw [q]; decide), if_neg (show ¬ t = 9 by rw [q]; decide), if_pos q, L68]; exact gd
          · rw [if_neg (show ¬ t = 1 by rw [q]; decide), if_neg (show ¬ t = 9 by rw [q]; decide), if_neg (show ¬ t = 17 by rw [q]; decide), if_pos q, L68]; exact gd
      · have k1 : ¬ t = 1 := fun q => hN (Or.inl q)
        have k8 : ¬ t = 8 := fun q => hN (Or.inr (Or.inl q))
        have k9 : ¬ t = 9 := fun q => hN (Or.inr (Or.inr (Or.inl q)))
        have k16 : ¬ t = 16 := fun q => hN (by rw [q]; unfold isNm; decide)
        have k17 : ¬ t = 17 := fun q => hN (by rw [q]; unfold isNm; decide)
        have k18 : ¬ t = 18 := fun q => hN (by rw [q]; unfold isNm; decide)
        rw [p_isNumberN hN, ob2_some, if_pos (show (0 : Int32) = 0 from rfl), if_neg k1, if_neg k9, if_neg k17, if_neg k18, if_neg k8, if_neg k16]
        unfold f_X8_set_L94
        rw [if_pos rfl, if_pos (m_is hW), wr 3 0, ob2_some]
        exact bad 3 (by decide)
  · rw [g_noShelf hx, obX2_l, r_noShelf hW hx, ob2_some, if_neg (show ¬ (1 : Int32) = 0 by decide)]
    exact ans_th 1 (by decide) (by decide) rfl rfl rfl rfl R.i0
end KV3
