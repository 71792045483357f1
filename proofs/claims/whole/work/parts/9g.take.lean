/-! THE CALLS: take. -/
section KA7
variable {cy : Nat → ClassId} {iv : Nat → Option Nat} {ad : Nat → Nat} {μ0 : Mem} {J : Nat → Int32} {w : Nat} {B : Nat → Nat → Int32} {iw : Nat → Option Nat} {aw : Nat → Nat} {μ1 : Mem} {I : Nat → Int32} {V : Nat → Value} {A : Nat → Nat → Int32} {s : Nat}
theorem num0_5 {h : Nat → Int32} {n e r m : Nat} {row : Bool} (hD : DC h n e 0 r row m) : num0 m = (if r ≤ 5 then -1 else 0) := by
  have l := hD.le' (Nat.le_refl m)
  have l1 := hD.1
  have l2 := hD.2.2.2.2.1
  unfold num0
  by_cases c : m = 0
  · subst c
    have : st h n 0 0 = 4 := rfl
    rw [if_pos rfl, if_pos (by omega)]
  · rw [if_neg c, if_neg (by omega)]
/-- a shelf becomes a good DOCUMENT -/
theorem g_become (hL : Lay6 iv ad) (hs : s < 4) {bs : Nat → Nat} {n : Nat} {G : Nat → Nat} {d m : Nat} {at' : Int32} (S : SH J B (90 + s) bs n G d m at') {k kn : Nat} {kb : Nat → Nat} (hk : span6 k = true) (hks : k ≠ sS (90 + s)) (h1 : J (100 * k + 1) = nI kn) (hkn : kn ≤ len6 (k + 1)) (h2 : B (k + 1) = hb kb) (hB : bB kb) (hk2 : kn ≤ 2400) (hd : dOk (hb kb) 24 0 kn false) : ∃ J' B' nb m', f_X4_become cy (ad (90 + s)) (ad k) (MC cy iv ad μ0 J w B) = some (MC cy iv ad μ0 J' w B') ∧ (∀ G, SH J' B' (90 + s) nb kn G 0 m' (num0 m')) ∧ (∀ j, j < kn → nb j = kb j) ∧ num0 m' = (if kn ≤ 5 then -1 else 0) ∧ atOk (num0 m') m' ∧ (∀ k, k / 100 ≠ sS (90 + s) → k / 100 ≠ sC (90 + s) → J' k = J k) ∧ (∀ k, k ≠ sS (90 + s) + 1 → (k ≤ sC (90 + s) ∨ sC (90 + s) + 5 < k) → B' k = B k) := by
  have z := sS_s hs
  have a := shf_sp z.1
  have hn := S.2.2.2.1
  have cp : ∀ j, j < kn → va_cpy kb bs 0 0 kn j = kb j := fun j hj => (pk_cpy_in (Nat.zero_le _) (by omega)).trans (by congr 1 <;> omega)
  unfold f_X4_become
  have e1 := P_become (cy := cy) (μ0 := μ0) (w := w) (J := J) (B := B) (j := sS (90 + s)) (n := n) (h := B (sS (90 + s) + 1)) (o := J (100 * sS (90 + s) + 2)) (k := k) (m := kn) hL a.1 hk hks h1 hkn (by rw [a.2.2.1]; exact hk2) (by rw [a.2.2.1]; exact hn)
  rw [← MP_id S.1, h2, S.2.1, hb_cpy] at e1
  have hd' : dOk (hb (va_cpy kb bs 0 0 kn)) 24 0 kn false := hd.go (Nat.le_refl _) (fun j hj => by
    rw [Nat.zero_add]
    show nI (va_cpy kb bs 0 0 kn j) = nI (kb j)
    rw [cp j (by omega)]) (by omega)
  obtain ⟨J', B', m', e2, C', fr⟩ := C_toRoot (cy := cy) (μ0 := μ0) (w := w) (J := upd (upd J (100 * sS (90 + s) + 1) (nI kn)) (100 * sS (90 + s) + 2) 0) (B := updG B (sS (90 + s) + 1) (hb (va_cpy kb bs 0 0 kn))) (n := kn) (h := hb (va_cpy kb bs 0 0 kn)) (cs := sC (90 + s)) (sp := sS (90 + s)) hL a.2.1 a.1 (by rw [upd_ne' (by omega), upd_self']) (by rw [a.2.2.1]; exact hk2) updG_self hd' hk2
  have nm := csp_ne a.2.1 a.1
  refine ⟨J', B', va_cpy kb bs 0 0 kn, m', ?_, fun G => ⟨by rw [fr.1 _ (nm.2 1 (by decide)), upd_ne' (by omega), upd_self'], by rw [fr.2 _ nm.1, updG_self], S.2.2.1.cpy hB, hk2, C' G⟩, cp, ?_, ?_, fun k k1 k2 => ?_, fun k k1 k2 => ?_⟩
  · rw [F_r0 hL z.1, Option.bind_some, if_pos (P_is hL a.1), e1, Option.bind_some, F_r1 hL z.1, Option.bind_some, F_r0 hL z.1, Option.bind_some, if_pos (C_is hL a.2.1), e2, Option.bind_some]
  · obtain ⟨r, hD⟩ := (C' G).2.2.2.2.2.2.2.2.2.2
    have W := (C' G).2.2.2.2.2.2.2.2.2.1
    obtain ⟨e', m2, -, -, hD2⟩ := hd'.s (Nat.le_refl kn) hk2
    have u := hD2.uniq hD hk2
    have := num0_5 hD2
    rw [← u.2]
    exact this
  · unfold num0 atOk
    by_cases q : m' = 0
    · rw [if_pos q]; exact Or.inl rfl
    · rw [if_neg q]; exact Or.inr ⟨0, by omega, rfl⟩
  · rw [fr.1 k k2, upd_ne' (by omega), upd_ne' (by omega)]
  · rw [fr.2 k (by omega), updG_ne k1]
/-! the reference's shelf becomes the tape's bytes -/
theorem r_rests (hW : Lay iw aw) (hs : s < 4) {n : Nat} (h6 : A 6 s = nI n) (hn : n < 2 ^ 30) : f_X8_rests cy (aw 0) (nI s) (MR cy iw aw μ1 I V A) = some (MR cy iw aw μ1 I V (updG (updG A 8 (upd (A 8) s 0)) 9 (upd (A 9) s (if n ≤ 5 then -1 else 0)))) := by
  unfold f_X8_rests f_X8_rests_L27
  have st1 := m_st (cy := cy) (μ0 := μ1) (I := I) (V := V) (A := A) (i := s) hW 8 rfl hs 0
  have r6 := m_ld (cy := cy) (μ0 := μ1) (I := I) (V := V) (A := updG A 8 (upd (A 8) s 0)) (i := s) hW 6 rfl hs
  rw [updG_ne (show 6 ≠ 8 by decide), h6] at r6
  have st2 := fun v => m_st (cy := cy) (μ0 := μ1) (I := I) (V := V) (A := updG A 8 (upd (A 8) s 0)) (i := s) hW 9 rfl hs v
  have st2' := fun v => st2 v
  rw [updG_ne (show 9 ≠ 8 by decide)] at st2'
  rw [m_ref hW rfl, Option.bind_some, show wrA cy (MR cy iw aw μ1 I V A) 1 (aw 8) (nI s) 0 = _ from st1, Option.bind_some, m_ref hW rfl, Option.bind_some, m_ref hW rfl, Option.bind_some, show rdA cy (MR cy iw aw μ1 I V (updG A 8 (upd (A 8) s 0))) 1 (aw 6) (nI s) = _ from r6, Option.bind_some]
  by_cases c : n ≤ 5
  · rw [if_pos (show nI n ≤ 5 from nI_le (b := 5) c (by decide)), if_pos c, show wrA cy (MR cy iw aw μ1 I V (updG A 8 (upd (A 8) s 0))) 1 (aw 9) (nI s) (-1) = _ from st2' _, Option.bind_some]
  · rw [if_neg (show ¬ nI n ≤ 5 from nI_ge (a := 5) (by omega) (by omega)), if_neg c, show wrA cy (MR cy iw aw μ1 I V (updG A 8 (upd (A 8) s 0))) 1 (aw 9) (nI s) 0 = _ from st2' _, Option.bind_some]
theorem r_57 (hW : Lay iw aw) (hs : s < 4) {n : Nat} {b : Nat → Nat} (hB : bB b) (hA : ∀ j, j < n → A 1 j = sx (b j)) (hn : n ≤ 2000) : ∀ (j k f : Nat) (dn : Nat → Int32), k + j = n → j < f → (∀ i, i < k → dn i = sx (b i)) → ∃ dn', f_X8_take_L57 cy f (aw 0) (nI s) (nI n) (nI k) (MR cy iw aw μ1 I V (updG A (50 + s) dn)) = some (nI n, MR cy iw aw μ1 I V (updG (updG (updG (updG A (50 + s) dn') 6 (upd (A 6) s (nI n))) 8 (upd (A 8) s 0)) 9 (upd (A 9) s (if n ≤ 5 then -1 else 0)))) ∧ ∀ i, i < n → dn' i = sx (b i)
  | j, k, 0, dn, _, hf, _ => by omega
  | 0, k, f + 1, dn, hk, _, h => by
    have : k = n := by omega
    subst this
    refine ⟨dn, ?_, h⟩
    have st := m_st (cy := cy) (μ0 := μ1) (I := I) (V := V) (A := updG A (50 + s) dn) (i := s) hW 6 rfl hs (nI k)
    rw [updG_ne (show 6 ≠ 50 + s by omega)] at st
    have rr := r_rests (cy := cy) (μ1 := μ1) (I := I) (V := V) (A := updG (updG A (50 + s) dn) 6 (upd (A 6) s (nI k))) hW hs (n := k) (by rw [updG_self, upd_self']) (by omega)
    rw [updG_ne (show 8 ≠ 6 by decide), updG_ne (show 8 ≠ 50 + s by omega), updG_ne (show 9 ≠ 6 by decide), updG_ne (show 9 ≠ 50 + s by omega)] at rr
    rw [f_X8_take_L57, if_pos (nI_le (Nat.le_refl _) (by omega)), m_ref hW rfl, Option.bind_some, show wrA cy (MR cy iw aw μ1 I V (updG A (50 + s) dn)) 1 (aw 6) (nI s) (nI k) = _ from st, Option.bind_some, if_pos (r_is hW), rr, Option.bind_some]
  | j + 1, k, f + 1, dn, hk, hf, h => by
    obtain ⟨dn', e1, e2⟩ := r_57 hW hs hB hA hn j (k + 1) f (upd dn k (sx (b k))) (by omega) (by omega) (fun i hi => by
      by_cases c : i = k
      · subst c; exact upd_self'
      · rw [upd_ne' c]; exact h i (by omega))
    refine ⟨dn', ?_, e2⟩
    obtain ⟨a1, a2, a3⟩ := arr_doc hs
    have rt := m_ld (cy := cy) (μ0 := μ1) (I := I) (V := V) (A := updG A (50 + s) dn) (i := k) hW 1 rfl (by show k < 2000; omega)
    rw [updG_ne (show 1 ≠ 50 + s by omega), hA k (by omega)] at rt
    have st := m_st (cy := cy) (μ0 := μ1) (I := I) (V := V) (A := updG A (50 + s) dn) (i := k) hW (50 + s) a1 (by rw [a3]; omega) (sx (b k))
    rw [a2, updG_self, updG_updG] at st
    have nb : vp_nar .byte (sx (b k)) = sx (b k) := bB_of (hB k)
    rw [f_X8_take_L57, if_neg (nI_ge (by omega) (by omega)), m_ref hW rfl, Option.bind_some, m_docs hW hs, Option.bind_some, m_ref hW rfl, Option.bind_some, show rdA cy (MR cy iw aw μ1 I V (updG A (50 + s) dn)) 0 (aw 1) (nI k) = _ from rt, Option.bind_some, nb, st, Option.bind_some, nI_a1]
    exact e1
theorem jEnd_0 {J : JR} {n : Nat} (hF : okF J) (h : fkI (jEnd J n) = 0) : ∃ q K, J = .inr (q, K) ∧ n ≤ q := by
  unfold jEnd at h
  cases J with
  | inl f =>
    have := hF f rfl
    have h : nI f.1 = 0 := h
    have := (nI_eq (b := 0) (by omega) (by decide)).mp h
    omega
  | inr q =>
    refine ⟨q.1, q.2, rfl, ?_⟩
    by_cases c : q.1 < n
    · have h : fkI (if q.1 < n then some (9, q.1) else none) = 0 := h
      rw [if_pos c] at h
      have h : nI 9 = 0 := h
      exact absurd h (by decide)
    · omega
theorem okI_0 {f : Option (Nat × Nat)} (h : fkI f = 0) (hF : ∀ z, f = some z → 1 ≤ z.1 ∧ z.1 ≤ 9) : okI f = 1 ∧ fpI f = -1 := by
  cases f with
  | none => exact ⟨rfl, rfl⟩
  | some z =>
    have h : nI z.1 = 0 := h
    have := hF z rfl
    have := (nI_eq (b := 0) (by omega) (by decide)).mp h
    omega
theorem okI_1 {f : Option (Nat × Nat)} (h : ¬ fkI f = 0) : okI f = 0 := by
  cases f with
  | none => exact absurd rfl h
  | some z => rfl
theorem jEnd_F {J : JR} {n : Nat} (hF : okF J) : ∀ z, jEnd J n = some z → 1 ≤ z.1 ∧ z.1 ≤ 9 := fun z h => by
  unfold jEnd at h
  cases J with
  | inl f =>
    have h : some f = some z := h
    cases h
    exact hF _ rfl
  | inr q =>
    have h : (if q.1 < n then some (9, q.1) else none) = some z := h
    by_cases c : q.1 < n
    · rw [if_pos c] at h
      cases h
      exact ⟨(show 1 ≤ 9 by decide), (show 9 ≤ 9 by decide)⟩
    · rw [if_neg c] at h
      cases h
theorem k_take (hL : Lay6 iv ad) (hW : Lay iw aw) (R0 : REL J B I A) (x : Int32) : ANS cy iv ad μ0 iw aw μ1 ["java/lang/IndexOutOfBoundsException", "java/lang/IllegalArgumentException"] (f_X6_take cy (ad 0) x (MC cy iv ad μ0 J w B)) (f_X8_take cy (aw 0) x (MR cy iw aw μ1 I V A)) := by
  unfold f_X6_take f_X8_take f_X8_take_L45
  obtain ⟨J1, B1, tn, tb, e1, R, g1, g2, g3, g4, i2, tA1⟩ := k_tape (cy := cy) (μ0 := μ0) (w := w) hL R0
  rw [if_pos (g_is hL), e1, Option.bind_some, if_pos (g_is hL), show rdI (MR cy iw aw μ1 I V A) (aw 0) 7 2 = some (I 2) from m_int hW rfl, Option.bind_some, m_put hW rfl (by decide), Option.bind_some, if_pos (r_is hW)]
  rcases sh4 x with ⟨s, hs, rfl⟩ | hx
  · obtain ⟨K, e2⟩ := k_jRoot (cy := cy) (μ0 := μ0) (w := w) (j := 22) (n := tn) (b := tb) hL rfl g1 g4 g2
    have F : MF iw aw (upd (upd (upd I 2 0) 0 0) 2 (nI tn)) A tn tb := ⟨hW, upd_self', tA1, g3, g4⟩
    obtain ⟨G', e3⟩ := m_judgeRoot (cy := cy) (μ0 := μ1) (V := V) F
    have hF := jDoc_f (h := hb tb) (wt := -1) 24 K0 0 tn false
    rw [g_shelf hL hs, obX2_r, g_ref hL (k := 3) rfl, Option.bind_some, g_ref hL (k := 1) rfl, Option.bind_some, if_pos (k_rdI hL), e2, Option.bind_some, g_ref hL (k := 3) rfl, Option.bind_some, k_rd hL 1 rfl, Option.bind_some, Option.bind_some, k_rd hL 2 rfl, Option.bind_some, if_pos (g_is hL), r_shelf hW hs, ob2_some, if_pos (show (0 : Int32) = 0 from rfl), m_put hW rfl (by decide), Option.bind_some, if_pos (r_is hW), i2, e3, ob2_some, m_put hW rfl (by decide), Option.bind_some]
    have upF : ∀ (J0 : Nat → Int32) (a b c d : Int32) (K : Kt), upR J0 a b c d K 101 = c ∧ upR J0 a b c d K 102 = d := fun J0 a b c d K => ⟨rfl, rfl⟩
    rw [(upF _ _ _ _ _ _).1, (upF _ _ _ _ _ _).2]
    generalize hfk : fkI (jEnd (jDoc (hb tb) (-1) 24 K0 0 tn false) tn) = fk at *
    generalize hfp : fpI (jEnd (jDoc (hb tb) (-1) 24 K0 0 tn false) tn) = fp at *
    have RF := (R.i0 (x := 0)).ft (fk := fk) (fp := fp) (J' := upR J1 0 (-1) fk fp K) (G := G') (fun k hk => upR_ne (by omega))
    have eI : ∀ k, 0 < k → k < 14 → (upd (upd (upd (upd (upd (upd I 2 0) 0 0) 2 (nI tn)) 3 fk) 4 fp) 2 0) k = (upd (upd (upd (upd I 2 0) 0 0) 3 fk) 4 fp) k := fun k k1 k2 => by
      by_cases c2 : k = 2
      · subst c2; rfl
      · rw [upd_ne' c2]
        by_cases c4 : k = 4
        · subst c4; rfl
        · rw [upd_ne' c4, upd_ne' c4]
          by_cases c3 : k = 3
          · subst c3; rfl
          · rw [upd_ne' c3, upd_ne' c3, upd_ne' c2]
    by_cases c : fk = 0
    · obtain ⟨q, Kq, ej, hq⟩ := jEnd_0 hF (by rw [hfk]; exact c)
      have hb' := jDoc_b 24 _ _ _ _ _ _ ej
      have hqn : q = tn := by omega
      have hd : dOk (hb tb) 24 0 tn false := ⟨Kq, by rw [ej, hqn]⟩
      have ok := okI_0 (f := jEnd (jDoc (hb tb) (-1) 24 K0 0 tn false) tn) (by rw [hfk]; exact c) (jEnd_F hF)
      obtain ⟨bs, n, G, d, m, at', S, hat, Rs⟩ := RF.2.2.1 s hs
      obtain ⟨J2, B2, nb, m', f1, f2, f3, f4, f5, f6, f7⟩ := g_become (cy := cy) (μ0 := μ0) (w := ad 22) (k := 22) (kn := tn) (kb := tb) hL hs S rfl (by have := (sS_s hs).2.1; omega) (by rw [upd_ne' (by decide), upd_ne' (by decide), upR_ne (by decide)]; exact g1) g4 g2 g3 (by omega) hd
      obtain ⟨dn', h1, h2⟩ := r_57 (cy := cy) (μ1 := μ1) (I := upd (upd (upd (upd (upd (upd I 2 0) 0 0) 2 (nI tn)) 3 fk) 4 fp) 2 0) (V := V) (A := updG A 20 G') hW hs g3 (by rw [updG_ne (by decide)]; exact tA1) g4 tn 0 FU (updG A 20 G' (50 + s)) (by omega) (by show tn < 100000; omega) (fun i hi => by omega)
      rw [updG_id] at h1
      have h1' : f_X8_take_L57 cy FU (aw 0) (nI s) (nI tn) 0 (MR cy iw aw μ1 (upd (upd (upd (upd (upd (upd I 2 0) 0 0) 2 (nI tn)) 3 fk) 4 fp) 2 0) V (updG A 20 G')) = _ := h1
      have z := sS_s hs
      have a := shf_sp z.1
      have sz : J2 (100 * sS (90 + s) + 1) = nI tn := (f2 G).1
      rw [g_fault hL, if_pos c, obX_r, g_ref hL (k := 1) rfl, Option.bind_some, if_pos (F_is hL z.1), f1, Option.bind_some, F_r0 hL z.1, Option.bind_some, P_size (j := sS (90 + s)) (n := tn) hL a.1 sz, Option.bind_some, ok.1, if_neg (show ¬ (1 : Int32) = 0 by decide), if_pos (r_is hW), r_thr0, ob2_some, if_pos (show (0 : Int32) = 0 from rfl), h1']
      refine ans_ok rfl rfl ?_ ((RF.fr (fun _ _ _ => rfl) (fun _ _ => rfl) eI (fun _ _ => rfl)).sh hs ⟨nb, tn, G, 0, m', num0 m', f2 G, f5, ?_, ?_, ?_, ?_, ?_⟩ (fun k k1 k2 k3 k4 => f6 k (by omega) (by omega)) (fun k k1 k2 k3 => f7 k (by omega) (by omega)) (fun _ _ _ => rfl) (fun j hj j1 j2 j3 j4 j5 => by rw [updG_ne j3, updG_ne j2, updG_ne j1, updG_ne j4]) (fun j t hj ht => ?_))
      · rfl
      · intro j hj
        rw [updG_ne (by omega), updG_ne (by omega), updG_ne (by omega), updG_self, h2 j hj, f3 j hj]
      · rw [updG_ne (by decide), updG_ne (by decide), updG_self, upd_self']
      · intro k hk; omega
      · rw [updG_ne (by decide), updG_self, upd_self']; rfl
      · rw [updG_self, upd_self', f4]
      · by_cases j9 : j = 9
        · subst j9; rw [updG_self, upd_ne' ht]
        · rw [updG_ne j9]
          by_cases j8 : j = 8
          · subst j8; rw [updG_self, upd_ne' ht]
          · rw [updG_ne j8]
            have j6 : j = 6 := by omega
            subst j6
            rw [updG_self, upd_ne' ht]
    · have ok := okI_1 (f := jEnd (jDoc (hb tb) (-1) 24 K0 0 tn false) tn) (by rw [hfk]; exact c)
      rw [g_fault hL, if_neg c, obX_l, ok, if_pos (show (0 : Int32) = 0 from rfl), if_pos (r_is hW), r_thr1 hW, ob2_some, if_neg (show ¬ (1 : Int32) = 0 by decide)]
      refine ans_th 2 (by decide) (by decide) rfl rfl rfl rfl (RF.fr (fun _ _ _ => rfl) (fun _ _ => rfl) (fun k k1 k2 => ?_) (fun _ _ => rfl))
      show (upd _ 0 _) k = _
      rw [upd_ne' (by omega)]
      exact eI k k1 k2
  · rw [g_noShelf hx, obX2_l, r_noShelf hW hx, ob2_some, if_neg (show ¬ (1 : Int32) = 0 by decide)]
    exact ans_th 1 (by decide) (by decide) rfl rfl rfl rfl R.i0
end KA7
