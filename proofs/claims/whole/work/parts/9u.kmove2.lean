/-! THE CALLS: move, put together. -/
section KM2
variable {cy : Nat → ClassId} {iv : Nat → Option Nat} {ad : Nat → Nat} {μ0 : Mem} {J : Nat → Int32} {w : Nat} {B : Nat → Nat → Int32} {iw : Nat → Option Nat} {aw : Nat → Nat} {μ1 : Mem} {I : Nat → Int32} {V : Nat → Value} {A : Nat → Nat → Int32} {s : Nat} {bs : Nat → Nat} {n : Nat} {N : Nat} {c : Nat → Nat} {X : Nat → Nat → Int32}
theorem y_82 {G : Nat → Nat} {d : Nat} {at' : Int32} (F : TX iw aw V A 21 60 (50 + s) bs n) (hs4 : s < 4) (Rs : RSh A s bs n G d at') {u v m : Nat} {mv : Int32} (hat : at' = nI u) (hv : v < m) (hm : m < 1300) : ∀ (j k f : Nat) (oc : Nat → Int32), u ≤ k → k + j = v → j < f → (∀ x, u ≤ x → x < k → oc x = nI (c (x + 1))) → (∀ x, x < u ∨ k ≤ x → x < m → oc x = nI (c x)) → ∃ oc', f_X8_move_L82 cy f (aw 0) (nI s) (nI v) mv (nI k) (MT cy iw aw μ1 I V (updG A 30 oc) 60 N X) = f_X8_move_L118 cy FU (aw 0) (nI s) (nI v) mv (nI u) (MT cy iw aw μ1 I V (updG A 30 oc') 60 N X) ∧ (∀ x, u ≤ x → x < v → oc' x = nI (c (x + 1))) ∧ (∀ x, x < u ∨ v ≤ x → x < m → oc' x = nI (c x))
  | j, k, 0, oc, _, _, hf, _, _ => by omega
  | 0, k, f + 1, oc, hk, hkv, _, h1, h2 => by
    have : k = v := by omega
    subst this
    have t1 := F.tt
    have F' := F.a (j := 30) (f := oc) (by omega)
    have a9 := x_al (cy := cy) (μ0 := μ1) (I := I) (N := N) (X := X) (i := s) F' 9 rfl (by decide) hs4
    rw [updG_ne (show 9 ≠ 30 by decide), Rs.2.2.2.2, hat] at a9
    refine ⟨oc, ?_, h1, h2⟩
    rw [f_X8_move_L82, if_pos (nI_le (Nat.le_refl _) (by omega)), x_ref F' (k := 9) rfl, Option.bind_some, show rdA cy (MT cy iw aw μ1 I V (updG A 30 oc) 60 N X) 1 (aw 9) (nI s) = _ from a9, Option.bind_some]
  | j + 1, k, f + 1, oc, hk, hkv, hf, h1, h2 => by
    have t1 := F.tt
    have F' := F.a (j := 30) (f := oc) (by omega)
    obtain ⟨oc', e1, e2, e3⟩ := y_82 F hs4 Rs hat hv hm j (k + 1) f (upd oc k (nI (c (k + 1)))) (by omega) (by omega) (by omega) (fun x x1 x2 => by
      by_cases q : x = k
      · subst q; exact upd_self'
      · rw [upd_ne' q]; exact h1 x x1 (by omega)) (fun x x1 x2 => by rw [upd_ne' (by omega)]; exact h2 x (by omega) x2)
    refine ⟨oc', ?_, e2, e3⟩
    have rd := x_al (cy := cy) (μ0 := μ1) (I := I) (N := N) (X := X) (i := k + 1) F' 30 rfl (by decide) (by show k + 1 < 1301; omega)
    rw [updG_self, h2 (k + 1) (by omega) (by omega)] at rd
    have st := x_as (cy := cy) (μ0 := μ1) (I := I) (N := N) (X := X) (i := k) F' 30 rfl (by decide) (by show k < 1301; omega) (nI (c (k + 1)))
    rw [updG_self, updG_updG] at st
    rw [f_X8_move_L82, if_neg (nI_ge (by omega) (by omega)), x_ref F' (k := 30) rfl, Option.bind_some, Option.bind_some, nI_a1, show rdA cy (MT cy iw aw μ1 I V (updG A 30 oc) 60 N X) 1 (aw 30) (nI (k + 1)) = _ from rd, Option.bind_some, show wrA cy (MT cy iw aw μ1 I V (updG A 30 oc) 60 N X) 1 (aw 30) (nI k) (nI (c (k + 1))) = _ from st, Option.bind_some]
    exact e1
theorem y_118 (F : TX iw aw V A 21 60 (50 + s) bs n) {u v m : Nat} {mv : Int32} (hu : u < m) (hm : m < 1300) : ∀ (j k f : Nat) (oc : Nat → Int32), v + j = k → k ≤ u → j < f → (∀ x, k < x → x ≤ u → oc x = nI (c (x - 1))) → (∀ x, x ≤ k ∨ u < x → x < m → oc x = nI (c x)) → ∃ oc', f_X8_move_L118 cy f (aw 0) (nI s) (nI v) mv (nI k) (MT cy iw aw μ1 I V (updG A 30 oc) 60 N X) = f_X8_move_L118 cy 1 (aw 0) (nI s) (nI v) mv (nI v) (MT cy iw aw μ1 I V (updG A 30 oc') 60 N X) ∧ (∀ x, v < x → x ≤ u → oc' x = nI (c (x - 1))) ∧ (∀ x, x ≤ v ∨ u < x → x < m → oc' x = nI (c x))
  | j, k, 0, oc, _, _, hf, _, _ => by omega
  | 0, k, f + 1, oc, hk, hkv, _, h1, h2 => by
    have : k = v := by omega
    subst this
    refine ⟨oc, ?_, h1, h2⟩
    rw [f_X8_move_L118, f_X8_move_L118, if_pos (nI_le (Nat.le_refl _) (by omega)), if_pos (nI_le (Nat.le_refl _) (by omega))]
  | j + 1, k, f + 1, oc, hk, hkv, hf, h1, h2 => by
    have t1 := F.tt
    have F' := F.a (j := 30) (f := oc) (by omega)
    obtain ⟨k', rfl⟩ : ∃ k', k = k' + 1 := ⟨k - 1, by omega⟩
    obtain ⟨oc', e1, e2, e3⟩ := y_118 (v := v) (mv := mv) F hu hm j k' f (upd oc (k' + 1) (nI (c k'))) (by omega) (by omega) (by omega) (fun x x1 x2 => by
      by_cases q : x = k' + 1
      · subst q; exact upd_self'
      · rw [upd_ne' q]; exact h1 x (by omega) x2) (fun x x1 x2 => by rw [upd_ne' (by omega)]; exact h2 x (by omega) x2)
    refine ⟨oc', ?_, e2, e3⟩
    have rd := x_al (cy := cy) (μ0 := μ1) (I := I) (N := N) (X := X) (i := k') F' 30 rfl (by decide) (by show k' < 1301; omega)
    rw [updG_self, h2 k' (by omega) (by omega)] at rd
    have st := x_as (cy := cy) (μ0 := μ1) (I := I) (N := N) (X := X) (i := k' + 1) F' 30 rfl (by decide) (by show k' + 1 < 1301; omega) (nI (c k'))
    rw [updG_self, updG_updG] at st
    conv => lhs; rw [f_X8_move_L118, if_neg (nI_ge (by omega) (by omega)), x_ref F' (k := 30) rfl, Option.bind_some, Option.bind_some, nI_pr, show rdA cy (MT cy iw aw μ1 I V (updG A 30 oc) 60 N X) 1 (aw 30) (nI k') = _ from rd, Option.bind_some, show wrA cy (MT cy iw aw μ1 I V (updG A 30 oc) 60 N X) 1 (aw 30) (nI (k' + 1)) (nI (c k')) = _ from st, Option.bind_some, nI_m]
    exact e1
/-- the order with u moved to v -/
theorem y_mv {G : Nat → Nat} {d : Nat} {at' : Int32} (F : TX iw aw V A 21 60 (50 + s) bs n) (hs4 : s < 4) (Rs : RSh A s bs n G d at') {u v m : Nat} {mv : Int32} (hat : at' = nI u) (hu : u < m) (hv : v < m) (hm : m < 1300) {oc : Nat → Int32} (h : ∀ x, x < m → oc x = nI (c x)) : ∃ oc' k0, f_X8_move_L82 cy FU (aw 0) (nI s) (nI v) mv (nI u) (MT cy iw aw μ1 I V (updG A 30 oc) 60 N X) = f_X8_move_L118 cy 1 (aw 0) (nI s) (nI v) mv (nI k0) (MT cy iw aw μ1 I V (updG A 30 oc') 60 N X) ∧ k0 ≤ v ∧ ∀ x, x < m → x ≠ v → oc' x = nI (c (mvp u v x)) := by
  by_cases q : u ≤ v
  · obtain ⟨oc', e1, e2, e3⟩ := y_82 (cy := cy) (μ1 := μ1) (I := I) (N := N) (X := X) (c := c) (mv := mv) F hs4 Rs hat hv hm (v - u) u FU oc (Nat.le_refl _) (by omega) (by show v - u < 100000; omega) (fun x x1 x2 => by omega) (fun x x1 x2 => h x x2)
    refine ⟨oc', u, ?_, q, fun x hx hxv => ?_⟩
    · rw [e1]
      show f_X8_move_L118 cy (99999 + 1) (aw 0) (nI s) (nI v) mv (nI u) _ = _
      rw [f_X8_move_L118, f_X8_move_L118, if_pos (nI_le q (by omega)), if_pos (nI_le q (by omega))]
    · unfold mvp
      rw [if_pos q]
      by_cases c1 : x < u
      · rw [if_pos c1]; exact e3 x (by omega) hx
      · rw [if_neg c1]
        by_cases c2 : x < v
        · rw [if_pos c2]; exact e2 x (by omega) c2
        · rw [if_neg c2, if_neg hxv]; exact e3 x (by omega) hx
  · have t1 := F.tt
    have F' := F.a (j := 30) (f := oc) (by omega)
    have a9 := x_al (cy := cy) (μ0 := μ1) (I := I) (N := N) (X := X) (i := s) F' 9 rfl (by decide) hs4
    rw [updG_ne (show 9 ≠ 30 by decide), Rs.2.2.2.2, hat] at a9
    obtain ⟨oc', e1, e2, e3⟩ := y_118 (cy := cy) (μ1 := μ1) (I := I) (N := N) (X := X) (c := c) (v := v) (mv := mv) F hu hm (u - v) u FU oc (by omega) (Nat.le_refl _) (by show u - v < 100000; omega) (fun x x1 x2 => by omega) (fun x x1 x2 => h x x2)
    refine ⟨oc', v, ?_, Nat.le_refl _, fun x hx hxv => ?_⟩
    · show f_X8_move_L82 cy (99999 + 1) (aw 0) (nI s) (nI v) mv (nI u) _ = _
      rw [f_X8_move_L82, if_pos (nI_le (by omega) (by omega)), x_ref F' (k := 9) rfl, Option.bind_some, show rdA cy (MT cy iw aw μ1 I V (updG A 30 oc) 60 N X) 1 (aw 9) (nI s) = _ from a9, Option.bind_some, e1]
    · unfold mvp
      rw [if_neg q]
      by_cases c1 : x < v
      · rw [if_pos c1]; exact e3 x (by omega) hx
      · rw [if_neg c1, if_neg hxv]
        by_cases c2 : x ≤ u
        · rw [if_pos c2]; exact e2 x (by omega) c2
        · rw [if_neg c2]; exact e3 x (by omega) hx
theorem k_move (hL : Lay6 iv ad) (hW : Lay iw aw) (R : REL J B I A) (x y : Int32) : ANS cy iv ad μ0 iw aw μ1 ["java/lang/IndexOutOfBoundsException", "java/util/NoSuchElementException"] (f_X6_move cy (ad 0) x y (MC cy iv ad μ0 J w B)) (f_X8_move cy (aw 0) x y (MR cy iw aw μ1 I V A)) := by
  unfold f_X6_move f_X8_move f_X8_move_L25 f_X8_move_L52
  rw [if_pos (g_is hL), if_pos (r_is hW)]
  rcases sh4 x with ⟨s, hs4, rfl⟩ | hx
  · obtain ⟨bs, n, G, d, m, at', S, hat, Rs⟩ := R.2.2.1 s hs4
    have z := sS_s hs4
    have a := shf_sp z.1
    have C := S.2.2.2.2
    have hn := S.2.2.2.1
    have hlv := C.lvl
    have W := C.2.2.2.2.2.2.2.2.2.1
    have hm := C.2.2.2.2.2.2.2.2.1
    obtain ⟨r, hDc⟩ := C.2.2.2.2.2.2.2.2.2.2
    have r9 := m_ld (cy := cy) (μ0 := μ1) (I := upd I 0 0) (V := V) (A := A) (i := s) hW 9 rfl hs4
    rw [Rs.2.2.2.2] at r9
    rw [g_shelf hL hs4, obX2_r, g_noEl hL hs4 S, r_shelf hW hs4, ob2_some, if_pos (show (0 : Int32) = 0 from rfl), m_ref hW rfl, Option.bind_some, show rdA cy (MR cy iw aw μ1 (upd I 0 0) V A) 1 (aw 9) (nI s) = _ from r9, Option.bind_some]
    rcases hat.i (by omega) with ⟨h1, h2⟩ | ⟨u, hu, h1, h2, h3⟩
    · rw [if_pos h1, obX_l, if_neg h2, if_pos (r_is hW), r_thr1 hW, ob2_some, if_neg (show ¬ (1 : Int32) = 0 by decide)]
      exact ans_th 2 (by decide) (by decide) rfl rfl rfl rfl R.i0.i0
    · obtain ⟨N, X, ν, hi, m2, c, I', oc, e2, tw, F, oc1, j28, j29, j31, j32, j33, jo⟩ := y_changes (cy := cy) (μ0 := μ1) (I := upd I 0 0) (V := V) hW hs4 Rs S.2.2.1 W
      have em := tw.m W hDc
      subst em
      have wn := tw.wn
      have K := tw.2.2.2.2
      have hD := K.1
      have hD1 := hD.1
      have hD2 := hD.2.1
      have R1 : REL J B I' (updG A 30 oc) := (R.i0 (x := 0)).fr (fun _ _ _ => rfl) (fun _ _ => rfl) (fun k k1 k2 => jo k (by omega) (by omega) (by omega) (by omega) (by omega)) (fun j hj => by unfold rlv at hj; exact updG_ne (by omega))
      have j0 : I' 0 = 0 := by rw [jo 0 (by decide) (by decide) (by decide) (by decide) (by decide)]; rfl
      have i31 : rdI (MT cy iw aw μ1 I' (updG V 60 (.ref (aw (50 + s)))) (updG A 30 oc) 60 N X) (aw 0) 7 31 = some (nI m2) := by rw [← j31]; exact m_int hW rfl
      rw [if_neg h2, obX_r, F_r1 hL z.1, Option.bind_some, if_pos (C_is hL a.2.1), C_has hL a.2.1 C, ob2_some, if_pos h3, if_pos (r_is hW), r_thr0, ob2_some, if_pos (show (0 : Int32) = 0 from rfl), if_pos (r_is hW), e2, ob2_some]
      by_cases c1 : y < 0
      · rw [if_pos (Or.inl c1), if_pos (show (0 : Int32) = 0 from rfl), if_pos c1]
        exact ans_ok rfl rfl j0 (R1.t (by decide))
      · rw [if_neg c1, i31, Option.bind_some]
        by_cases c2 : nI m2 ≤ y
        · rw [if_pos (Or.inr c2), if_pos (show (0 : Int32) = 0 from rfl), if_neg (fun q => Int32.not_lt.mpr c2 q)]
          exact ans_ok rfl rfl j0 (R1.t (by decide))
        · obtain ⟨v, hv, rfl⟩ := nI_ex c1 c2 (by omega)
          have e30 : ∀ f, updG (updG A 30 oc) 30 f = updG A 30 f := fun f => updG_updG
          have FF : ∀ f, TX iw aw (updG V 60 (.ref (aw (50 + s)))) (updG A 30 f) 21 60 (50 + s) bs n := fun f => by have := F.a (j := 30) (f := f) (by omega); rw [e30] at this; exact this
          have Rs3 : ∀ f, RSh (updG A 30 f) s bs n G d at' := fun f => Rs.fr (by rw [updG_ne (by omega)]) (by rw [updG_ne (by decide)]) (by rw [updG_ne (by omega)]) (by rw [updG_ne (by decide)]) (by rw [updG_ne (by decide)])
          obtain ⟨oc', k0, l1, l2, l3⟩ := y_mv (cy := cy) (μ1 := μ1) (I := upd I' 29 1300) (N := N) (X := X) (c := c) (mv := nI (c u)) F hs4 (Rs3 oc) h1 hu hv (by omega) oc1
          rw [e30, e30] at l1
          -- the class's draft
          have drf : ∃ μd, DG cy iv ad μ0 (upd J (100 * (90 + s) + 3) (nI m2)) w B bs (wD (hb bs) n G d + 4) (cat (fun x => pce bs n (wD (hb bs) n G d) (wT (hb bs) n G d == 4) (mvp u v x) x) m2) μd ∧ ((f_X4_startDraft cy (ad (90 + s)) (MC cy iv ad μ0 J w B)).bind fun μ24 => if isO μ24 (ad (90 + s)) 3 = true then ((f_X4_keepElements cy (ad (90 + s)) 0 (if nI u < nI v then nI u else nI v) μ24).bind fun μ27 => if nI v ≤ nI u then (f_X6_move_L64 cy (ad 0) (nI s) (nI v) (ad (90 + s)) (nI u) μ27) else if isO μ27 (ad (90 + s)) 3 = true then ((f_X4_keepElements cy (ad (90 + s)) (nI u + 1) (nI v + 1) μ27).bind fun μ31 => f_X6_move_L64 cy (ad 0) (nI s) (nI v) (ad (90 + s)) (nI u) μ31) else none) else none) = (if isO μd (ad 0) 5 = true then (obX2 (f_X6_finishChange cy (ad 0) (nI s) (nI v) μd) fun r113 μ110 => some (.inr (1, μ110))) else none) := by
            obtain ⟨μa, ea, Ga⟩ := F_startDraft (cy := cy) (μ0 := μ0) (w := w) hL z.1 S R.2.2.2.2.2.2.1
            have S0 := S.up z.1 (x := 0)
            have Sn := fun k => S.up z.1 (x := nI k)
            by_cases q : u < v
            · obtain ⟨μb, eb, Gb⟩ := F_keep (i := 0) (j := u) (dr := 0) hL z.1 S0 Ga (Nat.zero_le _) (by omega) upd_self' (by decide)
              rw [upd_upd, Nat.zero_add, Nat.sub_zero] at Gb
              obtain ⟨μc, ec, Gc⟩ := F_keep (i := u + 1) (j := v + 1) (dr := u) hL z.1 (Sn u) Gb (by omega) (by omega) upd_self' (by omega)
              rw [upd_upd, show v + 1 - (u + 1) = v - u by omega, show u + (v - u) = v by omega] at Gc
              obtain ⟨μe, ee, Ge⟩ := F_keep (i := u) (j := u + 1) (dr := v) hL z.1 (Sn v) Gc (by omega) (by omega) upd_self' (by omega)
              rw [upd_upd, show u + 1 - u = 1 by omega] at Ge
              obtain ⟨μf, ef, Gf⟩ := F_keep (i := v + 1) (j := m2) (dr := v + 1) hL z.1 (Sn (v + 1)) Ge (by omega) (Nat.le_refl _) upd_self' (by omega)
              rw [upd_upd, show v + 1 + (m2 - (v + 1)) = m2 by omega] at Gf
              refine ⟨μf, by rw [cat_mv1 (by omega) hv]; exact Gf, ?_⟩
              obtain ⟨Ja, Ba, fa, Ta, -, -⟩ := S0.dg z.1 Ga
              obtain ⟨Jb, Bb, fb, Tb, -, -⟩ := (Sn u).dg z.1 Gb
              obtain ⟨Jc, Bc, fc, Tc, -, -⟩ := (Sn v).dg z.1 Gc
              obtain ⟨Je, Be, fe, Te, -, -⟩ := (Sn (v + 1)).dg z.1 Ge
              unfold f_X6_move_L64 f_X6_move_L87
              rw [ea, Option.bind_some]
              rw [fa] at eb ⊢
              have eb' : f_X4_keepElements cy (ad (90 + s)) 0 (nI u) (MC cy iv ad μ0 Ja w Ba) = some μb := eb
              rw [if_pos (F_is hL z.1), if_pos (nI_lt q (by omega)), eb', Option.bind_some, if_neg (nI_ge q (by omega))]
              rw [fb] at ec ⊢
              rw [if_pos (F_is hL z.1), nI_a1, nI_a1, ec, Option.bind_some]
              rw [fc] at ee ⊢
              rw [if_pos (F_is hL z.1), ee, Option.bind_some, if_pos (nI_le (by omega) (by omega))]
              rw [fe] at ef ⊢
              rw [F_r1 hL z.1, Option.bind_some, C_cnt hL a.2.1, Option.bind_some, Te.2.2.2.2.2.2.1, if_pos (F_is hL z.1), if_neg (nI_nlt (by omega) (by omega)), nI_a1, ef, Option.bind_some]
            · obtain ⟨μb, eb, Gb⟩ := F_keep (i := 0) (j := v) (dr := 0) hL z.1 S0 Ga (Nat.zero_le _) (by omega) upd_self' (by decide)
              rw [upd_upd, Nat.zero_add, Nat.sub_zero] at Gb
              obtain ⟨μe, ee, Ge⟩ := F_keep (i := u) (j := u + 1) (dr := v) hL z.1 (Sn v) Gb (by omega) (by omega) upd_self' (by omega)
              rw [upd_upd, show u + 1 - u = 1 by omega] at Ge
              obtain ⟨Ja, Ba, fa, Ta, -, -⟩ := S0.dg z.1 Ga
              obtain ⟨Jb, Bb, fb, Tb, -, -⟩ := (Sn v).dg z.1 Gb
              obtain ⟨Je, Be, fe, Te, -, -⟩ := (Sn (v + 1)).dg z.1 Ge
              by_cases q2 : v < u
              · obtain ⟨μc, ec, Gc⟩ := F_keep (i := v) (j := u) (dr := v + 1) hL z.1 (Sn (v + 1)) Ge (by omega) (by omega) upd_self' (by omega)
                rw [upd_upd, show v + 1 + (u - v) = u + 1 by omega] at Gc
                obtain ⟨μf, ef, Gf⟩ := F_keep (i := u + 1) (j := m2) (dr := u + 1) hL z.1 (Sn (u + 1)) Gc (by omega) (Nat.le_refl _) upd_self' (by omega)
                rw [upd_upd, show u + 1 + (m2 - (u + 1)) = m2 by omega] at Gf
                obtain ⟨Jc, Bc, fc, Tc, -, -⟩ := (Sn (u + 1)).dg z.1 Gc
                refine ⟨μf, by rw [cat_mv2 q2 hu]; exact Gf, ?_⟩
                unfold f_X6_move_L64 f_X6_move_L87
                rw [ea, Option.bind_some]
                rw [fa] at eb ⊢
                have eb' : f_X4_keepElements cy (ad (90 + s)) 0 (nI v) (MC cy iv ad μ0 Ja w Ba) = some μb := eb
                rw [if_pos (F_is hL z.1), if_neg (nI_nlt (by omega) (by omega)), eb', Option.bind_some, if_pos (nI_le (by omega) (by omega))]
                rw [fb] at ee ⊢
                rw [if_pos (F_is hL z.1), nI_a1, ee, Option.bind_some, if_neg (nI_ge q2 (by omega))]
                rw [fe] at ec ⊢
                rw [if_pos (F_is hL z.1), ec, Option.bind_some]
                rw [fc] at ef ⊢
                rw [F_r1 hL z.1, Option.bind_some, C_cnt hL a.2.1, Option.bind_some, Tc.2.2.2.2.2.2.1, if_pos (F_is hL z.1), if_pos (nI_lt q2 (by omega)), nI_a1, ef, Option.bind_some]
              · have uv : u = v := by omega
                obtain ⟨μf, ef, Gf⟩ := F_keep (i := v + 1) (j := m2) (dr := v + 1) hL z.1 (Sn (v + 1)) Ge (by omega) (Nat.le_refl _) upd_self' (by omega)
                rw [upd_upd, show v + 1 + (m2 - (v + 1)) = m2 by omega] at Gf
                refine ⟨μf, ?_, ?_⟩
                · rw [cat_mv1 (by omega) hv, uv, Nat.sub_self]
                  rw [uv] at Gf
                  show DG _ _ _ _ _ _ _ _ _ ([] ++ _ ++ [] ++ _ ++ _) _
                  rw [List.append_nil]
                  exact Gf
                · unfold f_X6_move_L64 f_X6_move_L87
                  rw [ea, Option.bind_some]
                  rw [fa] at eb ⊢
                  have eb' : f_X4_keepElements cy (ad (90 + s)) 0 (nI v) (MC cy iv ad μ0 Ja w Ba) = some μb := eb
                  rw [if_pos (F_is hL z.1), if_neg (nI_nlt (by omega) (by omega)), eb', Option.bind_some, if_pos (nI_le (by omega) (by omega))]
                  rw [fb] at ee ⊢
                  rw [if_pos (F_is hL z.1), nI_a1, ee, Option.bind_some, if_pos (nI_le (by omega) (by omega))]
                  rw [fe] at ef ⊢
                  rw [F_r1 hL z.1, Option.bind_some, C_cnt hL a.2.1, Option.bind_some, Te.2.2.2.2.2.2.1, if_pos (F_is hL z.1), if_neg (nI_nlt (by omega) (by omega)), nI_a1, ef, Option.bind_some]
          obtain ⟨μd, Gd, tl⟩ := drf
          have hP : ∀ x, x < m2 → eOk (hl (pce bs n (wD (hb bs) n G d) (wT (hb bs) n G d == 4) (mvp u v x) x)) (23 - d) 0 (pce bs n (wD (hb bs) n G d) (wT (hb bs) n G d == 4) (mvp u v x) x).length (rwo (wT (hb bs) n G d == 4) x) := fun x hx => pce_ok hD (mvp_lt hu hv hx)
          have hle : nLen bs n G d (cat (fun x => pce bs n (wD (hb bs) n G d) (wT (hb bs) n G d == 4) (mvp u v x) x) m2) ≤ n := by
            have ml := mv_len hD hu hv
            rw [hD.2.2.2.2.1] at ml
            unfold nLen
            omega
          have I29 : (upd I' 29 1300) 29 = nI 1300 := by rw [upd_self']; decide +kernel
          have ed := k_edit (cy := cy) (μ0 := μ0) (μ1 := μ1) (x := nI v) (oc := fun x => nI (c (mvp u v x))) (I := upd I' 29 1300) (A := updG A 30 (upd oc' v (nI (c u)))) (P := fun x => pce bs n (wD (hb bs) n G d) (wT (hb bs) n G d == 4) (mvp u v x) x) (m' := m2) hL hW (R1.fr (fun _ _ _ => rfl) (fun _ _ => rfl) (fun k k1 k2 => upd_ne' (by omega)) (fun j hj => by unfold rlv at hj; rw [updG_ne (by omega), updG_ne (by omega)])) hs4 S (Rs3 _) W Gd hP (by omega) (FF _) tw (by rw [upd_ne' (by decide)]; exact j28) (Or.inr ⟨1300, I29, by decide, by omega, Or.inr (Nat.le_refl _)⟩) (by omega) (by rw [upd_ne' (by decide)]; exact j31) (fun x hx => by
            rw [updG_self]
            by_cases xv : x = v
            · subst xv
              rw [upd_self']
              have : mvp u x x = u := by
                unfold mvp
                by_cases q : u ≤ x
                · rw [if_pos q, if_neg (by omega), if_neg (by omega), if_pos rfl]
                · rw [if_neg q, if_neg (by omega), if_pos rfl]
              rw [this]
            · rw [upd_ne' xv]; exact l3 x hx xv) (fun x hx => by
            have lt := mvp_lt hu hv hx
            have kx1 := K.inc (i := mvp u v x + 1) (by omega)
            exact w_keep (FF _) W tw (by rw [upd_ne' (by decide)]; exact j28) lt (by omega) (fun y a1 a2 q => by
              rw [I29] at q
              have := (nI_eq (by omega) (by decide)).mp q
              omega))
          obtain ⟨J', B', I2, V2, A2, f1, f2, f3, f4, f5, f6, f7⟩ := ed.2 (by omega)
          have od : isO μd (ad 0) 5 = true := by
            obtain ⟨Jg, Bg, eg, -, -⟩ := Gd.mem
            rw [eg]
            exact g_is hL
          rw [if_pos od, f1, obX2_r] at tl
          have nl := numL_i (m := m2) (i := v) hv (by omega)
          have rr := f7 (by rw [nl]; exact Or.inr ⟨v, hv, rfl⟩)
          rw [nl] at rr
          have u30 := x_al (cy := cy) (μ0 := μ1) (I := upd I' 29 1300) (V := updG V 60 (.ref (aw (50 + s)))) (N := N) (X := X) (i := u) (FF oc) 30 rfl (by decide) (by show u < 1301; omega)
          rw [updG_self, oc1 u hu] at u30
          have st := x_as (cy := cy) (μ0 := μ1) (I := upd I' 29 1300) (V := updG V 60 (.ref (aw (50 + s)))) (N := N) (X := X) (i := v) (FF oc') 30 rfl (by decide) (by show v < 1301; omega) (nI (c u))
          rw [updG_self, updG_updG] at st
          have st9 := m_st (cy := cy) (μ0 := μ1) (I := I2) (V := V2) (A := A2) (i := s) hW 9 rfl hs4 (nI v)
          rw [if_neg (show ¬ (nI v < 0 ∨ nI m2 ≤ nI v) from fun q => q.elim c1 c2), if_neg (show ¬ (1 : Int32) = 0 by decide), F_r1 hL z.1, Option.bind_some, C_num hL a.2.1, Option.bind_some, C.2.1, h1, if_pos (F_is hL z.1), tl, if_pos (nI_lt hv (by omega)), x_put F 29 rfl (by decide), Option.bind_some, x_ref F (k := 30) rfl, Option.bind_some, x_ref F (k := 9) rfl, Option.bind_some, x_at F hs4 (Rs3 oc), Option.bind_some, h1, show rdA cy (MT cy iw aw μ1 (upd I' 29 1300) (updG V 60 (.ref (aw (50 + s)))) (updG A 30 oc) 60 N X) 1 (aw 30) (nI u) = _ from u30, Option.bind_some, Option.bind_some, x_at F hs4 (Rs3 oc), Option.bind_some, h1, l1, f_X8_move_L118, if_pos (nI_le l2 (by omega)), x_ref (FF _) (k := 30) rfl, Option.bind_some, show wrA cy (MT cy iw aw μ1 (upd I' 29 1300) (updG V 60 (.ref (aw (50 + s)))) (updG A 30 oc') 60 N X) 1 (aw 30) (nI v) (nI (c u)) = _ from st, Option.bind_some, if_pos (x_o (FF _)), f2, ob2_some, m_ref hW rfl, Option.bind_some, show wrA cy (MR cy iw aw μ1 I2 V2 A2) 1 (aw 9) (nI s) (nI v) = _ from st9, Option.bind_some]
          exact ans_ok rfl rfl (by rw [f5]; exact j0) rr
  · rw [g_noShelf hx, obX2_l, r_noShelf hW hx, ob2_some, if_neg (show ¬ (1 : Int32) = 0 by decide)]
    exact ans_th 1 (by decide) (by decide) rfl rfl rfl rfl R.i0
end KM2
