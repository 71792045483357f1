/-! THE CALLS: drop. -/
section KD1
variable {cy : Nat → ClassId} {iv : Nat → Option Nat} {ad : Nat → Nat} {μ0 : Mem} {J : Nat → Int32} {w : Nat} {B : Nat → Nat → Int32} {iw : Nat → Option Nat} {aw : Nat → Nat} {μ1 : Mem} {I : Nat → Int32} {V : Nat → Value} {A : Nat → Nat → Int32} {s : Nat} {bs : Nat → Nat} {n : Nat}
def pDel (bs : Nat → Nat) (n D : Nat) (row : Bool) (i : Nat) (x : Nat) : List Nat := if x < i then pce bs n D row x x else pce bs n D row (x + 1) x
theorem cat_del {D i m : Nat} {row : Bool} (hi : i ≤ m) : cat (pDel bs n D row i) m = [] ++ cat (fun t => pce bs n D row (0 + t) (0 + t)) i ++ cat (fun t => pce bs n D row (i + 1 + t) (i + t)) (m - i) := by
  have em : m = i + (m - i) := by omega
  conv => lhs; rw [em, cat_split]
  rw [List.nil_append]
  congr 1
  · refine cat_congr (fun x hx => ?_)
    show (if x < i then _ else _) = _
    rw [if_pos hx, Nat.zero_add]
  · refine cat_congr (fun x hx => ?_)
    show (if i + x < i then _ else _) = _
    rw [if_neg (by omega), show i + x + 1 = i + 1 + x by omega]
theorem y_54 {N : Nat} {c : Nat → Nat} {X : Nat → Nat → Int32} (F : TX iw aw V A 21 60 (50 + s) bs n) {i m : Nat} (hi : i < m) (hm : m < 1300) (h31 : I 31 = nI m) : ∀ (j k f : Nat) (oc : Nat → Int32), k + j + 1 = m → i ≤ k → j < f → (∀ x, x < i → oc x = nI (c x)) → (∀ x, i ≤ x → x < k → oc x = nI (c (x + 1))) → (∀ x, k < x → x < m → oc x = nI (c x)) → ∃ oc', f_X8_drop_L54 cy f (aw 0) (nI s) (nI k) (MT cy iw aw μ1 I V (updG A 30 oc) 60 N X) = f_X8_drop_L54 cy 1 (aw 0) (nI s) (nI (m - 1)) (MT cy iw aw μ1 I V (updG A 30 oc') 60 N X) ∧ (∀ x, x < m - 1 → oc' x = nI (if x < i then c x else c (x + 1)))
  | j, k, 0, oc, _, _, hf, _, _, _ => by omega
  | 0, k, f + 1, oc, hk, hik, _, h1, h2, h3 => by
    have : k = m - 1 := by omega
    subst this
    have i31 : ∀ f, rdI (MT cy iw aw μ1 I V (updG A 30 f) 60 N X) (aw 0) 7 31 = some (nI m) := fun f => by rw [← h31]; exact m_int F.1 rfl
    refine ⟨oc, ?_, fun x hx => ?_⟩
    · have h : nI m ≤ nI (m - 1 + 1) := nI_le (by omega) (by omega)
      rw [f_X8_drop_L54, f_X8_drop_L54]
      simp only [i31, Option.bind_some, nI_a1]
      rw [if_pos h, if_pos h]
    · by_cases c1 : x < i
      · rw [if_pos c1]; exact h1 x c1
      · rw [if_neg c1]; exact h2 x (by omega) hx
  | j + 1, k, f + 1, oc, hk, hik, hf, h1, h2, h3 => by
    have t1 := F.tt
    have F' := F.a (j := 30) (f := oc) (by omega)
    have i31 : ∀ f, rdI (MT cy iw aw μ1 I V (updG A 30 f) 60 N X) (aw 0) 7 31 = some (nI m) := fun f => by rw [← h31]; exact m_int F.1 rfl
    obtain ⟨oc', e1, e2⟩ := y_54 F hi hm h31 j (k + 1) f (upd oc k (nI (c (k + 1)))) (by omega) (by omega) (by omega) (fun x hx => by rw [upd_ne' (by omega)]; exact h1 x hx) (fun x x1 x2 => by
      by_cases q : x = k
      · subst q; exact upd_self'
      · rw [upd_ne' q]; exact h2 x x1 (by omega)) (fun x x1 x2 => by rw [upd_ne' (by omega)]; exact h3 x (by omega) x2)
    refine ⟨oc', ?_, e2⟩
    have rd := x_al (cy := cy) (μ0 := μ1) (I := I) (N := N) (X := X) (i := k + 1) F' 30 rfl (by decide) (by show k + 1 < 1301; omega)
    rw [updG_self, h3 (k + 1) (by omega) (by omega)] at rd
    have st := x_as (cy := cy) (μ0 := μ1) (I := I) (N := N) (X := X) (i := k) F' 30 rfl (by decide) (by show k < 1301; omega) (nI (c (k + 1)))
    rw [updG_self, updG_updG] at st
    conv => lhs; rw [f_X8_drop_L54, i31, Option.bind_some, nI_a1, if_neg (nI_ge (by omega) (by omega)), x_ref F' (k := 30) rfl, Option.bind_some, Option.bind_some, show rdA cy (MT cy iw aw μ1 I V (updG A 30 oc) 60 N X) 1 (aw 30) (nI (k + 1)) = _ from rd, Option.bind_some, show wrA cy (MT cy iw aw μ1 I V (updG A 30 oc) 60 N X) 1 (aw 30) (nI k) (nI (c (k + 1))) = _ from st, Option.bind_some]
    exact e1
theorem k_drop (hL : Lay6 iv ad) (hW : Lay iw aw) (R : REL J B I A) (x : Int32) : ANS cy iv ad μ0 iw aw μ1 ["java/lang/IndexOutOfBoundsException", "java/util/NoSuchElementException"] (f_X6_drop cy (ad 0) x (MC cy iv ad μ0 J w B)) (f_X8_drop cy (aw 0) x (MR cy iw aw μ1 I V A)) := by
  unfold f_X6_drop f_X8_drop f_X8_drop_L25
  rw [if_pos (g_is hL), if_pos (r_is hW)]
  rcases sh4 x with ⟨s, hs4, rfl⟩ | hx
  · obtain ⟨bs, n, G, d, m, at', S, hat, Rs⟩ := R.2.2.1 s hs4
    have z := sS_s hs4
    have a := shf_sp z.1
    have C := S.2.2.2.2
    have hn := S.2.2.2.1
    have hlv := C.lvl
    have W := C.2.2.2.2.2.2.2.2.2.1
    have hm := C.2.2.2.2.2.2.2.2.1
    obtain ⟨r, hDc⟩ := C.2.2.2.2.2.2.2.2.2.2
    have r9 := m_ld (cy := cy) (μ0 := μ1) (I := upd I 0 0) (V := V) (A := A) (i := s) hW 9 rfl hs4
    rw [Rs.2.2.2.2] at r9
    rw [g_shelf hL hs4, obX2_r, g_noEl hL hs4 S, r_shelf hW hs4, ob2_some, if_pos (show (0 : Int32) = 0 from rfl), m_ref hW rfl, Option.bind_some, show rdA cy (MR cy iw aw μ1 (upd I 0 0) V A) 1 (aw 9) (nI s) = _ from r9, Option.bind_some]
    rcases hat.i (by omega) with ⟨h1, h2⟩ | ⟨i, hi', h1, h2, h3⟩
    · rw [if_pos h1, obX_l, if_neg h2, if_pos (r_is hW), r_thr1 hW, ob2_some, if_neg (show ¬ (1 : Int32) = 0 by decide)]
      exact ans_th 2 (by decide) (by decide) rfl rfl rfl rfl R.i0.i0
    · obtain ⟨N, X, ν, hi, m2, c, I', oc, e2, tw, F, oc1, j28, j29, j31, j32, j33, jo⟩ := y_changes (cy := cy) (μ0 := μ1) (I := upd I 0 0) (V := V) hW hs4 Rs S.2.2.1 W
      have em := tw.m W hDc
      subst em
      have wn := tw.wn
      have K := tw.2.2.2.2
      have hD := K.1
      have hD1 := hD.1
      have hD2 := hD.2.1
      have R1 : REL J B I' (updG A 30 oc) := (R.i0 (x := 0)).fr (fun _ _ _ => rfl) (fun _ _ => rfl) (fun k k1 k2 => jo k (by omega) (by omega) (by omega) (by omega) (by omega)) (fun j hj => by unfold rlv at hj; exact updG_ne (by omega))
      have j0 : I' 0 = 0 := by rw [jo 0 (by decide) (by decide) (by decide) (by decide) (by decide)]; rfl
      have Rs2 : ∀ f, RSh (updG (updG A 30 oc) 30 f) s bs n G d at' := fun f => Rs.fr (by rw [updG_ne (by omega), updG_ne (by omega)]) (by rw [updG_ne (by decide), updG_ne (by decide)]) (by rw [updG_ne (by omega), updG_ne (by omega)]) (by rw [updG_ne (by decide), updG_ne (by decide)]) (by rw [updG_ne (by decide), updG_ne (by decide)])
      -- the class's draft
      obtain ⟨μa, ea, Ga⟩ := F_startDraft (cy := cy) (μ0 := μ0) (w := w) hL z.1 S R.2.2.2.2.2.2.1
      have S0 := S.up z.1 (x := 0)
      obtain ⟨μb, eb, Gb⟩ := F_keep (i := 0) (j := i) (dr := 0) hL z.1 S0 Ga (Nat.zero_le _) (by omega) upd_self' (by decide)
      rw [upd_upd, Nat.zero_add, Nat.sub_zero] at Gb
      have S2 := S.up z.1 (x := nI i)
      obtain ⟨μc, ec, Gc⟩ := F_keep (i := i + 1) (j := m2) (dr := i) hL z.1 S2 Gb (by omega) (Nat.le_refl _) upd_self' (by omega)
      rw [upd_upd, show i + (m2 - (i + 1)) = m2 - 1 by omega] at Gc
      have eM : cat (pDel bs n (wD (hb bs) n G d) (wT (hb bs) n G d == 4) i) (m2 - 1) = [] ++ cat (fun t => pce bs n (wD (hb bs) n G d) (wT (hb bs) n G d == 4) (0 + t) (0 + t)) i ++ cat (fun t => pce bs n (wD (hb bs) n G d) (wT (hb bs) n G d == 4) (i + 1 + t) (i + t)) (m2 - (i + 1)) := by
        rw [cat_del (by omega), show m2 - 1 - i = m2 - (i + 1) by omega]
      rw [← eM] at Gc
      have tail : ∀ (k : Mem → Option ((String × Mem) ⊕ (Int32 × Mem))), ((f_X4_startDraft cy (ad (90 + s)) (MC cy iv ad μ0 J w B)).bind fun μ17 => if isO μ17 (ad (90 + s)) 3 = true then ((f_X4_keepElements cy (ad (90 + s)) 0 (nI i) μ17).bind fun μ20 => (rdR μ20 (ad (90 + s)) 3 1).bind fun q21 => (rdI μ20 q21 0 7).bind fun v23 => if isO μ20 (ad (90 + s)) 3 = true then ((f_X4_keepElements cy (ad (90 + s)) (nI (i + 1)) v23 μ20).bind fun μ27 => k μ27) else none) else none) = k μc := fun k => by
        obtain ⟨Ja, Ba, fa, Ta, -, -⟩ := S0.dg z.1 Ga
        obtain ⟨Jb, Bb, fb, Tb, -, -⟩ := S2.dg z.1 Gb
        rw [ea, Option.bind_some]
        rw [fa] at eb ⊢
        have eb' : f_X4_keepElements cy (ad (90 + s)) 0 (nI i) (MC cy iv ad μ0 Ja w Ba) = some μb := eb
        rw [if_pos (F_is hL z.1), eb', Option.bind_some]
        rw [fb] at ec ⊢
        rw [F_r1 hL z.1, Option.bind_some, C_cnt hL a.2.1, Option.bind_some, Tb.2.2.2.2.2.2.1, if_pos (F_is hL z.1), ec, Option.bind_some]
      have hP : ∀ x, x < m2 - 1 → eOk (hl (pDel bs n (wD (hb bs) n G d) (wT (hb bs) n G d == 4) i x)) (23 - d) 0 (pDel bs n (wD (hb bs) n G d) (wT (hb bs) n G d == 4) i x).length (rwo (wT (hb bs) n G d == 4) x) := fun x hx => by
        unfold pDel
        by_cases c1 : x < i
        · rw [if_pos c1]; exact pce_ok hD (by omega)
        · rw [if_neg c1]; exact pce_ok hD (by omega)
      have hle : nLen bs n G d (cat (pDel bs n (wD (hb bs) n G d) (wT (hb bs) n G d == 4) i) (m2 - 1)) ≤ n := by
        have cs := cat_sum (P := pDel bs n (wD (hb bs) n G d) (wT (hb bs) n G d == 4) i) (a := fun x => if x ≤ i then st (hb bs) n (wD (hb bs) n G d) x else st (hb bs) n (wD (hb bs) n G d) (x + 1)) (k := 0) (m2 - 1) (fun x hx => by
          show (pDel bs n (wD (hb bs) n G d) (wT (hb bs) n G d == 4) i x).length + (if x ≤ i then st (hb bs) n (wD (hb bs) n G d) x else st (hb bs) n (wD (hb bs) n G d) (x + 1)) ≤ (if x + 1 ≤ i then st (hb bs) n (wD (hb bs) n G d) (x + 1) else st (hb bs) n (wD (hb bs) n G d) (x + 1 + 1)) + 0
          unfold pDel
          by_cases c1 : x < i
          · have pl := pce_len2 (v := x) hD (i := x) (by omega) (Nat.le_refl _)
            rw [if_pos c1, if_pos (by omega), if_pos (by omega)]
            exact pl
          · have pl := pce_len2 (v := x) hD (i := x + 1) (by omega) (by omega)
            have mo := hD.lt (i := x) (k := x + 1) (by omega) (by omega)
            rw [if_neg c1, if_neg (show ¬ x + 1 ≤ i by omega)]
            by_cases c2 : x ≤ i
            · rw [if_pos c2]; omega
            · rw [if_neg c2]; omega)
        have e0 : (if 0 ≤ i then st (hb bs) n (wD (hb bs) n G d) 0 else st (hb bs) n (wD (hb bs) n G d) (0 + 1)) = wD (hb bs) n G d + 4 := by
          rw [if_pos (Nat.zero_le _)]
          rfl
        have em : (if m2 - 1 ≤ i then st (hb bs) n (wD (hb bs) n G d) (m2 - 1) else st (hb bs) n (wD (hb bs) n G d) (m2 - 1 + 1)) ≤ wR (hb bs) n G d - 1 := by
          have l1 := hD.le' (i := m2 - 1) (by omega)
          have l2 := hD.le' (i := m2 - 1 + 1) (by omega)
          by_cases c2 : m2 - 1 ≤ i
          · rw [if_pos c2]; omega
          · rw [if_neg c2]; omega
        rw [e0] at cs
        unfold nLen
        omega
      have I29 : (upd I' 29 1300) 29 = nI 1300 := by rw [upd_self']; decide +kernel
      obtain ⟨oc', l1, l2⟩ := y_54 (cy := cy) (μ1 := μ1) (I := upd I' 29 1300) (N := N) (X := X) (c := c) F hi' (by omega) (by rw [upd_ne' (by decide)]; exact j31) (m2 - 1 - i) i FU oc (by omega) (Nat.le_refl _) (by show m2 - 1 - i < 100000; omega) (fun x hx => oc1 x (by omega)) (fun x x1 x2 => by omega) (fun x x1 x2 => oc1 x x2)
      have e30 : ∀ f, updG (updG A 30 oc) 30 f = updG A 30 f := fun f => updG_updG
      rw [e30, e30] at l1
      have FF : ∀ f, TX iw aw (updG V 60 (.ref (aw (50 + s)))) (updG A 30 f) 21 60 (50 + s) bs n := fun f => by have := F.a (j := 30) (f := f) (by omega); rw [e30] at this; exact this
      have Rs3 : ∀ f, RSh (updG A 30 f) s bs n G d at' := fun f => by have := Rs2 f; rw [e30] at this; exact this
      have ed := k_edit (cy := cy) (μ0 := μ0) (μ1 := μ1) (x := nI i) (oc := fun x => nI (if x < i then c x else c (x + 1))) (I := upd (upd I' 29 1300) 31 (nI (m2 - 1))) (A := updG A 30 oc') (P := pDel bs n (wD (hb bs) n G d) (wT (hb bs) n G d == 4) i) (m' := m2 - 1) hL hW (R1.fr (fun _ _ _ => rfl) (fun _ _ => rfl) (fun k k1 k2 => by rw [upd_ne' (by omega), upd_ne' (by omega)]) (fun j hj => by unfold rlv at hj; rw [updG_ne (by omega), updG_ne (by omega)])) hs4 S (Rs3 _) W Gc hP (by omega) (FF _) tw (by rw [upd_ne' (by decide), upd_ne' (by decide)]; exact j28) (Or.inr ⟨1300, by rw [upd_ne' (by decide)]; exact I29, by decide, by omega, Or.inr (Nat.le_refl _)⟩) (by omega) upd_self' (fun x hx => by rw [updG_self]; exact l2 x hx) (fun x hx => by
        have ne : ∀ y, y < 1300 → nI y ≠ (upd (upd I' 29 1300) 31 (nI (m2 - 1))) 29 := fun y hy q => by
          rw [upd_ne' (by decide), I29] at q
          have := (nI_eq (by omega) (by decide)).mp q
          omega
        show WEl cy iw aw μ1 _ _ _ N X (119 - 3 * d) (nI (if x < i then c x else c (x + 1))) x _ (pDel bs n (wD (hb bs) n G d) (wT (hb bs) n G d == 4) i x)
        unfold pDel
        by_cases c1 : x < i
        · rw [if_pos c1, if_pos c1]
          have kx1 := K.inc (i := x + 1) (by omega)
          exact w_keep (FF _) W tw (by rw [upd_ne' (by decide), upd_ne' (by decide)]; exact j28) (by omega) (by omega) (fun y a1 a2 => ne y (by omega))
        · rw [if_neg c1, if_neg c1]
          have kx1 := K.inc (i := x + 1 + 1) (by omega)
          exact w_keep (FF _) W tw (by rw [upd_ne' (by decide), upd_ne' (by decide)]; exact j28) (by omega) (by omega) (fun y a1 a2 => ne y (by omega)))
      obtain ⟨J', B', I2, V2, A2, f1, f2, f3, f4, f5, f6, f7⟩ := ed.2 (by omega)
      have tl := tail (fun μ27 => if isO μ27 (ad 0) 5 = true then (obX2 (f_X6_finishChange cy (ad 0) (nI s) (nI i) μ27) fun r33 μ30 => some (.inr (r33, μ30))) else none)
      have oc0 : isO μc (ad 0) 5 = true := by
        obtain ⟨Jg, Bg, eg, -, -⟩ := Gc.mem
        rw [eg]
        exact g_is hL
      rw [if_pos oc0, f1, obX2_r] at tl
      have v31 : rdI (MT cy iw aw μ1 (upd I' 29 1300) (updG V 60 (.ref (aw (50 + s)))) (updG A 30 oc') 60 N X) (aw 0) 7 31 = some (nI m2) := by rw [← j31]; exact m_int hW rfl
      have w31 : rdI (MR cy iw aw μ1 I2 V2 A2) (aw 0) 7 31 = some (nI (m2 - 1)) := by rw [← f6]; exact m_int hW rfl
      have a9 := m_ld (cy := cy) (μ0 := μ1) (I := I2) (V := V2) (A := A2) (i := s) hW 9 rfl hs4
      have a9s : A2 9 s = nI i := by rw [f4, (Rs3 oc').2.2.2.2, h1]
      rw [a9s] at a9
      have e1 : nI m2 - 1 = nI (m2 - 1) := by
        obtain ⟨k, rfl⟩ : ∃ k, m2 = k + 1 := ⟨m2 - 1, by omega⟩
        exact nI_pr
      have s1 := x_put (cy := cy) (μ0 := μ1) (I := upd I' 29 1300) (V := updG V 60 (.ref (aw (50 + s)))) (N := N) (X := X) (FF oc') 31 (x := nI (m2 - 1)) rfl (by decide)
      rw [if_neg h2, obX_r, F_r1 hL z.1, Option.bind_some, C_num hL a.2.1, Option.bind_some, C.2.1, if_pos (F_is hL z.1), h1, nI_a1, tl, if_pos (by rw [← h1]; exact h3), if_pos (r_is hW), r_thr0, ob2_some, if_pos (show (0 : Int32) = 0 from rfl), if_pos (r_is hW), e2, ob2_some, x_put F 29 rfl (by decide), Option.bind_some, x_ref F (k := 9) rfl, Option.bind_some, x_at F hs4 (Rs3 oc), Option.bind_some, h1, l1, f_X8_drop_L54, v31, Option.bind_some, nI_a1, if_pos (nI_le (by omega) (by omega)), Option.bind_some, e1, s1, Option.bind_some, if_pos (x_o (FF _)), f2, ob2_some, m_ref hW rfl, Option.bind_some, show rdA cy (MR cy iw aw μ1 I2 V2 A2) 1 (aw 9) (nI s) = _ from a9, Option.bind_some, w31, Option.bind_some]
      unfold f_X8_drop_L125
      have i20 : I2 0 = 0 := by rw [f5]; exact j0
      by_cases c5 : i < m2 - 1
      · have nl := numL_i (m := m2 - 1) (i := i) c5 (by omega)
        have rr := f7 (by rw [nl]; exact Or.inr ⟨i, c5, rfl⟩)
        rw [nl, ← a9s, upd_id, updG_id] at rr
        have r6 := m_ld (cy := cy) (μ0 := μ1) (I := I2) (V := V2) (A := A2) (i := s) hW 6 rfl hs4
        rw [f3] at r6
        rw [if_pos (nI_lt c5 (by omega)), m_ref hW rfl, Option.bind_some, show rdA cy (MR cy iw aw μ1 I2 V2 A2) 1 (aw 6) (nI s) = _ from r6, Option.bind_some]
        exact ans_ok rfl rfl i20 rr
      · have hi2 : i = m2 - 1 := by omega
        have nl : numL (m2 - 1) (nI i) = nI (m2 - 1) - 1 := by
          unfold numL
          rw [hi2]
          rcases Nat.eq_zero_or_pos (m2 - 1) with q | q
          · rw [q]; rfl
          · obtain ⟨k, hk⟩ : ∃ k, m2 - 1 = k + 1 := ⟨m2 - 2, by omega⟩
            rw [hk, nI_pr, if_pos (nI_lt (by omega) (by omega))]
        have ok : atOk (numL (m2 - 1) (nI i)) (m2 - 1) := by
          rw [nl]
          rcases Nat.eq_zero_or_pos (m2 - 1) with q | q
          · rw [q]; exact Or.inl rfl
          · obtain ⟨k, hk⟩ : ∃ k, m2 - 1 = k + 1 := ⟨m2 - 2, by omega⟩
            rw [hk, nI_pr]
            exact Or.inr ⟨k, by omega, rfl⟩
        have rr := f7 ok
        rw [nl] at rr
        have st9 := m_st (cy := cy) (μ0 := μ1) (I := I2) (V := V2) (A := A2) (i := s) hW 9 rfl hs4 (nI (m2 - 1) - 1)
        have r6 := m_ld (cy := cy) (μ0 := μ1) (I := I2) (V := V2) (A := updG A2 9 (upd (A2 9) s (nI (m2 - 1) - 1))) (i := s) hW 6 rfl hs4
        rw [updG_ne (show 6 ≠ 9 by decide), f3] at r6
        rw [if_neg (nI_nlt (by omega) (by omega)), Option.bind_some, Option.bind_some, show wrA cy (MR cy iw aw μ1 I2 V2 A2) 1 (aw 9) (nI s) (nI (m2 - 1) - 1) = _ from st9, Option.bind_some, m_ref hW rfl, Option.bind_some, show rdA cy (MR cy iw aw μ1 I2 V2 (updG A2 9 (upd (A2 9) s (nI (m2 - 1) - 1)))) 1 (aw 6) (nI s) = _ from r6, Option.bind_some]
        exact ans_ok rfl rfl i20 rr
  · rw [g_noShelf hx, obX2_l, r_noShelf hW hx, ob2_some, if_neg (show ¬ (1 : Int32) = 0 by decide)]
    exact ans_th 1 (by decide) (by decide) rfl rfl rfl rfl R.i0
end KD1
