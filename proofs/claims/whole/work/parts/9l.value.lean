/-! A VALUE CHANGED, on both sides. -/
section KV1
variable {cy : Nat → ClassId} {iv : Nat → Option Nat} {ad : Nat → Nat} {μ0 : Mem} {J : Nat → Int32} {w : Nat} {B : Nat → Nat → Int32} {iw : Nat → Option Nat} {aw : Nat → Nat} {μ1 : Mem} {I : Nat → Int32} {V : Nat → Value} {A : Nat → Nat → Int32} {s : Nat} {bs : Nat → Nat} {n : Nat} {G : Nat → Nat} {d m : Nat} {at' : Int32} {μ : Mem} {N : Nat} {X : Nat → Nat → Int32} {ν hi c : Nat → Nat}
/-- an ELEMENT of the changed DOCUMENT that stays -/
theorem w_keep (F : TX iw aw V A 21 60 (50 + s) bs n) (W : WV (hb bs) n G d) (tw : TWy X bs n G d N ν hi m c) (h28 : I 28 = nI (ν d)) {x v : Nat} (hx : x < m) (hv : v < 2 ^ 30) (h29 : ∀ y, c x ≤ y → y < c (x + 1) → nI y ≠ I 29) : WEl cy iw aw μ1 I V A N X (119 - 3 * d) (nI (c x)) v (wT (hb bs) n G d == 4) (pce bs n (wD (hb bs) n G d) (wT (hb bs) n G d == 4) x v) := by
  have wn := tw.wn
  have d23 := (W.dc d (Nat.le_refl _)).1
  have K := tw.2.2.2.2
  have hm := K.2.1
  have ic := K.inc (i := x) (by omega)
  have ic1 := K.inc (i := x + 1) (by omega)
  obtain ⟨y1, y2, y3, y4, y5⟩ := K.2.2.2.2.2.2 x hx
  have hD := K.1
  have le := hD.le' (i := x + 1) (by omega)
  have hD1 := hD.1
  have hD2 := hD.2.1
  have hE := hD.2.2.2.2.2 x hx
  have out : ∀ y, c x ≤ y → y < c (x + 1) → nI y ≠ I 28 ∧ nI y ≠ I 29 := fun y a1 a2 => ⟨fun z => by
    rw [h28] at z
    have := (nI_eq (by omega) (by omega)).mp z
    omega, h29 y a1 a2⟩
  have := w_elU (cy := cy) (μ0 := μ1) (I := I) (N := N) (d := 117 - 3 * d) (i := x) (v := v) F (fun hd' z' => w_docU F (23 - d) (117 - 3 * d) (by omega) z' (by omega) (by omega) (by omega) (by rw [y2.2.1]) (out _ (Nat.le_refl _) (by omega)).1 (fun y a1 a2 => out y (by omega) a2)) y2 hE (by omega) (by omega) (out _ (Nat.le_refl _) (by omega)).2 (by omega) y4 hv
  rw [show 117 - 3 * d + 2 = 119 - 3 * d by omega] at this
  exact this
theorem y_valueIs (F : TX iw aw V A 21 60 (50 + s) bs n) (t : Int32) (a : Nat) (vf vl : Int32) : f_X8_valueIs cy (aw 0) t a vf vl (MT cy iw aw μ1 I V A 60 N X) = some (MT cy iw aw μ1 (upd (upd (upd (upd I 32 1) 34 t) 39 vf) 40 vl) (updG V 36 (.ref a)) A 60 N X) := by
  unfold f_X8_valueIs
  have F36 : TX iw aw (updG V 36 (.ref a)) A 21 60 (50 + s) bs n := ⟨F.1, F.2.1, by rw [updG_ne (by decide)]; exact F.2.2.1, F.2.2.2⟩
  rw [x_put F 32 rfl (by decide), Option.bind_some, x_put F 34 rfl (by decide), Option.bind_some, m_putV F.1 rfl (by decide), Option.bind_some]
  have e : MR cy iw aw μ1 (upd (upd (upd I 32 1) 34 t) (60 + 1) (nI N)) (updG V 36 (.ref a)) (tA 60 A X) = MT cy iw aw μ1 (upd (upd I 32 1) 34 t) (updG V 36 (.ref a)) A 60 N X := rfl
  rw [e, x_put F36 39 rfl (by decide), Option.bind_some, x_put F36 40 rfl (by decide), Option.bind_some]
theorem numL_i {m i : Nat} (hi : i < m) (hm : m < 2 ^ 30) : numL m (nI i) = nI i := by
  unfold numL
  have e : nI m - 1 = nI (m - 1) := by
    rw [show (1 : Int32) = nI 1 by decide +kernel, nI_sub' (by omega)]
  rw [e, if_neg (nI_nlt (by omega) (by omega))]
theorem v_ed (hL : Lay6 iv ad) (hW : Lay iw aw) (R : REL J B I A) (hs4 : s < 4) (S : SH J B (90 + s) bs n G d m at') (Rs : RSh A s bs n G d at') (W : WV (hb bs) n G d) {i : Nat} (hi' : i < m) (hat : at' = nI i) {t : Int32} {kv nv vs ve : Nat} {bv' : Nat → Nat} (hkv : span6 kv = true ∧ kv ≠ 34 ∧ J (100 * kv + 1) = nI nv ∧ B (kv + 1) = hb bv' ∧ bB bv' ∧ nv ≤ len6 (kv + 1)) (hve : vs ≤ ve ∧ ve ≤ nv) (ht : isTy t) (ht8 : nI (b8 t) = t) (hvo : vOk (hb bv') (23 - d) t vs ve)
    (F : TX iw aw V A 21 60 (50 + s) bs n) (tw : TWy X bs n G d N ν hi m c) (h28 : I 28 = nI (ν d)) (h31 : I 31 = nI m) (h33 : I 33 = 0) (ho : ∀ x, x < m → A 30 x = nI (c x)) {a vf vl L : Nat} {vb : Nat → Nat} (hbs : ∀ I2 V2 Fg, BS cy iw aw μ1 I2 V2 A N X Fg a vb L) (hL2 : vf + vl ≤ L) (hsl : sl vb vf (vf + vl) = sl bv' vs ve) :
    (∃ J' B' I' V' A', ((f_X4_draftValue cy (ad (90 + s)) t (ad kv) (nI vs) (nI ve) (MC cy iv ad μ0 J w B)).bind fun μ48 => (rdR μ48 (ad (90 + s)) 3 1).bind fun q49 => (rdI μ48 q49 0 5).bind fun v51 => if isO μ48 (ad 0) 5 = true then (obX2 (f_X6_finishChange cy (ad 0) (nI s) v51 μ48) fun r58 μ55 => some (.inr (r58, μ55))) else none) = some (.inl ("java/lang/UnsupportedOperationException", MC cy iv ad μ0 J' w B')) ∧ f_X8_lays cy (aw 0) (nI s) (MT cy iw aw μ1 (upd (upd (upd (upd (upd I 29 (nI (c i))) 32 1) 34 t) 39 (nI vf)) 40 (nI vl)) (updG V 36 (.ref a)) A 60 N X) = some (0, MR cy iw aw μ1 I' V' A') ∧ REL J' B' I' A' ∧ I' 0 = I 0) ∨
    (∃ J' B' I' V' A' n', ((f_X4_draftValue cy (ad (90 + s)) t (ad kv) (nI vs) (nI ve) (MC cy iv ad μ0 J w B)).bind fun μ48 => (rdR μ48 (ad (90 + s)) 3 1).bind fun q49 => (rdI μ48 q49 0 5).bind fun v51 => if isO μ48 (ad 0) 5 = true then (obX2 (f_X6_finishChange cy (ad 0) (nI s) v51 μ48) fun r58 μ55 => some (.inr (r58, μ55))) else none) = some (.inr (nI n', MC cy iv ad μ0 J' w B')) ∧ f_X8_lays cy (aw 0) (nI s) (MT cy iw aw μ1 (upd (upd (upd (upd (upd I 29 (nI (c i))) 32 1) 34 t) 39 (nI vf)) 40 (nI vl)) (updG V 36 (.ref a)) A 60 N X) = some (1, MR cy iw aw μ1 I' V' A') ∧ A' 6 s = nI n' ∧ REL J' B' I' A' ∧ I' 0 = I 0) := by
  have z := sS_s hs4
  have aa := shf_sp z.1
  have C := S.2.2.2.2
  have hm := C.2.2.2.2.2.2.2.2.1
  have hn := S.2.2.2.1
  have wn := tw.wn
  have K := tw.2.2.2.2
  have hD := K.1
  have hD1 := hD.1
  have hD2 := hD.2.1
  have d23 := (W.dc d (Nat.le_refl _)).1
  have F2 : TX iw aw (updG V 36 (.ref a)) A 21 60 (50 + s) bs n := ⟨F.1, F.2.1, by rw [updG_ne (by decide)]; exact F.2.2.1, F.2.2.2⟩
  obtain ⟨μ', e1, DG'⟩ := F_draftValue (cy := cy) (μ0 := μ0) (w := w) (t := t) hL z.1 S R.2.2.2.2.2.2.1 hi' hat hkv hve
  have S3 := S.up z.1 (x := nI m)
  obtain ⟨Jg, Bg, eg, Sg, hJg, hBg⟩ := S3.dg z.1 DG'
  have hE := hD.2.2.2.2.2 i hi'
  have leE := hD.le' (i := i + 1) (by omega)
  have ki := K.inc (i := i) (by omega)
  have ki1 := K.inc (i := i + 1) (by omega)
  have y := K.2.2.2.2.2.2 i hi'
  have hlen := (span_arr hkv.1).2.2
  -- the pieces are good
  have hP : ∀ x, x < m → eOk (hl (if x = i then pcV bs n (wD (hb bs) n G d) (wT (hb bs) n G d == 4) i (b8 t) bv' vs ve else pce bs n (wD (hb bs) n G d) (wT (hb bs) n G d == 4) x x)) (23 - d) 0 (if x = i then pcV bs n (wD (hb bs) n G d) (wT (hb bs) n G d == 4) i (b8 t) bv' vs ve else pce bs n (wD (hb bs) n G d) (wT (hb bs) n G d == 4) x x).length (rwo (wT (hb bs) n G d == 4) x) := fun x hx => by
    by_cases cx : x = i
    · subst cx
      rw [if_pos rfl]
      exact pcO_ok hE (by omega) (by rw [ht8]; exact ht) (by rw [ht8]; exact vl_bs hvo)
    · rw [if_neg cx]
      exact pce_ok hD hx
  have hM : nLen bs n G d (cat (fun x => if x = i then pcV bs n (wD (hb bs) n G d) (wT (hb bs) n G d == 4) i (b8 t) bv' vs ve else pce bs n (wD (hb bs) n G d) (wT (hb bs) n G d == 4) x x) m) ≤ 11000 := by
    have cs := cat_sum (P := fun x => if x = i then pcV bs n (wD (hb bs) n G d) (wT (hb bs) n G d == 4) i (b8 t) bv' vs ve else pce bs n (wD (hb bs) n G d) (wT (hb bs) n G d == 4) x x) (a := fun x => st (hb bs) n (wD (hb bs) n G d) x + (if i < x then 2400 else 0)) (k := 3) m (fun x hx => by
      have pl := pce_len (v := x) hD hx (by omega)
      show (if x = i then pcV bs n (wD (hb bs) n G d) (wT (hb bs) n G d == 4) i (b8 t) bv' vs ve else pce bs n (wD (hb bs) n G d) (wT (hb bs) n G d == 4) x x).length + (st (hb bs) n (wD (hb bs) n G d) x + (if i < x then 2400 else 0)) ≤ st (hb bs) n (wD (hb bs) n G d) (x + 1) + (if i < x + 1 then 2400 else 0) + 3
      by_cases cx : x = i
      · subst cx
        rw [if_pos rfl, if_neg (by omega), if_pos (by omega)]
        have l1 : (pcV bs n (wD (hb bs) n G d) (wT (hb bs) n G d == 4) x (b8 t) bv' vs ve).length ≤ (pce bs n (wD (hb bs) n G d) (wT (hb bs) n G d == 4) x x).length + 2400 := by
          unfold pcV pce
          rw [List.length_append, List.length_append, List.length_append, List.length_append, sl_len, sl_len]
          show 1 + _ + (ve - vs) ≤ 1 + _ + _ + 2400
          omega
        omega
      · rw [if_neg cx]
        by_cases c2 : i < x
        · rw [if_pos c2, if_pos (by omega)]; omega
        · rw [if_neg c2, if_neg (by omega)]; omega)
    have e0 : st (hb bs) n (wD (hb bs) n G d) 0 + (if i < 0 then 2400 else 0) = wD (hb bs) n G d + 4 := by
      rw [if_neg (by omega)]
      rfl
    have em : st (hb bs) n (wD (hb bs) n G d) m + (if i < m then 2400 else 0) = wR (hb bs) n G d - 1 + 2400 := by
      rw [if_pos hi', hD.2.2.2.2.1]
    rw [e0, em] at cs
    unfold nLen
    omega
  have inc : ∀ x, x < m → c x < c (x + 1) := fun x hx => (K.2.2.2.2.2.2 x hx).1
  have ed := k_edit (cy := cy) (μ0 := μ0) (μ1 := μ1) (x := nI i) (oc := fun x => nI (c x)) (I := upd (upd (upd (upd (upd I 29 (nI (c i))) 32 1) 34 t) 39 (nI vf)) 40 (nI vl)) (V := updG V 36 (.ref a)) hL hW (R.fr (fun _ _ _ => rfl) (fun _ _ => rfl) (fun k k1 k2 => by rw [upd_ne' (by omega), upd_ne' (by omega), upd_ne' (by omega), upd_ne' (by omega), upd_ne' (by omega)]) (fun _ _ => rfl)) hs4 S Rs W DG' hP hM F2 tw (by rw [upd_ne' (by decide), upd_ne' (by decide), upd_ne' (by decide), upd_ne' (by decide), upd_ne' (by decide)]; exact h28) (Or.inr ⟨c i, by rw [upd_ne' (by decide), upd_ne' (by decide), upd_ne' (by decide), upd_ne' (by decide), upd_self'], by omega, by omega, Or.inl (by omega)⟩) (by omega) (by rw [upd_ne' (by decide), upd_ne' (by decide), upd_ne' (by decide), upd_ne' (by decide), upd_ne' (by decide)]; exact h31) ho (fun x hx => by
    by_cases cx : x = i
    · subst cx
      rw [if_pos rfl]
      have := w_newV (cy := cy) (μ0 := μ1) (N := N) (X := X) (I := upd (upd (upd (upd (upd I 29 (nI (c x))) 32 1) 34 t) 39 (nI vf)) 40 (nI vl)) (V := updG V 36 (.ref a)) (d := 118 - 3 * d) (v := x) (row := (wT (hb bs) n G d == 4)) (t := t) F2 y.2.1 hE (by omega) (by omega) (by rw [upd_ne' (by decide), upd_ne' (by decide), upd_ne' (by decide), upd_ne' (by decide), upd_self']) (by rw [upd_ne' (by decide), upd_ne' (by decide), upd_ne' (by decide), upd_self']) (by rw [upd_ne' (by decide), upd_ne' (by decide), upd_ne' (by decide), upd_ne' (by decide), upd_ne' (by decide)]; exact h33) (by rw [upd_ne' (by decide), upd_ne' (by decide), upd_self']) updG_self (by rw [upd_ne' (by decide), upd_self']) upd_self' (hbs _ _) hL2 (by omega)
      rw [hsl, show 118 - 3 * d + 1 = 119 - 3 * d by omega] at this
      exact this
    · rw [if_neg cx]
      have kx := K.inc (i := x) (by omega)
      have kx1 := K.inc (i := x + 1) (by omega)
      refine w_keep F2 W tw (by rw [upd_ne' (by decide), upd_ne' (by decide), upd_ne' (by decide), upd_ne' (by decide), upd_ne' (by decide)]; exact h28) hx (by omega) (fun y a1 a2 q => ?_)
      rw [upd_ne' (by decide), upd_ne' (by decide), upd_ne' (by decide), upd_ne' (by decide), upd_self'] at q
      have := (nI_eq (by omega) (by omega)).mp q
      rcases Nat.lt_or_ge x i with r | r
      · have := c_le inc (i := x + 1) (k := i) (by omega) (by omega)
        omega
      · have := c_le inc (i := i + 1) (k := x) (by omega) (by omega)
        omega)
  -- the class's tail
  have tail : ∀ y, f_X6_finishChange cy (ad 0) (nI s) (nI i) μ' = some y → ((f_X4_draftValue cy (ad (90 + s)) t (ad kv) (nI vs) (nI ve) (MC cy iv ad μ0 J w B)).bind fun μ48 => (rdR μ48 (ad (90 + s)) 3 1).bind fun q49 => (rdI μ48 q49 0 5).bind fun v51 => if isO μ48 (ad 0) 5 = true then (obX2 (f_X6_finishChange cy (ad 0) (nI s) v51 μ48) fun r58 μ55 => some (.inr (r58, μ55))) else none) = some y := fun y hy => by
    rw [e1, Option.bind_some]
    rw [eg] at hy ⊢
    rw [F_r1 hL z.1, Option.bind_some, C_num hL aa.2.1, Option.bind_some, if_pos (g_is hL), Sg.2.2.2.2.2.1, hat, hy]
    cases y with
    | inl e => rfl
    | inr e => rfl
  rcases Nat.lt_or_ge 2400 (nLen bs n G d (cat (fun x => if x = i then pcV bs n (wD (hb bs) n G d) (wT (hb bs) n G d == 4) i (b8 t) bv' vs ve else pce bs n (wD (hb bs) n G d) (wT (hb bs) n G d == 4) x x) m)) with q | q
  · obtain ⟨J', B', I', V', A', f1, f2, f3, f4⟩ := ed.1 q
    exact Or.inl ⟨J', B', I', V', A', tail _ f1, f2, f3, f4⟩
  · obtain ⟨J', B', I', V', A', f1, f2, f3, f4, f5, f6, f7⟩ := ed.2 q
    refine Or.inr ⟨J', B', I', V', A', _, tail _ f1, f2, f3, ?_, f5⟩
    have nl := numL_i hi' (by omega)
    have := f7 (by rw [nl]; exact Or.inr ⟨i, hi', rfl⟩)
    rw [nl, show nI i = A' 9 s by rw [f4, Rs.2.2.2.2, hat], upd_id, updG_id] at this
    exact this
end KV1
