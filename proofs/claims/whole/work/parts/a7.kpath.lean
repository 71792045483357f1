/-! THE CALLS: path. -/
theorem CUR.at {J : Nat → Int32} {B : Nat → Nat → Int32} {cs n : Nat} {h : Nat → Int32} {I : Nat → Nat} {d m : Nat} {at' x : Int32} (C : CUR J B cs h n I d m at') : CUR (upd J (100 * cs + 5) x) B cs h n I d m x := by
  obtain ⟨c1, c2, c3, c4, c5, c6, c7, c8, c9⟩ := C
  exact ⟨by rw [upd_ne' (by omega)]; exact c1, upd_self', by rw [upd_ne' (by omega)]; exact c3, c4, c5, c6, c7, c8, c9⟩
def endOf (z : Option Nat) (tn : Nat) : Nat := match z with
  | some y => y
  | none => tn
theorem endOf_b {h : Nat → Int32} {a tn : Nat} (ha : a ≤ tn) : a ≤ endOf (zf h a (tn - a)) tn ∧ endOf (zf h a (tn - a)) tn ≤ tn := by
  cases e : zf h a (tn - a) with
  | none => exact ⟨ha, Nat.le_refl _⟩
  | some y =>
    have := zf_some e
    exact ⟨this.1, show y ≤ tn by omega⟩
section KPT
variable {cy : Nat → ClassId} {iv : Nat → Option Nat} {ad : Nat → Nat} {μ0 : Mem} {w : Nat} {iw : Nat → Option Nat} {aw : Nat → Nat} {μ1 : Mem} {I : Nat → Int32} {V : Nat → Value} {A : Nat → Nat → Int32} {s n N tn : Nat} {bs tb : Nat → Nat} {X : Nat → Nat → Int32}
theorem p_56 (F : TX iw aw V A 21 60 (50 + s) bs n) (hT : ∀ j, j < tn → A 1 j = sx (tb j)) (htB : bB tb) (htn : tn ≤ 2000) {k47 : Nat → Int32 → Int32 → Int32 → Int32 → Int32 → Int32 → Int32 → Mem → Option (Int32 × Mem)} {x1 x2 x3 x4 x5 : Int32} : ∀ (j b f : Nat), b + j = tn → j < f → f_X8_path_L56 cy k47 f (aw 0) x1 (nI tn) x2 x3 x4 x5 (nI b) (MT cy iw aw μ1 I V A 60 N X) = f_X8_path_L78 cy k47 (aw 0) x1 (nI tn) x2 x3 x4 x5 (nI (endOf (zf (hb tb) b j) tn)) (MT cy iw aw μ1 I V A 60 N X)
  | j, b, 0, _, hf => by omega
  | 0, b, f + 1, hb', _ => by
    have : b = tn := by omega
    subst this
    rw [f_X8_path_L56, if_pos (nI_le (Nat.le_refl _) (by omega))]
    rfl
  | j + 1, b, f + 1, hb', hf => by
    have rt := x_al (cy := cy) (μ0 := μ1) (I := I) (N := N) (X := X) (i := b) F 1 rfl (by decide) (by show b < 2000; omega)
    rw [hT b (by omega)] at rt
    have e := sx_0 (tb b) (htB b)
    rw [f_X8_path_L56, if_neg (nI_ge (by omega) (by omega)), x_ref F (k := 1) rfl, Option.bind_some, show rdA cy (MT cy iw aw μ1 I V A 60 N X) 0 (aw 1) (nI b) = _ from rt, Option.bind_some, zf]
    by_cases c : hb tb b = 0
    · rw [if_pos (e.mpr c), if_pos c]
      rfl
    · rw [if_neg (fun y => c (e.mp y)), if_neg c, nI_a1]
      exact p_56 F hT htB htn j (b + 1) f (by omega) (by omega)
theorem p_200 (F : TX iw aw V A 21 60 (50 + s) bs n) (hs : s < 4) {p : Nat} (hp : p ≤ 24) {tr : Nat → Int32} (htr : A 23 = tr) : ∀ (j k f : Nat) (wy' : Nat → Int32), k + j = p → j < f → (∀ i, i < k → wy' i = tr i) → ∃ wy2, f_X8_path_L200 cy f (aw 0) (nI s) (nI (p + 1)) (nI k) (MT cy iw aw μ1 I V (updG A (54 + s) wy') 60 N X) = some (nI (p + 1), MT cy iw aw μ1 I V (updG (updG A (54 + s) wy2) 9 (upd (A 9) s (tr p))) 60 N X) ∧ ∀ i, i < p → wy2 i = tr i
  | j, k, 0, wy', _, hf, _ => by omega
  | 0, k, f + 1, wy', hk, _, h => by
    have : k = p := by omega
    subst this
    have F1 := F.a (j := 54 + s) (f := wy') (by omega)
    have r23 := x_al (cy := cy) (μ0 := μ1) (I := I) (N := N) (X := X) (i := k) F1 23 rfl (by decide) (by show k < 2002; omega)
    rw [updG_ne (show 23 ≠ 54 + s by omega), htr] at r23
    have st := x_as (cy := cy) (μ0 := μ1) (I := I) (N := N) (X := X) (i := s) F1 9 rfl (by decide) hs (tr k)
    rw [updG_ne (show 9 ≠ 54 + s by omega)] at st
    refine ⟨wy', ?_, h⟩
    rw [f_X8_path_L200, nI_pr, if_pos (nI_le (Nat.le_refl _) (by omega)), x_ref F1 (k := 9) rfl, Option.bind_some, x_ref F1 (k := 23) rfl, Option.bind_some, show rdA cy (MT cy iw aw μ1 I V (updG A (54 + s) wy') 60 N X) 1 (aw 23) (nI k) = _ from r23, Option.bind_some, show wrA cy (MT cy iw aw μ1 I V (updG A (54 + s) wy') 60 N X) 1 (aw 9) (nI s) (tr k) = _ from st, Option.bind_some]
    rfl
  | j + 1, k, f + 1, wy', hk, hf, h => by
    have F1 := F.a (j := 54 + s) (f := wy') (by omega)
    obtain ⟨w1, w2, w3⟩ := arr_way hs
    have r23 := x_al (cy := cy) (μ0 := μ1) (I := I) (N := N) (X := X) (i := k) F1 23 rfl (by decide) (by show k < 2002; omega)
    rw [updG_ne (show 23 ≠ 54 + s by omega), htr] at r23
    have st := x_as (cy := cy) (μ0 := μ1) (I := I) (N := N) (X := X) (i := k) F1 (54 + s) w1 (by omega) (by rw [w3]; omega) (tr k)
    rw [w2, updG_self, updG_updG] at st
    have wa : rdQ cy (MT cy iw aw μ1 I V (updG A (54 + s) wy') 60 N X) 6 (aw 7) (nI s) = some (aw (54 + s)) := m_ways F.1 hs
    obtain ⟨wy2, e1, e2⟩ := p_200 F hs hp htr j (k + 1) f (upd wy' k (tr k)) (by omega) (by omega) (fun i hi => by
      by_cases c : i = k
      · subst c; exact upd_self'
      · rw [upd_ne' c]; exact h i (by omega))
    refine ⟨wy2, ?_, e2⟩
    rw [f_X8_path_L200, nI_pr, if_neg (nI_ge (by omega) (by omega)), x_ref F1 (k := 7) rfl, Option.bind_some, wa, Option.bind_some, x_ref F1 (k := 23) rfl, Option.bind_some, show rdA cy (MT cy iw aw μ1 I V (updG A (54 + s) wy') 60 N X) 1 (aw 23) (nI k) = _ from r23, Option.bind_some, st, Option.bind_some, nI_a1]
    exact e1
/-- how path ends, on both sides -/
def PTH (cy : Nat → ClassId) (iv : Nat → Option Nat) (ad : Nat → Nat) (μ0 : Mem) (w : Nat) (iw : Nat → Option Nat) (aw : Nat → Nat) (μ1 : Mem) (I : Nat → Int32) (V : Nat → Value) (A : Nat → Nat → Int32) (s n N : Nat) (bs : Nat → Nat) (X : Nat → Nat → Int32) (J : Nat → Int32) (B : Nat → Nat → Int32) (x : Option ((String × Mem) ⊕ (Int32 × Mem))) (y : Option (Int32 × Mem)) : Prop := ∃ J' B' v tr', x = some (.inr (v, MC cy iv ad μ0 J' w B')) ∧ ((y = some (v, MT cy iw aw μ1 I V (updG A 23 tr') 60 N X) ∧ FrC 80 J J' B B') ∨ ∃ G' d' m' at' wy', y = some (v, MT cy iw aw μ1 I V (updG (updG (updG (updG A 23 tr') 8 (upd (A 8) s (nI d'))) (54 + s) wy') 9 (upd (A 9) s at')) 60 N X) ∧ CUR J' B' (sC (90 + s)) (hb bs) n G' d' m' at' ∧ atOk at' m' ∧ (∀ k, k < d' → wy' k = nI (G' k)) ∧ (∀ k, k / 100 ≠ 80 → k / 100 ≠ sC (90 + s) → J' k = J k) ∧ ∀ k, k ≤ 80 ∨ 85 < k → (k ≤ sC (90 + s) ∨ sC (90 + s) + 5 < k) → B' k = B k)
theorem p_none (F : TX iw aw V A 21 60 (50 + s) bs n) {g : Nat} {x2 x4 : Int32} {p : Nat} {tr : Nat → Int32} {x3 : Int32} : f_X8_path_L47 cy (g + 1) (aw 0) (nI s) x2 x3 (nI p) x4 0 0 (MT cy iw aw μ1 I V (updG A 23 tr) 60 N X) = some (nI p, MT cy iw aw μ1 I V (updG A 23 tr) 60 N X) := by
  rw [f_X8_path_L47, if_pos rfl, if_pos rfl]
  rfl
theorem p_loop (hL : Lay6 iv ad) (hs : s < 4) (F : TX iw aw V A 21 60 (50 + s) bs n) (hT : ∀ j, j < tn → A 1 j = sx (tb j)) (htB : bB tb) (htn : tn ≤ 2000) {J0 : Nat → Int32} {B0 : Nat → Nat → Int32} (g1 : J0 2201 = nI tn) (g2 : B0 23 = hb tb) (s1 : J0 (100 * sS (90 + s) + 1) = nI n) (s2 : B0 (sS (90 + s) + 1) = hb bs) : ∀ (q p f g a : Nat) (J : Nat → Int32) (B : Nat → Nat → Int32) (G : Nat → Nat) (m : Nat) (at' : Int32) (ν hi m' r dp : Nat) (row : Bool) (c : Nat → Nat) (tr : Nat → Int32), p + q = 24 → q < f → q + 3 < g → a ≤ tn → FrC 80 J0 J B0 B → CUR J B 80 (hb bs) n G p m at' → NK X (hb bs) n (23 - p) ν (wD (hb bs) n G p) r row dp (ν + 1) hi m' c → hi < 1300 → ν < 1300 → X 10 ν = nI (wD (hb bs) n G p) → (∀ k, k < p → tr k = nI (G k)) →
    PTH cy iv ad μ0 w iw aw μ1 I V A s n N bs X J0 B0 (f_X6_path_L26 cy f (ad 0) (ad (90 + s)) (nI a) (nI p) (MC cy iv ad μ0 J w B)) (f_X8_path_L47 cy g (aw 0) (nI s) (nI tn) (nI ν) (nI p) (nI a) 0 1 (MT cy iw aw μ1 I V (updG A 23 tr) 60 N X))
  | q, p, 0, g, a, J, B, G, m, at', ν, hi, m', r, dp, row, c, tr, hp, hf, hg, ha, fr, C, K, hhi, hν, h10, htr => by omega
  | q, p, f + 1, 0, a, J, B, G, m, at', ν, hi, m', r, dp, row, c, tr, hp, hf, hg, ha, fr, C, K, hhi, hν, h10, htr => by omega
  | q, p, f + 1, g + 1, a, J, B, G, m, at', ν, hi, m', r, dp, row, c, tr, hp, hf, hg, ha, fr, C, K, hhi, hν, h10, htr => by
    have hlv := C.lvl
    have zs := sS_s hs
    have aa := shf_sp zs.1
    have hn := F.2.2.2.2.2.2
    have hm := C.2.2.2.2.2.2.2.2.1
    obtain ⟨r1, hD1⟩ := C.2.2.2.2.2.2.2.2.2.2
    have W := C.2.2.2.2.2.2.2.2.2.1
    obtain ⟨-, emm⟩ := K.1.uniq hD1 hn
    subst emm
    have j22 : J 2201 = nI tn := by rw [fr.1 _ (by decide)]; exact g1
    have b23 : B 23 = hb tb := by rw [fr.2 _ (by omega)]; exact g2
    have js : J (100 * sS (90 + s) + 1) = nI n := by rw [fr.1 _ (by omega)]; exact s1
    have b27 : B (sS (90 + s) + 1) = hb bs := by rw [fr.2 _ (by omega)]; exact s2
    have FT := F.a (j := 23) (f := tr) (by omega)
    have SG : SP cy (MC cy iv ad μ0 J w B) (ad 22) (ad (22 + 1)) (len6 (22 + 1)) tn (hb tb) (J (100 * 22 + 2)) := by
      have := SP6 (cy := cy) (μ0 := μ0) (w := w) (B := B) (J := J) (j := 22) (n := tn) hL rfl j22 htn
      rw [show B (22 + 1) = hb tb from b23] at this
      exact this
    have SB : SP cy (MC cy iv ad μ0 J w B) (ad (sS (90 + s))) (ad (sS (90 + s) + 1)) (len6 (sS (90 + s) + 1)) n (hb bs) (J (100 * sS (90 + s) + 2)) := by
      have := SP6 (cy := cy) (μ0 := μ0) (w := w) (B := B) (J := J) (j := sS (90 + s)) (n := n) hL aa.1 js (by rw [aa.2.2.1]; exact hn)
      rw [b27] at this
      exact this
    have zf1 := P_zeroFrom (cy := cy) (μ0 := μ0) (w := w) (J := J) (B := B) (j := 22) (n := tn) hL rfl j22 htn ha (Nat.le_refl _)
    rw [show B (22 + 1) = hb tb from b23] at zf1
    have eb := endOf_b (h := hb tb) ha
    have nn := C_numberOfName (cy := cy) (μ0 := μ0) (w := w) hL (cs := 80) rfl SB SG C eb.1 eb.2
    have nm := x_named (cy := cy) (μ1 := μ1) (I := I) (N := N) FT (by rw [updG_ne (by decide)]; exact hT) htB htn eb.1 eb.2 K hhi hν
    have cls : f_X6_path_L26 cy (f + 1) (ad 0) (ad (90 + s)) (nI a) (nI p) (MC cy iv ad μ0 J w B) = f_X6_path_L81 cy (f_X6_path_L26 cy f) (ad 0) (ad (90 + s)) (nI p) (zfI (zf (hb tb) a (tn - a))) (ad 80) (ad (sS (90 + s))) (ad 22) (nI a) (nI (endOf (zf (hb tb) a (tn - a)) tn)) (MC cy iv ad μ0 J w B) := by
      rw [f_X6_path_L26, if_neg (show ¬ (24 : Int32) ≤ nI p from nI_ge (b := 24) hlv (by decide)), g_ref hL (k := 1) rfl, Option.bind_some, Option.bind_some, P_size (j := 22) (n := tn) hL rfl j22, Option.bind_some, if_pos (P_is hL rfl), zf1, ob2_some, g_ref hL (k := 5) rfl, Option.bind_some, F_r0 hL zs.1, Option.bind_some, g_ref hL (k := 1) rfl, Option.bind_some, Option.bind_some, P_size (j := 22) (n := tn) hL rfl j22, Option.bind_some]
      cases ez : zf (hb tb) a (tn - a) with
      | none => rw [if_pos (show zfI none = -1 from rfl)]; rfl
      | some y =>
        have := zf_some ez
        rw [if_neg (show ¬ zfI (some y) = -1 from nI_m1 (by omega))]
        rfl
    have ref : f_X8_path_L47 cy (g + 1) (aw 0) (nI s) (nI tn) (nI ν) (nI p) (nI a) 0 1 (MT cy iw aw μ1 I V (updG A 23 tr) 60 N X) = f_X8_path_L103 cy (f_X8_path_L47 cy g) (aw 0) (nI s) (nI tn) (nI ν) (nI p) (nI a) 0 (nI (endOf (zf (hb tb) a (tn - a)) tn)) (zfI (ffi (fun i => nmEq (hb bs) n (st (hb bs) n (wD (hb bs) n G p) i) (hb tb) a (endOf (zf (hb tb) a (tn - a)) tn)) 0 m')) (MT cy iw aw μ1 I V (updG A 23 tr) 60 N X) := by
      have dl := hD1.1
      have dl2 := hD1.2.1
      rw [f_X8_path_L47, if_neg (show ¬ (1 : Int32) = 0 by decide), p_56 FT (by rw [updG_ne (by decide)]; exact hT) htB htn (tn - a) a FU (by omega) (by show tn - a < 100000; omega)]
      unfold f_X8_path_L78
      rw [x_ref FT (k := 21) rfl, Option.bind_some, x_r10 FT, Option.bind_some, x_ld FT 10 (by decide) hν, Option.bind_some, h10, if_pos (show (0 : Int32) ≤ nI (wD (hb bs) n G p) from nI_le (a := 0) (Nat.zero_le _) (by omega)), if_pos (x_o FT), nm, ob2_some]
    rw [cls, ref]
    unfold f_X6_path_L81 f_X8_path_L103
    rw [if_pos (C_is hL rfl), nn, ob2_some]
    cases ef : ffi (fun i => nmEq (hb bs) n (st (hb bs) n (wD (hb bs) n G p) i) (hb tb) a (endOf (zf (hb tb) a (tn - a)) tn)) 0 m' with
    | none =>
      obtain ⟨g', rfl⟩ : ∃ g', g = g' + 1 := ⟨g - 1, by omega⟩
      rw [if_pos (show zfI none = -1 from rfl), if_pos (show zfI none < 0 by decide)]
      unfold f_X8_path_L115
      rw [if_pos (show (0 : Int32) = 0 from rfl), p_none F]
      exact ⟨J, B, nI p, tr, rfl, Or.inl ⟨rfl, fr⟩⟩
    | some i =>
      have hi' := ffi_some ef
      have him : i < m' := by omega
      have C1 := C.at (x := nI i)
      have K1 := K
      obtain ⟨y1, y2, y3, y4, y5⟩ := K1.2.2.2.2.2.2 i him
      have ki := K.inc (i := i + 1) (by omega)
      have eo := K.1.2.2.2.2.2 i him
      have le2 := K.1.le' (i := i + 1) (by omega)
      have dr2 := K.1.2.1
      have dr1 := K.1.1
      have es := eo.s (n := n) (by omega)
      have fr1 : FrC 80 J0 (upd J (100 * 80 + 5) (nI i)) B0 B := ⟨fun k hk => by rw [upd_ne' (by omega)]; exact fr.1 k hk, fr.2⟩
      have js1 : (upd J (100 * 80 + 5) (nI i)) (100 * sS (90 + s) + 1) = nI n := by rw [upd_ne' (by omega)]; exact js
      have st23 := x_as (cy := cy) (μ0 := μ1) (I := I) (N := N) (X := X) (i := p) FT 23 rfl (by decide) (by show p < 2002; omega) (nI i)
      rw [updG_self, updG_updG] at st23
      have FT1 := F.a (j := 23) (f := upd tr p (nI i)) (by omega)
      have ch := x_child (cy := cy) (μ0 := μ1) (I := I) (N := N) FT1 K hhi hν him
      have tr1 : ∀ k, k < p + 1 → upd tr p (nI i) k = nI (updG G p i k) := fun k hk => by
        by_cases c : k = p
        · subst c; rw [upd_self', updG_self]
        · rw [upd_ne' c, updG_ne c]; exact htr k (by omega)
      rw [show zfI (some i) = nI i from rfl, if_neg (nI_m1 (by omega)), if_neg (show ¬ nI i < 0 from nI_nlt (b := 0) (Nat.zero_le _) (by omega)), g_ref hL (k := 5) rfl, Option.bind_some, c_putC hL (j := 80) rfl 5 (Or.inr (Or.inl rfl)), Option.bind_some]
      unfold f_X8_path_L115
      rw [if_neg (show ¬ (1 : Int32) = 0 by decide), x_ref FT (k := 23) rfl, Option.bind_some, show wrA cy (MT cy iw aw μ1 I V (updG A 23 tr) 60 N X) 1 (aw 23) (nI p) (nI i) = _ from st23, Option.bind_some, x_ref FT1 (k := 21) rfl, Option.bind_some, if_pos (x_is FT1), ch, ob2_some, nI_a1]
      unfold f_X8_path_L159 f_X8_path_L171
      cases ez : zf (hb tb) a (tn - a) with
      | none =>
        obtain ⟨J2, B2, e2, C2, fr2⟩ := C_become (cy := cy) (μ0 := μ0) (w := w) (cs := sC (90 + s)) (c2 := 80) hL aa.2.1 rfl (by omega) aa.1 js1 (by rw [aa.2.2.1]; exact hn) b27 C1
        rw [show zfI none = -1 from rfl, if_pos (show (-1 : Int32) = -1 from rfl), F_r1 hL zs.1, Option.bind_some, g_ref hL (k := 5) rfl, Option.bind_some, F_r0 hL zs.1, Option.bind_some, if_pos (C_is hL aa.2.1), e2, Option.bind_some, if_pos (show nI (endOf none tn) = nI tn from rfl), if_neg (show ¬ (1 : Int32) = 0 by decide)]
        obtain ⟨g', rfl⟩ : ∃ g', g = g' + 1 := ⟨g - 1, by omega⟩
        have st8 := x_as (cy := cy) (μ0 := μ1) (I := I) (N := N) (X := X) (i := s) FT1 8 rfl (by decide) hs (nI p)
        rw [updG_ne (show 8 ≠ 23 by decide)] at st8
        have FT2 := FT1.a (j := 8) (f := upd (A 8) s (nI p)) (by omega)
        obtain ⟨wy2, w1, w2⟩ := p_200 (cy := cy) (μ1 := μ1) (I := I) (N := N) (X := X) (p := p) (tr := upd tr p (nI i)) FT2 hs (by omega) (by rw [updG_ne (by decide), updG_self]) p 0 FU (updG (updG A 23 (upd tr p (nI i))) 8 (upd (A 8) s (nI p)) (54 + s)) (by omega) (by show p < 100000; omega) (fun i hi => by omega)
        rw [updG_id, updG_ne (show 9 ≠ 8 by decide), updG_ne (show 9 ≠ 23 by decide), upd_self'] at w1
        have w1' : f_X8_path_L200 cy FU (aw 0) (nI s) (nI (p + 1)) 0 (MT cy iw aw μ1 I V (updG (updG A 23 (upd tr p (nI i))) 8 (upd (A 8) s (nI p))) 60 N X) = _ := w1
        rw [f_X8_path_L47, if_pos (show (0 : Int32) = 0 from rfl), if_neg (show ¬ (1 : Int32) = 0 by decide), x_ref FT1 (k := 8) rfl, Option.bind_some, nI_pr, show wrA cy (MT cy iw aw μ1 I V (updG A 23 (upd tr p (nI i))) 60 N X) 1 (aw 8) (nI s) (nI p) = _ from st8, Option.bind_some, w1']
        refine ⟨J2, B2, nI (p + 1), upd tr p (nI i), rfl, Or.inr ⟨G, p, m', nI i, wy2, rfl, C2, Or.inr ⟨i, him, rfl⟩, fun k hk => ?_, fun k k1 k2 => ?_, fun k k1 k2 => ?_⟩⟩
        · rw [w2 k hk, upd_ne' (by omega)]; exact htr k hk
        · rw [fr2.1 k k2, upd_ne' (by omega)]; exact fr.1 k k1
        · rw [fr2.2 k k2]; exact fr.2 k k1
      | some y =>
        have zy := zf_some ez
        have ne : ¬ nI (endOf (some y) tn) = nI tn := fun e => by
          have := (nI_eq (a := y) (by omega) (by omega)).mp e
          omega
        rw [show zfI (some y) = nI y from rfl, if_neg (nI_m1 (by omega)), g_ref hL (k := 5) rfl, Option.bind_some, F_r0 hL zs.1, Option.bind_some, if_pos (C_is hL rfl), if_neg ne, if_pos (show (0 : Int32) = 0 from rfl), show endOf (some y) tn = y from rfl, nI_a1]
        by_cases hd : hasD (hb bs (st (hb bs) n (wD (hb bs) n G p) i))
        · obtain ⟨J2, B2, m2, e2, C2, fr2⟩ := C_stepIn (cy := cy) (μ0 := μ0) (w := w) (cs := 80) hL rfl aa.1 js1 (by rw [aa.2.2.1]; exact hn) b27 C1 him rfl hd
          have lv2 := C2.lvl
          rw [e2, ob2_some, if_neg (show ¬ (1 : Int32) = 0 by decide)]
          have eD : wD (hb bs) n (updG G p i) (p + 1) = dcIn (hb bs) (hb bs (st (hb bs) n (wD (hb bs) n G p) i)) (vpl (hb bs) n (st (hb bs) n (wD (hb bs) n G p) i)) := by
            show dcIn (hb bs) (hb bs (st (hb bs) n (wy (hb bs) n (updG G p i) p).1 (updG G p i p))) (vpl (hb bs) n (st (hb bs) n (wy (hb bs) n (updG G p i) p).1 (updG G p i p))) = _
            rw [wy_congr p (fun j hj => updG_ne (by omega)), updG_self]
          have yd := y4 hd
          rw [show 23 - p = (23 - (p + 1)) + 1 by omega] at yd
          obtain ⟨m3, c3, K3⟩ := NDoc.k yd
          rw [← eD] at K3
          exact p_loop hL hs F hT htB htn g1 g2 s1 s2 (q - 1) (p + 1) f g (y + 1) J2 B2 (updG G p i) m2 (num0 m2) (c i) (c (i + 1)) m3 _ _ _ c3 (upd tr p (nI i)) (by omega) (by omega) (by omega) (by omega) ⟨fun k hk => by rw [fr2.1 k hk]; exact fr1.1 k hk, fun k hk => by rw [fr2.2 k hk]; exact fr1.2 k hk⟩ C2 K3 (by omega) (by omega) (by rw [eD, y2.2.2.2.2.2.1]; exact if_pos hd) tr1
        · have e2 := C_stepInN (cy := cy) (μ0 := μ0) (w := w) (cs := 80) hL rfl aa.1 js1 (by rw [aa.2.2.1]; exact hn) b27 C1 (Or.inr ⟨i, him, rfl, hd⟩)
          obtain ⟨g', rfl⟩ : ∃ g', g = g' + 1 + 1 := ⟨g - 2, by omega⟩
          rw [e2, ob2_some, if_pos (show (0 : Int32) = 0 from rfl), f_X8_path_L47, if_neg (show ¬ (1 : Int32) = 0 by decide), p_56 FT1 (by rw [updG_ne (by decide)]; exact hT) htB htn (tn - (y + 1)) (y + 1) FU (by omega) (by show tn - (y + 1) < 100000; omega)]
          unfold f_X8_path_L78
          have h10' : X 10 (c i) = -1 := by rw [y2.2.2.2.2.2.1]; exact if_neg hd
          rw [x_ref FT1 (k := 21) rfl, Option.bind_some, x_r10 FT1, Option.bind_some, x_ld FT1 10 (by decide) (by omega), Option.bind_some, h10', if_neg (show ¬ (0 : Int32) ≤ -1 by decide)]
          unfold f_X8_path_L103
          rw [if_pos (show (-1 : Int32) < 0 by decide)]
          unfold f_X8_path_L115
          rw [if_pos (show (0 : Int32) = 0 from rfl), p_none F]
          exact ⟨_, B, nI (p + 1), upd tr p (nI i), rfl, Or.inl ⟨rfl, fr1⟩⟩
end KPT
section KPT2
variable {cy : Nat → ClassId} {iv : Nat → Option Nat} {ad : Nat → Nat} {μ0 : Mem} {J : Nat → Int32} {w : Nat} {B : Nat → Nat → Int32} {iw : Nat → Option Nat} {aw : Nat → Nat} {μ1 : Mem} {I : Nat → Int32} {V : Nat → Value} {A : Nat → Nat → Int32}
theorem k_path (hL : Lay6 iv ad) (hW : Lay iw aw) (R0 : REL J B I A) (x : Int32) : ANS cy iv ad μ0 iw aw μ1 ["java/lang/IndexOutOfBoundsException"] (f_X6_path cy (ad 0) x (MC cy iv ad μ0 J w B)) (f_X8_path cy (aw 0) x (MR cy iw aw μ1 I V A)) := by
  unfold f_X6_path f_X8_path
  obtain ⟨J1, B1, tn, tb, e1, R, g1, g2, g3, g4, i2, tA1⟩ := k_tape (cy := cy) (μ0 := μ0) (w := w) hL R0
  rw [if_pos (g_is hL), e1, Option.bind_some, if_pos (g_is hL), show rdI (MR cy iw aw μ1 I V A) (aw 0) 7 2 = some (I 2) from m_int hW rfl, Option.bind_some, m_put hW rfl (by decide), Option.bind_some, if_pos (r_is hW)]
  rcases sh4 x with ⟨s, hs, rfl⟩ | hx
  · obtain ⟨bs, n, G, d, m, at', S, hat, Rs⟩ := R.2.2.1 s hs
    have z := sS_s hs
    have a := shf_sp z.1
    have hn := S.2.2.2.1
    have W := S.2.2.2.2.2.2.2.2.2.2.2.2.2.1
    obtain ⟨N, X, ν, hi, m2, c, e2, tw, F⟩ := x_sr (cy := cy) (μ0 := μ1) (I := upd (upd I 2 0) 0 0) (V := V) hW (Or.inl ⟨rfl, rfl⟩ : isT 21 60) hs Rs S.2.2.1 W
    obtain ⟨J2, B2, mr, e3, C0, fr0⟩ := C_toRoot (cy := cy) (μ0 := μ0) (w := w) (J := J1) (B := B1) (cs := 80) (sp := sS (90 + s)) hL rfl a.1 S.1 (by rw [a.2.2.1]; exact hn) S.2.1 W.1 hn
    obtain ⟨m3, c3, K3⟩ := NDoc.k tw.1.1
    have tr := tw.1
    have hN := tw.2.1
    have pl := p_loop (cy := cy) (μ0 := μ0) (w := w) (μ1 := μ1) (I := upd (upd I 2 0) 0 0) (V := updG V 60 (.ref (aw (50 + s)))) (A := A) (N := N) (X := X) (J0 := J1) (B0 := B1) hL hs F tA1 g3 g4 g1 g2 S.1 S.2.1 24 0 FU FU 0 J2 B2 G mr (num0 mr) 0 N m3 _ _ _ c3 (A 23) (by omega) (by decide) (by decide) (Nat.zero_le _) fr0 (C0 G) K3 hN (by decide) (by rw [tr.2.2.2.1]; rfl) (fun k hk => by omega)
    rw [updG_id] at pl
    rw [g_shelf hL hs, obX2_r, g_ref hL (k := 5) rfl, Option.bind_some, F_r0 hL z.1, Option.bind_some, if_pos (C_is hL rfl), e3, Option.bind_some, r_shelf hW hs, ob2_some, if_pos (show (0 : Int32) = 0 from rfl), m_ref hW rfl, Option.bind_some, m_ref hW rfl, Option.bind_some, m_docs hW hs, Option.bind_some, if_pos (m_tis hW (Or.inl ⟨rfl, rfl⟩)), e2, Option.bind_some, i2]
    obtain ⟨J', B', v, tr', x1, x2⟩ := pl
    have x1' : f_X6_path_L26 cy FU (ad 0) (ad (90 + s)) 0 0 (MC cy iv ad μ0 J2 w B2) = _ := x1
    rw [x1']
    rcases x2 with ⟨y, fr⟩ | ⟨G', d', m', at2, wy', y, C', hat', hw, fJ, fB⟩
    · have y' : f_X8_path_L47 cy FU (aw 0) (nI s) (nI tn) 0 0 0 0 1 (MT cy iw aw μ1 (upd (upd I 2 0) 0 0) (updG V 60 (.ref (aw (50 + s)))) A 60 N X) = _ := y
      rw [y']
      exact ans_ok rfl rfl rfl ((R.i0 (x := 0)).fr (fun k k1 k2 => fr.1 k k2) (fun k hk => fr.2 k (by omega)) (fun k k1 k2 => upd_ne' (by omega)) (fun j hj => by unfold rlv at hj; rw [tA_out (by omega), updG_ne (by omega)]))
    · have y' : f_X8_path_L47 cy FU (aw 0) (nI s) (nI tn) 0 0 0 0 1 (MT cy iw aw μ1 (upd (upd I 2 0) 0 0) (updG V 60 (.ref (aw (50 + s)))) A 60 N X) = _ := y
      rw [y']
      refine ans_ok rfl rfl rfl ((R.i0 (x := 0)).sh hs ⟨bs, n, G', d', m', at2, ⟨by rw [fJ _ (by omega) (by omega)]; exact S.1, by rw [fB _ (by omega) (by omega)]; exact S.2.1, S.2.2.1, hn, C'⟩, hat', ?_, ?_, ?_, ?_, ?_⟩ (fun k k1 k2 k3 k4 => fJ k k2 (by omega)) (fun k k1 k2 k3 => fB k k1 (by omega)) (fun k k1 k2 => upd_ne' (by omega)) (fun j hj j1 j2 j3 j4 j5 => by unfold rlv at hj; rw [tA_out (by omega), updG_ne j3, updG_ne j5, updG_ne j2, updG_ne (by omega)]) (fun j t hj ht => ?_))
      · intro j hj
        rw [tA_out (by omega), updG_ne (by omega), updG_ne (by omega), updG_ne (by omega), updG_ne (by omega)]
        exact Rs.1 j hj
      · rw [tA_out (by omega), updG_ne (by decide), updG_ne (by omega), updG_ne (by decide), updG_ne (by decide)]
        exact Rs.2.1
      · intro k hk
        rw [tA_out (by omega), updG_ne (by omega), updG_self]
        exact hw k hk
      · rw [tA_out (by omega), updG_ne (by decide), updG_ne (by omega), updG_self, upd_self']
      · rw [tA_out (by omega), updG_self, upd_self']
      · rw [tA_out (by omega)]
        by_cases j9 : j = 9
        · subst j9; rw [updG_self, upd_ne' ht]
        · rw [updG_ne j9, updG_ne (by omega)]
          by_cases j8 : j = 8
          · subst j8; rw [updG_self, upd_ne' ht]
          · rw [updG_ne j8, updG_ne (by omega)]
  · rw [g_noShelf hx, obX2_l, r_noShelf hW hx, ob2_some, if_neg (show ¬ (1 : Int32) = 0 by decide)]
    exact ans_th 1 (by decide) (by decide) rfl rfl rfl rfl R.i0
end KPT2
