/-! THE SHEET: open DOCUMENTS; close; lay. -/
section CHS
variable {h h' : Nat → Int32} {z k D c : Nat} {t : Int32}
theorem top_mono {s : Nat → Nat} {e : Nat} {row : Bool} (h0 : s 0 = D + 4) (hs : ∀ i, i < c → eOk h e (s i) (s (i + 1)) (rwo row i)) : ∀ i j, i + j ≤ c → s i + 2 * j ≤ s (i + j)
  | i, 0, _ => Nat.le_refl _
  | i, j + 1, hj => by
    have := top_mono h0 hs i j (by omega)
    have := (hs (i + j) (by omega)).le
    show s i + 2 * (j + 1) ≤ s (i + j + 1)
    omega
theorem top_in {s : Nat → Nat} {e : Nat} {row : Bool} (h0 : s 0 = D + 4) (hz : s c = z) (hs : ∀ i, i < c → eOk h e (s i) (s (i + 1)) (rwo row i)) {i : Nat} (hi : i ≤ c) : D + 4 + 2 * i ≤ s i ∧ s i + 2 * (c - i) ≤ z := by
  have a1 := top_mono h0 hs 0 i (by omega)
  have a2 := top_mono h0 hs i (c - i) (by omega)
  rw [Nat.zero_add] at a1
  rw [show i + (c - i) = c by omega] at a2
  omega
theorem TOPk.go (T : TOPk h z k D t c) (a : ∀ j, D + 4 ≤ j → j < z → h' j = h j) : TOPk h' z k D t c := by
  obtain ⟨s, h0, hz, hs⟩ := T
  refine ⟨s, h0, hz, fun i hi => ?_⟩
  have e := hs i hi
  have le := e.le
  have b1 := top_in h0 hz hs (i := i) (by omega)
  have b2 := top_in h0 hz hs (i := i + 1) (by omega)
  exact e.go (Nat.le_refl _) (fun x hx => a _ (by omega) (by omega)) (by omega)
theorem TOPk.le (T : TOPk h z k D t c) : D + 4 + 2 * c ≤ z := by
  obtain ⟨s, h0, hz, hs⟩ := T
  have := top_in h0 hz hs (i := c) (Nat.le_refl _)
  omega
/-- one ELEMENT more -/
theorem TOPk.add (T : TOPk h z k D t c) {z' : Nat} (a : ∀ j, D + 4 ≤ j → j < z → h' j = h j) (e : eOk h' (23 - k) z z' (rwo (t == 4) c)) : TOPk h' z' k D t (c + 1) := by
  obtain ⟨s, h0, hz, hs⟩ := T.go a
  refine ⟨fun i => if i ≤ c then s i else z', by show (if 0 ≤ c then s 0 else z') = D + 4; rw [if_pos (Nat.zero_le _)]; exact h0, if_neg (by omega), fun i hi => ?_⟩
  show eOk h' (23 - k) (if i ≤ c then s i else z') (if i + 1 ≤ c then s (i + 1) else z') (rwo (t == 4) i)
  by_cases q : i = c
  · subst q
    rw [if_pos (Nat.le_refl _), if_neg (by omega), hz]
    exact e
  · rw [if_pos (by omega), if_pos (by omega)]
    exact hs i (by omega)
theorem MIDk.go {D' v' : Nat} {t' : Int32} (M : MIDk h k D t c D' t' v') (a : ∀ j, D + 4 ≤ j → j < D' → h' j = h j) : MIDk h' k D t c D' t' v' := by
  obtain ⟨q, m1, m2, m3, m4, m5, m6, m7, m8⟩ := M
  have l := m2.le
  have vD : v' ≤ D' := by rcases m8 with ⟨-, m8, -⟩ | ⟨-, m8⟩ <;> omega
  refine ⟨q, m1, m2.go (fun j a1 a2 => a j a1 (by omega)), m3, by rw [a q (by omega) (by omega)]; exact m4, m5, m6.go (fun x hx => a _ (by omega) (by omega)) (by omega), m7, ?_⟩
  rcases m8 with ⟨e1, e2, e3⟩ | e
  · exact Or.inl ⟨e1, e2, e3.go (fun x hx => a _ (by omega) (by omega)) (by omega)⟩
  · exact Or.inr e
end CHS
section CHS2
variable {h h' : Nat → Int32} {z o : Nat} {D v c : Nat → Nat} {t : Nat → Int32}
theorem CHN.mono (C : CHN h z o D t v c) : ∀ i j, i + j < o → D i + 4 * j ≤ D (i + j)
  | i, 0, _ => Nat.le_refl _
  | i, j + 1, hj => by
    have := C.mono i j (by omega)
    have := (C.2.2.2.2 (i + j) (by omega)).2
    show D i + 4 * (j + 1) ≤ D (i + j + 1)
    omega
theorem CHN.up (C : CHN h z o D t v c) {i j : Nat} (hij : i ≤ j) (hj : j < o) : D i + 4 * (j - i) ≤ D j := by
  have := C.mono i (j - i) (by omega)
  rw [show i + (j - i) = j by omega] at this
  exact this
theorem CHN.top (C : CHN h z (o + 1) D t v c) : TOPk h z o (D o) (t o) (c o) := (C.2.2.1 (Nat.succ_pos o)).2.2
theorem CHN.v15 (C : CHN h z (o + 1) D t v c) (q : t o = 15) : v o + 8 < D o := by
  match o, C, q with
  | 0, C, q =>
    have := (C.2.2.1 (by decide)).2.1
    rw [this] at q
    exact absurd q (by decide)
  | x + 1, C, q =>
    obtain ⟨⟨_, _, _, _, _, _, _, _, m8⟩, _⟩ := C.2.2.2.2 x (by omega)
    rcases m8 with ⟨_, m8, _⟩ | ⟨m8, _⟩
    · exact m8
    · exact absurd q m8
/-- a DOCUMENT is closed -/
theorem CHN.close {b b' : Nat → Nat} (C : CHN (hb b) z (o + 1) D t v c) (hz : z < 2400) (a : ∀ j, j < z → (j < D o ∨ D o + 4 ≤ j) → (t o = 15 → j < v o ∨ v o + 4 ≤ j) → b' j = b j) (h0 : b' z = 0) (hD : i4 (hb b') (D o) = nI (z + 1 - D o)) (hv : t o = 15 → i4 (hb b') (v o) = nI (z + 1 - v o)) : CHN (hb b') (z + 1) o D t v c := by
  have T := C.top
  have tl := T.le
  have ab : ∀ j, j < z → (j < D o ∨ D o + 4 ≤ j) → (t o = 15 → j < v o ∨ v o + 4 ≤ j) → hb b' j = hb b j := fun j j1 j2 j3 => by show nI (b' j) = nI (b j); rw [a j j1 j2 j3]
  have v15 : t o = 15 → v o + 8 < D o := fun q => C.v15 q
  obtain ⟨s, s0, sz, ss⟩ := T.go (h' := hb b') (fun j j1 j2 => ab j j2 (Or.inr j1) (fun q => by have := v15 q; omega))
  have ho := C.1
  have dk : dOk (hb b') (23 - o + 1) (D o) (z + 1) (t o == 4) := dOk.m s (by omega) (by omega) (by rw [hD]) (by show hb b' (z + 1 - 1) = 0; rw [Nat.add_sub_cancel]; show nI (b' z) = 0; rw [h0]; rfl) (by omega) s0 (by omega) ss
  match o, C, ho, dk, ab, v15, hv, hD, tl with
  | 0, C, ho, dk, ab, v15, hv, hD, tl =>
    have e1 := C.2.2.1 (by decide)
    rw [e1.1, e1.2.1] at dk
    exact ⟨by decide, fun _ => dk, fun q => absurd q (by decide), fun k hk => by omega, fun k hk => by omega⟩
  | p + 1, C, ho, dk, ab, v15, hv, hD, tl =>
    have e1 := C.2.2.1 (by omega)
    obtain ⟨M, dl⟩ := C.2.2.2.2 p (by omega)
    have M0 := M
    obtain ⟨q, m1, m2, m3, m4, m5, m6, m7, m8⟩ := M
    have ml := m2.le
    have agq : ∀ j, j < v (p + 1) → hb b' j = hb b j := fun j hj => by
      have vD : v (p + 1) ≤ D (p + 1) := by rcases m8 with ⟨-, m8, -⟩ | ⟨-, m8⟩ <;> omega
      exact ab j (by omega) (by omega) (fun _ => by omega)
    have e23 : 23 - (p + 1) + 1 = 23 - p := by omega
    rw [e23] at dk
    have vk : vOk (hb b') (23 - p) (t (p + 1)) (v (p + 1)) (z + 1) := by
      rcases m8 with ⟨q1, q2, q3⟩ | ⟨q1, q2⟩
      · have dk' := dk
        rw [q1] at dk' ⊢
        have hv' := hv q1
        have tx : txOk (hb b') (v (p + 1) + 4) (D (p + 1)) := q3.go (fun x hx => ab _ (by omega) (by omega) (fun _ => by omega)) (by omega)
        refine vOk.m15 (M := D (p + 1) - (v (p + 1) + 8)) (by omega) (by omega) hv' ?_ ?_
        · rw [show v (p + 1) + 8 + (D (p + 1) - (v (p + 1) + 8)) = D (p + 1) by omega]; exact tx
        · rw [show v (p + 1) + 8 + (D (p + 1) - (v (p + 1) + 8)) = D (p + 1) by omega]; exact dk'
      · have t34 : t (p + 1) = 3 ∨ t (p + 1) = 4 := by
          rcases m5 with m5 | m5 | m5
          · exact Or.inl m5
          · exact Or.inr m5
          · exact absurd m5 q1
        rw [q2] at dk
        exact vOk.m34 t34 dk
    have ek : eOk (hb b') (23 - p) q (z + 1) (rwo (t p == 4) (c p - 1)) := by
      refine eOk.m (z := v (p + 1) - 1) (by rw [agq q (by omega), m4]; exact m3) (m6.go (fun x hx => agq _ (by omega)) (by omega)) ?_
      rw [agq q (by omega), m4, show v (p + 1) - 1 + 1 = v (p + 1) by omega]
      exact vk
    have nT := m2.add (h' := hb b') (fun j j1 j2 => agq j (by omega)) ek
    rw [show c p - 1 + 1 = c p by omega] at nT
    refine ⟨by omega, fun z' => by omega, fun _ => ⟨e1.1, e1.2.1, nT⟩, fun k hk => by have := C.2.2.2.1 k (by omega); omega, fun k hk => ?_⟩
    obtain ⟨Mk, dk'⟩ := C.2.2.2.2 k (by omega)
    have := C.up (i := k + 1) (j := p) (by omega) (by omega)
    exact ⟨Mk.go (fun j j1 j2 => agq j (by omega)), dk'⟩
end CHS2
section KH3
variable {cy : Nat → ClassId} {iv : Nat → Option Nat} {ad : Nat → Nat} {μ0 : Mem} {J : Nat → Int32} {w : Nat} {B : Nat → Nat → Int32} {iw : Nat → Option Nat} {aw : Nat → Nat} {μ1 : Mem} {I : Nat → Int32} {V : Nat → Value} {A : Nat → Nat → Int32} {z : Nat} {b : Nat → Nat} {s : Nat}
/-! lay -/
theorem z_41 (hW : Lay iw aw) (hs : s < 4) {n : Nat} {b : Nat → Nat} (hB : bB b) (h11 : I 11 = nI n) (hA : ∀ j, j < n → A 10 j = sx (b j)) (hn : n ≤ 2400) : ∀ (j k f : Nat) (dn : Nat → Int32), k + j = n → j < f → (∀ i, i < k → dn i = sx (b i)) → ∃ dn', f_X8_lay_L41 cy f (aw 0) (nI s) (nI k) (MR cy iw aw μ1 I V (updG A (50 + s) dn)) = some (nI n, MR cy iw aw μ1 (upd I 12 0) V (updG (updG (updG (updG A (50 + s) dn') 6 (upd (A 6) s (nI n))) 8 (upd (A 8) s 0)) 9 (upd (A 9) s (if n ≤ 5 then -1 else 0)))) ∧ ∀ i, i < n → dn' i = sx (b i)
  | j, k, 0, dn, _, hf, _ => by omega
  | 0, k, f + 1, dn, hk, _, h => by
    have : k = n := by omega
    subst this
    refine ⟨dn, ?_, h⟩
    have i11 : ∀ A', rdI (MR cy iw aw μ1 I V A') (aw 0) 7 11 = some (nI k) := fun A' => by rw [← h11]; exact m_int hW rfl
    have st := m_st (cy := cy) (μ0 := μ1) (I := I) (V := V) (A := updG A (50 + s) dn) (i := s) hW 6 rfl hs (nI k)
    rw [updG_ne (show 6 ≠ 50 + s by omega)] at st
    have rr := r_rests (cy := cy) (μ1 := μ1) (I := upd I 12 0) (V := V) (A := updG (updG A (50 + s) dn) 6 (upd (A 6) s (nI k))) hW hs (n := k) (by rw [updG_self, upd_self']) (by omega)
    rw [updG_ne (show 8 ≠ 6 by decide), updG_ne (show 8 ≠ 50 + s by omega), updG_ne (show 9 ≠ 6 by decide), updG_ne (show 9 ≠ 50 + s by omega)] at rr
    have r6 := m_ld (cy := cy) (μ0 := μ1) (I := upd I 12 0) (V := V) (A := updG (updG (updG (updG A (50 + s) dn) 6 (upd (A 6) s (nI k))) 8 (upd (A 8) s 0)) 9 (upd (A 9) s (if k ≤ 5 then -1 else 0))) (i := s) hW 6 rfl hs
    rw [updG_ne (show 6 ≠ 9 by decide), updG_ne (show 6 ≠ 8 by decide), updG_self, upd_self'] at r6
    rw [f_X8_lay_L41, i11, Option.bind_some, if_pos (nI_le (Nat.le_refl _) (by omega)), m_ref hW rfl, Option.bind_some, Option.bind_some, show wrA cy (MR cy iw aw μ1 I V (updG A (50 + s) dn)) 1 (aw 6) (nI s) (nI k) = _ from st, Option.bind_some, m_put hW rfl (by decide), Option.bind_some, if_pos (r_is hW), rr, Option.bind_some, m_ref hW rfl, Option.bind_some, show rdA cy (MR cy iw aw μ1 (upd I 12 0) V (updG (updG (updG (updG A (50 + s) dn) 6 (upd (A 6) s (nI k))) 8 (upd (A 8) s 0)) 9 (upd (A 9) s (if k ≤ 5 then -1 else 0)))) 1 (aw 6) (nI s) = _ from r6, Option.bind_some]
  | j + 1, k, f + 1, dn, hk, hf, h => by
    obtain ⟨dn', e1, e2⟩ := z_41 hW hs hB h11 hA hn j (k + 1) f (upd dn k (sx (b k))) (by omega) (by omega) (fun i hi => by
      by_cases c : i = k
      · subst c; exact upd_self'
      · rw [upd_ne' c]; exact h i (by omega))
    refine ⟨dn', ?_, e2⟩
    have i11 : ∀ A', rdI (MR cy iw aw μ1 I V A') (aw 0) 7 11 = some (nI n) := fun A' => by rw [← h11]; exact m_int hW rfl
    obtain ⟨a1, a2, a3⟩ := arr_doc hs
    have rt := m_ld (cy := cy) (μ0 := μ1) (I := I) (V := V) (A := updG A (50 + s) dn) (i := k) hW 10 rfl (by show k < 2416; omega)
    rw [updG_ne (show 10 ≠ 50 + s by omega), hA k (by omega)] at rt
    have st := m_st (cy := cy) (μ0 := μ1) (I := I) (V := V) (A := updG A (50 + s) dn) (i := k) hW (50 + s) a1 (by rw [a3]; omega) (sx (b k))
    rw [a2, updG_self, updG_updG] at st
    have nb : vp_nar .byte (sx (b k)) = sx (b k) := bB_of (hB k)
    rw [f_X8_lay_L41, i11, Option.bind_some, if_neg (nI_ge (by omega) (by omega)), m_ref hW rfl, Option.bind_some, m_docs hW hs, Option.bind_some, m_ref hW rfl, Option.bind_some, show rdA cy (MR cy iw aw μ1 I V (updG A (50 + s) dn)) 0 (aw 10) (nI k) = _ from rt, Option.bind_some, nb, st, Option.bind_some, nI_a1]
    exact e1
theorem k_lay (hL : Lay6 iv ad) (hW : Lay iw aw) (R : REL J B I A) (x : Int32) : ANS cy iv ad μ0 iw aw μ1 ["java/lang/IndexOutOfBoundsException", "java/lang/IllegalStateException"] (f_X6_lay cy (ad 0) x (MC cy iv ad μ0 J w B)) (f_X8_lay cy (aw 0) x (MR cy iw aw μ1 I V A)) := by
  obtain ⟨z, b, a1, a2, a3, a4⟩ := R.2.2.2.2.2.2.2.2
  unfold f_X6_lay f_X8_lay f_X8_lay_L25 f_X8_lay_L30 f_X6_lay_L26
  rw [if_pos (g_is hL), if_pos (r_is hW)]
  rcases sh4 x with ⟨s, hs, rfl⟩ | hx
  · have i12 : rdI (MR cy iw aw μ1 (upd I 0 0) V A) (aw 0) 7 12 = some (I 12) := m_int hW rfl
    rw [g_shelf hL hs, obX2_r, r_shelf hW hs, ob2_some, if_pos (show (0 : Int32) = 0 from rfl), g_ref hL (k := 6) rfl, Option.bind_some, h_t hL, Option.bind_some, Option.bind_some, Option.bind_some, i12, Option.bind_some]
    rcases a4 with ⟨b1, b2, b3, b4⟩ | ⟨b1, b2, o, D, t, v, c, b3, b4, b5, b6, b7, b8, b9⟩
    · rw [if_pos b1, if_pos b4, if_pos (r_is hW), r_thr1 hW, ob2_some, if_neg (show ¬ (1 : Int32) = 0 by decide)]
      exact ans_th 2 (by decide) (by decide) rfl rfl rfl rfl R.i0.i0
    · have i13 : rdI (MR cy iw aw μ1 (upd I 0 0) V A) (aw 0) 7 13 = some (nI o) := by rw [← b4]; exact m_int hW rfl
      rw [if_neg (show ¬ J 306 = 0 by rw [b1]; decide), if_neg (show ¬ I 12 = 0 by rw [b2]; decide), h_o hL, Option.bind_some, b3, i13, Option.bind_some]
      match o, b9, b3, b4, b6 with
      | 0, b9, b3, b4, b6 =>
        have hd := b9.2.1 rfl
        have z24 : z ≤ 2400 := by omega
        obtain ⟨bs, n, G, d, m, at', S, hat, Rs⟩ := R.2.2.1 s hs
        have zz := sS_s hs
        have aa := shf_sp zz.1
        obtain ⟨J2, B2, nb, m', f1, f2, f3, f4, f5, f6, f7⟩ := g_become (cy := cy) (μ0 := μ0) (w := w) (k := 36) (kn := z) (kb := b) hL hs S rfl (by omega) a1 z24 a2 a3 z24 hd
        obtain ⟨J3, e3, j1, j2, j3, j4⟩ := h_away (cy := cy) (μ0 := μ0) (w := w) (B := B2) (J := J2) (z := z) hL (by rw [f6 _ (by omega) (by omega)]; exact a1) z24
        have sz : J3 (100 * sS (90 + s) + 1) = nI z := by rw [j4 _ (by omega) (by omega) (by omega) (by omega)]; exact (f2 G).1
        obtain ⟨dn', h1, h2⟩ := z_41 (cy := cy) (μ1 := μ1) (I := upd I 0 0) (V := V) (A := A) hW hs a3 (by rw [upd_ne' (by decide)]; exact b5) b7 z24 z 0 FU (A (50 + s)) (by omega) (by show z < 100000; omega) (fun i hi => by omega)
        rw [updG_id] at h1
        have h1' : f_X8_lay_L41 cy FU (aw 0) (nI s) 0 (MR cy iw aw μ1 (upd I 0 0) V A) = _ := h1
        rw [if_pos (show nI 0 ≤ 0 by decide), if_pos (show nI 0 ≤ 0 by decide), h_ref hL (k := 0) rfl, Option.bind_some, if_pos (F_is hL zz.1), f1, Option.bind_some, g_ref hL (k := 6) rfl, Option.bind_some, if_pos (h_is hL), e3, Option.bind_some, F_r0 hL zz.1, Option.bind_some, P_size (j := sS (90 + s)) (n := z) hL aa.1 sz, Option.bind_some, if_pos (r_is hW), r_thr0, ob2_some, if_pos (show (0 : Int32) = 0 from rfl), h1']
        have RS : REL J2 B2 (upd I 0 0) (updG (updG (updG (updG A (50 + s) dn') 6 (upd (A 6) s (nI z))) 8 (upd (A 8) s 0)) 9 (upd (A 9) s (if z ≤ 5 then -1 else 0))) := R.i0.sh hs ⟨nb, z, G, 0, m', num0 m', f2 G, f5, ?_, ?_, ?_, ?_, ?_⟩ (fun k k1 k2 k3 k4 => f6 k (by omega) (by omega)) (fun k k1 k2 k3 => f7 k (by omega) (by omega)) (fun _ _ _ => rfl) (fun j hj j1 j2 j3 j4 j5 => by rw [updG_ne j3, updG_ne j2, updG_ne j1, updG_ne j4]) (fun j t hj ht => ?_)
        · exact ans_ok rfl rfl rfl (RS.ht ⟨0, b, j1, by rw [f7 37 (by omega) (by omega)]; exact a2, a3, Or.inl ⟨j3, j2, rfl, upd_self'⟩⟩ (fun k k1 k2 k3 k4 _ _ => j4 k k1 k2 k3 k4) (fun _ _ _ _ => rfl) (fun k k1 k2 => upd_ne' (by omega)) (fun _ _ _ _ => rfl))
        · intro j hj
          rw [updG_ne (by omega), updG_ne (by omega), updG_ne (by omega), updG_self, h2 j hj, f3 j hj]
        · rw [updG_ne (by decide), updG_ne (by decide), updG_self, upd_self']
        · intro k hk; omega
        · rw [updG_ne (by decide), updG_self, upd_self']; rfl
        · rw [updG_self, upd_self', f4]
        · by_cases j9 : j = 9
          · subst j9; rw [updG_self, upd_ne' ht]
          · rw [updG_ne j9]
            by_cases j8 : j = 8
            · subst j8; rw [updG_self, upd_ne' ht]
            · rw [updG_ne j8]
              have j6 : j = 6 := by omega
              subst j6
              rw [updG_self, upd_ne' ht]
      | o + 1, b9, b3, b4, b6 =>
        have q : ¬ nI (o + 1) ≤ 0 := nI_ge (a := 0) (by omega) (by omega)
        rw [if_neg q, if_neg q, if_pos (r_is hW), r_thr1 hW, ob2_some, if_neg (show ¬ (1 : Int32) = 0 by decide)]
        exact ans_th 2 (by decide) (by decide) rfl rfl rfl rfl R.i0.i0
  · rw [g_noShelf hx, obX2_l, r_noShelf hW hx, ob2_some, if_neg (by decide)]
    exact ans_th 1 (by decide) (by decide) rfl rfl rfl rfl R.i0
/-! close -/
def pIs (a : Nat → Int32) (p : Nat) (v : Int32) (k : Nat) : Nat → Int32 := fun i => if p ≤ i ∧ i < p + k then sx (by4 v (i - p)) else a i
theorem pIs_s {a : Nat → Int32} {p k : Nat} {v : Int32} : upd (pIs a p v k) (p + k) (sx (by4 v k)) = pIs a p v (k + 1) := by
  funext i
  unfold upd pIs
  by_cases c : i = p + k
  · subst c
    rw [if_pos rfl, if_pos (by omega), show p + k - p = k by omega]
  · rw [if_neg c]
    by_cases c2 : p ≤ i ∧ i < p + k
    · rw [if_pos c2, if_pos (by omega)]
    · rw [if_neg c2, if_neg (by omega)]
theorem pIs_b {a : Nat → Int32} {p : Nat} {v : Int32} {b : Nat → Nat} {n : Nat} (h : ∀ j, j < n → a j = sx (b j)) : ∀ j, j < n → pIs a p v 4 j = sx (pI b p v j) := fun j hj => by
  unfold pIs pI
  by_cases c : p ≤ j ∧ j < p + 4
  · rw [if_pos c, if_pos c]
  · rw [if_neg c, if_neg c, h j hj]
theorem z_lenL (hW : Lay iw aw) {a : Nat → Int32} {p : Nat} {v : Int32} (hp : p + 4 ≤ 2416) : ∀ (j k f : Nat), k + j = 4 → j < f → f_X8_lengthAt_L3 cy f (aw 10) (nI p) v (nI k) (MR cy iw aw μ1 I V (updG A 10 (pIs a p v k))) = some (MR cy iw aw μ1 I V (updG A 10 (pIs a p v 4)))
  | j, k, 0, _, hf => by omega
  | 0, k, f + 1, hk, _ => by
    have : k = 4 := by omega
    subst this
    rw [f_X8_lengthAt_L3, if_pos (by decide)]
  | j + 1, k, f + 1, hk, hf => by
    have e : vp_nar .byte ((Int32.toInt8 (v >>> ((8 * nI k) &&& 31))).toInt32) = sx (by4 v k) := by
      unfold by4
      rw [sx_b8]
      exact bB_of (b8_lt _)
    have st := m_st (cy := cy) (μ0 := μ1) (I := I) (V := V) (A := updG A 10 (pIs a p v k)) (i := p + k) hW 10 rfl (by show p + k < 2416; omega) (sx (by4 v k))
    rw [updG_self, updG_updG, pIs_s] at st
    rw [f_X8_lengthAt_L3, if_neg (show ¬ (4 : Int32) ≤ nI k from nI_ge (b := 4) (by omega) (by decide)), nI_p, e, show wrA cy (MR cy iw aw μ1 I V (updG A 10 (pIs a p v k))) 0 (aw 10) (nI (p + k)) (sx (by4 v k)) = _ from st, Option.bind_some, nI_a1]
    exact z_lenL hW hp j (k + 1) f (by omega) (by omega)
theorem z_len (hW : Lay iw aw) {a : Nat → Int32} {p a0 : Nat} (hp : p + 4 ≤ 2416) (v : Int32) : f_X8_lengthAt cy a0 (aw 10) (nI p) v (MR cy iw aw μ1 I V (updG A 10 a)) = some (MR cy iw aw μ1 I V (updG A 10 (pIs a p v 4))) := by
  unfold f_X8_lengthAt
  have := z_lenL (cy := cy) (μ1 := μ1) (I := I) (V := V) (A := A) (a := a) (v := v) hW hp 4 0 FU (by omega) (by decide)
  rw [show pIs a p v 0 = a by funext i; unfold pIs; rw [if_neg (by omega)]] at this
  exact this
theorem k_close (hL : Lay6 iv ad) (hW : Lay iw aw) (R : REL J B I A) : ANS cy iv ad μ0 iw aw μ1 ["java/lang/IllegalStateException"] (f_X6_close cy (ad 0) (MC cy iv ad μ0 J w B)) (f_X8_close cy (aw 0) (MR cy iw aw μ1 I V A)) := by
  obtain ⟨z, b, a1, a2, a3, a4⟩ := R.2.2.2.2.2.2.2.2
  unfold f_X6_close f_X8_close f_X6_refuseNothingOpen f_X8_close_L20 f_X8_close_L25
  have i12 : rdI (MR cy iw aw μ1 (upd I 0 0) V A) (aw 0) 7 12 = some (I 12) := m_int hW rfl
  rw [if_pos (g_is hL), g_ref hL (k := 6) rfl, Option.bind_some, h_o hL, Option.bind_some, m_put hW rfl (by decide), Option.bind_some, i12, Option.bind_some]
  rcases a4 with ⟨b1, b2, b3, b4⟩ | ⟨b1, b2, o, D, t, v, c, b3, b4, b5, b6, b7, b8', b9⟩
  · rw [b2, if_neg (by decide), obX_l, if_pos b4, if_pos (r_is hW), r_thr1 hW, ob2_some, if_neg (show ¬ (1 : Int32) = 0 by decide)]
    exact ans_th 1 (by decide) (by decide) rfl rfl rfl rfl R.i0.i0
  · have i13 : rdI (MR cy iw aw μ1 (upd I 0 0) V A) (aw 0) 7 13 = some (nI o) := by rw [← b4]; exact m_int hW rfl
    rw [if_neg (show ¬ I 12 = 0 by rw [b2]; decide), i13, Option.bind_some, b3]
    match o, b9, b3, b4, b6, b8' with
    | 0, b9, b3, b4, b6, b8' =>
      rw [if_neg (by decide), obX_l, if_pos (show nI 0 = 0 from rfl), if_pos (r_is hW), r_thr1 hW, ob2_some, if_neg (show ¬ (1 : Int32) = 0 by decide)]
      exact ans_th 1 (by decide) (by decide) rfl rfl rfl rfl R.i0.i0
    | o + 1, b9, b3, b4, b6, b8' =>
      have ho := b9.1
      have dz := b9.2.2.2.1 o (by omega)
      have e8 := b8' o (by omega)
      have v15 := b9.v15
      have z24 : z < 2400 := by omega
      obtain ⟨J2, B2, c1, e2, g1, g2, g3, g4, g5, g6⟩ := h_append (cy := cy) (μ0 := μ0) (w := w) (J := upd J (300 + 5) (nI o)) (B := B) (z := z) (b := b) hL (by rw [upd_ne' (by decide)]; exact a1) a2 a3 z24 0
      have g1 : J2 3601 = nI (z + 1) := g1
      have j305 : J2 305 = nI o := by rw [g5 _ (by decide) (by decide)]; exact upd_self'
      have l4 := c_ld (cy := cy) (μ0 := μ0) (J := J2) (w := w) (B := B2) (i := o) hL 4 rfl (by show o < 24; omega)
      rw [g6 4 (by decide), e8.1] at l4
      have p1 := h_putInt (cy := cy) (μ0 := μ0) (J := J2) (w := w) (B := B2) (z := z + 1) (b := c1) (p := D o) hL g1 g2 (by omega) (by omega) (nI (z + 1 - D o))
      have l5 := c_ld (cy := cy) (μ0 := μ0) (J := J2) (w := w) (B := updG B2 37 (hb (pI c1 (D o) (nI (z + 1 - D o))))) (i := o) hL 5 rfl (by show o < 24; omega)
      rw [updG_ne (show 5 ≠ 37 by decide), g6 5 (by decide), e8.2.2.1] at l5
      have l6 := c_ld (cy := cy) (μ0 := μ0) (J := J2) (w := w) (B := updG B2 37 (hb (pI c1 (D o) (nI (z + 1 - D o))))) (i := o) hL 6 rfl (by show o < 24; omega)
      rw [updG_ne (show 6 ≠ 37 by decide), g6 6 (by decide)] at l6
      have q1 : ¬ nI (o + 1) ≤ 0 := nI_ge (a := 0) (by omega) (by omega)
      have q2 : (1 : Int32) ≤ nI (o + 1) := nI_le (a := 1) (by omega) (by omega)
      have q3 : ¬ nI (o + 1) = 0 := fun q => by have := (nI_eq (b := 0) (by omega) (by decide)).mp q; omega
      unfold f_X3_closeInnermost
      rw [if_pos q2, obX_r, g_ref hL (k := 6) rfl, Option.bind_some, if_pos (h_is hL), h_o hL, Option.bind_some, b3, if_pos q2, Option.bind_some, nI_pr, c_putH hL 5 rfl (by decide), Option.bind_some, h_ref hL (k := 0) rfl, Option.bind_some, if_pos (P_is hL rfl), e2, Option.bind_some, h_ref hL (k := 0) rfl, Option.bind_some, h_ref hL (k := 1) rfl, Option.bind_some, h_o hL, Option.bind_some, j305, l4, Option.bind_some, Option.bind_some, P_size (j := 36) (n := z + 1) hL rfl g1, Option.bind_some, Option.bind_some, Option.bind_some, l4, Option.bind_some, if_pos (P_is hL rfl), nI_sub' (show D o ≤ z + 1 by omega), p1, Option.bind_some, h_ref hL (k := 2) rfl, Option.bind_some, h_o hL, Option.bind_some, j305, l5, Option.bind_some]
      -- the reference
      have r13 : ∀ I' A', I' 13 = nI (o + 1) → rdI (MR cy iw aw μ1 I' V A') (aw 0) 7 13 = some (nI (o + 1)) := fun I' A' h => by rw [← h]; exact m_int hW rfl
      have za := z_adds (cy := cy) (μ1 := μ1) (I := upd I 0 0) (V := V) (A := A) (z := z) (a := A 10) hW (by omega) 0
      rw [← z_id (I := upd I 0 0) (by rw [upd_ne' (by decide)]; exact b5)] at za
      generalize hI2 : upd (upd (upd I 0 0) 11 (nI (z + 1))) 13 (nI o) = I2 at *
      have x13 : ∀ A', rdI (MR cy iw aw μ1 I2 V A') (aw 0) 7 13 = some (nI o) := fun A' => by rw [← hI2]; exact m_int hW rfl
      have x11 : ∀ A', rdI (MR cy iw aw μ1 I2 V A') (aw 0) 7 11 = some (nI (z + 1)) := fun A' => by rw [← hI2]; exact m_int hW rfl
      have x14 : ∀ a', rdA cy (MR cy iw aw μ1 I2 V (updG A 10 a')) 1 (aw 14) (nI o) = some (nI (D o)) := fun a' => by
        have := m_ld (cy := cy) (μ0 := μ1) (I := I2) (V := V) (A := updG A 10 a') (i := o) hW 14 rfl (by show o < 25; omega)
        rw [updG_ne (by decide), e8.2.1] at this
        exact this
      have x17 : ∀ a', rdA cy (MR cy iw aw μ1 I2 V (updG A 10 a')) 1 (aw 17) (nI o) = some (A 17 o) := fun a' => by
        have := m_ld (cy := cy) (μ0 := μ1) (I := I2) (V := V) (A := updG A 10 a') (i := o) hW 17 rfl (by show o < 25; omega)
        rw [updG_ne (by decide)] at this
        exact this
      have za' : f_X8_adds cy (aw 0) 0 (MR cy iw aw μ1 (upd I 0 0) V A) = some (MR cy iw aw μ1 (upd (upd I 0 0) 11 (nI (z + 1))) V (updG A 10 (upd (A 10) z (sx (b8 0))))) := za
      rw [if_neg q3, if_pos (r_is hW), r_thr0, ob2_some, if_pos (show (0 : Int32) = 0 from rfl), if_pos (r_is hW), za', Option.bind_some, r13 _ _ (by rw [upd_ne' (by decide), upd_ne' (by decide)]; exact b4), Option.bind_some, nI_pr, m_put hW rfl (by decide), Option.bind_some, hI2, m_ref hW (k := 10) rfl, Option.bind_some, m_ref hW (k := 14) rfl, Option.bind_some, x13, Option.bind_some, x14, Option.bind_some, x11, Option.bind_some, Option.bind_some, Option.bind_some, x14, Option.bind_some, if_pos (r_is hW), nI_sub' (show D o ≤ z + 1 by omega), z_len hW (by omega), Option.bind_some, m_ref hW (k := 17) rfl, Option.bind_some, x13, Option.bind_some, x17, Option.bind_some]
      have e0 : b8 0 = 0 := b8_nI (v := 0) (by decide)
      have c1z : c1 z = 0 := by
        have := g4.2 0 (by decide)
        rw [Nat.add_zero] at this
        rw [this]
        exact e0
      have s1 : ∀ j, j < z + 1 → upd (A 10) z (sx (b8 0)) j = sx (c1 j) := g4.same (a := A 10) (a' := upd (A 10) z (sx (b8 0))) EXR.one b7
      have s2 := pIs_b (p := D o) (v := nI (z + 1 - D o)) s1
      have J2f : ∀ k, k ≠ 305 → k ≠ 3601 → k ≠ 3602 → J2 k = J k := fun k k1 k2 k3 => by rw [g5 k k2 k3, upd_ne' k1]
      have I2f : ∀ k, k ≠ 0 → k ≠ 11 → k ≠ 13 → I2 k = I k := fun k k1 k2 k3 => by rw [← hI2, upd_ne' k3, upd_ne' k2, upd_ne' k1]
      have I20 : I2 0 = 0 := by rw [← hI2]; rfl
      by_cases c15 : t o = 15
      · have vv := e8.2.2.2.2.2.2.1 c15
        have vl := v15 c15
        rw [vv.1] at l6
        rw [vv.2] at x17 ⊢
        have p2 := h_putInt (cy := cy) (μ0 := μ0) (J := J2) (w := w) (B := updG B2 37 (hb (pI c1 (D o) (nI (z + 1 - D o))))) (z := z + 1) (b := pI c1 (D o) (nI (z + 1 - D o))) (p := v o) hL g1 updG_self (by omega) (by omega) (nI (z + 1 - v o))
        rw [updG_updG] at p2
        rw [if_pos c15, h_ref hL (k := 0) rfl, Option.bind_some, h_ref hL (k := 3) rfl, Option.bind_some, Option.bind_some, l6, Option.bind_some, Option.bind_some, P_size (j := 36) (n := z + 1) hL rfl g1, Option.bind_some, Option.bind_some, Option.bind_some, l6, Option.bind_some, if_pos (P_is hL rfl), nI_sub' (show v o ≤ z + 1 by omega), p2, Option.bind_some, Option.bind_some, g_ref hL (k := 6) rfl, Option.bind_some, h_o hL, Option.bind_some, j305]
        unfold f_X8_close_L123
        rw [if_neg (show ¬ nI (v o) < 0 from nI_nlt (b := 0) (Nat.zero_le _) (by omega)), m_ref hW (k := 10) rfl, Option.bind_some, Option.bind_some, Option.bind_some, x17, Option.bind_some, x11, Option.bind_some, Option.bind_some, Option.bind_some, x17, Option.bind_some, if_pos (r_is hW), nI_sub' (show v o ≤ z + 1 by omega), z_len hW (by omega), Option.bind_some, x13, Option.bind_some]
        refine ans_ok rfl rfl I20 (R.ht ⟨z + 1, _, g1, updG_self, pI_bB (pI_bB g3), Or.inr ⟨?_, ?_, o, D, t, v, c, j305, ?_, ?_, by omega, ?_, ?_, ?_⟩⟩ (fun k k1 k2 k3 k4 k5 k6 => J2f k k1 k3 k4) (fun k k1 k2 k3 => by rw [updG_ne k2, g6 k k2]) (fun k k1 k2 => I2f k (by omega) (by omega) (by omega)) (fun j hj j1 j2 => updG_ne j1))
        · rw [J2f _ (by decide) (by decide) (by decide)]; exact b1
        · rw [I2f _ (by decide) (by decide) (by decide)]; exact b2
        · rw [← hI2]; rfl
        · rw [← hI2]; rfl
        · rw [updG_self]; exact pIs_b s2
        · intro k hk
          rw [updG_ne (by decide), updG_ne (by decide), updG_ne (by decide), updG_ne (by decide), updG_ne (by decide), updG_ne (by decide), updG_ne (by decide), updG_ne (by decide), g6 4 (by decide), g6 5 (by decide), g6 6 (by decide), g6 7 (by decide)]
          exact b8' k (by omega)
        · refine b9.close z24 (fun j j1 j2 j3 => ?_) ?_ ?_ (fun _ => pI_i4)
          · have := j3 c15
            rw [pI_out (by omega), pI_out (by omega), g4.1 j j1]
          · rw [pI_out (by omega), pI_out (by omega), c1z]
          · rw [i4_eq (c := pI c1 (D o) (nI (z + 1 - D o))) (fun i hi => pI_out (by omega))]
            exact pI_i4
      · have vv := e8.2.2.2.2.2.2.2 c15
        rw [vv] at x17 ⊢
        unfold f_X8_close_L123
        rw [if_neg c15, Option.bind_some, g_ref hL (k := 6) rfl, Option.bind_some, h_o hL, Option.bind_some, j305, if_pos (by decide), x13, Option.bind_some]
        refine ans_ok rfl rfl I20 (R.ht ⟨z + 1, _, g1, updG_self, pI_bB g3, Or.inr ⟨?_, ?_, o, D, t, v, c, j305, ?_, ?_, by omega, ?_, ?_, ?_⟩⟩ (fun k k1 k2 k3 k4 k5 k6 => J2f k k1 k3 k4) (fun k k1 k2 k3 => by rw [updG_ne k2, g6 k k2]) (fun k k1 k2 => I2f k (by omega) (by omega) (by omega)) (fun j hj j1 j2 => updG_ne j1))
        · rw [J2f _ (by decide) (by decide) (by decide)]; exact b1
        · rw [I2f _ (by decide) (by decide) (by decide)]; exact b2
        · rw [← hI2]; rfl
        · rw [← hI2]; rfl
        · rw [updG_self]; exact s2
        · intro k hk
          rw [updG_ne (by decide), updG_ne (by decide), updG_ne (by decide), updG_ne (by decide), updG_ne (by decide), updG_ne (by decide), updG_ne (by decide), updG_ne (by decide), g6 4 (by decide), g6 5 (by decide), g6 6 (by decide), g6 7 (by decide)]
          exact b8' k (by omega)
        · refine b9.close z24 (fun j j1 j2 j3 => ?_) ?_ pI_i4 (fun q => absurd q c15)
          · rw [pI_out (by omega), g4.1 j j1]
          · rw [pI_out (by omega), c1z]
end KH3
