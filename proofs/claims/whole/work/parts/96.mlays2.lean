/-! THE REFERENCE LAYS: the first difference; what is told; the shelf's bytes. -/
section WO6
variable {cy : Nat → ClassId} {iv : Nat → Option Nat} {ad : Nat → Nat} {μ0 : Mem} {I : Nat → Int32} {V : Nat → Value} {A : Nat → Nat → Int32} {sd n N : Nat} {bs : Nat → Nat} {X : Nat → Nat → Int32} {G : Nat → Nat} {d : Nat} {s n' : Nat} {ob : Nat → Nat} {lens : Int32}
theorem fre_hi (W : WV (hb bs) n G d) {p : Nat} (hp : wD (hb bs) n G d + 4 ≤ p) : fre (hb bs) n G d p := by
  refine ⟨fun k hk => ?_, fun k hk h15 => ?_⟩
  · have := W.up (i := k) (k := d) hk (Nat.le_refl _)
    right
    omega
  · have o := W.ord hk
    have eV : wV (hb bs) n G k = vpl (hb bs) n (st (hb bs) n (wD (hb bs) n G k) (G k)) := rfl
    rw [← eV] at o
    have := o.2.2.2.1 h15
    have := W.up (i := k + 1) (k := d) hk (Nat.le_refl _)
    right
    omega
theorem ASk_fre {as : Nat → Int32} (h : ASk (hb bs) n G d 0 as) {p : Nat} (hp : p < 2400) : as p = 0 ↔ fre (hb bs) n G d p := by
  rw [h p hp]
  unfold fre
  exact ⟨fun z => ⟨fun k hk => z.1 k (Nat.zero_le _) hk, fun k hk h15 => z.2 k (Nat.zero_le _) hk h15⟩, fun z => ⟨fun j _ hj => z.1 j hj, fun j _ hj h15 => z.2 j hj h15⟩⟩
/-- one step of the search -/
theorem y_144s (F : TX iv ad V A 21 60 (50 + s) bs n) (hs4 : s < 4) (hB : bB ob) (hA : A 26 = hs ob) (hI : I 27 = nI n') (h6 : A 6 s = nI n) (hn' : n' ≤ 2400) {p f : Nat} (hp : p < max n' n) : f_X8_lays_L144 cy (f + 1) (ad 0) (nI s) lens (nI p) (nI (max n' n)) (MT cy iv ad μ0 I V A 60 N X) = if A 41 p = 0 then (if n' ≤ p ∨ n ≤ p then f_X8_lays_L200 cy (ad 0) (nI s) lens (nI p) (nI (max n' n)) (MT cy iv ad μ0 I V A 60 N X) else if ob p = bs p then f_X8_lays_L144 cy f (ad 0) (nI s) lens (nI (p + 1)) (nI (max n' n)) (MT cy iv ad μ0 I V A 60 N X) else f_X8_lays_L200 cy (ad 0) (nI s) lens (nI p) (nI (max n' n)) (MT cy iv ad μ0 I V A 60 N X)) else f_X8_lays_L144 cy f (ad 0) (nI s) lens (nI (p + 1)) (nI (max n' n)) (MT cy iv ad μ0 I V A 60 N X) := by
  have hn := F.2.2.2.2.2.2
  have hbB := F.2.2.2.2.2.1
  have hmx : max n' n ≤ 2400 := Nat.max_le.mpr ⟨hn', hn⟩
  have r41 := x_al (cy := cy) (μ0 := μ0) (I := I) (N := N) (X := X) (i := p) F 41 rfl (by decide) (by show p < 2416; omega)
  have r6 := x_al (cy := cy) (μ0 := μ0) (I := I) (N := N) (X := X) (i := s) F 6 rfl (by decide) hs4
  have r26 := x_al (cy := cy) (μ0 := μ0) (I := I) (N := N) (X := X) (i := p) F 26 rfl (by decide) (by show p < 12000; omega)
  rw [h6] at r6
  rw [hA] at r26
  have i27 : rdI (MT cy iv ad μ0 I V A 60 N X) (ad 0) 7 27 = some (nI n') := by rw [← hI]; exact m_int F.1 rfl
  unfold f_X8_lays_L194 at *
  rw [f_X8_lays_L144, if_neg (nI_ge hp (by omega)), x_ref F (k := 41) rfl, Option.bind_some, show rdA cy (MT cy iv ad μ0 I V A 60 N X) 2 (ad 41) (nI p) = _ from r41, Option.bind_some]
  unfold f_X8_lays_L194
  rw [nI_a1]
  by_cases c0 : A 41 p = 0
  · rw [if_pos c0, if_pos c0, i27, Option.bind_some]
    by_cases c1 : n' ≤ p
    · rw [if_pos (nI_le c1 (by omega)), if_pos (Or.inl c1)]
    · rw [if_neg (nI_ge (by omega) (by omega)), x_ref F (k := 6) rfl, Option.bind_some, show rdA cy (MT cy iv ad μ0 I V A 60 N X) 1 (ad 6) (nI s) = _ from r6, Option.bind_some]
      by_cases c2 : n ≤ p
      · rw [if_pos (nI_le c2 (by omega)), if_pos (Or.inr c2)]
      · rw [if_neg (nI_ge (by omega) (by omega)), if_neg (by omega), x_ref F (k := 26) rfl, Option.bind_some, show rdA cy (MT cy iv ad μ0 I V A 60 N X) 0 (ad 26) (nI p) = _ from r26, Option.bind_some, x_ref F (k := 5) rfl, Option.bind_some, show rdQ cy (MT cy iv ad μ0 I V A 60 N X) 5 (ad 5) (nI s) = some (ad (50 + s)) from m_docs F.1 hs4, Option.bind_some, x_by F (by omega), Option.bind_some]
        by_cases c3 : ob p = bs p
        · rw [if_pos c3, if_pos (by show sx (ob p) = _; rw [c3])]
        · rw [if_neg c3, if_neg (show ¬ hs ob p = sx (bs p) from fun z => c3 (sx_inj (hB p) (hbB p) z))]
  · rw [if_neg c0, if_neg c0]
/-- behind the changed DOCUMENT's length -/
theorem y_144b (F : TX iv ad V A 21 60 (50 + s) bs n) (hs4 : s < 4) (hB : bB ob) (hA : A 26 = hs ob) (hI : I 27 = nI n') (h6 : A 6 s = nI n) (hn' : n' ≤ 2400) {p0 : Nat} (ha : ∀ p, p0 ≤ p → p < 2400 → A 41 p = 0) : ∀ (j p f : Nat), p + j = min n n' → p0 ≤ p → j < f → f_X8_lays_L144 cy f (ad 0) (nI s) lens (nI p) (nI (max n' n)) (MT cy iv ad μ0 I V A 60 N X) = f_X8_lays_L200 cy (ad 0) (nI s) lens (nI (match fdf (hb bs) (hb ob) p j with | some q => q | none => min n n')) (nI (max n' n)) (MT cy iv ad μ0 I V A 60 N X)
  | j, p, 0, _, _, hf => by omega
  | 0, p, f + 1, hp, h0, _ => by
    have hn := F.2.2.2.2.2.2
    have hmx : max n' n ≤ 2400 := Nat.max_le.mpr ⟨hn', hn⟩
    have hp' : p = min n n' := by omega
    show _ = f_X8_lays_L200 cy (ad 0) (nI s) lens (nI (min n n')) (nI (max n' n)) (MT cy iv ad μ0 I V A 60 N X)
    rw [← hp']
    rcases Nat.lt_or_ge p (max n' n) with c | c
    · rw [y_144s F hs4 hB hA hI h6 hn' c, if_pos (ha p h0 (by omega)), if_pos (by omega)]
    · rw [f_X8_lays_L144, if_pos (nI_le c (by omega))]
  | j + 1, p, f + 1, hp, h0, hf => by
    have hn := F.2.2.2.2.2.2
    have hbB := F.2.2.2.2.2.1
    have hmx : max n' n ≤ 2400 := Nat.max_le.mpr ⟨hn', hn⟩
    rw [y_144s F hs4 hB hA hI h6 hn' (by omega), if_pos (ha p h0 (by omega)), if_neg (by omega)]
    unfold fdf
    by_cases c : ob p = bs p
    · rw [if_pos c, if_pos (show hb bs p = hb ob p by show nI (bs p) = nI (ob p); rw [c])]
      exact y_144b F hs4 hB hA hI h6 hn' ha j (p + 1) f (by omega) (by omega) (by omega)
    · rw [if_neg c, if_neg (show ¬ hb bs p = hb ob p from fun z => c ((nI_eq (by have := hB p; omega) (by have := hbB p; omega)).mp z.symm))]
theorem y_144 (F : TX iv ad V A 21 60 (50 + s) bs n) (hs4 : s < 4) (hB : bB ob) (hA : A 26 = hs ob) (hI : I 27 = nI n') (h6 : A 6 s = nI n) (hn' : n' ≤ 2400) (W : WV (hb bs) n G d) {M : List Nat} (E : ED bs n G d M ob n') (ha : ASk (hb bs) n G d 0 (A 41)) : ∀ (j p f : Nat), p + j = wD (hb bs) n G d + 4 → j + 2400 < f → f_X8_lays_L144 cy f (ad 0) (nI s) lens (nI p) (nI (max n' n)) (MT cy iv ad μ0 I V A 60 N X) = f_X8_lays_L200 cy (ad 0) (nI s) lens (nI (match fdf (hb bs) (hb ob) (wD (hb bs) n G d + 4) (min n n' - (wD (hb bs) n G d + 4)) with | some q => q | none => min n n')) (nI (max n' n)) (MT cy iv ad μ0 I V A 60 N X)
  | j, p, 0, _, hf => by omega
  | 0, p, f + 1, hp, hf => by
    have hn := F.2.2.2.2.2.2
    have l := E.n'_le W (Nat.le_refl d)
    obtain ⟨mL, hmL, hDL⟩ := W.r (Nat.le_refl d)
    have hL1 := hDL.1
    have hL2 := hDL.2.1
    have e1 := E.1
    have hp' : p = wD (hb bs) n G d + 4 := by omega
    subst hp'
    exact y_144b F hs4 hB hA hI h6 hn' (fun p h1 h2 => (ASk_fre ha h2).mpr (fre_hi W h1)) _ _ _ (by omega) (Nat.le_refl _) (by omega)
  | j + 1, p, f + 1, hp, hf => by
    have hn := F.2.2.2.2.2.2
    have l := E.n'_le W (Nat.le_refl d)
    obtain ⟨mL, hmL, hDL⟩ := W.r (Nat.le_refl d)
    have hL1 := hDL.1
    have hL2 := hDL.2.1
    have e1 := E.1
    have ih := y_144 F hs4 hB hA hI h6 hn' W E ha j (p + 1) f (by omega) (by omega)
    rw [y_144s F hs4 hB hA hI h6 hn' (by omega)]
    by_cases c : A 41 p = 0
    · rw [if_pos c, if_neg (by omega), if_pos (E.2.2.2.1 p (by omega) ((ASk_fre ha (by omega)).mp c))]
      exact ih
    · rw [if_neg c]
      exact ih
theorem TX.z (F : TX iv ad V A 21 60 (50 + s) bs n) {A' : Nat → Nat → Int32} : TX iv ad V A' 21 60 (50 + s) bs 0 := by
  obtain ⟨f1, f2, f3, f4, f5, f6, f7⟩ := F
  exact ⟨f1, f2, f3, f4, fun i hi => by omega, f6, by omega⟩
theorem y_251 (F : TX iv ad V A 21 60 (50 + s) bs 0) (hs4 : s < 4) (hB : bB ob) (hA : A 26 = hs ob) (hI : I 27 = nI n') (hn' : n' ≤ 2400) : ∀ (j k f : Nat) (dn : Nat → Int32), k + j = n' → j < f → (∀ i, i < k → dn i = sx (ob i)) → ∃ dn', f_X8_lays_L251 cy f (ad 0) (nI s) (nI k) (MT cy iv ad μ0 I V (updG A (50 + s) dn) 60 N X) = some (1, MT cy iv ad μ0 I V (updG (updG A (50 + s) dn') 6 (upd (A 6) s (nI n'))) 60 N X) ∧ ∀ i, i < n' → dn' i = sx (ob i)
  | j, k, 0, dn, _, hf, _ => by omega
  | 0, k, f + 1, dn, hk, _, h => by
    have : k = n' := by omega
    subst this
    have F' : TX iv ad V (updG A (50 + s) dn) 21 60 (50 + s) bs 0 := F.z
    refine ⟨dn, ?_, h⟩
    have i27 : rdI (MT cy iv ad μ0 I V (updG A (50 + s) dn) 60 N X) (ad 0) 7 27 = some (nI k) := by rw [← hI]; exact m_int F.1 rfl
    have st := x_as (cy := cy) (μ0 := μ0) (I := I) (N := N) (X := X) (i := s) F' 6 rfl (by decide) hs4 (nI k)
    rw [updG_ne (show 6 ≠ 50 + s by omega)] at st
    rw [f_X8_lays_L251, i27, Option.bind_some, if_pos (nI_le (Nat.le_refl _) (by omega)), x_ref F' (k := 6) rfl, Option.bind_some, Option.bind_some, show wrA cy (MT cy iv ad μ0 I V (updG A (50 + s) dn) 60 N X) 1 (ad 6) (nI s) (nI k) = _ from st, Option.bind_some]
  | j + 1, k, f + 1, dn, hk, hf, h => by
    have F' : TX iv ad V (updG A (50 + s) dn) 21 60 (50 + s) bs 0 := F.z
    obtain ⟨dn', e1, e2⟩ := y_251 F hs4 hB hA hI hn' j (k + 1) f (upd dn k (sx (ob k))) (by omega) (by omega) (fun i hi => by
      by_cases c : i = k
      · subst c; exact upd_self'
      · rw [upd_ne' c]; exact h i (by omega))
    refine ⟨dn', ?_, e2⟩
    obtain ⟨a1, a2, a3⟩ := arr_doc hs4
    have i27 : rdI (MT cy iv ad μ0 I V (updG A (50 + s) dn) 60 N X) (ad 0) 7 27 = some (nI n') := by rw [← hI]; exact m_int F.1 rfl
    have r26 := x_al (cy := cy) (μ0 := μ0) (I := I) (N := N) (X := X) (i := k) F' 26 rfl (by decide) (by show k < 12000; omega)
    rw [updG_ne (show 26 ≠ 50 + s by omega), hA] at r26
    have st := x_as (cy := cy) (μ0 := μ0) (I := I) (N := N) (X := X) (i := k) F' (50 + s) a1 (by omega) (by rw [a3]; omega) (sx (ob k))
    rw [a2, updG_self, updG_updG] at st
    have nb : vp_nar .byte (hs ob k) = sx (ob k) := bB_of (hB k)
    rw [f_X8_lays_L251, i27, Option.bind_some, if_neg (nI_ge (by omega) (by omega)), x_ref F' (k := 5) rfl, Option.bind_some, show rdQ cy (MT cy iv ad μ0 I V (updG A (50 + s) dn) 60 N X) 5 (ad 5) (nI s) = some (ad (50 + s)) from m_docs F.1 hs4, Option.bind_some, x_ref F' (k := 26) rfl, Option.bind_some, show rdA cy (MT cy iv ad μ0 I V (updG A (50 + s) dn) 60 N X) 0 (ad 26) (nI k) = _ from r26, Option.bind_some, nb, st, Option.bind_some, nI_a1]
    exact e1
/-- what is told, and the shelf -/
theorem y_216 (F : TX iv ad V A 21 60 (50 + s) bs n) (hs4 : s < 4) (hB : bB ob) (hA : A 26 = hs ob) (hI : I 27 = nI n') (h6 : A 6 s = nI n) (hn' : n' ≤ 2400) (t2 : Int32) : ∃ A', f_X8_lays_L216 cy (ad 0) (nI s) lens (ad 18) 0 t2 (MT cy iv ad μ0 I V A 60 N X) = some (1, MT cy iv ad μ0 I V A' 60 N X) ∧ (∀ i, i < n' → A' (50 + s) i = sx (ob i)) ∧ A' 6 = upd (A 6) s (nI n') ∧ A' 18 0 = t2 ∧ A' 18 1 = lens ∧ A' 18 2 = nI n' - nI n ∧ A' 18 3 = nI s ∧ ∀ j, j ≠ 6 → j ≠ 18 → j ≠ 50 + s → A' j = A j := by
  unfold f_X8_lays_L216
  have F18 := fun f => F.a (j := 18) (f := f) (by omega)
  have st0 := x_as (cy := cy) (μ0 := μ0) (I := I) (N := N) (X := X) (i := 0) F 18 rfl (by decide) (by decide) t2
  have st := fun (f : Nat → Int32) (i : Nat) (hi : i < 4) (x : Int32) => x_as (cy := cy) (μ0 := μ0) (I := I) (N := N) (X := X) (i := i) (F18 f) 18 rfl (by decide) hi x
  rw [show wrA cy (MT cy iv ad μ0 I V A 60 N X) 1 (ad 18) 0 t2 = _ from st0, Option.bind_some]
  have st1 := st (upd (A 18) 0 t2) 1 (by decide) lens
  rw [updG_self, updG_updG] at st1
  rw [x_ref (F18 _) (k := 18) rfl, Option.bind_some, show wrA cy (MT cy iv ad μ0 I V (updG A 18 (upd (A 18) 0 t2)) 60 N X) 1 (ad 18) 1 lens = _ from st1, Option.bind_some]
  have i27 : ∀ f, rdI (MT cy iv ad μ0 I V (updG A 18 f) 60 N X) (ad 0) 7 27 = some (nI n') := fun f => by rw [← hI]; exact m_int F.1 rfl
  have r6 := fun f => x_al (cy := cy) (μ0 := μ0) (I := I) (N := N) (X := X) (i := s) (F18 f) 6 rfl (by decide) hs4
  have st2 := st (upd (upd (A 18) 0 t2) 1 lens) 2 (by decide) (nI n' - nI n)
  rw [updG_self, updG_updG] at st2
  have r6' := r6 (upd (upd (A 18) 0 t2) 1 lens)
  rw [updG_ne (show 6 ≠ 18 by decide), h6] at r6'
  rw [x_ref (F18 _) (k := 18) rfl, Option.bind_some, i27, Option.bind_some, x_ref (F18 _) (k := 6) rfl, Option.bind_some, show rdA cy (MT cy iv ad μ0 I V (updG A 18 (upd (upd (A 18) 0 t2) 1 lens)) 60 N X) 1 (ad 6) (nI s) = _ from r6', Option.bind_some, show wrA cy (MT cy iv ad μ0 I V (updG A 18 (upd (upd (A 18) 0 t2) 1 lens)) 60 N X) 1 (ad 18) 2 (nI n' - nI n) = _ from st2, Option.bind_some]
  have st3 := st (upd (upd (upd (A 18) 0 t2) 1 lens) 2 (nI n' - nI n)) 3 (by decide) (nI s)
  rw [updG_self, updG_updG] at st3
  rw [x_ref (F18 _) (k := 18) rfl, Option.bind_some, show wrA cy (MT cy iv ad μ0 I V (updG A 18 (upd (upd (upd (A 18) 0 t2) 1 lens) 2 (nI n' - nI n))) 60 N X) 1 (ad 18) 3 (nI s) = _ from st3, Option.bind_some]
  obtain ⟨dn', e1, e2⟩ := y_251 (cy := cy) (μ0 := μ0) (I := I) (N := N) (X := X) (A := updG A 18 (upd (upd (upd (upd (A 18) 0 t2) 1 lens) 2 (nI n' - nI n)) 3 (nI s))) F.z hs4 hB (by rw [updG_ne (by decide)]; exact hA) hI hn' n' 0 FU (updG A 18 (upd (upd (upd (upd (A 18) 0 t2) 1 lens) 2 (nI n' - nI n)) 3 (nI s)) (50 + s)) (by omega) (by show n' < 100000; omega) (fun i hi => by omega)
  rw [updG_id] at e1
  refine ⟨_, e1, fun i hi => by rw [updG_ne (by omega), updG_self]; exact e2 i hi, by rw [updG_self, updG_ne (by decide)], ?_, ?_, ?_, ?_, fun j j1 j2 j3 => by rw [updG_ne j1, updG_ne j3, updG_ne j2]⟩
  · rw [updG_ne (by decide), updG_ne (by omega), updG_self, upd_ne' (by decide), upd_ne' (by decide), upd_ne' (by decide), upd_self']
  · rw [updG_ne (by decide), updG_ne (by omega), updG_self, upd_ne' (by decide), upd_ne' (by decide), upd_self']
  · rw [updG_ne (by decide), updG_ne (by omega), updG_self, upd_ne' (by decide), upd_self']
  · rw [updG_ne (by decide), updG_ne (by omega), updG_self, upd_self']
theorem fdf_lt {h h1 : Nat → Int32} : ∀ {k p q : Nat}, fdf h h1 p k = some q → q < p + k
  | 0, p, q, e => by cases e
  | k + 1, p, q, e => by
    unfold fdf at e
    by_cases c : h p = h1 p
    · rw [if_pos c] at e
      have := fdf_lt e
      omega
    · rw [if_neg c] at e
      cases e
      omega
theorem y_lays (F : TX iv ad V A 21 60 (50 + s) bs n) (hs4 : s < 4) (W : WV (hb bs) n G d) (hN : N < 1300) {ν hi : Nat → Nat} (H : ∀ k, k ≤ d → WN X (hb bs) n G N ν hi k) (h28 : I 28 = nI (ν d)) (hO : ∃ ob, bB ob ∧ A 26 = hs ob) (h6 : A 6 s = nI n) {M : List Nat} (hM : nLen bs n G d M ≤ 11000) (D : WDoc cy iv ad μ0 I V A N X DP 0 (LW bs n G d M d)) :
    (2400 < nLen bs n G d M → ∃ ob Fg, f_X8_lays cy (ad 0) (nI s) (MT cy iv ad μ0 I V A 60 N X) = some (0, MW cy iv ad μ0 I V A N X (nLen bs n G d M) ob Fg) ∧ bB ob) ∧
    (nLen bs n G d M ≤ 2400 → ∃ ob A', f_X8_lays cy (ad 0) (nI s) (MT cy iv ad μ0 I V A 60 N X) = some (1, MT cy iv ad μ0 (upd I 27 (nI (nLen bs n G d M))) V A' 60 N X) ∧ ED bs n G d M ob (nLen bs n G d M) ∧ bB ob ∧ A' 26 = hs ob ∧ (∀ i, i < nLen bs n G d M → A' (50 + s) i = sx (ob i)) ∧ A' 6 = upd (A 6) s (nI (nLen bs n G d M)) ∧ A' 18 0 = fdS bs n ob (nLen bs n G d M) (wD (hb bs) n G d + 4) ∧ A' 18 1 = (if nLen bs n G d M = n then 0 else nI (lpc (hb bs) n G (d + 1))) ∧ A' 18 2 = nI (nLen bs n G d M) - nI n ∧ A' 18 3 = nI s ∧ ∀ j, j ≠ 6 → j ≠ 18 → j ≠ 20 → j ≠ 26 → j ≠ 41 → j ≠ 50 + s → A' j = A j) := by
  obtain ⟨ob0, hB0, hA0⟩ := hO
  have hn := F.2.2.2.2.2.2
  have hB := F.2.2.2.2.2.1
  obtain ⟨mL, hmL, hDL⟩ := W.r (Nat.le_refl d)
  have hL1 := hDL.1
  have hL2 := hDL.2.1
  have hn' : nLen bs n G d M + (wR (hb bs) n G d - 1) = wD (hb bs) n G d + 4 + M.length + n := by unfold nLen; omega
  generalize nLen bs n G d M = n' at hn' hM ⊢
  obtain ⟨L1, L2⟩ := LW_all (M := M) hB W hn'
  have e0 : wrF (MT cy iv ad μ0 I V A 60 N X) (ad 0) 7 27 (.int 0) = some (MW cy iv ad μ0 I V A N X 0 ob0 (A 20)) := by
    rw [m_put F.1 rfl (by decide), upd_cm (show 60 + 1 ≠ 27 by decide)]
    show _ = some (MR cy iv ad μ0 (upd (upd I 27 (nI 0)) (60 + 1) (nI N)) V (tA 60 (updG (updG A 26 (hs ob0)) 20 (A 20)) X))
    rw [← hA0, updG_id, updG_id]
    rfl
  obtain ⟨ob, Fg, e1, a1⟩ := D 0 ob0 (A 20) hB0 (by omega)
  have E : ED bs n G d M ob n' := L2.congr W (fun j hj => by
    have := a1.2.1 j (by omega)
    rw [Nat.zero_add] at this
    exact this)
  rw [Nat.zero_add, L1] at e1
  have i27 : rdI (MW cy iv ad μ0 I V A N X n' ob Fg) (ad 0) 7 27 = some (nI n') := w_sz F
  have e1' : f_X8_writeDoc cy DP (ad 0) 0 (MW cy iv ad μ0 I V A N X 0 ob0 (A 20)) = some (MW cy iv ad μ0 I V A N X n' ob Fg) := e1
  unfold f_X8_lays
  rw [e0, Option.bind_some, if_pos (w_o F), e1', Option.bind_some, i27, Option.bind_some]
  refine ⟨fun h => ⟨ob, Fg, ?_, a1.2.2⟩, fun h => ?_⟩
  · rw [if_neg (show ¬ nI n' ≤ 2400 from nI_ge (a := 2400) h (by omega))]
  · rw [if_pos (show nI n' ≤ 2400 from nI_le (b := 2400) h (by decide))]
    have Fw := F.w ob Fg
    obtain ⟨as1, q1, q2⟩ := y_24 (cy := cy) (μ0 := μ0) (I := upd I 27 (nI n')) (N := N) (X := X) (s := nI s) Fw 2400 0 FU (updG (updG A 26 (hs ob)) 20 Fg 41) (by omega) (by decide) (fun p hp => by omega)
    rw [updG_id] at q1
    obtain ⟨as2, q3, q4⟩ := y_51 (cy := cy) (μ0 := μ0) (I := upd I 27 (nI n')) (s := s) Fw a1.2.2 (by rw [updG_ne (by decide), updG_self]) W hN E h H hs4 rfl (by rw [updG_ne (by decide), updG_ne (by decide)]; exact h6) (d + 1) FU as1 0 (Nat.le_refl _) (by have := (W.dc d (Nat.le_refl _)).1; show d + 1 < 100000; omega) (by omega) (fun p hp => ⟨fun _ => ⟨fun j j1 j2 => by omega, fun j j1 j2 => by omega⟩, fun _ => q2 p hp⟩)
    rw [if_neg (show ¬ d + 1 = 0 by omega), show d + 1 - 1 = d from rfl] at q3
    have z0 : (if n' = n then (0 : Int32) else nI 0) = 0 := by by_cases c : n' = n <;> simp [c] <;> rfl
    rw [z0] at q3
    have F41 := Fw.a (j := 41) (f := as2) (by omega)
    have q5 := y_144 (cy := cy) (μ0 := μ0) (I := upd I 27 (nI n')) (N := N) (X := X) (lens := (if n' = n then 0 else nI (lpc (hb bs) n G (d + 1)))) F41 hs4 a1.2.2 (by rw [updG_ne (by decide), updG_ne (by decide), updG_self]) (n' := n') rfl (by rw [updG_ne (by decide), updG_ne (by decide), updG_ne (by decide)]; exact h6) h W E (by rw [updG_self]; exact q4) (wD (hb bs) n G d + 4) 0 FU (by omega) (by show wD (hb bs) n G d + 4 + 2400 < 100000; omega)
    have h28' : (upd I 27 (nI n')) 28 = nI (ν d) := h28
    have q5' : f_X8_lays_L144 cy FU (ad 0) (nI s) (if n' = n then 0 else nI (lpc (hb bs) n G (d + 1))) 0 (nI (max n' n)) (MT cy iv ad μ0 (upd I 27 (nI n')) V (updG (updG (updG A 26 (hs ob)) 20 Fg) 41 as2) 60 N X) = _ := q5
    have q1' : f_X8_lays_L24 cy FU (ad 0) (nI s) 0 (MW cy iv ad μ0 I V A N X n' ob Fg) = _ := q1
    rw [q1', h28', q3, q5']
    unfold f_X8_lays_L200
    rw [x_ref F41 (k := 18) rfl, Option.bind_some]
    have fin := fun t2 => y_216 (cy := cy) (μ0 := μ0) (I := upd I 27 (nI n')) (N := N) (X := X) (lens := (if n' = n then 0 else nI (lpc (hb bs) n G (d + 1)))) F41 hs4 a1.2.2 (by rw [updG_ne (by decide), updG_ne (by decide), updG_self]) (n' := n') rfl (by rw [updG_ne (by decide), updG_ne (by decide), updG_ne (by decide)]; exact h6) h t2
    obtain ⟨A', g1, g2, g3, g4, g5, g6, g7, g8⟩ := fin (fdS bs n ob n' (wD (hb bs) n G d + 4))
    refine ⟨ob, A', ?_, E, a1.2.2, by rw [g8 26 (by decide) (by decide) (by omega), updG_ne (by decide), updG_ne (by decide), updG_self], g2, by rw [g3, updG_ne (by decide), updG_ne (by decide), updG_ne (by decide)], g4, g5, g6, g7, fun j j1 j2 j3 j4 j5 j6 => by rw [g8 j j1 j2 j6, updG_ne j5, updG_ne j3, updG_ne j4]⟩
    have mm : max n' n ≤ 2400 := Nat.max_le.mpr ⟨h, hn⟩
    unfold fdS at g1
    cases efd : fdf (hb bs) (hb ob) (wD (hb bs) n G d + 4) (min n n' - (wD (hb bs) n G d + 4)) with
    | some q =>
      rw [efd] at g1
      have := fdf_lt efd
      show (if nI (max n' n) ≤ nI q then _ else _) = _
      rw [if_neg (nI_ge (by omega) (by omega))]
      exact g1
    | none =>
      rw [efd] at g1
      show (if nI (max n' n) ≤ nI (min n n') then _ else _) = _
      by_cases c : n = n'
      · have g1' : f_X8_lays_L216 cy (ad 0) (nI s) (if n' = n then 0 else nI (lpc (hb bs) n G (d + 1))) (ad 18) 0 (if n = n' then -1 else nI (min n n')) (MT cy iv ad μ0 (upd I 27 (nI n')) V (updG (updG (updG A 26 (hs ob)) 20 Fg) 41 as2) 60 N X) = _ := g1
        rw [if_pos c] at g1'
        rw [if_pos (nI_le (by omega) (by omega))]
        exact g1'
      · have g1' : f_X8_lays_L216 cy (ad 0) (nI s) (if n' = n then 0 else nI (lpc (hb bs) n G (d + 1))) (ad 18) 0 (if n = n' then -1 else nI (min n n')) (MT cy iv ad μ0 (upd I 27 (nI n')) V (updG (updG (updG A 26 (hs ob)) 20 Fg) 41 as2) 60 N X) = _ := g1
        rw [if_neg c] at g1'
        rw [if_neg (nI_ge (by omega) (by omega))]
        exact g1'
end WO6
