/-! THE REFERENCE WRITES: what stays, what lies on the way. -/
section WO3
variable {cy : Nat → ClassId} {iv : Nat → Option Nat} {ad : Nat → Nat} {μ0 : Mem} {I : Nat → Int32} {V : Nat → Value} {A : Nat → Nat → Int32} {sd n N : Nat} {bs : Nat → Nat} {X : Nat → Nat → Int32}
/-- an ELEMENT's name as it is -/
theorem nm_sl {e q r i : Nat} {row : Bool} (hB : bB bs) (hE : eOk (hb bs) e q r (rwo row i)) (hr : r ≤ n) : (if row then rnl i else sl bs (q + 1) (vpl (hb bs) n q)) = sl bs (q + 1) (vpl (hb bs) n q) := by
  obtain ⟨s1, s2, s3, s4, s5, s6⟩ := hE.s (n := n) hr
  cases row with
  | false => rfl
  | true =>
    obtain ⟨z1, z2, z3, z4⟩ := s4
    have z4 : rowN (hb bs) (q + 1) (vpl (hb bs) n q - 1) i := z4
    obtain ⟨y1, y2⟩ := (rowN_n hB).mp z4
    show rnl i = _
    unfold rnl sl
    rw [show vpl (hb bs) n q - (q + 1) = dg i + 1 by omega]
    refine List.map_congr_left (fun k hk => ?_)
    rw [List.mem_range] at hk
    unfold rnm
    by_cases c : k < dg i
    · rw [if_pos c, y2 k (Nat.zero_le _) c]
    · rw [if_neg c]
      have e0 : q + 1 + k = vpl (hb bs) n q - 1 := by omega
      rw [e0]
      have z2 : nI (bs (vpl (hb bs) n q - 1)) = 0 := z2
      have := (nI_eq (b := 0) (by have := hB (vpl (hb bs) n q - 1); omega) (by decide)).mp z2
      exact this.symm
theorem el_sl {e q r i : Nat} {row : Bool} (hB : bB bs) (hE : eOk (hb bs) e q r (rwo row i)) (hr : r ≤ n) (L : List Nat) : [bs q] ++ (if row then rnl i else sl bs (q + 1) (vpl (hb bs) n q)) ++ L = sl bs q (vpl (hb bs) n q) ++ L := by
  obtain ⟨s1, s2, s3, s4, s5, s6⟩ := hE.s (n := n) hr
  rw [nm_sl hB hE hr, ← sl_one, sl_cat (by omega) (by omega)]
theorem l4_sl {p v : Nat} (hB : bB bs) (h : i4 (hb bs) p = nI v) : l4 v = sl bs p (p + 4) := by
  unfold l4 sl
  rw [show p + 4 - p = 4 by omega]
  refine List.map_congr_left (fun i hi => ?_)
  rw [List.mem_range] at hi
  rw [← h, by4_i4 hB hi]
theorem DW_sl {D r : Nat} (hB : bB bs) (h1 : D + 5 ≤ r) (h2 : i4 (hb bs) D = nI (r - D)) (h3 : hb bs (r - 1) = 0) : DW (sl bs (D + 4) (r - 1)) = sl bs D r := by
  have z : bs (r - 1) = 0 := (nI_eq (b := 0) (by have := hB (r - 1); omega) (by decide)).mp h3
  unfold DW
  rw [sl_len, show r - 1 - (D + 4) + 5 = r - D by omega, l4_sl hB h2, ← z, ← sl_one, sl_cat (p := D + 4) (by omega) (by omega), sl_cat (by omega) (by omega), show r - 1 + 1 = r by omega]
theorem VW_sl {e p r : Nat} {t : Int32} (hB : bB bs) (hd : hasD t) (z : vOk (hb bs) e t p r) : VW bs t p (dcIn (hb bs) t p) (sl bs (dcIn (hb bs) t p) r) = sl bs p r := by
  obtain ⟨dd, dle⟩ := z.doc hd
  have ddl := dd.le
  unfold VW
  by_cases c : t = 15
  · subst c
    obtain ⟨Mx, m1, m2, m3, m4, m5, m6, m7, m8⟩ := z.s15
    have edc : dcIn (hb bs) 15 p = p + 8 + Mx := by
      unfold dcIn
      rw [if_pos rfl, m6, nI_toInt m2]
      rfl
    rw [if_pos rfl, sl_len, show dcIn (hb bs) 15 p - p + (r - dcIn (hb bs) 15 p) = r - p by omega, l4_sl hB m5, sl_cat (by omega) (by omega), sl_cat (by omega) (by omega)]
  · rw [if_neg c]
    unfold dcIn
    rw [if_neg c]
theorem cat_sl {D : Nat} {m : Nat} (hm : ∀ i, i < m → st (hb bs) n D i ≤ st (hb bs) n D (i + 1)) : ∀ i, i ≤ m → D + 4 ≤ st (hb bs) n D i ∧ cat (fun i => sl bs (st (hb bs) n D i) (st (hb bs) n D (i + 1))) i = sl bs (D + 4) (st (hb bs) n D i)
  | 0, _ => ⟨Nat.le_refl _, sl_nil.symm⟩
  | i + 1, hi => by
    obtain ⟨h1, h2⟩ := cat_sl hm i (by omega)
    have h3 := hm i (by omega)
    refine ⟨by omega, ?_⟩
    show cat _ i ++ sl bs (st (hb bs) n D i) (st (hb bs) n D (i + 1)) = _
    rw [h2, sl_cat h1 h3]
/-- what is outside the change -/
def Out (I : Nat → Int32) (lo hi : Nat) : Prop := ∀ x, lo ≤ x → x < hi → nI x ≠ I 28 ∧ nI x ≠ I 29
/-- an ELEMENT that stays, with its VALUE -/
theorem w_elU (F : TX iv ad V A 21 60 sd bs n) {d e k q r par dp hi i : Nat} {row : Bool} (hH : hasD (hb bs q) → NDoc X (hb bs) n e k (dcIn (hb bs) (hb bs q) (vpl (hb bs) n q)) r (hb bs q == 4) (dp + 1) (k + 1) hi → WDoc cy iv ad μ0 I V A N X d k (sl bs (dcIn (hb bs) (hb bs q) (vpl (hb bs) n q)) r)) (E : NEl X (hb bs) n k q par dp) (hE : eOk (hb bs) e q r (rwo row i)) (hr : r ≤ n) (hk : k < 1300) (hch : nI k ≠ I 29) (hi' : i < 2 ^ 30) (hN : hasD (hb bs q) → NDoc X (hb bs) n e k (dcIn (hb bs) (hb bs q) (vpl (hb bs) n q)) r (hb bs q == 4) (dp + 1) (k + 1) hi) {v : Nat} (hv : v < 2 ^ 30) : WEl cy iv ad μ0 I V A N X (d + 2) (nI k) v row ([bs q] ++ (if row then rnl v else sl bs (q + 1) (vpl (hb bs) n q)) ++ sl bs (vpl (hb bs) n q) r) := by
  have hB := F.2.2.2.2.2.1
  obtain ⟨s1, s2, s3, s4, s5, s6⟩ := hE.s (n := n) hr
  refine w_el F E hE hr hk hch hv ?_
  by_cases hd : hasD (hb bs q)
  · have := w_valD (cy := cy) (μ0 := μ0) (I := I) (N := N) F E hE hr hk hd (hH hd (hN hd))
    rw [VW_sl hB hd s5] at this
    exact this
  · exact w_valN F E hE hr hk hd
theorem w_docU (F : TX iv ad V A 21 60 sd bs n) : ∀ (e d : Nat), 3 * e ≤ d → ∀ {node D r : Nat} {row : Bool} {dp lo hi : Nat}, NDoc X (hb bs) n e node D r row dp lo hi → r ≤ n → hi < 1300 → node < lo → (X 2 node == 4) = row → nI node ≠ I 28 → Out I lo hi → WDoc cy iv ad μ0 I V A N X d node (sl bs D r)
  | 0, d, _, node, D, r, row, dp, lo, hi, z, _, _, _, _, _, _ => z.elim
  | e + 1, d, hd, node, D, r, row, dp, lo, hi, z, hr, hhi, hnl, htr, hcd, ho => by
    have hB := F.2.2.2.2.2.1
    obtain ⟨d', rfl⟩ : ∃ d', d = d' + 3 := ⟨d - 3, by omega⟩
    obtain ⟨m, c, K⟩ := NDoc.k z
    have hm := K.2.1
    have hD := K.1
    have H : ∀ i, i < m → WEl cy iv ad μ0 I V A N X (d' + 2) (nI (c i)) i row (sl bs (st (hb bs) n D i) (st (hb bs) n D (i + 1))) := fun i hi' => by
      obtain ⟨y1, y2, y3, y4, y5⟩ := K.2.2.2.2.2.2 i hi'
      have ic := K.inc (i := i) (by omega)
      have ic1 := K.inc (i := i + 1) (by omega)
      have le := hD.le' (i := i + 1) (by omega)
      have hD2 := hD.1
      have hE := hD.2.2.2.2.2 i hi'
      obtain ⟨s1, s2, s3, s4, s5, s6⟩ := hE.s (n := n) (by omega)
      have := w_elU (cy := cy) (μ0 := μ0) (I := I) (N := N) (d := d') (i := i) (v := i) F (fun hd' z' => w_docU F e d' (by omega) z' (by omega) (by omega) (by omega) (by rw [y2.2.1]) (ho _ (by omega) (by omega)).1 (fun x a1 a2 => ho x (by omega) (by omega))) y2 hE (by omega) (by omega) (ho _ (by omega) (by omega)).2 (by omega) y4 (by omega)
      rw [el_sl hB hE (by omega), sl_cat (by omega) (by omega)] at this
      exact this
    have ic0 := K.inc (i := 0) (Nat.zero_le _)
    have w := w_dU F K hhi (by omega) htr hcd H
    have l := hD.le' (Nat.le_refl m)
    have hD1 := hD.1
    rw [(cat_sl (n := n) (D := D) (m := m) (fun i hi' => by have := hD.lt (i := i) (k := i + 1) (by omega) (by omega); omega) m (Nat.le_refl _)).2, hD.2.2.2.2.1, DW_sl hB hD.1 hD.2.2.1 hD.2.2.2.1] at w
    exact w
/-- what comes out for the DOCUMENT t levels above the changed one -/
def LW (bs : Nat → Nat) (n : Nat) (G : Nat → Nat) (d : Nat) (M : List Nat) : Nat → List Nat
  | 0 => DW M
  | t + 1 => DW (sl bs (wD (hb bs) n G (d - (t + 1)) + 4) (wV (hb bs) n G (d - (t + 1))) ++ (VW bs (wT (hb bs) n G (d - t)) (wV (hb bs) n G (d - (t + 1))) (wD (hb bs) n G (d - t)) (LW bs n G d M t) ++ sl bs (wR (hb bs) n G (d - t)) (wR (hb bs) n G (d - (t + 1)) - 1)))
theorem w_way (F : TX iv ad V A 21 60 sd bs n) {G : Nat → Nat} {d : Nat} (W : WV (hb bs) n G d) (hN : N < 1300) {ν hi : Nat → Nat} (H : ∀ k, k ≤ d → WN X (hb bs) n G N ν hi k ∧ (k < d → ∃ m c, NK X (hb bs) n (23 - k) (ν k) (wD (hb bs) n G k) (wR (hb bs) n G k) (wT (hb bs) n G k == 4) (k + 1) (ν k + 1) (hi k) m c ∧ G k < m ∧ ν (k + 1) = c (G k) ∧ hi (k + 1) = c (G k + 1))) (hcd : I 28 = nI (ν d)) (hch : I 29 = -1 ∨ ∃ x, I 29 = nI x ∧ x < 2 ^ 30 ∧ ν d < x ∧ (x < hi d ∨ 1300 ≤ x)) {M : List Nat} {f0 : Nat} (H0 : WDoc cy iv ad μ0 I V A N X f0 (ν d) (DW M)) (hf0 : 72 ≤ f0 + 3 * d) : ∀ t, t ≤ d → WDoc cy iv ad μ0 I V A N X (f0 + 3 * t) (ν (d - t)) (LW bs n G d M t)
  | 0, _ => H0
  | t + 1, ht => by
    have hB := F.2.2.2.2.2.1
    have hn := F.2.2.2.2.2.2
    have ih := w_way F W hN H hcd hch H0 hf0 t (by omega)
    have e1 : d - t = d - (t + 1) + 1 := by omega
    have h23 := (W.dc (d - (t + 1)) (by omega)).1
    have fu : 3 * (23 - (d - (t + 1))) ≤ f0 + 3 * t := by omega
    obtain ⟨H1, H2⟩ := H (d - (t + 1)) (by omega)
    obtain ⟨m, c, K, gm, en, eh⟩ := H2 (by omega)
    obtain ⟨-, x2, x3, x4, x5, x6, x7, x8⟩ := H1
    -- the nodes on the way are nested
    have nest : ∀ j, j ≤ t → ν (d - t) + j ≤ ν (d - t + j) ∧ hi (d - t + j) ≤ hi (d - t) := by
      intro j
      induction j with
      | zero => intro _; exact ⟨Nat.le_refl _, Nat.le_refl _⟩
      | succ j ihj =>
        intro hj
        have := ihj (by omega)
        obtain ⟨-, -, -, -, -, -, -, q8⟩ := (H (d - t + (j + 1)) (by omega)).1
        have q := q8 (by omega)
        rw [show d - t + (j + 1) - 1 = d - t + j by omega] at q
        omega
    have nd := nest t (Nat.le_refl _)
    rw [show d - t + t = d from Nat.sub_add_cancel (Nat.le_of_succ_le ht)] at nd
    rw [← e1] at en eh
    have hD := K.1
    have hD1 := hD.1
    have hm := K.2.1
    have o := W.ord (k := d - (t + 1)) (by omega)
    have dn := (H d (Nat.le_refl _)).1
    have dn2 := dn.2.1
    have dn3 := dn.2.2.1
    have eV : wV (hb bs) n G (d - (t + 1)) = vpl (hb bs) n (st (hb bs) n (wD (hb bs) n G (d - (t + 1))) (G (d - (t + 1)))) := rfl
    -- outside
    have out : ∀ x, x < 1300 → (x < ν (d - t) ∨ hi (d - t) ≤ x) → nI x ≠ I 28 ∧ nI x ≠ I 29 := fun x hx hx2 => by
      refine ⟨fun z => ?_, fun z => ?_⟩
      · rw [hcd] at z
        have := (nI_eq (by omega) (by omega)).mp z
        omega
      · rcases hch with c | ⟨y, y1, y2, y3, y4⟩
        · rw [c] at z
          exact nI_m1 (by omega) z
        · rw [y1] at z
          have := (nI_eq (by omega) (by omega)).mp z
          omega
    have els : ∀ i, i < m → WEl cy iv ad μ0 I V A N X (f0 + 3 * t + 2) (nI (c i)) i (wT (hb bs) n G (d - (t + 1)) == 4) (if i = G (d - (t + 1)) then sl bs (st (hb bs) n (wD (hb bs) n G (d - (t + 1))) i) (wV (hb bs) n G (d - (t + 1))) ++ VW bs (wT (hb bs) n G (d - t)) (wV (hb bs) n G (d - (t + 1))) (wD (hb bs) n G (d - t)) (LW bs n G d M t) else sl bs (st (hb bs) n (wD (hb bs) n G (d - (t + 1))) i) (st (hb bs) n (wD (hb bs) n G (d - (t + 1))) (i + 1))) := fun i hi' => by
      obtain ⟨y1, y2, y3, y4, y5⟩ := K.2.2.2.2.2.2 i hi'
      have ic := K.inc (i := i) (by omega)
      have ic1 := K.inc (i := i + 1) (by omega)
      have le := hD.le' (i := i + 1) (by omega)
      have hE := hD.2.2.2.2.2 i hi'
      have hDn := hD.2.1
      obtain ⟨s1, s2, s3, s4, s5, s6⟩ := hE.s (n := n) (by omega)
      by_cases ci : i = G (d - (t + 1))
      · rw [if_pos ci]
        subst ci
        have ht' : hasD (hb bs (st (hb bs) n (wD (hb bs) n G (d - (t + 1))) (G (d - (t + 1))))) := by
          obtain ⟨_, _, _, _, h⟩ := W.2.2 (d - (t + 1)) (by omega)
          exact h
        have v := w_valD (cy := cy) (μ0 := μ0) (I := I) (N := N) (d := f0 + 3 * t) F y2 hE (by omega) (by omega) ht' (by rw [← en]; exact ih)
        have cne : nI (c (G (d - (t + 1)))) ≠ I 29 := fun z => by
          rcases hch with q | ⟨y, z1, z2, z3, z4⟩
          · rw [q] at z
            exact nI_m1 (by omega) z
          · rw [z1] at z
            have := (nI_eq (by omega) (by omega)).mp z
            omega
        have w := w_el (cy := cy) (μ0 := μ0) (I := I) (N := N) (v := G (d - (t + 1))) (row := (wT (hb bs) n G (d - (t + 1)) == 4)) F y2 hE (by omega) (by omega) cne (by omega) v
        rw [el_sl hB hE (by omega)] at w
        have ewT : wT (hb bs) n G (d - t) = hb bs (st (hb bs) n (wD (hb bs) n G (d - (t + 1))) (G (d - (t + 1)))) := by rw [e1]; rfl
        have ewD : wD (hb bs) n G (d - t) = dcIn (hb bs) (hb bs (st (hb bs) n (wD (hb bs) n G (d - (t + 1))) (G (d - (t + 1))))) (vpl (hb bs) n (st (hb bs) n (wD (hb bs) n G (d - (t + 1))) (G (d - (t + 1))))) := by rw [e1]; rfl
        rw [ewT, ewD]
        exact w
      · rw [if_neg ci]
        have side : c (i + 1) ≤ ν (d - t) ∨ hi (d - t) ≤ c i := by
          have inc : ∀ x, x < m → c x < c (x + 1) := fun x hx => (K.2.2.2.2.2.2 x hx).1
          rcases Nat.lt_or_ge i (G (d - (t + 1))) with q | q
          · left
            have := c_le inc (i := i + 1) (k := G (d - (t + 1))) (by omega) (by omega)
            omega
          · right
            have := c_le inc (i := G (d - (t + 1)) + 1) (k := i) (by omega) (by omega)
            omega
        have := w_elU (cy := cy) (μ0 := μ0) (I := I) (N := N) (d := f0 + 3 * t) (i := i) (v := i) F (fun hd' z' => w_docU F (23 - (d - (t + 1))) (f0 + 3 * t) fu z' (by omega) (by omega) (by omega) (by rw [y2.2.1]) (out _ (by omega) (by omega)).1 (fun x a1 a2 => out x (by omega) (by omega))) y2 hE (by omega) (by omega) (out _ (by omega) (by omega)).2 (by omega) y4 (by omega)
        rw [el_sl hB hE (by omega), sl_cat (by omega) (by omega)] at this
        exact this
    have ncd : nI (ν (d - (t + 1))) ≠ I 28 := fun z => by
      rw [hcd] at z
      have := (nI_eq (by omega) (by omega)).mp z
      have := K.inc (i := G (d - (t + 1))) (by omega)
      omega
    have w := w_dU F K (by omega) (by omega) (by rw [x4]) ncd els
    rw [show f0 + 3 * t + 2 + 1 = f0 + 3 * (t + 1) by omega] at w
    have ec : cat (fun i => if i = G (d - (t + 1)) then sl bs (st (hb bs) n (wD (hb bs) n G (d - (t + 1))) i) (wV (hb bs) n G (d - (t + 1))) ++ VW bs (wT (hb bs) n G (d - t)) (wV (hb bs) n G (d - (t + 1))) (wD (hb bs) n G (d - t)) (LW bs n G d M t) else sl bs (st (hb bs) n (wD (hb bs) n G (d - (t + 1))) i) (st (hb bs) n (wD (hb bs) n G (d - (t + 1))) (i + 1))) m = sl bs (wD (hb bs) n G (d - (t + 1)) + 4) (wV (hb bs) n G (d - (t + 1))) ++ (VW bs (wT (hb bs) n G (d - t)) (wV (hb bs) n G (d - (t + 1))) (wD (hb bs) n G (d - t)) (LW bs n G d M t) ++ sl bs (wR (hb bs) n G (d - t)) (wR (hb bs) n G (d - (t + 1)) - 1)) := by
      have em : m = G (d - (t + 1)) + 1 + (m - (G (d - (t + 1)) + 1)) := by omega
      have mono : ∀ i, i < m → st (hb bs) n (wD (hb bs) n G (d - (t + 1))) i ≤ st (hb bs) n (wD (hb bs) n G (d - (t + 1))) (i + 1) := fun i hi' => by have := hD.lt (i := i) (k := i + 1) (by omega) (by omega); omega
      have c1 := cat_sl (n := n) (bs := bs) mono (G (d - (t + 1))) (by omega)
      have c2 := cat_sl (n := n) (bs := bs) mono m (Nat.le_refl _)
      have erk := W.rk (k := d - (t + 1)) (by omega)
      rw [← e1] at erk
      have c3 : cat (fun x => sl bs (st (hb bs) n (wD (hb bs) n G (d - (t + 1))) (G (d - (t + 1)) + 1 + x)) (st (hb bs) n (wD (hb bs) n G (d - (t + 1))) (G (d - (t + 1)) + 1 + x + 1))) (m - (G (d - (t + 1)) + 1)) = sl bs (wR (hb bs) n G (d - t)) (wR (hb bs) n G (d - (t + 1)) - 1) := by
        have key : ∀ x, G (d - (t + 1)) + 1 + x ≤ m → cat (fun x => sl bs (st (hb bs) n (wD (hb bs) n G (d - (t + 1))) (G (d - (t + 1)) + 1 + x)) (st (hb bs) n (wD (hb bs) n G (d - (t + 1))) (G (d - (t + 1)) + 1 + x + 1))) x = sl bs (wR (hb bs) n G (d - t)) (st (hb bs) n (wD (hb bs) n G (d - (t + 1))) (G (d - (t + 1)) + 1 + x)) := by
          intro x
          induction x with
          | zero => intro _; rw [erk]; exact sl_nil.symm
          | succ x ihx =>
            intro hx
            have l1 := hD.mono (G (d - (t + 1)) + 1) x (by omega)
            have l2 := mono (G (d - (t + 1)) + 1 + x) (by omega)
            show cat _ x ++ sl bs (st (hb bs) n (wD (hb bs) n G (d - (t + 1))) (G (d - (t + 1)) + 1 + x)) (st (hb bs) n (wD (hb bs) n G (d - (t + 1))) (G (d - (t + 1)) + 1 + x + 1)) = _
            rw [ihx (by omega), sl_cat (by omega) l2]
            rfl
        rw [key _ (by omega), show G (d - (t + 1)) + 1 + (m - (G (d - (t + 1)) + 1)) = m by omega, hD.2.2.2.2.1]
      conv => lhs; rw [em, cat_split]
      show (cat _ (G (d - (t + 1))) ++ (if G (d - (t + 1)) = G (d - (t + 1)) then _ else _)) ++ cat _ _ = _
      rw [if_pos rfl]
      rw [show cat (fun i => if i = G (d - (t + 1)) then sl bs (st (hb bs) n (wD (hb bs) n G (d - (t + 1))) i) (wV (hb bs) n G (d - (t + 1))) ++ VW bs (wT (hb bs) n G (d - t)) (wV (hb bs) n G (d - (t + 1))) (wD (hb bs) n G (d - t)) (LW bs n G d M t) else sl bs (st (hb bs) n (wD (hb bs) n G (d - (t + 1))) i) (st (hb bs) n (wD (hb bs) n G (d - (t + 1))) (i + 1))) (G (d - (t + 1))) = sl bs (wD (hb bs) n G (d - (t + 1)) + 4) (st (hb bs) n (wD (hb bs) n G (d - (t + 1))) (G (d - (t + 1)))) from by
        rw [← c1.2]
        exact cat_congr (fun i hi' => if_neg (by omega))]
      rw [show cat (fun i => if G (d - (t + 1)) + 1 + i = G (d - (t + 1)) then sl bs (st (hb bs) n (wD (hb bs) n G (d - (t + 1))) (G (d - (t + 1)) + 1 + i)) (wV (hb bs) n G (d - (t + 1))) ++ VW bs (wT (hb bs) n G (d - t)) (wV (hb bs) n G (d - (t + 1))) (wD (hb bs) n G (d - t)) (LW bs n G d M t) else sl bs (st (hb bs) n (wD (hb bs) n G (d - (t + 1))) (G (d - (t + 1)) + 1 + i)) (st (hb bs) n (wD (hb bs) n G (d - (t + 1))) (G (d - (t + 1)) + 1 + i + 1))) (m - (G (d - (t + 1)) + 1)) = sl bs (wR (hb bs) n G (d - t)) (wR (hb bs) n G (d - (t + 1)) - 1) from by
        rw [← c3]
        exact cat_congr (fun i hi' => if_neg (by omega))]
      rw [← List.append_assoc, sl_cat c1.1 (by have := o.2.1; omega), List.append_assoc]
    rw [ec] at w
    exact w
end WO3
