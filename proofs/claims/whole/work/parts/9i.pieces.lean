/-! PIECES OF A DRAFT are good ELEMENTS; how long they are. -/
theorem dz_lt : ∀ (k f r : Nat), r < 10 ^ k → dz f r ≤ k
  | k, 0, r, _ => Nat.zero_le _
  | 0, f + 1, r, h => by
    have : r = 0 := by rw [Nat.pow_zero] at h; omega
    unfold dz
    rw [if_pos this]
    exact Nat.le_refl _
  | k + 1, f + 1, r, h => by
    unfold dz
    split
    · omega
    · have := dz_lt k f (r / 10) (by rw [Nat.pow_succ] at h; omega)
      omega
theorem dg4 {v : Nat} (h : v < 10000) : dg v ≤ 4 := by
  have := dz_lt 3 9 (v / 10) (show v / 10 < 1000 by omega)
  unfold dg
  omega
theorem dz_mono : ∀ (f r r' : Nat), r ≤ r' → dz f r ≤ dz f r'
  | 0, _, _, _ => Nat.le_refl _
  | f + 1, r, r', h => by
    unfold dz
    by_cases c : r = 0
    · rw [if_pos c]; exact Nat.zero_le _
    · rw [if_neg c, if_neg (by omega)]
      have := dz_mono f (r / 10) (r' / 10) (Nat.div_le_div_right h)
      omega
theorem dg_mono {v v' : Nat} (h : v ≤ v') : dg v ≤ dg v' := by
  have := dz_mono 9 (v / 10) (v' / 10) (Nat.div_le_div_right h)
  unfold dg
  omega
section PCS
variable {bs : Nat → Nat} {n : Nat}
theorem pc_ok {t : Nat} {nm vl : List Nat} {rw : Option Nat} {e : Nat} (ht : isTy (nI t)) (hn : 1 ≤ nm.length) (hz : nmZ (hl nm) 0 (nm.length - 1) rw) (hv : vOk (hl vl) e (nI t) 0 vl.length) : eOk (hl ([t] ++ nm ++ vl)) e 0 ([t] ++ nm ++ vl).length rw := by
  have h0 : hl ([t] ++ nm ++ vl) 0 = nI t := rfl
  have len : ([t] ++ nm ++ vl).length = 1 + nm.length + vl.length := by rw [List.length_append, List.length_append]; rfl
  have l1 : ([t] ++ nm).length = 1 + nm.length := by rw [List.length_append]; rfl
  refine eOk.m (z := nm.length) (by rw [h0]; exact ht) (hz.go (fun j hj => ?_) (by omega)) ?_
  · show nI (([t] ++ nm ++ vl).getD (0 + 1 + j) 0) = nI (nm.getD (0 + j) 0)
    rw [gd_lo (by omega), gd_at (a := [t]) (j := 0 + j) (by show 0 + 1 + j = 1 + (0 + j); omega)]
  · rw [h0]
    refine hv.go (Nat.le_refl _) (fun j hj => ?_) (by omega)
    show nI (([t] ++ nm ++ vl).getD (nm.length + 1 + j) 0) = nI (vl.getD (0 + j) 0)
    rw [gd_at (a := [t] ++ nm) (j := 0 + j) (by rw [l1]; omega)]
theorem nm_bs {p z : Nat} {rw : Option Nat} (h : nmZ (hb bs) p z rw) : nmZ (hl (sl bs p (z + 1))) 0 (z - p) rw := by
  have h1 := h.1
  refine h.go (fun j hj => ?_) (by omega)
  show nI ((sl bs p (z + 1)).getD (0 + j) 0) = nI (bs (p + j))
  rw [Nat.zero_add, gd_sl (by omega)]
theorem nm_rn {v : Nat} : nmZ (hl (rnl v)) 0 (dg v) (some v) := by
  have hd := dg_le v
  have g : ∀ j, j < dg v + 1 → (rnl v).getD j 0 = rnm v j := fun j hj => gd_rnl hj
  refine ⟨Nat.zero_le _, ?_, fun j _ hj => ?_, ?_⟩
  · show nI ((rnl v).getD (dg v) 0) = 0
    rw [g _ (by omega), show rnm v (dg v) = 0 from if_neg (by omega)]
    rfl
  · show nI ((rnl v).getD j 0) ≠ 0
    rw [g _ (by omega), show rnm v j = fig v (dg v - 1 - j) from if_pos hj]
    have := fig_lt v (dg v - 1 - j)
    intro z
    have := (nI_eq (b := 0) (by omega) (by decide)).mp z
    omega
  · show rowN (hl (rnl v)) 0 (dg v) v
    refine ⟨by omega, fun k k1 k2 => ?_⟩
    show nI ((rnl v).getD (dg v - k) 0) = _
    rw [g _ (by omega), show rnm v (dg v - k) = fig v (dg v - 1 - (dg v - k)) from if_pos (by omega), show dg v - 1 - (dg v - k) = k - 1 by omega]
theorem vl_bs {e p r : Nat} {t : Int32} (h : vOk (hb bs) e t p r) : vOk (hl (sl bs p r)) e t 0 (sl bs p r).length := by
  have := h.le
  rw [sl_len]
  refine h.go (Nat.le_refl _) (fun j hj => ?_) (by omega)
  show nI ((sl bs p r).getD (0 + j) 0) = nI (bs (p + j))
  rw [Nat.zero_add, gd_sl hj]
/-- the names that an ELEMENT can get: its own, or its new number -/
theorem nm_old {e q r i v : Nat} {row : Bool} (hE : eOk (hb bs) e q r (rwo row i)) (hr : r ≤ n) : 1 ≤ (if row then rnl v else sl bs (q + 1) (vpl (hb bs) n q)).length ∧ nmZ (hl (if row then rnl v else sl bs (q + 1) (vpl (hb bs) n q))) 0 ((if row then rnl v else sl bs (q + 1) (vpl (hb bs) n q)).length - 1) (rwo row v) := by
  obtain ⟨s1, s2, s3, s4, s5, s6⟩ := hE.s (n := n) hr
  cases row with
  | true =>
    show 1 ≤ (rnl v).length ∧ nmZ (hl (rnl v)) 0 ((rnl v).length - 1) (some v)
    rw [rnl_len]
    exact ⟨by omega, nm_rn⟩
  | false =>
    show 1 ≤ (sl bs (q + 1) (vpl (hb bs) n q)).length ∧ nmZ (hl (sl bs (q + 1) (vpl (hb bs) n q))) 0 ((sl bs (q + 1) (vpl (hb bs) n q)).length - 1) none
    have := nm_bs (bs := bs) s4
    rw [show vpl (hb bs) n q - 1 + 1 = vpl (hb bs) n q by omega] at this
    rw [sl_len]
    refine ⟨by omega, ?_⟩
    rw [show vpl (hb bs) n q - (q + 1) - 1 = vpl (hb bs) n q - 1 - (q + 1) by omega]
    exact this
/-- a piece with the old name (or its new number) -/
theorem pcO_ok {e q r i v t : Nat} {row : Bool} {vl : List Nat} (hE : eOk (hb bs) e q r (rwo row i)) (hr : r ≤ n) (ht : isTy (nI t)) (hv : vOk (hl vl) e (nI t) 0 vl.length) : eOk (hl ([t] ++ (if row then rnl v else sl bs (q + 1) (vpl (hb bs) n q)) ++ vl)) e 0 ([t] ++ (if row then rnl v else sl bs (q + 1) (vpl (hb bs) n q)) ++ vl).length (rwo row v) := by
  obtain ⟨a1, a2⟩ := nm_old (v := v) hE hr
  exact pc_ok ht a1 a2 hv
theorem pce_ok {e r D m i v : Nat} {row : Bool} (hD : DC (hb bs) n e D r row m) (hi : i < m) : eOk (hl (pce bs n D row i v)) e 0 (pce bs n D row i v).length (rwo row v) := by
  have hE := hD.2.2.2.2.2 i hi
  have le := hD.le' (i := i + 1) (by omega)
  have h1 := hD.1
  have h2 := hD.2.1
  obtain ⟨s1, s2, s3, s4, s5, s6⟩ := hE.s (n := n) (by omega)
  exact pcO_ok hE (by omega) s1 (vl_bs s5)
theorem pce_len {e r D m i v : Nat} {row : Bool} (hD : DC (hb bs) n e D r row m) (hi : i < m) (hv : v < 10000) : (pce bs n D row i v).length + st (hb bs) n D i ≤ st (hb bs) n D (i + 1) + 3 := by
  have hE := hD.2.2.2.2.2 i hi
  have le := hD.le' (i := i + 1) (by omega)
  have h1 := hD.1
  have h2 := hD.2.1
  obtain ⟨s1, s2, s3, s4, s5, s6⟩ := hE.s (n := n) (by omega)
  have l : (pce bs n D row i v).length = 1 + (if row then rnl v else sl bs (st (hb bs) n D i + 1) (vpl (hb bs) n (st (hb bs) n D i))).length + (st (hb bs) n D (i + 1) - vpl (hb bs) n (st (hb bs) n D i)) := by
    unfold pce
    rw [List.length_append, List.length_append, sl_len]
    rfl
  rw [l]
  cases row with
  | false =>
    show 1 + (sl bs (st (hb bs) n D i + 1) (vpl (hb bs) n (st (hb bs) n D i))).length + _ + _ ≤ _
    rw [sl_len]
    omega
  | true =>
    show 1 + (rnl v).length + _ + _ ≤ _
    have := dg4 hv
    have z4 : rowN (hb bs) (st (hb bs) n D i + 1) (vpl (hb bs) n (st (hb bs) n D i) - 1) i := s4.2.2.2
    have := z4.1
    have := dg_le i
    rw [rnl_len]
    omega
/-- a lesser number makes no longer piece -/
theorem pce_len2 {e r D m i v : Nat} {row : Bool} (hD : DC (hb bs) n e D r row m) (hi : i < m) (hv : v ≤ i) : (pce bs n D row i v).length + st (hb bs) n D i ≤ st (hb bs) n D (i + 1) := by
  have hE := hD.2.2.2.2.2 i hi
  have le := hD.le' (i := i + 1) (by omega)
  have h1 := hD.1
  have h2 := hD.2.1
  obtain ⟨s1, s2, s3, s4, s5, s6⟩ := hE.s (n := n) (by omega)
  have l : (pce bs n D row i v).length = 1 + (if row then rnl v else sl bs (st (hb bs) n D i + 1) (vpl (hb bs) n (st (hb bs) n D i))).length + (st (hb bs) n D (i + 1) - vpl (hb bs) n (st (hb bs) n D i)) := by
    unfold pce
    rw [List.length_append, List.length_append, sl_len]
    rfl
  rw [l]
  cases row with
  | false =>
    show 1 + (sl bs (st (hb bs) n D i + 1) (vpl (hb bs) n (st (hb bs) n D i))).length + _ + _ ≤ _
    rw [sl_len]
    omega
  | true =>
    show 1 + (rnl v).length + _ + _ ≤ _
    have := dg_mono hv
    have z4 : rowN (hb bs) (st (hb bs) n D i + 1) (vpl (hb bs) n (st (hb bs) n D i) - 1) i := s4.2.2.2
    have := z4.1
    rw [rnl_len]
    omega
theorem cat_sum {P : Nat → List Nat} {a : Nat → Nat} {k : Nat} : ∀ m, (∀ i, i < m → (P i).length + a i ≤ a (i + 1) + k) → (cat P m).length + a 0 ≤ a m + k * m
  | 0, _ => by show 0 + a 0 ≤ a 0 + k * 0; omega
  | m + 1, h => by
    have := cat_sum m (fun i hi => h i (by omega))
    have := h m (by omega)
    show (cat P m ++ P m).length + a 0 ≤ _
    rw [List.length_append, Nat.mul_succ]
    omega
end PCS
