/-! THE CLASS'S CURSOR: its methods. -/
def num0 (m : Nat) : Int32 := if m = 0 then -1 else 0
def atOk (at' : Int32) (m : Nat) : Prop := at' = -1 ∨ ∃ i, i < m ∧ at' = nI i
def FrC (cs : Nat) (J J' : Nat → Int32) (B B' : Nat → Nat → Int32) : Prop := (∀ k, k / 100 ≠ cs → J' k = J k) ∧ ∀ k, (k ≤ cs ∨ cs + 5 < k) → B' k = B k
theorem FrC.rf {cs : Nat} {J : Nat → Int32} {B : Nat → Nat → Int32} : FrC cs J J B B := ⟨fun _ _ => rfl, fun _ _ => rfl⟩
theorem FrC.trans {cs : Nat} {J J1 J2 : Nat → Int32} {B B1 B2 : Nat → Nat → Int32} (h1 : FrC cs J J1 B B1) (h2 : FrC cs J1 J2 B1 B2) : FrC cs J J2 B B2 := ⟨fun k hk => (h2.1 k hk).trans (h1.1 k hk), fun k hk => (h2.2 k hk).trans (h1.2 k hk)⟩
theorem FrC.J {cs f : Nat} {J : Nat → Int32} {B : Nat → Nat → Int32} {x : Int32} (hf : f < 100) : FrC cs J (upd J (100 * cs + f) x) B B := ⟨fun k hk => upd_ne' (by omega), fun _ _ => rfl⟩
theorem FrC.B {cs f : Nat} {J : Nat → Int32} {B : Nat → Nat → Int32} {x : Nat → Int32} (hf : 1 ≤ f ∧ f ≤ 5) : FrC cs J J B (updG B (cs + f) x) := ⟨fun _ _ => rfl, fun k hk => updG_ne (by omega)⟩
section CC2
variable {cy : Nat → ClassId} {iv : Nat → Option Nat} {ad : Nat → Nat} {μ0 : Mem} {J : Nat → Int32} {w : Nat} {B : Nat → Nat → Int32} {cs sp n : Nat} {h : Nat → Int32} {I : Nat → Nat} {d m : Nat} {at' : Int32}
theorem csp_ne (hc : cur6 cs = true) (hsp : span6 sp = true) : (sp + 1 ≤ cs ∨ cs + 5 < sp + 1) ∧ (∀ g, g < 100 → (100 * sp + g) / 100 ≠ cs) := by
  have a := cur6_c hc
  have b := span6_c hsp
  exact ⟨by omega, fun g hg => by omega⟩
theorem num0_eq (m : Nat) (hm : m < 1200) : (if nI m - 1 < 0 then nI m - 1 else 0) = num0 m := by
  unfold num0
  match m, hm with
  | 0, _ => decide
  | m + 1, hm =>
    rw [nI_pred, if_neg (nI_pos (by omega)), if_neg (by omega)]
theorem C_toRoot (hL : Lay6 iv ad) (hc : cur6 cs = true) (hsp : span6 sp = true) (h1 : J (100 * sp + 1) = nI n) (hn : n ≤ len6 (sp + 1)) (hh : B (sp + 1) = h) (hd : dOk h 24 0 n false) (hn2 : n ≤ 2400) : ∃ J' B' m, f_X0_toRoot cy (ad cs) (ad sp) (MC cy iv ad μ0 J w B) = some (MC cy iv ad μ0 J' w B') ∧ (∀ I, CUR J' B' cs h n I 0 m (num0 m)) ∧ FrC cs J J' B B' := by
  have ca := cur_arr hc
  have ne := csp_ne hc hsp
  obtain ⟨e', m, he, hm, hD⟩ := hd.s (Nat.le_refl n) hn2
  have : e' = 23 := by omega
  subst this
  unfold f_X0_toRoot
  have z0 : (0 : Int32) = nI 0 := rfl
  rw [c_putC hL hc 4 (Or.inl rfl), Option.bind_some, C_r0 hL hc, Option.bind_some, z0, C_st hL ca.2.1 ca.2.2.2.2.2.2.1 (by decide), Option.bind_some, C_r1 hL hc, Option.bind_some, C_st hL ca.2.2.1 ca.2.2.2.2.2.2.2.1 (by decide), Option.bind_some, if_pos (C_is hL hc)]
  obtain ⟨S', e1, e2⟩ := C_findStarts (cy := cy) (μ0 := μ0) (J := upd J (100 * cs + 4) (nI 0)) (w := w) (B := updG (updG B (cs + 1) (upd (B (cs + 1)) 0 (nI 0))) (cs + 2) (upd (updG B (cs + 1) (upd (B (cs + 1)) 0 (nI 0)) (cs + 2)) 0 (nI 0))) (n := n) (h := h) (k := 0) hL hc hsp (by rw [upd_ne' (by omega), h1]) hn (by rw [updG_ne (by omega), updG_ne (by omega), hh]) hD hm upd_self' (by decide) (by rw [updG_ne (by omega), updG_self, upd_self'])
  rw [e1, Option.bind_some, if_pos (C_is hL hc), C_toNum hL hc (m := m) upd_self', Option.bind_some, ← z0, num0_eq m hm]
  refine ⟨_, _, m, rfl, fun I => ⟨?_, upd_self', ?_, ?_, ?_, ?_, ?_, ?_, hm, ⟨hd, hn2, fun k hk => by omega⟩, n, hD⟩, ?_⟩
  · rw [upd_ne' (by omega), upd_ne' (by omega), upd_self']
    rfl
  · rw [upd_ne' (by omega), upd_self']
  · intro k hk
    have : k = 0 := by omega
    subst this
    rw [updG_ne (by omega), updG_ne (by omega), updG_self, upd_self']
    rfl
  · intro k hk
    have : k = 0 := by omega
    subst this
    rw [updG_ne (by omega), updG_self, upd_self']
    rfl
  · intro k hk; omega
  · intro k hk; omega
  · intro i hi
    rw [updG_self, e2 i hi]
    rfl
  · refine FrC.trans (FrC.trans (FrC.trans (FrC.J (by decide)) (FrC.B (f := 1) (by decide))) (FrC.B (f := 2) (by decide))) (FrC.trans (FrC.trans (FrC.J (f := 7) (by decide)) (FrC.B (f := 5) (by decide))) (FrC.J (f := 5) (by decide)))
theorem C_startOf (hL : Lay6 iv ad) (hc : cur6 cs = true) (C : CUR J B cs h n I d m at') {i : Nat} (hi : i ≤ m) : f_X0_startOf cy (ad cs) (nI i) (MC cy iv ad μ0 J w B) = some (nI (st h n (wD h n I d) i), MC cy iv ad μ0 J w B) := by
  have ca := cur_arr hc
  obtain ⟨c1, c2, c3, c4, c5, c6, c7, c8, c9, c10, r, c11⟩ := C
  unfold f_X0_startOf
  rw [if_neg (nI_pos (by omega)), C_cnt hL hc, Option.bind_some, c3, if_neg (nI_nlt hi (by omega)), C_r6 hL hc, Option.bind_some, C_ld hL ca.2.2.2.2.2.1 ca.2.2.2.2.2.2.2.2.2.2 (by omega), Option.bind_some, c8 i hi]
theorem C_startNeg (hL : Lay6 iv ad) (hc : cur6 cs = true) : f_X0_startOf cy (ad cs) (-1) (MC cy iv ad μ0 J w B) = some (0, MC cy iv ad μ0 J w B) := by
  unfold f_X0_startOf f_X0_startOf_L21
  rw [if_pos (by decide)]
theorem CUR.lvl (C : CUR J B cs h n I d m at') : d < 24 := by
  obtain ⟨c1, c2, c3, c4, c5, c6, c7, c8, c9, c10, r, c11⟩ := C
  have := (c10.dc d (Nat.le_refl _)).1
  omega
theorem C_last (hL : Lay6 iv ad) (hc : cur6 cs = true) (C : CUR J B cs h n I d m at') : f_X0_lastBytePlace cy (ad cs) (MC cy iv ad μ0 J w B) = some (nI (st h n (wD h n I d) m), MC cy iv ad μ0 J w B) := by
  unfold f_X0_lastBytePlace
  rw [C_cnt hL hc, Option.bind_some, if_pos (C_is hL hc), C.2.2.1, C_startOf hL hc C (Nat.le_refl m), ob2_some]
theorem C_inRow (hL : Lay6 iv ad) (hc : cur6 cs = true) (C : CUR J B cs h n I d m at') : f_X0_isInRow cy (ad cs) (MC cy iv ad μ0 J w B) = some (bI (wT h n I d == 4), MC cy iv ad μ0 J w B) := by
  unfold f_X0_isInRow
  rw [if_pos (C_is hL hc), C_documentType hL hc C.1 C.lvl, ob2_some, C.2.2.2.2.1 d (Nat.le_refl _)]
  by_cases e : wT h n I d = 4
  · rw [if_pos e, e]
    rfl
  · rw [if_neg e]
    have : (wT h n I d == 4) = false := by simp [e]
    rw [this]
    rfl
theorem C_depth (hL : Lay6 iv ad) (hc : cur6 cs = true) (C : CUR J B cs h n I d m at') : f_X0_depth cy (ad cs) (MC cy iv ad μ0 J w B) = some (nI (d + 1), MC cy iv ad μ0 J w B) := by
  unfold f_X0_depth
  rw [C_lvl hL hc, Option.bind_some, C.1, nI_a1]
theorem C_atEl (hL : Lay6 iv ad) (hc : cur6 cs = true) (C : CUR J B cs h n I d m at') : f_X0_isAtElement cy (ad cs) (MC cy iv ad μ0 J w B) = some ((if at' = -1 then 0 else 1), MC cy iv ad μ0 J w B) := by
  unfold f_X0_isAtElement
  rw [C_num hL hc, Option.bind_some, C.2.1]
  by_cases e : at' = -1
  · rw [if_pos e, if_pos e]
  · rw [if_neg e, if_neg e]
theorem C_doc (hL : Lay6 iv ad) (hc : cur6 cs = true) (C : CUR J B cs h n I d m at') : f_X0_document cy (ad cs) (MC cy iv ad μ0 J w B) = some (nI (wD h n I d), MC cy iv ad μ0 J w B) := by
  rw [C_document hL hc C.1 C.lvl, C.2.2.2.1 d (Nat.le_refl _)]
/-- the ELEMENT that the cursor is at -/
theorem CUR.el (C : CUR J B cs h n I d m at') {i : Nat} (hi : i < m) : eOk h (23 - d) (st h n (wD h n I d) i) (st h n (wD h n I d) (i + 1)) (rwo (wT h n I d == 4) i) ∧ st h n (wD h n I d) (i + 1) < n ∧ n ≤ 2400 := by
  obtain ⟨c1, c2, c3, c4, c5, c6, c7, c8, c9, c10, r, c11⟩ := C
  have := c11.le' (i := i + 1) (by omega)
  exact ⟨c11.2.2.2.2.2 i hi, by have := c11.1; have := c11.2.1; omega, c10.2.1⟩
theorem C_stepIn (hL : Lay6 iv ad) (hc : cur6 cs = true) (hsp : span6 sp = true) (h1 : J (100 * sp + 1) = nI n) (hn : n ≤ len6 (sp + 1)) (hh : B (sp + 1) = h) (C : CUR J B cs h n I d m at') {i : Nat} (hi : i < m) (hat : at' = nI i) (ht : hasD (h (st h n (wD h n I d) i))) : ∃ J' B' m', f_X0_stepIn cy (ad cs) (ad sp) (MC cy iv ad μ0 J w B) = some (1, MC cy iv ad μ0 J' w B') ∧ CUR J' B' cs h n (updG I d i) (d + 1) m' (num0 m') ∧ FrC cs J J' B B' := by
  have ca := cur_arr hc
  have ne := csp_ne hc hsp
  have C' := C
  obtain ⟨c1, c2, c3, c4, c5, c6, c7, c8, c9, c10, r, c11⟩ := C
  obtain ⟨hE, hlt, hn24⟩ := C'.el hi
  have hs := hE.s (n := n) (by omega)
  have hv := hs.2.2.2.2.1
  obtain ⟨hd, -⟩ := hv.doc ht
  have W' := c10.step c11 hi ht
  obtain ⟨hd23, m', r', hm', hD'⟩ := W'.dc (d + 1) (Nat.le_refl _)
  have ewy : ∀ k, k ≤ d → wy h n (updG I d i) k = wy h n I k := fun k hk => wy_congr k (fun j hj => updG_ne (by omega))
  have eT : wT h n (updG I d i) (d + 1) = h (st h n (wD h n I d) i) := by
    show h (st h n (wy h n (updG I d i) d).1 (updG I d i d)) = _
    rw [ewy d (Nat.le_refl _), updG_self]
  have eD : wD h n (updG I d i) (d + 1) = dcIn h (h (st h n (wD h n I d) i)) (vpl h n (st h n (wD h n I d) i)) := by
    show dcIn h (h (st h n (wy h n (updG I d i) d).1 (updG I d i d))) (vpl h n (st h n (wy h n (updG I d i) d).1 (updG I d i d))) = _
    rw [ewy d (Nat.le_refl _), updG_self]
  have S0 : SP cy (MC cy iv ad μ0 J w B) (ad sp) (ad (sp + 1)) (len6 (sp + 1)) n h (J (100 * sp + 2)) := by
    have := SP6 (cy := cy) (μ0 := μ0) (w := w) (B := B) hL hsp h1 hn
    rw [hh] at this
    exact this
  unfold f_X0_stepIn
  rw [C_num hL hc, Option.bind_some, if_pos (C_is hL hc), c2, hat, C_startOf hL hc C' (by omega), ob2_some, if_pos (s_is S0), s_at S0 (by omega), ob2_some, if_pos (C_is hL hc), C_atEl hL hc C', ob2_some, hat, if_neg (nI_m1 (by omega)), if_neg (show ¬ (1 : Int32) = 0 by decide), p_hasDocument ht, ob2_some, if_neg (show ¬ (1 : Int32) = 0 by decide), C_lvl hL hc, Option.bind_some, c1, nI_a1, if_pos (show nI (d + 1) < (24 : Int32) from nI_lt (b := 24) (by omega) (by decide)),
    C_r2 hL hc, Option.bind_some, Option.bind_some, C_st hL ca.2.2.2.1 ca.2.2.2.2.2.2.2.2.1 (by omega), Option.bind_some, C_r3 hL hc, Option.bind_some, C_lvl hL hc, Option.bind_some, C_num hL hc, Option.bind_some, c1, c2, hat, C_st hL ca.2.2.2.2.1 ca.2.2.2.2.2.2.2.2.2.1 (by omega), Option.bind_some, C_lvl hL hc, Option.bind_some, c1, nI_a1, c_putC hL hc 4 (Or.inl rfl), Option.bind_some, C_r0 hL hc, Option.bind_some, C_lvl hL hc, Option.bind_some, upd_self']
  generalize hB3 : updG (updG B (cs + 3) (upd (B (cs + 3)) d (nI (st h n (wD h n I d) i)))) (cs + 4) (upd (updG B (cs + 3) (upd (B (cs + 3)) d (nI (st h n (wD h n I d) i))) (cs + 4)) d (nI i)) = B3
  have b31 : B3 (cs + 1) = B (cs + 1) := by rw [← hB3, updG_ne (by omega), updG_ne (by omega)]
  have b32 : B3 (cs + 2) = B (cs + 2) := by rw [← hB3, updG_ne (by omega), updG_ne (by omega)]
  have b33 : B3 (cs + 3) = upd (B (cs + 3)) d (nI (st h n (wD h n I d) i)) := by rw [← hB3, updG_ne (by omega), updG_self]
  have b34 : B3 (cs + 4) = upd (B (cs + 4)) d (nI i) := by rw [← hB3, updG_self, updG_ne (by omega)]
  have b3s : B3 (sp + 1) = h := by rw [← hB3, updG_ne (by omega), updG_ne (by omega), hh]
  have fr3 : FrC cs J J B B3 := by
    rw [← hB3]
    exact FrC.trans (FrC.B (f := 3) (by decide)) (FrC.B (f := 4) (by decide))
  have S1 : SP cy (MC cy iv ad μ0 (upd J (100 * cs + 4) (nI (d + 1))) w B3) (ad sp) (ad (sp + 1)) (len6 (sp + 1)) n h (upd J (100 * cs + 4) (nI (d + 1)) (100 * sp + 2)) := by
    have := SP6 (cy := cy) (μ0 := μ0) (J := upd J (100 * cs + 4) (nI (d + 1))) (w := w) (B := B3) (n := n) hL hsp (by rw [upd_ne' (by omega), h1]) hn
    rw [b3s] at this
    exact this
  rw [if_pos (s_is S1), nI_a1, s_behindName S1 (by omega), ob2_some, show bn h n (st h n (wD h n I d) i + 1) = vpl h n (st h n (wD h n I d) i) from rfl, p_documentIn S1 ht hv (by omega), ob2_some, C_st hL ca.2.1 ca.2.2.2.2.2.2.1 (by omega), Option.bind_some, C_r1 hL hc, Option.bind_some, C_lvl hL hc, Option.bind_some, upd_self', C_st hL ca.2.2.1 ca.2.2.2.2.2.2.2.1 (by omega), Option.bind_some, if_pos (C_is hL hc)]
  obtain ⟨S', e1, e2⟩ := C_findStarts (cy := cy) (μ0 := μ0) (J := upd J (100 * cs + 4) (nI (d + 1))) (w := w) (B := updG (updG B3 (cs + 1) (upd (B3 (cs + 1)) (d + 1) (nI (dcIn h (h (st h n (wD h n I d) i)) (vpl h n (st h n (wD h n I d) i)))))) (cs + 2) (upd (updG B3 (cs + 1) (upd (B3 (cs + 1)) (d + 1) (nI (dcIn h (h (st h n (wD h n I d) i)) (vpl h n (st h n (wD h n I d) i))))) (cs + 2)) (d + 1) (h (st h n (wD h n I d) i)))) (n := n) (h := h) (k := d + 1) (D := wD h n (updG I d i) (d + 1)) hL hc hsp (by rw [upd_ne' (by omega), h1]) hn (by rw [updG_ne (by omega), updG_ne (by omega), b3s]) hD' hm' upd_self' (by omega) (by rw [updG_ne (by omega), updG_self, upd_self', eD])
  rw [e1, Option.bind_some, if_pos (C_is hL hc), C_toNum hL hc (m := m') upd_self', Option.bind_some, num0_eq m' hm']
  refine ⟨_, _, m', rfl, ⟨?_, upd_self', ?_, ?_, ?_, ?_, ?_, ?_, hm', W', r', hD'⟩, ?_⟩
  · rw [upd_ne' (by omega), upd_ne' (by omega), upd_self']
  · rw [upd_ne' (by omega), upd_self']
  · intro k hk
    rw [updG_ne (by omega), updG_ne (by omega), updG_self]
    by_cases e : k = d + 1
    · rw [e, upd_self', eD]
    · rw [upd_ne' e, b31, c4 k (by omega)]
      show nI (wy h n I k).1 = nI (wy h n (updG I d i) k).1
      rw [ewy k (by omega)]
  · intro k hk
    rw [updG_ne (by omega), updG_self]
    by_cases e : k = d + 1
    · rw [e, upd_self', eT]
    · rw [upd_ne' e, updG_ne (by omega), b32, c5 k (by omega)]
      show (wy h n I k).2 = (wy h n (updG I d i) k).2
      rw [ewy k (by omega)]
  · intro k hk
    rw [updG_ne (by omega), updG_ne (by omega), updG_ne (by omega), b33]
    show _ = nI (st h n (wy h n (updG I d i) k).1 (updG I d i k))
    rw [ewy k (by omega)]
    by_cases e : k = d
    · rw [e, upd_self', updG_self]
    · rw [upd_ne' e, updG_ne e, c6 k (by omega)]
  · intro k hk
    rw [updG_ne (by omega), updG_ne (by omega), updG_ne (by omega), b34]
    by_cases e : k = d
    · rw [e, upd_self', updG_self]
    · rw [upd_ne' e, updG_ne e, c7 k (by omega)]
  · intro k hk
    rw [updG_self, e2 k hk]
  · exact FrC.trans (FrC.trans (FrC.trans (FrC.trans fr3 (FrC.J (f := 4) (by decide))) (FrC.B (f := 1) (by decide))) (FrC.B (f := 2) (by decide))) (FrC.trans (FrC.trans (FrC.J (f := 7) (by decide)) (FrC.B (f := 5) (by decide))) (FrC.J (f := 5) (by decide)))
theorem C_stepInN (hL : Lay6 iv ad) (hc : cur6 cs = true) (hsp : span6 sp = true) (h1 : J (100 * sp + 1) = nI n) (hn : n ≤ len6 (sp + 1)) (hh : B (sp + 1) = h) (C : CUR J B cs h n I d m at') (hat : at' = -1 ∨ ∃ i, i < m ∧ at' = nI i ∧ ¬ hasD (h (st h n (wD h n I d) i))) : f_X0_stepIn cy (ad cs) (ad sp) (MC cy iv ad μ0 J w B) = some (0, MC cy iv ad μ0 J w B) := by
  have S0 : SP cy (MC cy iv ad μ0 J w B) (ad sp) (ad (sp + 1)) (len6 (sp + 1)) n h (J (100 * sp + 2)) := by
    have := SP6 (cy := cy) (μ0 := μ0) (w := w) (B := B) hL hsp h1 hn
    rw [hh] at this
    exact this
  have hn5 := C.2.2.2.2.2.2.2.2.2.1.1.le
  unfold f_X0_stepIn f_X0_stepIn_L40
  rw [C_num hL hc, Option.bind_some, if_pos (C_is hL hc), C.2.1]
  rcases hat with rfl | ⟨i, hi, rfl, ht⟩
  · rw [C_startNeg hL hc, ob2_some, if_pos (s_is S0), show (0 : Int32) = nI 0 from rfl, s_at S0 (by omega), ob2_some, if_pos (C_is hL hc), C_atEl hL hc C, ob2_some, if_pos rfl, if_pos (show (0 : Int32) = nI 0 from rfl)]
  · obtain ⟨hE, hlt, hn24⟩ := C.el hi
    have := hE.le
    rw [C_startOf hL hc C (by omega), ob2_some, if_pos (s_is S0), s_at S0 (by omega), ob2_some, if_pos (C_is hL hc), C_atEl hL hc C, ob2_some, if_neg (nI_m1 (by have := C.2.2.2.2.2.2.2.2.1; omega)), if_neg (show ¬ (1 : Int32) = 0 by decide), p_hasDocumentN ht, ob2_some, if_pos rfl]
theorem C_stepOut (hL : Lay6 iv ad) (hc : cur6 cs = true) (hsp : span6 sp = true) (h1 : J (100 * sp + 1) = nI n) (hn : n ≤ len6 (sp + 1)) (hh : B (sp + 1) = h) (C : CUR J B cs h n I (d + 1) m at') : ∃ J' B' m', f_X0_stepOut cy (ad cs) (ad sp) (MC cy iv ad μ0 J w B) = some (1, MC cy iv ad μ0 J' w B') ∧ CUR J' B' cs h n I d m' (nI (I d)) ∧ I d < m' ∧ FrC cs J J' B B' := by
  have ca := cur_arr hc
  have ne := csp_ne hc hsp
  have hd := C.lvl
  obtain ⟨c1, c2, c3, c4, c5, c6, c7, c8, c9, c10, r, c11⟩ := C
  obtain ⟨hd23, m', r', hm', hD'⟩ := c10.dc d (by omega)
  obtain ⟨m2, r2, hD2, hi2, -⟩ := c10.2.2 d (by omega)
  have em := (hD2.uniq hD' c10.2.1).2
  unfold f_X0_stepOut
  rw [C_lvl hL hc, Option.bind_some, c1, if_pos (show (1 : Int32) ≤ nI (d + 1) from nI_le (a := 1) (by omega) (by omega)), Option.bind_some, show (1 : Int32) = nI 1 by decide +kernel, nI_sub' (by omega), Nat.add_sub_cancel, c_putC hL hc 4 (Or.inl rfl), Option.bind_some, C_r3 hL hc, Option.bind_some, C_lvl hL hc, Option.bind_some, upd_self', C_ld hL ca.2.2.2.2.1 ca.2.2.2.2.2.2.2.2.2.1 (by omega), Option.bind_some, c7 d (by omega), c_putC hL hc 5 (Or.inr (Or.inl rfl)), Option.bind_some, if_pos (C_is hL hc)]
  obtain ⟨S', e1, e2⟩ := C_findStarts (cy := cy) (μ0 := μ0) (J := upd (upd J (100 * cs + 4) (nI d)) (100 * cs + 5) (nI (I d))) (w := w) (B := B) (n := n) (h := h) (k := d) hL hc hsp (by rw [upd_ne' (by omega), upd_ne' (by omega), h1]) hn hh hD' hm' (by rw [upd_ne' (by omega), upd_self']) (by omega) (c4 d (by omega))
  rw [e1, Option.bind_some]
  refine ⟨_, _, m', rfl, ⟨?_, ?_, upd_self', ?_, ?_, ?_, ?_, ?_, hm', c10.sub (by omega), r', hD'⟩, by omega, ?_⟩
  · rw [upd_ne' (by omega), upd_ne' (by omega), upd_self']
  · rw [upd_ne' (by omega), upd_self']
  · intro k hk; rw [updG_ne (by omega), c4 k (by omega)]
  · intro k hk; rw [updG_ne (by omega), c5 k (by omega)]
  · intro k hk; rw [updG_ne (by omega), c6 k (by omega)]
  · intro k hk; rw [updG_ne (by omega), c7 k (by omega)]
  · intro k hk; rw [updG_self, e2 k hk]
  · exact FrC.trans (FrC.trans (FrC.J (f := 4) (by decide)) (FrC.J (f := 5) (by decide))) (FrC.trans (FrC.J (f := 7) (by decide)) (FrC.B (f := 5) (by decide)))
theorem C_stepOut0 (hL : Lay6 iv ad) (hc : cur6 cs = true) (C : CUR J B cs h n I 0 m at') : f_X0_stepOut cy (ad cs) (ad sp) (MC cy iv ad μ0 J w B) = some (0, MC cy iv ad μ0 J w B) := by
  unfold f_X0_stepOut
  rw [C_lvl hL hc, Option.bind_some, C.1, if_neg (by decide)]
/-- one of 24 ints goes over -/
theorem C_cp (hL : Lay6 iv ad) {j k : Nat} (hj : arr6 j = true) (hk : arr6 k = true) (hlj : len6 j = 24) (hlk : len6 k = 24) : cpA cy (MC cy iv ad μ0 J w B) (ad k) 0 (ad j) 0 24 = some (MC cy iv ad μ0 J w (updG B j (va_cpy (B k) (B j) 0 0 24))) := by
  unfold cpA
  rw [c_a hL hk, c_a hL hj, hlj, hlk]
  show (if cy 1 = cy 1 ∧ cy 1 = cy 1 ∧ ¬ (0 : Int32) < 0 ∧ ¬ (0 : Int32) < 0 ∧ ¬ (24 : Int32) < 0 ∧ (0 : Int32).toNatClampNeg + (24 : Int32).toNatClampNeg ≤ 24 ∧ (0 : Int32).toNatClampNeg + (24 : Int32).toNatClampNeg ≤ 24 then some (va_up (MC cy iv ad μ0 J w B) (ad j) (.inl (cy 1, 24, .inl (va_cpy (B k) (B j) (0 : Int32).toNatClampNeg (0 : Int32).toNatClampNeg (24 : Int32).toNatClampNeg)))) else none) = _
  rw [if_pos ⟨rfl, rfl, by decide, by decide, by decide, by decide, by decide⟩, L6_up hL (arr6_s hj).1]
  have := c6_a (cy := cy) (ad := ad) (J := J) (w := w) (B := B) (f := va_cpy (B k) (B j) 0 0 24) hj
  rw [hlj] at this
  show some (ML iv μ0 (updG (c6 cy ad J w B) j (.inl (cy 1, 24, .inl (va_cpy (B k) (B j) 0 0 24))))) = _
  rw [this]
theorem C_become (hL : Lay6 iv ad) (hc : cur6 cs = true) {c2 : Nat} (hc2 : cur6 c2 = true) (hne : c2 ≠ cs) (hsp : span6 sp = true) (h1 : J (100 * sp + 1) = nI n) (hn : n ≤ len6 (sp + 1)) (hh : B (sp + 1) = h) (C : CUR J B c2 h n I d m at') : ∃ J' B', f_X0_become cy (ad cs) (ad c2) (ad sp) (MC cy iv ad μ0 J w B) = some (MC cy iv ad μ0 J' w B') ∧ CUR J' B' cs h n I d m at' ∧ FrC cs J J' B B' := by
  have ca := cur_arr hc
  have cb := cur_arr hc2
  have ne := csp_ne hc hsp
  have nc : ∀ a b, a ≤ 5 → b ≤ 5 → c2 + a ≠ cs + b := fun a b ha hb => by
    have := cur6_c hc
    have := cur6_c hc2
    omega
  have hd := C.lvl
  obtain ⟨d1, d2, d3, d4, d5, d6, d7, d8, d9, d10, r, d11⟩ := C
  unfold f_X0_become
  rw [C_r0 hL hc2, Option.bind_some, C_r0 hL hc, Option.bind_some, C_cp hL ca.2.1 cb.2.1 ca.2.2.2.2.2.2.1 cb.2.2.2.2.2.2.1, Option.bind_some,
    C_r1 hL hc2, Option.bind_some, C_r1 hL hc, Option.bind_some, C_cp hL ca.2.2.1 cb.2.2.1 ca.2.2.2.2.2.2.2.1 cb.2.2.2.2.2.2.2.1, Option.bind_some,
    C_r2 hL hc2, Option.bind_some, C_r2 hL hc, Option.bind_some, C_cp hL ca.2.2.2.1 cb.2.2.2.1 ca.2.2.2.2.2.2.2.2.1 cb.2.2.2.2.2.2.2.2.1, Option.bind_some,
    C_r3 hL hc2, Option.bind_some, C_r3 hL hc, Option.bind_some, C_cp hL ca.2.2.2.2.1 cb.2.2.2.2.1 ca.2.2.2.2.2.2.2.2.2.1 cb.2.2.2.2.2.2.2.2.2.1, Option.bind_some,
    C_lvl hL hc2, Option.bind_some, c_putC hL hc 4 (Or.inl rfl), Option.bind_some, C_num hL hc2, Option.bind_some, upd_ne' (show 100 * c2 + 5 ≠ 100 * cs + 4 by omega), c_putC hL hc 5 (Or.inr (Or.inl rfl)), Option.bind_some, if_pos (C_is hL hc), d1, d2]
  generalize hB4 : updG (updG (updG (updG B (cs + 1) _) (cs + 2) _) (cs + 3) _) (cs + 4) _ = B4
  have cin : ∀ (f g : Nat → Int32) k, k < 24 → va_cpy f g 0 0 24 k = f k := fun f g k hk => sb_cpy0 hk
  have b41 : ∀ k, k < 24 → B4 (cs + 1) k = B (c2 + 1) k := fun k hk => by rw [← hB4, updG_ne (by omega), updG_ne (by omega), updG_ne (by omega), updG_self, cin _ _ k hk]
  have b42 : ∀ k, k < 24 → B4 (cs + 2) k = B (c2 + 2) k := fun k hk => by rw [← hB4, updG_ne (by omega), updG_ne (by omega), updG_self, cin _ _ k hk, updG_ne (nc 2 1 (by decide) (by decide))]
  have b43 : ∀ k, k < 24 → B4 (cs + 3) k = B (c2 + 3) k := fun k hk => by rw [← hB4, updG_ne (by omega), updG_self, cin _ _ k hk, updG_ne (nc 3 2 (by decide) (by decide)), updG_ne (nc 3 1 (by decide) (by decide))]
  have b44 : ∀ k, k < 24 → B4 (cs + 4) k = B (c2 + 4) k := fun k hk => by rw [← hB4, updG_self, cin _ _ k hk, updG_ne (nc 4 3 (by decide) (by decide)), updG_ne (nc 4 2 (by decide) (by decide)), updG_ne (nc 4 1 (by decide) (by decide))]
  have b4s : B4 (sp + 1) = h := by rw [← hB4, updG_ne (by omega), updG_ne (by omega), updG_ne (by omega), updG_ne (by omega), hh]
  have fr4 : FrC cs J J B B4 := by
    rw [← hB4]
    exact FrC.trans (FrC.trans (FrC.trans (FrC.B (f := 1) (by decide)) (FrC.B (f := 2) (by decide))) (FrC.B (f := 3) (by decide))) (FrC.B (f := 4) (by decide))
  obtain ⟨S', e1, e2⟩ := C_findStarts (cy := cy) (μ0 := μ0) (J := upd (upd J (100 * cs + 4) (nI d)) (100 * cs + 5) at') (w := w) (B := B4) (n := n) (h := h) (k := d) hL hc hsp (by rw [upd_ne' (by omega), upd_ne' (by omega), h1]) hn b4s d11 d9 (by rw [upd_ne' (by omega), upd_self']) (by omega) (by rw [b41 d hd, d4 d (Nat.le_refl _)])
  rw [e1, Option.bind_some]
  refine ⟨_, _, rfl, ⟨?_, ?_, upd_self', ?_, ?_, ?_, ?_, ?_, d9, d10, r, d11⟩, ?_⟩
  · rw [upd_ne' (by omega), upd_ne' (by omega), upd_self']
  · rw [upd_ne' (by omega), upd_self']
  · intro k hk; rw [updG_ne (by omega), b41 k (by omega), d4 k hk]
  · intro k hk; rw [updG_ne (by omega), b42 k (by omega), d5 k hk]
  · intro k hk; rw [updG_ne (by omega), b43 k (by omega), d6 k hk]
  · intro k hk; rw [updG_ne (by omega), b44 k (by omega), d7 k hk]
  · intro k hk; rw [updG_self, e2 k hk]
  · exact FrC.trans (FrC.trans (FrC.trans fr4 (FrC.J (f := 4) (by decide))) (FrC.J (f := 5) (by decide))) (FrC.trans (FrC.J (f := 7) (by decide)) (FrC.B (f := 5) (by decide)))
end CC2
