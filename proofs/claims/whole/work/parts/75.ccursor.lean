/-! WAYS inward, and the class's cursor. -/
/-- the DOCUMENT on the way I at level k: its place, the TYPE of the ELEMENT around it (0: the ROOT) -/
def wy (h : Nat → Int32) (n : Nat) (I : Nat → Nat) : Nat → Nat × Int32
  | 0 => (0, 0)
  | k + 1 => (dcIn h (h (st h n (wy h n I k).1 (I k))) (vpl h n (st h n (wy h n I k).1 (I k))), h (st h n (wy h n I k).1 (I k)))
abbrev wD (h : Nat → Int32) (n : Nat) (I : Nat → Nat) (k : Nat) : Nat := (wy h n I k).1
abbrev wT (h : Nat → Int32) (n : Nat) (I : Nat → Nat) (k : Nat) : Int32 := (wy h n I k).2
/-- a good way of d steps in a good DOCUMENT -/
def WV (h : Nat → Int32) (n : Nat) (I : Nat → Nat) (d : Nat) : Prop := dOk h 24 0 n false ∧ n ≤ 2400 ∧ ∀ k, k < d → ∃ m r, DC h n (23 - k) (wD h n I k) r (wT h n I k == 4) m ∧ I k < m ∧ hasD (h (st h n (wD h n I k) (I k)))
section CW
variable {h : Nat → Int32} {n : Nat} {I : Nat → Nat} {d : Nat}
theorem WV.dc (W : WV h n I d) : ∀ k, k ≤ d → k ≤ 23 ∧ ∃ m r, m < 1200 ∧ DC h n (23 - k) (wD h n I k) r (wT h n I k == 4) m
  | 0, _ => by
    obtain ⟨e', m, he, hm, hD⟩ := W.1.s (Nat.le_refl n) W.2.1
    have : e' = 23 := by omega
    subst this
    exact ⟨by omega, m, n, hm, hD⟩
  | k + 1, hk => by
    obtain ⟨m, r, hD, hi, ht⟩ := W.2.2 k (by omega)
    have hE := hD.2.2.2.2.2 (I k) hi
    have le := hD.le' (i := I k + 1) (by omega)
    have hs := hE.s (n := n) (by have := hD.2.1; omega)
    obtain ⟨hd, -⟩ := hs.2.2.2.2.1.doc ht
    obtain ⟨e', m', he, hm', hD'⟩ := hd.s (by have := hD.2.1; omega) W.2.1
    have e1 : e' = 23 - (k + 1) := by omega
    subst e1
    exact ⟨by omega, m', _, hm', hD'⟩
theorem WV.sub (W : WV h n I d) {k : Nat} (hk : k ≤ d) : WV h n I k := ⟨W.1, W.2.1, fun i hi => W.2.2 i (by omega)⟩
theorem wy_congr {I' : Nat → Nat} : ∀ k, (∀ i, i < k → I' i = I i) → wy h n I' k = wy h n I k
  | 0, _ => rfl
  | k + 1, hI => by
    show (dcIn h (h (st h n (wy h n I' k).1 (I' k))) (vpl h n (st h n (wy h n I' k).1 (I' k))), h (st h n (wy h n I' k).1 (I' k))) = _
    rw [wy_congr k (fun i hi => hI i (by omega)), hI k (by omega)]
    rfl
theorem WV.congr (W : WV h n I d) {I' : Nat → Nat} (hI : ∀ i, i < d → I' i = I i) : WV h n I' d := ⟨W.1, W.2.1, fun k hk => by
  obtain ⟨m, r, h1, h2, h3⟩ := W.2.2 k hk
  refine ⟨m, r, ?_, ?_, ?_⟩
  · show DC h n (23 - k) (wy h n I' k).1 r ((wy h n I' k).2 == 4) m
    rw [wy_congr k (fun i hi => hI i (by omega))]
    exact h1
  · rw [hI k hk]; exact h2
  · show hasD (h (st h n (wy h n I' k).1 (I' k)))
    rw [wy_congr k (fun i hi => hI i (by omega)), hI k hk]
    exact h3⟩
/-- one step further in -/
theorem WV.step (W : WV h n I d) {m r i : Nat} (hD : DC h n (23 - d) (wD h n I d) r (wT h n I d == 4) m) (hi : i < m) (ht : hasD (h (st h n (wD h n I d) i))) : WV h n (updG I d i) (d + 1) := by
  have hc : ∀ k, k ≤ d → wy h n (updG I d i) k = wy h n I k := fun k hk => wy_congr k (fun j hj => updG_ne (by omega))
  refine ⟨W.1, W.2.1, fun k hk => ?_⟩
  by_cases e : k = d
  · subst e
    refine ⟨m, r, ?_, ?_, ?_⟩
    · show DC h n (23 - k) (wy h n (updG I k i) k).1 r ((wy h n (updG I k i) k).2 == 4) m
      rw [hc k (Nat.le_refl _)]
      exact hD
    · rw [updG_self]; exact hi
    · show hasD (h (st h n (wy h n (updG I k i) k).1 (updG I k i k)))
      rw [hc k (Nat.le_refl _), updG_self]
      exact ht
  · obtain ⟨m', r', g1, g2, g3⟩ := W.2.2 k (by omega)
    refine ⟨m', r', ?_, ?_, ?_⟩
    · show DC h n (23 - k) (wy h n (updG I d i) k).1 r' ((wy h n (updG I d i) k).2 == 4) m'
      rw [hc k (by omega)]
      exact g1
    · rw [updG_ne (by omega)]; exact g2
    · show hasD (h (st h n (wy h n (updG I d i) k).1 (updG I d i k)))
      rw [hc k (by omega), updG_ne (by omega)]
      exact g3
end CW
theorem cur_arr {cs : Nat} (h : cur6 cs = true) : slot6 cs = true ∧ arr6 (cs + 1) = true ∧ arr6 (cs + 2) = true ∧ arr6 (cs + 3) = true ∧ arr6 (cs + 4) = true ∧ arr6 (cs + 5) = true ∧ len6 (cs + 1) = 24 ∧ len6 (cs + 2) = 24 ∧ len6 (cs + 3) = 24 ∧ len6 (cs + 4) = 24 ∧ len6 (cs + 5) = 1201 := by
  rcases cur6_c h with rfl | rfl | rfl | rfl | rfl <;> exact ⟨rfl, rfl, rfl, rfl, rfl, rfl, rfl, rfl, rfl, rfl, rfl⟩
section CC1
variable {cy : Nat → ClassId} {iv : Nat → Option Nat} {ad : Nat → Nat} {μ0 : Mem} {J : Nat → Int32} {w : Nat} {B : Nat → Nat → Int32} {cs sp n : Nat} {h : Nat → Int32} {I : Nat → Nat} {d m : Nat} {at' : Int32}
theorem C_is (hL : Lay6 iv ad) (hc : cur6 cs = true) : isO (MC cy iv ad μ0 J w B) (ad cs) 0 = true := isO_mk (c_c hL hc)
theorem C_lvl (hL : Lay6 iv ad) (hc : cur6 cs = true) : rdI (MC cy iv ad μ0 J w B) (ad cs) 0 4 = some (J (100 * cs + 4)) := rdI_mk (c_c hL hc) rfl
theorem C_num (hL : Lay6 iv ad) (hc : cur6 cs = true) : rdI (MC cy iv ad μ0 J w B) (ad cs) 0 5 = some (J (100 * cs + 5)) := rdI_mk (c_c hL hc) rfl
theorem C_cnt (hL : Lay6 iv ad) (hc : cur6 cs = true) : rdI (MC cy iv ad μ0 J w B) (ad cs) 0 7 = some (J (100 * cs + 7)) := rdI_mk (c_c hL hc) rfl
theorem C_r0 (hL : Lay6 iv ad) (hc : cur6 cs = true) : rdR (MC cy iv ad μ0 J w B) (ad cs) 0 0 = some (ad (cs + 1)) := rdR_mk (c_c hL hc) rfl
theorem C_r1 (hL : Lay6 iv ad) (hc : cur6 cs = true) : rdR (MC cy iv ad μ0 J w B) (ad cs) 0 1 = some (ad (cs + 2)) := rdR_mk (c_c hL hc) rfl
theorem C_r2 (hL : Lay6 iv ad) (hc : cur6 cs = true) : rdR (MC cy iv ad μ0 J w B) (ad cs) 0 2 = some (ad (cs + 3)) := rdR_mk (c_c hL hc) rfl
theorem C_r3 (hL : Lay6 iv ad) (hc : cur6 cs = true) : rdR (MC cy iv ad μ0 J w B) (ad cs) 0 3 = some (ad (cs + 4)) := rdR_mk (c_c hL hc) rfl
theorem C_r6 (hL : Lay6 iv ad) (hc : cur6 cs = true) : rdR (MC cy iv ad μ0 J w B) (ad cs) 0 6 = some (ad (cs + 5)) := rdR_mk (c_c hL hc) rfl
theorem C_ld (hL : Lay6 iv ad) {j i N : Nat} (hj : arr6 j = true) (hN : len6 j = N) (hi : i < N) : rdA cy (MC cy iv ad μ0 J w B) 1 (ad j) (nI i) = some (B j i) := c_ld hL j hj (by rw [hN]; exact hi)
theorem C_st (hL : Lay6 iv ad) {j i N : Nat} (hj : arr6 j = true) (hN : len6 j = N) (hi : i < N) (x : Int32) : wrA cy (MC cy iv ad μ0 J w B) 1 (ad j) (nI i) x = some (MC cy iv ad μ0 J w (updG B j (upd (B j) i x))) := c_st hL j hj (by rw [hN]; exact hi) x
/-- the cursor cs in the bytes h of n: level d on the way I, m ELEMENTS, its number at' -/
def CUR (J : Nat → Int32) (B : Nat → Nat → Int32) (cs : Nat) (h : Nat → Int32) (n : Nat) (I : Nat → Nat) (d m : Nat) (at' : Int32) : Prop :=
  J (100 * cs + 4) = nI d ∧ J (100 * cs + 5) = at' ∧ J (100 * cs + 7) = nI m ∧ (∀ k, k ≤ d → B (cs + 1) k = nI (wD h n I k)) ∧ (∀ k, k ≤ d → B (cs + 2) k = wT h n I k) ∧ (∀ k, k < d → B (cs + 3) k = nI (st h n (wD h n I k) (I k))) ∧ (∀ k, k < d → B (cs + 4) k = nI (I k)) ∧ (∀ i, i ≤ m → B (cs + 5) i = nI (st h n (wD h n I d) i)) ∧ m < 1200 ∧ WV h n I d ∧ ∃ r, DC h n (23 - d) (wD h n I d) r (wT h n I d == 4) m
theorem C_fsL (hL : Lay6 iv ad) (hc : cur6 cs = true) (hsp : span6 sp = true) (h1 : J (100 * sp + 1) = nI n) (hn : n ≤ len6 (sp + 1)) (hh : B (sp + 1) = h) {e D r : Nat} {row : Bool} (hD : DC h n e D r row m) (hm : m < 1200) : ∀ (q i f : Nat) (S : Nat → Int32), i + q = m → q < f → (∀ k, k < i → S k = nI (st h n D k)) → ∃ S', f_X0_findStarts_L31 cy f (ad cs) (ad sp) (nI (r - 1)) (nI (st h n D i)) (nI i) (MC cy iv ad μ0 (upd J (100 * cs + 7) (nI i)) w (updG B (cs + 5) S)) = some (MC cy iv ad μ0 (upd J (100 * cs + 7) (nI m)) w (updG B (cs + 5) S')) ∧ ∀ k, k ≤ m → S' k = nI (st h n D k)
  | q, i, 0, S, _, hf, _ => by omega
  | 0, i, f + 1, S, hi, hf, hS => by
    have ca := cur_arr hc
    have hi' : i = m := by omega
    subst hi'
    have l := hD.le' (Nat.le_refl i)
    have hr := hD.2.1
    have ha := (span_arr hsp).2.2
    rw [f_X0_findStarts_L31, if_neg (show ¬ (1200 : Int32) ≤ nI i from nI_ge (b := 1200) hm (by decide)), hD.2.2.2.2.1, if_pos (nI_le (Nat.le_refl _) (by omega))]
    unfold f_X0_findStarts_L85
    rw [C_r6 hL hc, Option.bind_some, C_cnt hL hc, Option.bind_some, upd_self', C_st hL ca.2.2.2.2.2.1 ca.2.2.2.2.2.2.2.2.2.2 (by omega), Option.bind_some, updG_self, updG_updG]
    refine ⟨_, rfl, fun k hk => ?_⟩
    by_cases e : k = i
    · rw [e, upd_self', hD.2.2.2.2.1]
    · rw [upd_ne' e, hS k (by omega)]
  | q + 1, i, f + 1, S, hi, hf, hS => by
    have ca := cur_arr hc
    have hr := hD.2.1
    have ha := (span_arr hsp).2.2
    have hE := hD.2.2.2.2.2 i (by omega)
    have l := hD.le' (i := i) (by omega)
    have l1 := hD.le' (i := i + 1) (by omega)
    have llt := hD.lt (i := i) (k := m) (by omega) (Nat.le_refl _)
    rw [hD.2.2.2.2.1] at llt
    have hs := hE.s (n := n) (by omega)
    have nsp : ∀ (x : Nat → Int32), updG B (cs + 5) x (sp + 1) = h := fun x => by
      rw [updG_ne (by rcases span6_c hsp with rfl | rfl | rfl | rfl | rfl | rfl | rfl | rfl | rfl <;> rcases cur6_c hc with rfl | rfl | rfl | rfl | rfl <;> decide), hh]
    have S1 : ∀ (x : Int32) (y : Nat → Int32), SP cy (MC cy iv ad μ0 (upd J (100 * cs + 7) x) w (updG B (cs + 5) y)) (ad sp) (ad (sp + 1)) (len6 (sp + 1)) n h (upd J (100 * cs + 7) x (100 * sp + 2)) := fun x y => by
      have := SP6 (cy := cy) (μ0 := μ0) (J := upd J (100 * cs + 7) x) (w := w) (B := updG B (cs + 5) y) (n := n) hL hsp (by rw [upd_ne' (by omega), h1]) hn
      rw [nsp] at this
      exact this
    rw [f_X0_findStarts_L31, if_neg (show ¬ (1200 : Int32) ≤ nI i from nI_ge (b := 1200) (by omega) (by decide)), if_neg (nI_ge (by omega) (by omega)), C_r6 hL hc, Option.bind_some, C_st hL ca.2.2.2.2.2.1 ca.2.2.2.2.2.2.2.2.2.2 (by omega), Option.bind_some, updG_self, updG_updG, C_cnt hL hc, Option.bind_some, upd_self', nI_a1, c_putC hL hc 7 (Or.inr (Or.inr rfl)), Option.bind_some, upd_upd,
      if_pos (s_is (S1 _ _)), s_at (S1 _ _) (by omega), ob2_some, if_pos (s_is (S1 _ _)), nI_a1, s_behindName (S1 _ _) (by omega), ob2_some, show bn h n (st h n D i + 1) = vpl h n (st h n D i) from rfl, p_behindValue (S1 _ _) hs.2.2.2.2.1 (by omega), ob2_some]
    exact C_fsL hL hc hsp h1 hn hh hD hm q (i + 1) f _ (by omega) (by omega) (fun k hk => by
      by_cases e : k = i
      · rw [e, upd_self']
      · rw [upd_ne' e, hS k (by omega)])
theorem C_document (hL : Lay6 iv ad) (hc : cur6 cs = true) {k : Nat} (hk : J (100 * cs + 4) = nI k) (hk2 : k < 24) : f_X0_document cy (ad cs) (MC cy iv ad μ0 J w B) = some (B (cs + 1) k, MC cy iv ad μ0 J w B) := by
  have ca := cur_arr hc
  unfold f_X0_document
  rw [C_r0 hL hc, Option.bind_some, C_lvl hL hc, Option.bind_some, hk, C_ld hL ca.2.1 ca.2.2.2.2.2.2.1 hk2, Option.bind_some]
theorem C_documentType (hL : Lay6 iv ad) (hc : cur6 cs = true) {k : Nat} (hk : J (100 * cs + 4) = nI k) (hk2 : k < 24) : f_X0_documentType cy (ad cs) (MC cy iv ad μ0 J w B) = some (B (cs + 2) k, MC cy iv ad μ0 J w B) := by
  have ca := cur_arr hc
  unfold f_X0_documentType
  rw [C_r1 hL hc, Option.bind_some, C_lvl hL hc, Option.bind_some, hk, C_ld hL ca.2.2.1 ca.2.2.2.2.2.2.2.1 hk2, Option.bind_some]
theorem C_findStarts (hL : Lay6 iv ad) (hc : cur6 cs = true) (hsp : span6 sp = true) (h1 : J (100 * sp + 1) = nI n) (hn : n ≤ len6 (sp + 1)) (hh : B (sp + 1) = h) {e D r k : Nat} {row : Bool} (hD : DC h n e D r row m) (hm : m < 1200) (hk : J (100 * cs + 4) = nI k) (hk2 : k < 24) (hp : B (cs + 1) k = nI D) : ∃ S', f_X0_findStarts cy (ad cs) (ad sp) (MC cy iv ad μ0 J w B) = some (MC cy iv ad μ0 (upd J (100 * cs + 7) (nI m)) w (updG B (cs + 5) S')) ∧ ∀ k, k ≤ m → S' k = nI (st h n D k) := by
  have hr := hD.2.1
  have hl := hD.1
  have ha := (span_arr hsp).2.2
  unfold f_X0_findStarts
  rw [if_pos (C_is hL hc), C_document hL hc hk hk2, ob2_some, if_pos (C_is hL hc), C_document hL hc hk hk2, ob2_some, if_pos (P_is hL hsp), hp, P_intAt hL hsp h1 hn (by omega), ob2_some, if_pos (C_is hL hc), C_document hL hc hk hk2, ob2_some, c_putC hL hc 7 (Or.inr (Or.inr rfl)), Option.bind_some, hh, hD.2.2.1, nI_p, show D + (r - D) = r by omega, show (1 : Int32) = nI 1 by decide +kernel, nI_sub' (show 1 ≤ r by omega), hp, nI_a4]
  have := C_fsL (cy := cy) (μ0 := μ0) (w := w) hL hc hsp h1 hn hh hD hm m 0 FU (B (cs + 5)) (by omega) (by show m < 100000; omega) (fun k hk => by omega)
  rw [updG_id] at this
  exact this
theorem C_toNum (hL : Lay6 iv ad) (hc : cur6 cs = true) (hm : J (100 * cs + 7) = nI m) (x : Int32) : f_X0_toNumberOrLast cy (ad cs) x (MC cy iv ad μ0 J w B) = some (MC cy iv ad μ0 (upd J (100 * cs + 5) (if nI m - 1 < x then nI m - 1 else x)) w B) := by
  unfold f_X0_toNumberOrLast
  rw [C_cnt hL hc, Option.bind_some, hm, c_putC hL hc 5 (Or.inr (Or.inl rfl)), Option.bind_some]
end CC1
