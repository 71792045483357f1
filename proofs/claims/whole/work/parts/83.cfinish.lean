/-! THE CLASS'S SHELF: a VALUE drafted, the draft finished. -/
theorem ED.stE {bs : Nat → Nat} {n : Nat} {I : Nat → Nat} {d : Nat} {M : List Nat} {nb : Nat → Nat} {n' : Nat} (E : ED bs n I d M nb n') (W : WV (hb bs) n I d) (hn' : n' ≤ 2400) {m' : Nat} {P : Nat → List Nat} (hM : M = cat P m') (hP : ∀ i, i < m' → eOk (hl (P i)) (23 - d) 0 (P i).length (rwo (wT (hb bs) n I d == 4) i)) : ∀ k, k < d → st (hb nb) n' (wD (hb bs) n I k) (I k) = st (hb bs) n (wD (hb bs) n I k) (I k) := fun k hk => by
  have := E.lev W hn' hM hP (d - (k + 1)) (by omega)
  rw [show d - (d - (k + 1)) = k + 1 by omega, show 24 - (k + 1) = 23 - k by omega] at this
  obtain ⟨m, -, -, -, hst, -⟩ := E.out W hn' hk this
  exact hst (I k) (Nat.le_refl _)
theorem ED.congr {bs : Nat → Nat} {n : Nat} {I : Nat → Nat} {d : Nat} {M : List Nat} {nb nb2 : Nat → Nat} {n' : Nat} (W : WV (hb bs) n I d) (E : ED bs n I d M nb n') (h : ∀ j, j < n' → nb2 j = nb j) : ED bs n I d M nb2 n' := by
  obtain ⟨mL, hmL, hDL⟩ := W.r (Nat.le_refl d)
  have hL1 := hDL.1
  have hL2 := hDL.2.1
  have e1 := E.1
  refine ⟨E.1, fun k hk i hi => ?_, fun k hk h15 i hi => ?_, fun j hj hf => ?_, fun i hi => ?_, fun j a1 a2 => ?_⟩
  · have up := W.up (i := k) (k := d) hk (Nat.le_refl _)
    rw [h _ (by omega), E.2.1 k hk i hi]
  · have up := W.up (i := k + 1) (k := d) hk (Nat.le_refl _)
    have o := (W.ord hk).2.2.2.1 h15
    have eV : wV (hb bs) n I k = vpl (hb bs) n (st (hb bs) n (wD (hb bs) n I k) (I k)) := rfl
    rw [h _ (by omega), E.2.2.1 k hk h15 i hi]
  · rw [h _ (by omega), E.2.2.2.1 j hj hf]
  · rw [h _ (by omega), E.2.2.2.2.1 i hi]
  · rw [h _ (by omega), E.2.2.2.2.2 j a1 a2]
/-- the first place at which the old bytes and the new ones differ -/
def fdS (bs : Nat → Nat) (n : Nat) (nb : Nat → Nat) (n' p : Nat) : Int32 := match fdf (hb bs) (hb nb) p (min n n' - p) with
  | some q => nI q
  | none => if n = n' then -1 else nI (min n n')
theorem fdf_congr {h h1 h2 : Nat → Int32} : ∀ {k p : Nat}, (∀ j, p ≤ j → j < p + k → h1 j = h2 j) → fdf h h1 p k = fdf h h2 p k
  | 0, _, _ => rfl
  | k + 1, p, hh => by
    unfold fdf
    rw [hh p (Nat.le_refl _) (by omega), fdf_congr (fun j a1 a2 => hh j (by omega) (by omega))]
/-- the number that the cursor gets: the wish, or the last one's -/
def numL (m : Nat) (x : Int32) : Int32 := if nI m - 1 < x then nI m - 1 else x
section CH3
variable {cy : Nat → ClassId} {iv : Nat → Option Nat} {ad : Nat → Nat} {μ0 : Mem} {J : Nat → Int32} {w : Nat} {B : Nat → Nat → Int32} {fs n : Nat} {bs : Nat → Nat} {I : Nat → Nat} {d m : Nat} {at' : Int32} {M : List Nat} {D4 : Nat} {μ : Mem}
/-- new ELEMENT i: its TYPE t, its NAME as it was, the VALUE vs .. ve - 1 of bv' -/
def pcV (bs : Nat → Nat) (n D : Nat) (row : Bool) (i t : Nat) (bv' : Nat → Nat) (vs ve : Nat) : List Nat := [t] ++ (if row then rnl i else sl bs (st (hb bs) n D i + 1) (vpl (hb bs) n (st (hb bs) n D i))) ++ sl bv' vs ve
theorem F_elementPlace (hL : Lay6 iv ad) (hf : shf6 fs = true) (S : SH J B fs bs n I d m at') {i : Nat} (hi : i < m) (hat : at' = nI i) : f_X4_elementPlace cy (ad fs) (MC cy iv ad μ0 J w B) = some (nI (st (hb bs) n (wD (hb bs) n I d) i), MC cy iv ad μ0 J w B) := by
  have a := shf_sp hf
  have C := S.2.2.2.2
  unfold f_X4_elementPlace
  rw [F_r1 hL hf, Option.bind_some, Option.bind_some, C_num hL a.2.1, Option.bind_some, if_pos (C_is hL a.2.1), C.2.1, hat, C_startOf hL a.2.1 C (by omega), ob2_some]
theorem F_valueEnd (hL : Lay6 iv ad) (hf : shf6 fs = true) (S : SH J B fs bs n I d m at') {i : Nat} (hi : i < m) (hat : at' = nI i) : f_X4_valueEnd cy (ad fs) (MC cy iv ad μ0 J w B) = some (nI (st (hb bs) n (wD (hb bs) n I d) (i + 1)), MC cy iv ad μ0 J w B) := by
  have a := shf_sp hf
  have C := S.2.2.2.2
  unfold f_X4_valueEnd
  rw [F_r1 hL hf, Option.bind_some, Option.bind_some, C_num hL a.2.1, Option.bind_some, if_pos (C_is hL a.2.1), C.2.1, hat, nI_a1, C_startOf hL a.2.1 C (by omega), ob2_some]
theorem F_elementType (hL : Lay6 iv ad) (hf : shf6 fs = true) (S : SH J B fs bs n I d m at') {i : Nat} (hi : i < m) (hat : at' = nI i) : f_X4_elementType cy (ad fs) (MC cy iv ad μ0 J w B) = some (hb bs (st (hb bs) n (wD (hb bs) n I d) i), MC cy iv ad μ0 J w B) := by
  have SS := S.sp (cy := cy) (μ0 := μ0) (w := w) hL hf
  obtain ⟨hE, hlt, hn24⟩ := S.2.2.2.2.el hi
  have := hE.le
  unfold f_X4_elementType
  rw [F_r0 hL hf, Option.bind_some, if_pos (F_is hL hf), F_elementPlace hL hf S hi hat, ob2_some, if_pos (s_is SS), s_at SS (by omega), ob2_some]
theorem F_valuePlace (hL : Lay6 iv ad) (hf : shf6 fs = true) (S : SH J B fs bs n I d m at') {i : Nat} (hi : i < m) (hat : at' = nI i) : f_X4_valuePlace cy (ad fs) (MC cy iv ad μ0 J w B) = some (nI (vpl (hb bs) n (st (hb bs) n (wD (hb bs) n I d) i)), MC cy iv ad μ0 J w B) := by
  have SS := S.sp (cy := cy) (μ0 := μ0) (w := w) hL hf
  obtain ⟨hE, hlt, hn24⟩ := S.2.2.2.2.el hi
  have := hE.le
  unfold f_X4_valuePlace
  rw [F_r0 hL hf, Option.bind_some, if_pos (F_is hL hf), F_elementPlace hL hf S hi hat, ob2_some, if_pos (s_is SS), nI_a1, s_behindName SS (by omega), ob2_some]
  rfl
theorem F_draftValue (hL : Lay6 iv ad) (hf : shf6 fs = true) (S : SH J B fs bs n I d m at') (R : DRF J B) {i : Nat} (hi : i < m) (hat : at' = nI i) {t : Int32} {kv nv vs ve : Nat} {bv' : Nat → Nat} (hkv : span6 kv = true ∧ kv ≠ 34 ∧ J (100 * kv + 1) = nI nv ∧ B (kv + 1) = hb bv' ∧ bB bv' ∧ nv ≤ len6 (kv + 1)) (hve : vs ≤ ve ∧ ve ≤ nv) :
    ∃ μ', f_X4_draftValue cy (ad fs) t (ad kv) (nI vs) (nI ve) (MC cy iv ad μ0 J w B) = some μ' ∧ DG cy iv ad μ0 (upd J (100 * fs + 3) (nI m)) w B bs (wD (hb bs) n I d + 4) (cat (fun x => if x = i then pcV bs n (wD (hb bs) n I d) (wT (hb bs) n I d == 4) i (b8 t) bv' vs ve else pce bs n (wD (hb bs) n I d) (wT (hb bs) n I d == 4) x x) m) μ' := by
  have a := shf_sp hf
  have hm := S.2.2.2.2.2.2.2.2.2.2.2.2.1
  obtain ⟨k1, k2, k3, k4, k5, k6⟩ := hkv
  obtain ⟨hE, hlt, hn24⟩ := S.2.2.2.2.el hi
  obtain ⟨s1, s2, s3, s4, s5, s6⟩ := hE.s (n := n) (by omega)
  unfold f_X4_draftValue
  obtain ⟨μ1, e1, G1⟩ := F_startDraft (cy := cy) (μ0 := μ0) (w := w) hL hf S R
  have S0 := S.up hf (x := 0)
  obtain ⟨μ2, e2, G2⟩ := F_keep (i := 0) (j := i) (dr := 0) hL hf S0 G1 (Nat.zero_le _) (by omega) upd_self' (by decide)
  rw [upd_upd, Nat.zero_add, Nat.sub_zero] at G2
  have S2 := S.up hf (x := nI i)
  obtain ⟨μ3, e3, G3⟩ := F_addElement (t := t) (np := st (hb bs) n (wD (hb bs) n I d) i + 1) (ne := vpl (hb bs) n (st (hb bs) n (wD (hb bs) n I d) i)) (kn := sS fs) (nn := n) (bn' := bs) (kv := kv) (nv := nv) (bv' := bv') (vs := vs) (ve := ve) (dr := i) hL hf S2 G2 upd_self' (by omega) ⟨a.1, by omega, by rw [upd_ne' (by omega)]; exact S.1, S.2.1, S.2.2.1, by rw [a.2.2.1]; exact S.2.2.2.1⟩ (fun _ => ⟨by omega, by omega, rfl⟩) ⟨k1, k2, by rw [upd_ne' (by rcases span6_c k1 with h | h | h | h | h | h | h | h | h <;> omega)]; exact k3, k4, k5, k6⟩ hve
  rw [upd_upd] at G3
  have S3 := S.up hf (x := nI (i + 1))
  obtain ⟨μ4, e4, G4⟩ := F_keep (i := i + 1) (j := m) (dr := i + 1) hL hf S3 G3 (by omega) (Nat.le_refl _) upd_self' (by omega)
  rw [upd_upd, show i + 1 + (m - (i + 1)) = m by omega] at G4
  refine ⟨μ4, ?_, ?_⟩
  · obtain ⟨J1, B1, f1, T1, -, -⟩ := S0.dg hf G1
    obtain ⟨J2, B2, f2, T2, -, -⟩ := S2.dg hf G2
    obtain ⟨J3, B3, f3, T3, -, -⟩ := S3.dg hf G3
    rw [if_pos (F_is hL hf), e1, Option.bind_some]
    rw [f1] at e2 ⊢
    have e2' : f_X4_keepElements cy (ad fs) 0 (nI i) (MC cy iv ad μ0 J1 w B1) = some μ2 := e2
    rw [F_r1 hL hf, Option.bind_some, C_num hL a.2.1, Option.bind_some, if_pos (F_is hL hf), T1.2.2.2.2.2.1, hat, e2', Option.bind_some]
    rw [f2] at e3 ⊢
    rw [F_r0 hL hf, Option.bind_some, if_pos (F_is hL hf), F_elementPlace hL hf T2 hi hat, ob2_some, if_pos (F_is hL hf), nI_a1, e3, Option.bind_some]
    rw [f3] at e4 ⊢
    rw [F_r1 hL hf, Option.bind_some, C_num hL a.2.1, Option.bind_some, Option.bind_some, C_cnt hL a.2.1, Option.bind_some, if_pos (F_is hL hf), T3.2.2.2.2.2.1, T3.2.2.2.2.2.2.1, hat, nI_a1, e4, Option.bind_some]
  · have eM : cat (fun x => if x = i then pcV bs n (wD (hb bs) n I d) (wT (hb bs) n I d == 4) i (b8 t) bv' vs ve else pce bs n (wD (hb bs) n I d) (wT (hb bs) n I d == 4) x x) m = [] ++ cat (fun x => pce bs n (wD (hb bs) n I d) (wT (hb bs) n I d == 4) (0 + x) (0 + x)) i ++ ([b8 t] ++ (if (wT (hb bs) n I d == 4) then rnl i else sl bs (st (hb bs) n (wD (hb bs) n I d) i + 1) (vpl (hb bs) n (st (hb bs) n (wD (hb bs) n I d) i))) ++ sl bv' vs ve) ++ cat (fun x => pce bs n (wD (hb bs) n I d) (wT (hb bs) n I d == 4) (i + 1 + x) (i + 1 + x)) (m - (i + 1)) := by
      have em : m = i + 1 + (m - (i + 1)) := by omega
      conv => lhs; rw [em, cat_split]
      show (cat _ i ++ (if i = i then _ else _)) ++ cat _ _ = _
      rw [if_pos rfl, List.nil_append]
      congr 1
      · congr 1
        refine cat_congr (fun x hx => ?_)
        rw [if_neg (by omega), Nat.zero_add]
      · refine cat_congr (fun x hx => ?_)
        rw [if_neg (by omega)]
    rw [eM]
    exact G4
end CH3
