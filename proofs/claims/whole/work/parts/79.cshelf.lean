/-! THE CLASS'S SHELF: the draft's pieces. -/
def cat (P : Nat → List Nat) : Nat → List Nat
  | 0 => []
  | c + 1 => cat P c ++ P c
theorem cat_split {P : Nat → List Nat} {a : Nat} : ∀ (b : Nat), cat P (a + b) = cat P a ++ cat (fun i => P (a + i)) b
  | 0 => (List.append_nil _).symm
  | b + 1 => by
    show cat P (a + b) ++ P (a + b) = cat P a ++ (cat (fun i => P (a + i)) b ++ P (a + b))
    rw [cat_split b, List.append_assoc]
theorem cat_congr {P Q : Nat → List Nat} : ∀ {c : Nat}, (∀ i, i < c → P i = Q i) → cat P c = cat Q c
  | 0, _ => rfl
  | c + 1, h => by
    show cat P c ++ P c = cat Q c ++ Q c
    rw [cat_congr (fun i hi => h i (by omega)), h c (by omega)]
/-- the ELEMENT number i as it stands in the DOCUMENT at D, as number v -/
def pce (bs : Nat → Nat) (n D : Nat) (row : Bool) (i v : Nat) : List Nat := [bs (st (hb bs) n D i)] ++ (if row then rnl v else sl bs (st (hb bs) n D i + 1) (vpl (hb bs) n (st (hb bs) n D i))) ++ sl bs (vpl (hb bs) n (st (hb bs) n D i)) (st (hb bs) n D (i + 1))
theorem pce_sl {bs : Nat → Nat} {n e D r m : Nat} {row : Bool} (hB : bB bs) (hD : DC (hb bs) n e D r row m) {i : Nat} (hi : i < m) : pce bs n D row i i = sl bs (st (hb bs) n D i) (st (hb bs) n D (i + 1)) := by
  have hr := hD.2.1
  have le := hD.le' (i := i + 1) (by omega)
  have hE := hD.2.2.2.2.2 i hi
  obtain ⟨s1, s2, s3, s4, s5, s6⟩ := hE.s (n := n) (by omega)
  have e1 : (if row then rnl i else sl bs (st (hb bs) n D i + 1) (vpl (hb bs) n (st (hb bs) n D i))) = sl bs (st (hb bs) n D i + 1) (vpl (hb bs) n (st (hb bs) n D i)) := by
    cases row with
    | false => rfl
    | true =>
      obtain ⟨z1, z2, z3, z4⟩ := s4
      have z4 : rowN (hb bs) (st (hb bs) n D i + 1) (vpl (hb bs) n (st (hb bs) n D i) - 1) i := z4
      obtain ⟨y1, y2⟩ := (rowN_n hB).mp z4
      show rnl i = _
      unfold rnl sl
      rw [show vpl (hb bs) n (st (hb bs) n D i) - (st (hb bs) n D i + 1) = dg i + 1 by omega]
      refine List.map_congr_left (fun k hk => ?_)
      rw [List.mem_range] at hk
      unfold rnm
      by_cases c : k < dg i
      · rw [if_pos c, y2 k (Nat.zero_le _) c]
      · rw [if_neg c]
        have e0 : st (hb bs) n D i + 1 + k = vpl (hb bs) n (st (hb bs) n D i) - 1 := by omega
        rw [e0]
        have z2 : nI (bs (vpl (hb bs) n (st (hb bs) n D i) - 1)) = 0 := z2
        have := (nI_eq (b := 0) (by have := hB (vpl (hb bs) n (st (hb bs) n D i) - 1); omega) (by decide)).mp z2
        exact this.symm
  unfold pce
  rw [e1, ← sl_one, sl_cat (by omega) (by omega), sl_cat (by omega) (by omega)]
theorem pce_nr {bs : Nat → Nat} {n e D r m : Nat} (hB : bB bs) (hD : DC (hb bs) n e D r false m) {i v : Nat} (hi : i < m) : pce bs n D false i v = sl bs (st (hb bs) n D i) (st (hb bs) n D (i + 1)) := pce_sl hB hD hi
/-- pieces that keep their numbers are a part of the bytes -/
theorem kp_sl {bs : Nat → Nat} {n e D r m : Nat} {row : Bool} (hB : bB bs) (hD : DC (hb bs) n e D r row m) {i v : Nat} (hv : row = false ∨ i = v) : ∀ (c : Nat), i + c ≤ m → cat (fun t => pce bs n D row (i + t) (v + t)) c = sl bs (st (hb bs) n D i) (st (hb bs) n D (i + c))
  | 0, _ => sl_nil.symm
  | c + 1, hc => by
    have l1 := hD.mono i c (by omega)
    have l2 := hD.lt (i := i + c) (k := i + c + 1) (by omega) (by omega)
    show cat _ c ++ pce bs n D row (i + c) (v + c) = _
    have e1 : pce bs n D row (i + c) (v + c) = sl bs (st (hb bs) n D (i + c)) (st (hb bs) n D (i + c + 1)) := by
      rcases hv with z | z
      · subst z
        exact pce_nr hB hD (by omega)
      · subst z
        exact pce_sl hB hD (by omega)
    rw [kp_sl hB hD hv c (by omega), e1, sl_cat (by omega) (by omega)]
    rfl
def sS (fs : Nat) : Nat := 26 + 2 * (fs - 90)
def sC (fs : Nat) : Nat := 40 + 10 * (fs - 90)
theorem shf_sp {fs : Nat} (h : shf6 fs = true) : span6 (sS fs) = true ∧ cur6 (sC fs) = true ∧ len6 (sS fs + 1) = 2400 ∧ 26 ≤ sS fs ∧ sS fs ≤ 32 ∧ 40 ≤ sC fs ∧ sC fs ≤ 70 ∧ 90 ≤ fs ∧ fs ≤ 93 := by
  rcases shf6_c h with rfl | rfl | rfl | rfl <;> exact ⟨rfl, rfl, rfl, by decide, by decide, by decide, by decide, by decide, by decide⟩
/-- a shelf: its bytes bs, n of them, its cursor -/
def SH (J : Nat → Int32) (B : Nat → Nat → Int32) (fs : Nat) (bs : Nat → Nat) (n : Nat) (I : Nat → Nat) (d m : Nat) (at' : Int32) : Prop := J (100 * sS fs + 1) = nI n ∧ B (sS fs + 1) = hb bs ∧ bB bs ∧ n ≤ 2400 ∧ CUR J B (sC fs) (hb bs) n I d m at'
def DRF (J : Nat → Int32) (B : Nat → Nat → Int32) : Prop := ∃ n b, J 3401 = nI n ∧ n ≤ 2400 ∧ B 35 = hb b ∧ bB b
section CH1
variable {cy : Nat → ClassId} {iv : Nat → Option Nat} {ad : Nat → Nat} {μ0 : Mem} {J : Nat → Int32} {w : Nat} {B : Nat → Nat → Int32} {fs n : Nat} {bs : Nat → Nat} {I : Nat → Nat} {d m : Nat} {at' : Int32} {M : List Nat} {D4 : Nat} {μ : Mem}
theorem F_r0 (hL : Lay6 iv ad) (hf : shf6 fs = true) : rdR (MC cy iv ad μ0 J w B) (ad fs) 3 0 = some (ad (sS fs)) := rdR_mk (c_f hL hf) rfl
theorem F_r1 (hL : Lay6 iv ad) (hf : shf6 fs = true) : rdR (MC cy iv ad μ0 J w B) (ad fs) 3 1 = some (ad (sC fs)) := rdR_mk (c_f hL hf) rfl
theorem F_r2 (hL : Lay6 iv ad) (hf : shf6 fs = true) : rdR (MC cy iv ad μ0 J w B) (ad fs) 3 2 = some (ad 34) := rdR_mk (c_f hL hf) rfl
theorem F_is (hL : Lay6 iv ad) (hf : shf6 fs = true) : isO (MC cy iv ad μ0 J w B) (ad fs) 3 = true := isO_mk (c_f hL hf)
theorem F_i3 (hL : Lay6 iv ad) (hf : shf6 fs = true) : rdI (MC cy iv ad μ0 J w B) (ad fs) 3 3 = some (J (100 * fs + 3)) := rdI_mk (c_f hL hf) rfl
theorem F_i6 (hL : Lay6 iv ad) (hf : shf6 fs = true) : rdI (MC cy iv ad μ0 J w B) (ad fs) 3 6 = some (J (100 * fs + 6)) := rdI_mk (c_f hL hf) rfl
theorem SH.fr (S : SH J B fs bs n I d m at') {J' : Nat → Int32} {B' : Nat → Nat → Int32} (hJ : ∀ k, k / 100 = sS fs ∨ k / 100 = sC fs → J' k = J k) (hB : ∀ k, k = sS fs + 1 ∨ (sC fs + 1 ≤ k ∧ k ≤ sC fs + 5) → B' k = B k) : SH J' B' fs bs n I d m at' := by
  obtain ⟨s1, s2, s3, s4, s5⟩ := S
  exact ⟨by rw [hJ _ (Or.inl (by omega))]; exact s1, by rw [hB _ (Or.inl rfl)]; exact s2, s3, s4, s5.fr (fun k hk => hJ k (Or.inr hk)) (fun k h1 h2 => hB k (Or.inr ⟨h1, h2⟩))⟩
theorem SH.sp (S : SH J B fs bs n I d m at') (hL : Lay6 iv ad) (hf : shf6 fs = true) : SP cy (MC cy iv ad μ0 J w B) (ad (sS fs)) (ad (sS fs + 1)) 2400 n (hb bs) (J (100 * sS fs + 2)) := by
  have a := shf_sp hf
  have := SP6 (cy := cy) (μ0 := μ0) (w := w) (B := B) hL a.1 S.1 (by rw [a.2.2.1]; exact S.2.2.2.1)
  rw [S.2.1, a.2.2.1] at this
  exact this
theorem DG.conv (G : DG cy iv ad μ0 J w B bs 0 (sl bs 0 D4) μ) (h : D4 ≤ 2400) : DG cy iv ad μ0 J w B bs D4 [] μ := by
  obtain ⟨k, b, o, rfl, hB, hn, ⟨rfl, h1, h2, h3⟩ | ⟨rfl, h1⟩⟩ := G
  · rw [sl_len] at h1 h3
    refine ⟨k, b, 0, rfl, hB, hn, Or.inl ⟨rfl, by show k = D4 + 0; omega, fun j hj => ?_, fun i hi => by cases hi⟩⟩
    have := h3 j (by omega)
    rw [Nat.zero_add, gd_sl (by omega), Nat.zero_add] at this
    exact this
  · rw [sl_len] at h1
    omega
theorem F_startDraft (hL : Lay6 iv ad) (hf : shf6 fs = true) (S : SH J B fs bs n I d m at') (R : DRF J B) : ∃ μ', f_X4_startDraft cy (ad fs) (MC cy iv ad μ0 J w B) = some μ' ∧ DG cy iv ad μ0 (upd J (100 * fs + 3) 0) w B bs (wD (hb bs) n I d + 4) [] μ' := by
  have a := shf_sp hf
  obtain ⟨n0, b0, r1, r2, r3, r4⟩ := R
  have e0 := MP_id (cy := cy) (iv := iv) (ad := ad) (μ0 := μ0) (w := w) (B := B) (j := 34) (n := n0) r1
  unfold f_X4_startDraft
  rw [F_r2 hL hf, Option.bind_some, if_pos (P_is hL rfl)]
  rw [e0, P_clear hL rfl (by exact r2), Option.bind_some]
  have G0 : DG cy iv ad μ0 J w B bs 0 [] (MP cy iv ad μ0 J w B 34 0 (B (34 + 1)) 0) := ⟨0, b0, 0, by rw [show B (34 + 1) = hb b0 from r3], r4, by decide, Or.inl ⟨rfl, rfl, fun j hj => by omega, fun i hi => by cases hi⟩⟩
  obtain ⟨μ1, e1, G1⟩ := G0.put (s := fs) (f := 3) (ci := 3) (x := 0) (by omega) (fun J' B' => c_putF hL hf 3 (Or.inl rfl))
  rw [e1, Option.bind_some]
  obtain ⟨J', B', e2, hJ, hBB⟩ := G1.mem
  have S1 : SH J' B' fs bs n I d m at' := S.fr (fun k hk => by rw [hJ k (by omega) (by omega), upd_ne' (by omega)]) (fun k hk => hBB k (by omega))
  have hC := S1.2.2.2.2
  have hD := (hC.2.2.2.2.2.2.2.2.2.1.dc d (Nat.le_refl _))
  obtain ⟨-, m0, r0, -, hD0⟩ := hD
  have l1 := hD0.1
  have l2 := hD0.2.1
  have hn := S.2.2.2.1
  have ex : ∀ x : Option Mem, (x.bind fun μ20 => some μ20) = x := fun x => by cases x <;> rfl
  obtain ⟨μ3, e3, G3⟩ := G1.part (k := sS fs) (m := n) (p := 0) (q := wD (hb bs) n I d + 4) (b1 := bs) hL a.1 (by omega) (by rw [upd_ne' (by omega)]; exact S.1) S.2.1 S.2.2.1 (by rw [a.2.2.1]; exact hn) (Nat.zero_le _) (by omega)
  refine ⟨μ3, ?_, ?_⟩
  · rw [e2] at e3 ⊢
    rw [F_r2 hL hf, Option.bind_some, F_r0 hL hf, Option.bind_some, F_r1 hL hf, Option.bind_some, if_pos (C_is hL a.2.1), C_doc hL a.2.1 hC, ob2_some, if_pos (P_is hL rfl), nI_a4, ex]
    exact e3
  · exact G3.conv (by omega)
theorem F_addElement (hL : Lay6 iv ad) (hf : shf6 fs = true) (S : SH J B fs bs n I d m at') (G : DG cy iv ad μ0 J w B bs D4 M μ) {t : Int32} {dr kn kv nn nv np ne vs ve : Nat} {bn' bv' : Nat → Nat} (hdr : J (100 * fs + 3) = nI dr) (hdr2 : dr < 2 ^ 30)
    (hkn : span6 kn = true ∧ kn ≠ 34 ∧ J (100 * kn + 1) = nI nn ∧ B (kn + 1) = hb bn' ∧ bB bn' ∧ nn ≤ len6 (kn + 1)) (hne : (wT (hb bs) n I d == 4) = false → np ≤ ne ∧ ne ≤ nn ∧ bn (hb bn') nn np = ne)
    (hkv : span6 kv = true ∧ kv ≠ 34 ∧ J (100 * kv + 1) = nI nv ∧ B (kv + 1) = hb bv' ∧ bB bv' ∧ nv ≤ len6 (kv + 1)) (hve : vs ≤ ve ∧ ve ≤ nv) :
    ∃ μ', f_X4_addElement cy (ad fs) t (ad kn) (nI np) (ad kv) (nI vs) (nI ve) μ = some μ' ∧ DG cy iv ad μ0 (upd J (100 * fs + 3) (nI (dr + 1))) w B bs D4 (M ++ ([b8 t] ++ (if (wT (hb bs) n I d == 4) then rnl dr else sl bn' np ne) ++ sl bv' vs ve)) μ' := by
  have a := shf_sp hf
  obtain ⟨n1, n2, n3, n4, n5, n6⟩ := hkn
  obtain ⟨v1, v2, v3, v4, v5, v6⟩ := hkv
  unfold f_X4_addElement
  have h2 : ∀ {J1 : Nat → Int32} {M' : List Nat} {μ' : Mem}, DG cy iv ad μ0 J1 w B bs D4 M' μ' → rdR μ' (ad fs) 3 2 = some (ad 34) ∧ rdR μ' (ad fs) 3 1 = some (ad (sC fs)) ∧ isO μ' (ad 34) 4 = true ∧ isO μ' (ad (sC fs)) 0 = true ∧ isO μ' (ad kn) 4 = true := fun G' => by
    obtain ⟨J', B', e, -, -⟩ := G'.mem
    rw [e]
    exact ⟨F_r2 hL hf, F_r1 hL hf, P_is hL rfl, C_is hL a.2.1, P_is hL n1⟩
  have h3 : ∀ {M' : List Nat} {μ' : Mem}, DG cy iv ad μ0 J w B bs D4 M' μ' → rdI μ' (ad fs) 3 3 = some (nI dr) ∧ f_X0_isInRow cy (ad (sC fs)) μ' = some (bI (wT (hb bs) n I d == 4), μ') := fun G' => by
    obtain ⟨J', B', e, hJ, hBB⟩ := G'.mem
    have S1 : SH J' B' fs bs n I d m at' := S.fr (fun k hk => hJ k (by omega) (by omega)) (fun k hk => hBB k (by omega))
    rw [e]
    exact ⟨by rw [F_i3 hL hf, hJ _ (by omega) (by omega), hdr], C_inRow hL a.2.1 S1.2.2.2.2⟩
  have hL46 : ∀ {M' : List Nat} {μ' : Mem}, DG cy iv ad μ0 J w B bs D4 M' μ' → ∃ μ2, f_X4_addElement_L46 cy (ad fs) (ad kv) (nI vs) (nI ve) μ' = some μ2 ∧ DG cy iv ad μ0 (upd J (100 * fs + 3) (nI (dr + 1))) w B bs D4 (M' ++ sl bv' vs ve) μ2 := fun {M' μ'} G' => by
    unfold f_X4_addElement_L46
    obtain ⟨μ3, e3, G3⟩ := G'.part hL v1 v2 v3 v4 v5 v6 hve.1 hve.2
    obtain ⟨μ4, e4, G4⟩ := G3.put (s := fs) (f := 3) (ci := 3) (x := nI (dr + 1)) (by omega) (fun J' B' => c_putF hL hf 3 (Or.inl rfl))
    refine ⟨μ4, ?_, G4⟩
    rw [(h2 G').1, Option.bind_some, if_pos (h2 G').2.2.1, e3, Option.bind_some, (h3 G3).1, Option.bind_some, nI_a1, e4, Option.bind_some]
  obtain ⟨μ1, e1, G1⟩ := G.append hL t
  rw [(h2 G).1, Option.bind_some, if_pos (h2 G).2.2.1, e1, Option.bind_some, (h2 G1).2.1, Option.bind_some, if_pos (h2 G1).2.2.2.1, (h3 G1).2, ob2_some]
  cases er : (wT (hb bs) n I d == 4) with
  | false =>
    obtain ⟨m1, m2, m3⟩ := hne er
    rw [if_pos (show bI false = 0 from rfl), (h2 G1).1, Option.bind_some, if_pos (h2 G1).2.2.2.2]
    have hbn : f_X5_behindName cy (ad kn) (nI np) μ1 = some (nI ne, μ1) := by
      obtain ⟨J', B', e, hJ, hBB⟩ := G1.mem
      rw [e, P_behindName (n := nn) hL n1 (by rw [hJ _ (by omega) (by omega)]; exact n3) n6 (by omega), hBB _ (by omega), n4, m3]
    obtain ⟨μ2, e2, G2⟩ := G1.part hL n1 n2 n3 n4 n5 n6 m1 m2
    obtain ⟨μ3, e3, G3⟩ := hL46 G2
    refine ⟨μ3, ?_, ?_⟩
    · rw [hbn, ob2_some, if_pos (h2 G1).2.2.1, e2, Option.bind_some, e3]
    · rw [List.append_assoc, List.append_assoc] at G3
      show DG _ _ _ _ _ _ _ _ _ (M ++ ([b8 t] ++ sl bn' np ne ++ sl bv' vs ve)) _
      rw [List.append_assoc]
      exact G3
  | true =>
    obtain ⟨μ2, e2, G2⟩ := G1.row hL hdr2
    obtain ⟨μ3, e3, G3⟩ := hL46 G2
    refine ⟨μ3, ?_, ?_⟩
    · rw [if_neg (show ¬ bI true = 0 by decide), (h2 G1).1, Option.bind_some, (h3 G1).1, Option.bind_some, if_pos (h2 G1).2.2.1, e2, Option.bind_some, e3]
    · rw [List.append_assoc, List.append_assoc] at G3
      show DG _ _ _ _ _ _ _ _ _ (M ++ ([b8 t] ++ rnl dr ++ sl bv' vs ve)) _
      rw [List.append_assoc]
      exact G3
end CH1
