/-! THE CLASS'S SHELF: elements kept, a value drafted, the draft finished. -/
section CH2
variable {cy : Nat → ClassId} {iv : Nat → Option Nat} {ad : Nat → Nat} {μ0 : Mem} {J : Nat → Int32} {w : Nat} {B : Nat → Nat → Int32} {fs n : Nat} {bs : Nat → Nat} {I : Nat → Nat} {d m : Nat} {at' : Int32} {M : List Nat} {D4 : Nat} {μ : Mem}
theorem SH.up (S : SH J B fs bs n I d m at') (hf : shf6 fs = true) {x : Int32} : SH (upd J (100 * fs + 3) x) B fs bs n I d m at' := by
  have a := shf_sp hf
  exact S.fr (fun k hk => upd_ne' (by omega)) (fun k hk => rfl)
theorem SH.dg (S : SH J B fs bs n I d m at') (hf : shf6 fs = true) (G : DG cy iv ad μ0 J w B bs D4 M μ) : ∃ J' B', μ = MC cy iv ad μ0 J' w B' ∧ SH J' B' fs bs n I d m at' ∧ (∀ k, k ≠ 3401 → k ≠ 3402 → J' k = J k) ∧ (∀ k, k ≠ 35 → B' k = B k) := by
  have a := shf_sp hf
  obtain ⟨J', B', e, hJ, hBB⟩ := G.mem
  exact ⟨J', B', e, S.fr (fun k hk => hJ k (by omega) (by omega)) (fun k hk => hBB k (by omega)), hJ, hBB⟩
theorem cat_1 {P : Nat → List Nat} {c : Nat} : cat P (c + 1) = P 0 ++ cat (fun i => P (i + 1)) c := by
  have := cat_split (P := P) (a := 1) c
  rw [Nat.add_comm 1 c] at this
  rw [this]
  show ([] ++ P 0) ++ _ = _
  rw [List.nil_append]
  congr 1
  exact cat_congr (fun i _ => by rw [Nat.add_comm])
theorem F_keepL (hL : Lay6 iv ad) (hf : shf6 fs = true) (hrow : (wT (hb bs) n I d == 4) = true) {j : Nat} (hj : j ≤ m) : ∀ (r x f dr : Nat) (J : Nat → Int32) (M : List Nat) (μ : Mem), SH J B fs bs n I d m at' → DG cy iv ad μ0 J w B bs D4 M μ → J (100 * fs + 3) = nI dr → dr + r < 2 ^ 30 → x + r = j → r < f → ∃ μ', f_X4_keepElements_L60 cy f (ad fs) (nI j) (nI x) μ = some μ' ∧ DG cy iv ad μ0 (upd J (100 * fs + 3) (nI (dr + r))) w B bs D4 (M ++ cat (fun t => pce bs n (wD (hb bs) n I d) true (x + t) (dr + t)) r) μ'
  | r, x, 0, dr, J, M, μ, _, _, _, _, _, hf => by omega
  | 0, x, f + 1, dr, J, M, μ, S, G, hdr, _, hx, _ => by
    have hm := S.2.2.2.2.2.2.2.2.2.2.2.2.1
    refine ⟨μ, ?_, ?_⟩
    · rw [f_X4_keepElements_L60, if_pos (nI_le (by omega) (by omega))]
    · rw [show dr + 0 = dr from rfl, ← hdr, upd_id]
      show DG _ _ _ _ _ _ _ _ _ (M ++ []) _
      rw [List.append_nil]
      exact G
  | r + 1, x, f + 1, dr, J, M, μ, S, G, hdr, hd2, hx, hf' => by
    have a := shf_sp hf
    have hm := S.2.2.2.2.2.2.2.2.2.2.2.2.1
    obtain ⟨J', B', e, S1, hJ, hBB⟩ := S.dg hf G
    have C := S1.2.2.2.2
    have SS := S1.sp (cy := cy) (μ0 := μ0) (w := w) hL hf
    obtain ⟨hE, hlt, hn24⟩ := C.el (i := x) (by omega)
    obtain ⟨s1, s2, s3, s4, s5, s6⟩ := hE.s (n := n) (by omega)
    have hspn : span6 (sS fs) = true ∧ sS fs ≠ 34 ∧ J (100 * sS fs + 1) = nI n ∧ B (sS fs + 1) = hb bs ∧ bB bs ∧ n ≤ len6 (sS fs + 1) := ⟨a.1, by omega, S.1, S.2.1, S.2.2.1, by rw [a.2.2.1]; exact S.2.2.2.1⟩
    obtain ⟨μ1, e1, G1⟩ := F_addElement (t := hb bs (st (hb bs) n (wD (hb bs) n I d) x)) (np := st (hb bs) n (wD (hb bs) n I d) x + 1) (ne := vpl (hb bs) n (st (hb bs) n (wD (hb bs) n I d) x)) (vs := vpl (hb bs) n (st (hb bs) n (wD (hb bs) n I d) x)) (ve := st (hb bs) n (wD (hb bs) n I d) (x + 1)) hL hf S G hdr (by omega) hspn (fun _ => ⟨by omega, by omega, rfl⟩) hspn ⟨by omega, by omega⟩
    rw [hrow] at G1
    obtain ⟨μ2, e2, G2⟩ := F_keepL hL hf hrow hj r (x + 1) f (dr + 1) (upd J (100 * fs + 3) (nI (dr + 1))) _ μ1 (S.up hf) G1 upd_self' (by omega) (by omega) (by omega)
    refine ⟨μ2, ?_, ?_⟩
    · rw [f_X4_keepElements_L60, if_neg (nI_ge (by omega) (by omega))]
      rw [e] at e1 ⊢
      rw [F_r1 hL hf, Option.bind_some, if_pos (C_is hL a.2.1), C_startOf hL a.2.1 C (by omega), ob2_some, F_r0 hL hf, Option.bind_some, if_pos (s_is SS), nI_a1, s_behindName SS (by omega), ob2_some, F_r0 hL hf, Option.bind_some, if_pos (s_is SS), s_at SS (by omega), ob2_some, F_r0 hL hf, Option.bind_some, Option.bind_some, F_r1 hL hf, Option.bind_some, if_pos (C_is hL a.2.1), nI_a1, C_startOf hL a.2.1 C (by omega), ob2_some, if_pos (F_is hL hf)]
      have e1' : f_X4_addElement cy (ad fs) (hb bs (st (hb bs) n (wD (hb bs) n I d) x)) (ad (sS fs)) (nI (st (hb bs) n (wD (hb bs) n I d) x + 1)) (ad (sS fs)) (nI (bn (hb bs) n (st (hb bs) n (wD (hb bs) n I d) x + 1))) (nI (st (hb bs) n (wD (hb bs) n I d) (x + 1))) (MC cy iv ad μ0 J' w B') = some μ1 := e1
      rw [e1', Option.bind_some]
      exact e2
    · rw [upd_upd, show dr + 1 + r = dr + (r + 1) by omega, List.append_assoc] at G2
      rw [cat_1]
      have e3 : [b8 (hb bs (st (hb bs) n (wD (hb bs) n I d) x))] ++ (if true = true then rnl dr else sl bs (st (hb bs) n (wD (hb bs) n I d) x + 1) (vpl (hb bs) n (st (hb bs) n (wD (hb bs) n I d) x))) ++ sl bs (vpl (hb bs) n (st (hb bs) n (wD (hb bs) n I d) x)) (st (hb bs) n (wD (hb bs) n I d) (x + 1)) = pce bs n (wD (hb bs) n I d) true (x + 0) (dr + 0) := by
        show [b8 (nI (bs (st (hb bs) n (wD (hb bs) n I d) x)))] ++ _ ++ _ = _
        rw [b8_nI (S.2.2.1 _)]
        rfl
      have e4 : cat (fun t => pce bs n (wD (hb bs) n I d) true (x + 1 + t) (dr + 1 + t)) r = cat (fun i => pce bs n (wD (hb bs) n I d) true (x + (i + 1)) (dr + (i + 1))) r := cat_congr (fun i _ => by rw [show x + 1 + i = x + (i + 1) by omega, show dr + 1 + i = dr + (i + 1) by omega])
      rw [e3, e4] at G2
      exact G2
/-- the ELEMENTS i .. j - 1 come next -/
theorem F_keep (hL : Lay6 iv ad) (hf : shf6 fs = true) (S : SH J B fs bs n I d m at') (G : DG cy iv ad μ0 J w B bs D4 M μ) {i j dr : Nat} (hij : i ≤ j) (hj : j ≤ m) (hdr : J (100 * fs + 3) = nI dr) (hdr2 : dr < 5000) : ∃ μ', f_X4_keepElements cy (ad fs) (nI i) (nI j) μ = some μ' ∧ DG cy iv ad μ0 (upd J (100 * fs + 3) (nI (dr + (j - i)))) w B bs D4 (M ++ cat (fun t => pce bs n (wD (hb bs) n I d) (wT (hb bs) n I d == 4) (i + t) (dr + t)) (j - i)) μ' := by
  have a := shf_sp hf
  have hm := S.2.2.2.2.2.2.2.2.2.2.2.2.1
  obtain ⟨J', B', e, S1, hJ, hBB⟩ := S.dg hf G
  have C := S1.2.2.2.2
  obtain ⟨-, mD, r, hmD, hD⟩ := C.2.2.2.2.2.2.2.2.2.1.dc d (Nat.le_refl _)
  have hmu : mD = m := by
    obtain ⟨r2, hD2⟩ := C.2.2.2.2.2.2.2.2.2.2
    exact (hD.uniq hD2 C.2.2.2.2.2.2.2.2.2.1.2.1).2
  subst hmu
  have hL18 : ((wT (hb bs) n I d == 4) = false ∨ i = dr) → ∃ μ', f_X4_keepElements_L18 cy (ad fs) (nI i) (nI j) μ = some μ' ∧ DG cy iv ad μ0 (upd J (100 * fs + 3) (nI (dr + (j - i)))) w B bs D4 (M ++ cat (fun t => pce bs n (wD (hb bs) n I d) (wT (hb bs) n I d == 4) (i + t) (dr + t)) (j - i)) μ' := fun hc => by
    have l1 := hD.mono i (j - i) (by omega)
    rw [show i + (j - i) = j by omega] at l1
    have l2 := hD.le' (i := j) (by omega)
    have l3 := hD.2.1
    have hn := S.2.2.2.1
    obtain ⟨μ1, e1, G1⟩ := G.part (k := sS fs) (m := n) (p := st (hb bs) n (wD (hb bs) n I d) i) (q := st (hb bs) n (wD (hb bs) n I d) j) (b1 := bs) hL a.1 (by omega) S.1 S.2.1 S.2.2.1 (by rw [a.2.2.1]; exact hn) (by omega) (by omega)
    obtain ⟨μ2, e2, G2⟩ := G1.put (s := fs) (f := 3) (ci := 3) (x := nI (dr + (j - i))) (by omega) (fun J' B' => c_putF hL hf 3 (Or.inl rfl))
    refine ⟨μ2, ?_, ?_⟩
    · have h3 : rdI μ1 (ad fs) 3 3 = some (nI dr) := by
        obtain ⟨J1, B1, e', hJ1, -⟩ := G1.mem
        rw [e', F_i3 hL hf, hJ1 _ (by omega) (by omega), hdr]
      unfold f_X4_keepElements_L18
      rw [e] at e1 ⊢
      rw [F_r2 hL hf, Option.bind_some, F_r0 hL hf, Option.bind_some, F_r1 hL hf, Option.bind_some, if_pos (C_is hL a.2.1), C_startOf hL a.2.1 C (by omega), ob2_some, F_r1 hL hf, Option.bind_some, if_pos (C_is hL a.2.1), C_startOf hL a.2.1 C (by omega), ob2_some, if_pos (P_is hL rfl), e1, Option.bind_some, h3, Option.bind_some, nI_sub' hij, nI_p, e2, Option.bind_some]
    · have := kp_sl (row := (wT (hb bs) n I d == 4)) S.2.2.1 hD (i := i) (v := dr) hc (j - i) (by omega)
      rw [show i + (j - i) = j by omega] at this
      rw [this]
      exact G2
  unfold f_X4_keepElements
  cases er : (wT (hb bs) n I d == 4) with
  | false =>
    obtain ⟨μ', e1, G1⟩ := hL18 (Or.inl er)
    rw [er] at G1
    refine ⟨μ', ?_, G1⟩
    rw [e] at e1 ⊢
    rw [F_r1 hL hf, Option.bind_some, if_pos (C_is hL a.2.1), C_inRow hL a.2.1 C, er, ob2_some, if_pos (show bI false = 0 from rfl)]
    exact e1
  | true =>
    have h3 : rdI μ (ad fs) 3 3 = some (nI dr) := by rw [e, F_i3 hL hf, hJ _ (by omega) (by omega), hdr]
    by_cases c : i = dr
    · obtain ⟨μ', e1, G1⟩ := hL18 (Or.inr c)
      rw [er] at G1
      refine ⟨μ', ?_, G1⟩
      rw [e] at e1 h3 ⊢
      rw [F_r1 hL hf, Option.bind_some, if_pos (C_is hL a.2.1), C_inRow hL a.2.1 C, er, ob2_some, if_neg (show ¬ bI true = 0 by decide), h3, Option.bind_some, if_pos (by rw [c])]
      exact e1
    · obtain ⟨μ', e1, G1⟩ := F_keepL hL hf er hj (j - i) i FU dr J M μ S G hdr (by omega) (by omega) (by show j - i < 100000; omega)
      refine ⟨μ', ?_, G1⟩
      rw [e] at e1 h3 ⊢
      rw [F_r1 hL hf, Option.bind_some, if_pos (C_is hL a.2.1), C_inRow hL a.2.1 C, er, ob2_some, if_neg (show ¬ bI true = 0 by decide), h3, Option.bind_some, if_neg (fun z => c ((nI_eq (by omega) (by omega)).mp z))]
      exact e1
end CH2
