/-! A CHANGE, on both sides. -/
section KE1
variable {J J' : Nat → Int32} {B B' : Nat → Nat → Int32} {I I' : Nat → Int32} {A A' : Nat → Nat → Int32} {s : Nat}
theorem LTr.fr2 (h : LTr J A) (h1 : J' 9 = J 9) (h2 : ∀ s, s < 4 → ∀ f, f = 4 ∨ f = 5 ∨ f = 6 → J' (100 * (90 + s) + f) = J (100 * (90 + s) + f)) (h3 : A' 18 = A 18) : LTr J' A' := by
  obtain ⟨a1, a2⟩ := h
  refine ⟨by rw [h1, h3]; exact a1, ?_⟩
  rw [h1, h3]
  rcases a2 with a | ⟨s, hs, b1, b2, b3, b4⟩
  · exact Or.inl a
  · exact Or.inr ⟨s, hs, b1, by rw [h2 s hs 4 (by decide)]; exact b2, by rw [h2 s hs 5 (by decide)]; exact b3, by rw [h2 s hs 6 (by decide)]; exact b4⟩
theorem REL.ed (R : REL J B I A) (hs : s < 4) (S : SHr J' B' A' s) (hT : LTr J' A') (hD : DRF J' B') (hO : OUr A') (h1 : ∀ k, k / 100 ≠ 1 → k / 100 ≠ 80 → k / 100 ≠ 34 → k / 100 ≠ 90 + s → k ≠ 9 → k / 100 ≠ 26 + 2 * s → k / 100 ≠ 40 + 10 * s → J' k = J k) (h2 : ∀ k, k ≤ 80 ∨ 85 < k → k ≠ 35 → k ≠ 27 + 2 * s → (k ≤ 40 + 10 * s ∨ 45 + 10 * s < k) → B' k = B k) (h3 : ∀ k, 0 < k → k < 14 → I' k = I k) (h4 : ∀ j, rlv j → j ≠ 6 → j ≠ 8 → j ≠ 9 → j ≠ 18 → j ≠ 26 → j ≠ 50 + s → j ≠ 54 + s → A' j = A j) (h5 : ∀ j t, j = 6 ∨ j = 8 ∨ j = 9 → t ≠ s → A' j t = A j t) : REL J' B' I' A' := by
  obtain ⟨r1, r2, r3, r4, r5, r6, r7, r8, r9⟩ := R
  have a := fun j (h : rlv j) => h4 j h
  unfold rlv at a
  refine ⟨r1.fr (h1 _ (by omega) (by omega) (by omega) (by omega) (by omega) (by omega) (by omega)) (h2 _ (by omega) (by omega) (by omega) (by omega)) (h3 _ (by decide) (by decide)) (a _ (by omega) (by omega) (by omega) (by omega) (by omega) (by omega) (by omega) (by omega)), r2.fr (h1 _ (by omega) (by omega) (by omega) (by omega) (by omega) (by omega) (by omega)) (h1 _ (by omega) (by omega) (by omega) (by omega) (by omega) (by omega) (by omega)) (h3 _ (by decide) (by decide)) (h3 _ (by decide) (by decide)), fun t ht => ?_, hT, r5.fr (h1 _ (by omega) (by omega) (by omega) (by omega) (by omega) (by omega) (by omega)) (h2 _ (by omega) (by omega) (by omega) (by omega)), r6.fr (h1 _ (by omega) (by omega) (by omega) (by omega) (by omega) (by omega) (by omega)) (h2 _ (by omega) (by omega) (by omega) (by omega)), hD, hO, r9.fr (fun k hk => h1 k (by omega) (by omega) (by omega) (by omega) (by omega) (by omega) (by omega)) (fun k hk => h2 k (by omega) (by omega) (by omega) (by omega)) (fun k k1 k2 => h3 k (by omega) (by omega)) (fun k hk => a k (by omega) (by omega) (by omega) (by omega) (by omega) (by omega) (by omega) (by omega))⟩
  by_cases c : t = s
  · subst c; exact S
  · exact (r3 t ht).fr ht (fun k hk => h1 k (by omega) (by omega) (by omega) (by omega) (by omega) (by omega) (by omega)) (fun k hk => h2 k (by omega) (by omega) (by omega) (by omega)) (a _ (by omega) (by omega) (by omega) (by omega) (by omega) (by omega) (by omega) (by omega)) (h5 _ _ (by omega) c) (a _ (by omega) (by omega) (by omega) (by omega) (by omega) (by omega) (by omega) (by omega)) (h5 _ _ (by omega) c) (h5 _ _ (by omega) c)
end KE1
section KE2
variable {cy : Nat → ClassId} {iv : Nat → Option Nat} {ad : Nat → Nat} {μ0 : Mem} {J : Nat → Int32} {w : Nat} {B : Nat → Nat → Int32} {iw : Nat → Option Nat} {aw : Nat → Nat} {μ1 : Mem} {I : Nat → Int32} {V : Nat → Value} {A : Nat → Nat → Int32} {s : Nat} {bs : Nat → Nat} {n : Nat} {G : Nat → Nat} {d m : Nat} {at' : Int32} {μ : Mem} {N : Nat} {X : Nat → Nat → Int32} {ν hi c : Nat → Nat} {m' : Nat} {P : Nat → List Nat}
/-- the reference writes the changed DOCUMENT out -/
theorem y_out {mm : Nat} (F : TX iw aw V A 21 60 (50 + s) bs n) (W : WV (hb bs) n G d) (tw : TWy X bs n G d N ν hi mm c) (h28 : I 28 = nI (ν d)) (hch : I 29 = -1 ∨ ∃ x, I 29 = nI x ∧ x < 2 ^ 30 ∧ ν d < x ∧ (x < hi d ∨ 1300 ≤ x)) (hm' : m' ≤ 1300) (h31 : I 31 = nI m') {oc : Nat → Int32} (ho : ∀ i, i < m' → A 30 i = oc i) (H : ∀ i, i < m' → WEl cy iw aw μ1 I V A N X (119 - 3 * d) (oc i) i (wT (hb bs) n G d == 4) (P i)) : WDoc cy iw aw μ1 I V A N X DP 0 (LW bs n G d (cat P m') d) := by
  have wn := tw.wn
  have d23 := (W.dc d (Nat.le_refl _)).1
  have D := w_dC (cy := cy) (μ0 := μ1) (I := I) (N := N) (X := X) F wn.1 (by rw [wn.2.2.1]) h28.symm hm' h31 ho H
  have w := w_way F W tw.2.1 tw.2.2.2.1 h28 hch D (by omega) d (Nat.le_refl _)
  rw [Nat.sub_self, tw.2.2.1, show 119 - 3 * d + 1 + 3 * d = 120 by omega] at w
  exact w
theorem k_edit {mm : Nat} {y x : Int32} (hL : Lay6 iv ad) (hW : Lay iw aw) (R : REL J B I A) (hs4 : s < 4) (S : SH J B (90 + s) bs n G d m at') (Rs : RSh A s bs n G d at') (W : WV (hb bs) n G d)
    (DG' : DG cy iv ad μ0 (upd J (100 * (90 + s) + 3) y) w B bs (wD (hb bs) n G d + 4) (cat P m') μ) (hP : ∀ i, i < m' → eOk (hl (P i)) (23 - d) 0 (P i).length (rwo (wT (hb bs) n G d == 4) i)) (hM : nLen bs n G d (cat P m') ≤ 11000)
    (F : TX iw aw V A 21 60 (50 + s) bs n) (tw : TWy X bs n G d N ν hi mm c) (h28 : I 28 = nI (ν d)) (hch : I 29 = -1 ∨ ∃ x, I 29 = nI x ∧ x < 2 ^ 30 ∧ ν d < x ∧ (x < hi d ∨ 1300 ≤ x)) (hm' : m' ≤ 1300) (h31 : I 31 = nI m') {oc : Nat → Int32} (ho : ∀ i, i < m' → A 30 i = oc i) (H : ∀ i, i < m' → WEl cy iw aw μ1 I V A N X (119 - 3 * d) (oc i) i (wT (hb bs) n G d == 4) (P i)) :
    (2400 < nLen bs n G d (cat P m') → ∃ J' B' I' V' A', f_X6_finishChange cy (ad 0) (nI s) x μ = some (.inl ("java/lang/UnsupportedOperationException", MC cy iv ad μ0 J' w B')) ∧ f_X8_lays cy (aw 0) (nI s) (MT cy iw aw μ1 I V A 60 N X) = some (0, MR cy iw aw μ1 I' V' A') ∧ REL J' B' I' A' ∧ I' 0 = I 0) ∧
    (nLen bs n G d (cat P m') ≤ 2400 → ∃ J' B' I' V' A', f_X6_finishChange cy (ad 0) (nI s) x μ = some (.inr (nI (nLen bs n G d (cat P m')), MC cy iv ad μ0 J' w B')) ∧ f_X8_lays cy (aw 0) (nI s) (MT cy iw aw μ1 I V A 60 N X) = some (1, MR cy iw aw μ1 I' V' A') ∧ A' 6 s = nI (nLen bs n G d (cat P m')) ∧ A' 9 = A 9 ∧ I' 0 = I 0 ∧ I' 31 = nI m' ∧ (atOk (numL m' x) m' → REL J' B' I' (updG A' 9 (upd (A' 9) s (numL m' x))))) := by
  have z := sS_s hs4
  have a := shf_sp z.1
  have hn := S.2.2.2.1
  have wd := y_out (cy := cy) (μ1 := μ1) F W tw h28 hch hm' h31 ho H
  have ly := y_lays (cy := cy) (μ0 := μ1) F hs4 W tw.2.1 (fun k hk => (tw.2.2.2.1 k hk).1) h28 R.2.2.2.2.2.2.2.1 Rs.2.1 hM wd
  have S3 := S.up z.1 (x := y)
  obtain ⟨Jg, Bg, eg, Sg, hJg, hBg⟩ := S3.dg z.1 DG'
  have fin := F_finish (cy := cy) (μ0 := μ0) (w := w) hL z.1 S3 DG' rfl hP x
  unfold f_X6_finishChange
  have pre : ∀ (k : Nat → Mem → Option ((String × Mem) ⊕ (Int32 × Mem))), (if isO μ (ad 0) 5 = true then obX2 (f_X6_shelfOf cy (ad 0) (nI s) μ) k else none) = k (ad (90 + s)) μ := fun k => by
    rw [eg, if_pos (g_is hL), g_shelf hL hs4, obX2_r]
  have isF : isO μ (ad (90 + s)) 3 = true := by rw [eg]; exact F_is hL z.1
  rw [pre]
  refine ⟨fun h => ?_, fun h => ?_⟩
  · obtain ⟨J', B', f1, f2, f3, f4, f5⟩ := fin.1 h
    obtain ⟨ob, Fg, g1, g2⟩ := ly.1 h
    refine ⟨J', B', _, _, _, ?_, g1, ?_, rfl⟩
    · rw [if_pos isF, f1, ob2_some, if_pos (show (0 : Int32) = 0 from rfl)]
    · have R1 : REL J B (upd (upd I 27 (nI (nLen bs n G d (cat P m')))) (60 + 1) (nI N)) (tA 60 A X) := (R.fr (fun _ _ _ => rfl) (fun _ _ => rfl) (fun k k1 k2 => upd_ne' (by omega)) (fun _ _ => rfl)).t (by decide)
      have fJ : ∀ k, k / 100 ≠ 34 → k ≠ 100 * (90 + s) + 3 → J' k = J k := fun k k1 k2 => by rw [f4 k k1, upd_ne' k2]
      have fA : ∀ j, j < 60 → j ≠ 20 → j ≠ 26 → tA 60 (updG (updG A 26 (hs ob)) 20 Fg) X j = tA 60 A X j := fun j j1 j2 j3 => by rw [tA_out (by omega), tA_out (by omega), updG_ne j2, updG_ne j3]
      refine R1.ed hs4 ⟨bs, n, G, d, m, at', f2, ?_, Rs.fr ?_ ?_ ?_ ?_ ?_⟩ (R1.2.2.2.1.fr2 (fJ 9 (by decide) (by omega)) (fun t ht f hf => fJ _ (by omega) (by omega)) (fA 18 (by decide) (by decide) (by decide))) f3 ⟨ob, g2, ?_⟩ (fun k k1 k2 k3 k4 k5 k6 k7 => fJ k k3 (by omega)) (fun k k1 k2 k3 k4 => f5 k k2) (fun _ _ _ => rfl) (fun j hj j1 j2 j3 j4 j5 j6 j7 => by unfold rlv at hj; exact fA j (by omega) (by omega) j5) (fun j t hj ht => by rw [fA j (by omega) (by omega) (by omega)])
      · obtain ⟨bs2, n2, G2, d2, m2, at2, S2, hat2, Rs2⟩ := R.2.2.1 s hs4
        have e1 := S2.2.2.2.2.2.1
        have e2 := S.2.2.2.2.2.1
        have e3 := S2.2.2.2.2.2.2.1
        have e4 := S.2.2.2.2.2.2.1
        have b1 := S2.2.2.2.2.2.2.2.2.2.2.2.2.1
        have b2 := S.2.2.2.2.2.2.2.2.2.2.2.2.1
        rw [e1] at e2
        rw [e3] at e4
        have := (nI_eq (by omega) (by omega)).mp e4
        rw [← e2, ← this]
        exact hat2
      · rw [tA_out (by omega), updG_ne (by omega), updG_ne (by omega)]
      · rw [tA_out (by omega), updG_ne (by decide), updG_ne (by decide)]
      · rw [tA_out (by omega), updG_ne (by omega), updG_ne (by omega)]
      · rw [tA_out (by omega), updG_ne (by decide), updG_ne (by decide)]
      · rw [tA_out (by omega), updG_ne (by decide), updG_ne (by decide)]
      · rw [tA_out (by omega), updG_ne (by decide), updG_self]
  · obtain ⟨J', B', nb, f1, f2, f3, f4, f5, f6, f7, f8⟩ := fin.2 h
    obtain ⟨ob, A', g1, g2, g3, g4, g5, g6, g7, g8, g9, g10, g11⟩ := ly.2 h
    have eq := ED.uniq W f3 g2
    have sz : J' (100 * sS (90 + s) + 1) = nI (nLen bs n G d (cat P m')) := f2.1
    refine ⟨upd J' 9 (nI s), B', _, _, _, ?_, g1, ?_, ?_, rfl, ?_, fun hat => ?_⟩
    · rw [if_pos isF, f1, ob2_some, if_neg (show ¬ (1 : Int32) = 0 by decide), c_putX hL 9 rfl (by decide), Option.bind_some, F_r0 hL z.1, Option.bind_some, P_size (j := sS (90 + s)) (n := nLen bs n G d (cat P m')) hL a.1 (by rw [upd_ne' (by omega)]; exact sz), Option.bind_some]
    · rw [tA_out (by omega), g6, upd_self']
    · rw [tA_out (by omega), g11 9 (by decide) (by decide) (by decide) (by decide) (by decide) (by omega)]
    · rw [upd_ne' (by decide), upd_ne' (by decide)]; exact h31
    · have R1 : REL J B (upd (upd I 27 (nI (nLen bs n G d (cat P m')))) (60 + 1) (nI N)) (tA 60 A X) := (R.fr (fun _ _ _ => rfl) (fun _ _ => rfl) (fun k k1 k2 => upd_ne' (by omega)) (fun _ _ => rfl)).t (by decide)
      have fJ : ∀ k, k / 100 ≠ 34 → k / 100 ≠ sS (90 + s) → k / 100 ≠ sC (90 + s) → k / 100 ≠ 90 + s → k ≠ 9 → upd J' 9 (nI s) k = J k := fun k k1 k2 k3 k4 k5 => by rw [upd_ne' k5, f5.1 k k1 k2 k3 k4, upd_ne' (by omega)]
      have fA : ∀ j, j < 60 → j ≠ 6 → j ≠ 9 → j ≠ 18 → j ≠ 20 → j ≠ 26 → j ≠ 41 → j ≠ 50 + s → updG (tA 60 A' X) 9 (upd (tA 60 A' X 9) s (numL m' x)) j = tA 60 A X j := fun j j0 j1 j2 j3 j4 j5 j6 j7 => by rw [updG_ne j2, tA_out (by omega), tA_out (by omega), g11 j j1 j3 j4 j5 j6 j7]
      have eqd : fdS bs n nb (nLen bs n G d (cat P m')) (wD (hb bs) n G d + 4) = fdS bs n ob (nLen bs n G d (cat P m')) (wD (hb bs) n G d + 4) := by
        unfold fdS
        rw [fdf_congr (h1 := hb nb) (h2 := hb ob) (fun j a1 a2 => by show nI (nb j) = nI (ob j); rw [eq j (by omega)])]
      refine R1.ed hs4 ⟨nb, nLen bs n G d (cat P m'), G, d, m', numL m' x, f2.fr (fun k hk => upd_ne' (by omega)) (fun _ _ => rfl), hat, ?_, ?_, ?_, ?_, ?_⟩ ⟨?_, Or.inr ⟨s, hs4, upd_self', ?_, ?_, ?_⟩⟩ (f4.fr (upd_ne' (by decide)) rfl) ⟨ob, g3, ?_⟩ (fun k k1 k2 k3 k4 k5 k6 k7 => fJ k k3 (by omega) (by omega) k4 k5) (fun k k1 k2 k3 k4 => f5.2 k k2 (by omega) (by omega)) (fun _ _ _ => rfl) (fun j hj j1 j2 j3 j4 j5 j6 j7 => by unfold rlv at hj; exact fA j (by omega) j1 j3 j4 (by omega) j5 (by omega) j6) (fun j t hj ht => ?_)
      · intro j hj
        rw [updG_ne (by omega), tA_out (by omega), g5 j hj, eq j hj]
      · rw [updG_ne (by decide), tA_out (by omega), g6, upd_self']
      · intro k hk
        rw [fA _ (by omega) (by omega) (by omega) (by omega) (by omega) (by omega) (by omega) (by omega), tA_out (by omega)]
        exact Rs.2.2.1 k hk
      · rw [fA _ (by omega) (by omega) (by omega) (by omega) (by omega) (by omega) (by omega) (by omega), tA_out (by omega)]
        exact Rs.2.2.2.1
      · rw [updG_self, upd_self']
      · rw [upd_self', updG_ne (by decide), tA_out (by omega)]; exact g10.symm
      · rw [upd_ne' (by omega), f6, eqd, updG_ne (by decide), tA_out (by omega)]; exact g7.symm
      · rw [upd_ne' (by omega), f7, updG_ne (by decide), tA_out (by omega)]; exact g8.symm
      · rw [upd_ne' (by omega), f8, updG_ne (by decide), tA_out (by omega)]; exact g9.symm
      · rw [updG_ne (by decide), tA_out (by omega)]; exact g4
      · by_cases j9 : j = 9
        · subst j9
          rw [updG_self, upd_ne' ht, tA_out (by omega), tA_out (by omega), g11 9 (by decide) (by decide) (by decide) (by decide) (by decide) (by omega)]
        · rw [updG_ne j9, tA_out (by omega), tA_out (by omega)]
          by_cases j6 : j = 6
          · subst j6
            rw [g6, upd_ne' ht]
          · rw [g11 j j6 (by omega) (by omega) (by omega) (by omega) (by omega)]
end KE2
