/-! THE CALLS: taped, end, fault, judge, latest, take. -/
def ANZ (cy : Nat → ClassId) (iv : Nat → Option Nat) (ad : Nat → Nat) (μ0 : Mem) (iw : Nat → Option Nat) (aw : Nat → Nat) (μ1 : Mem) (x y : Option (Int32 × Mem)) : Prop := ∃ J' w' B' I' V' A' v, x = some (v, MC cy iv ad μ0 J' w' B') ∧ y = some (v, MR cy iw aw μ1 I' V' A') ∧ REL J' B' I' A'
theorem lk_01 {x : Int32} (h1 : ¬ x = 0) (h2 : ¬ x = 1) : Op.lookupswitch.offset [((0 : Int), (27 : Int)), ((1 : Int), (32 : Int))] 37 (Int32.toInt x) = 37 := by
  have a1 : ¬ x.toInt = 0 := fun z => h1 (Int32.toInt_inj.mp z)
  have a2 : ¬ x.toInt = 1 := fun z => h2 (Int32.toInt_inj.mp z)
  simp [Op.lookupswitch.offset]
  omega
section KA6
variable {cy : Nat → ClassId} {iv : Nat → Option Nat} {ad : Nat → Nat} {μ0 : Mem} {J : Nat → Int32} {w : Nat} {B : Nat → Nat → Int32} {iw : Nat → Option Nat} {aw : Nat → Nat} {μ1 : Mem} {I : Nat → Int32} {V : Nat → Value} {A : Nat → Nat → Int32}
theorem k_taped (hL : Lay6 iv ad) (hW : Lay iw aw) (R : REL J B I A) : ANZ cy iv ad μ0 iw aw μ1 (f_X6_taped cy (ad 0) (MC cy iv ad μ0 J w B)) (f_X8_taped cy (aw 0) (MR cy iw aw μ1 I V A)) := by
  obtain ⟨n, b, a1, a2, a3, a4, a5, a6⟩ := R.1
  unfold f_X6_taped f_X8_taped
  rw [g_ref hL (k := 0) rfl, Option.bind_some, P_size (j := 20) (n := n) hL rfl a1, Option.bind_some, m_put hW rfl (by decide), Option.bind_some, show rdI (MR cy iw aw μ1 (upd I 0 0) V A) (aw 0) 7 2 = some (I 2) from m_int hW rfl, Option.bind_some, a5]
  exact ⟨_, _, _, _, _, _, _, rfl, rfl, R.i0⟩
theorem k_end (hL : Lay6 iv ad) (hW : Lay iw aw) (R : REL J B I A) (x : Int32) : ANZ cy iv ad μ0 iw aw μ1 (f_X6_end cy (ad 0) x (MC cy iv ad μ0 J w B)) (f_X8_end cy (aw 0) x (MR cy iw aw μ1 I V A)) := by
  have R' := R
  obtain ⟨⟨n, b, a1, a2, a3, a4, a5, a6⟩, r2, r3, r4, r5, r6, r7, r8, r9⟩ := R
  unfold f_X6_end f_X8_end f_X6_end_L15 f_X8_end_L17
  rw [m_put hW rfl (by decide), Option.bind_some]
  by_cases c1 : x < 0
  · rw [if_pos c1, if_pos c1]
    exact ⟨_, _, _, _, _, _, _, rfl, rfl, R'.i0⟩
  · rw [if_neg c1, if_neg c1, g_ref hL (k := 0) rfl, Option.bind_some, P_size (j := 20) (n := n) hL rfl a1, Option.bind_some, show rdI (MR cy iw aw μ1 (upd I 0 0) V A) (aw 0) 7 2 = some (I 2) from m_int hW rfl, Option.bind_some, Option.bind_some, a5]
    by_cases c2 : nI (n + 1) ≤ x
    · have c3 : ¬ x ≤ nI n := fun q => by
        have q1 : x.toInt ≤ (nI n).toInt := Int32.le_iff_toInt_le.mp q
        have q2 : (nI (n + 1)).toInt ≤ x.toInt := Int32.le_iff_toInt_le.mp c2
        rw [nI_toInt (by omega)] at q1 q2
        omega
      rw [if_neg c3, if_neg c3]
      exact ⟨_, _, _, _, _, _, _, rfl, rfl, R'.i0⟩
    · obtain ⟨i, hi, rfl⟩ := nI_ex c1 c2 (by omega)
      rw [if_pos (nI_le (by omega) (by omega)), if_pos (nI_le (by omega) (by omega)), c_putS hL rfl 1 (Or.inl rfl), Option.bind_some, m_put hW rfl (by decide), Option.bind_some]
      refine ⟨_, _, _, _, _, _, _, rfl, rfl, ⟨i, b, upd_self', a2, a3, by omega, upd_self', fun j hj => a6 j (by omega)⟩, r2.fr (upd_ne' (by decide)) (upd_ne' (by decide)) (by rw [upd_ne' (by decide), upd_ne' (by decide)]) (by rw [upd_ne' (by decide), upd_ne' (by decide)]), fun s hs => (r3 s hs).fr hs (fun k hk => upd_ne' (by omega)) (fun _ _ => rfl) rfl rfl rfl rfl rfl, r4.fr (upd_ne' (by decide)) (fun s hs f hf => upd_ne' (by omega)) rfl, r5.fr (upd_ne' (by decide)) rfl, r6.fr (upd_ne' (by decide)) rfl, r7.fr (upd_ne' (by decide)) rfl, r8, r9.fr (fun k hk => upd_ne' (by omega)) (fun _ _ => rfl) (fun k k1 k2 => by rw [upd_ne' (by omega), upd_ne' (by omega)]) (fun _ _ => rfl)⟩
theorem k_fault (hL : Lay6 iv ad) (hW : Lay iw aw) (R : REL J B I A) (x : Int32) : ANZ cy iv ad μ0 iw aw μ1 (f_X6_fault cy (ad 0) x (MC cy iv ad μ0 J w B)) (f_X8_fault cy (aw 0) x (MR cy iw aw μ1 I V A)) := by
  unfold f_X6_fault f_X8_fault
  rw [m_put hW rfl (by decide), Option.bind_some]
  by_cases c0 : x = 0
  · rw [if_pos c0, if_pos c0, show rdI (MC cy iv ad μ0 J w B) (ad 0) 5 7 = some (J 7) from g_int hL rfl, Option.bind_some, show rdI (MR cy iw aw μ1 (upd I 0 0) V A) (aw 0) 7 3 = some (I 3) from m_int hW rfl, Option.bind_some, R.2.1.1]
    exact ⟨_, _, _, _, _, _, _, rfl, rfl, R.i0⟩
  · rw [if_neg c0, if_neg c0]
    by_cases c1 : x = 1
    · rw [if_pos c1, if_pos c1, show rdI (MC cy iv ad μ0 J w B) (ad 0) 5 8 = some (J 8) from g_int hL rfl, Option.bind_some, show rdI (MR cy iw aw μ1 (upd I 0 0) V A) (aw 0) 7 4 = some (I 4) from m_int hW rfl, Option.bind_some, R.2.1.2]
      exact ⟨_, _, _, _, _, _, _, rfl, rfl, R.i0⟩
    · rw [if_neg c1, if_neg c1, if_pos (lk_01 c0 c1)]
      exact ⟨_, _, _, _, _, _, _, rfl, rfl, R.i0⟩
theorem REL.ft (R : REL J B I A) {fk fp : Int32} {J' : Nat → Int32} {G : Nat → Int32} (h : ∀ k, k / 100 ≠ 1 → J' k = J k) : REL (upd (upd J' 7 fk) 8 fp) B (upd (upd I 3 fk) 4 fp) (updG A 20 G) := by
  obtain ⟨r1, r2, r3, r4, r5, r6, r7, r8, r9⟩ := R
  have hJ : ∀ k, k / 100 ≠ 1 → k ≠ 7 → k ≠ 8 → (upd (upd J' 7 fk) 8 fp) k = J k := fun k k1 k2 k3 => by rw [upd_ne' k3, upd_ne' k2, h k k1]
  have hI : ∀ k, k ≠ 3 → k ≠ 4 → (upd (upd I 3 fk) 4 fp) k = I k := fun k k1 k2 => by rw [upd_ne' k2, upd_ne' k1]
  have hA : ∀ j, j ≠ 20 → updG A 20 G j = A j := fun j hj => updG_ne hj
  refine ⟨r1.fr (hJ _ (by decide) (by decide) (by decide)) rfl (hI _ (by decide) (by decide)) (hA _ (by decide)), ⟨?_, ?_⟩, fun s hs => (r3 s hs).fr hs (fun k hk => hJ k (by omega) (by omega) (by omega)) (fun _ _ => rfl) (hA _ (by omega)) (by rw [hA _ (by omega)]) (hA _ (by omega)) (by rw [hA _ (by omega)]) (by rw [hA _ (by omega)]), r4.fr (hJ _ (by decide) (by decide) (by decide)) (fun s hs f hf => hJ _ (by omega) (by omega) (by omega)) (hA _ (by decide)), r5.fr (hJ _ (by decide) (by decide) (by decide)) rfl, r6.fr (hJ _ (by decide) (by decide) (by decide)) rfl, r7.fr (hJ _ (by decide) (by decide) (by decide)) rfl, r8.fr (hA _ (by decide)), r9.fr (fun k hk => hJ k (by omega) (by omega) (by omega)) (fun _ _ => rfl) (fun k k1 k2 => hI k (by omega) (by omega)) (fun k hk => hA k (by omega))⟩
  · rw [upd_ne' (by decide), upd_self', upd_ne' (by decide), upd_self']
  · rw [upd_self', upd_self']
theorem k_rd (hL : Lay6 iv ad) (k : Nat) {x : Int32} (h : (fR w J)[k]? = some (.int x)) : rdI (MC cy iv ad μ0 J w B) (ad 1) 1 k = some x := rdI_mk (c_r hL) h
theorem k_rdI (hL : Lay6 iv ad) : isO (MC cy iv ad μ0 J w B) (ad 1) 1 = true := isO_mk (c_r hL)
theorem k_r1 (hL : Lay6 iv ad) {j : Nat} (hj : span6 j = true) : ad 1 ≠ ad j ∧ ad 1 ≠ ad (j + 1) := by
  have a := span_arr hj
  have b := arr6_s a.1
  refine ⟨L6_ne hL rfl a.2.1 ?_, L6_ne hL rfl b.1 (fun z => b.2.2.1 z.symm)⟩
  rcases span6_c hj with rfl | rfl | rfl | rfl | rfl | rfl | rfl | rfl | rfl <;> decide
/-- a span is judged as a root -/
theorem k_jRoot (hL : Lay6 iv ad) {j n : Nat} {b : Nat → Nat} (hj : span6 j = true) (h1 : J (100 * j + 1) = nI n) (hn : n ≤ len6 (j + 1)) (h2 : B (j + 1) = hb b) : ∃ K, f_X2_judgeRoot cy (ad 1) (ad j) (MC cy iv ad μ0 J w B) = some (MC cy iv ad μ0 (upR J 0 (-1) (fkI (jEnd (jDoc (hb b) (-1) 24 K0 0 n false) n)) (fpI (jEnd (jDoc (hb b) (-1) 24 K0 0 n false) n)) K) (ad j) B) := by
  have S := SP6 (cy := cy) (μ0 := μ0) (w := w) (B := B) hL hj h1 hn
  rw [h2] at S
  obtain ⟨K, e⟩ := q_judgeRoot S (k_r1 hL hj) (c_rc hL)
  rw [c_RM hL] at e
  exact ⟨K, e⟩
theorem k_judge (hL : Lay6 iv ad) (hW : Lay iw aw) (R : REL J B I A) : ANZ cy iv ad μ0 iw aw μ1 (f_X6_judge cy (ad 0) (MC cy iv ad μ0 J w B)) (f_X8_judge cy (aw 0) (MR cy iw aw μ1 I V A)) := by
  obtain ⟨n, b, a1, a2, a3, a4, a5, a6⟩ := R.1
  unfold f_X6_judge f_X8_judge
  obtain ⟨K, e1⟩ := k_jRoot (cy := cy) (μ0 := μ0) (w := w) (j := 20) (n := n) (b := b) hL rfl a1 a4 a2
  have F : MF iw aw (upd I 0 0) A n b := ⟨hW, by rw [upd_ne' (by decide)]; exact a5, a6, a3, a4⟩
  obtain ⟨G', e2⟩ := m_judgeRoot (cy := cy) (μ0 := μ1) (V := V) F
  rw [g_ref hL (k := 3) rfl, Option.bind_some, g_ref hL (k := 0) rfl, Option.bind_some, if_pos (k_rdI hL), e1, Option.bind_some, g_ref hL (k := 3) rfl, Option.bind_some, k_rd hL 1 rfl, Option.bind_some, Option.bind_some, k_rd hL 2 rfl, Option.bind_some, if_pos (g_is hL)]
  unfold f_X6_keepFault
  rw [c_putX hL 7 rfl (by decide), Option.bind_some, c_putX hL 8 rfl (by decide), Option.bind_some, Option.bind_some, g_int hL (k := 7) rfl, Option.bind_some, m_put hW rfl (by decide), Option.bind_some, if_pos (r_is hW), e2, ob2_some, MJ.rfk F, Option.bind_some]
  exact ⟨_, _, _, _, _, _, _, rfl, rfl, R.i0.ft (fun k hk => upR_ne (by omega))⟩
theorem k_latest (hL : Lay6 iv ad) (hW : Lay iw aw) (R : REL J B I A) (x : Int32) : ANS cy iv ad μ0 iw aw μ1 [] (f_X6_latest cy (ad 0) x (MC cy iv ad μ0 J w B)) (f_X8_latest cy (aw 0) x (MR cy iw aw μ1 I V A)) := by
  obtain ⟨l1, l2⟩ := R.2.2.2.1
  unfold f_X6_latest f_X8_latest f_X8_latest_L23
  have r18 := fun i (hi : i < 4) => m_ld (cy := cy) (μ0 := μ1) (I := upd I 0 0) (V := V) (A := A) (i := i) hW 18 rfl hi
  rw [show rdI (MC cy iv ad μ0 J w B) (ad 0) 5 9 = some (J 9) from g_int hL rfl, Option.bind_some, m_put hW rfl (by decide), Option.bind_some, Option.bind_some]
  have inR : ¬ (x.toInt < 0 ∨ 3 < x.toInt) → ∃ k, k < 4 ∧ x = nI k := fun h => by
    obtain ⟨k, k1, k2, k3⟩ := i32_of (x := x) (lo := 0) (hi := 3) (fun q => h (Or.inl q)) (fun q => h (Or.inr q)) (by decide)
    exact ⟨k, by omega, k3⟩
  have ref : f_X8_latest cy (aw 0) x (MR cy iw aw μ1 I V A) = f_X8_latest cy (aw 0) x (MR cy iw aw μ1 I V A) := rfl
  by_cases hx : x.toInt < 0 ∨ 3 < x.toInt
  · have rr : (if x < 0 then some ((-1 : Int32), MR cy iw aw μ1 (upd I 0 0) V A) else if 4 ≤ x then some (-1, MR cy iw aw μ1 (upd I 0 0) V A) else (rdR (MR cy iw aw μ1 (upd I 0 0) V A) (aw 0) 7 18).bind fun q5 => (rdA cy (MR cy iw aw μ1 (upd I 0 0) V A) 1 q5 x).bind fun v7 => some (v7, MR cy iw aw μ1 (upd I 0 0) V A)) = some (-1, MR cy iw aw μ1 (upd I 0 0) V A) := by
      by_cases c1 : x < 0
      · rw [if_pos c1]
      · have c1' : ¬ x.toInt < 0 := fun q => c1 (Int32.lt_iff_toInt_lt.mpr q)
        rw [if_neg c1, if_pos (Int32.le_iff_toInt_le.mpr (by show (4 : Int) ≤ x.toInt; omega))]
    rw [rr]
    by_cases c : J 9 = -1
    · rw [if_pos c]
      exact ans_ok rfl rfl rfl R.i0
    · rw [if_neg c, if_pos (g_is hL)]
      rcases l2 with l | ⟨s, hs, b1, b2, b3, b4⟩
      · exact absurd l.1 c
      · rw [b1, g_shelf hL hs, obX2_r, if_pos hx]
        exact ans_ok rfl rfl rfl R.i0
  · obtain ⟨k, hk, rfl⟩ := inR hx
    have rk : (if nI k < 0 then some ((-1 : Int32), MR cy iw aw μ1 (upd I 0 0) V A) else if 4 ≤ nI k then some (-1, MR cy iw aw μ1 (upd I 0 0) V A) else (rdR (MR cy iw aw μ1 (upd I 0 0) V A) (aw 0) 7 18).bind fun q5 => (rdA cy (MR cy iw aw μ1 (upd I 0 0) V A) 1 q5 (nI k)).bind fun v7 => some (v7, MR cy iw aw μ1 (upd I 0 0) V A)) = some (A 18 k, MR cy iw aw μ1 (upd I 0 0) V A) := by
      rw [if_neg (show ¬ nI k < 0 from nI_nlt (b := 0) (Nat.zero_le _) (by omega)), if_neg (show ¬ (4 : Int32) ≤ nI k from nI_ge (b := 4) hk (by decide)), m_ref hW rfl, Option.bind_some, show rdA cy (MR cy iw aw μ1 (upd I 0 0) V A) 1 (aw 18) (nI k) = _ from r18 k hk, Option.bind_some]
    rw [rk]
    by_cases c : J 9 = -1
    · rw [if_pos c]
      have e : A 18 k = -1 := by
        rcases l2 with l | ⟨s, hs, b1, -⟩
        · match k, hk with
          | 0, _ => exact l.2.1
          | 1, _ => exact l.2.2.1
          | 2, _ => exact l.2.2.2
          | 3, _ => rw [← l1]; exact l.1
        · rw [b1] at c
          exact absurd c (nI_m1 (by omega))
      rw [e]
      exact ans_ok rfl rfl rfl R.i0
    · rw [if_neg c, if_pos (g_is hL)]
      rcases l2 with l | ⟨s, hs, b1, b2, b3, b4⟩
      · exact absurd l.1 c
      · have z := (sS_s hs).1
        rw [b1, g_shelf hL hs, obX2_r, if_neg hx]
        match k, hk with
        | 0, _ =>
          rw [if_pos (show nI 0 = 0 from rfl), show rdI (MC cy iv ad μ0 J w B) (ad (90 + s)) 3 4 = some (J (100 * (90 + s) + 4)) from rdI_mk (c_f hL z) rfl, Option.bind_some, b2]
          exact ans_ok rfl rfl rfl R.i0
        | 1, _ =>
          rw [if_neg (show ¬ nI 1 = 0 by decide), if_pos (show nI 1 = 1 from rfl), show rdI (MC cy iv ad μ0 J w B) (ad (90 + s)) 3 5 = some (J (100 * (90 + s) + 5)) from rdI_mk (c_f hL z) rfl, Option.bind_some, b3]
          exact ans_ok rfl rfl rfl R.i0
        | 2, _ =>
          rw [if_neg (show ¬ nI 2 = 0 by decide), if_neg (show ¬ nI 2 = 1 by decide), if_pos (show nI 2 = 2 from rfl), show rdI (MC cy iv ad μ0 J w B) (ad (90 + s)) 3 6 = some (J (100 * (90 + s) + 6)) from rdI_mk (c_f hL z) rfl, Option.bind_some, b4]
          exact ans_ok rfl rfl rfl R.i0
        | 3, _ =>
          rw [if_neg (show ¬ nI 3 = 0 by decide), if_neg (show ¬ nI 3 = 1 by decide), if_neg (show ¬ nI 3 = 2 by decide), if_pos (show nI 3 = 3 from rfl), show rdI (MC cy iv ad μ0 J w B) (ad 0) 5 9 = some (J 9) from g_int hL rfl, Option.bind_some, l1]
          exact ans_ok rfl rfl rfl R.i0
end KA6
