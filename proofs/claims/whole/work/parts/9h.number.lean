/-! THE CALLS: number. -/
def ANL (cy : Nat → ClassId) (iv : Nat → Option Nat) (ad : Nat → Nat) (μ0 : Mem) (iw : Nat → Option Nat) (aw : Nat → Nat) (μ1 : Mem) (names : List String) (x : Option ((String × Mem) ⊕ (Int64 × Mem))) (y : Option (Int64 × Mem)) : Prop := ∃ J' w' B' I' V' A' code v v', x = some (if code = 0 then .inr (v, MC cy iv ad μ0 J' w' B') else .inl (names.getD (code - 1) "", MC cy iv ad μ0 J' w' B')) ∧ y = some (v', MR cy iw aw μ1 I' V' A') ∧ I' 0 = nI code ∧ (code = 0 → v = v') ∧ code ≤ names.length ∧ REL J' B' I' A'
section RL5
variable {cy : Nat → ClassId} {iv : Nat → Option Nat} {ad : Nat → Nat} {μ0 : Mem} {iw : Nat → Option Nat} {aw : Nat → Nat} {μ1 : Mem} {names : List String} {x : Option ((String × Mem) ⊕ (Int64 × Mem))} {y : Option (Int64 × Mem)} {J : Nat → Int32} {w : Nat} {B : Nat → Nat → Int32} {I : Nat → Int32} {V : Nat → Value} {A : Nat → Nat → Int32} {v v' : Int64}
theorem anl_ok (h1 : x = some (.inr (v, MC cy iv ad μ0 J w B))) (h2 : y = some (v, MR cy iw aw μ1 I V A)) (h0 : I 0 = 0) (R : REL J B I A) : ANL cy iv ad μ0 iw aw μ1 names x y := ⟨J, w, B, I, V, A, 0, v, v, h1, h2, h0, fun _ => rfl, Nat.zero_le _, R⟩
theorem anl_th (code : Nat) (hc : 0 < code) (hl : code ≤ names.length) {nm : String} (hn : names.getD (code - 1) "" = nm) (h1 : x = some (.inl (nm, MC cy iv ad μ0 J w B))) (h2 : y = some (v', MR cy iw aw μ1 I V A)) (h0 : I 0 = nI code) (R : REL J B I A) : ANL cy iv ad μ0 iw aw μ1 names x y := ⟨J, w, B, I, V, A, code, 0, v', by rw [h1, if_neg (by omega), hn], h2, h0, fun z => by omega, hl, R⟩
end RL5
theorem lk_14 {k : Nat} (h1 : ¬ k = 1) (h2 : ¬ k = 4) (hk : k < 100) : Op.lookupswitch.offset [((1 : Int), (26 : Int)), ((4 : Int), (37 : Int))] 48 (Int32.toInt (nI k)) = 48 := by
  rw [nI_toInt (by omega)]
  simp [Op.lookupswitch.offset]
  omega
theorem vOk.b8 {h : Nat → Int32} {e p r : Nat} (z : vOk h e 8 p r) : h p ≤ 1 := by
  obtain ⟨K, z⟩ := z
  have z : jBool h K0 p r = .inr (r, K) := z
  exact (jBool_b z).2.2.1
theorem sx_b01 : ∀ x, x < 256 → nI x ≤ 1 → sx x = nI x := by decide +kernel
section KA8
variable {cy : Nat → ClassId} {iv : Nat → Option Nat} {ad : Nat → Nat} {μ0 : Mem} {J : Nat → Int32} {w : Nat} {B : Nat → Nat → Int32} {iw : Nat → Option Nat} {aw : Nat → Nat} {μ1 : Mem} {I : Nat → Int32} {V : Nat → Value} {A : Nat → Nat → Int32}
theorem x_longAt {o T sd n N : Nat} {bs : Nat → Nat} {X : Nat → Nat → Int32} (F : TX iw aw V A o T sd bs n) {j : Nat} (hj : j + 8 ≤ n) : f_X8_longAt cy (aw sd) (nI j) (MT cy iw aw μ1 I V A T N X) = some (i8 (hb bs) j, MT cy iw aw μ1 I V A T N X) := by
  unfold f_X8_longAt
  rw [x_intAt F (by omega), ob2_some, nI_a4, x_intAt F (by omega), ob2_some]
  rfl
theorem k_number (hL : Lay6 iv ad) (hW : Lay iw aw) (R : REL J B I A) (x : Int32) : ANL cy iv ad μ0 iw aw μ1 ["java/lang/IndexOutOfBoundsException", "java/util/NoSuchElementException", "java/lang/IllegalStateException"] (f_X6_number cy (ad 0) x (MC cy iv ad μ0 J w B)) (f_X8_number cy (aw 0) x (MR cy iw aw μ1 I V A)) := by
  unfold f_X6_number f_X8_number f_X8_number_L25
  rw [if_pos (g_is hL), if_pos (r_is hW)]
  rcases sh4 x with ⟨s, hs, rfl⟩ | hx
  · obtain ⟨bs, n, G, d, m, at', S, hat, Rs⟩ := R.2.2.1 s hs
    have z := sS_s hs
    have a := shf_sp z.1
    have C := S.2.2.2.2
    have hn := S.2.2.2.1
    have W := C.2.2.2.2.2.2.2.2.2.1
    have hm := C.2.2.2.2.2.2.2.2.1
    obtain ⟨r, hD⟩ := C.2.2.2.2.2.2.2.2.2.2
    have r9 := m_ld (cy := cy) (μ0 := μ1) (I := upd I 0 0) (V := V) (A := A) (i := s) hW 9 rfl hs
    rw [Rs.2.2.2.2] at r9
    rw [g_shelf hL hs, obX2_r, g_noEl hL hs S, r_shelf hW hs, ob2_some, if_pos (show (0 : Int32) = 0 from rfl), m_ref hW rfl, Option.bind_some, show rdA cy (MR cy iw aw μ1 (upd I 0 0) V A) 1 (aw 9) (nI s) = _ from r9, Option.bind_some]
    rcases hat.i (by omega) with ⟨h1, h2⟩ | ⟨i, hi', h1, h2, h3⟩
    · rw [if_pos h1, obX_l, if_neg h2, if_pos (r_is hW), r_thr1 hW, ob2_some, if_neg (show ¬ (1 : Int32) = 0 by decide)]
      exact anl_th 2 (by decide) (by decide) rfl rfl rfl rfl R.i0.i0
    · obtain ⟨N, X, ν, hi, m2, c, e1, tw, F⟩ := x_sr (cy := cy) (μ0 := μ1) (I := upd I 0 0) (V := V) hW (Or.inl ⟨rfl, rfl⟩ : isT 21 60) hs Rs S.2.2.1 W
      have em := tw.m W hD
      subst em
      have wn := tw.wn
      obtain ⟨q1, q2, q3⟩ := x_kid (cy := cy) (μ1 := μ1) (I := upd I 0 0) F tw hi'
      obtain ⟨v1, v2, v3, v4, v5, v6, v7, v8⟩ := q3
      obtain ⟨hE, hlt, -⟩ := C.el hi'
      obtain ⟨s1, s2, s3, s4, s5, s6⟩ := hE.s (n := n) (by omega)
      have SS := S.sp (cy := cy) (μ0 := μ0) (w := w) hL z.1
      have RR : REL J B (upd (upd I 0 0) (60 + 1) (nI N)) (tA 60 A X) := R.i0.t (by decide)
      have p3 := x_put (cy := cy) (μ0 := μ1) (I := upd I 0 0) (N := N) (X := X) F 0 (x := 3) rfl (by decide)
      have R3 : REL J B (upd (upd (upd I 0 0) 0 3) (60 + 1) (nI N)) (tA 60 A X) := R.i0.i0.t (by decide)
      rw [if_neg h2, obX_r, if_pos h3, if_pos (r_is hW), r_thr0, ob2_some, if_pos (show (0 : Int32) = 0 from rfl), if_pos (F_is hL z.1), F_elementType hL z.1 S hi' h1, ob2_some, m_ref hW rfl, Option.bind_some, m_ref hW rfl, Option.bind_some, m_docs hW hs, Option.bind_some, if_pos (m_tis hW (Or.inl ⟨rfl, rfl⟩)), e1, Option.bind_some, x_ref F (k := 21) rfl, Option.bind_some, Option.bind_some, if_pos (x_o F), x_stands F hs Rs W tw.2.1 tw.2.2.1 tw.2.2.2.1, ob2_some, x_ref F (k := 9) rfl, Option.bind_some, x_at F hs Rs, Option.bind_some, if_pos (x_is F), h1, q1, ob2_some, x_ref F (k := 21) rfl, Option.bind_some, x_r8 F, Option.bind_some, x_ld F 8 (by decide) q2, Option.bind_some, Option.bind_some, x_r2 F, Option.bind_some, x_ld F 2 (by decide) q2, Option.bind_some, v2, v4]
      generalize hq : st (hb bs) n (wD (hb bs) n G d) i = q at *
      generalize hr : st (hb bs) n (wD (hb bs) n G d) (i + 1) = r' at *
      have be := s5.be (n := n) (by omega)
      have isT : ∃ k, (k = 127 ∨ k = 255 ∨ (1 ≤ k ∧ k ≤ 19)) ∧ hb bs q = nI k := by
        rcases s1 with h | h | h
        · have a1 : ¬ (hb bs q).toInt < 1 := fun y => h.1 (Int32.lt_iff_toInt_lt.mpr y)
          have a2 : (hb bs q).toInt ≤ 19 := Int32.le_iff_toInt_le.mp h.2
          obtain ⟨k, k1, k2, k3⟩ := i32_of (x := hb bs q) (lo := 1) (hi := 19) (fun y => a1 y) (fun y => by omega) (by decide)
          exact ⟨k, Or.inr (Or.inr ⟨k1, k2⟩), k3⟩
        · exact ⟨127, Or.inl rfl, h⟩
        · exact ⟨255, Or.inr (Or.inl rfl), h⟩
      obtain ⟨k, hk, ek⟩ := isT
      rw [ek] at s5 be ⊢
      -- a type that is no number
      have no : ∀ (hN : ¬ isNm (nI k)) (y : Option (Int64 × Mem)), y = ((wrF (MT cy iw aw μ1 (upd I 0 0) (updG V 60 (.ref (aw (50 + s)))) A 60 N X) (aw 0) 7 0 (.int 3)).bind fun μ144 => some ((0 : Int64), μ144)) → ANL cy iv ad μ0 iw aw μ1 ["java/lang/IndexOutOfBoundsException", "java/util/NoSuchElementException", "java/lang/IllegalStateException"] (ob2 (f_X1_isNumber cy (nI k) (MC cy iv ad μ0 J w B)) fun r17 μ16 => if r17 = 0 then (some (.inl ("java/lang/IllegalStateException", μ16))) else if isO μ16 (ad (90 + s)) 3 = true then (ob2 (f_X4_valuePlace cy (ad (90 + s)) μ16) fun r22 μ21 => ob2 (f_X1_widthOf cy (nI k) μ21) fun r25 μ24 => if r25 = 1 then ((rdR μ24 (ad (90 + s)) 3 0).bind fun q27 => if isO μ24 q27 4 = true then (ob2 (f_X5_at cy q27 r22 μ24) fun r32 μ31 => some (.inr ((Int32.toInt64 r32), μ31))) else none) else if r25 = 4 then ((rdR μ24 (ad (90 + s)) 3 0).bind fun q34 => if isO μ24 q34 4 = true then (ob2 (f_X5_intAt cy q34 r22 μ24) fun r39 μ38 => some (.inr ((Int32.toInt64 r39), μ38))) else none) else if Op.lookupswitch.offset [((1 : Int), (26 : Int)), ((4 : Int), (37 : Int))] 48 (Int32.toInt r25) = 48 then ((rdR μ24 (ad (90 + s)) 3 0).bind fun q41 => if isO μ24 q41 4 = true then (ob2 (f_X5_longAt cy q41 r22 μ24) fun r46 μ45 => some (.inr (r46, μ45))) else none) else none) else none) y := fun hN y hy => by
        rw [hy, p3, Option.bind_some, p_isNumberN hN, ob2_some, if_pos (show (0 : Int32) = 0 from rfl)]
        exact anl_th 3 (by decide) (by decide) rfl rfl rfl rfl R3
      have yes : ∀ (hN : isNm (nI k)) (v : Int64) (y : Option (Int64 × Mem)), y = some (v, MT cy iw aw μ1 (upd I 0 0) (updG V 60 (.ref (aw (50 + s)))) A 60 N X) → ((wd (nI k) = 1 ∧ v = Int32.toInt64 (hb bs (vpl (hb bs) n q)) ∧ vpl (hb bs) n q < n) ∨ (wd (nI k) = 4 ∧ v = Int32.toInt64 (i4 (hb bs) (vpl (hb bs) n q)) ∧ vpl (hb bs) n q + 4 ≤ n) ∨ (wd (nI k) = 8 ∧ v = i8 (hb bs) (vpl (hb bs) n q) ∧ vpl (hb bs) n q + 8 ≤ n)) → ANL cy iv ad μ0 iw aw μ1 ["java/lang/IndexOutOfBoundsException", "java/util/NoSuchElementException", "java/lang/IllegalStateException"] (ob2 (f_X1_isNumber cy (nI k) (MC cy iv ad μ0 J w B)) fun r17 μ16 => if r17 = 0 then (some (.inl ("java/lang/IllegalStateException", μ16))) else if isO μ16 (ad (90 + s)) 3 = true then (ob2 (f_X4_valuePlace cy (ad (90 + s)) μ16) fun r22 μ21 => ob2 (f_X1_widthOf cy (nI k) μ21) fun r25 μ24 => if r25 = 1 then ((rdR μ24 (ad (90 + s)) 3 0).bind fun q27 => if isO μ24 q27 4 = true then (ob2 (f_X5_at cy q27 r22 μ24) fun r32 μ31 => some (.inr ((Int32.toInt64 r32), μ31))) else none) else if r25 = 4 then ((rdR μ24 (ad (90 + s)) 3 0).bind fun q34 => if isO μ24 q34 4 = true then (ob2 (f_X5_intAt cy q34 r22 μ24) fun r39 μ38 => some (.inr ((Int32.toInt64 r39), μ38))) else none) else if Op.lookupswitch.offset [((1 : Int), (26 : Int)), ((4 : Int), (37 : Int))] 48 (Int32.toInt r25) = 48 then ((rdR μ24 (ad (90 + s)) 3 0).bind fun q41 => if isO μ24 q41 4 = true then (ob2 (f_X5_longAt cy q41 r22 μ24) fun r46 μ45 => some (.inr (r46, μ45))) else none) else none) else none) y := fun hN v y hy hw => by
        have vp := F_valuePlace (cy := cy) (μ0 := μ0) (w := w) hL z.1 S hi' h1
        rw [hq] at vp
        rw [hy, p_isNumber hN, ob2_some, if_neg (show ¬ (1 : Int32) = 0 by decide), if_pos (F_is hL z.1), vp, ob2_some, p_widthOf, ob2_some]
        rcases hw with ⟨w1, rfl, w3⟩ | ⟨w1, rfl, w3⟩ | ⟨w1, rfl, w3⟩
        · rw [w1, if_pos (show nI 1 = 1 from rfl), F_r0 hL z.1, Option.bind_some, if_pos (s_is SS), s_at SS w3, ob2_some]
          exact anl_ok rfl rfl rfl RR
        · rw [w1, if_neg (show ¬ nI 4 = 1 by decide), if_pos (show nI 4 = 4 from rfl), F_r0 hL z.1, Option.bind_some, if_pos (s_is SS), s_intAt SS w3, ob2_some]
          exact anl_ok rfl rfl rfl RR
        · rw [w1, if_neg (show ¬ nI 8 = 1 by decide), if_neg (show ¬ nI 8 = 4 by decide), if_pos (lk_14 (by decide) (by decide) (by decide)), F_r0 hL z.1, Option.bind_some, if_pos (s_is SS), s_longAt SS w3, ob2_some]
          exact anl_ok rfl rfl rfl RR
      by_cases c1 : (nI k).toInt < 1 ∨ 18 < (nI k).toInt
      · rw [if_pos c1]
        refine no (fun y => ?_) _ rfl
        rw [nI_toInt (by omega)] at c1
        have k18 : 18 < k := by omega
        rcases y with y | y | y | y
        · have := (nI_eq (b := 1) (by omega) (by decide)).mp y; omega
        · have := (nI_eq (b := 8) (by omega) (by decide)).mp y; omega
        · have := (nI_eq (b := 9) (by omega) (by decide)).mp y; omega
        · exact y.2 (nI_lt (a := 18) k18 (by omega))
      · rw [if_neg c1]
        rw [nI_toInt (by omega)] at c1
        by_cases c2 : nI k = 1 ∨ nI k = 9 ∨ nI k = 17 ∨ nI k = 18
        · rw [if_pos c2]
          have w8 : wd (nI k) = 8 := if_pos c2
          have hw : vpl (hb bs) n q + 8 = r' := by
            have : bv (hb bs) n (nI k) (vpl (hb bs) n q) = vpl (hb bs) n q + 8 := by
              rcases c2 with y | y | y | y <;> (rw [y]; rfl)
            omega
          refine yes (by rcases c2 with y | y | y | y <;> (rw [y]; unfold isNm; decide)) _ _ ?_ (Or.inr (Or.inr ⟨w8, rfl, by omega⟩))
          rw [Option.bind_some, x_of F, Option.bind_some, x_longAt F (by omega), ob2_some]
        · rw [if_neg c2]
          by_cases c3 : nI k = 2 ∨ nI k = 3 ∨ nI k = 4 ∨ nI k = 5 ∨ nI k = 6 ∨ nI k = 7 ∨ nI k = 10 ∨ nI k = 11 ∨ nI k = 12 ∨ nI k = 13 ∨ nI k = 14 ∨ nI k = 15
          · rw [if_pos c3]
            refine no ?_ _ rfl
            rcases c3 with y | y | y | y | y | y | y | y | y | y | y | y <;> (rw [y]; unfold isNm; decide)
          · rw [if_neg c3]
            by_cases c4 : nI k = 8
            · rw [if_pos c4]
              rw [c4] at s5
              have b1 := s5.b8
              have hw : vpl (hb bs) n q + 1 = r' := by
                have : bv (hb bs) n (nI k) (vpl (hb bs) n q) = vpl (hb bs) n q + 1 := by rw [c4]; rfl
                omega
              refine yes (by rw [c4]; unfold isNm; decide) _ _ ?_ (Or.inl ⟨by rw [c4]; rfl, rfl, by omega⟩)
              rw [Option.bind_some, x_of F, Option.bind_some, x_by F (by omega), Option.bind_some, sx_b01 _ (S.2.2.1 _) b1]
              rfl
            · rw [if_neg c4]
              by_cases c5 : nI k = 16
              · rw [if_pos c5]
                have hw : vpl (hb bs) n q + 4 = r' := by
                  have : bv (hb bs) n (nI k) (vpl (hb bs) n q) = vpl (hb bs) n q + 4 := by rw [c5]; rfl
                  omega
                refine yes (by rw [c5]; unfold isNm; decide) _ _ ?_ (Or.inr (Or.inl ⟨by rw [c5]; rfl, rfl, by omega⟩))
                rw [Option.bind_some, x_of F, Option.bind_some, x_intAt F (by omega), ob2_some]
              · exfalso
                have kk : 1 ≤ k ∧ k ≤ 18 := by omega
                have f : ∀ j : Nat, k = j → nI k = nI j := fun j hj => by rw [hj]
                match k, kk, f with
                | 0, kk, _ => omega
                | 1, _, _ => exact c2 (Or.inl rfl)
                | 2, _, _ => exact c3 (Or.inl rfl)
                | 3, _, _ => exact c3 (Or.inr (Or.inl rfl))
                | 4, _, _ => exact c3 (Or.inr (Or.inr (Or.inl rfl)))
                | 5, _, _ => exact c3 (Or.inr (Or.inr (Or.inr (Or.inl rfl))))
                | 6, _, _ => exact c3 (Or.inr (Or.inr (Or.inr (Or.inr (Or.inl rfl)))))
                | 7, _, _ => exact c3 (Or.inr (Or.inr (Or.inr (Or.inr (Or.inr (Or.inl rfl))))))
                | 8, _, _ => exact c4 rfl
                | 9, _, _ => exact c2 (Or.inr (Or.inl rfl))
                | 10, _, _ => exact c3 (Or.inr (Or.inr (Or.inr (Or.inr (Or.inr (Or.inr (Or.inl rfl)))))))
                | 11, _, _ => exact c3 (Or.inr (Or.inr (Or.inr (Or.inr (Or.inr (Or.inr (Or.inr (Or.inl rfl))))))))
                | 12, _, _ => exact c3 (Or.inr (Or.inr (Or.inr (Or.inr (Or.inr (Or.inr (Or.inr (Or.inr (Or.inl rfl)))))))))
                | 13, _, _ => exact c3 (Or.inr (Or.inr (Or.inr (Or.inr (Or.inr (Or.inr (Or.inr (Or.inr (Or.inr (Or.inl rfl))))))))))
                | 14, _, _ => exact c3 (Or.inr (Or.inr (Or.inr (Or.inr (Or.inr (Or.inr (Or.inr (Or.inr (Or.inr (Or.inr (Or.inl rfl)))))))))))
                | 15, _, _ => exact c3 (Or.inr (Or.inr (Or.inr (Or.inr (Or.inr (Or.inr (Or.inr (Or.inr (Or.inr (Or.inr (Or.inr rfl)))))))))))
                | 16, _, _ => exact c5 rfl
                | 17, _, _ => exact c2 (Or.inr (Or.inr (Or.inl rfl)))
                | 18, _, _ => exact c2 (Or.inr (Or.inr (Or.inr rfl)))
                | k + 19, kk, _ => omega
  · rw [g_noShelf hx, obX2_l, r_noShelf hW hx, ob2_some, if_neg (show ¬ (1 : Int32) = 0 by decide)]
    exact anl_th 1 (by decide) (by decide) rfl rfl rfl rfl R.i0
end KA8
