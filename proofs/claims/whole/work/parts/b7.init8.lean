/-! THE REFERENCE'S CONSTRUCTOR. -/
theorem mn_MZ {cy : Nat → ClassId} {z b t K : Nat} {μ0 : Mem} {l : List va_E} (hb : b = z + l.length) : mnM cy t K b (MZL z μ0 l) = MZL z μ0 (l ++ [.inl (cy (t + 5), 4, .inr (.inr (.inr (.inr (fun i => if i < 4 then some (b + 1 + i) else none))))), .inl (cy t, zA t K), .inl (cy t, zA t K), .inl (cy t, zA t K), .inl (cy t, zA t K)]) := by
  have e : mnM cy t K b (MZL z μ0 l) = va_up (va_up (va_up (va_up (va_up (MZL z μ0 l) b (.inl (cy (t + 5), 4, .inr (.inr (.inr (.inr (fun i => if i < 4 then some (b + 1 + i) else none))))))) (b + 1) (.inl (cy t, zA t K))) (b + 2) (.inl (cy t, zA t K))) (b + 3) (.inl (cy t, zA t K))) (b + 4) (.inl (cy t, zA t K)) := by
    funext j
    unfold mnM va_up
    by_cases h0 : j = b
    · rw [if_pos h0, if_neg (by omega), if_neg (by omega), if_neg (by omega), if_neg (by omega), if_pos h0]
    · rw [if_neg h0]
      by_cases h1 : b < j ∧ j < b + 5
      · rw [if_pos h1]
        by_cases h4 : j = b + 4
        · rw [if_pos h4]
        · rw [if_neg h4]
          by_cases h3 : j = b + 3
          · rw [if_pos h3]
          · rw [if_neg h3]
            by_cases h2 : j = b + 2
            · rw [if_pos h2]
            · rw [if_neg h2, if_pos (by omega)]
      · rw [if_neg h1, if_neg (by omega), if_neg (by omega), if_neg (by omega), if_neg (by omega), if_neg h0]
  rw [e, p1 hb, p1 (by rw [hb, List.length_append]; rfl), p1 (by rw [hb, List.length_append, List.length_append]; rfl), p1 (by rw [hb, List.length_append, List.length_append, List.length_append]; rfl), p1 (by rw [hb, List.length_append, List.length_append, List.length_append, List.length_append]; rfl)]
  simp
theorem rdQ_MZ {cy : Nat → ClassId} {z k t n v : Nat} {μ0 : Mem} {l : List va_E} {h : Nat → Option Nat} {i : Int32} (h1 : l[k]? = some (.inl (cy t, n, .inr (.inr (.inr (.inr h)))))) (hi : ¬ (i < 0 ∨ n ≤ i.toNatClampNeg)) (hv : h i.toNatClampNeg = some v) : rdQ cy (MZL z μ0 l) t (z + k) i = some v := by
  unfold rdQ
  rw [MZL_at h1]
  show (if cy t = cy t ∧ ¬ (i < 0 ∨ n ≤ i.toNatClampNeg) then h i.toNatClampNeg else none) = _
  rw [if_pos ⟨rfl, hi⟩, hv]
theorem e5_up : upd (upd (upd (upd (upd (fun _ => (0 : Int32)) 0 (vp_nar .byte 5)) 1 (vp_nar .byte 0)) 2 (vp_nar .byte 0)) 3 (vp_nar .byte 0)) 4 (vp_nar .byte 0) = e5 := by
  funext j
  unfold e5
  rcases j with _ | _ | _ | _ | _ | j
  · decide +kernel
  · decide +kernel
  · decide +kernel
  · decide +kernel
  · decide +kernel
  · simp [upd]
theorem n_empty {cy : Nat → ClassId} {w q : Nat} {μ0 : Mem} {l : List va_E} {fs : List Value} {D : Nat → Option Nat} {h7 h13 h14 : Nat → Int32} {i : Int32} (hq : i.toNatClampNeg = q) (hi : ¬ (i < 0 ∨ 4 ≤ q)) (h0 : l[0]? = some (.inr (7, fs))) (f5 : fs[5]? = some (.ref (w + 2))) (f6 : fs[6]? = some (.ref (w + 7))) (f8 : fs[8]? = some (.ref (w + 13))) (f9 : fs[9]? = some (.ref (w + 14))) (h2 : l[2]? = some (.inl (cy 5, 4, .inr (.inr (.inr (.inr D)))))) (hD : D q = some (w + (3 + q))) (hr : l[3 + q]? = some (.inl (cy 0, 2400, .inl (fun _ => 0)))) (g7 : l[7]? = some (.inl (cy 1, 4, .inl h7))) (g13 : l[13]? = some (.inl (cy 1, 4, .inl h13))) (g14 : l[14]? = some (.inl (cy 1, 4, .inl h14))) :
    f_X8_empty cy w i (MZL w μ0 l) = some (MZL w μ0 ((((l.set (3 + q) (.inl (cy 0, 2400, .inl e5))).set 7 (.inl (cy 1, 4, .inl (upd h7 q 5)))).set 13 (.inl (cy 1, 4, .inl (upd h13 q 0)))).set 14 (.inl (cy 1, 4, .inl (upd h14 q (-1)))))) := by
  subst hq
  have hq4 : i.toNatClampNeg < 4 := Nat.not_le.mp fun h => hi (Or.inr h)
  generalize hqq : i.toNatClampNeg = q at *
  have hlen : 14 < l.length := (List.getElem?_eq_some_iff.mp g14).1
  have hi' : ¬ (i < 0 ∨ 4 ≤ i.toNatClampNeg) := by rw [hqq]; exact hi
  have hD' : D i.toNatClampNeg = some (w + (3 + q)) := by rw [hqq]; exact hD
  have nn : ∀ {x : va_E} {j : Nat}, j ≠ 3 + q → (l.set (3 + q) x)[j]? = l[j]? := fun h => List.getElem?_set_ne (fun z => h z.symm)
  have ns : ∀ {x : va_E}, (l.set (3 + q) x)[3 + q]? = some x := List.getElem?_set_self (by omega)
  have r0 : ∀ {x : va_E} {f : Nat} {v : Nat}, fs[f]? = some (.ref v) → rdR (MZL w μ0 (l.set (3 + q) x)) w 7 f = some v := fun hf => rdR_MZ (k := 0) (by rw [nn (by omega)]; exact h0) hf
  have d0 : ∀ {x : va_E}, rdQ cy (MZL w μ0 (l.set (3 + q) x)) 5 (w + 2) i = some (w + (3 + q)) := rdQ_MZ (by rw [nn (by omega)]; exact h2) hi' hD'
  have a0 : ∀ {h : Nat → Int32} {j v : Int32}, ¬ (j < 0 ∨ 2400 ≤ j.toNatClampNeg) → wrA cy (MZL w μ0 (l.set (3 + q) (.inl (cy 0, 2400, .inl h)))) 0 (w + (3 + q)) j v = some (MZL w μ0 (l.set (3 + q) (.inl (cy 0, 2400, .inl (upd h j.toNatClampNeg v))))) := fun hj => by
    rw [wrA_MZ ns hj, List.set_set]
  unfold f_X8_empty
  rw [show rdR (MZL w μ0 l) w 7 5 = some (w + 2) from rdR_MZ (k := 0) h0 f5, Option.bind_some, rdQ_MZ h2 hi' hD', Option.bind_some, wrA_MZ hr (by decide), Option.bind_some]
  have key : ∀ n, f_X8_empty_L11 cy (n + 5) w i 1 (MZL w μ0 (l.set (3 + q) (.inl (cy 0, 2400, .inl (upd (fun _ => 0) 0 (vp_nar .byte 5)))))) = some (MZL w μ0 ((((l.set (3 + q) (.inl (cy 0, 2400, .inl e5))).set 7 (.inl (cy 1, 4, .inl (upd h7 q 5)))).set 13 (.inl (cy 1, 4, .inl (upd h13 q 0)))).set 14 (.inl (cy 1, 4, .inl (upd h14 q (-1)))))) := by
    intro n
    rw [f_X8_empty_L11, if_neg (by decide +kernel), r0 f5, Option.bind_some, d0, Option.bind_some, a0 (by decide), Option.bind_some]
    rw [f_X8_empty_L11, if_neg (by decide +kernel), r0 f5, Option.bind_some, d0, Option.bind_some, a0 (by decide), Option.bind_some]
    rw [f_X8_empty_L11, if_neg (by decide +kernel), r0 f5, Option.bind_some, d0, Option.bind_some, a0 (by decide), Option.bind_some]
    rw [f_X8_empty_L11, if_neg (by decide +kernel), r0 f5, Option.bind_some, d0, Option.bind_some, a0 (by decide), Option.bind_some]
    rw [show upd (upd (upd (upd (upd (fun _ => (0 : Int32)) 0 (vp_nar .byte 5)) (1 : Int32).toNatClampNeg (vp_nar .byte 0)) ((1 : Int32) + 1).toNatClampNeg (vp_nar .byte 0)) ((1 : Int32) + 1 + 1).toNatClampNeg (vp_nar .byte 0)) ((1 : Int32) + 1 + 1 + 1).toNatClampNeg (vp_nar .byte 0) = e5 from e5_up]
    rw [f_X8_empty_L11, if_pos (by decide +kernel), r0 f6, Option.bind_some]
    have g7' : (l.set (3 + q) (.inl (cy 0, 2400, .inl e5)))[7]? = some (.inl (cy 1, 4, .inl h7)) := by rw [nn (by omega)]; exact g7
    rw [wrA_MZ g7' hi', Option.bind_some, hqq]
    have k0 : ((l.set (3 + q) (.inl (cy 0, 2400, .inl e5))).set 7 (.inl (cy 1, 4, .inl (upd h7 q 5))))[0]? = some (.inr (7, fs)) := by rw [List.getElem?_set_ne (by decide), nn (by omega)]; exact h0
    rw [show isO (MZL w μ0 ((l.set (3 + q) (.inl (cy 0, 2400, .inl e5))).set 7 (.inl (cy 1, 4, .inl (upd h7 q 5))))) w 7 = true from isO_MZ (k := 0) k0, if_pos rfl]
    unfold f_X8_rests
    rw [show rdR (MZL w μ0 ((l.set (3 + q) (.inl (cy 0, 2400, .inl e5))).set 7 (.inl (cy 1, 4, .inl (upd h7 q 5))))) w 7 8 = some (w + 13) from rdR_MZ (k := 0) k0 f8, Option.bind_some]
    rw [wrA_MZ (h := by rw [List.getElem?_set_ne (by decide), nn (by omega)]; exact g13) (hi := hi'), Option.bind_some, hqq]
    have k1 : (((l.set (3 + q) (.inl (cy 0, 2400, .inl e5))).set 7 (.inl (cy 1, 4, .inl (upd h7 q 5)))).set 13 (.inl (cy 1, 4, .inl (upd h13 q 0))))[0]? = some (.inr (7, fs)) := by rw [List.getElem?_set_ne (by decide)]; exact k0
    rw [show rdR (MZL w μ0 (((l.set (3 + q) (.inl (cy 0, 2400, .inl e5))).set 7 (.inl (cy 1, 4, .inl (upd h7 q 5)))).set 13 (.inl (cy 1, 4, .inl (upd h13 q 0))))) w 7 9 = some (w + 14) from rdR_MZ (k := 0) k1 f9, Option.bind_some]
    rw [show rdR (MZL w μ0 (((l.set (3 + q) (.inl (cy 0, 2400, .inl e5))).set 7 (.inl (cy 1, 4, .inl (upd h7 q 5)))).set 13 (.inl (cy 1, 4, .inl (upd h13 q 0))))) w 7 6 = some (w + 7) from rdR_MZ (k := 0) k1 f6, Option.bind_some]
    rw [rdA_MZ (h := by rw [List.getElem?_set_ne (by decide), List.getElem?_set_self (by rw [List.length_set]; omega)]) (hi := hi'), Option.bind_some, hqq]
    rw [show upd h7 q 5 q = 5 from if_pos rfl, if_pos (by decide)]
    unfold f_X8_rests_L27
    rw [wrA_MZ (h := by rw [List.getElem?_set_ne (by decide), List.getElem?_set_ne (by decide), nn (by omega)]; exact g14) (hi := hi'), Option.bind_some, Option.bind_some, hqq]
  exact key 99995
def x8O (w : Nat) : va_E := .inr (7, [.int 0, .ref (w + 1), .int 0, .int 0, .int (-1), .ref (w + 2), .ref (w + 7), .ref (w + 8), .ref (w + 13), .ref (w + 14), .ref (w + 15), .int 0, .int 0, .int 0, .ref (w + 16), .ref (w + 17), .ref (w + 18), .ref (w + 19), .ref (w + 20), .ref (w + 21), .ref (w + 22), .ref (w + 23), .ref (w + 35), .ref (w + 47), .int 0, .int 0, .ref (w + 48), .int 0, .int 0, .int 0, .ref (w + 49), .int 0, .int 0, .int 0, .int 0, .null, .null, .int 0, .int 0, .int 0, .int 0, .ref (w + 50), .int 0, .ref (w + 51)])
def trO (b : Nat) : va_E := .inr (6, [.null, .int 0, .ref b, .ref (b + 1), .ref (b + 2), .ref (b + 3), .ref (b + 4), .ref (b + 5), .ref (b + 6), .ref (b + 7), .ref (b + 8), .ref (b + 9), .ref (b + 10)])
def bZ (cy : Nat → ClassId) (n : Nat) : va_E := .inl (cy 0, zA 0 n)
def u4 (v : Int32) : Nat → Int32 := upd (upd (upd (upd (fun _ => 0) 0 v) 1 v) 2 v) 3 v
def l8 (cy : Nat → ClassId) (w : Nat) : List va_E := [x8O w, bZ cy 2000, .inl (cy 5, 4, .inr (.inr (.inr (.inr (fun i => if i < 4 then some (w + 3 + i) else none))))), .inl (cy 0, 2400, .inl e5), .inl (cy 0, 2400, .inl e5), .inl (cy 0, 2400, .inl e5), .inl (cy 0, 2400, .inl e5), .inl (cy 1, 4, .inl (u4 5)), .inl (cy 6, 4, .inr (.inr (.inr (.inr (fun i => if i < 4 then some (w + 9 + i) else none))))), aZ cy 25, aZ cy 25, aZ cy 25, aZ cy 25, .inl (cy 1, 4, .inl (u4 0)), .inl (cy 1, 4, .inl (u4 (-1))), bZ cy 2416, aZ cy 25, aZ cy 25, aZ cy 25, aZ cy 25, .inl (cy 1, 4, .inl (u4 (-1))), aZ cy 5, bZ cy 12,
  trO (w + 24), aZ cy 1300, aZ cy 1300, aZ cy 1300, aZ cy 1300, aZ cy 1300, aZ cy 1300, aZ cy 1300, aZ cy 1300, aZ cy 1300, aZ cy 1300, aZ cy 1300, trO (w + 36), aZ cy 1300, aZ cy 1300, aZ cy 1300, aZ cy 1300, aZ cy 1300, aZ cy 1300, aZ cy 1300, aZ cy 1300, aZ cy 1300, aZ cy 1300, aZ cy 1300, aZ cy 2002, bZ cy 12000, aZ cy 1301, .inl (cy 2, zA 2 2416), bZ cy 8]
theorem io0 {w ci : Nat} {μ0 : Mem} {fs : List Value} {t : List va_E} : isO (MZL w μ0 (.inr (ci, fs) :: t)) w ci = true := isO_MZ (l := .inr (ci, fs) :: t) (k := 0) rfl
theorem pa {cy : Nat → ClassId} {z q k t n : Nat} {μ0 : Mem} {l : List va_E} {h : Nat → Int32} {i x : Int32} (hq : q = z + k) (h1 : l[k]? = some (.inl (cy t, n, .inl h))) (hi : ¬ (i < 0 ∨ n ≤ i.toNatClampNeg)) : wrA cy (MZL z μ0 l) t q i x = some (MZL z μ0 (l.set k (.inl (cy t, n, .inl (upd h i.toNatClampNeg x))))) := by
  rw [hq, wrA_MZ h1 hi]
set_option maxRecDepth 100000 in
set_option maxHeartbeats 4000000 in
theorem n_init8 {cy : Nat → ClassId} {w : Nat} {μ0 : Mem} : f_X8_init cy (w + 1) w (MZL w μ0 [.inr (7, [.int 0, .null, .int 0, .int 0, .int 0, .null, .null, .null, .null, .null, .null, .int 0, .int 0, .int 0, .null, .null, .null, .null, .null, .null, .null, .null, .null, .null, .int 0, .int 0, .null, .int 0, .int 0, .int 0, .null, .int 0, .int 0, .int 0, .int 0, .null, .null, .int 0, .int 0, .int 0, .int 0, .null, .int 0, .null])]) = some (MZL w μ0 (l8 cy w)) := by
  unfold f_X8_init
  rw [p1 (by rfl)]
  simp only [List.cons_append, List.nil_append]
  rw [wx (Nat.le_of_ble_eq_true rfl), Option.bind_some, wx (Nat.le_of_ble_eq_true rfl), Option.bind_some]
  rw [mn_MZ (by rfl)]
  simp only [List.cons_append, List.nil_append]
  rw [wx (Nat.le_of_ble_eq_true rfl), Option.bind_some]
  rw [p1 (by rfl)]
  simp only [List.cons_append, List.nil_append]
  rw [wx (Nat.le_of_ble_eq_true rfl), Option.bind_some]
  rw [mn_MZ (by rfl)]
  simp only [List.cons_append, List.nil_append]
  rw [wx (Nat.le_of_ble_eq_true rfl), Option.bind_some]
  iterate 7
    rw [p1 (by rfl)]
    simp only [List.cons_append, List.nil_append]
    rw [wx (Nat.le_of_ble_eq_true rfl), Option.bind_some]
  rw [p1 (by rfl)]
  simp only [List.cons_append, List.nil_append]
  iterate 4
    rw [pa (k := 20) (by rfl) (by rfl) (by decide), Option.bind_some]
    simp only [List.set_cons_succ, List.set_cons_zero]
  rw [wx (Nat.le_of_ble_eq_true rfl), Option.bind_some]
  iterate 2
    rw [p1 (by rfl)]
    simp only [List.cons_append, List.nil_append]
    rw [wx (Nat.le_of_ble_eq_true rfl), Option.bind_some]
  iterate 2
    rw [mk7 (by rfl) (by rfl), Option.bind_some]
    simp only [List.cons_append, List.nil_append]
    rw [wx (Nat.le_of_ble_eq_true rfl), Option.bind_some]
  iterate 5
    rw [p1 (by rfl)]
    simp only [List.cons_append, List.nil_append]
    rw [wx (Nat.le_of_ble_eq_true rfl), Option.bind_some]
  rw [if_pos io0, n_empty (q := 0) (by rfl) (by decide) (by rfl) (by rfl) (by rfl) (by rfl) (by rfl) (by rfl) (by rfl) (by rfl) (by rfl) (by rfl) (by rfl)]
  simp only [List.set_cons_succ, List.set_cons_zero, Nat.reduceAdd]
  rw [Option.bind_some]
  rw [if_pos io0, n_empty (q := 1) (by rfl) (by decide) (by rfl) (by rfl) (by rfl) (by rfl) (by rfl) (by rfl) (by rfl) (by rfl) (by rfl) (by rfl) (by rfl)]
  simp only [List.set_cons_succ, List.set_cons_zero, Nat.reduceAdd]
  rw [Option.bind_some]
  rw [if_pos io0, n_empty (q := 2) (by rfl) (by decide) (by rfl) (by rfl) (by rfl) (by rfl) (by rfl) (by rfl) (by rfl) (by rfl) (by rfl) (by rfl) (by rfl)]
  simp only [List.set_cons_succ, List.set_cons_zero, Nat.reduceAdd]
  rw [Option.bind_some]
  rw [if_pos io0, n_empty (q := 3) (by rfl) (by decide) (by rfl) (by rfl) (by rfl) (by rfl) (by rfl) (by rfl) (by rfl) (by rfl) (by rfl) (by rfl) (by rfl)]
  simp only [List.set_cons_succ, List.set_cons_zero, Nat.reduceAdd]
  rw [Option.bind_some]
  rfl
