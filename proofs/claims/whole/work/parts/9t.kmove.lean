/-! THE CALLS: move. -/
def mvp (u v x : Nat) : Nat := if u ≤ v then (if x < u then x else if x < v then x + 1 else if x = v then u else x) else (if x < v then x else if x = v then u else if x ≤ u then x - 1 else x)
theorem mvp_lt {u v x m : Nat} (hu : u < m) (hv : v < m) (hx : x < m) : mvp u v x < m := by
  unfold mvp
  repeat' split
  all_goals omega
section KM1
variable {bs : Nat → Nat} {n : Nat}
theorem pce_gf {e r D m : Nat} {row : Bool} (hD : DC (hb bs) n e D r row m) : ∃ g f : Nat → Nat, ∀ k, k < m → (∀ v, (pce bs n D row k v).length = g k + f v) ∧ st (hb bs) n D k + g k + f k = st (hb bs) n D (k + 1) := by
  have h1 := hD.1
  have h2 := hD.2.1
  have l : ∀ k v, (pce bs n D row k v).length = 1 + (if row then rnl v else sl bs (st (hb bs) n D k + 1) (vpl (hb bs) n (st (hb bs) n D k))).length + (st (hb bs) n D (k + 1) - vpl (hb bs) n (st (hb bs) n D k)) := fun k v => by
    unfold pce
    rw [List.length_append, List.length_append, sl_len]
    rfl
  cases row with
  | false =>
    refine ⟨fun k => 1 + (vpl (hb bs) n (st (hb bs) n D k) - (st (hb bs) n D k + 1)) + (st (hb bs) n D (k + 1) - vpl (hb bs) n (st (hb bs) n D k)), fun _ => 0, fun k hk => ?_⟩
    have hE := hD.2.2.2.2.2 k hk
    have le := hD.le' (i := k + 1) (by omega)
    obtain ⟨s1, s2, s3, s4, s5, s6⟩ := hE.s (n := n) (by omega)
    refine ⟨fun v => ?_, ?_⟩
    · rw [l k v]
      show 1 + (sl bs (st (hb bs) n D k + 1) (vpl (hb bs) n (st (hb bs) n D k))).length + _ = _
      rw [sl_len]
      rfl
    · show st (hb bs) n D k + (1 + (vpl (hb bs) n (st (hb bs) n D k) - (st (hb bs) n D k + 1)) + (st (hb bs) n D (k + 1) - vpl (hb bs) n (st (hb bs) n D k))) + 0 = _
      omega
  | true =>
    refine ⟨fun k => 2 + (st (hb bs) n D (k + 1) - vpl (hb bs) n (st (hb bs) n D k)), dg, fun k hk => ?_⟩
    have hE := hD.2.2.2.2.2 k hk
    have le := hD.le' (i := k + 1) (by omega)
    obtain ⟨s1, s2, s3, s4, s5, s6⟩ := hE.s (n := n) (by omega)
    have z4 : rowN (hb bs) (st (hb bs) n D k + 1) (vpl (hb bs) n (st (hb bs) n D k) - 1) k := s4.2.2.2
    have z5 := z4.1
    refine ⟨fun v => ?_, ?_⟩
    · rw [l k v]
      show 1 + (rnl v).length + _ = 2 + _ + dg v
      rw [rnl_len]
      omega
    · show st (hb bs) n D k + (2 + (st (hb bs) n D (k + 1) - vpl (hb bs) n (st (hb bs) n D k))) + dg k = _
      omega
theorem mv_len {e r D m u v : Nat} {row : Bool} (hD : DC (hb bs) n e D r row m) (hu : u < m) (hv : v < m) : (cat (fun x => pce bs n D row (mvp u v x) x) m).length + (D + 4) ≤ st (hb bs) n D m := by
  obtain ⟨g, f, gf⟩ := pce_gf hD
  have mono : ∀ x y, x ≤ y → y ≤ m → st (hb bs) n D x ≤ st (hb bs) n D y := fun x y h1 h2 => by
    have := hD.mono x (y - x) (by omega)
    rw [show x + (y - x) = y by omega] at this
    omega
  by_cases c : u ≤ v
  · have bd : ∀ x, u ≤ x → x ≤ v → g u + f x ≤ st (hb bs) n D (x + 1) := fun x h1 h2 => by
      have gx := (gf x (by omega)).2
      have gu := (gf u hu).2
      rcases Nat.eq_or_lt_of_le h1 with q | q
      · subst q; omega
      · have := mono (u + 1) x (by omega) (by omega)
        omega
    have cs := cat_sum (P := fun x => pce bs n D row (mvp u v x) x) (a := fun x => if x < u then st (hb bs) n D x else if x ≤ v then st (hb bs) n D (x + 1) - g u - f x else st (hb bs) n D x) (k := 0) m (fun x hx => by
      show (pce bs n D row (mvp u v x) x).length + (if x < u then st (hb bs) n D x else if x ≤ v then st (hb bs) n D (x + 1) - g u - f x else st (hb bs) n D x) ≤ (if x + 1 < u then st (hb bs) n D (x + 1) else if x + 1 ≤ v then st (hb bs) n D (x + 1 + 1) - g u - f (x + 1) else st (hb bs) n D (x + 1)) + 0
      rw [(gf (mvp u v x) (mvp_lt hu hv hx)).1 x]
      unfold mvp
      rw [if_pos c]
      have gx := (gf x hx).2
      have gu := (gf u hu).2
      by_cases c1 : x < u
      · rw [if_pos c1, if_pos c1]
        by_cases c2 : x + 1 < u
        · rw [if_pos c2]; omega
        · have xu : x + 1 = u := by omega
          have b := bd u (Nat.le_refl _) c
          rw [if_neg c2, if_pos (by omega), xu]
          rw [xu] at gx
          omega
      · rw [if_neg c1, if_neg c1, if_neg (show ¬ x + 1 < u by omega)]
        by_cases c2 : x < v
        · have b := bd x (by omega) (by omega)
          have b2 := bd (x + 1) (by omega) (by omega)
          have g1 := (gf (x + 1) (by omega)).2
          rw [if_pos c2, if_pos (by omega), if_pos (by omega)]
          omega
        · rw [if_neg c2]
          by_cases c3 : x = v
          · have b := bd x (by omega) (by omega)
            rw [if_pos c3, if_pos (by omega), if_neg (by omega)]
            omega
          · rw [if_neg c3, if_neg (by omega), if_neg (by omega)]
            omega)
    have e0 : (if 0 < u then st (hb bs) n D 0 else if 0 ≤ v then st (hb bs) n D (0 + 1) - g u - f 0 else st (hb bs) n D 0) = D + 4 := by
      have s0 : st (hb bs) n D 0 = D + 4 := rfl
      by_cases c1 : 0 < u
      · rw [if_pos c1]; rfl
      · have u0 : u = 0 := by omega
        subst u0
        have gu := (gf 0 hu).2
        rw [if_neg c1, if_pos (Nat.zero_le _)]
        omega
    have em : (if m < u then st (hb bs) n D m else if m ≤ v then st (hb bs) n D (m + 1) - g u - f m else st (hb bs) n D m) = st (hb bs) n D m := by
      rw [if_neg (by omega), if_neg (by omega)]
    rw [e0, em] at cs
    omega
  · have cs := cat_sum (P := fun x => pce bs n D row (mvp u v x) x) (a := fun x => if x ≤ v then st (hb bs) n D x else if x ≤ u then st (hb bs) n D (x - 1) + g u + f (x - 1) else st (hb bs) n D x) (k := 0) m (fun x hx => by
      show (pce bs n D row (mvp u v x) x).length + (if x ≤ v then st (hb bs) n D x else if x ≤ u then st (hb bs) n D (x - 1) + g u + f (x - 1) else st (hb bs) n D x) ≤ (if x + 1 ≤ v then st (hb bs) n D (x + 1) else if x + 1 ≤ u then st (hb bs) n D (x + 1 - 1) + g u + f (x + 1 - 1) else st (hb bs) n D (x + 1)) + 0
      rw [(gf (mvp u v x) (mvp_lt hu hv hx)).1 x]
      unfold mvp
      rw [if_neg c, show x + 1 - 1 = x from rfl]
      have gx := (gf x hx).2
      have gu := (gf u hu).2
      by_cases c1 : x < v
      · rw [if_pos c1, if_pos (by omega), if_pos (by omega)]
        omega
      · rw [if_neg c1]
        by_cases c2 : x = v
        · rw [if_pos c2, if_pos (by omega), if_neg (by omega), if_pos (by omega)]
          omega
        · rw [if_neg c2, if_neg (show ¬ x ≤ v by omega), if_neg (show ¬ x + 1 ≤ v by omega)]
          by_cases c3 : x ≤ u
          · have g1 := (gf (x - 1) (by omega)).2
            rw [show x - 1 + 1 = x by omega] at g1
            rw [if_pos c3, if_pos c3]
            by_cases c4 : x + 1 ≤ u
            · rw [if_pos c4]; omega
            · have xu : x = u := by omega
              rw [if_neg c4]
              rw [xu] at gx g1 ⊢
              omega
          · rw [if_neg c3, if_neg c3, if_neg (by omega)]
            omega)
    have e0 : (if 0 ≤ v then st (hb bs) n D 0 else if 0 ≤ u then st (hb bs) n D (0 - 1) + g u + f (0 - 1) else st (hb bs) n D 0) = D + 4 := by
      rw [if_pos (Nat.zero_le _)]
      rfl
    have em : (if m ≤ v then st (hb bs) n D m else if m ≤ u then st (hb bs) n D (m - 1) + g u + f (m - 1) else st (hb bs) n D m) = st (hb bs) n D m := by
      rw [if_neg (by omega), if_neg (by omega)]
    rw [e0, em] at cs
    omega
theorem cat_mv1 {D m u v : Nat} {row : Bool} (c : u ≤ v) (hv : v < m) : cat (fun x => pce bs n D row (mvp u v x) x) m = [] ++ cat (fun t => pce bs n D row (0 + t) (0 + t)) u ++ cat (fun t => pce bs n D row (u + 1 + t) (u + t)) (v - u) ++ cat (fun t => pce bs n D row (u + t) (v + t)) 1 ++ cat (fun t => pce bs n D row (v + 1 + t) (v + 1 + t)) (m - (v + 1)) := by
  have em : m = u + (v - u) + 1 + (m - (v + 1)) := by omega
  have ev : u + (v - u) = v := by omega
  conv => lhs; rw [em, cat_split, cat_split (a := u + (v - u)), cat_split (a := u)]
  rw [List.nil_append]
  congr 1
  · congr 1
    · congr 1
      · refine cat_congr (fun x hx => ?_)
        unfold mvp
        rw [if_pos c, if_pos hx, Nat.zero_add]
      · refine cat_congr (fun x hx => ?_)
        unfold mvp
        rw [if_pos c, if_neg (by omega), if_pos (by omega), show u + x + 1 = u + 1 + x by omega]
    · refine cat_congr (fun x hx => ?_)
      have : x = 0 := by omega
      subst this
      unfold mvp
      rw [if_pos c, if_neg (by omega), if_neg (by omega), if_pos (by omega), ev]
      rfl
  · refine cat_congr (fun x hx => ?_)
    unfold mvp
    rw [ev, if_pos c, if_neg (by omega), if_neg (by omega), if_neg (by omega)]
theorem cat_mv2 {D m u v : Nat} {row : Bool} (c : v < u) (hu : u < m) : cat (fun x => pce bs n D row (mvp u v x) x) m = [] ++ cat (fun t => pce bs n D row (0 + t) (0 + t)) v ++ cat (fun t => pce bs n D row (u + t) (v + t)) 1 ++ cat (fun t => pce bs n D row (v + t) (v + 1 + t)) (u - v) ++ cat (fun t => pce bs n D row (u + 1 + t) (u + 1 + t)) (m - (u + 1)) := by
  have em : m = v + 1 + (u - v) + (m - (u + 1)) := by omega
  have ev : v + 1 + (u - v) = u + 1 := by omega
  conv => lhs; rw [em, cat_split, cat_split (a := v + 1), cat_split (a := v)]
  rw [List.nil_append]
  congr 1
  · congr 1
    · congr 1
      · refine cat_congr (fun x hx => ?_)
        unfold mvp
        rw [if_neg (by omega), if_pos hx, Nat.zero_add]
      · refine cat_congr (fun x hx => ?_)
        have : x = 0 := by omega
        subst this
        unfold mvp
        rw [if_neg (by omega), if_neg (by omega), if_pos (by omega)]
        rfl
    · refine cat_congr (fun x hx => ?_)
      unfold mvp
      rw [if_neg (by omega), if_neg (by omega), if_neg (by omega), if_pos (by omega), show v + 1 + x - 1 = v + x by omega]
  · refine cat_congr (fun x hx => ?_)
    unfold mvp
    rw [ev, if_neg (by omega), if_neg (by omega), if_neg (by omega), if_neg (by omega)]
end KM1
