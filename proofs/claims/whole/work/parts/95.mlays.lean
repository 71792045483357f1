/-! THE REFERENCE LAYS what came out on the shelf, and tells. -/
section WO5
variable {cy : Nat → ClassId} {iv : Nat → Option Nat} {ad : Nat → Nat} {μ0 : Mem} {I : Nat → Int32} {V : Nat → Value} {A : Nat → Nat → Int32} {o T sd n N : Nat} {bs : Nat → Nat} {X : Nat → Nat → Int32}
/-- a slot that is no tree's -/
theorem x_as (F : TX iv ad V A o T sd bs n) (j : Nat) (hj : arr8 j = true) (hj6 : j < 60) {i : Nat} (hi : i < lenA j) (x : Int32) : wrA cy (MT cy iv ad μ0 I V A T N X) (tyA j) (ad j) (nI i) x = some (MT cy iv ad μ0 I V (updG A j (upd (A j) i x)) T N X) := by
  have t := F.tt
  rw [m_st F.1 j hj hi, tA_out (by omega), tA_o (by omega)]
theorem TX.a (F : TX iv ad V A o T sd bs n) {j : Nat} {f : Nat → Int32} (hj : j ≠ sd) : TX iv ad V (updG A j f) o T sd bs n := by
  obtain ⟨f1, f2, f3, f4, f5, f6, f7⟩ := F
  exact ⟨f1, f2, f3, f4, fun i hi => by rw [updG_ne (fun z => hj z.symm)]; exact f5 i hi, f6, f7⟩
theorem x_i (F : TX iv ad V A o T sd bs n) (k : Nat) {x : Int32} (h : (fl8 ad (upd I (T + 1) (nI N)) V)[k]? = some (.int x)) : rdI (MT cy iv ad μ0 I V A T N X) (ad 0) 7 k = some x := m_int F.1 h
theorem y_24 (F : TX iv ad V A 21 60 sd bs n) {s : Int32} : ∀ (j i f : Nat) (as : Nat → Int32), i + j = 2400 → j < f → (∀ p, p < i → as p = 0) → ∃ as', f_X8_lays_L24 cy f (ad 0) s (nI i) (MT cy iv ad μ0 I V (updG A 41 as) 60 N X) = f_X8_lays_L51 cy FU (ad 0) s 0 (I 28) (MT cy iv ad μ0 I V (updG A 41 as') 60 N X) ∧ ∀ p, p < 2400 → as' p = 0
  | j, i, 0, as, _, hf, _ => by omega
  | 0, i, f + 1, as, hi, _, h => by
    have t := F.tt
    have F' := F.a (j := 41) (f := as) (by omega)
    have : i = 2400 := by omega
    subst this
    refine ⟨as, ?_, h⟩
    rw [f_X8_lays_L24, if_pos (show (2400 : Int32) ≤ nI 2400 by decide +kernel), show rdI (MT cy iv ad μ0 I V (updG A 41 as) 60 N X) (ad 0) 7 28 = some (I 28) from m_int F.1 rfl, Option.bind_some]
  | j + 1, i, f + 1, as, hi, hf, h => by
    have t := F.tt
    have F' := F.a (j := 41) (f := as) (by omega)
    obtain ⟨as', e1, e2⟩ := y_24 F j (i + 1) f (upd as i 0) (by omega) (by omega) (fun p hp => by
      by_cases c : p = i
      · subst c; exact upd_self'
      · rw [upd_ne' c]; exact h p (by omega))
    refine ⟨as', ?_, e2⟩
    have st := x_as (cy := cy) (μ0 := μ0) (I := I) (N := N) (X := X) (i := i) F' 41 rfl (by decide) (by show i < 2416; omega) 0
    rw [updG_self, updG_updG] at st
    rw [f_X8_lays_L24, if_neg (show ¬ (2400 : Int32) ≤ nI i from nI_ge (b := 2400) (by omega) (by decide)), x_ref F' (k := 41) rfl, Option.bind_some, show vp_nar .boolean 0 = 0 from rfl, show wrA cy (MT cy iv ad μ0 I V (updG A 41 as) 60 N X) 2 (ad 41) (nI i) 0 = _ from st, Option.bind_some, nI_a1]
    exact e1
/-- four places are set aside -/
def as4 (as : Nat → Int32) (p k : Nat) : Nat → Int32 := fun j => if p ≤ j ∧ j < p + k then 1 else as j
theorem as4_s {as : Nat → Int32} {p k : Nat} : upd (as4 as p k) (p + k) 1 = as4 as p (k + 1) := by
  funext i
  unfold upd as4
  by_cases c : i = p + k
  · subst c
    rw [if_pos rfl, if_pos (by omega)]
  · rw [if_neg c]
    by_cases c2 : p ≤ i ∧ i < p + k
    · rw [if_pos c2, if_pos (by omega)]
    · rw [if_neg c2, if_neg (by omega)]
theorem y_intOut (F : TX iv ad V A 21 60 sd bs n) {ob : Nat → Nat} (hB : bB ob) (hA : A 26 = hs ob) {p : Nat} (hp : p + 4 ≤ 12000) : f_X8_intAt cy (ad 26) (nI p) (MT cy iv ad μ0 I V A 60 N X) = some (i4 (hb ob) p, MT cy iv ad μ0 I V A 60 N X) := by
  have rd : ∀ j, j < 12000 → rdA cy (MT cy iv ad μ0 I V A 60 N X) 0 (ad 26) (nI j) = some (sx (ob j)) := fun j hj => by
    have := x_al (cy := cy) (μ0 := μ0) (I := I) (N := N) (X := X) (i := j) F 26 rfl (by decide) hj
    rw [hA] at this
    exact this
  unfold f_X8_intAt
  rw [rd _ (by omega), Option.bind_some, nI_a1, rd _ (by omega), Option.bind_some, nI_a2, rd _ (by omega), Option.bind_some, nI_a3, rd _ (by omega), Option.bind_some, sx_255 _ (hB _), sx_255 _ (hB _), sx_255 _ (hB _), sx_24 _ (hB _)]
  rfl
theorem y_arL (F : TX iv ad V A 21 60 sd bs n) {ob : Nat → Nat} (hB : bB ob) (hA : A 26 = hs ob) {p : Nat} (hp : p + 4 ≤ n) {as : Nat → Int32} : ∀ (j k f : Nat), k + j = 4 → j < f → f_X8_around_L2 cy f (ad 0) (nI p) (nI k) (MT cy iv ad μ0 I V (updG A 41 (as4 as p k)) 60 N X) = some ((if i4 (hb ob) p = i4 (hb bs) p then 0 else 1), MT cy iv ad μ0 I V (updG A 41 (as4 as p 4)) 60 N X)
  | j, k, 0, _, hf => by omega
  | 0, k, f + 1, hk, _ => by
    have t := F.tt
    have hn := F.2.2.2.2.2.2
    have : k = 4 := by omega
    subst this
    have F' := F.a (j := 41) (f := as4 as p 4) (by omega)
    rw [f_X8_around_L2, if_pos (show (4 : Int32) ≤ nI 4 by decide), x_ref F' (k := 26) rfl, Option.bind_some, y_intOut F' hB (by rw [updG_ne (by decide)]; exact hA) (by omega), ob2_some, x_ref F' (k := 21) rfl, Option.bind_some, x_of F', Option.bind_some, x_intAt F' hp, ob2_some]
    by_cases c : i4 (hb ob) p = i4 (hb bs) p
    · rw [if_pos c, if_pos c]
    · rw [if_neg c, if_neg c]
  | j + 1, k, f + 1, hk, hf => by
    have t := F.tt
    have hn := F.2.2.2.2.2.2
    have F' := F.a (j := 41) (f := as4 as p k) (by omega)
    have st := x_as (cy := cy) (μ0 := μ0) (I := I) (N := N) (X := X) (i := p + k) F' 41 rfl (by decide) (by show p + k < 2416; omega) 1
    rw [updG_self, updG_updG, as4_s] at st
    rw [f_X8_around_L2, if_neg (show ¬ (4 : Int32) ≤ nI k from nI_ge (b := 4) (by omega) (by decide)), x_ref F' (k := 41) rfl, Option.bind_some, nI_p, show vp_nar .boolean 1 = 1 from rfl, show wrA cy (MT cy iv ad μ0 I V (updG A 41 (as4 as p k)) 60 N X) 2 (ad 41) (nI (p + k)) 1 = _ from st, Option.bind_some, nI_a1]
    exact y_arL F hB hA hp j (k + 1) f (by omega) (by omega)
theorem y_around (F : TX iv ad V A 21 60 sd bs n) {ob : Nat → Nat} (hB : bB ob) (hA : A 26 = hs ob) {p : Nat} (hp : p + 4 ≤ n) {as : Nat → Int32} : f_X8_around cy (ad 0) (nI p) (MT cy iv ad μ0 I V (updG A 41 as) 60 N X) = some ((if i4 (hb ob) p = i4 (hb bs) p then 0 else 1), MT cy iv ad μ0 I V (updG A 41 (as4 as p 4)) 60 N X) := by
  unfold f_X8_around
  have := y_arL (cy := cy) (μ0 := μ0) (I := I) (N := N) (X := X) (as := as) F hB hA hp 4 0 FU (by omega) (by decide)
  rw [show as4 as p 0 = as by funext i; unfold as4; rw [if_neg (by omega)]] at this
  exact this
variable {G : Nat → Nat} {d : Nat}
/-- what is aside once the levels from k on are through -/
def ASk (h : Nat → Int32) (n : Nat) (G : Nat → Nat) (d k : Nat) (as : Nat → Int32) : Prop := ∀ p, p < 2400 → (as p = 0 ↔ (∀ j, k ≤ j → j ≤ d → p < wD h n G j ∨ wD h n G j + 4 ≤ p) ∧ ∀ j, k ≤ j + 1 → j < d → wT h n G (j + 1) = 15 → p < wV h n G j ∨ wV h n G j + 4 ≤ p)
theorem lpc_1 {h : Nat → Int32} {n k : Nat} {G : Nat → Nat} : lpc h n G (k + 1) = lpc h n G k + 1 + (if wT h n G k = 15 then 1 else 0) := by
  match k with
  | 0 =>
    rw [show wT h n G 0 = 0 from rfl, if_neg (by decide)]
    rfl
  | k + 1 => rfl
theorem lpc_le {h : Nat → Int32} {n : Nat} {G : Nat → Nat} : ∀ k, lpc h n G k ≤ 2 * k
  | 0 => Nat.le_refl _
  | k + 1 => by
    rw [lpc_1]
    have := lpc_le (h := h) (n := n) (G := G) k
    split <;> omega
theorem y_51 (F : TX iv ad V A 21 60 sd bs n) {ob : Nat → Nat} (hB : bB ob) (hA : A 26 = hs ob) (W : WV (hb bs) n G d) (hN : N < 1300) {M : List Nat} {n' : Nat} (E : ED bs n G d M ob n') (hn' : n' ≤ 2400) {ν hi : Nat → Nat} (H : ∀ k, k ≤ d → WN X (hb bs) n G N ν hi k) {s : Nat} (hs4 : s < 4) (hI : I 27 = nI n') (h6 : A 6 s = nI n) : ∀ (k f : Nat) (as : Nat → Int32) (c : Nat), k ≤ d + 1 → k < f → c + lpc (hb bs) n G k = lpc (hb bs) n G (d + 1) → ASk (hb bs) n G d k as → ∃ as', f_X8_lays_L51 cy f (ad 0) (nI s) (if n' = n then 0 else nI c) (if k = 0 then -1 else nI (ν (k - 1))) (MT cy iv ad μ0 I V (updG A 41 as) 60 N X) = f_X8_lays_L144 cy FU (ad 0) (nI s) (if n' = n then 0 else nI (lpc (hb bs) n G (d + 1))) 0 (nI (max n' n)) (MT cy iv ad μ0 I V (updG A 41 as') 60 N X) ∧ ASk (hb bs) n G d 0 as'
  | k, 0, as, c, _, hf, _, _ => by omega
  | 0, f + 1, as, c, _, _, hc, ha => by
    have t := F.tt
    have hn := F.2.2.2.2.2.2
    have F' := F.a (j := 41) (f := as) (by omega)
    refine ⟨as, ?_, ha⟩
    have r6 := x_al (cy := cy) (μ0 := μ0) (I := I) (N := N) (X := X) (i := s) F' 6 rfl (by decide) hs4
    rw [updG_ne (by decide), h6] at r6
    have i27 : rdI (MT cy iv ad μ0 I V (updG A 41 as) 60 N X) (ad 0) 7 27 = some (nI n') := by rw [← hI]; exact m_int F.1 rfl
    have hc : c = lpc (hb bs) n G (d + 1) := hc
    rw [f_X8_lays_L51, if_pos rfl, if_pos (by decide), i27, Option.bind_some, x_ref F' (k := 6) rfl, Option.bind_some, show rdA cy (MT cy iv ad μ0 I V (updG A 41 as) 60 N X) 1 (ad 6) (nI s) = _ from r6, Option.bind_some, ← hc]
    unfold f_X8_lays_L142
    by_cases q : n' ≤ n
    · rw [if_pos (nI_le q (by omega)), Option.bind_some, show rdA cy (MT cy iv ad μ0 I V (updG A 41 as) 60 N X) 1 (ad 6) (nI s) = _ from r6, Option.bind_some, Nat.max_eq_right q]
    · rw [if_neg (nI_ge (by omega) (by omega)), Option.bind_some, Nat.max_eq_left (by omega)]
  | k + 1, f + 1, as, c, hk, hf, hc, ha => by
    have t := F.tt
    have hn := F.2.2.2.2.2.2
    have F' := fun x => F.a (j := 41) (f := x) (by omega)
    obtain ⟨-, x2, x3, x4, x5, x6, x7, x8⟩ := H k (by omega)
    obtain ⟨mK, hmK, hDK⟩ := W.r (k := k) (by omega)
    have hK1 := hDK.1
    have hK2 := hDK.2.1
    have hKn : ν k < 1300 := by omega
    have l := lpc_1 (h := hb bs) (n := n) (k := k) (G := G)
    have ll := lpc_le (h := hb bs) (n := n) (G := G) (d + 1)
    have d23 := (W.dc d (Nat.le_refl _)).1
    have l' := E.n'_le W (k := k) (by omega)
    -- the length at the DOCUMENT's place
    have ed : (i4 (hb ob) (wD (hb bs) n G k) = i4 (hb bs) (wD (hb bs) n G k)) ↔ n' = n := by
      rw [E.i4D (by omega), hDK.2.2.1, nI_eq (by omega) (by omega)]
      omega
    have e0 : (if k + 1 = 0 then (-1 : Int32) else nI (ν (k + 1 - 1))) = nI (ν k) := by rw [if_neg (by omega)]; rfl
    have par : X 3 (ν k) = (if k = 0 then (-1 : Int32) else nI (ν (k - 1))) := by
      by_cases z : k = 0
      · rw [if_pos z]; exact (x7 z).2
      · rw [if_neg z]; exact (x8 (by omega)).1
    have a1 := y_around (cy := cy) (μ0 := μ0) (I := I) (N := N) (X := X) (as := as) F hB hA (p := wD (hb bs) n G k) (by omega)
    rw [f_X8_lays_L51, e0, if_neg (show ¬ nI (ν k) < 0 from nI_nlt (b := 0) (Nat.zero_le _) (by omega)), x_ref (F' _) (k := 21) rfl, Option.bind_some, x_r10 (F' _), Option.bind_some, x_ld (F' _) 10 (by decide) hKn, Option.bind_some, x5, if_pos (x_o (F' _)), a1, ob2_some, x_ref (F' _) (k := 21) rfl, Option.bind_some, x_r2 (F' _), Option.bind_some, x_ld (F' _) 2 (by decide) hKn, Option.bind_some, x4]
    unfold f_X8_lays_L101
    have sum1 : (if n' = n then (0 : Int32) else nI c) + (if i4 (hb ob) (wD (hb bs) n G k) = i4 (hb bs) (wD (hb bs) n G k) then 0 else 1) = (if n' = n then 0 else nI (c + 1)) := by
      by_cases z : n' = n
      · rw [if_pos z, if_pos (ed.mpr z), if_pos z]; rfl
      · rw [if_neg z, if_neg (fun y => z (ed.mp y)), if_neg z, nI_a1]
    rw [sum1]
    by_cases c15 : wT (hb bs) n G k = 15
    · rw [if_pos c15] at l
      have k0 : 0 < k := by
        rcases Nat.eq_zero_or_pos k with z | z
        · subst z
          exact absurd c15 (show ¬ (0 : Int32) = 15 by decide)
        · exact z
      obtain ⟨k', rfl⟩ : ∃ k', k = k' + 1 := ⟨k - 1, by omega⟩
      have x8' := x8 k0
      have ov := W.ord (k := k') (by omega)
      have eV : wV (hb bs) n G k' = vpl (hb bs) n (st (hb bs) n (wD (hb bs) n G k') (G k')) := rfl
      rw [← eV] at ov
      have o15 := ov.2.2.2.1 c15
      have h8 : X 8 (ν (k' + 1)) = nI (wV (hb bs) n G k') := x8'.2.1
      have a2 := y_around (cy := cy) (μ0 := μ0) (I := I) (N := N) (X := X) (as := as4 as (wD (hb bs) n G (k' + 1)) 4) F hB hA (p := wV (hb bs) n G k') (by omega)
      have ev : (i4 (hb ob) (wV (hb bs) n G k') = i4 (hb bs) (wV (hb bs) n G k')) ↔ n' = n := by
        obtain ⟨m2, r2, hD2, hi2, ht2⟩ := W.2.2 k' (by omega)
        have hE := hD2.2.2.2.2.2 (G k') hi2
        have le := hD2.le' (i := G k' + 1) (by omega)
        have hrn := hD2.2.1
        obtain ⟨s1, s2, s3, s4, s5, s6⟩ := hE.s (n := n) (by omega)
        have s5' : vOk (hb bs) (23 - k') (wT (hb bs) n G (k' + 1)) (wV (hb bs) n G k') (st (hb bs) n (wD (hb bs) n G k') (G k' + 1)) := s5
        rw [c15] at s5'
        obtain ⟨Mx, m1, m2', m3, m4, m5, m6, m7, m8⟩ := s5'.s15
        have erk := W.rk (k := k') (by omega)
        rw [E.i4V (by omega) c15, m5, ← erk, nI_eq (by omega) (by omega)]
        omega
      have sum2 : (if n' = n then (0 : Int32) else nI (c + 1)) + (if i4 (hb ob) (wV (hb bs) n G k') = i4 (hb bs) (wV (hb bs) n G k') then 0 else 1) = (if n' = n then 0 else nI (c + 2)) := by
        by_cases z : n' = n
        · rw [if_pos z, if_pos (ev.mpr z), if_pos z]; rfl
        · rw [if_neg z, if_neg (fun y => z (ev.mp y)), if_neg z, nI_a1]
      obtain ⟨as', q1, q2⟩ := y_51 F hB hA W hN E hn' H hs4 hI h6 (k' + 1) f (as4 (as4 as (wD (hb bs) n G (k' + 1)) 4) (wV (hb bs) n G k') 4) (c + 2) (by omega) (by omega) (by omega) (fun p hp => by
        unfold as4
        constructor
        · intro z
          by_cases w1 : wV (hb bs) n G k' ≤ p ∧ p < wV (hb bs) n G k' + 4
          · rw [if_pos w1] at z
            exact absurd z (by decide)
          · rw [if_neg w1] at z
            by_cases w2 : wD (hb bs) n G (k' + 1) ≤ p ∧ p < wD (hb bs) n G (k' + 1) + 4
            · rw [if_pos w2] at z
              exact absurd z (by decide)
            · rw [if_neg w2] at z
              have y := (ha p hp).mp z
              refine ⟨fun j j1 j2 => ?_, fun j j1 j2 j3 => ?_⟩
              · rcases Nat.eq_or_lt_of_le j1 with q | q
                · rw [← q]; omega
                · exact y.1 j (by omega) j2
              · rcases Nat.eq_or_lt_of_le j1 with q | q
                · have : j = k' := by omega
                  subst this
                  omega
                · exact y.2 j (by omega) j2 j3
        · intro z
          have z1 := z.1 (k' + 1) (Nat.le_refl _) (by omega)
          have z2 := z.2 k' (Nat.le_refl _) (by omega) c15
          rw [if_neg (by omega), if_neg (by omega)]
          exact (ha p hp).mpr ⟨fun j j1 j2 => z.1 j (by omega) j2, fun j j1 j2 j3 => z.2 j (by omega) j2 j3⟩)
      refine ⟨as', ?_, q2⟩
      rw [if_pos c15, Option.bind_some, x_r8 (F' _), Option.bind_some, x_ld (F' _) 8 (by decide) hKn, Option.bind_some, h8, if_pos (x_o (F' _)), a2, ob2_some, sum2, x_ref (F' _) (k := 21) rfl, Option.bind_some, x_r3 (F' _), Option.bind_some, x_ld (F' _) 3 (by decide) hKn, Option.bind_some, par]
      exact q1
    · rw [if_neg c15] at l
      obtain ⟨as', q1, q2⟩ := y_51 F hB hA W hN E hn' H hs4 hI h6 k f (as4 as (wD (hb bs) n G k) 4) (c + 1) (by omega) (by omega) (by omega) (fun p hp => by
        unfold as4
        constructor
        · intro z
          by_cases w2 : wD (hb bs) n G k ≤ p ∧ p < wD (hb bs) n G k + 4
          · rw [if_pos w2] at z
            exact absurd z (by decide)
          · rw [if_neg w2] at z
            have y := (ha p hp).mp z
            refine ⟨fun j j1 j2 => ?_, fun j j1 j2 j3 => ?_⟩
            · rcases Nat.eq_or_lt_of_le j1 with q | q
              · rw [← q]; omega
              · exact y.1 j (by omega) j2
            · rcases Nat.eq_or_lt_of_le j1 with q | q
              · rw [← q] at j3
                exact absurd j3 c15
              · exact y.2 j (by omega) j2 j3
        · intro z
          have z1 := z.1 k (Nat.le_refl _) (by omega)
          rw [if_neg (by omega)]
          exact (ha p hp).mpr ⟨fun j j1 j2 => z.1 j (by omega) j2, fun j j1 j2 j3 => z.2 j (by omega) j2 j3⟩)
      refine ⟨as', ?_, q2⟩
      rw [if_neg c15, x_ref (F' _) (k := 21) rfl, Option.bind_some, x_r3 (F' _), Option.bind_some, x_ld (F' _) 3 (by decide) hKn, Option.bind_some, par]
      exact q1
end WO5
