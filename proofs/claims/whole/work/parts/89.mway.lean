/-! THE REFERENCE'S TREE: children, the way, names. -/
/-- the ELEMENTS of a node -/
def NK (X : Nat → Nat → Int32) (h : Nat → Int32) (n e node D r : Nat) (row : Bool) (dp lo hi m : Nat) (c : Nat → Nat) : Prop := DC h n e D r row m ∧ m < 1200 ∧ X 11 node = nI m ∧ X 4 node = (if m = 0 then -1 else nI lo) ∧ c 0 = lo ∧ c m = hi ∧ ∀ i, i < m → c i < c (i + 1) ∧ NEl X h n (c i) (st h n D i) node dp ∧ X 5 (c i) = (if i + 1 = m then -1 else nI (c (i + 1))) ∧ (hasD (h (st h n D i)) → NDoc X h n e (c i) (dcIn h (h (st h n D i)) (vpl h n (st h n D i))) (st h n D (i + 1)) (h (st h n D i) == 4) (dp + 1) (c i + 1) (c (i + 1))) ∧ (¬ hasD (h (st h n D i)) → c (i + 1) = c i + 1)
theorem NDoc.k {X : Nat → Nat → Int32} {h : Nat → Int32} {n e node D r : Nat} {row : Bool} {dp lo hi : Nat} (z : NDoc X h n (e + 1) node D r row dp lo hi) : ∃ m c, NK X h n e node D r row dp lo hi m c := z
theorem NK.inc {X : Nat → Nat → Int32} {h : Nat → Int32} {n e node D r : Nat} {row : Bool} {dp lo hi m : Nat} {c : Nat → Nat} (z : NK X h n e node D r row dp lo hi m c) {i : Nat} (hi' : i ≤ m) : lo + i ≤ c i ∧ c i + (m - i) ≤ hi := by
  obtain ⟨z1, z2, z3, z4, z5, z6, z7⟩ := z
  have inc : ∀ t, t < m → c t < c (t + 1) := fun t ht => (z7 t ht).1
  have := c_le inc (i := 0) (k := i) (by omega) hi'
  have := c_le inc (i := i) (k := m) hi' (Nat.le_refl _)
  omega
section TR4
variable {cy : Nat → ClassId} {iv : Nat → Option Nat} {ad : Nat → Nat} {μ0 : Mem} {I : Nat → Int32} {V : Nat → Value} {A : Nat → Nat → Int32} {o T sd n N : Nat} {bs : Nat → Nat} {X : Nat → Nat → Int32}
theorem x_chL (F : TX iv ad V A o T sd bs n) {h : Nat → Int32} {n' e node D r : Nat} {row : Bool} {dp lo hi m : Nat} {c : Nat → Nat} (K : NK X h n' e node D r row dp lo hi m c) (hh : hi < 1300) {i : Nat} (him : i < m) : ∀ (j t f : Nat), t + j = i → j < f → f_X7_child_L10 cy f (ad o) (nI i) (nI (c t)) (nI t) (MT cy iv ad μ0 I V A T N X) = some (nI (c i), MT cy iv ad μ0 I V A T N X)
  | j, t, 0, _, hf => by omega
  | 0, t, f + 1, ht, _ => by
    have hm := K.2.1
    have : t = i := by omega
    subst this
    rw [f_X7_child_L10, if_pos (nI_le (Nat.le_refl _) (by omega))]
  | j + 1, t, f + 1, ht, hf => by
    have hm := K.2.1
    have l := K.inc (i := t) (by omega)
    have k5 := (K.2.2.2.2.2.2 t (by omega)).2.2.1
    rw [if_neg (by omega)] at k5
    rw [f_X7_child_L10, if_neg (nI_ge (by omega) (by omega)), x_r5 F, Option.bind_some, x_ld F 5 (by decide) (by omega), Option.bind_some, k5, nI_a1]
    exact x_chL F K hh him j (t + 1) f (by omega) (by omega)
theorem x_child (F : TX iv ad V A o T sd bs n) {h : Nat → Int32} {n' e node D r : Nat} {row : Bool} {dp lo hi m : Nat} {c : Nat → Nat} (K : NK X h n' e node D r row dp lo hi m c) (hh : hi < 1300) (hno : node < 1300) {i : Nat} (him : i < m) : f_X7_child cy (ad o) (nI node) (nI i) (MT cy iv ad μ0 I V A T N X) = some (nI (c i), MT cy iv ad μ0 I V A T N X) := by
  have hm := K.2.1
  have k4 := K.2.2.2.1
  rw [if_neg (by omega), ← K.2.2.2.2.1] at k4
  unfold f_X7_child
  rw [x_r4 F, Option.bind_some, x_ld F 4 (by decide) hno, Option.bind_some, k4]
  exact x_chL F K hh him i 0 FU (by omega) (by show i < 100000; omega)
/-- the nodes ν on the way, which goes through the numbers G -/
def WN (X : Nat → Nat → Int32) (h : Nat → Int32) (n : Nat) (G : Nat → Nat) (N : Nat) (ν hi : Nat → Nat) (k : Nat) : Prop := (∃ m c, NK X h n (23 - k) (ν k) (wD h n G k) (wD h n G k + (i4 h (wD h n G k)).toInt.toNat) (wT h n G k == 4) (k + 1) (ν k + 1) (hi k) m c) ∧ ν k < hi k ∧ hi k ≤ N ∧ X 2 (ν k) = wT h n G k ∧ X 10 (ν k) = nI (wD h n G k) ∧ X 12 (ν k) = nI (k + 1) ∧ (k = 0 → ν k = 0 ∧ X 3 (ν k) = -1) ∧ (0 < k → X 3 (ν k) = nI (ν (k - 1)) ∧ X 8 (ν k) = nI (vpl h n (st h n (wD h n G (k - 1)) (G (k - 1)))) ∧ ν (k - 1) < ν k ∧ hi k ≤ hi (k - 1))
theorem TRE.way (R : TRE X (hb bs) n N) {G : Nat → Nat} {d : Nat} (W : WV (hb bs) n G d) : ∃ ν hi, ∀ k, k ≤ d → WN X (hb bs) n G N ν hi k ∧ (k < d → ∃ m c, NK X (hb bs) n (23 - k) (ν k) (wD (hb bs) n G k) (wR (hb bs) n G k) (wT (hb bs) n G k == 4) (k + 1) (ν k + 1) (hi k) m c ∧ G k < m ∧ ν (k + 1) = c (G k) ∧ hi (k + 1) = c (G k + 1)) := by
  obtain ⟨r1, r2, r3, r4, r5, r6, r7⟩ := R
  have key : ∀ d', d' ≤ d → ∃ ν hi, ∀ k, k ≤ d' → WN X (hb bs) n G N ν hi k ∧ (k < d' → ∃ m c, NK X (hb bs) n (23 - k) (ν k) (wD (hb bs) n G k) (wR (hb bs) n G k) (wT (hb bs) n G k == 4) (k + 1) (ν k + 1) (hi k) m c ∧ G k < m ∧ ν (k + 1) = c (G k) ∧ hi (k + 1) = c (G k + 1)) := by
    intro d'
    induction d' with
    | zero =>
      intro _
      refine ⟨fun _ => 0, fun _ => N, fun k hk => ?_⟩
      have : k = 0 := by omega
      subst this
      refine ⟨⟨?_, (show 0 < N by omega), Nat.le_refl _, r2, r4, r5, fun _ => ⟨rfl, r3⟩, fun z => absurd z (by omega)⟩, fun z => absurd z (by omega)⟩
      have e0 : wD (hb bs) n G 0 + (i4 (hb bs) (wD (hb bs) n G 0)).toInt.toNat = n := W.r0
      rw [e0]
      exact NDoc.k r1
    | succ d' ih =>
      intro hd
      obtain ⟨ν, hi, hk⟩ := ih (by omega)
      obtain ⟨w1, w2, w3, w4, w5, w6, w7, w8⟩ := (hk d' (Nat.le_refl _)).1
      obtain ⟨m, c, K⟩ := w1
      obtain ⟨m2, r2', hD2, hi2, ht⟩ := W.2.2 d' (by omega)
      obtain ⟨-, e2⟩ := K.1.uniq hD2 W.2.1
      subst e2
      have l23 := (W.dc (d' + 1) hd).1
      obtain ⟨y1, y2, y3, y4, y5⟩ := K.2.2.2.2.2.2 (G d') hi2
      have ic := K.inc (i := G d') (by omega)
      have ic2 := K.inc (i := G d' + 1) (by omega)
      obtain ⟨v1, v2, v3, v4, v5, v6, v7, v8⟩ := y2
      have dd := y4 ht
      refine ⟨updG ν (d' + 1) (c (G d')), updG hi (d' + 1) (c (G d' + 1)), fun k hk' => ?_⟩
      have ne : ∀ x, x ≤ d' → updG ν (d' + 1) (c (G d')) x = ν x ∧ updG hi (d' + 1) (c (G d' + 1)) x = hi x := fun x hx => ⟨updG_ne (by omega), updG_ne (by omega)⟩
      rcases Nat.lt_or_ge k (d' + 1) with q | q
      · have h1 := hk k (by omega)
        have nk := ne k (by omega)
        refine ⟨?_, fun hk2 => ?_⟩
        · obtain ⟨x1, x2, x3, x4, x5, x6, x7, x8⟩ := h1.1
          refine ⟨by rw [nk.1, nk.2]; exact x1, by rw [nk.1, nk.2]; exact x2, by rw [nk.2]; exact x3, by rw [nk.1]; exact x4, by rw [nk.1]; exact x5, by rw [nk.1]; exact x6, by rw [nk.1]; exact x7, fun hp => ?_⟩
          rw [nk.1, nk.2, (ne (k - 1) (by omega)).1, (ne (k - 1) (by omega)).2]
          exact x8 hp
        · rw [nk.1, nk.2]
          rcases Nat.lt_or_ge k d' with q2 | q2
          · rw [(ne (k + 1) (by omega)).1, (ne (k + 1) (by omega)).2]
            exact h1.2 q2
          · have : k = d' := by omega
            subst this
            rw [updG_self, updG_self]
            exact ⟨m, c, K, hi2, rfl, rfl⟩
      · have hkd : k = d' + 1 := by omega
        subst hkd
        refine ⟨⟨?_, ?_, ?_, ?_, ?_, ?_, fun z => absurd z (by omega), fun _ => ?_⟩, fun z => absurd z (by omega)⟩
        · have e1 : 23 - d' = 23 - (d' + 1) + 1 := by omega
          have erk := W.rk (k := d') (by omega)
          have eR : wD (hb bs) n G (d' + 1) + (i4 (hb bs) (wD (hb bs) n G (d' + 1))).toInt.toNat = st (hb bs) n (wD (hb bs) n G d') (G d' + 1) := erk
          rw [updG_self, updG_self, eR]
          rw [e1] at dd
          exact NDoc.k dd
        · rw [updG_self, updG_self]; exact y1
        · rw [updG_self]; omega
        · rw [updG_self]; exact v2
        · rw [updG_self, v6]
          exact if_pos ht
        · rw [updG_self]; exact v8
        · rw [updG_self, updG_self, show d' + 1 - 1 = d' from rfl, (ne d' (Nat.le_refl _)).1, (ne d' (Nat.le_refl _)).2]
          exact ⟨v7, v4, by omega, by omega⟩
  exact key d (Nat.le_refl _)
/-! the reference's shelves -/
def RSh (A : Nat → Nat → Int32) (s : Nat) (bs : Nat → Nat) (n : Nat) (G : Nat → Nat) (d : Nat) (at' : Int32) : Prop := (∀ j, j < n → A (50 + s) j = sx (bs j)) ∧ A 6 s = nI n ∧ (∀ k, k < d → A (54 + s) k = nI (G k)) ∧ A 8 s = nI d ∧ A 9 s = at'
theorem x_ref (F : TX iv ad V A o T sd bs n) {k x : Nat} (h : (fl8 ad (upd I (T + 1) (nI N)) V)[k]? = some (.ref x)) : rdR (MT cy iv ad μ0 I V A T N X) (ad 0) 7 k = some x := m_ref F.1 h
theorem x_o (F : TX iv ad V A o T sd bs n) : isO (MT cy iv ad μ0 I V A T N X) (ad 0) 7 = true := m_is F.1
theorem x_al (F : TX iv ad V A o T sd bs n) (j : Nat) (hj : arr8 j = true) (hjT : j < 60) {i : Nat} (hi : i < lenA j) : rdA cy (MT cy iv ad μ0 I V A T N X) (tyA j) (ad j) (nI i) = some (A j i) := by
  have t := F.tt
  rw [m_ld F.1 j hj hi, tA_out (by omega)]
theorem x_way (F : TX iv ad V A o T sd bs n) {s k : Nat} (hs : s < 4) (hk : k < 25) : rdA cy (MT cy iv ad μ0 I V A T N X) 1 (ad (54 + s)) (nI k) = some (A (54 + s) k) := by
  obtain ⟨a1, a2, a3⟩ := arr_way hs
  have := x_al (cy := cy) (μ0 := μ0) (I := I) (N := N) (X := X) (i := k) F (54 + s) a1 (by omega) (by rw [a3]; exact hk)
  rw [a2] at this
  exact this
theorem x_stL (F : TX iv ad V A o T sd bs n) {s : Nat} (hs : s < 4) {G : Nat → Nat} {d : Nat} (hd : A 8 s = nI d) (hw : ∀ k, k < d → A (54 + s) k = nI (G k)) (hd2 : d < 24) {ν hi : Nat → Nat} (hN : N < 1300) (H : ∀ k, k ≤ d → WN X (hb bs) n G N ν hi k ∧ (k < d → ∃ m c, NK X (hb bs) n (23 - k) (ν k) (wD (hb bs) n G k) (wR (hb bs) n G k) (wT (hb bs) n G k == 4) (k + 1) (ν k + 1) (hi k) m c ∧ G k < m ∧ ν (k + 1) = c (G k) ∧ hi (k + 1) = c (G k + 1))) : ∀ (j k f : Nat), k + j = d → j < f → f_X8_stands_L5 cy f (ad 0) (ad o) (nI s) (nI (ν k)) (nI k) (MT cy iv ad μ0 I V A T N X) = some (nI (ν d), MT cy iv ad μ0 I V A T N X)
  | j, k, 0, _, hf => by omega
  | 0, k, f + 1, hk, _ => by
    have : k = d := by omega
    subst this
    have a8 := x_al (cy := cy) (μ0 := μ0) (I := I) (N := N) (X := X) (i := s) F 8 rfl (by decide) hs
    rw [f_X8_stands_L5, x_ref F (k := 8) rfl, Option.bind_some, show rdA cy (MT cy iv ad μ0 I V A T N X) 1 (ad 8) (nI s) = _ from a8, Option.bind_some, hd, if_pos (nI_le (Nat.le_refl _) (by omega))]
  | j + 1, k, f + 1, hk, hf => by
    have a8 := x_al (cy := cy) (μ0 := μ0) (I := I) (N := N) (X := X) (i := s) F 8 rfl (by decide) hs
    have t := F.tt
    obtain ⟨H1, H2⟩ := H k (by omega)
    obtain ⟨m, c, K, gm, e1, e2⟩ := H2 (by omega)
    obtain ⟨-, x2, x3, -⟩ := H1
    have dq : rdQ cy (MT cy iv ad μ0 I V A T N X) 6 (ad 7) (nI s) = some (ad (54 + s)) := m_ways F.1 hs
    rw [f_X8_stands_L5, x_ref F (k := 8) rfl, Option.bind_some, show rdA cy (MT cy iv ad μ0 I V A T N X) 1 (ad 8) (nI s) = _ from a8, Option.bind_some, hd, if_neg (nI_ge (by omega) (by omega)), x_ref F (k := 7) rfl, Option.bind_some, dq, Option.bind_some, x_way F hs (by omega), Option.bind_some, hw k (by omega), if_pos (x_is F), x_child F K (by omega) (by omega) gm, ob2_some, ← e1, nI_a1]
    exact x_stL F hs hd hw hd2 hN H j (k + 1) f (by omega) (by omega)
end TR4
