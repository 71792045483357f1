/-! THE REFERENCE'S TREE: what reading makes. -/
def dAt (h : Nat → Int32) (n q : Nat) : Int32 := if h q = 3 ∨ h q = 4 ∨ h q = 15 then nI (dcIn h (h q) (vpl h n q)) else -1
/-- node k is the ELEMENT at q, in the node par of depth dp -/
def NEl (X : Nat → Nat → Int32) (h : Nat → Int32) (n k q par dp : Nat) : Prop := X 6 k = nI q ∧ X 2 k = h q ∧ X 7 k = nI (vpl h n q - q - 2) ∧ X 8 k = nI (vpl h n q) ∧ X 9 k = nI (nx h n q - vpl h n q) ∧ X 10 k = dAt h n q ∧ X 3 k = nI par ∧ X 12 k = nI (dp + 1)
/-- node is the DOCUMENT at D .. r - 1; below it the nodes lo .. hi - 1 -/
def NDoc (X : Nat → Nat → Int32) (h : Nat → Int32) (n : Nat) : Nat → Nat → Nat → Nat → Bool → Nat → Nat → Nat → Prop
  | 0, _, _, _, _, _, _, _ => False
  | e + 1, node, D, r, row, dp, lo, hi => ∃ m, ∃ c : Nat → Nat, DC h n e D r row m ∧ m < 1200 ∧ X 11 node = nI m ∧ X 4 node = (if m = 0 then -1 else nI lo) ∧ c 0 = lo ∧ c m = hi ∧ ∀ i, i < m → c i < c (i + 1) ∧ NEl X h n (c i) (st h n D i) node dp ∧ X 5 (c i) = (if i + 1 = m then -1 else nI (c (i + 1))) ∧ (hasD (h (st h n D i)) → NDoc X h n e (c i) (dcIn h (h (st h n D i)) (vpl h n (st h n D i))) (st h n D (i + 1)) (h (st h n D i) == 4) (dp + 1) (c i + 1) (c (i + 1))) ∧ (¬ hasD (h (st h n D i)) → c (i + 1) = c i + 1)
theorem NDoc_s {X : Nat → Nat → Int32} {h : Nat → Int32} {n e node D r : Nat} {row : Bool} {dp lo hi : Nat} : NDoc X h n (e + 1) node D r row dp lo hi ↔ ∃ m, ∃ c : Nat → Nat, DC h n e D r row m ∧ m < 1200 ∧ X 11 node = nI m ∧ X 4 node = (if m = 0 then -1 else nI lo) ∧ c 0 = lo ∧ c m = hi ∧ ∀ i, i < m → c i < c (i + 1) ∧ NEl X h n (c i) (st h n D i) node dp ∧ X 5 (c i) = (if i + 1 = m then -1 else nI (c (i + 1))) ∧ (hasD (h (st h n D i)) → NDoc X h n e (c i) (dcIn h (h (st h n D i)) (vpl h n (st h n D i))) (st h n D (i + 1)) (h (st h n D i) == 4) (dp + 1) (c i + 1) (c (i + 1))) ∧ (¬ hasD (h (st h n D i)) → c (i + 1) = c i + 1) := Iff.rfl
theorem c_mono {c : Nat → Nat} {m : Nat} (h : ∀ i, i < m → c i < c (i + 1)) : ∀ i k, i + k ≤ m → c i + k ≤ c (i + k)
  | i, 0, _ => Nat.le_refl _
  | i, k + 1, hk => by
    have := c_mono h i k (by omega)
    have := h (i + k) (by omega)
    show c i + (k + 1) ≤ c (i + k + 1)
    omega
theorem c_le {c : Nat → Nat} {m : Nat} (h : ∀ i, i < m → c i < c (i + 1)) {i k : Nat} (h1 : i ≤ k) (h2 : k ≤ m) : c i + (k - i) ≤ c k := by
  have := c_mono h i (k - i) (by omega)
  rw [show i + (k - i) = k by omega] at this
  exact this
theorem NEl.congr {X X' : Nat → Nat → Int32} {h : Nat → Int32} {n k q par dp : Nat} (E : NEl X h n k q par dp) (hx : ∀ f, f ≠ 5 → X' f k = X f k) : NEl X' h n k q par dp := by
  obtain ⟨e1, e2, e3, e4, e5, e6, e7, e8⟩ := E
  exact ⟨by rw [hx _ (by decide)]; exact e1, by rw [hx _ (by decide)]; exact e2, by rw [hx _ (by decide)]; exact e3, by rw [hx _ (by decide)]; exact e4, by rw [hx _ (by decide)]; exact e5, by rw [hx _ (by decide)]; exact e6, by rw [hx _ (by decide)]; exact e7, by rw [hx _ (by decide)]; exact e8⟩
theorem NDoc.congr {X X' : Nat → Nat → Int32} {h : Nat → Int32} {n : Nat} : ∀ (e : Nat) {node D r : Nat} {row : Bool} {dp lo hi : Nat}, NDoc X h n e node D r row dp lo hi → X' 11 node = X 11 node → X' 4 node = X 4 node → (∀ k i, lo ≤ i → i < hi → X' k i = X k i) → NDoc X' h n e node D r row dp lo hi
  | 0, _, _, _, _, _, _, _, z, _, _, _ => z.elim
  | e + 1, node, D, r, row, dp, lo, hi, z, h11, h4, hx => by
    obtain ⟨m, c, z1, z2, z3, z4, z5, z6, z7⟩ := NDoc_s.mp z
    have inc : ∀ i, i < m → c i < c (i + 1) := fun i hi => (z7 i hi).1
    refine NDoc_s.mpr ⟨m, c, z1, z2, by rw [h11]; exact z3, by rw [h4]; exact z4, z5, z6, fun i hi => ?_⟩
    obtain ⟨y1, y2, y3, y4, y5⟩ := z7 i hi
    have l1 := c_le inc (i := 0) (k := i) (by omega) (by omega)
    have l2 := c_le inc (i := i + 1) (k := m) (by omega) (by omega)
    refine ⟨y1, y2.congr (fun f _ => hx f _ (by omega) (by omega)), by rw [hx _ _ (by omega) (by omega)]; exact y3, fun hd => ?_, y5⟩
    exact NDoc.congr e (y4 hd) (hx _ _ (by omega) (by omega)) (hx _ _ (by omega) (by omega)) (fun k j a1 a2 => hx k j (by omega) (by omega))
theorem wr_ne {X : Nat → Nat → Int32} {f k i j : Nat} {x : Int32} (h : i ≠ k) : updG X f (upd (X f) k x) j i = X j i := by
  by_cases c : j = f
  · subst c
    rw [updG_self, upd_ne' h]
  · rw [updG_ne c]
section TR2
variable {cy : Nat → ClassId} {iv : Nat → Option Nat} {ad : Nat → Nat} {μ0 : Mem} {I : Nat → Int32} {V : Nat → Value} {A : Nat → Nat → Int32} {o T sd n : Nat} {bs : Nat → Nat}
theorem x_nmL (F : TX iv ad V A o T sd bs n) {N : Nat} {X : Nat → Nat → Int32} {rD : Nat → Int32 → Mem → Option Mem} {k q z : Nat} (hz : hb bs z = 0) (hzn : z < n) : ∀ (j f : Nat), j ≤ z → (∀ i, z - j ≤ i → i < z → hb bs i ≠ 0) → j < f → f_X7_readElement_L27 cy rD f (ad o) (nI k) (nI q) (nI (z - j)) (MT cy iv ad μ0 I V A T N X) = f_X7_readElement_L27 cy rD 1 (ad o) (nI k) (nI q) (nI z) (MT cy iv ad μ0 I V A T N X)
  | j, 0, _, _, hf => by omega
  | 0, f + 1, _, _, _ => by
    have e := sx_0 (bs z) (F.2.2.2.2.2.1 _)
    rw [f_X7_readElement_L27, f_X7_readElement_L27, x_of F, Option.bind_some, Option.bind_some, show z - 0 = z from rfl, x_by F hzn, Option.bind_some, Option.bind_some, if_pos (e.mpr hz), if_pos (e.mpr hz)]
  | j + 1, f + 1, hj, hne, hf => by
    have e := sx_0 (bs (z - (j + 1))) (F.2.2.2.2.2.1 _)
    have h0 := hne (z - (j + 1)) (Nat.le_refl _) (by omega)
    conv => lhs; rw [f_X7_readElement_L27, x_of F, Option.bind_some, x_by F (by omega), Option.bind_some, if_neg (fun q => h0 (e.mp q)), nI_a1, show z - (j + 1) + 1 = z - j by omega]
    exact x_nmL F hz hzn j f (by omega) (fun i a1 a2 => hne i (by omega) a2) (by omega)
/-- what reading a DOCUMENT answers -/
def RDok (cy : Nat → ClassId) (iv : Nat → Option Nat) (ad : Nat → Nat) (μ0 : Mem) (I : Nat → Int32) (V : Nat → Value) (A : Nat → Nat → Int32) (o T n : Nat) (bs : Nat → Nat) (d e : Nat) : Prop := ∀ (N : Nat) (X : Nat → Nat → Int32) (node D r : Nat) (row : Bool) (dp : Nat), dOk (hb bs) e D r row → r ≤ n → X 10 node = nI D → X 12 node = nI dp → node < N → 2 * N ≤ D + 2 → ∃ N' X', f_X7_readDoc cy d (ad o) (nI node) (MT cy iv ad μ0 I V A T N X) = some (MT cy iv ad μ0 I V A T N' X') ∧ NDoc X' (hb bs) n e node D r row dp N N' ∧ N ≤ N' ∧ 2 * N' ≤ r + 2 ∧ ∀ k i, i < N → (i ≠ node ∨ (k ≠ 4 ∧ k ≠ 11)) → X' k i = X k i
theorem x_el (F : TX iv ad V A o T sd bs n) {d e : Nat} (H : RDok cy iv ad μ0 I V A o T n bs d e) {k q r par dp : Nat} {rw : Option Nat} {X : Nat → Nat → Int32} (hE : eOk (hb bs) e q r rw) (hr : r ≤ n) (hpar : X 3 k = nI par) (hpk : par < k) (hdp : X 12 par = nI dp) (hk2 : 2 * k ≤ q + 2) :
    ∃ N' X', f_X7_readElement cy (d + 1) (ad o) (nI k) (nI q) (MT cy iv ad μ0 I V A T (k + 1) X) = some (nI r, MT cy iv ad μ0 I V A T N' X') ∧ NEl X' (hb bs) n k q par dp ∧ X' 5 k = X 5 k ∧ k < N' ∧ 2 * N' ≤ r + 2 ∧ (hasD (hb bs q) → NDoc X' (hb bs) n e k (dcIn (hb bs) (hb bs q) (vpl (hb bs) n q)) r (hb bs q == 4) (dp + 1) (k + 1) N') ∧ (¬ hasD (hb bs q) → N' = k + 1) ∧ ∀ j i, i < k → X' j i = X j i := by
  have hn := F.2.2.2.2.2.2
  have hB := F.2.2.2.2.2.1
  have le := hE.le
  obtain ⟨s1, s2, s3, s4, s5, s6⟩ := hE.s (n := n) hr
  obtain ⟨z1, z2, z3, -⟩ := s4
  have hk : k < 1300 := by omega
  have hp1 : par < 1300 := by omega
  rw [f_X7_readElement_s]
  unfold fo_X7_readElement
  rw [x_r6 F, Option.bind_some, x_st F 6 (by decide) hk, Option.bind_some, x_r2 F, Option.bind_some, x_of F, Option.bind_some, x_by F (by omega), Option.bind_some, x_st F 2 (by decide) hk, Option.bind_some, sx_255 _ (hB _), nI_a1]
  have nm := fun X' => x_nmL (cy := cy) (μ0 := μ0) (I := I) (N := k + 1) (X := X') (rD := f_X7_readDoc cy d) (k := k) (q := q) (z := vpl (hb bs) n q - 1) F z2 (by omega) (vpl (hb bs) n q - 1 - (q + 1)) FU (by omega) (fun i a1 a2 => z3 i (by omega) a2) (by show vpl (hb bs) n q - 1 - (q + 1) < 100000; omega)
  rw [show vpl (hb bs) n q - 1 - (vpl (hb bs) n q - 1 - (q + 1)) = q + 1 by omega] at nm
  rw [nm]
  have e0 := sx_0 (bs (vpl (hb bs) n q - 1)) (hB _)
  have one : (1 : Int32) = nI 1 := by decide +kernel
  rw [f_X7_readElement_L27, x_of F, Option.bind_some, x_by F (by omega), Option.bind_some, if_pos (e0.mpr z2), x_r7 F, Option.bind_some, nI_sub' (show q ≤ vpl (hb bs) n q - 1 by omega), show nI (vpl (hb bs) n q - 1 - q) - 1 = nI (vpl (hb bs) n q - q - 2) by rw [one, nI_sub' (by omega)]; congr 1; omega, x_st F 7 (by decide) hk, Option.bind_some, x_r8 F, Option.bind_some, show nI (vpl (hb bs) n q - 1) + 1 = nI (vpl (hb bs) n q) by rw [nI_a1]; congr 1; omega, x_st F 8 (by decide) hk, Option.bind_some, x_r9 F, Option.bind_some, x_r2 F, Option.bind_some, x_ld F 2 (by decide) hk, Option.bind_some, if_pos (x_is F)]
  generalize hX1 : updG (updG (updG (updG X 6 (upd (X 6) k (nI q))) 2 (upd (updG X 6 (upd (X 6) k (nI q)) 2) k (nI (bs q)))) 7 (upd (updG (updG X 6 (upd (X 6) k (nI q))) 2 (upd (updG X 6 (upd (X 6) k (nI q)) 2) k (nI (bs q))) 7) k (nI (vpl (hb bs) n q - q - 2)))) 8 (upd (updG (updG (updG X 6 (upd (X 6) k (nI q))) 2 (upd (updG X 6 (upd (X 6) k (nI q)) 2) k (nI (bs q)))) 7 (upd (updG (updG X 6 (upd (X 6) k (nI q))) 2 (upd (updG X 6 (upd (X 6) k (nI q)) 2) k (nI (bs q))) 7) k (nI (vpl (hb bs) n q - q - 2))) 8) k (nI (vpl (hb bs) n q))) = X1
  have f2 : X1 2 k = hb bs q := by rw [← hX1]; simp [updG, upd, hb]
  have f6 : X1 6 k = nI q := by rw [← hX1]; simp [updG, upd]
  have f7 : X1 7 k = nI (vpl (hb bs) n q - q - 2) := by rw [← hX1]; simp [updG, upd]
  have f8 : X1 8 k = nI (vpl (hb bs) n q) := by rw [← hX1]; simp [updG, upd]
  have f3 : X1 3 k = nI par := by rw [← hX1]; simp [updG, upd, hpar]
  have f5 : X1 5 k = X 5 k := by rw [← hX1]; simp [updG, upd]
  have fo : ∀ j i, i ≠ k → X1 j i = X j i := fun j i hi => by
    rw [← hX1, wr_ne hi, wr_ne hi, wr_ne hi, wr_ne hi]
  rw [f2, x_size F s5 hr, ob2_some, x_st F 9 (by decide) hk, Option.bind_some, x_r10 F, Option.bind_some, x_r2 F, Option.bind_some, x_ld F 2 (by decide) hk, Option.bind_some, updG_ne (show 2 ≠ 9 by decide), f2]
  have key : ∀ X2 : Nat → Nat → Int32, X2 = updG X1 9 (upd (X1 9) k (nI (r - vpl (hb bs) n q))) → ∃ N' X', f_X7_readElement_L142 cy (f_X7_readDoc cy d) (ad o) (nI k) (ad (T + 10)) (nI k) (dAt (hb bs) n q) (MT cy iv ad μ0 I V A T (k + 1) X2) = some (nI r, MT cy iv ad μ0 I V A T N' X') ∧ NEl X' (hb bs) n k q par dp ∧ X' 5 k = X 5 k ∧ k < N' ∧ 2 * N' ≤ r + 2 ∧ (hasD (hb bs q) → NDoc X' (hb bs) n e k (dcIn (hb bs) (hb bs q) (vpl (hb bs) n q)) r (hb bs q == 4) (dp + 1) (k + 1) N') ∧ (¬ hasD (hb bs q) → N' = k + 1) ∧ ∀ j i, i < k → X' j i = X j i := fun X2 hX2 => by
    unfold f_X7_readElement_L142
    rw [x_st F 10 (by decide) hk, Option.bind_some, x_r11 F, Option.bind_some, x_st F 11 (by decide) hk, Option.bind_some, x_r4 F, Option.bind_some, x_st F 4 (by decide) hk, Option.bind_some, x_r12 F, Option.bind_some, Option.bind_some, x_r3 F, Option.bind_some, x_ld F 3 (by decide) hk, Option.bind_some]
    generalize hX3 : updG (updG (updG X2 10 (upd (X2 10) k (dAt (hb bs) n q))) 11 (upd (updG X2 10 (upd (X2 10) k (dAt (hb bs) n q)) 11) k 0)) 4 (upd (updG (updG X2 10 (upd (X2 10) k (dAt (hb bs) n q))) 11 (upd (updG X2 10 (upd (X2 10) k (dAt (hb bs) n q)) 11) k 0) 4) k (-1)) = X3
    have g2 : X3 2 k = hb bs q := by rw [← hX3, hX2]; simp [updG, upd, f2]
    have g6 : X3 6 k = nI q := by rw [← hX3, hX2]; simp [updG, upd, f6]
    have g7 : X3 7 k = nI (vpl (hb bs) n q - q - 2) := by rw [← hX3, hX2]; simp [updG, upd, f7]
    have g8 : X3 8 k = nI (vpl (hb bs) n q) := by rw [← hX3, hX2]; simp [updG, upd, f8]
    have g9 : X3 9 k = nI (r - vpl (hb bs) n q) := by rw [← hX3, hX2]; simp [updG, upd]
    have g10 : X3 10 k = dAt (hb bs) n q := by rw [← hX3]; simp [updG, upd]
    have g3 : X3 3 k = nI par := by rw [← hX3, hX2]; simp [updG, upd, f3]
    have g5 : X3 5 k = X 5 k := by rw [← hX3, hX2]; simp [updG, upd, f5]
    have go : ∀ j i, i ≠ k → X3 j i = X j i := fun j i hi => by
      rw [← fo j i hi, ← hX3, wr_ne hi, wr_ne hi, wr_ne hi, hX2, wr_ne hi]
    rw [g3, x_ld F 12 (by decide) hp1, Option.bind_some, go 12 par (by omega), hdp, x_st F 12 (by decide) hk, Option.bind_some, nI_a1, x_r10 F, Option.bind_some, x_ld F 10 (by decide) hk, Option.bind_some, updG_ne (show 10 ≠ 12 by decide), g10]
    have el : ∀ X' : Nat → Nat → Int32, (∀ j, j ≠ 4 → j ≠ 11 → X' j k = updG X3 12 (upd (X3 12) k (nI (dp + 1))) j k) → NEl X' (hb bs) n k q par dp ∧ X' 5 k = X 5 k := fun X' hx => by
      refine ⟨⟨?_, ?_, ?_, ?_, ?_, ?_, ?_, ?_⟩, ?_⟩
      · rw [hx _ (by decide) (by decide), updG_ne (by decide)]; exact g6
      · rw [hx _ (by decide) (by decide), updG_ne (by decide)]; exact g2
      · rw [hx _ (by decide) (by decide), updG_ne (by decide)]; exact g7
      · rw [hx _ (by decide) (by decide), updG_ne (by decide)]; exact g8
      · rw [hx _ (by decide) (by decide), updG_ne (by decide), s6]; exact g9
      · rw [hx _ (by decide) (by decide), updG_ne (by decide)]; exact g10
      · rw [hx _ (by decide) (by decide), updG_ne (by decide)]; exact g3
      · rw [hx _ (by decide) (by decide), updG_self, upd_self']
      · rw [hx _ (by decide) (by decide), updG_ne (by decide)]; exact g5
    have ret : ∀ (N' : Nat) (X' : Nat → Nat → Int32), X' 8 k = nI (vpl (hb bs) n q) → X' 9 k = nI (r - vpl (hb bs) n q) → f_X7_readElement_L190 cy (f_X7_readDoc cy d) (ad o) (nI k) (MT cy iv ad μ0 I V A T N' X') = some (nI r, MT cy iv ad μ0 I V A T N' X') := fun N' X' h8 h9 => by
      unfold f_X7_readElement_L190
      rw [x_r8 F, Option.bind_some, x_ld F 8 (by decide) hk, Option.bind_some, x_r9 F, Option.bind_some, x_ld F 9 (by decide) hk, Option.bind_some, h8, h9, nI_p, show vpl (hb bs) n q + (r - vpl (hb bs) n q) = r by omega]
    have out : ∀ j i, i < k → updG X3 12 (upd (X3 12) k (nI (dp + 1))) j i = X j i := fun j i hi => by
      by_cases c : j = 12
      · subst c
        rw [updG_self, upd_ne' (by omega), go _ _ (by omega)]
      · rw [updG_ne c, go _ _ (by omega)]
    by_cases hd : hasD (hb bs q)
    · have ed : dAt (hb bs) n q = nI (dcIn (hb bs) (hb bs q) (vpl (hb bs) n q)) := if_pos hd
      obtain ⟨dd, dle⟩ := s5.doc hd
      have ddl := dd.le
      rw [ed, if_neg (show ¬ nI (dcIn (hb bs) (hb bs q) (vpl (hb bs) n q)) < 0 from nI_nlt (b := 0) (Nat.zero_le _) (by omega)), if_pos (x_is F)]
      obtain ⟨N', X', e1, e2, e3, e4, e5⟩ := H (k + 1) (updG X3 12 (upd (X3 12) k (nI (dp + 1)))) k _ r _ (dp + 1) dd hr (by rw [updG_ne (by decide), g10, ed]) (by rw [updG_self, upd_self']) (by omega) (by omega)
      have hx : ∀ j, j ≠ 4 → j ≠ 11 → X' j k = updG X3 12 (upd (X3 12) k (nI (dp + 1))) j k := fun j j1 j2 => e5 j k (by omega) (Or.inr ⟨j1, j2⟩)
      obtain ⟨el1, el2⟩ := el X' hx
      refine ⟨N', X', ?_, el1, el2, by omega, e4, fun _ => e2, fun z => absurd hd z, fun j i hi => ?_⟩
      · rw [e1, Option.bind_some]
        exact ret N' X' (by rw [hx _ (by decide) (by decide), updG_ne (by decide)]; exact g8) (by rw [hx _ (by decide) (by decide), updG_ne (by decide)]; exact g9)
      · rw [e5 j i (by omega) (Or.inl (by omega)), out j i hi]
    · have ed : dAt (hb bs) n q = -1 := if_neg hd
      rw [ed, if_pos (by decide)]
      obtain ⟨el1, el2⟩ := el (updG X3 12 (upd (X3 12) k (nI (dp + 1)))) (fun _ _ _ => rfl)
      refine ⟨k + 1, _, ?_, el1, el2, by omega, by omega, fun z => absurd z hd, fun _ => rfl, out⟩
      exact ret _ _ (by rw [updG_ne (by decide)]; exact g8) (by rw [updG_ne (by decide)]; exact g9)
  have vpe : nI (vpl (hb bs) n q - 1) + 1 = nI (vpl (hb bs) n q) := by rw [nI_a1]; congr 1; omega
  by_cases c3 : hb bs q = 3
  · have ed : dAt (hb bs) n q = nI (vpl (hb bs) n q) := by
      unfold dAt dcIn
      rw [if_pos (Or.inl c3), c3]
      rfl
    rw [if_pos c3]
    unfold f_X7_readElement_L106
    rw [vpe, ← ed]
    exact key _ rfl
  · rw [if_neg c3, Option.bind_some, x_ld F 2 (by decide) hk, Option.bind_some, updG_ne (show 2 ≠ 9 by decide), f2]
    by_cases c4 : hb bs q = 4
    · have ed : dAt (hb bs) n q = nI (vpl (hb bs) n q) := by
        unfold dAt dcIn
        rw [if_pos (Or.inr (Or.inl c4)), c4]
        rfl
      rw [if_pos c4]
      unfold f_X7_readElement_L106
      rw [vpe, ← ed]
      exact key _ rfl
    · rw [if_neg c4, Option.bind_some, x_ld F 2 (by decide) hk, Option.bind_some, updG_ne (show 2 ≠ 9 by decide), f2]
      by_cases c15 : hb bs q = 15
      · rw [c15] at s5
        obtain ⟨Mx, m1, m2, m3, m4, m5, m6, m7, m8⟩ := s5.s15
        have m8l := m8.le
        have ed : dAt (hb bs) n q = nI (vpl (hb bs) n q + 8 + Mx) := by
          unfold dAt dcIn
          rw [if_pos (Or.inr (Or.inr c15)), if_pos c15, m6, nI_toInt m2]
          rfl
        have e5 : nI (vpl (hb bs) n q - 1) + 5 = nI (vpl (hb bs) n q + 4) := by rw [nI_a5]; congr 1; omega
        have e9 : nI (vpl (hb bs) n q - 1) + 9 + nI Mx = nI (vpl (hb bs) n q + 8 + Mx) := by rw [nI_c 9 9 (by decide +kernel), nI_p]; congr 1; omega
        rw [if_pos c15, x_of F, Option.bind_some, e5, x_intAt F (by omega), ob2_some, m6, e9, ← ed]
        exact key _ rfl
      · have ed : dAt (hb bs) n q = -1 := if_neg (fun z => by rcases z with z | z | z; exact c3 z; exact c4 z; exact c15 z)
        rw [if_neg c15, ← ed]
        exact key _ rfl
end TR2
