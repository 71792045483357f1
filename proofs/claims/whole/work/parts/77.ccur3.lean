/-! THE CLASS'S CURSOR: names are found, lengths on the way made greater. -/
def nmEq (h : Nat → Int32) (n q : Nat) (h1 : Nat → Int32) (s e : Nat) : Prop := vpl h n q - 1 - (q + 1) = e - s ∧ ∀ k, k < e - s → h (q + 1 + k) = h1 (s + k)
noncomputable def ffi (P : Nat → Prop) : Nat → Nat → Option Nat
  | _, 0 => none
  | i, r + 1 => @ite (Option Nat) (P i) (Classical.propDecidable _) (some i) (ffi P (i + 1) r)
theorem ffi_some {P : Nat → Prop} : ∀ {r i x : Nat}, ffi P i r = some x → i ≤ x ∧ x < i + r ∧ P x
  | 0, i, x, e => by cases e
  | r + 1, i, x, e => by
    unfold ffi at e
    by_cases c : P i
    · rw [if_pos c] at e
      cases e
      exact ⟨Nat.le_refl _, by omega, c⟩
    · rw [if_neg c] at e
      have := ffi_some e
      exact ⟨by omega, by omega, this.2.2⟩
theorem ffi_congr {P Q : Nat → Prop} : ∀ {r i : Nat}, (∀ x, i ≤ x → x < i + r → (P x ↔ Q x)) → ffi P i r = ffi Q i r
  | 0, i, _ => rfl
  | r + 1, i, hh => by
    unfold ffi
    by_cases c : P i
    · rw [if_pos c, if_pos ((hh i (Nat.le_refl _) (by omega)).mp c)]
    · rw [if_neg c, if_neg (fun z => c ((hh i (Nat.le_refl _) (by omega)).mpr z)), ffi_congr (fun x a1 a2 => hh x (by omega) (by omega))]
section CC3
variable {cy : Nat → ClassId} {iv : Nat → Option Nat} {ad : Nat → Nat} {μ0 : Mem} {J : Nat → Int32} {w : Nat} {B : Nat → Nat → Int32} {cs sp n : Nat} {h : Nat → Int32} {I : Nat → Nat} {d m : Nat} {at' : Int32}
theorem C_nonL (hL : Lay6 iv ad) (hc : cur6 cs = true) {μs : Mem} (hμ : μs = MC cy iv ad μ0 J w B) {o : Int32} {cap c a1 c1 cap1 n1 : Nat} {h1 : Nat → Int32} {o1 : Int32} {a : Nat} (S : SP cy μs a c cap n h o) (S1 : SP cy μs a1 c1 cap1 n1 h1 o1) (C : CUR J B cs h n I d m at') {s e : Nat} (hse : s ≤ e) (he : e ≤ n1) : ∀ (r i f : Nat), i + r = m → r < f → f_X0_numberOfName_L3 cy f (ad cs) a a1 (nI s) (nI e) (nI i) μs = some (zfI (ffi (fun i => nmEq h n (st h n (wD h n I d) i) h1 s e) i r), μs)
  | r, i, 0, _, hf => by omega
  | 0, i, f + 1, hi, hf => by
    subst hμ
    have hm := C.2.2.2.2.2.2.2.2.1
    rw [f_X0_numberOfName_L3, C_cnt hL hc, Option.bind_some, C.2.2.1, if_pos (nI_le (by omega) (by omega))]
    rfl
  | r + 1, i, f + 1, hi, hf => by
    subst hμ
    have hm := C.2.2.2.2.2.2.2.2.1
    have b := S.2.2
    have b1 := S1.2.2
    obtain ⟨hE, hlt, hn24⟩ := C.el (i := i) (by omega)
    have hs := hE.s (n := n) (by omega)
    have hl := hE.le
    have ih := C_nonL hL hc rfl S S1 C hse he r (i + 1) f (by omega) (by omega)
    rw [f_X0_numberOfName_L3, C_cnt hL hc, Option.bind_some, C.2.2.1, if_neg (nI_ge (by omega) (by omega)), if_pos (C_is hL hc), C_startOf hL hc C (by omega), ob2_some, if_pos (s_is S), nI_a1, s_behindName S (by omega), ob2_some, show bn h n (st h n (wD h n I d) i + 1) = vpl h n (st h n (wD h n I d) i) from rfl, show (1 : Int32) = nI 1 by decide +kernel, nI_sub' (show 1 ≤ vpl h n (st h n (wD h n I d) i) by omega), nI_sub' (show st h n (wD h n I d) i + 1 ≤ vpl h n (st h n (wD h n I d) i) - 1 by omega), nI_sub' hse, ffi]
    unfold f_X0_numberOfName_L60
    rw [nI_a1]
    by_cases c1 : vpl h n (st h n (wD h n I d) i) - 1 - (st h n (wD h n I d) i + 1) = e - s
    · rw [if_pos (by rw [c1]), if_pos (s_is S)]
      obtain ⟨x, g1, g2, g3⟩ := P_same S S1 (p := st h n (wD h n I d) i + 1) (s := s) (m := vpl h n (st h n (wD h n I d) i) - 1 - (st h n (wD h n I d) i + 1)) (by omega) (by omega)
      rw [g1, ob2_some]
      by_cases c2 : ∀ k, k < vpl h n (st h n (wD h n I d) i) - 1 - (st h n (wD h n I d) i + 1) → h (st h n (wD h n I d) i + 1 + k) = h1 (s + k)
      · rw [g2 c2, if_neg (show ¬ (1 : Int32) = 0 by decide), if_pos ⟨c1, fun k hk => c2 k (by omega)⟩]
        rfl
      · rw [g3 c2, if_pos rfl, if_neg (fun z => c2 (fun k hk => z.2 k (by omega)))]
        exact ih
    · rw [if_neg (fun z => c1 ((nI_eq (by omega) (by omega)).mp z)), if_neg (fun z => c1 z.1)]
      exact ih
theorem C_numberOfName (hL : Lay6 iv ad) (hc : cur6 cs = true) {o : Int32} {cap c a1 c1 cap1 n1 : Nat} {h1 : Nat → Int32} {o1 : Int32} {a : Nat} (S : SP cy (MC cy iv ad μ0 J w B) a c cap n h o) (S1 : SP cy (MC cy iv ad μ0 J w B) a1 c1 cap1 n1 h1 o1) (C : CUR J B cs h n I d m at') {s e : Nat} (hse : s ≤ e) (he : e ≤ n1) : f_X0_numberOfName cy (ad cs) a a1 (nI s) (nI e) (MC cy iv ad μ0 J w B) = some (zfI (ffi (fun i => nmEq h n (st h n (wD h n I d) i) h1 s e) 0 m), MC cy iv ad μ0 J w B) := by
  have hm := C.2.2.2.2.2.2.2.2.1
  unfold f_X0_numberOfName
  exact C_nonL hL hc rfl S S1 C hse he m 0 FU (by omega) (by show m < 100000; omega)
/-! places on the way -/
theorem WV.ord (W : WV h n I d) {k : Nat} (hk : k < d) : wD h n I k + 4 ≤ st h n (wD h n I k) (I k) ∧ st h n (wD h n I k) (I k) + 2 ≤ vpl h n (st h n (wD h n I k) (I k)) ∧ vpl h n (st h n (wD h n I k) (I k)) ≤ wD h n I (k + 1) ∧ (wT h n I (k + 1) = 15 → vpl h n (st h n (wD h n I k) (I k)) + 9 ≤ wD h n I (k + 1)) ∧ wD h n I (k + 1) + 5 ≤ st h n (wD h n I k) (I k + 1) ∧ st h n (wD h n I k) (I k + 1) ≤ n := by
  obtain ⟨m, r, hD, hi, ht⟩ := W.2.2 k hk
  have hE := hD.2.2.2.2.2 (I k) hi
  have le := hD.le' (i := I k + 1) (by omega)
  have le0 := hD.le' (i := I k) (by omega)
  have hrn := hD.2.1
  have hs := hE.s (n := n) (by omega)
  obtain ⟨hd, hp⟩ := hs.2.2.2.2.1.doc ht
  refine ⟨by omega, hs.2.1, hp, fun h15 => ?_, hd.le, by omega⟩
  have h15 : h (st h n (wD h n I k) (I k)) = 15 := h15
  have hv := hs.2.2.2.2.1
  rw [h15] at hv
  obtain ⟨M, m1, m2, m3, m4, m5, m6, m7, m8⟩ := hv.s15
  show _ ≤ dcIn h (h (st h n (wD h n I k) (I k))) (vpl h n (st h n (wD h n I k) (I k)))
  rw [h15]
  unfold dcIn
  rw [if_pos rfl, m6, nI_toInt m2]
  omega
/-- the place of the VALUE around the DOCUMENT at level k + 1 -/
abbrev wV (h : Nat → Int32) (n : Nat) (I : Nat → Nat) (k : Nat) : Nat := vpl h n (st h n (wD h n I k) (I k))
def lpa (h : Nat → Int32) (n : Nat) (I : Nat → Nat) (by' : Int32) : Nat → (Nat → Nat) → (Nat → Nat)
  | 0, d => pI d (wD h n I 0) (i4 (hb d) (wD h n I 0) + by')
  | k + 1, d => if wT h n I (k + 1) = 15 then pI (pI d (wD h n I (k + 1)) (i4 (hb d) (wD h n I (k + 1)) + by')) (wV h n I k) (i4 (hb (pI d (wD h n I (k + 1)) (i4 (hb d) (wD h n I (k + 1)) + by'))) (wV h n I k) + by') else pI d (wD h n I (k + 1)) (i4 (hb d) (wD h n I (k + 1)) + by')
theorem lpa_s {by' : Int32} {k : Nat} {d : Nat → Nat} : lpa h n I by' (k + 1) d = if wT h n I (k + 1) = 15 then pI (pI d (wD h n I (k + 1)) (i4 (hb d) (wD h n I (k + 1)) + by')) (wV h n I k) (i4 (hb (pI d (wD h n I (k + 1)) (i4 (hb d) (wD h n I (k + 1)) + by'))) (wV h n I k) + by') else pI d (wD h n I (k + 1)) (i4 (hb d) (wD h n I (k + 1)) + by') := rfl
def lpv (h : Nat → Int32) (n : Nat) (I : Nat → Nat) (by' : Int32) : Nat → (Nat → Nat) → (Nat → Nat)
  | 0, d => d
  | k + 1, d => lpa h n I by' k (lpv h n I by' k d)
def lpc (h : Nat → Int32) (n : Nat) (I : Nat → Nat) : Nat → Nat
  | 0 => 0
  | 1 => 1
  | k + 2 => lpc h n I (k + 1) + 1 + (if wT h n I (k + 1) = 15 then 1 else 0)
theorem lpa_hi {by' : Int32} {k j : Nat} {b : Nat → Nat} (W : WV h n I d) (hk : k ≤ d) (hj : wD h n I k + 4 ≤ j) : lpa h n I by' k b j = b j := by
  match k, hk, hj with
  | 0, hk, hj => exact pI_out (by omega)
  | k + 1, hk, hj =>
    have o := W.ord (k := k) (by omega)
    have eV : wV h n I k = vpl h n (st h n (wD h n I k) (I k)) := rfl
    rw [lpa_s]
    by_cases c : wT h n I (k + 1) = 15
    · have := o.2.2.2.1 c
      rw [if_pos c, pI_out (by omega), pI_out (by omega)]
    · rw [if_neg c, pI_out (by omega)]
theorem WV.up (W : WV h n I d) {i k : Nat} (h1 : i ≤ k) (h2 : k ≤ d) : wD h n I i ≤ wD h n I k := by
  obtain ⟨t, rfl⟩ : ∃ t, k = i + t := ⟨k - i, by omega⟩
  clear h1
  induction t with
  | zero => exact Nat.le_refl _
  | succ t ih =>
    have := W.ord (k := i + t) (by omega)
    have := ih (by omega)
    show wD h n I i ≤ wD h n I (i + t + 1)
    omega
theorem lpv_hi {by' : Int32} (W : WV h n I d) {b : Nat → Nat} : ∀ {k j : Nat}, k ≤ d + 1 → (k = 0 ∨ wD h n I (k - 1) + 4 ≤ j) → lpv h n I by' k b j = b j
  | 0, j, _, _ => rfl
  | k + 1, j, hk, hj => by
    have hj : wD h n I k + 4 ≤ j := by
      rcases hj with z | z
      · omega
      · exact z
    show lpa h n I by' k (lpv h n I by' k b) j = b j
    rw [lpa_hi W (by omega) hj]
    refine lpv_hi W (by omega) ?_
    match k, hk, hj with
    | 0, _, _ => exact Or.inl rfl
    | k + 1, hk, hj =>
      right
      have := W.up (i := k) (k := k + 1) (by omega) (by omega)
      show wD h n I k + 4 ≤ j
      omega
theorem lpa_bB {by' : Int32} {k : Nat} {b : Nat → Nat} (hB : bB b) : bB (lpa h n I by' k b) := by
  match k with
  | 0 => exact pI_bB hB
  | k + 1 =>
    rw [lpa_s]
    by_cases c : wT h n I (k + 1) = 15
    · rw [if_pos c]; exact pI_bB (pI_bB hB)
    · rw [if_neg c]; exact pI_bB hB
theorem lpv_bB {by' : Int32} {b : Nat → Nat} (hB : bB b) : ∀ (k : Nat), bB (lpv h n I by' k b)
  | 0 => hB
  | k + 1 => lpa_bB (lpv_bB hB k)
/-- a NAME on the way, in the draft -/
theorem draft_nm (W : WV h n I d) {b : Nat → Nat} {k n' : Nat} (hk : k < d) (hd : ∀ j, j < wD h n I d + 4 → hb b j = h j) (hn' : wD h n I d + 4 ≤ n') (b2 : Nat → Nat) (hb2 : ∀ j, st h n (wD h n I k) (I k) ≤ j → j < wV h n I k → b2 j = b j) : bn (hb b2) n' (st h n (wD h n I k) (I k) + 1) = wV h n I k := by
  have o := W.ord hk
  have eV : wV h n I k = vpl h n (st h n (wD h n I k) (I k)) := rfl
  have up := W.up (i := k + 1) (k := d) (by omega) (Nat.le_refl _)
  obtain ⟨m, r, hD, hi, ht⟩ := W.2.2 k hk
  have hE := hD.2.2.2.2.2 (I k) hi
  have hrn := hD.2.1
  have le := hD.le' (i := I k + 1) (by omega)
  have hs := hE.s (n := n) (by omega)
  obtain ⟨z1, z2, z3, -⟩ := hs.2.2.2.1
  have eq : ∀ j, st h n (wD h n I k) (I k) ≤ j → j < wV h n I k → hb b2 j = h j := fun j a1 a2 => by
    rw [← hd j (by omega)]
    show nI (b2 j) = nI (b j)
    rw [hb2 j a1 a2]
  rw [bn_of (z := wV h n I k - 1) (by rw [eq _ (by omega) (by omega)]; exact z2) (by omega) (by omega) (fun j a1 a2 => by rw [eq j (by omega) (by omega)]; exact z3 j a1 a2)]
  omega
theorem C_lengL (hL : Lay6 iv ad) (hc : cur6 cs = true) (C : CUR J B cs h n I d m at') {by' : Int32} {b : Nat → Nat} {n' : Nat} (hd : ∀ j, j < wD h n I d + 4 → hb b j = h j) (hn' : wD h n I d + 4 ≤ n') (hn2 : n' ≤ 2400) : ∀ (r k f : Nat), k + r = d + 1 → r < f → f_X0_lengthen_L5 cy f (ad cs) (ad 34) by' (nI (lpc h n I k)) (nI k) (MP cy iv ad μ0 J w B 34 n' (hb (lpv h n I by' k b)) 0) = some (nI (lpc h n I (d + 1)), MP cy iv ad μ0 J w B 34 n' (hb (lpv h n I by' (d + 1) b)) 0)
  | r, k, 0, _, hf => by omega
  | r, k, f + 1, hk, hf => by
    have ca := cur_arr hc
    have hlv := C.lvl
    obtain ⟨c1, c2, c3, c4, c5, c6, c7, c8, c9, W, r0, c11⟩ := C
    have hcs := cur6_c hc
    have l34 : len6 (34 + 1) = 2400 := rfl
    have lv : ∀ (x : Nat → Int32), rdI (MP cy iv ad μ0 J w B 34 n' x 0) (ad cs) 0 4 = some (nI d) := fun x => by
      rw [C_lvl hL hc, upd_ne' (by omega), upd_ne' (by omega), c1]
    have ld : ∀ (x : Nat → Int32) (q i : Nat), 1 ≤ q → q ≤ 4 → i < 24 → rdA cy (MP cy iv ad μ0 J w B 34 n' x 0) 1 (ad (cs + q)) (nI i) = some (B (cs + q) i) := fun x q i q1 q2 hi => by
      have ar : arr6 (cs + q) = true ∧ len6 (cs + q) = 24 := by
        match q, q1, q2 with
        | 1, _, _ => exact ⟨ca.2.1, ca.2.2.2.2.2.2.1⟩
        | 2, _, _ => exact ⟨ca.2.2.1, ca.2.2.2.2.2.2.2.1⟩
        | 3, _, _ => exact ⟨ca.2.2.2.1, ca.2.2.2.2.2.2.2.2.1⟩
        | 4, _, _ => exact ⟨ca.2.2.2.2.1, ca.2.2.2.2.2.2.2.2.2.1⟩
      rw [C_ld hL ar.1 ar.2 hi, updG_ne (by omega)]
    rw [f_X0_lengthen_L5, lv, Option.bind_some]
    by_cases e : d < k
    · have : k = d + 1 := by omega
      subst this
      rw [if_pos (nI_lt (by omega) (by omega))]
    · have up := W.up (i := k) (k := d) (by omega) (Nat.le_refl _)
      match r, hk with
      | 0, hk => omega
      | r + 1, hk =>
        rw [if_neg (nI_nlt (by omega) (by omega)), C_r0 hL hc, Option.bind_some, ld _ 1 k (by decide) (by decide) (by omega), Option.bind_some, c4 k (by omega), if_pos (P_is hL rfl), s_intAt (SPP hL rfl (by rw [l34]; omega)) (by omega), ob2_some, if_pos (P_is hL rfl), P_putInt hL rfl (by omega) (by rw [l34]; omega), Option.bind_some]
        unfold f_X0_lengthen_L91
        match k, hk, e, up with
        | 0, hk, e, up =>
          rw [if_pos (by decide), nI_a1, nI_a1]
          exact C_lengL hL hc ⟨c1, c2, c3, c4, c5, c6, c7, c8, c9, W, r0, c11⟩ hd hn' hn2 r 1 f (by omega) (by omega)
        | k + 1, hk, e, up =>
          have o := W.ord (k := k) (by omega)
          have eV : wV h n I k = vpl h n (st h n (wD h n I k) (I k)) := rfl
          have ih := C_lengL (by' := by') hL hc ⟨c1, c2, c3, c4, c5, c6, c7, c8, c9, W, r0, c11⟩ hd hn' hn2 r (k + 1 + 1) f (by omega) (by omega)
          rw [if_neg (nI_nle (by omega) (by omega)), C_r1 hL hc, Option.bind_some, ld _ 2 (k + 1) (by decide) (by decide) (by omega), Option.bind_some, c5 (k + 1) (by omega), nI_a1, nI_a1]
          have epc : lpc h n I (k + 1 + 1) = lpc h n I (k + 1) + 1 + (if wT h n I (k + 1) = 15 then 1 else 0) := rfl
          have epv : lpv h n I by' (k + 1 + 1) b = lpa h n I by' (k + 1) (lpv h n I by' (k + 1) b) := rfl
          by_cases c15 : wT h n I (k + 1) = 15
          · have o15 := o.2.2.2.1 c15
            rw [epc, if_pos c15, epv] at ih
            rw [lpa_s, if_pos c15] at ih
            rw [if_pos c15, C_r2 hL hc, Option.bind_some, show nI (k + 1) - 1 = nI k from nI_pred k, ld _ 3 k (by decide) (by decide) (by omega), Option.bind_some, c6 k (by omega), if_pos (P_is hL rfl), nI_a1, s_behindName (SPP hL rfl (by rw [l34]; omega)) (by omega), ob2_some]
            rw [draft_nm W (k := k) (by omega) hd hn' _ (fun j a1 a2 => by
              rw [pI_out (by omega)]
              exact lpv_hi W (by omega) (Or.inr (by show wD h n I k + 4 ≤ j; omega)))]
            rw [if_pos (P_is hL rfl), s_intAt (SPP hL rfl (by rw [l34]; omega)) (by omega), ob2_some, if_pos (P_is hL rfl), P_putInt hL rfl (by omega) (by rw [l34]; omega), Option.bind_some, nI_a1]
            first | exact ih | (rw [show nI (k + 1) + 1 = nI (k + 1 + 1) from nI_a1 _]; exact ih)
          · rw [epc, if_neg c15, epv] at ih
            rw [lpa_s, if_neg c15] at ih
            rw [if_neg c15, show nI (k + 1) + 1 = nI (k + 1 + 1) from nI_a1 _]
            exact ih
theorem C_lengthen (hL : Lay6 iv ad) (hc : cur6 cs = true) (C : CUR J B cs h n I d m at') {by' : Int32} {b : Nat → Nat} {n' : Nat} (hd : ∀ j, j < wD h n I d + 4 → hb b j = h j) (hn' : wD h n I d + 4 ≤ n') (hn2 : n' ≤ 2400) : f_X0_lengthen cy (ad cs) (ad 34) by' (MP cy iv ad μ0 J w B 34 n' (hb b) 0) = some (nI (lpc h n I (d + 1)), MP cy iv ad μ0 J w B 34 n' (hb (lpv h n I by' (d + 1) b)) 0) := by
  have hlv := C.lvl
  unfold f_X0_lengthen
  exact C_lengL hL hc C hd hn' hn2 (d + 1) 0 FU (by omega) (by show d + 1 < 100000; omega)
end CC3
