/-! THE REFERENCE'S CHANGES: the tree of a shelf, the order of the ELEMENTS. -/
section WO7
variable {cy : Nat → ClassId} {iv : Nat → Option Nat} {ad : Nat → Nat} {μ0 : Mem} {I : Nat → Int32} {V : Nat → Value} {A : Nat → Nat → Int32} {o T sd n N : Nat} {bs : Nat → Nat} {X : Nat → Nat → Int32} {G : Nat → Nat} {d s : Nat} {at' : Int32}
theorem x_put (F : TX iv ad V A o T sd bs n) (k : Nat) {x : Int32} (h : (fl8 ad (upd I (T + 1) (nI N)) V).set k (.int x) = fl8 ad (upd (upd I (T + 1) (nI N)) k x) V) (hk : k < 44) : wrF (MT cy iv ad μ0 I V A T N X) (ad 0) 7 k (.int x) = some (MT cy iv ad μ0 (upd I k x) V A T N X) := by
  have t := F.tt
  rw [m_put F.1 h hk, upd_cm (show T + 1 ≠ k by omega)]
/-- the shelf's tree is read, and the way gone: node ν d -/
theorem x_stands (F : TX iv ad V A o T sd bs n) {ν hi : Nat → Nat} (hs : s < 4) (R : RSh A s bs n G d at') (W : WV (hb bs) n G d) (hN : N < 1300) (h0 : ν 0 = 0) (H : ∀ k, k ≤ d → WN X (hb bs) n G N ν hi k ∧ (k < d → ∃ m c, NK X (hb bs) n (23 - k) (ν k) (wD (hb bs) n G k) (wR (hb bs) n G k) (wT (hb bs) n G k == 4) (k + 1) (ν k + 1) (hi k) m c ∧ G k < m ∧ ν (k + 1) = c (G k) ∧ hi (k + 1) = c (G k + 1))) : f_X8_stands cy (ad 0) (ad o) (nI s) (MT cy iv ad μ0 I V A T N X) = some (nI (ν d), MT cy iv ad μ0 I V A T N X) := by
  have d23 := (W.dc d (Nat.le_refl _)).1
  unfold f_X8_stands
  have := x_stL (cy := cy) (μ0 := μ0) (I := I) F hs R.2.2.2.1 R.2.2.1 (by omega) hN H d 0 FU (by omega) (by show d < 100000; omega)
  rw [h0] at this
  exact this
/-- a shelf's tree, with its way -/
def TWy (X : Nat → Nat → Int32) (bs : Nat → Nat) (n : Nat) (G : Nat → Nat) (d N : Nat) (ν hi : Nat → Nat) (m : Nat) (c : Nat → Nat) : Prop := TRE X (hb bs) n N ∧ N < 1300 ∧ ν 0 = 0 ∧ (∀ k, k ≤ d → WN X (hb bs) n G N ν hi k ∧ (k < d → ∃ m c, NK X (hb bs) n (23 - k) (ν k) (wD (hb bs) n G k) (wR (hb bs) n G k) (wT (hb bs) n G k == 4) (k + 1) (ν k + 1) (hi k) m c ∧ G k < m ∧ ν (k + 1) = c (G k) ∧ hi (k + 1) = c (G k + 1))) ∧ NK X (hb bs) n (23 - d) (ν d) (wD (hb bs) n G d) (wR (hb bs) n G d) (wT (hb bs) n G d == 4) (d + 1) (ν d + 1) (hi d) m c
theorem TRE.tw (R : TRE X (hb bs) n N) (hn : n ≤ 2400) (W : WV (hb bs) n G d) : ∃ ν hi m c, TWy X bs n G d N ν hi m c := by
  obtain ⟨ν, hi, H⟩ := R.way W
  obtain ⟨m, c, K⟩ := (H d (Nat.le_refl _)).1.1
  have r7 := R.2.2.2.2.2.2
  exact ⟨ν, hi, m, c, R, by omega, ((H 0 (Nat.zero_le _)).1.2.2.2.2.2.2.1 rfl).1, H, K⟩
theorem TWy.m {ν hi c : Nat → Nat} {m : Nat} (Tw : TWy X bs n G d N ν hi m c) (W : WV (hb bs) n G d) {m' r e : Nat} {row : Bool} (hD : DC (hb bs) n e (wD (hb bs) n G d) r row m') : m = m' := (Tw.2.2.2.2.1.uniq hD W.2.1).2
theorem x_sr (hL : Lay iv ad) (hT : isT o T) (hs : s < 4) (R : RSh A s bs n G d at') (hB : bB bs) (W : WV (hb bs) n G d) : ∃ N X ν hi m c, f_X7_read cy (ad o) (ad (50 + s)) (MR cy iv ad μ0 I V A) = some (MT cy iv ad μ0 I (updG V T (.ref (ad (50 + s)))) A T N X) ∧ TWy X bs n G d N ν hi m c ∧ TX iv ad (updG V T (.ref (ad (50 + s)))) A o T (50 + s) bs n := by
  obtain ⟨N, X, e1, e2⟩ := x_read (cy := cy) (μ0 := μ0) (I := I) (V := V) hL hT hs R.1 hB W.2.1 W.1
  obtain ⟨ν, hi, m, c, tw⟩ := e2.tw W.2.1 W
  exact ⟨N, X, ν, hi, m, c, e1, tw, hL, hT, updG_self, ⟨s, hs, rfl⟩, R.1, hB, W.2.1⟩
theorem x_at (F : TX iv ad V A o T sd bs n) (hs : s < 4) (R : RSh A s bs n G d at') : rdA cy (MT cy iv ad μ0 I V A T N X) 1 (ad 9) (nI s) = some at' := by
  have := x_al (cy := cy) (μ0 := μ0) (I := I) (N := N) (X := X) (i := s) F 9 rfl (by decide) hs
  rw [R.2.2.2.2] at this
  exact this
theorem y_48 (F : TX iv ad V A 21 60 sd bs n) {e node D r dp lo hi m : Nat} {row : Bool} {c : Nat → Nat} (K : NK X (hb bs) n e node D r row dp lo hi m c) (hhi : hi < 1300) (x : Int32) : ∀ (j i f : Nat) (oc : Nat → Int32), i + j = m → j < f → (∀ t, t < i → oc t = nI (c t)) → ∃ oc', f_X8_changes_L48 cy f (ad 0) x (if i = m then -1 else nI (c i)) (MT cy iv ad μ0 (upd I 31 (nI i)) V (updG A 30 oc) 60 N X) = some (x, MT cy iv ad μ0 (upd (upd (upd I 31 (nI m)) 32 0) 33 0) V (updG A 30 oc') 60 N X) ∧ ∀ t, t < m → oc' t = nI (c t)
  | j, i, 0, oc, _, hf, _ => by omega
  | 0, i, f + 1, oc, hi', _, h => by
    have t := F.tt
    have : i = m := by omega
    subst this
    have F' := F.a (j := 30) (f := oc) (by omega)
    refine ⟨oc, ?_, h⟩
    rw [f_X8_changes_L48, if_pos rfl, if_pos (by decide), x_put F' 32 rfl (by decide), Option.bind_some, x_put F' 33 rfl (by decide), Option.bind_some]
  | j + 1, i, f + 1, oc, hi', hf, h => by
    have t := F.tt
    have hm := K.2.1
    have ic := K.inc (i := i) (by omega)
    have k5 := (K.2.2.2.2.2.2 i (by omega)).2.2.1
    have F' := fun f => F.a (j := 30) (f := f) (by omega)
    obtain ⟨oc', e1, e2⟩ := y_48 F K hhi x j (i + 1) f (upd oc i (nI (c i))) (by omega) (by omega) (fun t ht => by
      by_cases z : t = i
      · subst z; exact upd_self'
      · rw [upd_ne' z]; exact h t (by omega))
    refine ⟨oc', ?_, e2⟩
    have st := x_as (cy := cy) (μ0 := μ0) (I := upd I 31 (nI i)) (N := N) (X := X) (i := i) (F' oc) 30 rfl (by decide) (by show i < 1301; omega) (nI (c i))
    rw [updG_self, updG_updG] at st
    have i31 : ∀ f, rdI (MT cy iv ad μ0 (upd I 31 (nI i)) V (updG A 30 f) 60 N X) (ad 0) 7 31 = some (nI i) := fun f => m_int F.1 rfl
    rw [f_X8_changes_L48, if_neg (show ¬ i = m by omega), if_neg (show ¬ nI (c i) < 0 from nI_nlt (b := 0) (Nat.zero_le _) (by omega)), x_ref (F' _) (k := 30) rfl, Option.bind_some, i31, Option.bind_some, show wrA cy (MT cy iv ad μ0 (upd I 31 (nI i)) V (updG A 30 oc) 60 N X) 1 (ad 30) (nI i) (nI (c i)) = _ from st, Option.bind_some, i31, Option.bind_some, nI_a1, x_put (F' _) 31 rfl (by decide), Option.bind_some, upd_upd, x_ref (F' _) (k := 21) rfl, Option.bind_some, x_r5 (F' _), Option.bind_some, x_ld (F' _) 5 (by decide) (by omega), Option.bind_some, k5]
    exact e1
theorem y_changes (hL : Lay iv ad) (hs : s < 4) (R : RSh A s bs n G d at') (hB : bB bs) (W : WV (hb bs) n G d) : ∃ N X ν hi m c I' oc, f_X8_changes cy (ad 0) (nI s) (MR cy iv ad μ0 I V A) = some (nI (ν d), MT cy iv ad μ0 I' (updG V 60 (.ref (ad (50 + s)))) (updG A 30 oc) 60 N X) ∧ TWy X bs n G d N ν hi m c ∧ TX iv ad (updG V 60 (.ref (ad (50 + s)))) (updG A 30 oc) 21 60 (50 + s) bs n ∧ (∀ t, t < m → oc t = nI (c t)) ∧ I' 28 = nI (ν d) ∧ I' 29 = -1 ∧ I' 31 = nI m ∧ I' 32 = 0 ∧ I' 33 = 0 ∧ ∀ k, k ≠ 28 → k ≠ 29 → k ≠ 31 → k ≠ 32 → k ≠ 33 → I' k = I k := by
  obtain ⟨N, X, ν, hi, m, c, e1, tw, F⟩ := x_sr (cy := cy) (μ0 := μ0) (I := I) (V := V) hL (Or.inl ⟨rfl, rfl⟩ : isT 21 60) hs R hB W
  obtain ⟨t1, t2, t3, t4, K⟩ := tw
  have wn := (t4 d (Nat.le_refl _)).1
  have hm := K.2.1
  have hh := wn.2.2.1
  have hh2 := wn.2.1
  have k4 := K.2.2.2.1
  have eq0 : X 4 (ν d) = (if 0 = m then (-1 : Int32) else nI (c 0)) := by
    rw [k4, K.2.2.2.2.1]
    by_cases z : m = 0
    · rw [if_pos z, if_pos z.symm]
    · rw [if_neg z, if_neg (fun y => z y.symm)]
  obtain ⟨oc, q1, q2⟩ := y_48 (cy := cy) (μ0 := μ0) (I := upd (upd I 28 (nI (ν d))) 29 (-1)) F K (by omega) (nI (ν d)) m 0 FU (A 30) (by omega) (by show m < 100000; omega) (fun t ht => by omega)
  rw [updG_id] at q1
  have r5 : rdR (MR cy iv ad μ0 I V A) (ad 0) 7 5 = some (ad 5) := m_ref hL rfl
  have r21 : rdR (MR cy iv ad μ0 I V A) (ad 0) 7 21 = some (ad 21) := m_ref hL rfl
  have q1' : f_X8_changes_L48 cy FU (ad 0) (nI (ν d)) (if 0 = m then -1 else nI (c 0)) (MT cy iv ad μ0 (upd (upd (upd I 28 (nI (ν d))) 29 (-1)) 31 0) (updG V 60 (.ref (ad (50 + s)))) A 60 N X) = _ := q1
  refine ⟨N, X, ν, hi, m, c, upd (upd (upd (upd (upd I 28 (nI (ν d))) 29 (-1)) 31 (nI m)) 32 0) 33 0, oc, ?_, ⟨t1, t2, t3, t4, K⟩, F.a (by omega), q2, ?_, ?_, ?_, ?_, ?_, fun k k1 k2 k3 k4 k5 => ?_⟩
  · unfold f_X8_changes
    rw [r21, Option.bind_some, r5, Option.bind_some, m_docs hL hs, Option.bind_some, if_pos (m_tis hL (Or.inl ⟨rfl, rfl⟩)), e1, Option.bind_some, x_ref F (k := 21) rfl, Option.bind_some, if_pos (x_o F), x_stands F hs R W t2 t3 t4, ob2_some, x_put F 28 rfl (by decide), Option.bind_some, x_put F 29 rfl (by decide), Option.bind_some, x_put F 31 rfl (by decide), Option.bind_some, x_ref F (k := 21) rfl, Option.bind_some, x_r4 F, Option.bind_some, x_ld F 4 (by decide) (by omega), Option.bind_some, eq0, q1']
  · rw [upd_ne' (by decide), upd_ne' (by decide), upd_ne' (by decide), upd_ne' (by decide), upd_self']
  · rw [upd_ne' (by decide), upd_ne' (by decide), upd_ne' (by decide), upd_self']
  · rw [upd_ne' (by decide), upd_ne' (by decide), upd_self']
  · rw [upd_ne' (by decide), upd_self']
  · exact upd_self'
  · rw [upd_ne' k5, upd_ne' k4, upd_ne' k3, upd_ne' k2, upd_ne' k1]
end WO7
