/-! PURE ROWS: a FAULT has a number from 1 on; what the reader's own methods answer. -/
section PU7
variable {h : Nat → Int32} {wt : Int32} {RD : RDt}
def okF (J : JR) : Prop := ∀ f, J = .inl f → 1 ≤ f.1 ∧ f.1 ≤ 9
theorem okF.r {q : Nat × Kt} : okF (.inr q) := fun f e => by cases e
theorem okF.l {k p : Nat} (h1 : 1 ≤ k ∧ k ≤ 9) : okF (.inl (k, p)) := fun f e => by cases e; exact h1
theorem okF.t {J : JR} {f : Nat → Kt → JR} (h1 : okF J) (h2 : ∀ q K, okF (f q K)) : okF (jThen J f) := by
  cases J with
  | inl z => exact fun g e => by cases e; exact h1 z rfl
  | inr q => exact h2 q.1 q.2
theorem okF.i {c : Prop} {d : Decidable c} {J J' : JR} (h1 : okF J) (h2 : okF J') : okF (@ite JR c d J J') := by
  by_cases e : c
  · rw [if_pos e]; exact h1
  · rw [if_neg e]; exact h2
theorem jB_f {K : Kt} {p m w : Nat} : okF (jB K p m w) := okF.i okF.r (okF.l (by decide))
theorem jN_f {K : Kt} {p w : Nat} : okF (jN h K p w) := by
  unfold jN
  split
  · exact okF.l (by decide)
  · split
    · exact okF.l (by decide)
    · exact okF.r
theorem jRN_f {K : Kt} {p w v : Nat} : okF (jRN h K p w v) := by
  unfold jRN
  split
  · exact okF.l (by decide)
  · exact okF.i okF.r (okF.l (by decide))
theorem jT_f {K : Kt} {p w : Nat} : okF (jT h K p w) := by
  unfold jT
  refine okF.i (okF.l (by decide)) (okF.i (okF.l (by decide)) (okF.i (okF.l (by decide)) (okF.i (okF.l (by decide)) ?_)))
  split
  · exact okF.l (by decide)
  · exact okF.r
theorem jBin_f {K : Kt} {p w : Nat} : okF (jBin h K p w) := by
  unfold jBin
  exact okF.i (okF.l (by decide)) (okF.i (okF.l (by decide)) (okF.i (okF.l (by decide)) (okF.i (okF.i (okF.l (by decide)) (okF.i okF.r (okF.l (by decide)))) okF.r)))
theorem jBool_f {K : Kt} {p w : Nat} : okF (jBool h K p w) := okF.i (okF.i okF.r (okF.l (by decide))) (okF.l (by decide))
theorem jSc_f (hR : ∀ K p w row, okF (RD K p w row)) {K : Kt} {p w : Nat} : okF (jSc h RD (jT h) K p w) := by
  unfold jSc
  exact okF.i (okF.l (by decide)) (okF.i (okF.l (by decide)) (okF.i (okF.l (by decide)) (okF.t jT_f fun q K => okF.t (hR _ _ _ _) fun q K => okF.i okF.r (okF.l (by decide)))))
theorem jVal_f (hR : ∀ K p w row, okF (RD K p w row)) {K : Kt} {t : Int32} {p w : Nat} : okF (jVal h RD K t p w) := by
  unfold jVal
  exact okF.i jT_f (okF.i (hR _ _ _ _) (okF.i (hR _ _ _ _) (okF.i jBin_f (okF.i jBool_f (okF.i (okF.t jN_f fun _ _ => jN_f) (okF.i (okF.t jT_f fun _ _ => jB_f) (okF.i (jSc_f hR) jB_f)))))))
theorem jNm_f {K : Kt} {p w : Nat} {row : Option Nat} : okF (jNm h K p w row) := by
  cases row with
  | none => exact jN_f
  | some v => exact jRN_f
theorem jEl_f (hR : ∀ K p w row, okF (RD K p w row)) {K : Kt} {p w : Nat} {row : Option Nat} : okF (jEl h wt RD K p w row) := okF.i (okF.t jNm_f fun _ _ => jVal_f hR) (okF.l (by decide))
theorem jLoop_f (hR : ∀ K p w row, okF (RD K p w row)) : ∀ {f : Nat} {K : Kt} {q last v : Nat} {row : Bool}, okF (jLoop h wt RD f K q last row v)
  | 0, _, _, _, _, _ => okF.r
  | f + 1, _, _, _, _, _ => okF.i okF.r (okF.t (jEl_f hR) fun _ _ => jLoop_f hR)
theorem jDoc_f : ∀ (e : Nat) (K : Kt) (p w : Nat) (row : Bool), okF (jDoc h wt e K p w row)
  | 0, _, _, _, _ => okF.l (by decide)
  | e + 1, _, _, _, _ => okF.i (okF.l (by decide)) (okF.i (okF.l (by decide)) (okF.i (okF.l (by decide)) (okF.t (jLoop_f (jDoc_f e)) fun _ _ => okF.i okF.r (okF.l (by decide)))))
end PU7
/-- the FAULT of a reading that must end at n -/
def jEnd (J : JR) (n : Nat) : Option (Nat × Nat) := match J with
  | .inl f => some f
  | .inr q => if q.1 < n then some (9, q.1) else none
def fkI (f : Option (Nat × Nat)) : Int32 := match f with
  | none => 0
  | some z => nI z.1
def fpI (f : Option (Nat × Nat)) : Int32 := match f with
  | none => -1
  | some z => nI z.2
abbrev K0 : Kt := (0, 0, 0, 0, 0, 0, 0)
section PU8
variable {cy : Nat → ClassId} {μ : Mem} {r sp c cap n : Nat} {h : Nat → Int32} {o vp wt fk fp : Int32} {K : Kt}
theorem q_restart {sp' : Nat} {vp' wt' fk' fp' : Int32} {K' : Kt} (hm : μ r = rc sp' vp' wt' fk' fp' K') : f_X2_restart cy r sp wt μ = some (RM μ r sp 0 wt 0 (-1) K0) := by
  unfold f_X2_restart
  unfold rc at hm
  rw [wrF_mk hm (Nat.le_of_ble_eq_true rfl), Option.bind_some, wrF_mk (va_up_self _ _ _) (Nat.le_of_ble_eq_true rfl), Option.bind_some, wrF_mk (va_up_self _ _ _) (Nat.le_of_ble_eq_true rfl), Option.bind_some, wrF_mk (va_up_self _ _ _) (Nat.le_of_ble_eq_true rfl), Option.bind_some,
    wrF_mk (va_up_self _ _ _) (Nat.le_of_ble_eq_true rfl), Option.bind_some, wrF_mk (va_up_self _ _ _) (Nat.le_of_ble_eq_true rfl), Option.bind_some, wrF_mk (va_up_self _ _ _) (Nat.le_of_ble_eq_true rfl), Option.bind_some, wrF_mk (va_up_self _ _ _) (Nat.le_of_ble_eq_true rfl), Option.bind_some,
    wrF_mk (va_up_self _ _ _) (Nat.le_of_ble_eq_true rfl), Option.bind_some, wrF_mk (va_up_self _ _ _) (Nat.le_of_ble_eq_true rfl), Option.bind_some, wrF_mk (va_up_self _ _ _) (Nat.le_of_ble_eq_true rfl), Option.bind_some, wrF_mk (va_up_self _ _ _) (Nat.le_of_ble_eq_true rfl), Option.bind_some]
  rw [up_up, up_up, up_up, up_up, up_up, up_up, up_up, up_up, up_up, up_up, up_up]
  rfl
/-- behind a reading: what must be all -/
theorem q_left (S : SP cy μ sp c cap n h o) (hr : r ≠ sp ∧ r ≠ c) {J : JR} (hJ : okF J) (hb : ∀ q K, J = .inr (q, K) → q ≤ n) {x : Option (Int32 × Mem)} (hx : RO (RM μ r sp vp wt) 0 (-1) J x) : ∃ K', (ob2 x fun r9 μ8 => if isO μ8 r 1 = true then (f_X2_refuseLeftOver cy r r9 μ8).bind (fun μ12 => some μ12) else none) = some (RM μ r sp vp wt (fkI (jEnd J n)) (fpI (jEnd J n)) K') ∧ (∀ q K, J = .inr (q, K) → K' = K) := by
  have b := S.2.2
  cases J with
  | inl f =>
    obtain ⟨K', hx⟩ := hx
    have h1 := hJ f rfl
    refine ⟨K', ?_, fun q K e => by cases e⟩
    rw [hx, ob2_some, if_pos RM.is]
    unfold f_X2_refuseLeftOver
    rw [rdI_mk RM.cl rfl, Option.bind_some, if_neg (nI_ne0 (by omega) (by omega))]
    rfl
  | inr q =>
    have hx : x = some (nI q.1, RM μ r sp vp wt 0 (-1) q.2) := hx
    have h1 := hb q.1 q.2 rfl
    have S1 : SP cy (RM μ r sp vp wt 0 (-1) q.2) sp c cap n h o := RM.spn S hr
    refine ⟨q.2, ?_, fun q K e => by cases e; rfl⟩
    rw [hx, ob2_some, if_pos RM.is]
    unfold f_X2_refuseLeftOver
    rw [rdI_mk RM.cl rfl, Option.bind_some, if_pos rfl, RM.fr, Option.bind_some, s_size S1, Option.bind_some]
    by_cases e : q.1 < n
    · rw [if_neg (nI_ge e (by omega)), if_pos RM.is, q_refuse]
      show some (RM μ r sp vp wt 9 (nI q.1) q.2) = _
      unfold jEnd
      show _ = some (RM μ r sp vp wt (fkI (if q.1 < n then some (9, q.1) else none)) (fpI (if q.1 < n then some (9, q.1) else none)) q.2)
      rw [if_pos e]
      rfl
    · rw [if_pos (nI_le (by omega) (by omega))]
      show some (RM μ r sp vp wt 0 (-1) q.2) = _
      show _ = some (RM μ r sp vp wt (fkI (if q.1 < n then some (9, q.1) else none)) (fpI (if q.1 < n then some (9, q.1) else none)) q.2)
      rw [if_neg e]
      rfl
theorem q_judgeRoot (S : SP cy μ sp c cap n h o) (hr : r ≠ sp ∧ r ≠ c) {sp' : Nat} {vp' wt' fk' fp' : Int32} {K' : Kt} (hm : μ r = rc sp' vp' wt' fk' fp' K') : ∃ K, f_X2_judgeRoot cy r sp μ = some (RM μ r sp 0 (-1) (fkI (jEnd (jDoc h (-1) 24 K0 0 n false) n)) (fpI (jEnd (jDoc h (-1) 24 K0 0 n false) n)) K) := by
  have S1 : SP cy (RM μ r sp 0 (-1) 0 (-1) K0) sp c cap n h o := RM.spn S hr
  unfold f_X2_judgeRoot
  rw [isO_mk hm, if_pos rfl, q_restart hm, Option.bind_some, s_size S1, Option.bind_some, if_pos RM.is]
  have hG := q_group (vp := 0) (wt := -1) (fk := 0) (fp := -1) S hr 24 DP (by decide) (by decide)
  obtain ⟨K, hK, -⟩ := q_left S hr (jDoc_f (h := h) (wt := -1) 24 K0 0 n false) (fun q K e => (jDoc_b 24 _ _ _ _ _ _ e).2) (hG.1 K0 0 n false (Nat.zero_le _) (Nat.le_refl _))
  exact ⟨K, hK⟩
theorem q_judgeName (S : SP cy μ sp c cap n h o) (hr : r ≠ sp ∧ r ≠ c) {sp' : Nat} {vp' wt' fk' fp' : Int32} {K' : Kt} (hm : μ r = rc sp' vp' wt' fk' fp' K') : ∃ K, f_X2_judgeName cy r sp μ = some (RM μ r sp 0 (-1) (fkI (jEnd (jN h K0 0 n) n)) (fpI (jEnd (jN h K0 0 n) n)) K) := by
  have S1 : SP cy (RM μ r sp 0 (-1) 0 (-1) K0) sp c cap n h o := RM.spn S hr
  unfold f_X2_judgeName
  rw [isO_mk hm, if_pos rfl, q_restart hm, Option.bind_some, s_size S1, Option.bind_some, if_pos RM.is]
  obtain ⟨K, hK, -⟩ := q_left S hr (jN_f (h := h) (K := K0) (p := 0) (w := n)) (fun q K e => (jN_b e).2.1) (q_name S hr (Nat.zero_le _) (Nat.le_refl _))
  exact ⟨K, hK⟩
theorem q_countAll (S : SP cy μ sp c cap n h o) (hr : r ≠ sp ∧ r ≠ c) {sp' : Nat} {vp' wt' fk' fp' : Int32} {K' : Kt} (hm : μ r = rc sp' vp' wt' fk' fp' K') {q : Nat} {K : Kt} (hJ : jDoc h wt 24 K0 0 n false = .inr (q, K)) : f_X2_countAll cy r sp wt μ = some (RM μ r sp 0 wt 0 (-1) K) := by
  have S1 : SP cy (RM μ r sp 0 wt 0 (-1) K0) sp c cap n h o := RM.spn S hr
  unfold f_X2_countAll
  rw [isO_mk hm, if_pos rfl, q_restart hm, Option.bind_some, s_size S1, Option.bind_some, if_pos RM.is]
  have hG := q_group (vp := 0) (wt := wt) (fk := 0) (fp := -1) S hr 24 DP (by decide) (by decide)
  have h1 := hG.1 K0 0 n false (Nat.zero_le _) (Nat.le_refl _)
  rw [hJ] at h1
  have h2 : f_X2_readDocument cy DP r 0 (nI n) 1 0 (RM μ r sp 0 wt 0 (-1) K0) = some (nI q, RM μ r sp 0 wt 0 (-1) K) := h1
  rw [h2, ob2_some]
/-- the value's reading, by the class, at a DOCUMENT of DEPTH dep -/
theorem q_value (S : SP cy μ sp c cap n h o) (hr : r ≠ sp ∧ r ≠ c) {dep : Nat} (hd : dep ≤ 24) {t : Int32} {p w : Nat} (hp : p ≤ w) (hw : w ≤ n) : RO (RM μ r sp vp wt) fk fp (jVal h (jDoc h wt (24 - dep)) K t p w) (f_X2_readValue cy DP r t (nI p) (nI w) (nI dep) (RM μ r sp vp wt fk fp K)) := by
  have e1 : 25 - (24 - dep) = dep + 1 := by omega
  have g3 := q_group (vp := vp) (wt := wt) (fk := fk) (fp := fp) S hr (24 - dep) 119 (by omega) (by omega)
  have g4 := q_group (vp := vp) (wt := wt) (fk := fk) (fp := fp) S hr (24 - dep) 118 (by omega) (by omega)
  rw [e1] at g3 g4
  show RO _ _ _ _ (f_X2_readValue cy (119 + 1) r t (nI p) (nI w) (nI dep) _)
  rw [f_X2_readValue_s]
  refine q_val S hr g3 (jDoc_b _) (fun K p w h6 h7 => ?_) hp hw
  show RO _ _ _ _ (f_X2_readScoped cy (118 + 1) r (nI p) (nI w) (nI dep) _)
  rw [f_X2_readScoped_s]
  exact q_scoped S hr g4 (jDoc_b _) h6 h7
theorem q_levelsIn (S : SP cy μ sp c cap n h o) (hr : r ≠ sp ∧ r ≠ c) {sp' : Nat} {vp' wt' fk' fp' : Int32} {K' : Kt} (hm : μ r = rc sp' vp' wt' fk' fp' K') {t : Int32} {p q : Nat} {K : Kt} (hp : p ≤ n) (hJ : jVal h (jDoc h (-1) 24) K0 t p n = .inr (q, K)) : f_X2_levelsIn cy r sp t (nI p) μ = some (K.2.1, RM μ r sp 0 (-1) 0 (-1) K) := by
  have S1 : SP cy (RM μ r sp 0 (-1) 0 (-1) K0) sp c cap n h o := RM.spn S hr
  unfold f_X2_levelsIn
  rw [isO_mk hm, if_pos rfl, q_restart hm, Option.bind_some, s_size S1, Option.bind_some, if_pos RM.is]
  have h1 := q_value (vp := 0) (wt := -1) (fk := 0) (fp := -1) (K := K0) S hr (dep := 0) (by decide) (t := t) hp (Nat.le_refl n)
  rw [show 24 - 0 = 24 from rfl, hJ] at h1
  have h2 : f_X2_readValue cy DP r t (nI p) (nI n) 0 (RM μ r sp 0 (-1) 0 (-1) K0) = some (nI q, RM μ r sp 0 (-1) 0 (-1) K) := h1
  rw [h2, ob2_some, rdI_mk RM.cl rfl, Option.bind_some]
end PU8
