/-! PURE ROWS: judging a piece (a NAME and a VALUE), an opening. -/
section PU9
variable {cy : Nat → ClassId} {μ : Mem} {r sp c cap n : Nat} {h : Nat → Int32} {o vp wt fk fp : Int32} {K : Kt}
theorem q_bytes_neg {m w : Int32} {ν : Mem} : f_X2_readBytes cy r (-1) m w ν = some (-1, ν) := by
  unfold f_X2_readBytes
  rw [if_pos rfl]
theorem q_text_neg {w : Int32} : f_X2_readText cy r (-1) w (RM μ r sp vp wt fk fp K) = some (-1, RM μ r sp vp wt fk fp K) := by
  unfold f_X2_readText
  rw [if_pos RM.is, q_bytes_neg, ob2_some, if_pos rfl]
theorem q_val_neg {t w dep : Int32} : f_X2_readValue cy DP r t (-1) w dep (RM μ r sp vp wt fk fp K) = some (-1, RM μ r sp vp wt fk fp K) := by
  show f_X2_readValue cy (119 + 1) r t (-1) w dep _ = _
  rw [f_X2_readValue_s]
  have hW : ∀ x : Int32, (ob2 (f_X1_widthOf cy x (RM μ r sp vp wt fk fp K)) fun r32 μ31 => if isO μ31 r 1 = true then (ob2 (f_X2_readBytes cy r (-1) r32 w μ31) fun r36 μ35 => some (r36, μ35)) else none) = some (-1, RM μ r sp vp wt fk fp K) := by
    intro x
    rw [p_widthOf, ob2_some, if_pos RM.is, q_bytes_neg, ob2_some]
  by_cases hx : t.toInt < 2 ∨ 15 < t.toInt
  · unfold fo_X2_readValue
    rw [if_pos hx]
    exact hW t
  · obtain ⟨k, h1, h2, rfl⟩ := i32_of (x := t) (lo := 2) (hi := 15) (fun q => hx (Or.inl q)) (fun q => hx (Or.inr q)) (by decide)
    have hT : (if isO (RM μ r sp vp wt fk fp K) r 1 = true then (ob2 (f_X2_readText cy r (-1) w (RM μ r sp vp wt fk fp K)) fun a b => some (a, b)) else none) = some (-1, RM μ r sp vp wt fk fp K) := by
      rw [if_pos RM.is, q_text_neg, ob2_some]
    have hDc : ∀ row : Int32, (if isO (RM μ r sp vp wt fk fp K) r 1 = true then (ob2 (f_X2_readDocument cy 119 r (-1) w (dep + 1) row (RM μ r sp vp wt fk fp K)) fun a b => some (a, b)) else none) = some (-1, RM μ r sp vp wt fk fp K) := by
      intro row
      rw [if_pos RM.is]
      show (ob2 (f_X2_readDocument cy (118 + 1) r (-1) w (dep + 1) row _) _) = _
      rw [f_X2_readDocument_s]
      unfold fo_X2_readDocument
      rw [if_pos rfl, ob2_some]
    match k, h1, h2 with
    | 0, h1, _ => exact absurd h1 (by decide)
    | 1, h1, _ => exact absurd h1 (by decide)
    | 2, _, _ => exact hT
    | 3, _, _ => exact hDc 0
    | 4, _, _ => exact hDc 1
    | 5, _, _ =>
      show (if isO (RM μ r sp vp wt fk fp K) r 1 = true then (ob2 (f_X2_readBinary cy r (-1) w (RM μ r sp vp wt fk fp K)) fun a b => some (a, b)) else none) = _
      unfold f_X2_readBinary
      rw [if_pos RM.is, if_pos RM.is, q_bytes_neg, ob2_some, if_pos rfl, ob2_some]
    | 6, _, _ => exact hW 6
    | 7, _, _ => exact hW 7
    | 8, _, _ =>
      show (if isO (RM μ r sp vp wt fk fp K) r 1 = true then (ob2 (f_X2_readBoolean cy r (-1) w (RM μ r sp vp wt fk fp K)) fun a b => some (a, b)) else none) = _
      unfold f_X2_readBoolean f_X2_readBoolean_L35
      rw [if_pos RM.is, if_pos RM.is, q_bytes_neg, ob2_some, if_pos rfl, ob2_some]
    | 9, _, _ => exact hW 9
    | 10, _, _ => exact hW 10
    | 11, _, _ =>
      show (if isO (RM μ r sp vp wt fk fp K) r 1 = true then (ob2 (f_X2_readName cy r (-1) w (RM μ r sp vp wt fk fp K)) fun r46 μ45 => if isO μ45 r 1 = true then (ob2 (f_X2_readName cy r r46 w μ45) fun a b => some (a, b)) else none) else none) = _
      have e : f_X2_readName cy r (-1) w (RM μ r sp vp wt fk fp K) = some (-1, RM μ r sp vp wt fk fp K) := by
        unfold f_X2_readName
        rw [if_pos rfl]
      rw [if_pos RM.is, e, ob2_some, if_pos RM.is, e, ob2_some]
    | 12, _, _ =>
      show (if isO (RM μ r sp vp wt fk fp K) r 1 = true then (ob2 (f_X2_readText cy r (-1) w (RM μ r sp vp wt fk fp K)) fun r55 μ54 => if isO μ54 r 1 = true then (ob2 (f_X2_readBytes cy r r55 12 w μ54) fun a b => some (a, b)) else none) else none) = _
      rw [if_pos RM.is, q_text_neg, ob2_some, if_pos RM.is, q_bytes_neg, ob2_some]
    | 13, _, _ => exact hT
    | 14, _, _ => exact hT
    | 15, _, _ =>
      show (if isO (RM μ r sp vp wt fk fp K) r 1 = true then (ob2 (f_X2_readScoped cy (118 + 1) r (-1) w dep (RM μ r sp vp wt fk fp K)) fun a b => some (a, b)) else none) = _
      rw [if_pos RM.is, f_X2_readScoped_s]
      unfold fo_X2_readScoped
      rw [if_pos RM.is, q_bytes_neg, ob2_some, if_pos rfl, ob2_some]
    | k + 16, _, h2 => exact absurd h2 (by omega)
end PU9
section PU10
variable (h : Nat → Int32) (n : Nat)
/-- the NAME ahead of a VALUE, if there is to be one -/
noncomputable def jHd (named : Bool) : JR := match named with
  | true => jN h K0 0 n
  | false => .inr (0, K0)
noncomputable def jPc (named : Bool) (t : Int32) (e : Nat) : JR := @ite JR (isTy t) (Classical.propDecidable _) (jThen (jHd h n named) (fun q K => jVal h (jDoc h (-1) e) K t q n)) (.inl (3, 0))
noncomputable def jOp (named : Bool) (t : Int32) : JR := @ite JR (hasD t) (Classical.propDecidable _) (jThen (jHd h n named) (fun q K => if t = 15 then jT h K q n else .inr (q, K))) (.inl (3, 0))
/-- of an opening at a DOCUMENT of DEPTH dep -/
noncomputable def jOpE (named : Bool) (t : Int32) (dep : Nat) : Option (Nat × Nat) := match jEnd (jOp h n named t) n with
  | some f => some f
  | none => if dep < 24 then none else some (8, n)
end PU10
theorem jHd_b {h : Nat → Int32} {n q : Nat} {named : Bool} {K : Kt} (e : jHd h n named = .inr (q, K)) : q ≤ n ∧ K = K0 := by
  cases named with
  | true => have := jN_b e; exact ⟨this.2.1, this.2.2.1⟩
  | false => cases e; exact ⟨Nat.zero_le _, rfl⟩
theorem jHd_f {h : Nat → Int32} {n : Nat} {named : Bool} : okF (jHd h n named) := by
  cases named with
  | true => exact jN_f
  | false => exact okF.r
section PU11
variable {cy : Nat → ClassId} {μ : Mem} {r sp c cap n : Nat} {h : Nat → Int32} {o : Int32}
theorem RM_vp {vp wt fk fp x : Int32} {K : Kt} : wrF (RM μ r sp vp wt fk fp K) r 1 3 (.int x) = some (RM μ r sp x wt fk fp K) := by
  rw [wrF_mk RM.cl (Nat.le_of_ble_eq_true rfl), RM_up]
  rfl
theorem q_judgeElement (S : SP cy μ sp c cap n h o) (hr : r ≠ sp ∧ r ≠ c) {sp' : Nat} {vp' wt' fk' fp' : Int32} {K' : Kt} (hm : μ r = rc sp' vp' wt' fk' fp' K') (named : Bool) (t : Int32) {dep : Nat} (hd : dep ≤ 24) :
    ∃ vp K, f_X2_judgeElement cy r sp (bI named) t (nI dep) μ = some (RM μ r sp vp (-1) (fkI (jEnd (jPc h n named t (24 - dep)) n)) (fpI (jEnd (jPc h n named t (24 - dep)) n)) K) ∧ ∀ q K1, jHd h n named = .inr (q, K1) → isTy t → vp = nI q := by
  have b := S.2.2
  have S1 : SP cy (RM μ r sp 0 (-1) 0 (-1) K0) sp c cap n h o := RM.spn S hr
  unfold f_X2_judgeElement jPc
  rw [isO_mk hm, if_pos rfl, q_restart hm, Option.bind_some]
  by_cases ht : isTy t
  · rw [p_isType ht, ob2_some, if_neg (show ¬ (1 : Int32) = 0 by decide), if_pos ht]
    have hL : ∀ q K1, jHd h n named = .inr (q, K1) → q ≤ n → ∃ vp K, f_X2_judgeElement_L39 cy r sp t (nI dep) r (nI q) (RM μ r sp 0 (-1) 0 (-1) K1) = some (RM μ r sp vp (-1) (fkI (jEnd (jVal h (jDoc h (-1) (24 - dep)) K1 t q n) n)) (fpI (jEnd (jVal h (jDoc h (-1) (24 - dep)) K1 t q n) n)) K) ∧ vp = nI q := by
      intro q K1 e5 hq
      have S2 : SP cy (RM μ r sp (nI q) (-1) 0 (-1) K1) sp c cap n h o := RM.spn S hr
      unfold f_X2_judgeElement_L39
      rw [RM_vp, Option.bind_some, rdI_mk RM.cl rfl, Option.bind_some, s_size S2, Option.bind_some, if_pos RM.is]
      obtain ⟨K, hK, -⟩ := q_left (vp := nI q) (wt := -1) S hr (jVal_f (h := h) (jDoc_f (h := h) (wt := -1) (24 - dep)) (K := K1) (t := t) (p := q) (w := n)) (fun q K e => (jVal_b (jDoc_b _) e).2) (q_value (K := K1) S hr hd hq (Nat.le_refl n))
      exact ⟨nI q, K, hK, rfl⟩
    cases named with
    | false =>
      rw [if_pos (show bI false = 0 from rfl)]
      obtain ⟨vp, K, h1, h2⟩ := hL 0 K0 rfl (Nat.zero_le _)
      exact ⟨vp, K, h1, fun q K1 e5 _ => by cases e5; exact h2⟩
    | true =>
      rw [if_neg (show ¬ bI true = 0 by decide), s_size S1, Option.bind_some, if_pos RM.is]
      have hn := q_name (vp := 0) (wt := -1) (fk := 0) (fp := -1) (K := K0) S hr (Nat.zero_le n) (Nat.le_refl n)
      cases eJ : jN h K0 0 n with
      | inl f =>
        rw [eJ] at hn
        obtain ⟨K2, hn⟩ := hn
        have e0 : jHd h n true = .inl f := eJ
        have hf := jN_f f eJ
        rw [show f_X2_readName cy r 0 (nI n) (RM μ r sp 0 (-1) 0 (-1) K0) = _ from hn, ob2_some, e0]
        refine ⟨-1, K2, ?_, fun q K1 e5 => by cases e5⟩
        have S2 : SP cy (RM μ r sp (-1) (-1) (nI f.1) (nI f.2) K2) sp c cap n h o := RM.spn S hr
        unfold f_X2_judgeElement_L39
        rw [RM_vp, Option.bind_some, rdI_mk RM.cl rfl, Option.bind_some, s_size S2, Option.bind_some, if_pos RM.is, q_val_neg, ob2_some, if_pos RM.is]
        unfold f_X2_refuseLeftOver
        rw [rdI_mk RM.cl rfl, Option.bind_some, if_neg (nI_ne0 (by omega) (by omega))]
        rfl
      | inr q =>
        rw [eJ] at hn
        have e0 : jHd h n true = .inr q := eJ
        have g := jN_b (q := q.1) (K' := q.2) eJ
        rw [show f_X2_readName cy r 0 (nI n) (RM μ r sp 0 (-1) 0 (-1) K0) = _ from hn, ob2_some, e0]
        obtain ⟨vp, K, h1, h2⟩ := hL q.1 q.2 e0 g.2.1
        exact ⟨vp, K, h1, fun q K1 e5 _ => by cases e5; exact h2⟩
  · rw [p_isTypeN ht, ob2_some, if_pos (show (0 : Int32) = 0 from rfl), if_neg ht, if_pos RM.is, q_refuse]
    exact ⟨0, K0, rfl, fun _ _ _ z => absurd z ht⟩
theorem q_judgeOpening (S : SP cy μ sp c cap n h o) (hr : r ≠ sp ∧ r ≠ c) {sp' : Nat} {vp' wt' fk' fp' : Int32} {K' : Kt} (hm : μ r = rc sp' vp' wt' fk' fp' K') (named : Bool) (t : Int32) {dep : Nat} (hd : dep ≤ 24) :
    ∃ vp K, f_X2_judgeOpening cy r sp (bI named) t (nI dep) μ = some (RM μ r sp vp (-1) (fkI (jOpE h n named t dep)) (fpI (jOpE h n named t dep)) K) ∧ ∀ q K1, jHd h n named = .inr (q, K1) → hasD t → vp = nI q := by
  have b := S.2.2
  have S1 : SP cy (RM μ r sp 0 (-1) 0 (-1) K0) sp c cap n h o := RM.spn S hr
  unfold f_X2_judgeOpening jOpE jOp
  rw [isO_mk hm, if_pos rfl, q_restart hm, Option.bind_some]
  by_cases ht : hasD t
  · rw [p_hasDocument ht, ob2_some, if_neg (show ¬ (1 : Int32) = 0 by decide), if_pos ht]
    -- the end: nothing left over, then the DEPTH
    have hE : ∀ (vp : Int32) (J : JR) (x : Option (Int32 × Mem)), okF J → (∀ q K, J = .inr (q, K) → q ≤ n) → RO (RM μ r sp vp (-1)) 0 (-1) J x → ∃ K, (ob2 x fun r113 μ112 => f_X2_judgeOpening_L68 cy r sp (nI dep) r r113 μ112) = some (RM μ r sp vp (-1) (fkI (match jEnd J n with | some f => some f | none => if dep < 24 then none else some (8, n))) (fpI (match jEnd J n with | some f => some f | none => if dep < 24 then none else some (8, n))) K) := by
      intro vp J x hJ hb hx
      obtain ⟨K, hK, -⟩ := q_left S hr hJ hb hx
      refine ⟨K, ?_⟩
      have S2 : SP cy (RM μ r sp vp (-1) (fkI (jEnd J n)) (fpI (jEnd J n)) K) sp c cap n h o := RM.spn S hr
      have e1 : (ob2 x fun r113 μ112 => f_X2_judgeOpening_L68 cy r sp (nI dep) r r113 μ112) = ((ob2 x fun r9 μ8 => if isO μ8 r 1 = true then (f_X2_refuseLeftOver cy r r9 μ8).bind (fun μ12 => some μ12) else none).bind fun μ103 => (rdI μ103 r 1 1).bind fun v104 => if v104 = 0 then (if nI dep < 24 then (some μ103) else (rdI μ103 sp 4 1).bind fun v108 => if isO μ103 r 1 = true then (ob2 (f_X2_refuse cy r 8 v108 μ103) fun r113 μ112 => some μ112) else none) else some μ103) := by
        cases x with
        | none => rfl
        | some q =>
          show f_X2_judgeOpening_L68 cy r sp (nI dep) r q.1 q.2 = Option.bind (if isO q.2 r 1 = true then _ else none) _
          unfold f_X2_judgeOpening_L68
          by_cases hi : isO q.2 r 1 = true
          · rw [if_pos hi, if_pos hi]
            cases f_X2_refuseLeftOver cy r q.1 q.2 <;> rfl
          · rw [if_neg hi, if_neg hi]
            rfl
      rw [e1, hK, Option.bind_some, rdI_mk RM.cl rfl, Option.bind_some]
      cases eE : jEnd J n with
      | none =>
        rw [if_pos (show fkI none = 0 from rfl)]
        by_cases hdd : dep < 24
        · rw [if_pos (show nI dep < (24 : Int32) from nI_lt (b := 24) hdd (by decide))]
          show _ = some (RM μ r sp vp (-1) (fkI (if dep < 24 then none else some (8, n))) (fpI (if dep < 24 then none else some (8, n))) K)
          rw [if_pos hdd]
        · rw [eE] at S2
          rw [if_neg (show ¬ nI dep < (24 : Int32) from nI_nlt (b := 24) (by omega) (by omega)), s_size S2, Option.bind_some, if_pos RM.is, q_refuse, ob2_some]
          show _ = some (RM μ r sp vp (-1) (fkI (if dep < 24 then none else some (8, n))) (fpI (if dep < 24 then none else some (8, n))) K)
          rw [if_neg hdd]
          rfl
      | some f =>
        have hf : 1 ≤ f.1 ∧ f.1 ≤ 9 := by
          cases J with
          | inl z =>
            have e9 : z = f := Option.some.inj eE
            rw [← e9]
            exact hJ z rfl
          | inr q =>
            have eE : (if q.1 < n then some (9, q.1) else none) = some f := eE
            split at eE
            · cases eE
              exact ⟨Nat.le_of_ble_eq_true rfl, Nat.le_of_ble_eq_true rfl⟩
            · cases eE
        rw [if_neg (show ¬ fkI (some f) = 0 from nI_ne0 (by omega) (by omega))]
    have hL : ∀ q K1, q ≤ n → ∃ vp K, f_X2_judgeOpening_L39 cy r sp t (nI dep) r (nI q) (RM μ r sp 0 (-1) 0 (-1) K1) = some (RM μ r sp vp (-1) (fkI (match jEnd (if t = 15 then jT h K1 q n else .inr (q, K1)) n with | some f => some f | none => if dep < 24 then none else some (8, n))) (fpI (match jEnd (if t = 15 then jT h K1 q n else .inr (q, K1)) n with | some f => some f | none => if dep < 24 then none else some (8, n))) K) ∧ vp = nI q := by
      intro q K1 hq
      have S2 : SP cy (RM μ r sp (nI q) (-1) 0 (-1) K1) sp c cap n h o := RM.spn S hr
      unfold f_X2_judgeOpening_L39
      rw [RM_vp, Option.bind_some]
      by_cases h15 : t = 15
      · rw [if_pos h15, if_pos h15, rdI_mk RM.cl rfl, Option.bind_some, s_size S2, Option.bind_some, if_pos RM.is]
        obtain ⟨K, hK⟩ := hE (nI q) _ _ (jT_f (h := h) (K := K1) (p := q) (w := n)) (fun q K e => by obtain ⟨N, -, -, -, g, -⟩ := jT_b e; exact g) (q_text S hr hq (Nat.le_refl n))
        exact ⟨nI q, K, hK, rfl⟩
      · rw [if_neg h15, if_neg h15, rdI_mk RM.cl rfl, Option.bind_some]
        obtain ⟨K, hK⟩ := hE (nI q) (.inr (q, K1)) (some (nI q, RM μ r sp (nI q) (-1) 0 (-1) K1)) okF.r (fun q K e => by cases e; exact hq) rfl
        exact ⟨nI q, K, hK, rfl⟩
    cases named with
    | false =>
      rw [if_pos (show bI false = 0 from rfl)]
      obtain ⟨vp, K, h1, h2⟩ := hL 0 K0 (Nat.zero_le _)
      exact ⟨vp, K, h1, fun q K1 e5 _ => by cases e5; exact h2⟩
    | true =>
      rw [if_neg (show ¬ bI true = 0 by decide), s_size S1, Option.bind_some, if_pos RM.is]
      have hn := q_name (vp := 0) (wt := -1) (fk := 0) (fp := -1) (K := K0) S hr (Nat.zero_le n) (Nat.le_refl n)
      cases eJ : jN h K0 0 n with
      | inl f =>
        rw [eJ] at hn
        obtain ⟨K2, hn⟩ := hn
        have e0 : jHd h n true = .inl f := eJ
        have hf := jN_f f eJ
        rw [show f_X2_readName cy r 0 (nI n) (RM μ r sp 0 (-1) 0 (-1) K0) = _ from hn, ob2_some, e0]
        refine ⟨-1, K2, ?_, fun q K1 e5 => by cases e5⟩
        have S2 : SP cy (RM μ r sp (-1) (-1) (nI f.1) (nI f.2) K2) sp c cap n h o := RM.spn S hr
        have hend : ∀ x : Int32, f_X2_judgeOpening_L68 cy r sp (nI dep) r x (RM μ r sp (-1) (-1) (nI f.1) (nI f.2) K2) = some (RM μ r sp (-1) (-1) (nI f.1) (nI f.2) K2) := by
          intro x
          unfold f_X2_judgeOpening_L68 f_X2_refuseLeftOver
          rw [if_pos RM.is, rdI_mk RM.cl rfl, Option.bind_some, if_neg (nI_ne0 (by omega) (by omega)), Option.bind_some, rdI_mk RM.cl rfl, Option.bind_some, if_neg (nI_ne0 (by omega) (by omega))]
        unfold f_X2_judgeOpening_L39
        rw [RM_vp, Option.bind_some]
        by_cases h15 : t = 15
        · rw [if_pos h15, rdI_mk RM.cl rfl, Option.bind_some, s_size S2, Option.bind_some, if_pos RM.is, q_text_neg, ob2_some, hend]
          rfl
        · rw [if_neg h15, rdI_mk RM.cl rfl, Option.bind_some, hend]
          rfl
      | inr q =>
        rw [eJ] at hn
        have e0 : jHd h n true = .inr q := eJ
        have g := jN_b (q := q.1) (K' := q.2) eJ
        rw [show f_X2_readName cy r 0 (nI n) (RM μ r sp 0 (-1) 0 (-1) K0) = _ from hn, ob2_some, e0]
        obtain ⟨vp, K, h1, h2⟩ := hL q.1 q.2 g.2.1
        exact ⟨vp, K, h1, fun q K1 e5 _ => by cases e5; exact h2⟩
  · rw [p_hasDocumentN ht, ob2_some, if_pos (show (0 : Int32) = 0 from rfl), if_neg ht, if_pos RM.is, q_refuse]
    exact ⟨0, K0, rfl, fun _ _ _ z => absurd z ht⟩
end PU11
