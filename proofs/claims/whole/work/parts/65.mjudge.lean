/-! PURE ROWS: what the reference's judging methods leave behind. -/
def okI (f : Option (Nat × Nat)) : Int32 := match f with
  | none => 1
  | some _ => 0
section MU5
variable {cy : Nat → ClassId} {iv : Nat → Option Nat} {ad : Nat → Nat} {μ0 : Mem} {I : Nat → Int32} {V : Nat → Value} {A : Nat → Nat → Int32} {n : Nat} {b : Nat → Nat} {wt : Int32} {G : Nat → Int32} {K : Kt} {dep : Nat}
theorem MF.up (F : MF iv ad I A n b) {k : Nat} {x : Int32} (hk : k ≠ 2) : MF iv ad (upd I k x) A n b := ⟨F.1, by rw [upd_ne' (Ne.symm hk)]; exact F.2.1, F.2.2⟩
theorem m_isAll (F : MF iv ad I A n b) {J : JR} (hJ : okF J) (hq : ∀ q K, J = .inr (q, K) → q ≤ n) {x : Option (Int32 × Mem)} (hx : RN (MJ cy iv ad μ0 I V A) J x) : ∃ G', (ob2 x fun r10 μ9 => if isO μ9 (ad 0) 7 = true then (ob2 (f_X8_isAll cy (ad 0) r10 μ9) fun r14 μ13 => if r14 = 0 ∨ r14 = 1 then some (r14, μ13) else none) else none) = some (okI (jEnd J n), MJ cy iv ad μ0 I V A (fkI (jEnd J n)) (fpI (jEnd J n)) G') := by
  have hn := F.2.2.2.2
  cases J with
  | inl f =>
    obtain ⟨G', hx⟩ := hx
    have h1 := hJ f rfl
    refine ⟨G', ?_⟩
    rw [hx, ob2_some, if_pos (MJ.is F)]
    unfold f_X8_isAll f_X8_isAll_L20
    rw [if_pos (show (-1 : Int32) < 0 by decide), MJ.rfk F, Option.bind_some, if_neg (nI_ne0 (by omega) (by omega)), ob2_some, if_pos (Or.inl rfl)]
    rfl
  | inr q =>
    obtain ⟨G', hx⟩ := hx
    have h1 := hq q.1 q.2 rfl
    refine ⟨G', ?_⟩
    rw [hx, ob2_some, if_pos (MJ.is F)]
    unfold f_X8_isAll f_X8_isAll_L20
    rw [if_neg (nI_pos (by omega)), MJ.rn F, Option.bind_some]
    unfold jEnd
    show _ = some (okI (if q.1 < n then some (9, q.1) else none), MJ cy iv ad μ0 I V A (fkI (if q.1 < n then some (9, q.1) else none)) (fpI (if q.1 < n then some (9, q.1) else none)) G')
    by_cases e : q.1 < n
    · rw [if_neg (nI_ge e (by omega)), if_pos (MJ.is F), m_wrong F, ob2_some, MJ.rfk F, Option.bind_some, if_neg (show ¬ (9 : Int32) = 0 by decide), ob2_some, if_pos (Or.inl rfl), if_pos e]
      rfl
    · rw [if_pos (nI_le (by omega) (by omega)), MJ.rfk F, Option.bind_some, if_pos rfl, ob2_some, if_pos (Or.inr rfl), if_neg e]
      rfl
theorem m_judges (hL : Lay iv ad) : f_X8_judges cy (ad 0) (MR cy iv ad μ0 I V A) = some (MJ cy iv ad μ0 I V A 0 (-1) (A 20)) := by
  unfold f_X8_judges
  rw [m_put hL rfl (by decide), Option.bind_some, m_put hL rfl (by decide), Option.bind_some]
  show some (MR cy iv ad μ0 (upd (upd I 3 0) 4 (-1)) V A) = some (MR cy iv ad μ0 (upd (upd I 3 0) 4 (-1)) V (updG A 20 (A 20)))
  rw [updG_id]
theorem m_judgeRoot (F : MF iv ad I A n b) : ∃ G', f_X8_judgeRoot cy (ad 0) (MR cy iv ad μ0 I V A) = some (okI (jEnd (jDoc (hb b) (-1) 24 K0 0 n false) n), MJ cy iv ad μ0 I V A (fkI (jEnd (jDoc (hb b) (-1) 24 K0 0 n false) n)) (fpI (jEnd (jDoc (hb b) (-1) 24 K0 0 n false) n)) G') := by
  unfold f_X8_judgeRoot
  rw [if_pos (m_is F.1), m_judges F.1, Option.bind_some, MJ.rn F, Option.bind_some, if_pos (MJ.is F)]
  exact m_isAll F (jDoc_f 24 _ _ _ _) (fun q K e => (jDoc_b 24 _ _ _ _ _ _ e).2) (m_group (wt := -1) F 24 DP (by decide) (by decide) K0 0 n false _ (Nat.zero_le _) (Nat.le_refl _))
theorem m_value (F : MF iv ad I A n b) (hd : dep ≤ 24) {t : Int32} {p w : Nat} (hp : p ≤ w) (hw : w ≤ n) : RN (MJ cy iv ad μ0 I V A) (jVal (hb b) (jDoc (hb b) wt (24 - dep)) K t p w) (f_X8_value cy DP (ad 0) t (nI p) (nI w) (nI dep) (MJ cy iv ad μ0 I V A 0 (-1) G)) := by
  have e1 : 25 - (24 - dep) = dep + 1 := by omega
  have g3 := m_group (cy := cy) (μ0 := μ0) (V := V) (wt := wt) F (24 - dep) 119 (by omega) (by omega)
  have g4 := m_group (cy := cy) (μ0 := μ0) (V := V) (wt := wt) F (24 - dep) 118 (by omega) (by omega)
  rw [e1] at g3 g4
  show RN _ _ (f_X8_value cy (119 + 1) (ad 0) t (nI p) (nI w) (nI dep) _)
  rw [f_X8_value_s]
  refine m_val F g3 (fun K p w G h6 h7 => ?_) hp hw
  show RN _ _ (f_X8_scoped cy (118 + 1) (ad 0) (nI p) (nI w) (nI dep) _)
  rw [f_X8_scoped_s]
  exact m_scoped F g4 (jDoc_b _) h6 h7
theorem m_isValue (F : MF iv ad I A n b) (hd : dep ≤ 24) {t : Int32} (ht : isTy t) {p : Nat} (hp : p ≤ n) : ∃ G', f_X8_isValue cy (ad 0) t (nI p) (nI dep) (MJ cy iv ad μ0 I V A 0 (-1) G) = some (okI (jEnd (jVal (hb b) (jDoc (hb b) (-1) (24 - dep)) K t p n) n), MJ cy iv ad μ0 I V A (fkI (jEnd (jVal (hb b) (jDoc (hb b) (-1) (24 - dep)) K t p n) n)) (fpI (jEnd (jVal (hb b) (jDoc (hb b) (-1) (24 - dep)) K t p n) n)) G') := by
  unfold f_X8_isValue
  rw [m_isType.1 ht, ob2_some, if_neg (show ¬ (1 : Int32) = 0 by decide), MJ.rn F, Option.bind_some, if_pos (MJ.is F)]
  exact m_isAll F (jVal_f (jDoc_f _)) (fun q K e => (jVal_b (jDoc_b _) e).2) (m_value F hd hp (Nat.le_refl n))
theorem m_isValueN (F : MF iv ad I A n b) {t d p : Int32} (ht : ¬ isTy t) : f_X8_isValue cy (ad 0) t p d (MJ cy iv ad μ0 I V A 0 (-1) G) = some (0, MJ cy iv ad μ0 I V A 3 0 G) := by
  unfold f_X8_isValue
  rw [m_isType.2 ht, ob2_some, if_pos rfl, if_pos (MJ.is F), m_wrong F, ob2_some]
/-- a VALUE without a NAME -/
theorem m_isValue0 (F : MF iv ad I A n b) (hd : dep ≤ 24) (t : Int32) : ∃ G', f_X8_isValue cy (ad 0) t 0 (nI dep) (MJ cy iv ad μ0 I V A 0 (-1) G) = some (okI (jEnd (jPc (hb b) n false t (24 - dep)) n), MJ cy iv ad μ0 I V A (fkI (jEnd (jPc (hb b) n false t (24 - dep)) n)) (fpI (jEnd (jPc (hb b) n false t (24 - dep)) n)) G') := by
  unfold jPc
  by_cases ht : isTy t
  · rw [if_pos ht]
    exact m_isValue F hd ht (Nat.zero_le n)
  · rw [if_neg ht]
    exact ⟨G, m_isValueN F ht⟩
theorem MJ_42 (hL : Lay iv ad) {fk fp x : Int32} : wrF (MJ cy iv ad μ0 I V A fk fp G) (ad 0) 7 42 (.int x) = some (MJ cy iv ad μ0 (upd I 42 x) V A fk fp G) := by
  rw [m_put hL rfl (by decide), upd_cm (show (4 : Nat) ≠ 42 by decide), upd_cm (show (3 : Nat) ≠ 42 by decide)]
theorem MJ.r42 (hL : Lay iv ad) {fk fp x : Int32} : rdI (MJ cy iv ad μ0 (upd I 42 x) V A fk fp G) (ad 0) 7 42 = some x := m_int hL rfl
theorem m_isPiece (F : MF iv ad I A n b) (hd : dep ≤ 24) (t : Int32) (row : Bool) : ∃ pf G', f_X8_isPiece cy (ad 0) t (bI row) (nI dep) (MJ cy iv ad μ0 I V A 0 (-1) G) = some (okI (jEnd (jPc (hb b) n (!row) t (24 - dep)) n), MJ cy iv ad μ0 (upd I 42 pf) V A (fkI (jEnd (jPc (hb b) n (!row) t (24 - dep)) n)) (fpI (jEnd (jPc (hb b) n (!row) t (24 - dep)) n)) G') ∧ ∀ q K1, jHd (hb b) n (!row) = .inr (q, K1) → isTy t → pf = nI q := by
  have hn := F.2.2.2.2
  unfold f_X8_isPiece jPc
  rw [MJ_42 F.1, Option.bind_some]
  by_cases ht : isTy t
  · rw [m_isType.1 ht, ob2_some, if_neg (show ¬ (1 : Int32) = 0 by decide), if_pos ht]
    have hL : ∀ (q : Nat) (K1 : Kt) (G : Nat → Int32), q ≤ n → ∃ G', f_X8_isPiece_L39 cy (ad 0) t (nI dep) (MJ cy iv ad μ0 (upd I 42 (nI q)) V A 0 (-1) G) = some (okI (jEnd (jVal (hb b) (jDoc (hb b) (-1) (24 - dep)) K1 t q n) n), MJ cy iv ad μ0 (upd I 42 (nI q)) V A (fkI (jEnd (jVal (hb b) (jDoc (hb b) (-1) (24 - dep)) K1 t q n) n)) (fpI (jEnd (jVal (hb b) (jDoc (hb b) (-1) (24 - dep)) K1 t q n) n)) G') := by
      intro q K1 G hq
      have F2 : MF iv ad (upd I 42 (nI q)) A n b := F.up (by decide)
      unfold f_X8_isPiece_L39 f_X8_isPiece_L63
      rw [MJ.r42 F.1, Option.bind_some, if_neg (nI_pos (by omega)), Option.bind_some, if_pos (MJ.is F2)]
      obtain ⟨G', h1⟩ := m_isValue (cy := cy) (μ0 := μ0) (V := V) (K := K1) (G := G) F2 hd ht hq
      refine ⟨G', ?_⟩
      rw [h1, ob2_some]
      cases jEnd (jVal (hb b) (jDoc (hb b) (-1) (24 - dep)) K1 t q n) n with
      | none => rw [if_neg (show ¬ okI none = 0 by decide)]; rfl
      | some f => rw [if_pos (show okI (some f) = 0 from rfl)]; rfl
    cases row with
    | true =>
      rw [if_neg (show ¬ bI true = 0 by decide)]
      obtain ⟨G', h1⟩ := hL 0 K0 G (Nat.zero_le _)
      exact ⟨nI 0, G', h1, fun q K1 e5 _ => by cases e5; rfl⟩
    | false =>
      have F2 : MF iv ad (upd I 42 0) A n b := F.up (by decide)
      rw [if_pos (show bI false = 0 from rfl), MJ.rn F2, Option.bind_some, if_pos (MJ.is F2)]
      have hnm := m_name (cy := cy) (μ0 := μ0) (V := V) (K := K0) (G := G) F2 (Nat.zero_le n) (Nat.le_refl n) (row := none) (fun _ z => by cases z)
      have e0 : jHd (hb b) n (!false) = jNm (hb b) K0 0 n none := rfl
      rw [e0]
      cases eJ : jNm (hb b) K0 0 n none with
      | inl f =>
        rw [eJ] at hnm
        obtain ⟨G2, hnm⟩ := hnm
        rw [show f_X8_name cy (ad 0) 0 (nI n) (-1) (MJ cy iv ad μ0 (upd I 42 0) V A 0 (-1) G) = _ from hnm, ob2_some, MJ_42 F.1, Option.bind_some, upd_upd]
        refine ⟨-1, G2, ?_, fun q K1 e5 => by cases e5⟩
        unfold f_X8_isPiece_L39 f_X8_isPiece_L63
        rw [MJ.r42 F.1, Option.bind_some, if_pos (by decide)]
        rfl
      | inr q =>
        rw [eJ] at hnm
        obtain ⟨G2, hnm⟩ := hnm
        have g := jNm_b (q := q.1) (K' := q.2) eJ
        rw [show f_X8_name cy (ad 0) 0 (nI n) (-1) (MJ cy iv ad μ0 (upd I 42 0) V A 0 (-1) G) = _ from hnm, ob2_some, MJ_42 F.1, Option.bind_some, upd_upd]
        obtain ⟨G', h1⟩ := hL q.1 q.2 G2 g.2.1
        exact ⟨nI q.1, G', h1, fun q K1 e5 _ => by cases e5; rfl⟩
  · have F2 : MF iv ad (upd I 42 0) A n b := F.up (by decide)
    rw [m_isType.2 ht, ob2_some, if_pos (show (0 : Int32) = 0 from rfl), if_neg ht, if_pos (MJ.is F2), m_wrong F2, ob2_some]
    exact ⟨0, G, rfl, fun _ _ _ z => absurd z ht⟩
theorem m_isOpening (F : MF iv ad I A n b) (t : Int32) {o : Nat} (ho : I 13 = nI (o + 1)) (ho2 : o < 25) (row : Bool) (hr : A 15 o = 4 ↔ row = true) : ∃ pf G', f_X8_isOpening cy (ad 0) t (MJ cy iv ad μ0 I V A 0 (-1) G) = some (okI (jEnd (jOp (hb b) n (!row) t) n), MJ cy iv ad μ0 (upd I 42 pf) V A (fkI (jEnd (jOp (hb b) n (!row) t) n)) (fpI (jEnd (jOp (hb b) n (!row) t) n)) G') ∧ ∀ q K1, jHd (hb b) n (!row) = .inr (q, K1) → hasD t → pf = nI q := by
  have hn := F.2.2.2.2
  unfold f_X8_isOpening jOp
  rw [MJ_42 F.1, Option.bind_some]
  have F2 : MF iv ad (upd I 42 0) A n b := F.up (by decide)
  by_cases ht : hasD t
  · rw [if_pos ht]
    have e3 : (if t = 3 then f_X8_isOpening_L30 cy (ad 0) t (MJ cy iv ad μ0 (upd I 42 0) V A 0 (-1) G) else if t = 4 then f_X8_isOpening_L30 cy (ad 0) t (MJ cy iv ad μ0 (upd I 42 0) V A 0 (-1) G) else if t = 15 then f_X8_isOpening_L30 cy (ad 0) t (MJ cy iv ad μ0 (upd I 42 0) V A 0 (-1) G) else if isO (MJ cy iv ad μ0 (upd I 42 0) V A 0 (-1) G) (ad 0) 7 = true then (ob2 (f_X8_wrong cy (ad 0) 3 0 (MJ cy iv ad μ0 (upd I 42 0) V A 0 (-1) G)) fun r9 μ8 => some (0, μ8)) else none) = f_X8_isOpening_L30 cy (ad 0) t (MJ cy iv ad μ0 (upd I 42 0) V A 0 (-1) G) := by
      rcases ht with h | h | h
      · rw [if_pos h]
      · rw [if_neg (by rw [h]; decide), if_pos h]
      · rw [if_neg (by rw [h]; decide), if_neg (by rw [h]; decide), if_pos h]
    rw [e3]
    have hL : ∀ (q : Nat) (K1 : Kt) (G : Nat → Int32), q ≤ n → ∃ G', f_X8_isOpening_L59 cy (ad 0) t (MJ cy iv ad μ0 (upd I 42 (nI q)) V A 0 (-1) G) = some (okI (jEnd (if t = 15 then jT (hb b) K1 q n else .inr (q, K1)) n), MJ cy iv ad μ0 (upd I 42 (nI q)) V A (fkI (jEnd (if t = 15 then jT (hb b) K1 q n else .inr (q, K1)) n)) (fpI (jEnd (if t = 15 then jT (hb b) K1 q n else .inr (q, K1)) n)) G') := by
      intro q K1 G hq
      have F3 : MF iv ad (upd I 42 (nI q)) A n b := F.up (by decide)
      unfold f_X8_isOpening_L59 f_X8_isOpening_L94
      rw [MJ.r42 F.1, Option.bind_some, if_pos (nI_pos' (by omega))]
      by_cases h15 : t = 15
      · rw [if_pos h15, if_pos h15, Option.bind_some, MJ.rn F3, Option.bind_some, if_pos (MJ.is F3)]
        exact m_isAll F3 jT_f (fun q K e => by obtain ⟨N, -, -, -, g, -⟩ := jT_b e; exact g) (m_text F3 hq (Nat.le_refl n))
      · rw [if_neg h15, if_neg h15, Option.bind_some]
        exact m_isAll (x := some (nI q, MJ cy iv ad μ0 (upd I 42 (nI q)) V A 0 (-1) G)) F3 okF.r (fun q K e => by cases e; exact hq) ⟨G, rfl⟩
    unfold f_X8_isOpening_L30
    have hot : rdA cy (MJ cy iv ad μ0 (upd I 42 0) V A 0 (-1) G) 1 (ad 15) (nI (o + 1) - 1) = some (A 15 o) := by
      rw [show (1 : Int32) = nI 1 by decide +kernel, nI_sub' (by omega)]
      have h := m_ld (cy := cy) (μ0 := μ0) (I := upd (upd (upd I 42 0) 3 0) 4 (-1)) (V := V) (A := updG A 20 G) (i := o) F.1 15 rfl ho2
      rw [updG_ne (by decide)] at h
      exact h
    rw [m_ref (x := ad 15) F.1 rfl, Option.bind_some, m_int (x := I 13) F.1 rfl, Option.bind_some, ho, hot, Option.bind_some]
    cases row with
    | true =>
      rw [if_pos (hr.mpr rfl)]
      obtain ⟨G', h1⟩ := hL 0 K0 G (Nat.zero_le _)
      exact ⟨nI 0, G', h1, fun q K1 e5 _ => by cases e5; rfl⟩
    | false =>
      rw [if_neg (fun z => by have := hr.mp z; cases this), MJ.rn F2, Option.bind_some, if_pos (MJ.is F2)]
      have hnm := m_name (cy := cy) (μ0 := μ0) (V := V) (K := K0) (G := G) F2 (Nat.zero_le n) (Nat.le_refl n) (row := none) (fun _ z => by cases z)
      have e0 : jHd (hb b) n (!false) = jNm (hb b) K0 0 n none := rfl
      rw [e0]
      cases eJ : jNm (hb b) K0 0 n none with
      | inl f =>
        rw [eJ] at hnm
        obtain ⟨G2, hnm⟩ := hnm
        rw [show f_X8_name cy (ad 0) 0 (nI n) (-1) (MJ cy iv ad μ0 (upd I 42 0) V A 0 (-1) G) = _ from hnm, ob2_some, MJ_42 F.1, Option.bind_some, upd_upd]
        refine ⟨-1, G2, ?_, fun q K1 e5 => by cases e5⟩
        unfold f_X8_isOpening_L59
        rw [MJ.r42 F.1, Option.bind_some, if_neg (by decide)]
        rfl
      | inr q =>
        rw [eJ] at hnm
        obtain ⟨G2, hnm⟩ := hnm
        have g := jNm_b (q := q.1) (K' := q.2) eJ
        rw [show f_X8_name cy (ad 0) 0 (nI n) (-1) (MJ cy iv ad μ0 (upd I 42 0) V A 0 (-1) G) = _ from hnm, ob2_some, MJ_42 F.1, Option.bind_some, upd_upd]
        obtain ⟨G', h1⟩ := hL q.1 q.2 G2 g.2.1
        exact ⟨nI q.1, G', h1, fun q K1 e5 _ => by cases e5; rfl⟩
  · rw [if_neg ht, if_neg (fun e => ht (Or.inl e)), if_neg (fun e => ht (Or.inr (Or.inl e))), if_neg (fun e => ht (Or.inr (Or.inr e))), if_pos (MJ.is F2), m_wrong F2, ob2_some]
    exact ⟨0, G, rfl, fun _ _ _ z => absurd z ht⟩
/-- a NAME that is all -/
theorem m_isName (F : MF iv ad I A n b) : ∃ G', (ob2 (f_X8_name cy (ad 0) 0 (nI n) (-1) (MJ cy iv ad μ0 I V A 0 (-1) G)) fun r10 μ9 => if isO μ9 (ad 0) 7 = true then (ob2 (f_X8_isAll cy (ad 0) r10 μ9) fun r14 μ13 => if r14 = 0 ∨ r14 = 1 then some (r14, μ13) else none) else none) = some (okI (jEnd (jN (hb b) K0 0 n) n), MJ cy iv ad μ0 I V A (fkI (jEnd (jN (hb b) K0 0 n) n)) (fpI (jEnd (jN (hb b) K0 0 n) n)) G') :=
  m_isAll F jN_f (fun q K e => (jN_b e).2.1) (m_name (K := K0) F (Nat.zero_le n) (Nat.le_refl n) (row := none) (fun _ z => by cases z))
end MU5
