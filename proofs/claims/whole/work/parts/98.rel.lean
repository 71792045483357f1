/-! WHAT TIES THE CLASS TO THE REFERENCE, part by part. -/
def TPr (J : Nat → Int32) (B : Nat → Nat → Int32) (I : Nat → Int32) (A : Nat → Nat → Int32) : Prop := ∃ n b, J 2001 = nI n ∧ B 21 = hb b ∧ bB b ∧ n ≤ 2000 ∧ I 2 = nI n ∧ ∀ j, j < n → A 1 j = sx (b j)
def FTr (J I : Nat → Int32) : Prop := J 7 = I 3 ∧ J 8 = I 4
def SHr (J : Nat → Int32) (B : Nat → Nat → Int32) (A : Nat → Nat → Int32) (s : Nat) : Prop := ∃ bs n G d m at', SH J B (90 + s) bs n G d m at' ∧ atOk at' m ∧ RSh A s bs n G d at'
def LTr (J : Nat → Int32) (A : Nat → Nat → Int32) : Prop := J 9 = A 18 3 ∧ ((J 9 = -1 ∧ A 18 0 = -1 ∧ A 18 1 = -1 ∧ A 18 2 = -1) ∨ ∃ s, s < 4 ∧ J 9 = nI s ∧ J (100 * (90 + s) + 4) = A 18 0 ∧ J (100 * (90 + s) + 5) = A 18 1 ∧ J (100 * (90 + s) + 6) = A 18 2)
/-- the spans beside: given, plain, draft -/
def GVc (J : Nat → Int32) (B : Nat → Nat → Int32) : Prop := ∃ n b, J 2201 = nI n ∧ B 23 = hb b ∧ bB b ∧ n ≤ 2000
def PLc (J : Nat → Int32) (B : Nat → Nat → Int32) : Prop := ∃ n b, J 2401 = nI n ∧ B 25 = hb b ∧ bB b ∧ n ≤ 8
def OUr (A : Nat → Nat → Int32) : Prop := ∃ ob, bB ob ∧ A 26 = hs ob
/-- the shelf's parts of the memory -/
theorem sS_s {s : Nat} (hs : s < 4) : shf6 (90 + s) = true ∧ sS (90 + s) = 26 + 2 * s ∧ sC (90 + s) = 40 + 10 * s := by
  match s, hs with
  | 0, _ => exact ⟨rfl, rfl, rfl⟩
  | 1, _ => exact ⟨rfl, rfl, rfl⟩
  | 2, _ => exact ⟨rfl, rfl, rfl⟩
  | 3, _ => exact ⟨rfl, rfl, rfl⟩
section RL1
variable {J J' : Nat → Int32} {B B' : Nat → Nat → Int32} {I I' : Nat → Int32} {A A' : Nat → Nat → Int32} {s : Nat}
theorem TPr.fr (h : TPr J B I A) (h1 : J' 2001 = J 2001) (h2 : B' 21 = B 21) (h3 : I' 2 = I 2) (h4 : A' 1 = A 1) : TPr J' B' I' A' := by
  obtain ⟨n, b, a1, a2, a3, a4, a5, a6⟩ := h
  exact ⟨n, b, by rw [h1]; exact a1, by rw [h2]; exact a2, a3, a4, by rw [h3]; exact a5, by rw [h4]; exact a6⟩
theorem FTr.fr (h : FTr J I) (h1 : J' 7 = J 7) (h2 : J' 8 = J 8) (h3 : I' 3 = I 3) (h4 : I' 4 = I 4) : FTr J' I' := ⟨by rw [h1, h3]; exact h.1, by rw [h2, h4]; exact h.2⟩
theorem RSh.fr {bs : Nat → Nat} {n : Nat} {G : Nat → Nat} {d : Nat} {at' : Int32} (R : RSh A s bs n G d at') (h1 : A' (50 + s) = A (50 + s)) (h2 : A' 6 s = A 6 s) (h3 : A' (54 + s) = A (54 + s)) (h4 : A' 8 s = A 8 s) (h5 : A' 9 s = A 9 s) : RSh A' s bs n G d at' := by
  obtain ⟨r1, r2, r3, r4, r5⟩ := R
  exact ⟨by rw [h1]; exact r1, by rw [h2]; exact r2, by rw [h3]; exact r3, by rw [h4]; exact r4, by rw [h5]; exact r5⟩
theorem SHr.fr (hs : s < 4) (h : SHr J B A s) (h1 : ∀ k, k / 100 = 26 + 2 * s ∨ k / 100 = 40 + 10 * s → J' k = J k) (h2 : ∀ k, k = 27 + 2 * s ∨ (41 + 10 * s ≤ k ∧ k ≤ 45 + 10 * s) → B' k = B k) (h3 : A' (50 + s) = A (50 + s)) (h4 : A' 6 s = A 6 s) (h5 : A' (54 + s) = A (54 + s)) (h6 : A' 8 s = A 8 s) (h7 : A' 9 s = A 9 s) : SHr J' B' A' s := by
  obtain ⟨bs, n, G, d, m, at', a1, a2, a3⟩ := h
  have z := sS_s hs
  exact ⟨bs, n, G, d, m, at', a1.fr (fun k hk => h1 k (by omega)) (fun k hk => h2 k (by omega)), a2, a3.fr h3 h4 h5 h6 h7⟩
theorem LTr.fr (h : LTr J A) (h1 : J' 9 = J 9) (h2 : ∀ s, s < 4 → ∀ f, f < 100 → J' (100 * (90 + s) + f) = J (100 * (90 + s) + f)) (h3 : A' 18 = A 18) : LTr J' A' := by
  obtain ⟨a1, a2⟩ := h
  refine ⟨by rw [h1, h3]; exact a1, ?_⟩
  rw [h1, h3]
  rcases a2 with a | ⟨s, hs, b1, b2, b3, b4⟩
  · exact Or.inl a
  · exact Or.inr ⟨s, hs, b1, by rw [h2 s hs 4 (by decide)]; exact b2, by rw [h2 s hs 5 (by decide)]; exact b3, by rw [h2 s hs 6 (by decide)]; exact b4⟩
theorem GVc.fr (h : GVc J B) (h1 : J' 2201 = J 2201) (h2 : B' 23 = B 23) : GVc J' B' := by
  obtain ⟨n, b, a1, a2, a3⟩ := h
  exact ⟨n, b, by rw [h1]; exact a1, by rw [h2]; exact a2, a3⟩
theorem PLc.fr (h : PLc J B) (h1 : J' 2401 = J 2401) (h2 : B' 25 = B 25) : PLc J' B' := by
  obtain ⟨n, b, a1, a2, a3⟩ := h
  exact ⟨n, b, by rw [h1]; exact a1, by rw [h2]; exact a2, a3⟩
theorem DRF.fr (h : DRF J B) (h1 : J' 3401 = J 3401) (h2 : B' 35 = B 35) : DRF J' B' := by
  obtain ⟨n, b, a1, a2, a3, a4⟩ := h
  exact ⟨n, b, by rw [h1]; exact a1, a2, by rw [h2]; exact a3, a4⟩
theorem OUr.fr (h : OUr A) (h1 : A' 26 = A 26) : OUr A' := by
  obtain ⟨ob, a1, a2⟩ := h
  exact ⟨ob, a1, by rw [h1]; exact a2⟩
end RL1
/-! numbers of shelves -/
theorem sh4 (x : Int32) : (∃ s, s < 4 ∧ x = nI s) ∨ (x < 0 ∨ ¬ x < 4) := by
  by_cases c : x < 0
  · exact Or.inr (Or.inl c)
  · by_cases c2 : x < 4
    · left
      have h1 : ¬ x.toInt < 0 := fun z => c (Int32.lt_iff_toInt_lt.mpr z)
      have h2 : x.toInt < 4 := Int32.lt_iff_toInt_lt.mp c2
      obtain ⟨k, k1, k2, k3⟩ := i32_of (x := x) (lo := 0) (hi := 3) (fun z => h1 z) (fun z => by omega) (by decide)
      exact ⟨k, by omega, k3⟩
    · exact Or.inr (Or.inr c2)
section RL2
variable {cy : Nat → ClassId} {iv : Nat → Option Nat} {ad : Nat → Nat} {μ0 : Mem} {J : Nat → Int32} {w : Nat} {B : Nat → Nat → Int32} {I : Nat → Int32} {V : Nat → Value} {A : Nat → Nat → Int32} {s : Nat}
/-! the class's face: helpers -/
theorem g_is (hL : Lay6 iv ad) : isO (MC cy iv ad μ0 J w B) (ad 0) 5 = true := isO_mk (c_x hL)
theorem g_ref (hL : Lay6 iv ad) {k x : Nat} (h : (fX ad J)[k]? = some (.ref x)) : rdR (MC cy iv ad μ0 J w B) (ad 0) 5 k = some x := rdR_mk (c_x hL) h
theorem g_int (hL : Lay6 iv ad) {k : Nat} {x : Int32} (h : (fX ad J)[k]? = some (.int x)) : rdI (MC cy iv ad μ0 J w B) (ad 0) 5 k = some x := rdI_mk (c_x hL) h
theorem g_shelf (hL : Lay6 iv ad) (hs : s < 4) : f_X6_shelfOf cy (ad 0) (nI s) (MC cy iv ad μ0 J w B) = some (.inr (ad (90 + s), MC cy iv ad μ0 J w B)) := by
  unfold f_X6_shelfOf
  rw [if_neg (show ¬ nI s < 0 from nI_nlt (b := 0) (Nat.zero_le _) (by omega)), if_pos (show nI s < 4 from nI_lt (b := 4) hs (by decide)), g_ref hL (k := 4) rfl, Option.bind_some, c_sv hL hs, Option.bind_some]
theorem g_noShelf {x : Int32} (h : x < 0 ∨ ¬ x < 4) {μ : Mem} {a : Nat} : f_X6_shelfOf cy a x μ = some (.inl ("java/lang/IndexOutOfBoundsException", μ)) := by
  unfold f_X6_shelfOf f_X6_shelfOf_L9
  by_cases c : x < 0
  · rw [if_pos c]
  · rw [if_neg c, if_neg (h.resolve_left c)]
theorem obX_l {α β : Type} {e : String × Mem} {k : α → Option ((String × Mem) ⊕ β)} : obX (some (.inl e)) k = some (.inl e) := rfl
theorem obX_r {α β : Type} {a : α} {k : α → Option ((String × Mem) ⊕ β)} : obX (some (.inr a)) k = k a := rfl
theorem obX2_l {α β : Type} {e : String × Mem} {k : α → Mem → Option ((String × Mem) ⊕ β)} : obX2 (some (.inl e)) k = some (.inl e) := rfl
theorem obX2_r {α β : Type} {a : α} {μ : Mem} {k : α → Mem → Option ((String × Mem) ⊕ β)} : obX2 (some (.inr (a, μ))) k = k a μ := rfl
/-- the tape goes over into given -/
theorem g_tape (hL : Lay6 iv ad) {n g : Nat} {b : Nat → Nat} (h1 : J 2001 = nI n) (h2 : B 21 = hb b) (hB : bB b) (hn : n ≤ 2000) (hg : J 2201 = nI g) (hg2 : g ≤ 2000) {bg : Nat → Nat} (hg3 : B 23 = hb bg) (hBg : bB bg) : ∃ J' B' b', f_X6_useTapeUp cy (ad 0) (MC cy iv ad μ0 J w B) = some (MC cy iv ad μ0 J' w B') ∧ J' 2001 = 0 ∧ B' 21 = hb b ∧ J' 2201 = nI n ∧ B' 23 = hb b' ∧ bB b' ∧ (∀ j, j < n → b' j = b j) ∧ (∀ k, k / 100 ≠ 20 → k / 100 ≠ 22 → J' k = J k) ∧ (∀ k, k ≠ 23 → B' k = B k) := by
  unfold f_X6_useTapeUp
  have l22 : len6 (22 + 1) = 2000 := rfl
  have l20 : len6 (20 + 1) = 2000 := rfl
  rw [g_ref hL (k := 1) rfl, Option.bind_some, g_ref hL (k := 0) rfl, Option.bind_some, if_pos (P_is hL rfl)]
  have e1 := P_become (cy := cy) (μ0 := μ0) (w := w) (J := J) (B := B) (j := 22) (n := g) (h := B (22 + 1)) (o := J (100 * 22 + 2)) (k := 20) (m := n) hL rfl rfl (by decide) h1 (by rw [l20]; exact hn) (by rw [l22]; exact hn) (by rw [l22]; exact hg2)
  rw [← MP_id hg, show B (20 + 1) = hb b from h2, show B (22 + 1) = hb bg from hg3, hb_cpy] at e1
  rw [e1, Option.bind_some, g_ref hL (k := 0) rfl, Option.bind_some, if_pos (P_is hL rfl)]
  have e2 := P_clear (cy := cy) (μ0 := μ0) (w := w) (J := upd (upd J (100 * 22 + 1) (nI n)) (100 * 22 + 2) 0) (B := updG B (22 + 1) (hb (va_cpy b bg 0 0 n))) (j := 20) (n := n) (h := updG B (22 + 1) (hb (va_cpy b bg 0 0 n)) (20 + 1)) (o := (upd (upd J (100 * 22 + 1) (nI n)) (100 * 22 + 2) 0) (100 * 20 + 2)) hL rfl (by rw [l20]; exact hn)
  rw [← MP_id (by rw [upd_ne' (by decide), upd_ne' (by decide)]; exact h1)] at e2
  rw [e2, Option.bind_some]
  refine ⟨_, _, va_cpy b bg 0 0 n, rfl, ?_, ?_, ?_, ?_, hBg.cpy hB, fun j hj => (pk_cpy_in (Nat.zero_le _) (by omega)).trans (by congr 1 <;> omega), fun k k1 k2 => ?_, fun k k1 => ?_⟩
  · exact (MP_J1 (j := 20))
  · rw [updG_self, updG_ne (by decide)]; exact h2
  · rw [upd_ne' (by decide), upd_ne' (by decide)]; exact (MP_J1 (j := 22))
  · rw [updG_ne (by decide), updG_self]
  · rw [upd_ne' (by omega), upd_ne' (by omega), upd_ne' (by omega), upd_ne' (by omega)]
  · by_cases c : k = 20 + 1
    · subst c
      rw [updG_self, updG_ne (by decide)]
    · rw [updG_ne c, updG_ne k1]
theorem g_noEl (hL : Lay6 iv ad) (hs : s < 4) {bs : Nat → Nat} {n : Nat} {G : Nat → Nat} {d m : Nat} {at' : Int32} (S : SH J B (90 + s) bs n G d m at') : f_X6_refuseNoElement cy (ad (90 + s)) (MC cy iv ad μ0 J w B) = if at' = -1 then some (.inl ("java/util/NoSuchElementException", MC cy iv ad μ0 J w B)) else some (.inr (MC cy iv ad μ0 J w B)) := by
  have z := (sS_s hs).1
  have a := shf_sp z
  unfold f_X6_refuseNoElement
  rw [F_r1 hL z, Option.bind_some, if_pos (C_is hL a.2.1), C_atEl hL a.2.1 S.2.2.2.2, ob2_some]
  by_cases c : at' = -1
  · rw [if_pos c, if_pos rfl, if_pos c]
  · rw [if_neg c, if_neg (by decide), if_neg c]
theorem g_fault (hL : Lay6 iv ad) (fk fp : Int32) : f_X6_refuseFault cy (ad 0) fk fp (MC cy iv ad μ0 J w B) = if fk = 0 then some (.inr (MC cy iv ad μ0 (upd (upd J 7 fk) 8 fp) w B)) else some (.inl ("java/lang/IllegalArgumentException", MC cy iv ad μ0 (upd (upd J 7 fk) 8 fp) w B)) := by
  unfold f_X6_refuseFault f_X6_keepFault
  rw [if_pos (g_is hL), c_putX hL 7 rfl (by decide), Option.bind_some, c_putX hL 8 rfl (by decide), Option.bind_some, Option.bind_some]
/-! the reference's face: helpers -/
theorem r_is (hL : Lay iv ad) : isO (MR cy iv ad μ0 I V A) (ad 0) 7 = true := m_is hL
theorem r_shelf (hL : Lay iv ad) (hs : s < 4) : f_X8_noShelf cy (ad 0) (nI s) (MR cy iv ad μ0 I V A) = some (0, MR cy iv ad μ0 (upd I 0 0) V A) := by
  unfold f_X8_noShelf f_X8_noShelf_L14 f_X8_noShelf_L25
  rw [if_neg (show ¬ nI s < 0 from nI_nlt (b := 0) (Nat.zero_le _) (by omega)), if_pos (show nI s ≤ 3 from nI_le (b := 3) (by omega) (by decide)), if_pos rfl, m_put hL rfl (by decide), Option.bind_some, if_pos (Or.inl rfl)]
theorem r_noShelf (hL : Lay iv ad) {x : Int32} (h : x < 0 ∨ ¬ x < 4) : f_X8_noShelf cy (ad 0) x (MR cy iv ad μ0 I V A) = some (1, MR cy iv ad μ0 (upd I 0 1) V A) := by
  have e : f_X8_noShelf_L9 cy (ad 0) (MR cy iv ad μ0 I V A) = some (1, MR cy iv ad μ0 (upd I 0 1) V A) := by
    unfold f_X8_noShelf_L9 f_X8_noShelf_L14 f_X8_noShelf_L25
    rw [if_neg (by decide), m_put hL rfl (by decide), Option.bind_some, if_pos (Or.inr rfl)]
  unfold f_X8_noShelf
  by_cases c : x < 0
  · rw [if_pos c]; exact e
  · have h2 := h.resolve_left c
    rw [if_neg c, if_neg (fun z => h2 (by
      have z1 : x.toInt ≤ 3 := Int32.le_iff_toInt_le.mp z
      exact Int32.lt_iff_toInt_lt.mpr (by show x.toInt < 4; omega)))]
    exact e
theorem r_thr0 (c : Int32) {μ : Mem} {a : Nat} : f_X8_throwsIf cy a 0 c μ = some (0, μ) := by
  unfold f_X8_throwsIf f_X8_throwsIf_L9
  rw [if_pos rfl, if_pos (Or.inl rfl)]
theorem r_thr1 (hL : Lay iv ad) (c : Int32) : f_X8_throwsIf cy (ad 0) 1 c (MR cy iv ad μ0 I V A) = some (1, MR cy iv ad μ0 (upd I 0 c) V A) := by
  unfold f_X8_throwsIf f_X8_throwsIf_L9
  rw [if_neg (show ¬ (1 : Int32) = 0 by decide), m_put hL rfl (by decide), Option.bind_some, if_pos (Or.inr rfl)]
end RL2
