/-! THE CLASS'S SHELF: the draft finished. -/
section CH4
variable {cy : Nat → ClassId} {iv : Nat → Option Nat} {ad : Nat → Nat} {μ0 : Mem} {J : Nat → Int32} {w : Nat} {B : Nat → Nat → Int32} {fs n : Nat} {bs : Nat → Nat} {I : Nat → Nat} {d m : Nat} {at' : Int32} {M : List Nat} {D4 : Nat} {μ : Mem}
theorem MP_putF (hL : Lay6 iv ad) (hf : shf6 fs = true) {f k : Nat} {h : Nat → Int32} {o x : Int32} (hff : f = 3 ∨ f = 4 ∨ f = 5 ∨ f = 6) : wrF (MP cy iv ad μ0 J w B 34 k h o) (ad fs) 3 f (.int x) = some (MP cy iv ad μ0 (upd J (100 * fs + f) x) w B 34 k h o) := by
  have a := shf_sp hf
  rw [c_putF hL hf f hff]
  rw [upd_cm (show 100 * 34 + 2 ≠ 100 * fs + f by omega), upd_cm (show 100 * 34 + 1 ≠ 100 * fs + f by omega)]
theorem SH.upf (S : SH J B fs bs n I d m at') (hf : shf6 fs = true) {f : Nat} {x : Int32} (hff : f < 100) : SH (upd J (100 * fs + f) x) B fs bs n I d m at' := by
  have a := shf_sp hf
  exact S.fr (fun k hk => upd_ne' (by omega)) (fun k hk => rfl)
theorem SH.mp (S : SH J B fs bs n I d m at') (hf : shf6 fs = true) {k : Nat} {h : Nat → Int32} {o : Int32} : SH (upd (upd J (100 * 34 + 1) (nI k)) (100 * 34 + 2) o) (updG B (34 + 1) h) fs bs n I d m at' := by
  have a := shf_sp hf
  exact S.fr (fun k hk => by rw [upd_ne' (by omega), upd_ne' (by omega)]) (fun k hk => updG_ne (by omega))
theorem nI_dif {x y : Nat} (hx : x < 2 ^ 30) (hy : y < 2 ^ 30) : nI x - nI y = 0 ↔ x = y := by
  constructor
  · intro h
    have : nI x = nI y := by
      have := congrArg (fun z => z + nI y) h
      simp only [Int32.sub_add_cancel, Int32.zero_add] at this
      exact this
    exact (nI_eq (by omega) (by omega)).mp this
  · intro h
    rw [h]
    exact Int32.sub_self _
def shS (x y : Int32) : Int32 := x - y
/-- what a shelf's change leaves as it was -/
def FrF (fs : Nat) (J J' : Nat → Int32) (B B' : Nat → Nat → Int32) : Prop := (∀ k, k / 100 ≠ 34 → k / 100 ≠ sS fs → k / 100 ≠ sC fs → k / 100 ≠ fs → J' k = J k) ∧ ∀ k, k ≠ 35 → k ≠ sS fs + 1 → (k ≤ sC fs ∨ sC fs + 5 < k) → B' k = B k
/-- the length that the changed DOCUMENT gets -/
def nLen (bs : Nat → Nat) (n : Nat) (I : Nat → Nat) (d : Nat) (M : List Nat) : Nat := wD (hb bs) n I d + 4 + M.length + (n - (wR (hb bs) n I d - 1))
theorem F_fin109 (hL : Lay6 iv ad) (hf : shf6 fs = true) (S : SH J B fs bs n I d m at') {m' n' : Nat} {P : Nat → List Nat} {b : Nat → Nat} (hB : bB b) (hM : M = cat P m') (hP : ∀ i, i < m' → eOk (hl (P i)) (23 - d) 0 (P i).length (rwo (wT (hb bs) n I d == 4) i)) (hn' : n' ≤ 2400) (E : ED bs n I d M b n') (x t : Int32) : ∃ J' B' nb, f_X4_finishDraft_L109 cy (ad fs) x (ad fs) t (MP cy iv ad μ0 J w B 34 n' (hb b) 0) = some (1, MC cy iv ad μ0 J' w B') ∧ (∀ j, j < n' → nb j = b j) ∧ SH J' B' fs nb n' I d m' (numL m' x) ∧ ED bs n I d M nb n' ∧ DRF J' B' ∧ FrF fs J J' B B' ∧ J' (100 * fs + 4) = J (100 * fs + 4) ∧ J' (100 * fs + 5) = t ∧ J' (100 * fs + 6) = J (100 * fs + 6) := by
  have a := shf_sp hf
  have C := S.2.2.2.2
  have W := C.2.2.2.2.2.2.2.2.2.1
  have hlv := C.lvl
  have hn := S.2.2.2.1
  have l34 : len6 (34 + 1) = 2400 := rfl
  have cp : ∀ j, j < n' → va_cpy b bs 0 0 n' j = b j := fun j hj => (pk_cpy_in (Nat.zero_le _) (by omega)).trans (by congr 1 <;> omega)
  have E2 : ED bs n I d M (va_cpy b bs 0 0 n') n' := E.congr W cp
  obtain ⟨wys, W2, hDC, hm'⟩ := E2.all W hn' hM hP
  have stE := E2.stE W hn' hM hP
  unfold f_X4_finishDraft_L109
  rw [MP_putF hL hf (Or.inr (Or.inr (Or.inl rfl))), Option.bind_some, F_r0 hL hf, Option.bind_some, F_r2 hL hf, Option.bind_some, if_pos (P_is hL a.1)]
  have e5 := P_become (cy := cy) (μ0 := μ0) (w := w) (J := upd (upd (upd J (100 * fs + 5) t) (100 * 34 + 1) (nI n')) (100 * 34 + 2) 0) (B := updG B (34 + 1) (hb b)) (j := sS fs) (n := n) (h := updG B (34 + 1) (hb b) (sS fs + 1)) (o := (upd (upd (upd J (100 * fs + 5) t) (100 * 34 + 1) (nI n')) (100 * 34 + 2) 0) (100 * sS fs + 2)) (k := 34) (m := n') hL a.1 rfl (by omega) MP_J1 (by rw [l34]; exact hn') (by rw [a.2.2.1]; exact hn') (by rw [a.2.2.1]; exact hn)
  rw [← MP_id (by rw [upd_ne' (by omega), upd_ne' (by omega), upd_ne' (by omega)]; exact S.1), updG_self, updG_ne (show sS fs + 1 ≠ 34 + 1 by omega), S.2.1, hb_cpy] at e5
  rw [e5, Option.bind_some, F_r1 hL hf, Option.bind_some, F_r0 hL hf, Option.bind_some, if_pos (C_is hL a.2.1)]
  obtain ⟨S', e6, hS'⟩ := C_findStarts (cy := cy) (μ0 := μ0) (w := w) (J := upd (upd (upd (upd (upd J (100 * fs + 5) t) (100 * 34 + 1) (nI n')) (100 * 34 + 2) 0) (100 * sS fs + 1) (nI n')) (100 * sS fs + 2) 0) (B := updG (updG B (34 + 1) (hb b)) (sS fs + 1) (hb (va_cpy b bs 0 0 n'))) (n := n') (h := hb (va_cpy b bs 0 0 n')) (sp := sS fs) (cs := sC fs) (k := d) hL a.2.1 a.1 (by rw [upd_ne' (by omega), upd_self']) (by rw [a.2.2.1]; exact hn') updG_self hDC hm' (by rw [upd_ne' (by omega), upd_ne' (by omega), upd_ne' (by omega), upd_ne' (by omega), upd_ne' (by omega)]; exact C.1) hlv (by rw [updG_ne (by omega), updG_ne (by omega)]; exact C.2.2.2.1 d (Nat.le_refl _))
  rw [e6, Option.bind_some, F_r1 hL hf, Option.bind_some, if_pos (C_is hL a.2.1), C_toNum hL a.2.1 (m := m') upd_self', Option.bind_some]
  refine ⟨_, _, va_cpy b bs 0 0 n', rfl, cp, ⟨?_, ?_, S.2.2.1.cpy hB, hn', ?_, ?_, ?_, ?_, ?_, ?_, ?_, ?_, hm', W2, wR (hb bs) n I d + n' - n, ?_⟩, E2, ⟨n', b, ?_, hn', ?_, hB⟩, ⟨fun k k1 k2 k3 k4 => ?_, fun k k1 k2 k3 => ?_⟩, ?_, ?_, ?_⟩
  · rw [upd_ne' (by omega), upd_ne' (by omega), upd_ne' (by omega), upd_self']
  · rw [updG_ne (by omega), updG_self]
  · rw [upd_ne' (by omega), upd_ne' (by omega), upd_ne' (by omega), upd_ne' (by omega), upd_ne' (by omega), upd_ne' (by omega), upd_ne' (by omega)]
    exact C.1
  · exact upd_self'
  · rw [upd_ne' (by omega), upd_self']
  · intro k hk
    rw [updG_ne (by omega), updG_ne (by omega), updG_ne (by omega), C.2.2.2.1 k hk]
    show nI (wy (hb bs) n I k).1 = nI (wy (hb (va_cpy b bs 0 0 n')) n' I k).1
    rw [wys k hk]
  · intro k hk
    rw [updG_ne (by omega), updG_ne (by omega), updG_ne (by omega), C.2.2.2.2.1 k hk]
    show (wy (hb bs) n I k).2 = (wy (hb (va_cpy b bs 0 0 n')) n' I k).2
    rw [wys k hk]
  · intro k hk
    rw [updG_ne (by omega), updG_ne (by omega), updG_ne (by omega), C.2.2.2.2.2.1 k hk]
    show _ = nI (st (hb (va_cpy b bs 0 0 n')) n' (wy (hb (va_cpy b bs 0 0 n')) n' I k).1 (I k))
    rw [wys k (by omega)]
    exact congrArg nI (stE k hk).symm
  · intro k hk
    rw [updG_ne (by omega), updG_ne (by omega), updG_ne (by omega), C.2.2.2.2.2.2.1 k hk]
  · intro i hi
    rw [updG_self, hS' i hi]
    show _ = nI (st (hb (va_cpy b bs 0 0 n')) n' (wy (hb (va_cpy b bs 0 0 n')) n' I d).1 i)
    rw [wys d (Nat.le_refl _)]
  · show DC (hb (va_cpy b bs 0 0 n')) n' (23 - d) (wy (hb (va_cpy b bs 0 0 n')) n' I d).1 _ ((wy (hb (va_cpy b bs 0 0 n')) n' I d).2 == 4) m'
    rw [wys d (Nat.le_refl _)]
    exact hDC
  · rw [upd_ne' (by omega), upd_ne' (by omega), upd_ne' (by omega), upd_ne' (by omega), upd_ne' (by omega), upd_self']
  · rw [updG_ne (by omega), updG_ne (by omega), updG_self]
  · rw [upd_ne' (by omega), upd_ne' (by omega), upd_ne' (by omega), upd_ne' (by omega), upd_ne' (by omega), upd_ne' (by omega), upd_ne' (by omega)]
  · rw [updG_ne (by omega), updG_ne (by omega), updG_ne (by omega)]
  · rw [upd_ne' (by omega), upd_ne' (by omega), upd_ne' (by omega), upd_ne' (by omega), upd_ne' (by omega), upd_ne' (by omega), upd_ne' (by omega)]
  · rw [upd_ne' (by omega), upd_ne' (by omega), upd_ne' (by omega), upd_ne' (by omega), upd_ne' (by omega), upd_ne' (by omega), upd_self']
  · rw [upd_ne' (by omega), upd_ne' (by omega), upd_ne' (by omega), upd_ne' (by omega), upd_ne' (by omega), upd_ne' (by omega), upd_ne' (by omega)]
theorem F_finish (hL : Lay6 iv ad) (hf : shf6 fs = true) (S : SH J B fs bs n I d m at') (G : DG cy iv ad μ0 J w B bs (wD (hb bs) n I d + 4) M μ) {m' : Nat} {P : Nat → List Nat} (hM : M = cat P m') (hP : ∀ i, i < m' → eOk (hl (P i)) (23 - d) 0 (P i).length (rwo (wT (hb bs) n I d == 4) i)) (x : Int32) :
    (2400 < nLen bs n I d M → ∃ J' B', f_X4_finishDraft cy (ad fs) x μ = some (0, MC cy iv ad μ0 J' w B') ∧ SH J' B' fs bs n I d m at' ∧ DRF J' B' ∧ (∀ k, k / 100 ≠ 34 → J' k = J k) ∧ (∀ k, k ≠ 35 → B' k = B k)) ∧
    (nLen bs n I d M ≤ 2400 → ∃ J' B' nb, f_X4_finishDraft cy (ad fs) x μ = some (1, MC cy iv ad μ0 J' w B') ∧ SH J' B' fs nb (nLen bs n I d M) I d m' (numL m' x) ∧ ED bs n I d M nb (nLen bs n I d M) ∧ DRF J' B' ∧ FrF fs J J' B B' ∧ J' (100 * fs + 4) = fdS bs n nb (nLen bs n I d M) (wD (hb bs) n I d + 4) ∧ J' (100 * fs + 5) = (if nLen bs n I d M = n then 0 else nI (lpc (hb bs) n I (d + 1))) ∧ J' (100 * fs + 6) = nI (nLen bs n I d M) - nI n) := by
  have a := shf_sp hf
  obtain ⟨J0, B0, e0, S0, hJ0, hB0⟩ := S.dg hf G
  subst e0
  have C0 := S0.2.2.2.2
  have C := S.2.2.2.2
  have W := C.2.2.2.2.2.2.2.2.2.1
  have hn := S.2.2.2.1
  have l34 : len6 (34 + 1) = 2400 := rfl
  obtain ⟨m1, hm1, hD⟩ := W.r (Nat.le_refl d)
  obtain ⟨r2, hD2⟩ := C.2.2.2.2.2.2.2.2.2.2
  obtain ⟨-, rfl⟩ := hD.uniq hD2 W.2.1
  have hst := hD.2.2.2.2.1
  have hr1 := hD.1
  have hr2 := hD.2.1
  obtain ⟨μ1, e1, G1⟩ := G.part (k := sS fs) (m := n) (p := st (hb bs) n (wD (hb bs) n I d) m1) (q := n) (b1 := bs) hL a.1 (by omega) S.1 S.2.1 S.2.2.1 (by rw [a.2.2.1]; exact hn) (by omega) (Nat.le_refl _)
  have eN : wD (hb bs) n I d + 4 + (M ++ sl bs (st (hb bs) n (wD (hb bs) n I d) m1) n).length = nLen bs n I d M := by
    rw [List.length_append, sl_len, hst]
    unfold nLen
    omega
  unfold f_X4_finishDraft
  rw [F_r2 hL hf, Option.bind_some, F_r0 hL hf, Option.bind_some, F_r1 hL hf, Option.bind_some, if_pos (C_is hL a.2.1), C_last hL a.2.1 C0, ob2_some, F_r0 hL hf, Option.bind_some, P_size (n := n) hL a.1 S0.1, Option.bind_some, if_pos (P_is hL rfl), e1, Option.bind_some]
  obtain ⟨n1, b, o, rfl, hB, hn1, h1 | h1⟩ := G1
  · obtain ⟨rfl, h1, h2, h3⟩ := h1
    rw [eN] at h1
    refine ⟨fun z => by omega, fun _ => ?_⟩
    rw [← h1]
    have hlen : (M ++ sl bs (st (hb bs) n (wD (hb bs) n I d) m1) n).length = M.length + (n - (wR (hb bs) n I d - 1)) := by rw [List.length_append, sl_len, hst]
    have en1 : n1 + (wR (hb bs) n I d - 1) = wD (hb bs) n I d + 4 + M.length + n := by
      unfold nLen at h1
      omega
    have hMg : ∀ i, i < M.length → b (wD (hb bs) n I d + 4 + i) = M.getD i 0 := fun i hi => by
      rw [h3 i (by omega), gd_lo hi]
    have hTl : ∀ j, wR (hb bs) n I d - 1 ≤ j → j < n → b (j + n1 - n) = bs j := fun j a1 a2 => by
      have := h3 (M.length + (j - (wR (hb bs) n I d - 1))) (by omega)
      rw [gd_hi (by omega), show M.length + (j - (wR (hb bs) n I d - 1)) - M.length = j - (wR (hb bs) n I d - 1) by omega, gd_sl (by omega), hst, show wR (hb bs) n I d - 1 + (j - (wR (hb bs) n I d - 1)) = j by omega] at this
      rw [← this]
      congr 1
      omega
    have E := ED.of W (M := M) (b := b) hn1 en1 h2 hMg hTl
    have J6 : ∀ v : Int32, SH (upd J (100 * fs + 6) v) B fs bs n I d m1 at' := fun v => S.upf hf (by decide)
    have J64 : ∀ v u : Int32, SH (upd (upd J (100 * fs + 6) v) (100 * fs + 4) u) B fs bs n I d m1 at' := fun v u => (J6 v).upf hf (by decide)
    have SM := (J6 (nI n1 - nI n)).mp hf (k := n1) (h := hb b) (o := 0)
    rw [F_r2 hL hf, Option.bind_some, P_over hL rfl, Option.bind_some, MP_J2, if_pos rfl, Option.bind_some, P_size (j := 34) (n := n1) hL rfl MP_J1, Option.bind_some, F_r0 hL hf, Option.bind_some, P_size (j := sS fs) (n := n) hL a.1 (by rw [upd_ne' (by omega), upd_ne' (by omega)]; exact S.1), Option.bind_some, MP_putF hL hf (Or.inr (Or.inr (Or.inr rfl))), Option.bind_some, F_r0 hL hf, Option.bind_some, F_r2 hL hf, Option.bind_some, F_r1 hL hf, Option.bind_some, if_pos (C_is hL a.2.1), C_doc hL a.2.1 SM.2.2.2.2, ob2_some, if_pos (P_is hL a.1), nI_a4]
    have pd : f_X5_firstDifference cy (ad (sS fs)) (ad 34) (nI (wD (hb bs) n I d + 4)) (MP cy iv ad μ0 (upd J (100 * fs + 6) (nI n1 - nI n)) w B 34 n1 (hb b) 0) = some (fdS bs n b n1 (wD (hb bs) n I d + 4), MP cy iv ad μ0 (upd J (100 * fs + 6) (nI n1 - nI n)) w B 34 n1 (hb b) 0) := P_diff (m := min n n1) (p := wD (hb bs) n I d + 4) (SM.sp (cy := cy) (μ0 := μ0) (w := w) hL hf) (SPP (j := 34) (n := n1) (h := hb b) (o := 0) hL rfl (by rw [l34]; exact hn1)) rfl (by omega)
    rw [pd, ob2_some, MP_putF hL hf (Or.inr (Or.inl rfl)), Option.bind_some, F_r1 hL hf, Option.bind_some, F_r2 hL hf, Option.bind_some, F_i6 hL hf, Option.bind_some, if_pos (C_is hL a.2.1)]
    have hdr : ∀ j, j < wD (hb bs) n I d + 4 → hb b j = hb bs j := fun j hj => by show nI (b j) = nI (bs j); rw [h2 j hj]
    rw [upd_ne' (show 100 * fs + 6 ≠ 100 * 34 + 2 by omega), upd_ne' (show 100 * fs + 6 ≠ 100 * 34 + 1 by omega), upd_ne' (show 100 * fs + 6 ≠ 100 * fs + 4 by omega), upd_self']
    rw [C_lengthen (by' := nI n1 - nI n) (b := b) (n' := n1) hL a.2.1 (J64 _ _).2.2.2.2 hdr (by omega) hn1, ob2_some, F_i6 hL hf, Option.bind_some]
    rw [upd_ne' (show 100 * fs + 6 ≠ 100 * 34 + 2 by omega), upd_ne' (show 100 * fs + 6 ≠ 100 * 34 + 1 by omega), upd_ne' (show 100 * fs + 6 ≠ 100 * fs + 4 by omega), upd_self']
    obtain ⟨J', B', nb, k1, k2, k3, k4, k5, k6, k7, k8, k9⟩ := F_fin109 (cy := cy) (μ0 := μ0) (w := w) hL hf (J64 (nI n1 - nI n) (fdS bs n b n1 (wD (hb bs) n I d + 4))) (lpv_bB (h := hb bs) (n := n) (I := I) (by' := nI n1 - nI n) hB (d + 1)) hM hP hn1 E x (if n1 = n then 0 else nI (lpc (hb bs) n I (d + 1)))
    refine ⟨J', B', nb, ?_, k3, k4, k5, ⟨fun k c1 c2 c3 c4 => ?_, k6.2⟩, ?_, k8, ?_⟩
    · by_cases c : n1 = n
      · rw [if_pos ((nI_dif (by omega) (by omega)).mpr c)]
        rw [if_pos c] at k1
        exact k1
      · rw [if_neg (fun z => c ((nI_dif (by omega) (by omega)).mp z))]
        rw [if_neg c] at k1
        exact k1
    · rw [k6.1 k c1 c2 c3 c4, upd_ne' (by omega), upd_ne' (by omega)]
    · rw [k7, upd_self']
      unfold fdS
      have hc : fdf (hb bs) (hb b) (wD (hb bs) n I d + 4) (min n n1 - (wD (hb bs) n I d + 4)) = fdf (hb bs) (hb nb) (wD (hb bs) n I d + 4) (min n n1 - (wD (hb bs) n I d + 4)) := fdf_congr (fun j a1 a2 => by
        show nI (b j) = nI (nb j)
        rw [k2 j (by omega), lpv_hi W (Nat.le_refl _) (Or.inr a1)])
      rw [hc]
    · rw [k9, upd_ne' (by omega), upd_self']
  · obtain ⟨rfl, h1⟩ := h1
    rw [eN] at h1
    refine ⟨fun _ => ?_, fun z => by omega⟩
    rw [F_r2 hL hf, Option.bind_some, P_over hL rfl, Option.bind_some, MP_J2, if_neg (by decide)]
    refine ⟨_, _, rfl, S.mp hf, ⟨n1, b, MP_J1 (j := 34), hn1, updG_self, hB⟩, fun k hk => ?_, fun k hk => updG_ne hk⟩
    rw [upd_ne' (by omega), upd_ne' (by omega)]
end CH4
