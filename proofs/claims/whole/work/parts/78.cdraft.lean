/-! THE CLASS'S DRAFTS: what is being written, as a list of bytes. -/
def sl (f : Nat → Nat) (p q : Nat) : List Nat := (List.range (q - p)).map (fun i => f (p + i))
def rnl (v : Nat) : List Nat := (List.range (dg v + 1)).map (rnm v)
theorem sl_len {f : Nat → Nat} {p q : Nat} : (sl f p q).length = q - p := by unfold sl; rw [List.length_map, List.length_range]
theorem rnl_len {v : Nat} : (rnl v).length = dg v + 1 := by unfold rnl; rw [List.length_map, List.length_range]
theorem gd_lo {l l' : List Nat} {i : Nat} (h : i < l.length) : (l ++ l').getD i 0 = l.getD i 0 := by rw [List.getD_eq_getElem?_getD, List.getD_eq_getElem?_getD, List.getElem?_append_left h]
theorem gd_hi {l l' : List Nat} {i : Nat} (h : l.length ≤ i) : (l ++ l').getD i 0 = l'.getD (i - l.length) 0 := by rw [List.getD_eq_getElem?_getD, List.getD_eq_getElem?_getD, List.getElem?_append_right h]
theorem gd_sl {f : Nat → Nat} {p q i : Nat} (h : i < q - p) : (sl f p q).getD i 0 = f (p + i) := by
  unfold sl
  rw [List.getD_eq_getElem?_getD, List.getElem?_map, List.getElem?_range h]
  rfl
theorem gd_rnl {v i : Nat} (h : i < dg v + 1) : (rnl v).getD i 0 = rnm v i := by
  unfold rnl
  rw [List.getD_eq_getElem?_getD, List.getElem?_map, List.getElem?_range h]
  rfl
theorem sl_cat {f : Nat → Nat} {p q r : Nat} (h1 : p ≤ q) (h2 : q ≤ r) : sl f p q ++ sl f q r = sl f p r := by
  refine List.ext_getElem? (fun i => ?_)
  unfold sl
  rw [List.getElem?_map, List.getElem?_append, List.length_map, List.length_range, List.getElem?_map, List.getElem?_map]
  by_cases c : i < q - p
  · rw [if_pos c, List.getElem?_range c, List.getElem?_range (by omega)]
  · rw [if_neg c]
    by_cases c2 : i < r - p
    · rw [List.getElem?_range c2, List.getElem?_range (show i - (q - p) < r - q by omega)]
      show some (f (q + (i - (q - p)))) = some (f (p + i))
      rw [show q + (i - (q - p)) = p + i by omega]
    · rw [List.getElem?_eq_none (by rw [List.length_range]; omega), List.getElem?_eq_none (by rw [List.length_range]; omega)]
      rfl
theorem sl_nil {f : Nat → Nat} {p : Nat} : sl f p p = [] := by unfold sl; rw [Nat.sub_self]; rfl
theorem sl_one {f : Nat → Nat} {p : Nat} : sl f p (p + 1) = [f p] := by unfold sl; rw [Nat.add_sub_cancel_left]; rfl
theorem sl_ag {f g : Nat → Nat} {p q p' q' : Nat} (hl : q - p = q' - p') (h : ∀ i, i < q - p → f (p + i) = g (p' + i)) : sl f p q = sl g p' q' := by
  unfold sl
  rw [← hl]
  refine List.map_congr_left (fun i hi => ?_)
  exact h i (List.mem_range.mp hi)
theorem CUR.fr {J J' : Nat → Int32} {B B' : Nat → Nat → Int32} {cs n : Nat} {h : Nat → Int32} {I : Nat → Nat} {d m : Nat} {at' : Int32} (C : CUR J B cs h n I d m at') (hJ : ∀ k, k / 100 = cs → J' k = J k) (hB : ∀ k, cs + 1 ≤ k → k ≤ cs + 5 → B' k = B k) : CUR J' B' cs h n I d m at' := by
  obtain ⟨c1, c2, c3, c4, c5, c6, c7, c8, c9⟩ := C
  refine ⟨by rw [hJ _ (by omega)]; exact c1, by rw [hJ _ (by omega)]; exact c2, by rw [hJ _ (by omega)]; exact c3, ?_, ?_, ?_, ?_, ?_, c9⟩
  · rw [hB _ (by omega) (by omega)]; exact c4
  · rw [hB _ (by omega) (by omega)]; exact c5
  · rw [hB _ (by omega) (by omega)]; exact c6
  · rw [hB _ (by omega) (by omega)]; exact c7
  · rw [hB _ (by omega) (by omega)]; exact c8
/-- the draft holds the bytes bs ahead of D4, then M; or it is over, as M is too long -/
def DG (cy : Nat → ClassId) (iv : Nat → Option Nat) (ad : Nat → Nat) (μ0 : Mem) (J : Nat → Int32) (w : Nat) (B : Nat → Nat → Int32) (bs : Nat → Nat) (D4 : Nat) (M : List Nat) (μ : Mem) : Prop :=
  ∃ n b o, μ = MP cy iv ad μ0 J w B 34 n (hb b) o ∧ bB b ∧ n ≤ 2400 ∧ ((o = 0 ∧ n = D4 + M.length ∧ (∀ j, j < D4 → b j = bs j) ∧ ∀ i, i < M.length → b (D4 + i) = M.getD i 0) ∨ (o = 1 ∧ 2400 < D4 + M.length))
section CD1
variable {cy : Nat → ClassId} {iv : Nat → Option Nat} {ad : Nat → Nat} {μ0 : Mem} {J : Nat → Int32} {w : Nat} {B : Nat → Nat → Int32} {bs : Nat → Nat} {D4 : Nat} {M : List Nat} {μ : Mem}
theorem DG.app {F : Mem → Option Mem} (L : List Nat) (hg : ∀ n b, bB b → n + L.length ≤ 2400 → ∃ b', bB b' ∧ F (MP cy iv ad μ0 J w B 34 n (hb b) 0) = some (MP cy iv ad μ0 J w B 34 (n + L.length) (hb b') 0) ∧ (∀ j, j < n → b' j = b j) ∧ ∀ i, i < L.length → b' (n + i) = L.getD i 0)
    (ho : ∀ n b o, bB b → n ≤ 2400 → OV cy iv ad μ0 J w B 34 n o L.length (F (MP cy iv ad μ0 J w B 34 n (hb b) o))) (G : DG cy iv ad μ0 J w B bs D4 M μ) : ∃ μ', F μ = some μ' ∧ DG cy iv ad μ0 J w B bs D4 (M ++ L) μ' := by
  obtain ⟨n, b, o, rfl, hB, hn, h | h⟩ := G
  · obtain ⟨rfl, h1, h2, h3⟩ := h
    rcases Nat.lt_or_ge 2400 (n + L.length) with c | c
    · obtain ⟨n', b', e, hB', hn'⟩ := (ho n b 0 hB hn).over (Or.inr c)
      exact ⟨_, e, n', b', 1, rfl, hB', hn', Or.inr ⟨rfl, by rw [List.length_append]; omega⟩⟩
    · obtain ⟨b', hB', e, g1, g2⟩ := hg n b hB c
      refine ⟨_, e, n + L.length, b', 0, rfl, hB', c, Or.inl ⟨rfl, by rw [List.length_append]; omega, fun j hj => ?_, fun i hi => ?_⟩⟩
      · rw [g1 j (by omega), h2 j hj]
      · rw [List.length_append] at hi
        rcases Nat.lt_or_ge i M.length with q | q
        · rw [g1 _ (by omega), h3 i q, gd_lo q]
        · rw [gd_hi q, ← g2 (i - M.length) (by omega), h1]
          congr 1
          omega
  · obtain ⟨rfl, h1⟩ := h
    obtain ⟨n', b', e, hB', hn'⟩ := (ho n b 1 hB hn).over (Or.inl rfl)
    exact ⟨_, e, n', b', 1, rfl, hB', hn', Or.inr ⟨rfl, by rw [List.length_append]; omega⟩⟩
theorem DG.append (hL : Lay6 iv ad) (x : Int32) (G : DG cy iv ad μ0 J w B bs D4 M μ) : ∃ μ', f_X5_append cy (ad 34) x μ = some μ' ∧ DG cy iv ad μ0 J w B bs D4 (M ++ [b8 x]) μ' := by
  refine DG.app (F := f_X5_append cy (ad 34) x) [b8 x] (fun n b hB hn => ?_) (fun n b o hB hn => OV.append hL rfl hB hn x) G
  refine ⟨updG b n (b8 x), hB.upd (b8_lt x), P_appendB hL rfl hn x, fun j hj => updG_ne (by omega), fun i hi => ?_⟩
  have : i = 0 := by simpa using hi
  subst this
  rw [Nat.add_zero, updG_self]
  rfl
theorem DG.row (hL : Lay6 iv ad) {v : Nat} (hv : v < 2 ^ 30) (G : DG cy iv ad μ0 J w B bs D4 M μ) : ∃ μ', f_X5_appendRowName cy (ad 34) (nI v) μ = some μ' ∧ DG cy iv ad μ0 J w B bs D4 (M ++ rnl v) μ' := by
  have e := rnl_len (v := v)
  refine DG.app (F := f_X5_appendRowName cy (ad 34) (nI v)) (rnl v) (fun n b hB hn => ?_) (fun n b o hB hn => ?_) G
  · rw [e] at hn ⊢
    refine ⟨apn b n (rnm v) (dg v + 1), apn_bB hB (rnm_bB v), ?_, fun j hj => apn_lo hj, fun i hi => ?_⟩
    · exact P_row hL rfl hv hn
    · rw [apn_in hi, gd_rnl hi]
  · rw [e]
    exact OV.row hL rfl hv hB hn
theorem DG.part (hL : Lay6 iv ad) {k m p q : Nat} {b1 : Nat → Nat} (hk : span6 k = true) (hkj : k ≠ 34) (h1 : J (100 * k + 1) = nI m) (hb1 : B (k + 1) = hb b1) (hB1 : bB b1) (hm : m ≤ len6 (k + 1)) (hpq : p ≤ q) (hq : q ≤ m) (G : DG cy iv ad μ0 J w B bs D4 M μ) : ∃ μ', f_X5_appendPart cy (ad 34) (ad k) (nI p) (nI q) μ = some μ' ∧ DG cy iv ad μ0 J w B bs D4 (M ++ sl b1 p q) μ' := by
  have e := sl_len (f := b1) (p := p) (q := q)
  refine DG.app (F := f_X5_appendPart cy (ad 34) (ad k) (nI p) (nI q)) (sl b1 p q) (fun n b hB hn => ?_) (fun n b o hB hn => ?_) G
  · rw [e] at hn ⊢
    refine ⟨va_cpy b1 b p n (q - p), hB.cpy hB1, ?_, fun j hj => pk_cpy_out (by omega), fun i hi => ?_⟩
    · rw [P_part hL rfl hk hkj h1 hm hpq hq hn, hb1, hb_cpy]
    · rw [pk_cpy_in (by omega) (by omega), gd_sl hi]
      congr 1
      omega
  · rw [e]
    exact OV.part hL rfl hB hB1 hn hk hkj h1 hb1 hm hpq hq
/-- any other int of the memory changes -/
theorem DG.put {s f ci : Nat} {x : Int32} (hs : 100 * s + f ≠ 3401 ∧ 100 * s + f ≠ 3402) (hw : ∀ (J' : Nat → Int32) (B' : Nat → Nat → Int32), wrF (MC cy iv ad μ0 J' w B') (ad s) ci f (.int x) = some (MC cy iv ad μ0 (upd J' (100 * s + f) x) w B')) (G : DG cy iv ad μ0 J w B bs D4 M μ) : ∃ μ', wrF μ (ad s) ci f (.int x) = some μ' ∧ DG cy iv ad μ0 (upd J (100 * s + f) x) w B bs D4 M μ' := by
  obtain ⟨n, b, o, rfl, h⟩ := G
  refine ⟨_, hw _ _, n, b, o, ?_, h⟩
  show MC cy iv ad μ0 (upd (upd (upd J (100 * 34 + 1) (nI n)) (100 * 34 + 2) o) (100 * s + f) x) w (updG B 35 (hb b)) = MC cy iv ad μ0 (upd (upd (upd J (100 * s + f) x) (100 * 34 + 1) (nI n)) (100 * 34 + 2) o) w (updG B 35 (hb b))
  rw [upd_cm (show 100 * 34 + 2 ≠ 100 * s + f by omega), upd_cm (show 100 * 34 + 1 ≠ 100 * s + f by omega)]
/-- what is read beside the draft -/
theorem DG.rdI (hL : Lay6 iv ad) {s f ci : Nat} {x : Int32} (hr : ∀ (J' : Nat → Int32) (B' : Nat → Nat → Int32), (∀ k, k ≠ 3401 → k ≠ 3402 → J' k = J k) → rdI (MC cy iv ad μ0 J' w B') (ad s) ci f = some x) (G : DG cy iv ad μ0 J w B bs D4 M μ) : rdI μ (ad s) ci f = some x := by
  obtain ⟨n, b, o, rfl, h⟩ := G
  exact hr _ _ (fun k h1 h2 => by rw [upd_ne' h2, upd_ne' h1])
theorem DG.mem (G : DG cy iv ad μ0 J w B bs D4 M μ) : ∃ J' B', μ = MC cy iv ad μ0 J' w B' ∧ (∀ k, k ≠ 3401 → k ≠ 3402 → J' k = J k) ∧ (∀ k, k ≠ 35 → B' k = B k) := by
  obtain ⟨n, b, o, rfl, h⟩ := G
  exact ⟨_, _, rfl, fun k h1 h2 => by rw [upd_ne' h2, upd_ne' h1], fun k h1 => updG_ne h1⟩
end CD1
