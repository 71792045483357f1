/-! THE LAW'S LOOP AND ITS START. -/
theorem lt_i (i : Nat) {w : Cond} (h : tables_1[i]? = some w) : w ∈ lw_tbl := List.mem_append_right _ (List.mem_of_getElem? h)
theorem vi_of {ii N : Nat} (h : ii + 6 ≤ N) (hN : N ≤ 3072) : vi (nI ii) N := by
  refine ⟨vp_in_nI (by omega) (by omega), ?_, ?_, ?_, ?_, ?_⟩
  · rw [show nI ii + 1 = nI (ii + 1) from nI_add ii 1]; exact vp_in_nI (by omega) (by omega)
  · rw [show nI ii + 2 = nI (ii + 2) from nI_add ii 2]; exact vp_in_nI (by omega) (by omega)
  · rw [show nI ii + 3 = nI (ii + 3) from nI_add ii 3]; exact vp_in_nI (by omega) (by omega)
  · rw [show nI ii + 4 = nI (ii + 4) from nI_add ii 4]; exact vp_in_nI (by omega) (by omega)
  · rw [show nI ii + 5 = nI (ii + 5) from nI_add ii 5]; exact vp_in_nI (by omega) (by omega)
theorem gt_of {ii N : Nat} (hi : ii ≤ 4000) (hN : N ≤ 3072) : (Int32.ofNat N - 6 < nI ii) ↔ N < ii + 6 := by
  rw [Int32.lt_iff_toInt_lt, show Int32.ofNat N - 6 = nI N - nI 6 from rfl, pk_sub_toInt (by omega) (by omega), nI_toInt (by omega)]
  omega
section LOOP
variable {p : Program} {l : Launch} {e : Env} {s : State} {m : MethodId} {below : List Frame} {meth : Method} {c : Code} {A : Nat → Prop} {g : Wg} {z b N : Nat} {xs : Nat → Int32} {μb : Mem}
theorem lw_end (h : LC p l s m #[Value.ref b] c A g b N xs) (hr : meth.sig.returnType = ret) (hlocks : meth.locks = false) (hA : ∀ q, A q → s.heap.size ≤ q) {L : List Nat} {μ : Mem} {H : Heap} {locs : List Loc} {cells slots : Nat} {ls : Array Slot} (hw : PW g L μ A s H locs) (h1 : cells ≤ 601024) (h2 : slots ≤ 7293034) : W p l e room_1 s m #[Value.ref b] below meth c H locs cells slots (lw_Z below #[Value.ref b] s) (F0 m 1844 ls []) := by
  obtain ⟨hC, -⟩ := h
  refine lv_iconst (v := 1) hC.1 hC.2.1 dL_law_1844 nc_iconst_1 ?_
  refine W.widen (k := 601024) (n := 7293034) h1 h2 ?_
  refine va_forget (fun q hq => hA _ (hw.2.2.2.1.2.2 q hq)) ?_
  exact lw_ret hC.1 hC.2.1 hr hlocks dL_law_1845
set_option maxRecDepth 100000 in
set_option maxHeartbeats 4000000 in
theorem lw_loop (h : LC p l s m #[Value.ref b] c A g b N xs) (hr : meth.sig.returnType = ret) (hlocks : meth.locks = false) (hA : ∀ q, A q → s.heap.size ≤ q) (hN : N ≤ 3072) : ∀ (n ii : Nat) (f : Nat → Int64) (J : Nat → Int32) (w : Nat) (B : Nat → Nat → Int32) (I : Nat → Int32) (V : Nat → Value) (Ar : Nat → Nat → Int32) (H : Heap) (locs : List Loc) (cells slots : Nat) (ls : Array Slot), N < ii + 6 * n + 6 → ii ≤ 3078 → REL J B I Ar → lv_has ls 8 [(0, .ref b), (1, .ref (ad6 z 0)), (2, .ref (ad8 z 0)), (3, .ref (z + 116)), (4, .int (nI ii))] → PW g (LZ [] z 117) (LM g.2 z μb f J w B I V Ar) A s H locs → cells + 8 * n ≤ 601024 → slots + 48 * n ≤ 7293034 →
    W p l e room_1 s m #[Value.ref b] below meth c H locs cells slots (lw_Z below #[Value.ref b] s) (F0 m 23 ls []) := by
  intro n
  induction n with
  | zero =>
    intro ii f J w B I V Ar H locs cells slots ls hn hii R hl hw hc1 hc2
    have hC := h.1
    have hx := hC.1
    have hb := hC.2.1
    refine lv_iload hx hb dL_law_23 (lv_at hl 4 rfl) ?_
    refine lv_aload_n hx hb dL_law_25 rfl (lv_at hl 0 rfl) ?_
    refine va_slen hx hb h.2.2.2.2.1 h.2.2.2.2.2.1 h.2.2.2.2.2.2 hw.2.2.2.1 dL_law_26 ?_
    refine lv_bipush (v := 6) hx hb dL_law_27 nc_bipush_6 ?_
    refine lv_isub hx hb dL_law_29 ?_
    refine lv_icmp_gt (tgt := 1844) hx hb dL_law_30 (by decide) (fun c1 => ?_) (fun c1 => absurd ((gt_of (by omega) hN).mpr (by omega)) c1)
    exact lw_end h hr hlocks hA hw (by omega) (by omega)
  | succ n ih =>
    intro ii f J w B I V Ar H locs cells slots ls hn hii R hl hw hc1 hc2
    have hC := h.1
    have hx := hC.1
    have hb := hC.2.1
    refine lv_iload hx hb dL_law_23 (lv_at hl 4 rfl) ?_
    refine lv_aload_n hx hb dL_law_25 rfl (lv_at hl 0 rfl) ?_
    refine va_slen hx hb h.2.2.2.2.1 h.2.2.2.2.2.1 h.2.2.2.2.2.2 hw.2.2.2.1 dL_law_26 ?_
    refine lv_bipush (v := 6) hx hb dL_law_27 nc_bipush_6 ?_
    refine lv_isub hx hb dL_law_29 ?_
    refine lv_icmp_gt (tgt := 1844) hx hb dL_law_30 (by decide) (fun c1 => ?_) (fun c1 => ?_)
    · exact lw_end h hr hlocks hA hw (by omega) (by omega)
    · have h6 : ii + 6 ≤ N := Nat.le_of_not_lt (fun q => c1 ((gt_of (by omega) hN).mpr q))
      have hi := vi_of h6 hN
      have nxt : ∀ (f' : Nat → Int64) (J' : Nat → Int32) (w' : Nat) (B' : Nat → Nat → Int32) (I' : Nat → Int32) (V' : Nat → Value) (A' : Nat → Nat → Int32) (H1 : Heap) (locs1 : List Loc) (ls1 : Array Slot), REL J' B' I' A' → lv_has ls1 8 [(0, .ref b), (1, .ref (ad6 z 0)), (2, .ref (ad8 z 0)), (3, .ref (z + 116)), (4, .int (nI ii))] → PW g (LZ [] z 117) (LM g.2 z μb f' J' w' B' I' V' A') A s H1 locs1 → W p l e room_1 s m #[Value.ref b] below meth c H1 locs1 (cells + 8) (slots + 48) (lw_Z below #[Value.ref b] s) (F0 m 1838 ls1 []) := by
        intro f' J' w' B' I' V' A' H1 locs1 ls1 R' hl' hw'
        refine lv_iinc (v := nI (ii + 6)) (lv' := [(4, .int (nI (ii + 6))), (0, .ref b), (1, .ref (ad6 z 0)), (2, .ref (ad8 z 0)), (3, .ref (z + 116))]) hx hb dL_law_1838 hl' (k := 4) rfl (nI_add ii 6) (by decide) rfl (fun ls2 hl2 => ?_)
        refine lv_goto (tgt := 23) hx hb dL_law_1841 (by decide) ?_
        exact ih (ii + 6) f' J' w' B' I' V' A' H1 locs1 (cells + 8) (slots + 48) ls2 (by omega) (by omega) R' (lv_sub hl2 [1, 2, 3, 4, 0] rfl) hw' (by omega) (by omega)
      have hcs : cells + 8 ≤ room_1.cells ∧ slots + 48 ≤ room_1.slots := ⟨by show cells + 8 ≤ 601024; omega, by show slots + 48 ≤ 7293034; omega⟩
      refine lv_aload_n hx hb dL_law_33 rfl (lv_at hl 0 rfl) ?_
      refine lv_iload hx hb dL_law_34 (lv_at hl 4 rfl) ?_
      refine va_sld hx hb h.2.2.2.2.1 h.2.2.2.2.2.1 h.2.2.2.2.2.2 hw.2.2.2.1 hi.1 dL_law_36 ?_
      refine lv_bipush (v := 31) hx hb dL_law_37 nc_bipush_31 ?_
      refine lv_iand hx hb dL_law_39 ?_
      obtain ⟨j, hj, hjx⟩ := pk_andE (xs (nI ii).toNatClampNeg) (m := 31) 5 (by decide)
      rw [hjx]
      rcases j with _ | j
      · exact lv_tableIn (off := 140) (tgt := 180) hx hb dL_law_40 (by decide) (by decide) (by decide +kernel) (by decide) (lc_0 h R hi hl hw hcs nxt)
      rcases j with _ | j
      · exact lv_tableIn (off := 213) (tgt := 253) hx hb dL_law_40 (by decide) (by decide) (by decide +kernel) (by decide) (lc_1 h R hi hl hw hcs nxt)
      rcases j with _ | j
      · exact lv_tableIn (off := 238) (tgt := 278) hx hb dL_law_40 (by decide) (by decide) (by decide +kernel) (by decide) (lc_2 h R hi hl hw hcs nxt)
      rcases j with _ | j
      · exact lv_tableIn (off := 251) (tgt := 291) hx hb dL_law_40 (by decide) (by decide) (by decide +kernel) (by decide) (lc_3 h R hi hl hw hcs nxt)
      rcases j with _ | j
      · exact lv_tableIn (off := 276) (tgt := 316) hx hb dL_law_40 (by decide) (by decide) (by decide +kernel) (by decide) (lc_4 h R hi hl hw hcs nxt)
      rcases j with _ | j
      · exact lv_tableIn (off := 332) (tgt := 372) hx hb dL_law_40 (by decide) (by decide) (by decide +kernel) (by decide) (lc_5 h R hi hl hw hcs nxt)
      rcases j with _ | j
      · exact lv_tableIn (off := 407) (tgt := 447) hx hb dL_law_40 (by decide) (by decide) (by decide +kernel) (by decide) (lc_6 h R hi hl hw hcs nxt)
      rcases j with _ | j
      · exact lv_tableIn (off := 463) (tgt := 503) hx hb dL_law_40 (by decide) (by decide) (by decide +kernel) (by decide) (lc_7 h R hi hl hw hcs nxt)
      rcases j with _ | j
      · exact lv_tableIn (off := 519) (tgt := 559) hx hb dL_law_40 (by decide) (by decide) (by decide +kernel) (by decide) (lc_8 h R hi hl hw hcs nxt)
      rcases j with _ | j
      · exact lv_tableIn (off := 582) (tgt := 622) hx hb dL_law_40 (by decide) (by decide) (by decide +kernel) (by decide) (lc_9 h R hi hl hw hcs nxt)
      rcases j with _ | j
      · exact lv_tableIn (off := 645) (tgt := 685) hx hb dL_law_40 (by decide) (by decide) (by decide +kernel) (by decide) (lc_10 h R hi hl hw hcs nxt)
      rcases j with _ | j
      · exact lv_tableIn (off := 713) (tgt := 753) hx hb dL_law_40 (by decide) (by decide) (by decide +kernel) (by decide) (lc_11 h R hi hl hw hcs nxt)
      rcases j with _ | j
      · exact lv_tableIn (off := 781) (tgt := 821) hx hb dL_law_40 (by decide) (by decide) (by decide +kernel) (by decide) (lc_12 h R hi hl hw hcs nxt)
      rcases j with _ | j
      · exact lv_tableIn (off := 836) (tgt := 876) hx hb dL_law_40 (by decide) (by decide) (by decide +kernel) (by decide) (lc_13 h R hi hl hw hcs nxt)
      rcases j with _ | j
      · exact lv_tableIn (off := 904) (tgt := 944) hx hb dL_law_40 (by decide) (by decide) (by decide +kernel) (by decide) (lc_14 h R hi hl hw hcs nxt)
      rcases j with _ | j
      · exact lv_tableIn (off := 972) (tgt := 1012) hx hb dL_law_40 (by decide) (by decide) (by decide +kernel) (by decide) (lc_15 h R hi hl hw hcs nxt)
      rcases j with _ | j
      · exact lv_tableIn (off := 1040) (tgt := 1080) hx hb dL_law_40 (by decide) (by decide) (by decide +kernel) (by decide) (lc_16 h R hi hl hw hcs nxt)
      rcases j with _ | j
      · exact lv_tableIn (off := 1120) (tgt := 1160) hx hb dL_law_40 (by decide) (by decide) (by decide +kernel) (by decide) (lc_17 h R hi hl hw hcs nxt)
      rcases j with _ | j
      · exact lv_tableIn (off := 1176) (tgt := 1216) hx hb dL_law_40 (by decide) (by decide) (by decide +kernel) (by decide) (lc_18 h R hi hl hw hcs nxt)
      rcases j with _ | j
      · exact lv_tableIn (off := 1232) (tgt := 1272) hx hb dL_law_40 (by decide) (by decide) (by decide +kernel) (by decide) (lc_19 h R hi hl hw hcs nxt)
      rcases j with _ | j
      · exact lv_tableIn (off := 1307) (tgt := 1347) hx hb dL_law_40 (by decide) (by decide) (by decide +kernel) (by decide) (lc_20 h R hi hl hw hcs nxt)
      rcases j with _ | j
      · exact lv_tableIn (off := 1375) (tgt := 1415) hx hb dL_law_40 (by decide) (by decide) (by decide +kernel) (by decide) (lc_21 h R hi hl hw hcs nxt)
      rcases j with _ | j
      · exact lv_tableIn (off := 1487) (tgt := 1527) hx hb dL_law_40 (by decide) (by decide) (by decide +kernel) (by decide) (lc_22 h R hi hl hw hcs nxt)
      rcases j with _ | j
      · exact lv_tableIn (off := 1512) (tgt := 1552) hx hb dL_law_40 (by decide) (by decide) (by decide +kernel) (by decide) (lc_23 h R hi hl hw hcs nxt)
      rcases j with _ | j
      · exact lv_tableIn (off := 1523) (tgt := 1563) hx hb dL_law_40 (by decide) (by decide) (by decide +kernel) (by decide) (lc_24 h R hi hl hw hcs nxt)
      rcases j with _ | j
      · exact lv_tableIn (off := 1579) (tgt := 1619) hx hb dL_law_40 (by decide) (by decide) (by decide +kernel) (by decide) (lc_25 h R hi hl hw hcs nxt)
      rcases j with _ | j
      · exact lv_tableIn (off := 1635) (tgt := 1675) hx hb dL_law_40 (by decide) (by decide) (by decide +kernel) (by decide) (lc_26 h R hi hl hw hcs nxt)
      rcases j with _ | j
      · exact lv_tableIn (off := 1679) (tgt := 1719) hx hb dL_law_40 (by decide) (by decide) (by decide +kernel) (by decide) (lc_27 h R hi hl hw hcs nxt)
      rcases j with _ | j
      · exact lv_tableIn (off := 1735) (tgt := 1775) hx hb dL_law_40 (by decide) (by decide) (by decide +kernel) (by decide) (lc_28 h R hi hl hw hcs nxt)
      rcases j with _ | j
      · exact lv_tableIn (off := 1760) (tgt := 1800) hx hb dL_law_40 (by decide) (by decide) (by decide +kernel) (by decide) (lc_29 h R hi hl hw hcs nxt)
      rcases j with _ | j
      · exact lv_tableIn (off := 1785) (tgt := 1825) hx hb dL_law_40 (by decide) (by decide) (by decide +kernel) (by decide) (lc_30 h R hi hl hw hcs nxt)
      rcases j with _ | j
      · exact lv_tableOut (tgt := 1838) hx hb dL_law_40 (by decide) (by decide) (W.widen (k := cells + 8) (n := slots + 48) (Nat.le_add_right _ _) (Nat.le_add_right _ _) (nxt f J w B I V Ar H locs ls R hl hw))
      · exact absurd hj (by omega)
end LOOP
