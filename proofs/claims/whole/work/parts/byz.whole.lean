/-! THE LAW'S START. -/
theorem lt_tw {w : Cond} (h : w ∈ tw) : w ∈ lw_tbl := (List.mem_filter.mp h).1
def g2 (c0 c1 c2 c3 c4 c5 c6 c7 : Nat) : Nat → Nat := fun k => match k with
  | 0 => c0
  | 1 => c1
  | 2 => c2
  | 3 => c3
  | 4 => c4
  | 5 => c5
  | 6 => c6
  | _ => c7
def g3 (i0 i1 i2 i3 i4 i5 i6 i7 : Nat → Nat) : Nat → Nat → Nat := fun k => match k with
  | 0 => i0
  | 1 => i1
  | 2 => i2
  | 3 => i3
  | 4 => i4
  | 5 => i5
  | 6 => i6
  | _ => i7
theorem ws_K {s : State} {b : Nat} (hts : ∀ w ∈ lw_tbl, w.before #[Value.ref b] s = true) : ∃ g : Wg, va_K g.1 vwCl (pw_ty g.2) s := by
  obtain ⟨c0, i0, k0⟩ := u_known (C := RX0) (T := TX0) (N := 8) (n := 8) hts (fun w h => lt_tw (iw_X0 w h)) (hts (.instantiable RX0 8) (lt_i 111 (by decide +kernel)))
  obtain ⟨c1, i1, k1⟩ := u_known (C := RX2) (T := TX2) (N := 12) (n := 12) hts (fun w h => lt_tw (iw_X2 w h)) (hts (.instantiable RX2 12) (lt_i 54 (by decide +kernel)))
  obtain ⟨c2, i2, k2⟩ := u_known (C := RX3) (T := TX3) (N := 7) (n := 7) hts (fun w h => lt_tw (iw_X3 w h)) (hts (.instantiable RX3 7) (lt_i 146 (by decide +kernel)))
  obtain ⟨c3, i3, k3⟩ := u_known (C := RX4) (T := TX4) (N := 7) (n := 7) hts (fun w h => lt_tw (iw_X4 w h)) (hts (.instantiable RX4 7) (lt_i 187 (by decide +kernel)))
  obtain ⟨c4, i4, k4⟩ := u_known (C := RX5) (T := TX5) (N := 3) (n := 3) hts (fun w h => lt_tw (iw_X5 w h)) (hts (.instantiable RX5 3) (lt_i 29 (by decide +kernel)))
  obtain ⟨c5, i5, k5⟩ := u_known (C := RX6) (T := TX6) (N := 10) (n := 10) hts (fun w h => lt_tw (iw_X6 w h)) (hts (.instantiable RX6 10) (lt_i 21 (by decide +kernel)))
  obtain ⟨c6, i6, k6⟩ := u_known (C := RX7) (T := TX7) (N := 13) (n := 13) hts (fun w h => lt_tw (iw_X7 w h)) (hts (.instantiable RX7 13) (lt_i 1009 (by decide +kernel)))
  obtain ⟨c7, i7, k7⟩ := u_known (C := RX8) (T := TX8) (N := 44) (n := 44) hts (fun w h => lt_tw (iw_X8 w h)) (hts (.instantiable RX8 44) (lt_i 999 (by decide +kernel)))
  obtain ⟨y0, a0, b0, e0, f0, h0⟩ := Cond.arrayClass_spec (hts (.arrayClass .byte) (lt_i 502 (by decide +kernel)))
  obtain ⟨y1, a1, b1, e1, f1, h1⟩ := Cond.arrayClass_spec (hts (.arrayClass .int) (lt_i 52 (by decide +kernel)))
  obtain ⟨y2, a2, b2, e2, f2, h2⟩ := Cond.arrayClass_spec (hts (.arrayClass .boolean) (lt_i 1208 (by decide +kernel)))
  obtain ⟨y3, a3, b3, e3, f3, h3⟩ := Cond.arrayClass_spec (hts (.arrayClass .long) (lt_i 1544 (by decide +kernel)))
  obtain ⟨b4, y4, a4, j4, -, f4, h4, e4⟩ := Cond.arrayOver_spec (hts (.arrayOver (.object "SpanShelves$Shelf")) (lt_i 109 (by decide +kernel)))
  obtain ⟨b5, y5, a5, j5, f5, h5, e5⟩ := Cond.arrayOver_specA (hts (.arrayOver (.array .byte)) (lt_i 1005 (by decide +kernel)))
  obtain ⟨b6, y6, a6, j6, f6, h6, e6⟩ := Cond.arrayOver_specA (hts (.arrayOver (.array .int)) (lt_i 1007 (by decide +kernel)))
  refine ⟨((g2 c0 c1 c2 c3 c4 c5 c6 c7, g3 i0 i1 i2 i3 i4 i5 i6 i7), g2 y0 y1 y2 y3 y4 y5 y6 0), fun c q hq => ?_, fun k q hq => ?_⟩
  · rcases c with _ | _ | _ | _ | _ | _ | _ | _ | c
    · cases hq; exact k0
    · cases hq; exact k1
    · cases hq; exact k2
    · cases hq; exact k3
    · cases hq; exact k4
    · cases hq; exact k5
    · cases hq; exact k6
    · cases hq; exact k7
    · cases hq
  · rcases k with _ | _ | _ | _ | _ | _ | _ | k
    · cases hq; exact ⟨fun N z => ⟨(fun k h => by cases h), a0, f0, b0, h0⟩, e0⟩
    · cases hq; exact ⟨fun N z => ⟨(fun k h => by cases h), a1, f1, b1, h1⟩, e1⟩
    · cases hq; exact ⟨fun N z => ⟨(fun k h => by cases h), a2, f2, b2, h2⟩, e2⟩
    · cases hq; exact ⟨fun N z => ⟨(fun k h => by cases h), a3, f3, b3, h3⟩, e3⟩
    · cases hq; exact ⟨fun N z => ⟨(fun k h => by cases h), a4, f4, b4, h4⟩, a4, b4, f4, h4, j4, e4⟩
    · cases hq; exact ⟨fun N z => ⟨(fun k h => by cases h), a5, f5, b5, h5⟩, e5⟩
    · cases hq; exact ⟨fun N z => ⟨(fun k h => by cases h), a6, f6, b6, h6⟩, e6⟩
    · cases hq
theorem ws_AW {s : State} {b : Nat} (hts : ∀ w ∈ lw_tbl, w.before #[Value.ref b] s = true) : AW s := by
  refine ⟨fun ty h => ?_, fun ty h => ?_⟩
  · simp only [List.mem_cons, List.mem_nil_iff, or_false] at h
    rcases h with rfl | rfl | rfl | rfl
    · exact SubstrLeaves.arrayClass_alike (Vm.Alike.refl s.vm) (hts (.arrayClass .int) (lt_i 52 (by decide +kernel)))
    · exact SubstrLeaves.arrayClass_alike (Vm.Alike.refl s.vm) (hts (.arrayClass .byte) (lt_i 502 (by decide +kernel)))
    · exact SubstrLeaves.arrayClass_alike (Vm.Alike.refl s.vm) (hts (.arrayClass .boolean) (lt_i 1208 (by decide +kernel)))
    · exact SubstrLeaves.arrayClass_alike (Vm.Alike.refl s.vm) (hts (.arrayClass .long) (lt_i 1544 (by decide +kernel)))
  · simp only [List.mem_cons, List.mem_nil_iff, or_false] at h
    rcases h with rfl | rfl | rfl
    · exact va_AO.of (hts (.arrayOver (.object "SpanShelves$Shelf")) (lt_i 109 (by decide +kernel)))
    · exact (hts (.arrayOver (.array .byte)) (lt_i 1005 (by decide +kernel)))
    · exact (hts (.arrayOver (.array .int)) (lt_i 1007 (by decide +kernel)))
theorem ws_str {s : State} {b : Nat} (hts : ∀ w ∈ lw_tbl, w.before #[Value.ref b] s = true) {cur : Nat} (hcur : s.vm.findClass "SpanShelves" = some cur) (i k : Nat) (t : String) (h : tables_1[i]? = some (.stringRef "SpanShelves" k t)) : ∃ sa, vk_R "SpanShelves" k t sa s := by
  have h1 := hts _ (lt_i i h)
  obtain ⟨-, -, -, sa, -, -, -, -, -, hev⟩ := Cond.stringRef_spec hcur h1
  exact ⟨sa, vk_R.of h1 hev⟩
theorem ws_XS {s : State} {b : Nat} (hts : ∀ w ∈ lw_tbl, w.before #[Value.ref b] s = true) (hgv : (Jvm.Cond.and given_1 narrow_1).before #[Value.ref b] s = true) {cur : Nat} (hcur : s.vm.findClass "SpanShelves" = some cur) {A : Nat → Prop} (hA : ∀ a : Nat, a < s.heap.size → ¬ A a) : XS A s s.heap := by
  have hs := flat_of_before _ hgv
  refine ⟨vx_Zqof (hts _ (lt_i 460 (by decide +kernel))) (hts _ (lt_i 12 (by decide +kernel))) (hs _ (by decide +kernel)) hA, vx_Zqof (hts _ (lt_i 462 (by decide +kernel))) (hts _ (lt_i 12 (by decide +kernel))) (hs _ (by decide +kernel)) hA, fun q hq => ?_⟩
  unfold xstrs at hq
  simp only [List.mem_cons, List.mem_nil_iff, or_false] at hq
  rcases hq with rfl | rfl | rfl | rfl | rfl | rfl | rfl | rfl | rfl | rfl
  · exact ws_str hts hcur 476 _ _ (by decide +kernel)
  · exact ws_str hts hcur 570 _ _ (by decide +kernel)
  · exact ws_str hts hcur 708 _ _ (by decide +kernel)
  · exact ws_str hts hcur 733 _ _ (by decide +kernel)
  · exact ws_str hts hcur 849 _ _ (by decide +kernel)
  · exact ws_str hts hcur 863 _ _ (by decide +kernel)
  · exact ws_str hts hcur 875 _ _ (by decide +kernel)
  · exact ws_str hts hcur 929 _ _ (by decide +kernel)
  · exact ws_str hts hcur 956 _ _ (by decide +kernel)
  · exact ws_str hts hcur 992 _ _ (by decide +kernel)
theorem ws_NC {s : State} {b : Nat} (hgv : (Jvm.Cond.and given_1 narrow_1).before #[Value.ref b] s = true) : NC s := by
  have hs := flat_of_before _ hgv
  intro E hE nm hn hne
  unfold EXN at hE hn
  simp only [List.mem_cons, List.mem_nil_iff, or_false] at hE hn
  rcases hE with rfl | rfl | rfl | rfl | rfl <;> rcases hn with rfl | rfl | rfl | rfl | rfl <;> first | exact absurd rfl hne | exact va_Nc.of (hs _ (by decide +kernel))
theorem cn_L_8 : CNW RL 8 5 [.null, .null, .null, .null, .null, .null, .null, .int 0, .int 0, .int 0] := ⟨RX6, TX6, 10, tyX6, rfl, iw_X6, tyX6_ok, tw_t 20 (by decide +kernel) (by decide +kernel), tw_t 21 (by decide +kernel) (by decide +kernel), tw_t 1 (by decide +kernel) (by decide +kernel), rfl, by decide +kernel⟩
theorem cn_L_94 : CNW RL 94 7 [.int 0, .null, .int 0, .int 0, .int 0, .null, .null, .null, .null, .null, .null, .int 0, .int 0, .int 0, .null, .null, .null, .null, .null, .null, .null, .null, .null, .null, .int 0, .int 0, .null, .int 0, .int 0, .int 0, .null, .int 0, .int 0, .int 0, .int 0, .null, .null, .int 0, .int 0, .int 0, .int 0, .null, .int 0, .null] := ⟨RX8, TX8, 44, tyX8, rfl, iw_X8, tyX8_ok, tw_t 998 (by decide +kernel) (by decide +kernel), tw_t 999 (by decide +kernel) (by decide +kernel), tw_t 10 (by decide +kernel) (by decide +kernel), rfl, by decide +kernel⟩
theorem mi_X6_init : MIN yX6_init cX6_init 5 0 := ⟨tw_t 23 (by decide +kernel) (by decide +kernel), tw_t 24 (by decide +kernel) (by decide +kernel), tw_t 1 (by decide +kernel) (by decide +kernel), by decide +kernel, by decide +kernel, by decide +kernel, rfl⟩
theorem mi_X8_init : MIN yX8_init cX8_init 2 0 := ⟨tw_t 1001 (by decide +kernel) (by decide +kernel), tw_t 1002 (by decide +kernel) (by decide +kernel), tw_t 10 (by decide +kernel) (by decide +kernel), by decide +kernel, by decide +kernel, by decide +kernel, rfl⟩
def mJ : Mem := fun _ => jk
def m6 (cy : Nat → ClassId) (z : Nat) : Mem := MZL z mJ (l6 cy z)
def m8 (cy : Nat → ClassId) (z : Nat) : Mem := MZL (z + 64) (m6 cy z) (l8 cy (z + 64))
def mF (cy : Nat → ClassId) (z : Nat) : Mem := va_up (m8 cy z) (z + 116) (ouE cy (fun _ => 0))
theorem MZL_0 {z : Nat} {μ0 : Mem} : MZL z μ0 [] = μ0 := by
  funext q
  unfold MZL
  rw [if_neg (by simp)]
theorem q6 {cy : Nat → ClassId} {z : Nat} : f_X6_init cy (z + 1) (z + 0) (va_up mJ (z + 0) (.inr (5, [.null, .null, .null, .null, .null, .null, .null, .int 0, .int 0, .int 0]))) = some (m6 cy z) := by
  have e : va_up mJ (z + 0) (.inr (5, [.null, .null, .null, .null, .null, .null, .null, .int 0, .int 0, .int 0])) = MZL z mJ [.inr (5, [.null, .null, .null, .null, .null, .null, .null, .int 0, .int 0, .int 0])] := by
    have := MZL_push (z := z) (μ0 := mJ) (l := []) (k := 0) (e := .inr (5, [.null, .null, .null, .null, .null, .null, .null, .int 0, .int 0, .int 0])) rfl
    rw [MZL_0] at this
    exact this
  rw [e]
  exact n_init6
theorem q8 {cy : Nat → ClassId} {z : Nat} : f_X8_init cy (z + 65) (z + 64) (va_up (m6 cy z) (z + 64) (.inr (7, [.int 0, .null, .int 0, .int 0, .int 0, .null, .null, .null, .null, .null, .null, .int 0, .int 0, .int 0, .null, .null, .null, .null, .null, .null, .null, .null, .null, .null, .int 0, .int 0, .null, .int 0, .int 0, .int 0, .null, .int 0, .int 0, .int 0, .int 0, .null, .null, .int 0, .int 0, .int 0, .int 0, .null, .int 0, .null]))) = some (m8 cy z) := by
  have e : ∀ x, va_up (m6 cy z) (z + 64) x = MZL (z + 64) (m6 cy z) [x] := by
    intro x
    have := MZL_push (z := z + 64) (μ0 := m6 cy z) (l := []) (k := 0) (e := x) rfl
    rw [MZL_0] at this
    exact this
  rw [e]
  exact n_init8
theorem l6_len (cy : Nat → ClassId) (w : Nat) : (l6 cy w).length = 64 := rfl
theorem l8_len (cy : Nat → ClassId) (w : Nat) : (l8 cy w).length = 52 := rfl
theorem sw_ok (cy : Nat → ClassId) (z : Nat) : ∀ q, ceq (mF cy z q) (LM cy z (mF cy z) (fun _ => 0) J0 (z + 8) B0 I0 V0 A0 q) := by
  intro q
  have hb : LMb cy z (mF cy z) (fun _ => 0) = mF cy z := by
    funext r
    unfold LMb
    by_cases h : r = z + 116
    · subst h
      rw [va_up_self]
      exact (va_up_self _ _ _).symm
    · rw [va_up_ne _ _ h]
  unfold LM
  rw [hb]
  cases h6 : iv6 z q with
  | some j =>
    have e : MC cy (iv6 z) (ad6 z) (MR cy (iv8 (z + 64)) (ad8 z) (mF cy z) I0 V0 A0) J0 (z + 8) B0 q = c6 cy (ad6 z) J0 (z + 8) B0 j := by
      show ML _ _ _ q = _
      unfold ML
      rw [h6]
    rw [e]
    unfold iv6 at h6
    split at h6
    · rename_i c1
      split at h6
      · rename_i c2
        cases h6
        obtain ⟨x, hx, hc⟩ := c6_ok cy z (q - z) (by omega) c2
        have ev : mF cy z q = x := by
          unfold mF
          rw [va_up_ne _ _ (by omega)]
          unfold m8 MZL
          rw [if_neg (by omega)]
          have := MZL_at (z := z) (μ0 := mJ) hx
          rw [show z + (q - z) = q by omega] at this
          exact this
        rw [ev]
        exact hc
      · cases h6
    · cases h6
  | none =>
    have e : MC cy (iv6 z) (ad6 z) (MR cy (iv8 (z + 64)) (ad8 z) (mF cy z) I0 V0 A0) J0 (z + 8) B0 q = MR cy (iv8 (z + 64)) (ad8 z) (mF cy z) I0 V0 A0 q := by
      show ML _ _ _ q = _
      unfold ML
      rw [h6]
    rw [e]
    cases h8 : iv8 (z + 64) q with
    | none =>
      have e2 : MR cy (iv8 (z + 64)) (ad8 z) (mF cy z) I0 V0 A0 q = mF cy z q := by
        show ML _ _ _ q = _
        unfold ML
        rw [h8]
      rw [e2]
      exact Or.inl rfl
    | some j =>
      have e2 : MR cy (iv8 (z + 64)) (ad8 z) (mF cy z) I0 V0 A0 q = c8 cy (ad8 z) I0 V0 A0 j := by
        show ML _ _ _ q = _
        unfold ML
        rw [h8]
      rw [e2]
      unfold iv8 at h8
      split at h8
      · rename_i c1
        split at h8
        · rename_i c2
          cases h8
          obtain ⟨x, hx, hc⟩ := c8_ok cy (z + 64) (q - (z + 64)) (by omega)
          have ev : mF cy z q = x := by
            unfold mF
            rw [va_up_ne _ _ (by omega)]
            have := MZL_at (z := z + 64) (μ0 := m6 cy z) hx
            rw [show z + 64 + (q - (z + 64)) = q by omega] at this
            exact this
          rw [ev]
          exact hc
        · cases h8
      · cases h8
set_option maxRecDepth 100000 in
set_option maxHeartbeats 4000000 in
theorem whole_start {p : Program} {e : Env} {s : State} {m : MethodId} {below : List Frame} {meth : Method} {c : Code} (l : Launch) (hl0 : l.stackTraces = false) {b L : Nat} {xs : Nat → Int32} (hL : L ≤ 3072) (C0 : lw_At p s m meth c b L xs) : W p l e room_1 s m #[Value.ref b] below meth c s.heap [] 0 0 (lw_Z below #[Value.ref b] s) (entryFrame m ([Value.ref b] : List Value).toArray 8) := by
  obtain ⟨hx, hb, hr, hml, hown, hts, hXs, hbl, hlocks, hgv⟩ := C0
  obtain ⟨g, hK⟩ := ws_K hts
  have hAW := ws_AW hts
  have hNC := ws_NC hgv
  have hTB : TB s := tb_of (a := #[Value.ref b]) (fun w hw => hts w (lt_tw hw))
  obtain ⟨z, hz⟩ : ∃ z, s.heap.size = z := ⟨_, rfl⟩
  have hX : XS (fun q => s.heap.size ≤ q) s s.heap := ws_XS hts hgv (hK.1 5 _ rfl).2.1 (fun a h1 h2 => by omega)
  have hC : CX p m c cL_law 8 s #[Value.ref b] RL := ⟨hx, hb, hml, hown, fun w hw => hts w (lt_tw hw)⟩
  have h0 : LC p l s m #[Value.ref b] c (fun q => s.heap.size ≤ q) g b L xs := ⟨hC, hl0, hX, hNC, hXs, hbl, fun h => by omega⟩
  have hw : PW g (LZ [] z 0) mJ (fun q => s.heap.size ≤ q) s s.heap [] := ⟨fun k q hq => (by simp [LZ, va_pl] at hq), ⟨fun i j p q hp => (by simp [LZ, va_pl] at hp), fun k q hq => (by simp [LZ, va_pl] at hq)⟩, hK, va_S.rf, fun _ _ => rfl, fun q h => h, hTB⟩
  rw [lg_entry_eq]
  have hl := lv_entry [Value.ref b] (n := 8) (Nat.le_of_ble_eq_true rfl)
  generalize (lg_sl ([Value.ref b]) ++ List.replicate (8 - (lg_sl ([Value.ref b])).length) Slot.unset).toArray = ls at hl ⊢
  have hl : lv_has ls 8 [(0, .ref b)] := hl
  refine pz_new (k := 0) (k' := 1) (slots' := 10) hC cn_L_8 hz hw rfl rfl (by decide) (by decide) dL_law_0 (fun H hw => ?_)
  refine lv_dup hx hb dL_law_3 rfl ?_
  refine pz_runI (k := 1) (k' := 64) (slots' := 25128) (As := []) (rest := [.ref (z + 0)]) hC hAW mi_X6_init (Or.inl (tw_t 22 (by decide +kernel) (by decide +kernel))) hz hw (c_X6_init q6) ⟨by decide, by decide⟩ rfl hl.1 (Nat.le_of_ble_eq_true rfl) rfl rfl ⟨by decide, by decide⟩ rfl dL_law_4 (fun H locs hw => ?_)
  refine lv_astore_n (lv' := [(1, .ref (z + 0)), (0, .ref b)]) hx hb dL_law_7 rfl hl (by decide) rfl (fun ls hl => ?_)
  refine pz_new (k := 64) (k' := 65) (slots' := 25172) hC cn_L_94 hz hw rfl rfl (by decide) (by decide) dL_law_8 (fun H hw => ?_)
  refine lv_dup hx hb dL_law_11 rfl ?_
  refine pz_runI (k := 65) (k' := 116) (slots' := 85782) (As := []) (rest := [.ref (z + 64)]) hC hAW mi_X8_init (Or.inl (tw_t 1000 (by decide +kernel) (by decide +kernel))) hz hw (c_X8_init q8) ⟨by decide, by decide⟩ rfl hl.1 (Nat.le_of_ble_eq_true rfl) rfl rfl ⟨by decide, by decide⟩ rfl dL_law_12 (fun H locs hw => ?_)
  refine lv_astore_n (lv' := [(2, .ref (z + 64)), (1, .ref (z + 0)), (0, .ref b)]) hx hb dL_law_15 rfl hl (by decide) rfl (fun ls hl => ?_)
  refine lv_iconst (v := 1) hx hb dL_law_16 nc_iconst_1 ?_
  refine pz_newa (k := 116) (k' := 117) (slots' := 85783) (N := 1) (atype := .long) hC hAW 3 trivial hz hw (by decide +kernel) (by decide +kernel) (by decide) rfl rfl (by decide) (by decide) dL_law_17 (fun H hw => ?_)
  refine lv_astore_n (lv' := [(3, .ref (z + 116)), (2, .ref (z + 64)), (1, .ref (z + 0)), (0, .ref b)]) hx hb dL_law_19 rfl hl (by decide) rfl (fun ls hl => ?_)
  refine lv_iconst (v := 0) hx hb dL_law_20 nc_iconst_0 ?_
  refine lv_istore (lv' := [(4, .int 0), (3, .ref (z + 116)), (2, .ref (z + 64)), (1, .ref (z + 0)), (0, .ref b)]) hx hb dL_law_21 hl (by decide) rfl (fun ls hl => ?_)
  have hw2 : PW g (LZ [] z 117) (mF g.2 z) (fun q => s.heap.size ≤ q) s H locs := hw
  exact lw_loop (z := z) (μb := mF g.2 z) h0 hr hlocks (fun q h => h) hL 512 0 (fun _ => 0) J0 (z + 8) B0 I0 V0 A0 H locs 117 85783 ls (by omega) (by decide) rel0 (lv_sub hl [4, 3, 2, 1, 0] rfl) (hw2.swap (sw_ok g.2 z)) (by decide) (by decide)
